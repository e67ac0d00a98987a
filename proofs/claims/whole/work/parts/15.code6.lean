set_option maxRecDepth 20000 in
set_option maxHeartbeats 4000000 in
theorem en_RF_receipt_IIII (g : Gc) {lv : Nat} {t : Nat} {l1 : Int32} {l2 : Int32} {l3 : Int32} {l4 : Int32} {m : Mm} {Q : Int32 → Mm → Prop} (h : mK m t = 13 ∧ (∃ b2, mR m t 33 = some b2 ∧ (mK m b2 = 15 ∧ (vp_in l1 (mN m b2) ∧ (∃ b6, mR m t 40 = some b6 ∧ (mK m b6 = 15 ∧ (vp_in (((400 : Int32) * l1) + (mI m b2 l1.toNatClampNeg)) (mN m b6) ∧ (∀ m10, m10 = sI m b6 (((400 : Int32) * l1) + (mI m b2 l1.toNatClampNeg)).toNatClampNeg l2 → (∃ b15, mR m10 t 41 = some b15 ∧ (mK m10 b15 = 15 ∧ (vp_in (((400 : Int32) * l1) + (mI m b2 l1.toNatClampNeg)) (mN m10 b15) ∧ (∀ m19, m19 = sI m10 b15 (((400 : Int32) * l1) + (mI m b2 l1.toNatClampNeg)).toNatClampNeg l3 → (∃ b25, mR m19 t 42 = some b25 ∧ (mK m19 b25 = 15 ∧ (vp_in (((400 : Int32) * l1) + (mI m b2 l1.toNatClampNeg)) (mN m19 b25) ∧ (∀ m29, m29 = sI m19 b25 (((400 : Int32) * l1) + (mI m b2 l1.toNatClampNeg)).toNatClampNeg l4 → (∃ b36, mR m29 t 33 = some b36 ∧ (mK m29 b36 = 15 ∧ (vp_in l1 (mN m29 b36) ∧ (vp_in l1 (mN m29 b36) ∧ (∀ m41, m41 = sI m29 b36 l1.toNatClampNeg ((mI m29 b36 l1.toNatClampNeg) + (1 : Int32)) → (if (l1) = 0 then (∃ b54, mR m41 t 44 = some b54 ∧ (mK m41 b54 = 15 ∧ (vp_in ((2 : Int32) * (((400 : Int32) * l1) + (mI m b2 l1.toNatClampNeg))) (mN m41 b54) ∧ (∀ m58, m58 = sI m41 b54 ((2 : Int32) * (((400 : Int32) * l1) + (mI m b2 l1.toNatClampNeg))).toNatClampNeg (-1 : Int32) → (∃ b67, mR m58 t 44 = some b67 ∧ (mK m58 b67 = 15 ∧ (vp_in (((2 : Int32) * (((400 : Int32) * l1) + (mI m b2 l1.toNatClampNeg))) + (1 : Int32)) (mN m58 b67) ∧ (∀ m71, m71 = sI m58 b67 (((2 : Int32) * (((400 : Int32) * l1) + (mI m b2 l1.toNatClampNeg))) + (1 : Int32)).toNatClampNeg (-1 : Int32) → (∃ b81, mR m71 t 33 = some b81 ∧ (mK m71 b81 = 15 ∧ (vp_in l1 (mN m71 b81) ∧ (Q ((mI m71 b81 l1.toNatClampNeg) - (1 : Int32)) m71)))))))))))) else (∃ b50, mR m41 t 33 = some b50 ∧ (mK m41 b50 = 15 ∧ (vp_in l1 (mN m41 b50) ∧ (Q ((mI m41 b50 l1.toNatClampNeg) - (1 : Int32)) m41)))))))))))))))))))))))))) : CI g M_RF_receipt_IIII (lv + 1) [va_rf (some t), .int (l1), .int (l2), .int (l3), .int (l4)] m Q := by
  refine Call.of (by decide +kernel) (Nat.le_of_ble_eq_true rfl) ?_
  show At g M_RF_receipt_IIII (lv + 1) 0 [(0, va_rf (some t)), (1, .int (l1)), (2, .int (l2)), (3, .int (l3)), (4, .int (l4))] [] m (QI Q)
  refine at_sipush (n := 400) (400 : Int32) 3 rfl (by decide +kernel) (by decide +kernel) ?_
  refine at_iload_n (i := 1) 1 4 rfl (by decide +kernel) rfl ?_
  refine at_imul 5 rfl (by decide +kernel) ?_
  refine at_aload_n (i := 0) 0 6 rfl (by decide +kernel) rfl ?_
  obtain ⟨k1, h⟩ := h
  refine at_get (index := 101) (v := va_rf (mR m t 33)) cok12 33 9 rfl (by decide +kernel) k1 (by decide +kernel) tw_1118 rfl ?_
  refine at_iload_n (i := 1) 1 10 rfl (by decide +kernel) rfl ?_
  obtain ⟨b2, e3, h⟩ := h
  rw [e3]
  obtain ⟨k4, h⟩ := h
  obtain ⟨v5, h⟩ := h
  refine at_iald 11 rfl (by decide +kernel) k4 v5 ?_
  refine at_iadd 12 rfl (by decide +kernel) ?_
  refine at_istore (i := 5) (lc' := [(0, va_rf (some t)), (1, .int (l1)), (2, .int (l2)), (3, .int (l3)), (4, .int (l4)), (5, .int (((400 : Int32) * l1) + (mI m b2 l1.toNatClampNeg)))]) [1, 2, 3, 4, 5, 0] 14 rfl (by decide +kernel) (by decide +kernel) rfl ?_
  refine at_aload_n (i := 0) 0 15 rfl (by decide +kernel) rfl ?_
  refine at_get (index := 122) (v := va_rf (mR m t 40)) cok12 40 18 rfl (by decide +kernel) k1 (by decide +kernel) tw_1125 rfl ?_
  refine at_iload (i := 5) 5 20 rfl (by decide +kernel) rfl ?_
  refine at_iload_n (i := 2) 2 21 rfl (by decide +kernel) rfl ?_
  obtain ⟨b6, e7, h⟩ := h
  rw [e7]
  obtain ⟨k8, h⟩ := h
  obtain ⟨v9, h⟩ := h
  refine at_iast 22 rfl (by decide +kernel) k8 v9 (fun m10 e11 => ?_)
  replace h := h m10 e11
  have k12 : mK m10 t = 13 := by rw [e11]; exact k1
  have k13 : mK m10 b2 = 15 := by rw [e11]; exact k4
  have k14 : mK m10 b6 = 15 := by rw [e11]; exact k8
  refine at_aload_n (i := 0) 0 23 rfl (by decide +kernel) rfl ?_
  refine at_get (index := 125) (v := va_rf (mR m10 t 41)) cok12 41 26 rfl (by decide +kernel) k12 (by decide +kernel) tw_1126 rfl ?_
  refine at_iload (i := 5) 5 28 rfl (by decide +kernel) rfl ?_
  refine at_iload_n (i := 3) 3 29 rfl (by decide +kernel) rfl ?_
  obtain ⟨b15, e16, h⟩ := h
  rw [e16]
  obtain ⟨k17, h⟩ := h
  obtain ⟨v18, h⟩ := h
  refine at_iast 30 rfl (by decide +kernel) k17 v18 (fun m19 e20 => ?_)
  replace h := h m19 e20
  have k21 : mK m19 t = 13 := by rw [e20]; exact k12
  have k22 : mK m19 b2 = 15 := by rw [e20]; exact k13
  have k23 : mK m19 b6 = 15 := by rw [e20]; exact k14
  have k24 : mK m19 b15 = 15 := by rw [e20]; exact k17
  refine at_aload_n (i := 0) 0 31 rfl (by decide +kernel) rfl ?_
  refine at_get (index := 128) (v := va_rf (mR m19 t 42)) cok12 42 34 rfl (by decide +kernel) k21 (by decide +kernel) tw_1127 rfl ?_
  refine at_iload (i := 5) 5 36 rfl (by decide +kernel) rfl ?_
  refine at_iload (i := 4) 4 38 rfl (by decide +kernel) rfl ?_
  obtain ⟨b25, e26, h⟩ := h
  rw [e26]
  obtain ⟨k27, h⟩ := h
  obtain ⟨v28, h⟩ := h
  refine at_iast 39 rfl (by decide +kernel) k27 v28 (fun m29 e30 => ?_)
  replace h := h m29 e30
  have k31 : mK m29 t = 13 := by rw [e30]; exact k21
  have k32 : mK m29 b2 = 15 := by rw [e30]; exact k22
  have k33 : mK m29 b6 = 15 := by rw [e30]; exact k23
  have k34 : mK m29 b15 = 15 := by rw [e30]; exact k24
  have k35 : mK m29 b25 = 15 := by rw [e30]; exact k27
  refine at_aload_n (i := 0) 0 40 rfl (by decide +kernel) rfl ?_
  refine at_get (index := 101) (v := va_rf (mR m29 t 33)) cok12 33 43 rfl (by decide +kernel) k31 (by decide +kernel) tw_1118 rfl ?_
  refine at_iload_n (i := 1) 1 44 rfl (by decide +kernel) rfl ?_
  refine at_dup2_11 45 rfl (by decide +kernel) rfl (va_rf_cat _) ?_
  obtain ⟨b36, e37, h⟩ := h
  rw [e37]
  obtain ⟨k38, h⟩ := h
  obtain ⟨v39, h⟩ := h
  refine at_iald 46 rfl (by decide +kernel) k38 v39 ?_
  refine at_iconst (n := 1) (1 : Int32) 47 rfl (by decide +kernel) (by decide +kernel) ?_
  refine at_iadd 48 rfl (by decide +kernel) ?_
  obtain ⟨v40, h⟩ := h
  refine at_iast 49 rfl (by decide +kernel) k38 v40 (fun m41 e42 => ?_)
  replace h := h m41 e42
  have k43 : mK m41 t = 13 := by rw [e42]; exact k31
  have k44 : mK m41 b2 = 15 := by rw [e42]; exact k32
  have k45 : mK m41 b6 = 15 := by rw [e42]; exact k33
  have k46 : mK m41 b15 = 15 := by rw [e42]; exact k34
  have k47 : mK m41 b25 = 15 := by rw [e42]; exact k35
  have k48 : mK m41 b36 = 15 := by rw [e42]; exact k38
  refine at_iload_n (i := 1) 1 50 rfl (by decide +kernel) rfl ?_
  refine at_if_ne (off := 25) 75 53 rfl (by decide +kernel) (by decide +kernel) (fun c49 => ?_) (fun c49 => ?_)
  · rw [if_neg c49] at h
    refine at_aload_n (i := 0) 0 76 rfl (by decide +kernel) rfl ?_
    refine at_get (index := 101) (v := va_rf (mR m41 t 33)) cok12 33 79 rfl (by decide +kernel) k43 (by decide +kernel) tw_1118 rfl ?_
    refine at_iload_n (i := 1) 1 80 rfl (by decide +kernel) rfl ?_
    obtain ⟨b50, e51, h⟩ := h
    rw [e51]
    obtain ⟨k52, h⟩ := h
    obtain ⟨v53, h⟩ := h
    refine at_iald 81 rfl (by decide +kernel) k52 v53 ?_
    refine at_iconst (n := 1) (1 : Int32) 82 rfl (by decide +kernel) (by decide +kernel) ?_
    refine at_isub 83 rfl (by decide +kernel) ?_
    exact at_iret rfl (by decide +kernel) h
  · rw [if_pos c49] at h
    refine at_aload_n (i := 0) 0 54 rfl (by decide +kernel) rfl ?_
    refine at_get (index := 134) (v := va_rf (mR m41 t 44)) cok12 44 57 rfl (by decide +kernel) k43 (by decide +kernel) tw_1129 rfl ?_
    refine at_iconst (n := 2) (2 : Int32) 58 rfl (by decide +kernel) (by decide +kernel) ?_
    refine at_iload (i := 5) 5 60 rfl (by decide +kernel) rfl ?_
    refine at_imul 61 rfl (by decide +kernel) ?_
    refine at_iconst (n := (-1)) (-1 : Int32) 62 rfl (by decide +kernel) (by decide +kernel) ?_
    obtain ⟨b54, e55, h⟩ := h
    rw [e55]
    obtain ⟨k56, h⟩ := h
    obtain ⟨v57, h⟩ := h
    refine at_iast 63 rfl (by decide +kernel) k56 v57 (fun m58 e59 => ?_)
    replace h := h m58 e59
    have k60 : mK m58 t = 13 := by rw [e59]; exact k43
    have k61 : mK m58 b2 = 15 := by rw [e59]; exact k44
    have k62 : mK m58 b6 = 15 := by rw [e59]; exact k45
    have k63 : mK m58 b15 = 15 := by rw [e59]; exact k46
    have k64 : mK m58 b25 = 15 := by rw [e59]; exact k47
    have k65 : mK m58 b36 = 15 := by rw [e59]; exact k48
    have k66 : mK m58 b54 = 15 := by rw [e59]; exact k56
    refine at_aload_n (i := 0) 0 64 rfl (by decide +kernel) rfl ?_
    refine at_get (index := 134) (v := va_rf (mR m58 t 44)) cok12 44 67 rfl (by decide +kernel) k60 (by decide +kernel) tw_1129 rfl ?_
    refine at_iconst (n := 2) (2 : Int32) 68 rfl (by decide +kernel) (by decide +kernel) ?_
    refine at_iload (i := 5) 5 70 rfl (by decide +kernel) rfl ?_
    refine at_imul 71 rfl (by decide +kernel) ?_
    refine at_iconst (n := 1) (1 : Int32) 72 rfl (by decide +kernel) (by decide +kernel) ?_
    refine at_iadd 73 rfl (by decide +kernel) ?_
    refine at_iconst (n := (-1)) (-1 : Int32) 74 rfl (by decide +kernel) (by decide +kernel) ?_
    obtain ⟨b67, e68, h⟩ := h
    rw [e68]
    obtain ⟨k69, h⟩ := h
    obtain ⟨v70, h⟩ := h
    refine at_iast 75 rfl (by decide +kernel) k69 v70 (fun m71 e72 => ?_)
    replace h := h m71 e72
    have k73 : mK m71 t = 13 := by rw [e72]; exact k60
    have k74 : mK m71 b2 = 15 := by rw [e72]; exact k61
    have k75 : mK m71 b6 = 15 := by rw [e72]; exact k62
    have k76 : mK m71 b15 = 15 := by rw [e72]; exact k63
    have k77 : mK m71 b25 = 15 := by rw [e72]; exact k64
    have k78 : mK m71 b36 = 15 := by rw [e72]; exact k65
    have k79 : mK m71 b54 = 15 := by rw [e72]; exact k66
    have k80 : mK m71 b67 = 15 := by rw [e72]; exact k69
    refine at_aload_n (i := 0) 0 76 rfl (by decide +kernel) rfl ?_
    refine at_get (index := 101) (v := va_rf (mR m71 t 33)) cok12 33 79 rfl (by decide +kernel) k73 (by decide +kernel) tw_1118 rfl ?_
    refine at_iload_n (i := 1) 1 80 rfl (by decide +kernel) rfl ?_
    obtain ⟨b81, e82, h⟩ := h
    rw [e82]
    obtain ⟨k83, h⟩ := h
    obtain ⟨v84, h⟩ := h
    refine at_iald 81 rfl (by decide +kernel) k83 v84 ?_
    refine at_iconst (n := 1) (1 : Int32) 82 rfl (by decide +kernel) (by decide +kernel) ?_
    refine at_isub 83 rfl (by decide +kernel) ?_
    exact at_iret rfl (by decide +kernel) h
set_option maxRecDepth 20000 in
set_option maxHeartbeats 4000000 in
theorem en_RF_sold (g : Gc) {lv : Nat} {t : Nat} {l1 : Int32} {l2 : Int32} {l3 : Int32} {l4 : Int32} {l5 : Int32} {m : Mm} {Q : Mm → Prop} (h : mK m t = 13 ∧ (∃ b2, mR m t 41 = some b2 ∧ (mK m b2 = 15 ∧ (vp_in (((400 : Int32) * l1) + l2) (mN m b2) ∧ (vp_in (((400 : Int32) * l1) + l2) (mN m b2) ∧ (∀ m7, m7 = sI m b2 (((400 : Int32) * l1) + l2).toNatClampNeg ((mI m b2 (((400 : Int32) * l1) + l2).toNatClampNeg) - l3) → (∃ b11, mR m7 t 40 = some b11 ∧ (mK m7 b11 = 15 ∧ (vp_in (((400 : Int32) * l1) + l2) (mN m7 b11) ∧ (∃ b15, mR m7 t 39 = some b15 ∧ (mK m7 b15 = 16 ∧ (vp_in (((15 : Int32) * l1) + (mI m7 b11 (((400 : Int32) * l1) + l2).toNatClampNeg)) (mN m7 b15) ∧ (vp_in (((15 : Int32) * l1) + (mI m7 b11 (((400 : Int32) * l1) + l2).toNatClampNeg)) (mN m7 b15) ∧ (∀ m20, m20 = sL m7 b15 (((15 : Int32) * l1) + (mI m7 b11 (((400 : Int32) * l1) + l2).toNatClampNeg)).toNatClampNeg ((mL m7 b15 (((15 : Int32) * l1) + (mI m7 b11 (((400 : Int32) * l1) + l2).toNatClampNeg)).toNatClampNeg) + (l3.toInt64 * l4.toInt64)) → (∃ b26, mR m20 t 43 = some b26 ∧ (mK m20 b26 = 16 ∧ (vp_in (((8 : Int32) * l1) + l5) (mN m20 b26) ∧ (vp_in (((8 : Int32) * l1) + l5) (mN m20 b26) ∧ (∀ m31, m31 = sL m20 b26 (((8 : Int32) * l1) + l5).toNatClampNeg ((mL m20 b26 (((8 : Int32) * l1) + l5).toNatClampNeg) + l3.toInt64) → (Q m31)))))))))))))))))))) : CV g M_RF_sold (lv + 1) [va_rf (some t), .int (l1), .int (l2), .int (l3), .int (l4), .int (l5)] m Q := by
  refine Call.of (by decide +kernel) (Nat.le_of_ble_eq_true rfl) ?_
  show At g M_RF_sold (lv + 1) 0 [(0, va_rf (some t)), (1, .int (l1)), (2, .int (l2)), (3, .int (l3)), (4, .int (l4)), (5, .int (l5))] [] m (QV Q)
  refine at_sipush (n := 400) (400 : Int32) 3 rfl (by decide +kernel) (by decide +kernel) ?_
  refine at_iload_n (i := 1) 1 4 rfl (by decide +kernel) rfl ?_
  refine at_imul 5 rfl (by decide +kernel) ?_
  refine at_iload_n (i := 2) 2 6 rfl (by decide +kernel) rfl ?_
  refine at_iadd 7 rfl (by decide +kernel) ?_
  refine at_istore (i := 6) (lc' := [(0, va_rf (some t)), (1, .int (l1)), (3, .int (l3)), (4, .int (l4)), (5, .int (l5)), (6, .int (((400 : Int32) * l1) + l2))]) [1, 2, 4, 5, 6, 0] 9 rfl (by decide +kernel) (by decide +kernel) rfl ?_
  refine at_aload_n (i := 0) 0 10 rfl (by decide +kernel) rfl ?_
  obtain ⟨k1, h⟩ := h
  refine at_get (index := 125) (v := va_rf (mR m t 41)) cok12 41 13 rfl (by decide +kernel) k1 (by decide +kernel) tw_1126 rfl ?_
  refine at_iload (i := 6) 5 15 rfl (by decide +kernel) rfl ?_
  refine at_dup2_11 16 rfl (by decide +kernel) rfl (va_rf_cat _) ?_
  obtain ⟨b2, e3, h⟩ := h
  rw [e3]
  obtain ⟨k4, h⟩ := h
  obtain ⟨v5, h⟩ := h
  refine at_iald 17 rfl (by decide +kernel) k4 v5 ?_
  refine at_iload_n (i := 3) 2 18 rfl (by decide +kernel) rfl ?_
  refine at_isub 19 rfl (by decide +kernel) ?_
  obtain ⟨v6, h⟩ := h
  refine at_iast 20 rfl (by decide +kernel) k4 v6 (fun m7 e8 => ?_)
  replace h := h m7 e8
  have k9 : mK m7 t = 13 := by rw [e8]; exact k1
  have k10 : mK m7 b2 = 15 := by rw [e8]; exact k4
  refine at_aload_n (i := 0) 0 21 rfl (by decide +kernel) rfl ?_
  refine at_get (index := 119) (v := va_rf (mR m7 t 39)) cok12 39 24 rfl (by decide +kernel) k9 (by decide +kernel) tw_1124 rfl ?_
  refine at_bipush (n := 15) (15 : Int32) 26 rfl (by decide +kernel) (by decide +kernel) ?_
  refine at_iload_n (i := 1) 1 27 rfl (by decide +kernel) rfl ?_
  refine at_imul 28 rfl (by decide +kernel) ?_
  refine at_aload_n (i := 0) 0 29 rfl (by decide +kernel) rfl ?_
  refine at_get (index := 122) (v := va_rf (mR m7 t 40)) cok12 40 32 rfl (by decide +kernel) k9 (by decide +kernel) tw_1125 rfl ?_
  refine at_iload (i := 6) 5 34 rfl (by decide +kernel) rfl ?_
  obtain ⟨b11, e12, h⟩ := h
  rw [e12]
  obtain ⟨k13, h⟩ := h
  obtain ⟨v14, h⟩ := h
  refine at_iald 35 rfl (by decide +kernel) k13 v14 ?_
  refine at_iadd 36 rfl (by decide +kernel) ?_
  refine at_dup2_11 37 rfl (by decide +kernel) rfl (va_rf_cat _) ?_
  obtain ⟨b15, e16, h⟩ := h
  rw [e16]
  obtain ⟨k17, h⟩ := h
  obtain ⟨v18, h⟩ := h
  refine at_lald 38 rfl (by decide +kernel) k17 v18 ?_
  refine at_iload_n (i := 3) 2 39 rfl (by decide +kernel) rfl ?_
  refine at_i2l 40 rfl (by decide +kernel) ?_
  refine at_iload (i := 4) 3 42 rfl (by decide +kernel) rfl ?_
  refine at_i2l 43 rfl (by decide +kernel) ?_
  refine at_lmul 44 rfl (by decide +kernel) ?_
  refine at_ladd 45 rfl (by decide +kernel) ?_
  obtain ⟨v19, h⟩ := h
  refine at_last 46 rfl (by decide +kernel) k17 v19 (fun m20 e21 => ?_)
  replace h := h m20 e21
  have k22 : mK m20 t = 13 := by rw [e21]; exact k9
  have k23 : mK m20 b2 = 15 := by rw [e21]; exact k10
  have k24 : mK m20 b11 = 15 := by rw [e21]; exact k13
  have k25 : mK m20 b15 = 16 := by rw [e21]; exact k17
  refine at_aload_n (i := 0) 0 47 rfl (by decide +kernel) rfl ?_
  refine at_get (index := 131) (v := va_rf (mR m20 t 43)) cok12 43 50 rfl (by decide +kernel) k22 (by decide +kernel) tw_1128 rfl ?_
  refine at_bipush (n := 8) (8 : Int32) 52 rfl (by decide +kernel) (by decide +kernel) ?_
  refine at_iload_n (i := 1) 1 53 rfl (by decide +kernel) rfl ?_
  refine at_imul 54 rfl (by decide +kernel) ?_
  refine at_iload (i := 5) 4 56 rfl (by decide +kernel) rfl ?_
  refine at_iadd 57 rfl (by decide +kernel) ?_
  refine at_dup2_11 58 rfl (by decide +kernel) rfl (va_rf_cat _) ?_
  obtain ⟨b26, e27, h⟩ := h
  rw [e27]
  obtain ⟨k28, h⟩ := h
  obtain ⟨v29, h⟩ := h
  refine at_lald 59 rfl (by decide +kernel) k28 v29 ?_
  refine at_iload_n (i := 3) 2 60 rfl (by decide +kernel) rfl ?_
  refine at_i2l 61 rfl (by decide +kernel) ?_
  refine at_ladd 62 rfl (by decide +kernel) ?_
  obtain ⟨v30, h⟩ := h
  refine at_last 63 rfl (by decide +kernel) k28 v30 (fun m31 e32 => ?_)
  replace h := h m31 e32
  have k33 : mK m31 t = 13 := by rw [e32]; exact k22
  have k34 : mK m31 b2 = 15 := by rw [e32]; exact k23
  have k35 : mK m31 b11 = 15 := by rw [e32]; exact k24
  have k36 : mK m31 b15 = 16 := by rw [e32]; exact k25
  have k37 : mK m31 b26 = 16 := by rw [e32]; exact k28
  exact at_vret rfl (by decide +kernel) h
set_option maxRecDepth 20000 in
set_option maxHeartbeats 4000000 in
theorem bk_RF_passes_697 (g : Gc) {lv : Nat} {t : Nat} {l1 : Int32} {l12 : Int32} {l13 : Int32} {l15 : Int32} {l16 : Int32} {m : Mm} {Q : Int32 → Mm → Prop} (h : mK m t = 13 ∧ (∃ b2, mR m t 33 = some b2 ∧ (mK m b2 = 15 ∧ (vp_in l1 (mN m b2) ∧ (if (mI m b2 l1.toNatClampNeg) ≤ (l16) then (∃ b7, mR m t 32 = some b7 ∧ (mK m b7 = 15 ∧ (vp_in l1 (mN m b7) ∧ (∃ b11, mR m t 34 = some b11 ∧ (mK m b11 = 15 ∧ (vp_in l1 (mN m b11) ∧ (vp_in l1 (mN m b7) ∧ (∀ m16, m16 = sI m b7 l1.toNatClampNeg ((lmx (1 : Int64) (lmn (10000 : Int64) (((mI m b7 l1.toNatClampNeg).toInt64) + ((((((mI m b11 l1.toNatClampNeg).toInt64) - l15.toInt64) - l13.toInt64) * ((mI m t 7).toInt64)) / (1000 : Int64))))).toInt32) → (CV g M_RF_grows lv [va_rf (some t), .int (l1)] m16 (fun m22 => (Q l12 m22))))))))))) else (∃ b28, mR m t 41 = some b28 ∧ (mK m b28 = 15 ∧ (vp_in (((400 : Int32) * l1) + l16) (mN m b28) ∧ (vp_in (((400 : Int32) * l1) + l16) (mN m b28) ∧ (vp_in (((400 : Int32) * l1) + l16) (mN m b28) ∧ (∀ m34, m34 = sI m b28 (((400 : Int32) * l1) + l16).toNatClampNeg ((mI m b28 (((400 : Int32) * l1) + l16).toNatClampNeg) - (((((mI m b28 (((400 : Int32) * l1) + l16).toNatClampNeg).toInt64) * ((mI m t 11).toInt64)) / (1000 : Int64)).toInt32)) → (∃ b39, mR m34 t 43 = some b39 ∧ (mK m34 b39 = 16 ∧ (vp_in (((8 : Int32) * l1) + (6 : Int32)) (mN m34 b39) ∧ (vp_in (((8 : Int32) * l1) + (6 : Int32)) (mN m34 b39) ∧ (∀ m44, m44 = sL m34 b39 (((8 : Int32) * l1) + (6 : Int32)).toNatClampNeg ((mL m34 b39 (((8 : Int32) * l1) + (6 : Int32)).toNatClampNeg) + ((((((mI m b28 (((400 : Int32) * l1) + l16).toNatClampNeg).toInt64) * ((mI m t 11).toInt64)) / (1000 : Int64)).toInt32).toInt64)) → (At g M_RF_passes (lv + 1) 697 [(0, va_rf (some t)), (1, .int (l1)), (12, .int (l12)), (13, .int (l13)), (15, .int (l15)), (16, .int (l16 + (1 : Int32)))] [] m44 (QI Q)))))))))))))))))) : At g M_RF_passes (lv + 1) 697 [(0, va_rf (some t)), (1, .int (l1)), (12, .int (l12)), (13, .int (l13)), (15, .int (l15)), (16, .int (l16))] [] m (QI Q) := by
  refine at_iload (i := 16) 5 699 rfl (by decide +kernel) rfl ?_
  refine at_aload_n (i := 0) 0 700 rfl (by decide +kernel) rfl ?_
  obtain ⟨k1, h⟩ := h
  refine at_get (index := 101) (v := va_rf (mR m t 33)) cok12 33 703 rfl (by decide +kernel) k1 (by decide +kernel) tw_1118 rfl ?_
  refine at_iload_n (i := 1) 1 704 rfl (by decide +kernel) rfl ?_
  obtain ⟨b2, e3, h⟩ := h
  rw [e3]
  obtain ⟨k4, h⟩ := h
  obtain ⟨v5, h⟩ := h
  refine at_iald 705 rfl (by decide +kernel) k4 v5 ?_
  refine at_icmp_ge (off := 70) 775 708 rfl (by decide +kernel) (by decide +kernel) (fun c6 => ?_) (fun c6 => ?_)
  · rw [if_pos c6] at h
    refine at_aload_n (i := 0) 0 776 rfl (by decide +kernel) rfl ?_
    refine at_get (index := 98) (v := va_rf (mR m t 32)) cok12 32 779 rfl (by decide +kernel) k1 (by decide +kernel) tw_1117 rfl ?_
    refine at_iload_n (i := 1) 1 780 rfl (by decide +kernel) rfl ?_
    obtain ⟨b7, e8, h⟩ := h
    rw [e8]
    obtain ⟨k9, h⟩ := h
    obtain ⟨v10, h⟩ := h
    refine at_iald 781 rfl (by decide +kernel) k9 v10 ?_
    refine at_i2l 782 rfl (by decide +kernel) ?_
    refine at_aload_n (i := 0) 0 783 rfl (by decide +kernel) rfl ?_
    refine at_get (index := 104) (v := va_rf (mR m t 34)) cok12 34 786 rfl (by decide +kernel) k1 (by decide +kernel) tw_1119 rfl ?_
    refine at_iload_n (i := 1) 1 787 rfl (by decide +kernel) rfl ?_
    obtain ⟨b11, e12, h⟩ := h
    rw [e12]
    obtain ⟨k13, h⟩ := h
    obtain ⟨v14, h⟩ := h
    refine at_iald 788 rfl (by decide +kernel) k13 v14 ?_
    refine at_i2l 789 rfl (by decide +kernel) ?_
    refine at_iload (i := 15) 4 791 rfl (by decide +kernel) rfl ?_
    refine at_i2l 792 rfl (by decide +kernel) ?_
    refine at_lsub 793 rfl (by decide +kernel) ?_
    refine at_iload (i := 13) 3 795 rfl (by decide +kernel) rfl ?_
    refine at_i2l 796 rfl (by decide +kernel) ?_
    refine at_lsub 797 rfl (by decide +kernel) ?_
    refine at_aload_n (i := 0) 0 798 rfl (by decide +kernel) rfl ?_
    refine at_get (index := 30) (v := .int (mI m t 7)) cok12 7 801 rfl (by decide +kernel) k1 (by decide +kernel) tw_1092 rfl ?_
    refine at_i2l 802 rfl (by decide +kernel) ?_
    refine at_lmul 803 rfl (by decide +kernel) ?_
    refine at_ldc2 (index := 170) (1000 : Int64) 806 rfl (by decide +kernel) tw_1316 ?_
    refine at_ldiv 807 rfl (by decide +kernel) (by decide +kernel) ?_
    refine at_ladd 808 rfl (by decide +kernel) ?_
    refine at_lstore (i := 16) (lc' := [(0, va_rf (some t)), (1, .int (l1)), (12, .int (l12)), (16, .long (((mI m b7 l1.toNatClampNeg).toInt64) + ((((((mI m b11 l1.toNatClampNeg).toInt64) - l15.toInt64) - l13.toInt64) * ((mI m t 7).toInt64)) / (1000 : Int64))))]) [1, 2, 3, 0] 810 rfl (by decide +kernel) (by decide +kernel) rfl ?_
    refine at_aload_n (i := 0) 0 811 rfl (by decide +kernel) rfl ?_
    refine at_get (index := 98) (v := va_rf (mR m t 32)) cok12 32 814 rfl (by decide +kernel) k1 (by decide +kernel) tw_1117 rfl ?_
    rw [e8]
    refine at_iload_n (i := 1) 1 815 rfl (by decide +kernel) rfl ?_
    refine at_lconst (n := 1) (1 : Int64) 816 rfl (by decide +kernel) (by decide +kernel) ?_
    refine at_ldc2 (index := 172) (10000 : Int64) 819 rfl (by decide +kernel) tw_1317 ?_
    refine at_lload (i := 16) 3 821 rfl (by decide +kernel) rfl ?_
    refine at_lmn (index := 349) 824 rfl (by decide +kernel) tw_1454 (by simp [va_rf_cat, cat_int, cat_long]) ?_
    refine at_lmx (index := 341) 827 rfl (by decide +kernel) tw_1453 (by simp [va_rf_cat, cat_int, cat_long]) ?_
    refine at_l2i 828 rfl (by decide +kernel) ?_
    obtain ⟨v15, h⟩ := h
    refine at_iast 829 rfl (by decide +kernel) k9 v15 (fun m16 e17 => ?_)
    replace h := h m16 e17
    have k18 : mK m16 t = 13 := by rw [e17]; exact k1
    have k19 : mK m16 b2 = 15 := by rw [e17]; exact k4
    have k20 : mK m16 b7 = 15 := by rw [e17]; exact k9
    have k21 : mK m16 b11 = 15 := by rw [e17]; exact k13
    refine at_aload_n (i := 0) 0 830 rfl (by decide +kernel) rfl ?_
    refine at_iload_n (i := 1) 1 831 rfl (by decide +kernel) rfl ?_
    refine at_callV mb_RF_grows tw_1481 tw_55 cok12 k18 (index := 369) tw_1479 [.int (l1)] [] rfl rfl (by decide) 834 rfl (by decide +kernel) (Call.toV (CV.monoE h (fun m22 h y23 => ?_)))
    have k24 : mK m22 t = 13 := y23.k k18 (by decide)
    have k25 : mK m22 b2 = 15 := y23.k k19 (by decide)
    have k26 : mK m22 b7 = 15 := y23.k k20 (by decide)
    have k27 : mK m22 b11 = 15 := y23.k k21 (by decide)
    refine at_iload (i := 12) 2 836 rfl (by decide +kernel) rfl ?_
    exact at_iret rfl (by decide +kernel) h
  · rw [if_neg c6] at h
    refine at_sipush (n := 400) (400 : Int32) 711 rfl (by decide +kernel) (by decide +kernel) ?_
    refine at_iload_n (i := 1) 1 712 rfl (by decide +kernel) rfl ?_
    refine at_imul 713 rfl (by decide +kernel) ?_
    refine at_iload (i := 16) 5 715 rfl (by decide +kernel) rfl ?_
    refine at_iadd 716 rfl (by decide +kernel) ?_
    refine at_istore (i := 17) (lc' := [(0, va_rf (some t)), (1, .int (l1)), (12, .int (l12)), (13, .int (l13)), (15, .int (l15)), (16, .int (l16)), (17, .int (((400 : Int32) * l1) + l16))]) [1, 2, 3, 4, 5, 6, 0] 718 rfl (by decide +kernel) (by decide +kernel) rfl ?_
    refine at_aload_n (i := 0) 0 719 rfl (by decide +kernel) rfl ?_
    refine at_get (index := 125) (v := va_rf (mR m t 41)) cok12 41 722 rfl (by decide +kernel) k1 (by decide +kernel) tw_1126 rfl ?_
    refine at_iload (i := 17) 6 724 rfl (by decide +kernel) rfl ?_
    obtain ⟨b28, e29, h⟩ := h
    rw [e29]
    obtain ⟨k30, h⟩ := h
    obtain ⟨v31, h⟩ := h
    refine at_iald 725 rfl (by decide +kernel) k30 v31 ?_
    refine at_i2l 726 rfl (by decide +kernel) ?_
    refine at_aload_n (i := 0) 0 727 rfl (by decide +kernel) rfl ?_
    refine at_get (index := 178) (v := .int (mI m t 11)) cok12 11 730 rfl (by decide +kernel) k1 (by decide +kernel) tw_1096 rfl ?_
    refine at_i2l 731 rfl (by decide +kernel) ?_
    refine at_lmul 732 rfl (by decide +kernel) ?_
    refine at_ldc2 (index := 170) (1000 : Int64) 735 rfl (by decide +kernel) tw_1316 ?_
    refine at_ldiv 736 rfl (by decide +kernel) (by decide +kernel) ?_
    refine at_l2i 737 rfl (by decide +kernel) ?_
    refine at_istore (i := 18) (lc' := [(0, va_rf (some t)), (1, .int (l1)), (12, .int (l12)), (13, .int (l13)), (15, .int (l15)), (16, .int (l16)), (17, .int (((400 : Int32) * l1) + l16)), (18, .int (((((mI m b28 (((400 : Int32) * l1) + l16).toNatClampNeg).toInt64) * ((mI m t 11).toInt64)) / (1000 : Int64)).toInt32))]) [1, 2, 3, 4, 5, 6, 7, 0] 739 rfl (by decide +kernel) (by decide +kernel) rfl ?_
    refine at_aload_n (i := 0) 0 740 rfl (by decide +kernel) rfl ?_
    refine at_get (index := 125) (v := va_rf (mR m t 41)) cok12 41 743 rfl (by decide +kernel) k1 (by decide +kernel) tw_1126 rfl ?_
    rw [e29]
    refine at_iload (i := 17) 6 745 rfl (by decide +kernel) rfl ?_
    refine at_dup2_11 746 rfl (by decide +kernel) rfl (va_rf_cat _) ?_
    obtain ⟨v32, h⟩ := h
    refine at_iald 747 rfl (by decide +kernel) k30 v32 ?_
    refine at_iload (i := 18) 7 749 rfl (by decide +kernel) rfl ?_
    refine at_isub 750 rfl (by decide +kernel) ?_
    obtain ⟨v33, h⟩ := h
    refine at_iast 751 rfl (by decide +kernel) k30 v33 (fun m34 e35 => ?_)
    replace h := h m34 e35
    have k36 : mK m34 t = 13 := by rw [e35]; exact k1
    have k37 : mK m34 b2 = 15 := by rw [e35]; exact k4
    have k38 : mK m34 b28 = 15 := by rw [e35]; exact k30
    refine at_aload_n (i := 0) 0 752 rfl (by decide +kernel) rfl ?_
    refine at_get (index := 131) (v := va_rf (mR m34 t 43)) cok12 43 755 rfl (by decide +kernel) k36 (by decide +kernel) tw_1128 rfl ?_
    refine at_bipush (n := 8) (8 : Int32) 757 rfl (by decide +kernel) (by decide +kernel) ?_
    refine at_iload_n (i := 1) 1 758 rfl (by decide +kernel) rfl ?_
    refine at_imul 759 rfl (by decide +kernel) ?_
    refine at_bipush (n := 6) (6 : Int32) 761 rfl (by decide +kernel) (by decide +kernel) ?_
    refine at_iadd 762 rfl (by decide +kernel) ?_
    refine at_dup2_11 763 rfl (by decide +kernel) rfl (va_rf_cat _) ?_
    obtain ⟨b39, e40, h⟩ := h
    rw [e40]
    obtain ⟨k41, h⟩ := h
    obtain ⟨v42, h⟩ := h
    refine at_lald 764 rfl (by decide +kernel) k41 v42 ?_
    refine at_iload (i := 18) 7 766 rfl (by decide +kernel) rfl ?_
    refine at_i2l 767 rfl (by decide +kernel) ?_
    refine at_ladd 768 rfl (by decide +kernel) ?_
    obtain ⟨v43, h⟩ := h
    refine at_last 769 rfl (by decide +kernel) k41 v43 (fun m44 e45 => ?_)
    replace h := h m44 e45
    have k46 : mK m44 t = 13 := by rw [e45]; exact k36
    have k47 : mK m44 b2 = 15 := by rw [e45]; exact k37
    have k48 : mK m44 b28 = 15 := by rw [e45]; exact k38
    have k49 : mK m44 b39 = 16 := by rw [e45]; exact k41
    refine at_iinc (i := 16) (n := 1) (lc' := [(0, va_rf (some t)), (1, .int (l1)), (12, .int (l12)), (13, .int (l13)), (15, .int (l15)), (16, .int (l16 + (1 : Int32)))]) (l16 + (1 : Int32)) 5 [1, 2, 3, 4, 5, 0] 772 rfl (by decide +kernel) rfl (by rw [show Int32.ofInt 1 = (1 : Int32) from by decide +kernel]) (by decide +kernel) rfl ?_
    refine at_goto (off := (-75)) 697 (by decide +kernel) (by decide +kernel) ?_
    exact h
set_option maxRecDepth 20000 in
set_option maxHeartbeats 4000000 in
theorem bk_RF_passes_580 (g : Gc) {lv : Nat} {t : Nat} {l1 : Int32} {l5 : Int32} {l12 : Int32} {l13 : Int32} {l15 : Int32} {m : Mm} {Q : Int32 → Mm → Prop} (h : mK m t = 13 ∧ (∃ b2, mR m t 33 = some b2 ∧ (mK m b2 = 15 ∧ (vp_in l1 (mN m b2) ∧ (if (mI m b2 l1.toNatClampNeg) ≤ (l15) then (CI g M_RF_frees lv [va_rf (some t), .int (l1)] m (fun x7 m8 => (∃ b12, mR m8 t 34 = some b12 ∧ (mK m8 b12 = 15 ∧ (vp_in l1 (mN m8 b12) ∧ (CV g M_RF_abroad lv [va_rf (some t), .int (l1), .int (x7), .int (imn x7 (imx (0 : Int32) ((mI m8 b12 l1.toNatClampNeg) - l13)))] m8 (fun m16 => (CV g M_RF_stills lv [va_rf (some t), .int (l1)] m16 (fun m21 => (At g M_RF_passes (lv + 1) 697 [(0, va_rf (some t)), (1, .int (l1)), (12, .int (l12)), (13, .int (l13)), (15, .int (x7)), (16, .int ((0 : Int32)))] [] m21 (QI Q))))))))))) else (if (mI m t 63) = ((-1 : Int32)) then (At g M_RF_passes (lv + 1) 580 [(0, va_rf (some t)), (1, .int (l1)), (5, .int (l5)), (12, .int (l12)), (13, .int (l13)), (15, .int (l15 + (1 : Int32)))] [] m (QI Q)) else (∃ b27, mR m t 42 = some b27 ∧ (mK m b27 = 15 ∧ (vp_in (((400 : Int32) * l1) + l15) (mN m b27) ∧ (if (l5 - (mI m b27 (((400 : Int32) * l1) + l15).toNatClampNeg)) ≤ (mI m t 63) then (At g M_RF_passes (lv + 1) 580 [(0, va_rf (some t)), (1, .int (l1)), (5, .int (l5)), (12, .int (l12)), (13, .int (l13)), (15, .int (l15 + (1 : Int32)))] [] m (QI Q)) else (∃ b32, mR m t 41 = some b32 ∧ (mK m b32 = 15 ∧ (vp_in (((400 : Int32) * l1) + l15) (mN m b32) ∧ (∃ b36, mR m t 32 = some b36 ∧ (mK m b36 = 15 ∧ (vp_in l1 (mN m b36) ∧ (CV g M_RF_sold lv [va_rf (some t), .int (l1), .int (l15), .int (mI m b32 (((400 : Int32) * l1) + l15).toNatClampNeg), .int ((mI m b36 l1.toNatClampNeg) / (4 : Int32)), .int ((5 : Int32))] m (fun m40 => (At g M_RF_passes (lv + 1) 580 [(0, va_rf (some t)), (1, .int (l1)), (5, .int (l5)), (12, .int (l12)), (13, .int (l13)), (15, .int (l15 + (1 : Int32)))] [] m40 (QI Q)))))))))))))))))))) : At g M_RF_passes (lv + 1) 580 [(0, va_rf (some t)), (1, .int (l1)), (5, .int (l5)), (12, .int (l12)), (13, .int (l13)), (15, .int (l15))] [] m (QI Q) := by
  refine at_iload (i := 15) 5 582 rfl (by decide +kernel) rfl ?_
  refine at_aload_n (i := 0) 0 583 rfl (by decide +kernel) rfl ?_
  obtain ⟨k1, h⟩ := h
  refine at_get (index := 101) (v := va_rf (mR m t 33)) cok12 33 586 rfl (by decide +kernel) k1 (by decide +kernel) tw_1118 rfl ?_
  refine at_iload_n (i := 1) 1 587 rfl (by decide +kernel) rfl ?_
  obtain ⟨b2, e3, h⟩ := h
  rw [e3]
  obtain ⟨k4, h⟩ := h
  obtain ⟨v5, h⟩ := h
  refine at_iald 588 rfl (by decide +kernel) k4 v5 ?_
  refine at_icmp_ge (off := 69) 657 591 rfl (by decide +kernel) (by decide +kernel) (fun c6 => ?_) (fun c6 => ?_)
  · rw [if_pos c6] at h
    refine at_aload_n (i := 0) 0 658 rfl (by decide +kernel) rfl ?_
    refine at_iload_n (i := 1) 1 659 rfl (by decide +kernel) rfl ?_
    refine at_callV mb_RF_frees tw_1465 tw_51 cok12 k1 (index := 359) tw_1463 [.int (l1)] [] rfl rfl (by decide) 662 rfl (by decide +kernel) (Call.toI (CI.monoE h (fun x7 m8 h y9 => ?_)))
    have k10 : mK m8 t = 13 := y9.k k1 (by decide)
    have k11 : mK m8 b2 = 15 := y9.k k4 (by decide)
    refine at_istore (i := 15) (lc' := [(0, va_rf (some t)), (1, .int (l1)), (12, .int (l12)), (13, .int (l13)), (15, .int (x7))]) [1, 2, 4, 5, 0] 664 rfl (by decide +kernel) (by decide +kernel) rfl ?_
    refine at_aload_n (i := 0) 0 665 rfl (by decide +kernel) rfl ?_
    refine at_iload_n (i := 1) 1 666 rfl (by decide +kernel) rfl ?_
    refine at_iload (i := 15) 4 668 rfl (by decide +kernel) rfl ?_
    refine at_iload (i := 15) 4 670 rfl (by decide +kernel) rfl ?_
    refine at_iconst (n := 0) (0 : Int32) 671 rfl (by decide +kernel) (by decide +kernel) ?_
    refine at_aload_n (i := 0) 0 672 rfl (by decide +kernel) rfl ?_
    refine at_get (index := 104) (v := va_rf (mR m8 t 34)) cok12 34 675 rfl (by decide +kernel) k10 (by decide +kernel) tw_1119 rfl ?_
    refine at_iload_n (i := 1) 1 676 rfl (by decide +kernel) rfl ?_
    obtain ⟨b12, e13, h⟩ := h
    rw [e13]
    obtain ⟨k14, h⟩ := h
    obtain ⟨v15, h⟩ := h
    refine at_iald 677 rfl (by decide +kernel) k14 v15 ?_
    refine at_iload (i := 13) 3 679 rfl (by decide +kernel) rfl ?_
    refine at_isub 680 rfl (by decide +kernel) ?_
    refine at_imx (index := 297) 683 rfl (by decide +kernel) tw_1389 (by simp [va_rf_cat, cat_int, cat_long]) ?_
    refine at_imn (index := 305) 686 rfl (by decide +kernel) tw_1390 (by simp [va_rf_cat, cat_int, cat_long]) ?_
    refine at_callV mb_RF_abroad tw_1469 tw_52 cok12 k10 (index := 362) tw_1467 [.int (l1), .int (x7), .int (imn x7 (imx (0 : Int32) ((mI m8 b12 l1.toNatClampNeg) - l13)))] [] rfl rfl (by decide) 689 rfl (by decide +kernel) (Call.toV (CV.monoE h (fun m16 h y17 => ?_)))
    have k18 : mK m16 t = 13 := y17.k k10 (by decide)
    have k19 : mK m16 b2 = 15 := y17.k k11 (by decide)
    have k20 : mK m16 b12 = 15 := y17.k k14 (by decide)
    refine at_aload_n (i := 0) 0 690 rfl (by decide +kernel) rfl ?_
    refine at_iload_n (i := 1) 1 691 rfl (by decide +kernel) rfl ?_
    refine at_callV mb_RF_stills tw_1477 tw_54 cok12 k18 (index := 366) tw_1475 [.int (l1)] [] rfl rfl (by decide) 694 rfl (by decide +kernel) (Call.toV (CV.monoE h (fun m21 h y22 => ?_)))
    have k23 : mK m21 t = 13 := y22.k k18 (by decide)
    have k24 : mK m21 b2 = 15 := y22.k k19 (by decide)
    have k25 : mK m21 b12 = 15 := y22.k k20 (by decide)
    refine at_iconst (n := 0) (0 : Int32) 695 rfl (by decide +kernel) (by decide +kernel) ?_
    refine at_istore (i := 16) (lc' := [(0, va_rf (some t)), (1, .int (l1)), (12, .int (l12)), (13, .int (l13)), (15, .int (x7)), (16, .int ((0 : Int32)))]) [1, 2, 3, 4, 5, 0] 697 rfl (by decide +kernel) (by decide +kernel) rfl ?_
    exact h
  · rw [if_neg c6] at h
    refine at_aload_n (i := 0) 0 592 rfl (by decide +kernel) rfl ?_
    refine at_get (index := 303) (v := .int (mI m t 63)) cok12 63 595 rfl (by decide +kernel) k1 (by decide +kernel) tw_1148 rfl ?_
    refine at_iconst (n := (-1)) (-1 : Int32) 596 rfl (by decide +kernel) (by decide +kernel) ?_
    refine at_icmp_eq (off := 55) 651 599 rfl (by decide +kernel) (by decide +kernel) (fun c26 => ?_) (fun c26 => ?_)
    · rw [if_pos c26] at h
      refine at_iinc (i := 15) (n := 1) (lc' := [(0, va_rf (some t)), (1, .int (l1)), (5, .int (l5)), (12, .int (l12)), (13, .int (l13)), (15, .int (l15 + (1 : Int32)))]) (l15 + (1 : Int32)) 5 [1, 2, 3, 4, 5, 0] 654 rfl (by decide +kernel) rfl (by rw [show Int32.ofInt 1 = (1 : Int32) from by decide +kernel]) (by decide +kernel) rfl ?_
      refine at_goto (off := (-74)) 580 (by decide +kernel) (by decide +kernel) ?_
      exact h
    · rw [if_neg c26] at h
      refine at_iload (i := 5) 2 601 rfl (by decide +kernel) rfl ?_
      refine at_aload_n (i := 0) 0 602 rfl (by decide +kernel) rfl ?_
      refine at_get (index := 128) (v := va_rf (mR m t 42)) cok12 42 605 rfl (by decide +kernel) k1 (by decide +kernel) tw_1127 rfl ?_
      refine at_sipush (n := 400) (400 : Int32) 608 rfl (by decide +kernel) (by decide +kernel) ?_
      refine at_iload_n (i := 1) 1 609 rfl (by decide +kernel) rfl ?_
      refine at_imul 610 rfl (by decide +kernel) ?_
      refine at_iload (i := 15) 5 612 rfl (by decide +kernel) rfl ?_
      refine at_iadd 613 rfl (by decide +kernel) ?_
      obtain ⟨b27, e28, h⟩ := h
      rw [e28]
      obtain ⟨k29, h⟩ := h
      obtain ⟨v30, h⟩ := h
      refine at_iald 614 rfl (by decide +kernel) k29 v30 ?_
      refine at_isub 615 rfl (by decide +kernel) ?_
      refine at_aload_n (i := 0) 0 616 rfl (by decide +kernel) rfl ?_
      refine at_get (index := 303) (v := .int (mI m t 63)) cok12 63 619 rfl (by decide +kernel) k1 (by decide +kernel) tw_1148 rfl ?_
      refine at_icmp_le (off := 32) 651 622 rfl (by decide +kernel) (by decide +kernel) (fun c31 => ?_) (fun c31 => ?_)
      · rw [if_pos c31] at h
        refine at_iinc (i := 15) (n := 1) (lc' := [(0, va_rf (some t)), (1, .int (l1)), (5, .int (l5)), (12, .int (l12)), (13, .int (l13)), (15, .int (l15 + (1 : Int32)))]) (l15 + (1 : Int32)) 5 [1, 2, 3, 4, 5, 0] 654 rfl (by decide +kernel) rfl (by rw [show Int32.ofInt 1 = (1 : Int32) from by decide +kernel]) (by decide +kernel) rfl ?_
        refine at_goto (off := (-74)) 580 (by decide +kernel) (by decide +kernel) ?_
        exact h
      · rw [if_neg c31] at h
        refine at_aload_n (i := 0) 0 623 rfl (by decide +kernel) rfl ?_
        refine at_iload_n (i := 1) 1 624 rfl (by decide +kernel) rfl ?_
        refine at_iload (i := 15) 5 626 rfl (by decide +kernel) rfl ?_
        refine at_aload_n (i := 0) 0 627 rfl (by decide +kernel) rfl ?_
        refine at_get (index := 125) (v := va_rf (mR m t 41)) cok12 41 630 rfl (by decide +kernel) k1 (by decide +kernel) tw_1126 rfl ?_
        refine at_sipush (n := 400) (400 : Int32) 633 rfl (by decide +kernel) (by decide +kernel) ?_
        refine at_iload_n (i := 1) 1 634 rfl (by decide +kernel) rfl ?_
        refine at_imul 635 rfl (by decide +kernel) ?_
        refine at_iload (i := 15) 5 637 rfl (by decide +kernel) rfl ?_
        refine at_iadd 638 rfl (by decide +kernel) ?_
        obtain ⟨b32, e33, h⟩ := h
        rw [e33]
        obtain ⟨k34, h⟩ := h
        obtain ⟨v35, h⟩ := h
        refine at_iald 639 rfl (by decide +kernel) k34 v35 ?_
        refine at_aload_n (i := 0) 0 640 rfl (by decide +kernel) rfl ?_
        refine at_get (index := 98) (v := va_rf (mR m t 32)) cok12 32 643 rfl (by decide +kernel) k1 (by decide +kernel) tw_1117 rfl ?_
        refine at_iload_n (i := 1) 1 644 rfl (by decide +kernel) rfl ?_
        obtain ⟨b36, e37, h⟩ := h
        rw [e37]
        obtain ⟨k38, h⟩ := h
        obtain ⟨v39, h⟩ := h
        refine at_iald 645 rfl (by decide +kernel) k38 v39 ?_
        refine at_iconst (n := 4) (4 : Int32) 646 rfl (by decide +kernel) (by decide +kernel) ?_
        refine at_idiv 647 rfl (by decide +kernel) (by decide +kernel) ?_
        refine at_iconst (n := 5) (5 : Int32) 648 rfl (by decide +kernel) (by decide +kernel) ?_
        refine at_callV mb_RF_sold tw_1461 tw_50 cok12 k1 (index := 355) tw_1459 [.int (l1), .int (l15), .int (mI m b32 (((400 : Int32) * l1) + l15).toNatClampNeg), .int ((mI m b36 l1.toNatClampNeg) / (4 : Int32)), .int ((5 : Int32))] [] rfl rfl (by decide) 651 rfl (by decide +kernel) (Call.toV (CV.monoE h (fun m40 h y41 => ?_)))
        have k42 : mK m40 t = 13 := y41.k k1 (by decide)
        have k43 : mK m40 b2 = 15 := y41.k k4 (by decide)
        have k44 : mK m40 b27 = 15 := y41.k k29 (by decide)
        have k45 : mK m40 b32 = 15 := y41.k k34 (by decide)
        have k46 : mK m40 b36 = 15 := y41.k k38 (by decide)
        refine at_iinc (i := 15) (n := 1) (lc' := [(0, va_rf (some t)), (1, .int (l1)), (5, .int (l5)), (12, .int (l12)), (13, .int (l13)), (15, .int (l15 + (1 : Int32)))]) (l15 + (1 : Int32)) 5 [1, 2, 3, 4, 5, 0] 654 rfl (by decide +kernel) rfl (by rw [show Int32.ofInt 1 = (1 : Int32) from by decide +kernel]) (by decide +kernel) rfl ?_
        refine at_goto (off := (-74)) 580 (by decide +kernel) (by decide +kernel) ?_
        exact h
set_option maxRecDepth 20000 in
set_option maxHeartbeats 4000000 in
theorem bk_RF_passes_516 (g : Gc) {lv : Nat} {t : Nat} {l1 : Int32} {l5 : Int32} {l6 : Int32} {l12 : Int32} {l13 : Int32} {l14 : Int32} {l15 : Int32} {m : Mm} {Q : Int32 → Mm → Prop} (h : if (l6) ≤ (l15) then (At g M_RF_passes (lv + 1) 580 [(0, va_rf (some t)), (1, .int (l1)), (5, .int (l5)), (12, .int (l12)), (13, .int (l13)), (15, .int ((0 : Int32)))] [] m (QI Q)) else (if (l14) ≤ 0 then (At g M_RF_passes (lv + 1) 580 [(0, va_rf (some t)), (1, .int (l1)), (5, .int (l5)), (12, .int (l12)), (13, .int (l13)), (15, .int ((0 : Int32)))] [] m (QI Q)) else (mK m t = 13 ∧ (∃ b4, mR m t 41 = some b4 ∧ (mK m b4 = 15 ∧ (vp_in (((400 : Int32) * l1) + l15) (mN m b4) ∧ (∃ b8, mR m t 32 = some b8 ∧ (mK m b8 = 15 ∧ (vp_in l1 (mN m b8) ∧ (CV g M_RF_sold lv [va_rf (some t), .int (l1), .int (l15), .int (imn l14 (mI m b4 (((400 : Int32) * l1) + l15).toNatClampNeg)), .int (mI m b8 l1.toNatClampNeg), .int ((3 : Int32))] m (fun m12 => (At g M_RF_passes (lv + 1) 516 [(0, va_rf (some t)), (1, .int (l1)), (5, .int (l5)), (6, .int (l6)), (12, .int (l12)), (13, .int (l13)), (14, .int (l14 - (imn l14 (mI m b4 (((400 : Int32) * l1) + l15).toNatClampNeg)))), (15, .int (l15 + (1 : Int32)))] [] m12 (QI Q))))))))))))) : At g M_RF_passes (lv + 1) 516 [(0, va_rf (some t)), (1, .int (l1)), (5, .int (l5)), (6, .int (l6)), (12, .int (l12)), (13, .int (l13)), (14, .int (l14)), (15, .int (l15))] [] m (QI Q) := by
  refine at_iload (i := 15) 7 518 rfl (by decide +kernel) rfl ?_
  refine at_iload (i := 6) 3 520 rfl (by decide +kernel) rfl ?_
  refine at_icmp_ge (off := 57) 577 523 rfl (by decide +kernel) (by decide +kernel) (fun c1 => ?_) (fun c1 => ?_)
  · rw [if_pos c1] at h
    refine at_iconst (n := 0) (0 : Int32) 578 rfl (by decide +kernel) (by decide +kernel) ?_
    refine at_istore (i := 15) (lc' := [(0, va_rf (some t)), (1, .int (l1)), (5, .int (l5)), (12, .int (l12)), (13, .int (l13)), (15, .int ((0 : Int32)))]) [1, 2, 3, 5, 6, 0] 580 rfl (by decide +kernel) (by decide +kernel) rfl ?_
    exact h
  · rw [if_neg c1] at h
    refine at_iload (i := 14) 6 525 rfl (by decide +kernel) rfl ?_
    refine at_if_le (off := 52) 577 528 rfl (by decide +kernel) (by decide +kernel) (fun c2 => ?_) (fun c2 => ?_)
    · rw [if_pos c2] at h
      refine at_iconst (n := 0) (0 : Int32) 578 rfl (by decide +kernel) (by decide +kernel) ?_
      refine at_istore (i := 15) (lc' := [(0, va_rf (some t)), (1, .int (l1)), (5, .int (l5)), (12, .int (l12)), (13, .int (l13)), (15, .int ((0 : Int32)))]) [1, 2, 3, 5, 6, 0] 580 rfl (by decide +kernel) (by decide +kernel) rfl ?_
      exact h
    · rw [if_neg c2] at h
      refine at_iload (i := 14) 6 530 rfl (by decide +kernel) rfl ?_
      refine at_aload_n (i := 0) 0 531 rfl (by decide +kernel) rfl ?_
      obtain ⟨k3, h⟩ := h
      refine at_get (index := 125) (v := va_rf (mR m t 41)) cok12 41 534 rfl (by decide +kernel) k3 (by decide +kernel) tw_1126 rfl ?_
      refine at_sipush (n := 400) (400 : Int32) 537 rfl (by decide +kernel) (by decide +kernel) ?_
      refine at_iload_n (i := 1) 1 538 rfl (by decide +kernel) rfl ?_
      refine at_imul 539 rfl (by decide +kernel) ?_
      refine at_iload (i := 15) 7 541 rfl (by decide +kernel) rfl ?_
      refine at_iadd 542 rfl (by decide +kernel) ?_
      obtain ⟨b4, e5, h⟩ := h
      rw [e5]
      obtain ⟨k6, h⟩ := h
      obtain ⟨v7, h⟩ := h
      refine at_iald 543 rfl (by decide +kernel) k6 v7 ?_
      refine at_imn (index := 305) 546 rfl (by decide +kernel) tw_1390 (by decide) ?_
      refine at_istore (i := 16) (lc' := [(0, va_rf (some t)), (1, .int (l1)), (5, .int (l5)), (6, .int (l6)), (12, .int (l12)), (13, .int (l13)), (14, .int (l14)), (15, .int (l15)), (16, .int (imn l14 (mI m b4 (((400 : Int32) * l1) + l15).toNatClampNeg)))]) [1, 2, 3, 4, 5, 6, 7, 8, 0] 548 rfl (by decide +kernel) (by decide +kernel) rfl ?_
      refine at_aload_n (i := 0) 0 549 rfl (by decide +kernel) rfl ?_
      refine at_iload_n (i := 1) 1 550 rfl (by decide +kernel) rfl ?_
      refine at_iload (i := 15) 7 552 rfl (by decide +kernel) rfl ?_
      refine at_iload (i := 16) 8 554 rfl (by decide +kernel) rfl ?_
      refine at_aload_n (i := 0) 0 555 rfl (by decide +kernel) rfl ?_
      refine at_get (index := 98) (v := va_rf (mR m t 32)) cok12 32 558 rfl (by decide +kernel) k3 (by decide +kernel) tw_1117 rfl ?_
      refine at_iload_n (i := 1) 1 559 rfl (by decide +kernel) rfl ?_
      obtain ⟨b8, e9, h⟩ := h
      rw [e9]
      obtain ⟨k10, h⟩ := h
      obtain ⟨v11, h⟩ := h
      refine at_iald 560 rfl (by decide +kernel) k10 v11 ?_
      refine at_iconst (n := 3) (3 : Int32) 561 rfl (by decide +kernel) (by decide +kernel) ?_
      refine at_callV mb_RF_sold tw_1461 tw_50 cok12 k3 (index := 355) tw_1459 [.int (l1), .int (l15), .int (imn l14 (mI m b4 (((400 : Int32) * l1) + l15).toNatClampNeg)), .int (mI m b8 l1.toNatClampNeg), .int ((3 : Int32))] [] rfl rfl (by decide) 564 rfl (by decide +kernel) (Call.toV (CV.monoE h (fun m12 h y13 => ?_)))
      have k14 : mK m12 t = 13 := y13.k k3 (by decide)
      have k15 : mK m12 b4 = 15 := y13.k k6 (by decide)
      have k16 : mK m12 b8 = 15 := y13.k k10 (by decide)
      refine at_iload (i := 14) 6 566 rfl (by decide +kernel) rfl ?_
      refine at_iload (i := 16) 8 568 rfl (by decide +kernel) rfl ?_
      refine at_isub 569 rfl (by decide +kernel) ?_
      refine at_istore (i := 14) (lc' := [(0, va_rf (some t)), (1, .int (l1)), (5, .int (l5)), (6, .int (l6)), (12, .int (l12)), (13, .int (l13)), (14, .int (l14 - (imn l14 (mI m b4 (((400 : Int32) * l1) + l15).toNatClampNeg)))), (15, .int (l15))]) [1, 2, 3, 4, 5, 6, 0, 7] 571 rfl (by decide +kernel) (by decide +kernel) rfl ?_
      refine at_iinc (i := 15) (n := 1) (lc' := [(0, va_rf (some t)), (1, .int (l1)), (5, .int (l5)), (6, .int (l6)), (12, .int (l12)), (13, .int (l13)), (14, .int (l14 - (imn l14 (mI m b4 (((400 : Int32) * l1) + l15).toNatClampNeg)))), (15, .int (l15 + (1 : Int32)))]) (l15 + (1 : Int32)) 7 [1, 2, 3, 4, 5, 6, 7, 0] 574 rfl (by decide +kernel) rfl (by rw [show Int32.ofInt 1 = (1 : Int32) from by decide +kernel]) (by decide +kernel) rfl ?_
      refine at_goto (off := (-58)) 516 (by decide +kernel) (by decide +kernel) ?_
      exact h
set_option maxRecDepth 20000 in
set_option maxHeartbeats 4000000 in
theorem bk_RF_passes_490 (g : Gc) {lv : Nat} {t : Nat} {l1 : Int32} {l3 : Option Nat} {l4 : Int32} {l5 : Int32} {l6 : Int32} {l12 : Int32} {l13 : Int32} {l14 : Int32} {l19 : Int32} {m : Mm} {Q : Int32 → Mm → Prop} (h : mK m t = 13 ∧ (CI g M_RF_receipt_IIII lv [va_rf (some t), .int (l1), .int (l14), .int (l19), .int (l5)] m (fun x2 m3 => (At g M_RF_passes (lv + 1) 268 [(0, va_rf (some t)), (1, .int (l1)), (3, va_rf (l3)), (4, .int (l4)), (5, .int (l5)), (6, .int (l6)), (12, .int (l12)), (13, .int (l13)), (14, .int (l14 + (1 : Int32)))] [] m3 (QI Q))))) : At g M_RF_passes (lv + 1) 490 [(0, va_rf (some t)), (1, .int (l1)), (3, va_rf (l3)), (4, .int (l4)), (5, .int (l5)), (6, .int (l6)), (12, .int (l12)), (13, .int (l13)), (14, .int (l14)), (19, .int (l19))] [] m (QI Q) := by
  refine at_aload_n (i := 0) 0 491 rfl (by decide +kernel) rfl ?_
  refine at_iload_n (i := 1) 1 492 rfl (by decide +kernel) rfl ?_
  refine at_iload (i := 14) 8 494 rfl (by decide +kernel) rfl ?_
  refine at_iload (i := 19) 9 496 rfl (by decide +kernel) rfl ?_
  refine at_iload (i := 5) 4 498 rfl (by decide +kernel) rfl ?_
  obtain ⟨k1, h⟩ := h
  refine at_callV mb_RF_receipt_IIII tw_1457 tw_49 cok12 k1 (index := 351) tw_1455 [.int (l1), .int (l14), .int (l19), .int (l5)] [] rfl rfl (by decide) 501 rfl (by decide +kernel) (Call.toI (CI.monoE h (fun x2 m3 h y4 => ?_)))
  have k5 : mK m3 t = 13 := y4.k k1 (by decide)
  refine at_istore (i := 20) (lc' := [(0, va_rf (some t)), (1, .int (l1)), (3, va_rf (l3)), (4, .int (l4)), (5, .int (l5)), (6, .int (l6)), (12, .int (l12)), (13, .int (l13)), (14, .int (l14)), (20, .int (x2))]) [1, 2, 3, 4, 5, 6, 7, 8, 9, 0] 503 rfl (by decide +kernel) (by decide +kernel) rfl ?_
  refine at_iinc (i := 14) (n := 1) (lc' := [(0, va_rf (some t)), (1, .int (l1)), (3, va_rf (l3)), (4, .int (l4)), (5, .int (l5)), (6, .int (l6)), (12, .int (l12)), (13, .int (l13)), (14, .int (l14 + (1 : Int32)))]) (l14 + (1 : Int32)) 8 [1, 2, 3, 4, 5, 6, 7, 8, 0] 506 rfl (by decide +kernel) rfl (by rw [show Int32.ofInt 1 = (1 : Int32) from by decide +kernel]) (by decide +kernel) rfl ?_
  refine at_goto (off := (-238)) 268 (by decide +kernel) (by decide +kernel) ?_
  exact h
set_option maxRecDepth 20000 in
set_option maxHeartbeats 4000000 in
theorem bk_RF_passes_369 (g : Gc) {lv : Nat} {t : Nat} {l1 : Int32} {l3 : Option Nat} {l4 : Int32} {l5 : Int32} {l6 : Int32} {l12 : Int32} {l13 : Int32} {l14 : Int32} {l15 : Int32} {l16 : Int32} {m : Mm} {Q : Int32 → Mm → Prop} (h : if (l16) = 0 then (∃ b2, l3 = some b2 ∧ (mK m b2 = 15 ∧ (vp_in (l4 + l14) (mN m b2) ∧ (mK m t = 13 ∧ (∃ b7, mR m t 38 = some b7 ∧ (mK m b7 = 16 ∧ (vp_in l15 (mN m b7) ∧ (vp_in (l4 + l14) (mN m b2) ∧ (vp_in l15 (mN m b7) ∧ (∀ m13, m13 = sL m b7 l15.toNatClampNeg (((l12.toInt64 * ((mI m b2 (l4 + l14).toNatClampNeg).toInt64)) + (mL m b7 l15.toNatClampNeg)) - ((100 : Int64) * (((lmx (0 : Int64) (lmn ((mI m b2 (l4 + l14).toNatClampNeg).toInt64) (((l12.toInt64 * ((mI m b2 (l4 + l14).toNatClampNeg).toInt64)) + (mL m b7 l15.toNatClampNeg)) / (100 : Int64)))).toInt32).toInt64))) → (if ((lmx (0 : Int64) (lmn ((mI m b2 (l4 + l14).toNatClampNeg).toInt64) (((l12.toInt64 * ((mI m b2 (l4 + l14).toNatClampNeg).toInt64)) + (mL m b7 l15.toNatClampNeg)) / (100 : Int64)))).toInt32) = 0 then (At g M_RF_passes (lv + 1) 268 [(0, va_rf (some t)), (1, .int (l1)), (3, va_rf (some b2)), (4, .int (l4)), (5, .int (l5)), (6, .int (l6)), (12, .int (l12)), (13, .int (l13)), (14, .int (l14 + (1 : Int32)))] [] m13 (QI Q)) else (∃ b19, mR m13 t 37 = some b19 ∧ (mK m13 b19 = 15 ∧ (vp_in l15 (mN m13 b19) ∧ (vp_in l15 (mN m13 b19) ∧ (∀ m24, m24 = sI m13 b19 l15.toNatClampNeg ((mI m13 b19 l15.toNatClampNeg) - ((lmx (0 : Int64) (lmn ((mI m b2 (l4 + l14).toNatClampNeg).toInt64) (((l12.toInt64 * ((mI m b2 (l4 + l14).toNatClampNeg).toInt64)) + (mL m b7 l15.toNatClampNeg)) / (100 : Int64)))).toInt32)) → (∃ b30, mR m24 t 43 = some b30 ∧ (mK m24 b30 = 16 ∧ (vp_in (((8 : Int32) * l1) + (1 : Int32)) (mN m24 b30) ∧ (vp_in (((8 : Int32) * l1) + (1 : Int32)) (mN m24 b30) ∧ (∀ m35, m35 = sL m24 b30 (((8 : Int32) * l1) + (1 : Int32)).toNatClampNeg ((mL m24 b30 (((8 : Int32) * l1) + (1 : Int32)).toNatClampNeg) + (((lmx (0 : Int64) (lmn ((mI m b2 (l4 + l14).toNatClampNeg).toInt64) (((l12.toInt64 * ((mI m b2 (l4 + l14).toNatClampNeg).toInt64)) + (mL m b7 l15.toNatClampNeg)) / (100 : Int64)))).toInt32).toInt64)) → (if (l1) = 0 then (∃ b43, mR m35 t 30 = some b43 ∧ (mK m35 b43 = 15 ∧ (vp_in l14 (mN m35 b43) ∧ (∀ m47, m47 = sI m35 b43 l14.toNatClampNeg ((lmx (0 : Int64) (lmn ((mI m b2 (l4 + l14).toNatClampNeg).toInt64) (((l12.toInt64 * ((mI m b2 (l4 + l14).toNatClampNeg).toInt64)) + (mL m b7 l15.toNatClampNeg)) / (100 : Int64)))).toInt32) → (At g M_RF_passes (lv + 1) 490 [(0, va_rf (some t)), (1, .int (l1)), (3, va_rf (some b2)), (4, .int (l4)), (5, .int (l5)), (6, .int (l6)), (12, .int (l12)), (13, .int (l13)), (14, .int (l14)), (19, .int ((lmx (0 : Int64) (lmn ((mI m b2 (l4 + l14).toNatClampNeg).toInt64) (((l12.toInt64 * ((mI m b2 (l4 + l14).toNatClampNeg).toInt64)) + (mL m b7 l15.toNatClampNeg)) / (100 : Int64)))).toInt32))] [] m47 (QI Q)))))) else (At g M_RF_passes (lv + 1) 490 [(0, va_rf (some t)), (1, .int (l1)), (3, va_rf (some b2)), (4, .int (l4)), (5, .int (l5)), (6, .int (l6)), (12, .int (l12)), (13, .int (l13)), (14, .int (l14)), (19, .int ((lmx (0 : Int64) (lmn ((mI m b2 (l4 + l14).toNatClampNeg).toInt64) (((l12.toInt64 * ((mI m b2 (l4 + l14).toNatClampNeg).toInt64)) + (mL m b7 l15.toNatClampNeg)) / (100 : Int64)))).toInt32))] [] m35 (QI Q)))))))))))))))))))))))) else (At g M_RF_passes (lv + 1) 268 [(0, va_rf (some t)), (1, .int (l1)), (3, va_rf (l3)), (4, .int (l4)), (5, .int (l5)), (6, .int (l6)), (12, .int (l12)), (13, .int (l13)), (14, .int (l14 + (1 : Int32)))] [] m (QI Q))) : At g M_RF_passes (lv + 1) 369 [(0, va_rf (some t)), (1, .int (l1)), (3, va_rf (l3)), (4, .int (l4)), (5, .int (l5)), (6, .int (l6)), (12, .int (l12)), (13, .int (l13)), (14, .int (l14)), (15, .int (l15)), (16, .int (l16))] [] m (QI Q) := by
  refine at_iload (i := 16) 10 371 rfl (by decide +kernel) rfl ?_
  refine at_if_eq (off := 6) 377 374 rfl (by decide +kernel) (by decide +kernel) (fun c1 => ?_) (fun c1 => ?_)
  · rw [if_pos c1] at h
    refine at_iload (i := 12) 6 379 rfl (by decide +kernel) rfl ?_
    refine at_i2l 380 rfl (by decide +kernel) ?_
    refine at_aload_n (i := 3) 2 381 rfl (by decide +kernel) rfl ?_
    refine at_iload (i := 4) 3 383 rfl (by decide +kernel) rfl ?_
    refine at_iload (i := 14) 8 385 rfl (by decide +kernel) rfl ?_
    refine at_iadd 386 rfl (by decide +kernel) ?_
    obtain ⟨b2, e3, h⟩ := h
    rw [e3]
    obtain ⟨k4, h⟩ := h
    obtain ⟨v5, h⟩ := h
    refine at_iald 387 rfl (by decide +kernel) k4 v5 ?_
    refine at_i2l 388 rfl (by decide +kernel) ?_
    refine at_lmul 389 rfl (by decide +kernel) ?_
    refine at_aload_n (i := 0) 0 390 rfl (by decide +kernel) rfl ?_
    obtain ⟨k6, h⟩ := h
    refine at_get (index := 116) (v := va_rf (mR m t 38)) cok12 38 393 rfl (by decide +kernel) k6 (by decide +kernel) tw_1123 rfl ?_
    refine at_iload (i := 15) 9 395 rfl (by decide +kernel) rfl ?_
    obtain ⟨b7, e8, h⟩ := h
    rw [e8]
    obtain ⟨k9, h⟩ := h
    obtain ⟨v10, h⟩ := h
    refine at_lald 396 rfl (by decide +kernel) k9 v10 ?_
    refine at_ladd 397 rfl (by decide +kernel) ?_
    refine at_lstore (i := 17) (lc' := [(0, va_rf (some t)), (1, .int (l1)), (3, va_rf (some b2)), (4, .int (l4)), (5, .int (l5)), (6, .int (l6)), (12, .int (l12)), (13, .int (l13)), (14, .int (l14)), (15, .int (l15)), (17, .long ((l12.toInt64 * ((mI m b2 (l4 + l14).toNatClampNeg).toInt64)) + (mL m b7 l15.toNatClampNeg)))]) [1, 2, 3, 4, 5, 6, 7, 8, 9, 10, 0] 399 rfl (by decide +kernel) (by decide +kernel) rfl ?_
    refine at_lconst (n := 0) (0 : Int64) 400 rfl (by decide +kernel) (by decide +kernel) ?_
    refine at_aload_n (i := 3) 2 401 rfl (by decide +kernel) rfl ?_
    refine at_iload (i := 4) 3 403 rfl (by decide +kernel) rfl ?_
    refine at_iload (i := 14) 8 405 rfl (by decide +kernel) rfl ?_
    refine at_iadd 406 rfl (by decide +kernel) ?_
    obtain ⟨v11, h⟩ := h
    refine at_iald 407 rfl (by decide +kernel) k4 v11 ?_
    refine at_i2l 408 rfl (by decide +kernel) ?_
    refine at_lload (i := 17) 10 410 rfl (by decide +kernel) rfl ?_
    refine at_ldc2 (index := 174) (100 : Int64) 413 rfl (by decide +kernel) tw_1318 ?_
    refine at_ldiv 414 rfl (by decide +kernel) (by decide +kernel) ?_
    refine at_lmn (index := 349) 417 rfl (by decide +kernel) tw_1454 (by simp [va_rf_cat, cat_int, cat_long]) ?_
    refine at_lmx (index := 341) 420 rfl (by decide +kernel) tw_1453 (by decide) ?_
    refine at_l2i 421 rfl (by decide +kernel) ?_
    refine at_istore (i := 19) (lc' := [(0, va_rf (some t)), (1, .int (l1)), (3, va_rf (some b2)), (4, .int (l4)), (5, .int (l5)), (6, .int (l6)), (12, .int (l12)), (13, .int (l13)), (14, .int (l14)), (15, .int (l15)), (17, .long ((l12.toInt64 * ((mI m b2 (l4 + l14).toNatClampNeg).toInt64)) + (mL m b7 l15.toNatClampNeg))), (19, .int ((lmx (0 : Int64) (lmn ((mI m b2 (l4 + l14).toNatClampNeg).toInt64) (((l12.toInt64 * ((mI m b2 (l4 + l14).toNatClampNeg).toInt64)) + (mL m b7 l15.toNatClampNeg)) / (100 : Int64)))).toInt32))]) [1, 2, 3, 4, 5, 6, 7, 8, 9, 10, 11, 0] 423 rfl (by decide +kernel) (by decide +kernel) rfl ?_
    refine at_aload_n (i := 0) 0 424 rfl (by decide +kernel) rfl ?_
    refine at_get (index := 116) (v := va_rf (mR m t 38)) cok12 38 427 rfl (by decide +kernel) k6 (by decide +kernel) tw_1123 rfl ?_
    rw [e8]
    refine at_iload (i := 15) 9 429 rfl (by decide +kernel) rfl ?_
    refine at_lload (i := 17) 10 431 rfl (by decide +kernel) rfl ?_
    refine at_ldc2 (index := 174) (100 : Int64) 434 rfl (by decide +kernel) tw_1318 ?_
    refine at_iload (i := 19) 11 436 rfl (by decide +kernel) rfl ?_
    refine at_i2l 437 rfl (by decide +kernel) ?_
    refine at_lmul 438 rfl (by decide +kernel) ?_
    refine at_lsub 439 rfl (by decide +kernel) ?_
    obtain ⟨v12, h⟩ := h
    refine at_last 440 rfl (by decide +kernel) k9 v12 (fun m13 e14 => ?_)
    replace h := h m13 e14
    have k15 : mK m13 b2 = 15 := by rw [e14]; exact k4
    have k16 : mK m13 t = 13 := by rw [e14]; exact k6
    have k17 : mK m13 b7 = 16 := by rw [e14]; exact k9
    refine at_iload (i := 19) 11 442 rfl (by decide +kernel) rfl ?_
    refine at_if_ne (off := 6) 448 445 rfl (by decide +kernel) (by decide +kernel) (fun c18 => ?_) (fun c18 => ?_)
    · rw [if_neg c18] at h
      refine at_aload_n (i := 0) 0 449 rfl (by decide +kernel) rfl ?_
      refine at_get (index := 113) (v := va_rf (mR m13 t 37)) cok12 37 452 rfl (by decide +kernel) k16 (by decide +kernel) tw_1122 rfl ?_
      refine at_iload (i := 15) 9 454 rfl (by decide +kernel) rfl ?_
      refine at_dup2_11 455 rfl (by decide +kernel) rfl (va_rf_cat _) ?_
      obtain ⟨b19, e20, h⟩ := h
      rw [e20]
      obtain ⟨k21, h⟩ := h
      obtain ⟨v22, h⟩ := h
      refine at_iald 456 rfl (by decide +kernel) k21 v22 ?_
      refine at_iload (i := 19) 11 458 rfl (by decide +kernel) rfl ?_
      refine at_isub 459 rfl (by decide +kernel) ?_
      obtain ⟨v23, h⟩ := h
      refine at_iast 460 rfl (by decide +kernel) k21 v23 (fun m24 e25 => ?_)
      replace h := h m24 e25
      have k26 : mK m24 b2 = 15 := by rw [e25]; exact k15
      have k27 : mK m24 t = 13 := by rw [e25]; exact k16
      have k28 : mK m24 b7 = 16 := by rw [e25]; exact k17
      have k29 : mK m24 b19 = 15 := by rw [e25]; exact k21
      refine at_aload_n (i := 0) 0 461 rfl (by decide +kernel) rfl ?_
      refine at_get (index := 131) (v := va_rf (mR m24 t 43)) cok12 43 464 rfl (by decide +kernel) k27 (by decide +kernel) tw_1128 rfl ?_
      refine at_bipush (n := 8) (8 : Int32) 466 rfl (by decide +kernel) (by decide +kernel) ?_
      refine at_iload_n (i := 1) 1 467 rfl (by decide +kernel) rfl ?_
      refine at_imul 468 rfl (by decide +kernel) ?_
      refine at_iconst (n := 1) (1 : Int32) 469 rfl (by decide +kernel) (by decide +kernel) ?_
      refine at_iadd 470 rfl (by decide +kernel) ?_
      refine at_dup2_11 471 rfl (by decide +kernel) rfl (va_rf_cat _) ?_
      obtain ⟨b30, e31, h⟩ := h
      rw [e31]
      obtain ⟨k32, h⟩ := h
      obtain ⟨v33, h⟩ := h
      refine at_lald 472 rfl (by decide +kernel) k32 v33 ?_
      refine at_iload (i := 19) 11 474 rfl (by decide +kernel) rfl ?_
      refine at_i2l 475 rfl (by decide +kernel) ?_
      refine at_ladd 476 rfl (by decide +kernel) ?_
      obtain ⟨v34, h⟩ := h
      refine at_last 477 rfl (by decide +kernel) k32 v34 (fun m35 e36 => ?_)
      replace h := h m35 e36
      have k37 : mK m35 b2 = 15 := by rw [e36]; exact k26
      have k38 : mK m35 t = 13 := by rw [e36]; exact k27
      have k39 : mK m35 b7 = 16 := by rw [e36]; exact k28
      have k40 : mK m35 b19 = 15 := by rw [e36]; exact k29
      have k41 : mK m35 b30 = 16 := by rw [e36]; exact k32
      refine at_iload_n (i := 1) 1 478 rfl (by decide +kernel) rfl ?_
      refine at_if_ne (off := 12) 490 481 rfl (by decide +kernel) (by decide +kernel) (fun c42 => ?_) (fun c42 => ?_)
      · rw [if_neg c42] at h
        exact At.sub [0, 1, 2, 3, 4, 5, 6, 7, 8, 11] rfl h
      · rw [if_pos c42] at h
        refine at_aload_n (i := 0) 0 482 rfl (by decide +kernel) rfl ?_
        refine at_get (index := 92) (v := va_rf (mR m35 t 30)) cok12 30 485 rfl (by decide +kernel) k38 (by decide +kernel) tw_1115 rfl ?_
        refine at_iload (i := 14) 8 487 rfl (by decide +kernel) rfl ?_
        refine at_iload (i := 19) 11 489 rfl (by decide +kernel) rfl ?_
        obtain ⟨b43, e44, h⟩ := h
        rw [e44]
        obtain ⟨k45, h⟩ := h
        obtain ⟨v46, h⟩ := h
        refine at_iast 490 rfl (by decide +kernel) k45 v46 (fun m47 e48 => ?_)
        replace h := h m47 e48
        have k49 : mK m47 b2 = 15 := by rw [e48]; exact k37
        have k50 : mK m47 t = 13 := by rw [e48]; exact k38
        have k51 : mK m47 b7 = 16 := by rw [e48]; exact k39
        have k52 : mK m47 b19 = 15 := by rw [e48]; exact k40
        have k53 : mK m47 b30 = 16 := by rw [e48]; exact k41
        have k54 : mK m47 b43 = 15 := by rw [e48]; exact k45
        exact At.sub [0, 1, 2, 3, 4, 5, 6, 7, 8, 11] rfl h
    · rw [if_pos c18] at h
      refine at_goto (off := 58) 503 (by decide +kernel) (by decide +kernel) ?_
      refine at_iinc (i := 14) (n := 1) (lc' := [(0, va_rf (some t)), (1, .int (l1)), (3, va_rf (some b2)), (4, .int (l4)), (5, .int (l5)), (6, .int (l6)), (12, .int (l12)), (13, .int (l13)), (14, .int (l14 + (1 : Int32)))]) (l14 + (1 : Int32)) 8 [1, 2, 3, 4, 5, 6, 7, 8, 0] 506 rfl (by decide +kernel) rfl (by rw [show Int32.ofInt 1 = (1 : Int32) from by decide +kernel]) (by decide +kernel) rfl ?_
      refine at_goto (off := (-238)) 268 (by decide +kernel) (by decide +kernel) ?_
      exact h
  · rw [if_neg c1] at h
    refine at_goto (off := 129) 503 (by decide +kernel) (by decide +kernel) ?_
    refine at_iinc (i := 14) (n := 1) (lc' := [(0, va_rf (some t)), (1, .int (l1)), (3, va_rf (l3)), (4, .int (l4)), (5, .int (l5)), (6, .int (l6)), (12, .int (l12)), (13, .int (l13)), (14, .int (l14 + (1 : Int32)))]) (l14 + (1 : Int32)) 8 [1, 2, 3, 4, 5, 6, 7, 8, 0] 506 rfl (by decide +kernel) rfl (by rw [show Int32.ofInt 1 = (1 : Int32) from by decide +kernel]) (by decide +kernel) rfl ?_
    refine at_goto (off := (-238)) 268 (by decide +kernel) (by decide +kernel) ?_
    exact h
set_option maxRecDepth 20000 in
set_option maxHeartbeats 4000000 in
theorem bk_RF_passes_340 (g : Gc) {lv : Nat} {t : Nat} {l1 : Int32} {l3 : Option Nat} {l4 : Int32} {l5 : Int32} {l6 : Int32} {l12 : Int32} {l13 : Int32} {l14 : Int32} {l15 : Int32} {s0 : Int32} {m : Mm} {Q : Int32 → Mm → Prop} (h : if (l1) = 0 then (mK m t = 13 ∧ (∃ b3, mR m t 27 = some b3 ∧ (mK m b3 = 17 ∧ (vp_in (((12 : Int32) * l5) + l14) (mN m b3) ∧ (b01 s0 ∧ (∀ m8, m8 = sI m b3 (((12 : Int32) * l5) + l14).toNatClampNeg s0 → (∃ b12, mR m8 t 30 = some b12 ∧ (mK m8 b12 = 15 ∧ (vp_in l14 (mN m8 b12) ∧ (∀ m16, m16 = sI m8 b12 l14.toNatClampNeg (0 : Int32) → (At g M_RF_passes (lv + 1) 369 [(0, va_rf (some t)), (1, .int (l1)), (3, va_rf (l3)), (4, .int (l4)), (5, .int (l5)), (6, .int (l6)), (12, .int (l12)), (13, .int (l13)), (14, .int (l14)), (15, .int (l15)), (16, .int (s0))] [] m16 (QI Q)))))))))))) else (At g M_RF_passes (lv + 1) 369 [(0, va_rf (some t)), (1, .int (l1)), (3, va_rf (l3)), (4, .int (l4)), (5, .int (l5)), (6, .int (l6)), (12, .int (l12)), (13, .int (l13)), (14, .int (l14)), (15, .int (l15)), (16, .int (s0))] [] m (QI Q))) : At g M_RF_passes (lv + 1) 340 [(0, va_rf (some t)), (1, .int (l1)), (3, va_rf (l3)), (4, .int (l4)), (5, .int (l5)), (6, .int (l6)), (12, .int (l12)), (13, .int (l13)), (14, .int (l14)), (15, .int (l15))] [.int (s0)] m (QI Q) := by
  refine at_istore (i := 16) (lc' := [(0, va_rf (some t)), (1, .int (l1)), (3, va_rf (l3)), (4, .int (l4)), (5, .int (l5)), (6, .int (l6)), (12, .int (l12)), (13, .int (l13)), (14, .int (l14)), (15, .int (l15)), (16, .int (s0))]) [1, 2, 3, 4, 5, 6, 7, 8, 9, 10, 0] 342 rfl (by decide +kernel) (by decide +kernel) rfl ?_
  refine at_iload_n (i := 1) 1 343 rfl (by decide +kernel) rfl ?_
  refine at_if_ne (off := 26) 369 346 rfl (by decide +kernel) (by decide +kernel) (fun c1 => ?_) (fun c1 => ?_)
  · rw [if_neg c1] at h
    exact h
  · rw [if_pos c1] at h
    refine at_aload_n (i := 0) 0 347 rfl (by decide +kernel) rfl ?_
    obtain ⟨k2, h⟩ := h
    refine at_get (index := 82) (v := va_rf (mR m t 27)) cok12 27 350 rfl (by decide +kernel) k2 (by decide +kernel) tw_1112 rfl ?_
    refine at_bipush (n := 12) (12 : Int32) 352 rfl (by decide +kernel) (by decide +kernel) ?_
    refine at_iload (i := 5) 4 354 rfl (by decide +kernel) rfl ?_
    refine at_imul 355 rfl (by decide +kernel) ?_
    refine at_iload (i := 14) 8 357 rfl (by decide +kernel) rfl ?_
    refine at_iadd 358 rfl (by decide +kernel) ?_
    refine at_iload (i := 16) 10 360 rfl (by decide +kernel) rfl ?_
    obtain ⟨b3, e4, h⟩ := h
    rw [e4]
    obtain ⟨k5, h⟩ := h
    obtain ⟨v6, h⟩ := h
    obtain ⟨d7, h⟩ := h
    refine at_zast 361 rfl (by decide +kernel) k5 v6 d7 (fun m8 e9 => ?_)
    replace h := h m8 e9
    have k10 : mK m8 t = 13 := by rw [e9]; exact k2
    have k11 : mK m8 b3 = 17 := by rw [e9]; exact k5
    refine at_aload_n (i := 0) 0 362 rfl (by decide +kernel) rfl ?_
    refine at_get (index := 92) (v := va_rf (mR m8 t 30)) cok12 30 365 rfl (by decide +kernel) k10 (by decide +kernel) tw_1115 rfl ?_
    refine at_iload (i := 14) 8 367 rfl (by decide +kernel) rfl ?_
    refine at_iconst (n := 0) (0 : Int32) 368 rfl (by decide +kernel) (by decide +kernel) ?_
    obtain ⟨b12, e13, h⟩ := h
    rw [e13]
    obtain ⟨k14, h⟩ := h
    obtain ⟨v15, h⟩ := h
    refine at_iast 369 rfl (by decide +kernel) k14 v15 (fun m16 e17 => ?_)
    replace h := h m16 e17
    have k18 : mK m16 t = 13 := by rw [e17]; exact k10
    have k19 : mK m16 b3 = 17 := by rw [e17]; exact k11
    have k20 : mK m16 b12 = 15 := by rw [e17]; exact k14
    exact h
set_option maxRecDepth 20000 in
set_option maxHeartbeats 4000000 in
theorem bk_RF_passes_335 (g : Gc) {lv : Nat} {t : Nat} {l1 : Int32} {l3 : Option Nat} {l4 : Int32} {l5 : Int32} {l6 : Int32} {l12 : Int32} {l13 : Int32} {l14 : Int32} {l15 : Int32} {m : Mm} {Q : Int32 → Mm → Prop} (h : At g M_RF_passes (lv + 1) 340 [(0, va_rf (some t)), (1, .int (l1)), (3, va_rf (l3)), (4, .int (l4)), (5, .int (l5)), (6, .int (l6)), (12, .int (l12)), (13, .int (l13)), (14, .int (l14)), (15, .int (l15))] [.int ((1 : Int32))] m (QI Q)) : At g M_RF_passes (lv + 1) 335 [(0, va_rf (some t)), (1, .int (l1)), (3, va_rf (l3)), (4, .int (l4)), (5, .int (l5)), (6, .int (l6)), (12, .int (l12)), (13, .int (l13)), (14, .int (l14)), (15, .int (l15))] [] m (QI Q) := by
  refine at_iconst (n := 1) (1 : Int32) 336 rfl (by decide +kernel) (by decide +kernel) ?_
  refine at_goto (off := 4) 340 (by decide +kernel) (by decide +kernel) ?_
  exact h
set_option maxRecDepth 20000 in
set_option maxHeartbeats 4000000 in
theorem bk_RF_passes_268 (g : Gc) {lv : Nat} {t : Nat} {l1 : Int32} {l3 : Option Nat} {l4 : Int32} {l5 : Int32} {l6 : Int32} {l12 : Int32} {l13 : Int32} {l14 : Int32} {m : Mm} {Q : Int32 → Mm → Prop} (h : mK m t = 13 ∧ (if (mI m t 19) ≤ (l14) then (At g M_RF_passes (lv + 1) 516 [(0, va_rf (some t)), (1, .int (l1)), (5, .int (l5)), (6, .int (l6)), (12, .int (l12)), (13, .int (l13)), (14, .int (l13)), (15, .int ((0 : Int32)))] [] m (QI Q)) else (∃ b3, mR m t 37 = some b3 ∧ (mK m b3 = 15 ∧ (vp_in (((12 : Int32) * l1) + l14) (mN m b3) ∧ (∃ b7, l3 = some b7 ∧ (mK m b7 = 15 ∧ (vp_in (l4 + l14) (mN m b7) ∧ (vp_in (((12 : Int32) * l1) + l14) (mN m b3) ∧ (∀ m12, m12 = sI m b3 (((12 : Int32) * l1) + l14).toNatClampNeg ((mI m b3 (((12 : Int32) * l1) + l14).toNatClampNeg) + (mI m b7 (l4 + l14).toNatClampNeg)) → (∃ b17, mR m12 t 20 = some b17 ∧ (mK m12 b17 = 15 ∧ (vp_in l14 (mN m12 b17) ∧ (if (((mI m12 t 61) >>> ((mI m12 b17 l14.toNatClampNeg) &&& 31)) &&& (1 : Int32)) = ((1 : Int32)) then (At g M_RF_passes (lv + 1) 335 [(0, va_rf (some t)), (1, .int (l1)), (3, va_rf (some b7)), (4, .int (l4)), (5, .int (l5)), (6, .int (l6)), (12, .int (l12)), (13, .int (l13)), (14, .int (l14)), (15, .int (((12 : Int32) * l1) + l14))] [] m12 (QI Q)) else (vp_in (l4 + l14) (mN m12 b7) ∧ (if (mI m12 t 62) ≤ (mI m12 b7 (l4 + l14).toNatClampNeg) then (At g M_RF_passes (lv + 1) 340 [(0, va_rf (some t)), (1, .int (l1)), (3, va_rf (some b7)), (4, .int (l4)), (5, .int (l5)), (6, .int (l6)), (12, .int (l12)), (13, .int (l13)), (14, .int (l14)), (15, .int (((12 : Int32) * l1) + l14))] [.int ((0 : Int32))] m12 (QI Q)) else (At g M_RF_passes (lv + 1) 335 [(0, va_rf (some t)), (1, .int (l1)), (3, va_rf (some b7)), (4, .int (l4)), (5, .int (l5)), (6, .int (l6)), (12, .int (l12)), (13, .int (l13)), (14, .int (l14)), (15, .int (((12 : Int32) * l1) + l14))] [] m12 (QI Q)))))))))))))))))) : At g M_RF_passes (lv + 1) 268 [(0, va_rf (some t)), (1, .int (l1)), (3, va_rf (l3)), (4, .int (l4)), (5, .int (l5)), (6, .int (l6)), (12, .int (l12)), (13, .int (l13)), (14, .int (l14))] [] m (QI Q) := by
  refine at_iload (i := 14) 8 270 rfl (by decide +kernel) rfl ?_
  refine at_aload_n (i := 0) 0 271 rfl (by decide +kernel) rfl ?_
  obtain ⟨k1, h⟩ := h
  refine at_get (index := 185) (v := .int (mI m t 19)) cok12 19 274 rfl (by decide +kernel) k1 (by decide +kernel) tw_1104 rfl ?_
  refine at_icmp_ge (off := 235) 509 277 rfl (by decide +kernel) (by decide +kernel) (fun c2 => ?_) (fun c2 => ?_)
  · rw [if_pos c2] at h
    refine at_iload (i := 13) 7 511 rfl (by decide +kernel) rfl ?_
    refine at_istore (i := 14) (lc' := [(0, va_rf (some t)), (1, .int (l1)), (5, .int (l5)), (6, .int (l6)), (12, .int (l12)), (13, .int (l13)), (14, .int (l13))]) [1, 2, 5, 6, 7, 8, 0] 513 rfl (by decide +kernel) (by decide +kernel) rfl ?_
    refine at_iconst (n := 0) (0 : Int32) 514 rfl (by decide +kernel) (by decide +kernel) ?_
    refine at_istore (i := 15) (lc' := [(0, va_rf (some t)), (1, .int (l1)), (5, .int (l5)), (6, .int (l6)), (12, .int (l12)), (13, .int (l13)), (14, .int (l13)), (15, .int ((0 : Int32)))]) [1, 2, 3, 4, 5, 6, 7, 0] 516 rfl (by decide +kernel) (by decide +kernel) rfl ?_
    exact h
  · rw [if_neg c2] at h
    refine at_bipush (n := 12) (12 : Int32) 279 rfl (by decide +kernel) (by decide +kernel) ?_
    refine at_iload_n (i := 1) 1 280 rfl (by decide +kernel) rfl ?_
    refine at_imul 281 rfl (by decide +kernel) ?_
    refine at_iload (i := 14) 8 283 rfl (by decide +kernel) rfl ?_
    refine at_iadd 284 rfl (by decide +kernel) ?_
    refine at_istore (i := 15) (lc' := [(0, va_rf (some t)), (1, .int (l1)), (3, va_rf (l3)), (4, .int (l4)), (5, .int (l5)), (6, .int (l6)), (12, .int (l12)), (13, .int (l13)), (14, .int (l14)), (15, .int (((12 : Int32) * l1) + l14))]) [1, 2, 3, 4, 5, 6, 7, 8, 9, 0] 286 rfl (by decide +kernel) (by decide +kernel) rfl ?_
    refine at_aload_n (i := 0) 0 287 rfl (by decide +kernel) rfl ?_
    refine at_get (index := 113) (v := va_rf (mR m t 37)) cok12 37 290 rfl (by decide +kernel) k1 (by decide +kernel) tw_1122 rfl ?_
    refine at_iload (i := 15) 9 292 rfl (by decide +kernel) rfl ?_
    refine at_dup2_11 293 rfl (by decide +kernel) rfl (va_rf_cat _) ?_
    obtain ⟨b3, e4, h⟩ := h
    rw [e4]
    obtain ⟨k5, h⟩ := h
    obtain ⟨v6, h⟩ := h
    refine at_iald 294 rfl (by decide +kernel) k5 v6 ?_
    refine at_aload_n (i := 3) 2 295 rfl (by decide +kernel) rfl ?_
    refine at_iload (i := 4) 3 297 rfl (by decide +kernel) rfl ?_
    refine at_iload (i := 14) 8 299 rfl (by decide +kernel) rfl ?_
    refine at_iadd 300 rfl (by decide +kernel) ?_
    obtain ⟨b7, e8, h⟩ := h
    rw [e8]
    obtain ⟨k9, h⟩ := h
    obtain ⟨v10, h⟩ := h
    refine at_iald 301 rfl (by decide +kernel) k9 v10 ?_
    refine at_iadd 302 rfl (by decide +kernel) ?_
    obtain ⟨v11, h⟩ := h
    refine at_iast 303 rfl (by decide +kernel) k5 v11 (fun m12 e13 => ?_)
    replace h := h m12 e13
    have k14 : mK m12 t = 13 := by rw [e13]; exact k1
    have k15 : mK m12 b3 = 15 := by rw [e13]; exact k5
    have k16 : mK m12 b7 = 15 := by rw [e13]; exact k9
    refine at_aload_n (i := 0) 0 304 rfl (by decide +kernel) rfl ?_
    refine at_get (index := 292) (v := .int (mI m12 t 61)) cok12 61 307 rfl (by decide +kernel) k14 (by decide +kernel) tw_1146 rfl ?_
    refine at_aload_n (i := 0) 0 308 rfl (by decide +kernel) rfl ?_
    refine at_get (index := 61) (v := va_rf (mR m12 t 20)) cok12 20 311 rfl (by decide +kernel) k14 (by decide +kernel) tw_1105 rfl ?_
    refine at_iload (i := 14) 8 313 rfl (by decide +kernel) rfl ?_
    obtain ⟨b17, e18, h⟩ := h
    rw [e18]
    obtain ⟨k19, h⟩ := h
    obtain ⟨v20, h⟩ := h
    refine at_iald 314 rfl (by decide +kernel) k19 v20 ?_
    refine at_ishr 315 rfl (by decide +kernel) ?_
    refine at_iconst (n := 1) (1 : Int32) 316 rfl (by decide +kernel) (by decide +kernel) ?_
    refine at_iand 317 rfl (by decide +kernel) ?_
    refine at_iconst (n := 1) (1 : Int32) 318 rfl (by decide +kernel) (by decide +kernel) ?_
    refine at_icmp_eq (off := 17) 335 321 rfl (by decide +kernel) (by decide +kernel) (fun c21 => ?_) (fun c21 => ?_)
    · rw [if_pos c21] at h
      exact h
    · rw [if_neg c21] at h
      refine at_aload_n (i := 3) 2 322 rfl (by decide +kernel) rfl ?_
      refine at_iload (i := 4) 3 324 rfl (by decide +kernel) rfl ?_
      refine at_iload (i := 14) 8 326 rfl (by decide +kernel) rfl ?_
      refine at_iadd 327 rfl (by decide +kernel) ?_
      obtain ⟨v22, h⟩ := h
      refine at_iald 328 rfl (by decide +kernel) k16 v22 ?_
      refine at_aload_n (i := 0) 0 329 rfl (by decide +kernel) rfl ?_
      refine at_get (index := 295) (v := .int (mI m12 t 62)) cok12 62 332 rfl (by decide +kernel) k14 (by decide +kernel) tw_1147 rfl ?_
      refine at_icmp_ge (off := 7) 339 335 rfl (by decide +kernel) (by decide +kernel) (fun c23 => ?_) (fun c23 => ?_)
      · rw [if_pos c23] at h
        refine at_iconst (n := 0) (0 : Int32) 340 rfl (by decide +kernel) (by decide +kernel) ?_
        exact h
      · rw [if_neg c23] at h
        exact h
set_option maxRecDepth 20000 in
set_option maxHeartbeats 4000000 in
theorem bk_RF_passes_221 (g : Gc) {lv : Nat} {t : Nat} {l1 : Int32} {l3 : Option Nat} {l4 : Int32} {l5 : Int32} {l6 : Int32} {l7 : Int32} {l8 : Int64} {s0 : Int32} {m : Mm} {Q : Int32 → Mm → Prop} (h : mK m t = 13 ∧ (if (mI m t 60) = 0 then (∃ b3, mR m t 43 = some b3 ∧ (mK m b3 = 16 ∧ (vp_in ((8 : Int32) * l1) (mN m b3) ∧ (vp_in ((8 : Int32) * l1) (mN m b3) ∧ (∀ m8, m8 = sL m b3 ((8 : Int32) * l1).toNatClampNeg ((mL m b3 ((8 : Int32) * l1).toNatClampNeg) + l8) → (At g M_RF_passes (lv + 1) 268 [(0, va_rf (some t)), (1, .int (l1)), (3, va_rf (l3)), (4, .int (l4)), (5, .int (l5)), (6, .int (l6)), (12, .int (s0)), (13, .int ((0 : Int32))), (14, .int ((0 : Int32)))] [] m8 (QI Q))))))) else (∃ b12, mR m t 43 = some b12 ∧ (mK m b12 = 16 ∧ (vp_in ((8 : Int32) * l1) (mN m b12) ∧ (vp_in ((8 : Int32) * l1) (mN m b12) ∧ (∀ m17, m17 = sL m b12 ((8 : Int32) * l1).toNatClampNeg ((mL m b12 ((8 : Int32) * l1).toNatClampNeg) + l8) → (At g M_RF_passes (lv + 1) 268 [(0, va_rf (some t)), (1, .int (l1)), (3, va_rf (l3)), (4, .int (l4)), (5, .int (l5)), (6, .int (l6)), (12, .int (s0)), (13, .int ((lmx (0 : Int64) (lmn l7.toInt64 (mL m t 58))).toInt32)), (14, .int ((0 : Int32)))] [] m17 (QI Q))))))))) : At g M_RF_passes (lv + 1) 221 [(0, va_rf (some t)), (1, .int (l1)), (3, va_rf (l3)), (4, .int (l4)), (5, .int (l5)), (6, .int (l6)), (7, .int (l7)), (8, .long (l8))] [.int (s0)] m (QI Q) := by
  refine at_istore (i := 12) (lc' := [(0, va_rf (some t)), (1, .int (l1)), (3, va_rf (l3)), (4, .int (l4)), (5, .int (l5)), (6, .int (l6)), (7, .int (l7)), (8, .long (l8)), (12, .int (s0))]) [1, 2, 3, 4, 5, 6, 7, 8, 0] 223 rfl (by decide +kernel) (by decide +kernel) rfl ?_
  refine at_aload_n (i := 0) 0 224 rfl (by decide +kernel) rfl ?_
  obtain ⟨k1, h⟩ := h
  refine at_get (index := 320) (v := .int (mI m t 60)) cok12 60 227 rfl (by decide +kernel) k1 (by decide +kernel) tw_1145 rfl ?_
  refine at_if_eq (off := 21) 248 230 rfl (by decide +kernel) (by decide +kernel) (fun c2 => ?_) (fun c2 => ?_)
  · rw [if_pos c2] at h
    refine at_iconst (n := 0) (0 : Int32) 249 rfl (by decide +kernel) (by decide +kernel) ?_
    refine at_istore (i := 13) (lc' := [(0, va_rf (some t)), (1, .int (l1)), (3, va_rf (l3)), (4, .int (l4)), (5, .int (l5)), (6, .int (l6)), (8, .long (l8)), (12, .int (s0)), (13, .int ((0 : Int32)))]) [1, 2, 3, 4, 5, 6, 8, 9, 0] 251 rfl (by decide +kernel) (by decide +kernel) rfl ?_
    refine at_aload_n (i := 0) 0 252 rfl (by decide +kernel) rfl ?_
    refine at_get (index := 131) (v := va_rf (mR m t 43)) cok12 43 255 rfl (by decide +kernel) k1 (by decide +kernel) tw_1128 rfl ?_
    refine at_bipush (n := 8) (8 : Int32) 257 rfl (by decide +kernel) (by decide +kernel) ?_
    refine at_iload_n (i := 1) 1 258 rfl (by decide +kernel) rfl ?_
    refine at_imul 259 rfl (by decide +kernel) ?_
    refine at_dup2_11 260 rfl (by decide +kernel) rfl (va_rf_cat _) ?_
    obtain ⟨b3, e4, h⟩ := h
    rw [e4]
    obtain ⟨k5, h⟩ := h
    obtain ⟨v6, h⟩ := h
    refine at_lald 261 rfl (by decide +kernel) k5 v6 ?_
    refine at_lload (i := 8) 6 263 rfl (by decide +kernel) rfl ?_
    refine at_ladd 264 rfl (by decide +kernel) ?_
    obtain ⟨v7, h⟩ := h
    refine at_last 265 rfl (by decide +kernel) k5 v7 (fun m8 e9 => ?_)
    replace h := h m8 e9
    have k10 : mK m8 t = 13 := by rw [e9]; exact k1
    have k11 : mK m8 b3 = 16 := by rw [e9]; exact k5
    refine at_iconst (n := 0) (0 : Int32) 266 rfl (by decide +kernel) (by decide +kernel) ?_
    refine at_istore (i := 14) (lc' := [(0, va_rf (some t)), (1, .int (l1)), (3, va_rf (l3)), (4, .int (l4)), (5, .int (l5)), (6, .int (l6)), (12, .int (s0)), (13, .int ((0 : Int32))), (14, .int ((0 : Int32)))]) [1, 2, 3, 4, 5, 6, 8, 9, 0] 268 rfl (by decide +kernel) (by decide +kernel) rfl ?_
    exact h
  · rw [if_neg c2] at h
    refine at_lconst (n := 0) (0 : Int64) 231 rfl (by decide +kernel) (by decide +kernel) ?_
    refine at_iload (i := 7) 6 233 rfl (by decide +kernel) rfl ?_
    refine at_i2l 234 rfl (by decide +kernel) ?_
    refine at_aload_n (i := 0) 0 235 rfl (by decide +kernel) rfl ?_
    refine at_get (index := 323) (v := .long (mL m t 58)) cok12 58 238 rfl (by decide +kernel) k1 (by decide +kernel) tw_1143 rfl ?_
    refine at_lmn (index := 349) 241 rfl (by decide +kernel) tw_1454 (by simp [va_rf_cat, cat_int, cat_long]) ?_
    refine at_lmx (index := 341) 244 rfl (by decide +kernel) tw_1453 (by decide) ?_
    refine at_l2i 245 rfl (by decide +kernel) ?_
    refine at_goto (off := 4) 249 (by decide +kernel) (by decide +kernel) ?_
    refine at_istore (i := 13) (lc' := [(0, va_rf (some t)), (1, .int (l1)), (3, va_rf (l3)), (4, .int (l4)), (5, .int (l5)), (6, .int (l6)), (8, .long (l8)), (12, .int (s0)), (13, .int ((lmx (0 : Int64) (lmn l7.toInt64 (mL m t 58))).toInt32))]) [1, 2, 3, 4, 5, 6, 8, 9, 0] 251 rfl (by decide +kernel) (by decide +kernel) rfl ?_
    refine at_aload_n (i := 0) 0 252 rfl (by decide +kernel) rfl ?_
    refine at_get (index := 131) (v := va_rf (mR m t 43)) cok12 43 255 rfl (by decide +kernel) k1 (by decide +kernel) tw_1128 rfl ?_
    refine at_bipush (n := 8) (8 : Int32) 257 rfl (by decide +kernel) (by decide +kernel) ?_
    refine at_iload_n (i := 1) 1 258 rfl (by decide +kernel) rfl ?_
    refine at_imul 259 rfl (by decide +kernel) ?_
    refine at_dup2_11 260 rfl (by decide +kernel) rfl (va_rf_cat _) ?_
    obtain ⟨b12, e13, h⟩ := h
    rw [e13]
    obtain ⟨k14, h⟩ := h
    obtain ⟨v15, h⟩ := h
    refine at_lald 261 rfl (by decide +kernel) k14 v15 ?_
    refine at_lload (i := 8) 6 263 rfl (by decide +kernel) rfl ?_
    refine at_ladd 264 rfl (by decide +kernel) ?_
    obtain ⟨v16, h⟩ := h
    refine at_last 265 rfl (by decide +kernel) k14 v16 (fun m17 e18 => ?_)
    replace h := h m17 e18
    have k19 : mK m17 t = 13 := by rw [e18]; exact k1
    have k20 : mK m17 b12 = 16 := by rw [e18]; exact k14
    refine at_iconst (n := 0) (0 : Int32) 266 rfl (by decide +kernel) (by decide +kernel) ?_
    refine at_istore (i := 14) (lc' := [(0, va_rf (some t)), (1, .int (l1)), (3, va_rf (l3)), (4, .int (l4)), (5, .int (l5)), (6, .int (l6)), (12, .int (s0)), (13, .int ((lmx (0 : Int64) (lmn l7.toInt64 (mL m t 58))).toInt32)), (14, .int ((0 : Int32)))]) [1, 2, 3, 4, 5, 6, 8, 9, 0] 268 rfl (by decide +kernel) (by decide +kernel) rfl ?_
    exact h
set_option maxRecDepth 20000 in
set_option maxHeartbeats 4000000 in
theorem bk_RF_passes_63 (g : Gc) {lv : Nat} {t : Nat} {l1 : Int32} {l2 : Int32} {l3 : Option Nat} {l4 : Int32} {l5 : Int32} {l6 : Int32} {l7 : Int32} {l8 : Int64} {l10 : Int64} {l12 : Int32} {m : Mm} {Q : Int32 → Mm → Prop} (h : if (l6) ≤ (l12) then (mK m t = 13 ∧ (CI g M_RF_wants lv [va_rf (some t), .int (l1)] m (fun x3 m4 => (∃ b7, mR m t 34 = some b7 ∧ (mK m4 b7 = 15 ∧ (vp_in l1 (mN m4 b7) ∧ (∀ m11, m11 = sI m4 b7 l1.toNatClampNeg x3 → (∃ b15, mR m11 t 56 = some b15 ∧ (mK m11 b15 = 16 ∧ (vp_in (0 : Int32) (mN m11 b15) ∧ (∀ m19, m19 = sL m11 b15 (0 : Int32).toNatClampNeg l8 → (∃ b24, mR m19 t 56 = some b24 ∧ (mK m19 b24 = 16 ∧ (vp_in (1 : Int32) (mN m19 b24) ∧ (∀ m28, m28 = sL m19 b24 (1 : Int32).toNatClampNeg l7.toInt64 → (∃ b34, mR m28 t 56 = some b34 ∧ (mK m28 b34 = 16 ∧ (vp_in (2 : Int32) (mN m28 b34) ∧ (∀ m38, m38 = sL m28 b34 (2 : Int32).toNatClampNeg l10 → (∃ b45, mR m38 t 32 = some b45 ∧ (mK m38 b45 = 15 ∧ (vp_in l1 (mN m38 b45) ∧ (∃ b49, mR m38 t 56 = some b49 ∧ (mK m38 b49 = 16 ∧ (vp_in (3 : Int32) (mN m38 b49) ∧ (∀ m53, m53 = sL m38 b49 (3 : Int32).toNatClampNeg ((mI m38 b45 l1.toNatClampNeg).toInt64) → (∃ b62, mR m53 t 34 = some b62 ∧ (mK m53 b62 = 15 ∧ (vp_in l1 (mN m53 b62) ∧ (∃ b66, mR m53 t 56 = some b66 ∧ (mK m53 b66 = 16 ∧ (vp_in (4 : Int32) (mN m53 b66) ∧ (∀ m70, m70 = sL m53 b66 (4 : Int32).toNatClampNeg ((mI m53 b62 l1.toNatClampNeg).toInt64) → (∃ b81, mR m70 t 56 = some b81 ∧ (mK m70 b81 = 16 ∧ (vp_in (5 : Int32) (mN m70 b81) ∧ (∀ m85, m85 = sL m70 b81 (5 : Int32).toNatClampNeg l5.toInt64 → (CV g M_RF_reads lv [va_rf (some t), .int (l2)] m85 (fun m97 => (if (mI m97 t 59) = 0 then (At g M_RF_passes (lv + 1) 221 [(0, va_rf (some t)), (1, .int (l1)), (3, va_rf (l3)), (4, .int (l4)), (5, .int (l5)), (6, .int (l6)), (7, .int (l7)), (8, .long (l8))] [.int ((0 : Int32))] m97 (QI Q)) else (At g M_RF_passes (lv + 1) 221 [(0, va_rf (some t)), (1, .int (l1)), (3, va_rf (l3)), (4, .int (l4)), (5, .int (l5)), (6, .int (l6)), (7, .int (l7)), (8, .long (l8))] [.int ((lmx (0 : Int64) (lmn (100 : Int64) (mL m97 t 57))).toInt32)] m97 (QI Q)))))))))))))))))))))))))))))))))))))))))) else (mK m t = 13 ∧ (∃ b111, mR m t 42 = some b111 ∧ (mK m b111 = 15 ∧ (vp_in (((400 : Int32) * l1) + l12) (mN m b111) ∧ (if (l5 - (1 : Int32)) ≤ (mI m b111 (((400 : Int32) * l1) + l12).toNatClampNeg) then (At g M_RF_passes (lv + 1) 63 [(0, va_rf (some t)), (1, .int (l1)), (2, .int (l2)), (3, va_rf (l3)), (4, .int (l4)), (5, .int (l5)), (6, .int (l6)), (7, .int (l7)), (8, .long (l8)), (10, .long (l10 + (0 : Int64))), (12, .int (l12 + (1 : Int32)))] [] m (QI Q)) else (∃ b116, mR m t 41 = some b116 ∧ (mK m b116 = 15 ∧ (vp_in (((400 : Int32) * l1) + l12) (mN m b116) ∧ (At g M_RF_passes (lv + 1) 63 [(0, va_rf (some t)), (1, .int (l1)), (2, .int (l2)), (3, va_rf (l3)), (4, .int (l4)), (5, .int (l5)), (6, .int (l6)), (7, .int (l7)), (8, .long (l8)), (10, .long (l10 + ((mI m b116 (((400 : Int32) * l1) + l12).toNatClampNeg).toInt64))), (12, .int (l12 + (1 : Int32)))] [] m (QI Q))))))))))) : At g M_RF_passes (lv + 1) 63 [(0, va_rf (some t)), (1, .int (l1)), (2, .int (l2)), (3, va_rf (l3)), (4, .int (l4)), (5, .int (l5)), (6, .int (l6)), (7, .int (l7)), (8, .long (l8)), (10, .long (l10)), (12, .int (l12))] [] m (QI Q) := by
  refine at_iload (i := 12) 10 65 rfl (by decide +kernel) rfl ?_
  refine at_iload (i := 6) 6 67 rfl (by decide +kernel) rfl ?_
  refine at_icmp_ge (off := 52) 119 70 rfl (by decide +kernel) (by decide +kernel) (fun c1 => ?_) (fun c1 => ?_)
  · rw [if_pos c1] at h
    refine at_aload_n (i := 0) 0 120 rfl (by decide +kernel) rfl ?_
    obtain ⟨k2, h⟩ := h
    refine at_get (index := 104) (v := va_rf (mR m t 34)) cok12 34 123 rfl (by decide +kernel) k2 (by decide +kernel) tw_1119 rfl ?_
    refine at_iload_n (i := 1) 1 124 rfl (by decide +kernel) rfl ?_
    refine at_aload_n (i := 0) 0 125 rfl (by decide +kernel) rfl ?_
    refine at_iload_n (i := 1) 1 126 rfl (by decide +kernel) rfl ?_
    refine at_callV mb_RF_wants tw_1451 tw_48 cok12 k2 (index := 346) tw_1449 [.int (l1)] [.int (l1), va_rf (mR m t 34)] rfl rfl (by simp [va_rf_cat, cat_int, cat_long]) 129 rfl (by decide +kernel) (Call.toI (CI.monoE h (fun x3 m4 h y5 => ?_)))
    have k6 : mK m4 t = 13 := y5.k k2 (by decide)
    obtain ⟨b7, e8, h⟩ := h
    rw [e8]
    obtain ⟨k9, h⟩ := h
    obtain ⟨v10, h⟩ := h
    refine at_iast 130 rfl (by decide +kernel) k9 v10 (fun m11 e12 => ?_)
    replace h := h m11 e12
    have k13 : mK m11 t = 13 := by rw [e12]; exact k6
    have k14 : mK m11 b7 = 15 := by rw [e12]; exact k9
    refine at_aload_n (i := 0) 0 131 rfl (by decide +kernel) rfl ?_
    refine at_get (index := 143) (v := va_rf (mR m11 t 56)) cok12 56 134 rfl (by decide +kernel) k13 (by decide +kernel) tw_1141 rfl ?_
    refine at_iconst (n := 0) (0 : Int32) 135 rfl (by decide +kernel) (by decide +kernel) ?_
    refine at_lload (i := 8) 8 137 rfl (by decide +kernel) rfl ?_
    obtain ⟨b15, e16, h⟩ := h
    rw [e16]
    obtain ⟨k17, h⟩ := h
    obtain ⟨v18, h⟩ := h
    refine at_last 138 rfl (by decide +kernel) k17 v18 (fun m19 e20 => ?_)
    replace h := h m19 e20
    have k21 : mK m19 t = 13 := by rw [e20]; exact k13
    have k22 : mK m19 b7 = 15 := by rw [e20]; exact k14
    have k23 : mK m19 b15 = 16 := by rw [e20]; exact k17
    refine at_aload_n (i := 0) 0 139 rfl (by decide +kernel) rfl ?_
    refine at_get (index := 143) (v := va_rf (mR m19 t 56)) cok12 56 142 rfl (by decide +kernel) k21 (by decide +kernel) tw_1141 rfl ?_
    refine at_iconst (n := 1) (1 : Int32) 143 rfl (by decide +kernel) (by decide +kernel) ?_
    refine at_iload (i := 7) 7 145 rfl (by decide +kernel) rfl ?_
    refine at_i2l 146 rfl (by decide +kernel) ?_
    obtain ⟨b24, e25, h⟩ := h
    rw [e25]
    obtain ⟨k26, h⟩ := h
    obtain ⟨v27, h⟩ := h
    refine at_last 147 rfl (by decide +kernel) k26 v27 (fun m28 e29 => ?_)
    replace h := h m28 e29
    have k30 : mK m28 t = 13 := by rw [e29]; exact k21
    have k31 : mK m28 b7 = 15 := by rw [e29]; exact k22
    have k32 : mK m28 b15 = 16 := by rw [e29]; exact k23
    have k33 : mK m28 b24 = 16 := by rw [e29]; exact k26
    refine at_aload_n (i := 0) 0 148 rfl (by decide +kernel) rfl ?_
    refine at_get (index := 143) (v := va_rf (mR m28 t 56)) cok12 56 151 rfl (by decide +kernel) k30 (by decide +kernel) tw_1141 rfl ?_
    refine at_iconst (n := 2) (2 : Int32) 152 rfl (by decide +kernel) (by decide +kernel) ?_
    refine at_lload (i := 10) 9 154 rfl (by decide +kernel) rfl ?_
    obtain ⟨b34, e35, h⟩ := h
    rw [e35]
    obtain ⟨k36, h⟩ := h
    obtain ⟨v37, h⟩ := h
    refine at_last 155 rfl (by decide +kernel) k36 v37 (fun m38 e39 => ?_)
    replace h := h m38 e39
    have k40 : mK m38 t = 13 := by rw [e39]; exact k30
    have k41 : mK m38 b7 = 15 := by rw [e39]; exact k31
    have k42 : mK m38 b15 = 16 := by rw [e39]; exact k32
    have k43 : mK m38 b24 = 16 := by rw [e39]; exact k33
    have k44 : mK m38 b34 = 16 := by rw [e39]; exact k36
    refine at_aload_n (i := 0) 0 156 rfl (by decide +kernel) rfl ?_
    refine at_get (index := 143) (v := va_rf (mR m38 t 56)) cok12 56 159 rfl (by decide +kernel) k40 (by decide +kernel) tw_1141 rfl ?_
    refine at_iconst (n := 3) (3 : Int32) 160 rfl (by decide +kernel) (by decide +kernel) ?_
    refine at_aload_n (i := 0) 0 161 rfl (by decide +kernel) rfl ?_
    refine at_get (index := 98) (v := va_rf (mR m38 t 32)) cok12 32 164 rfl (by decide +kernel) k40 (by decide +kernel) tw_1117 rfl ?_
    refine at_iload_n (i := 1) 1 165 rfl (by decide +kernel) rfl ?_
    obtain ⟨b45, e46, h⟩ := h
    rw [e46]
    obtain ⟨k47, h⟩ := h
    obtain ⟨v48, h⟩ := h
    refine at_iald 166 rfl (by decide +kernel) k47 v48 ?_
    refine at_i2l 167 rfl (by decide +kernel) ?_
    obtain ⟨b49, e50, h⟩ := h
    rw [e50]
    obtain ⟨k51, h⟩ := h
    obtain ⟨v52, h⟩ := h
    refine at_last 168 rfl (by decide +kernel) k51 v52 (fun m53 e54 => ?_)
    replace h := h m53 e54
    have k55 : mK m53 t = 13 := by rw [e54]; exact k40
    have k56 : mK m53 b7 = 15 := by rw [e54]; exact k41
    have k57 : mK m53 b15 = 16 := by rw [e54]; exact k42
    have k58 : mK m53 b24 = 16 := by rw [e54]; exact k43
    have k59 : mK m53 b34 = 16 := by rw [e54]; exact k44
    have k60 : mK m53 b45 = 15 := by rw [e54]; exact k47
    have k61 : mK m53 b49 = 16 := by rw [e54]; exact k51
    refine at_aload_n (i := 0) 0 169 rfl (by decide +kernel) rfl ?_
    refine at_get (index := 143) (v := va_rf (mR m53 t 56)) cok12 56 172 rfl (by decide +kernel) k55 (by decide +kernel) tw_1141 rfl ?_
    refine at_iconst (n := 4) (4 : Int32) 173 rfl (by decide +kernel) (by decide +kernel) ?_
    refine at_aload_n (i := 0) 0 174 rfl (by decide +kernel) rfl ?_
    refine at_get (index := 104) (v := va_rf (mR m53 t 34)) cok12 34 177 rfl (by decide +kernel) k55 (by decide +kernel) tw_1119 rfl ?_
    refine at_iload_n (i := 1) 1 178 rfl (by decide +kernel) rfl ?_
    obtain ⟨b62, e63, h⟩ := h
    rw [e63]
    obtain ⟨k64, h⟩ := h
    obtain ⟨v65, h⟩ := h
    refine at_iald 179 rfl (by decide +kernel) k64 v65 ?_
    refine at_i2l 180 rfl (by decide +kernel) ?_
    obtain ⟨b66, e67, h⟩ := h
    rw [e67]
    obtain ⟨k68, h⟩ := h
    obtain ⟨v69, h⟩ := h
    refine at_last 181 rfl (by decide +kernel) k68 v69 (fun m70 e71 => ?_)
    replace h := h m70 e71
    have k72 : mK m70 t = 13 := by rw [e71]; exact k55
    have k73 : mK m70 b7 = 15 := by rw [e71]; exact k56
    have k74 : mK m70 b15 = 16 := by rw [e71]; exact k57
    have k75 : mK m70 b24 = 16 := by rw [e71]; exact k58
    have k76 : mK m70 b34 = 16 := by rw [e71]; exact k59
    have k77 : mK m70 b45 = 15 := by rw [e71]; exact k60
    have k78 : mK m70 b49 = 16 := by rw [e71]; exact k61
    have k79 : mK m70 b62 = 15 := by rw [e71]; exact k64
    have k80 : mK m70 b66 = 16 := by rw [e71]; exact k68
    refine at_aload_n (i := 0) 0 182 rfl (by decide +kernel) rfl ?_
    refine at_get (index := 143) (v := va_rf (mR m70 t 56)) cok12 56 185 rfl (by decide +kernel) k72 (by decide +kernel) tw_1141 rfl ?_
    refine at_iconst (n := 5) (5 : Int32) 186 rfl (by decide +kernel) (by decide +kernel) ?_
    refine at_iload (i := 5) 5 188 rfl (by decide +kernel) rfl ?_
    refine at_i2l 189 rfl (by decide +kernel) ?_
    obtain ⟨b81, e82, h⟩ := h
    rw [e82]
    obtain ⟨k83, h⟩ := h
    obtain ⟨v84, h⟩ := h
    refine at_last 190 rfl (by decide +kernel) k83 v84 (fun m85 e86 => ?_)
    replace h := h m85 e86
    have k87 : mK m85 t = 13 := by rw [e86]; exact k72
    have k88 : mK m85 b7 = 15 := by rw [e86]; exact k73
    have k89 : mK m85 b15 = 16 := by rw [e86]; exact k74
    have k90 : mK m85 b24 = 16 := by rw [e86]; exact k75
    have k91 : mK m85 b34 = 16 := by rw [e86]; exact k76
    have k92 : mK m85 b45 = 15 := by rw [e86]; exact k77
    have k93 : mK m85 b49 = 16 := by rw [e86]; exact k78
    have k94 : mK m85 b62 = 15 := by rw [e86]; exact k79
    have k95 : mK m85 b66 = 16 := by rw [e86]; exact k80
    have k96 : mK m85 b81 = 16 := by rw [e86]; exact k83
    refine at_aload_n (i := 0) 0 191 rfl (by decide +kernel) rfl ?_
    refine at_iload_n (i := 2) 2 192 rfl (by decide +kernel) rfl ?_
    refine at_callV mb_RF_reads tw_1348 tw_33 cok12 k87 (index := 329) tw_1346 [.int (l2)] [] rfl rfl (by decide) 195 rfl (by decide +kernel) (Call.toV (CV.monoE h (fun m97 h y98 => ?_)))
    have k99 : mK m97 t = 13 := y98.k k87 (by decide)
    have k100 : mK m97 b7 = 15 := y98.k k88 (by decide)
    have k101 : mK m97 b15 = 16 := y98.k k89 (by decide)
    have k102 : mK m97 b24 = 16 := y98.k k90 (by decide)
    have k103 : mK m97 b34 = 16 := y98.k k91 (by decide)
    have k104 : mK m97 b45 = 15 := y98.k k92 (by decide)
    have k105 : mK m97 b49 = 16 := y98.k k93 (by decide)
    have k106 : mK m97 b62 = 15 := y98.k k94 (by decide)
    have k107 : mK m97 b66 = 16 := y98.k k95 (by decide)
    have k108 : mK m97 b81 = 16 := y98.k k96 (by decide)
    refine at_aload_n (i := 0) 0 196 rfl (by decide +kernel) rfl ?_
    refine at_get (index := 314) (v := .int (mI m97 t 59)) cok12 59 199 rfl (by decide +kernel) k99 (by decide +kernel) tw_1144 rfl ?_
    refine at_if_eq (off := 21) 220 202 rfl (by decide +kernel) (by decide +kernel) (fun c109 => ?_) (fun c109 => ?_)
    · rw [if_pos c109] at h
      refine at_iconst (n := 0) (0 : Int32) 221 rfl (by decide +kernel) (by decide +kernel) ?_
      exact At.sub [0, 1, 3, 4, 5, 6, 7, 8] rfl h
    · rw [if_neg c109] at h
      refine at_lconst (n := 0) (0 : Int64) 203 rfl (by decide +kernel) (by decide +kernel) ?_
      refine at_ldc2 (index := 174) (100 : Int64) 206 rfl (by decide +kernel) tw_1318 ?_
      refine at_aload_n (i := 0) 0 207 rfl (by decide +kernel) rfl ?_
      refine at_get (index := 317) (v := .long (mL m97 t 57)) cok12 57 210 rfl (by decide +kernel) k99 (by decide +kernel) tw_1142 rfl ?_
      refine at_lmn (index := 349) 213 rfl (by decide +kernel) tw_1454 (by simp [va_rf_cat, cat_int, cat_long]) ?_
      refine at_lmx (index := 341) 216 rfl (by decide +kernel) tw_1453 (by decide) ?_
      refine at_l2i 217 rfl (by decide +kernel) ?_
      refine at_goto (off := 4) 221 (by decide +kernel) (by decide +kernel) ?_
      exact At.sub [0, 1, 3, 4, 5, 6, 7, 8] rfl h
  · rw [if_neg c1] at h
    refine at_lload (i := 10) 9 72 rfl (by decide +kernel) rfl ?_
    refine at_aload_n (i := 0) 0 73 rfl (by decide +kernel) rfl ?_
    obtain ⟨k110, h⟩ := h
    refine at_get (index := 128) (v := va_rf (mR m t 42)) cok12 42 76 rfl (by decide +kernel) k110 (by decide +kernel) tw_1127 rfl ?_
    refine at_sipush (n := 400) (400 : Int32) 79 rfl (by decide +kernel) (by decide +kernel) ?_
    refine at_iload_n (i := 1) 1 80 rfl (by decide +kernel) rfl ?_
    refine at_imul 81 rfl (by decide +kernel) ?_
    refine at_iload (i := 12) 10 83 rfl (by decide +kernel) rfl ?_
    refine at_iadd 84 rfl (by decide +kernel) ?_
    obtain ⟨b111, e112, h⟩ := h
    rw [e112]
    obtain ⟨k113, h⟩ := h
    obtain ⟨v114, h⟩ := h
    refine at_iald 85 rfl (by decide +kernel) k113 v114 ?_
    refine at_iload (i := 5) 5 87 rfl (by decide +kernel) rfl ?_
    refine at_iconst (n := 1) (1 : Int32) 88 rfl (by decide +kernel) (by decide +kernel) ?_
    refine at_isub 89 rfl (by decide +kernel) ?_
    refine at_icmp_ge (off := 20) 109 92 rfl (by decide +kernel) (by decide +kernel) (fun c115 => ?_) (fun c115 => ?_)
    · rw [if_pos c115] at h
      refine at_lconst (n := 0) (0 : Int64) 110 rfl (by decide +kernel) (by decide +kernel) ?_
      refine at_ladd 111 rfl (by decide +kernel) ?_
      refine at_lstore (i := 10) (lc' := [(0, va_rf (some t)), (1, .int (l1)), (2, .int (l2)), (3, va_rf (l3)), (4, .int (l4)), (5, .int (l5)), (6, .int (l6)), (7, .int (l7)), (8, .long (l8)), (10, .long (l10 + (0 : Int64))), (12, .int (l12))]) [1, 2, 3, 4, 5, 6, 7, 8, 9, 0, 10] 113 rfl (by decide +kernel) (by decide +kernel) rfl ?_
      refine at_iinc (i := 12) (n := 1) (lc' := [(0, va_rf (some t)), (1, .int (l1)), (2, .int (l2)), (3, va_rf (l3)), (4, .int (l4)), (5, .int (l5)), (6, .int (l6)), (7, .int (l7)), (8, .long (l8)), (10, .long (l10 + (0 : Int64))), (12, .int (l12 + (1 : Int32)))]) (l12 + (1 : Int32)) 10 [1, 2, 3, 4, 5, 6, 7, 8, 9, 10, 0] 116 rfl (by decide +kernel) rfl (by rw [show Int32.ofInt 1 = (1 : Int32) from by decide +kernel]) (by decide +kernel) rfl ?_
      refine at_goto (off := (-53)) 63 (by decide +kernel) (by decide +kernel) ?_
      exact h
    · rw [if_neg c115] at h
      refine at_aload_n (i := 0) 0 93 rfl (by decide +kernel) rfl ?_
      refine at_get (index := 125) (v := va_rf (mR m t 41)) cok12 41 96 rfl (by decide +kernel) k110 (by decide +kernel) tw_1126 rfl ?_
      refine at_sipush (n := 400) (400 : Int32) 99 rfl (by decide +kernel) (by decide +kernel) ?_
      refine at_iload_n (i := 1) 1 100 rfl (by decide +kernel) rfl ?_
      refine at_imul 101 rfl (by decide +kernel) ?_
      refine at_iload (i := 12) 10 103 rfl (by decide +kernel) rfl ?_
      refine at_iadd 104 rfl (by decide +kernel) ?_
      obtain ⟨b116, e117, h⟩ := h
      rw [e117]
      obtain ⟨k118, h⟩ := h
      obtain ⟨v119, h⟩ := h
      refine at_iald 105 rfl (by decide +kernel) k118 v119 ?_
      refine at_i2l 106 rfl (by decide +kernel) ?_
      refine at_goto (off := 4) 110 (by decide +kernel) (by decide +kernel) ?_
      refine at_ladd 111 rfl (by decide +kernel) ?_
      refine at_lstore (i := 10) (lc' := [(0, va_rf (some t)), (1, .int (l1)), (2, .int (l2)), (3, va_rf (l3)), (4, .int (l4)), (5, .int (l5)), (6, .int (l6)), (7, .int (l7)), (8, .long (l8)), (10, .long (l10 + ((mI m b116 (((400 : Int32) * l1) + l12).toNatClampNeg).toInt64))), (12, .int (l12))]) [1, 2, 3, 4, 5, 6, 7, 8, 9, 0, 10] 113 rfl (by decide +kernel) (by decide +kernel) rfl ?_
      refine at_iinc (i := 12) (n := 1) (lc' := [(0, va_rf (some t)), (1, .int (l1)), (2, .int (l2)), (3, va_rf (l3)), (4, .int (l4)), (5, .int (l5)), (6, .int (l6)), (7, .int (l7)), (8, .long (l8)), (10, .long (l10 + ((mI m b116 (((400 : Int32) * l1) + l12).toNatClampNeg).toInt64))), (12, .int (l12 + (1 : Int32)))]) (l12 + (1 : Int32)) 10 [1, 2, 3, 4, 5, 6, 7, 8, 9, 10, 0] 116 rfl (by decide +kernel) rfl (by rw [show Int32.ofInt 1 = (1 : Int32) from by decide +kernel]) (by decide +kernel) rfl ?_
      refine at_goto (off := (-53)) 63 (by decide +kernel) (by decide +kernel) ?_
      exact h
set_option maxRecDepth 20000 in
set_option maxHeartbeats 4000000 in
theorem bk_RF_passes_29 (g : Gc) {lv : Nat} {t : Nat} {l1 : Int32} {l2 : Int32} {l3 : Option Nat} {l4 : Int32} {l5 : Int32} {l6 : Int32} {l7 : Int32} {l8 : Int64} {l10 : Int32} {m : Mm} {Q : Int32 → Mm → Prop} (h : mK m t = 13 ∧ (if (mI m t 19) ≤ (l10) then (At g M_RF_passes (lv + 1) 63 [(0, va_rf (some t)), (1, .int (l1)), (2, .int (l2)), (3, va_rf (l3)), (4, .int (l4)), (5, .int (l5)), (6, .int (l6)), (7, .int (l7)), (8, .long (l8)), (10, .long ((0 : Int64))), (12, .int ((0 : Int32)))] [] m (QI Q)) else (∃ b3, l3 = some b3 ∧ (mK m b3 = 15 ∧ (vp_in (l4 + l10) (mN m b3) ∧ (At g M_RF_passes (lv + 1) 29 [(0, va_rf (some t)), (1, .int (l1)), (2, .int (l2)), (3, va_rf (some b3)), (4, .int (l4)), (5, .int (l5)), (6, .int (l6)), (7, .int (l7)), (8, .long (l8 + ((mI m b3 (l4 + l10).toNatClampNeg).toInt64))), (10, .int (l10 + (1 : Int32)))] [] m (QI Q))))))) : At g M_RF_passes (lv + 1) 29 [(0, va_rf (some t)), (1, .int (l1)), (2, .int (l2)), (3, va_rf (l3)), (4, .int (l4)), (5, .int (l5)), (6, .int (l6)), (7, .int (l7)), (8, .long (l8)), (10, .int (l10))] [] m (QI Q) := by
  refine at_iload (i := 10) 9 31 rfl (by decide +kernel) rfl ?_
  refine at_aload_n (i := 0) 0 32 rfl (by decide +kernel) rfl ?_
  obtain ⟨k1, h⟩ := h
  refine at_get (index := 185) (v := .int (mI m t 19)) cok12 19 35 rfl (by decide +kernel) k1 (by decide +kernel) tw_1104 rfl ?_
  refine at_icmp_ge (off := 22) 57 38 rfl (by decide +kernel) (by decide +kernel) (fun c2 => ?_) (fun c2 => ?_)
  · rw [if_pos c2] at h
    refine at_lconst (n := 0) (0 : Int64) 58 rfl (by decide +kernel) (by decide +kernel) ?_
    refine at_lstore (i := 10) (lc' := [(0, va_rf (some t)), (1, .int (l1)), (2, .int (l2)), (3, va_rf (l3)), (4, .int (l4)), (5, .int (l5)), (6, .int (l6)), (7, .int (l7)), (8, .long (l8)), (10, .long ((0 : Int64)))]) [1, 2, 3, 4, 5, 6, 7, 8, 9, 0] 60 rfl (by decide +kernel) (by decide +kernel) rfl ?_
    refine at_iconst (n := 0) (0 : Int32) 61 rfl (by decide +kernel) (by decide +kernel) ?_
    refine at_istore (i := 12) (lc' := [(0, va_rf (some t)), (1, .int (l1)), (2, .int (l2)), (3, va_rf (l3)), (4, .int (l4)), (5, .int (l5)), (6, .int (l6)), (7, .int (l7)), (8, .long (l8)), (10, .long ((0 : Int64))), (12, .int ((0 : Int32)))]) [1, 2, 3, 4, 5, 6, 7, 8, 9, 10, 0] 63 rfl (by decide +kernel) (by decide +kernel) rfl ?_
    exact h
  · rw [if_neg c2] at h
    refine at_lload (i := 8) 8 40 rfl (by decide +kernel) rfl ?_
    refine at_aload_n (i := 3) 3 41 rfl (by decide +kernel) rfl ?_
    refine at_iload (i := 4) 4 43 rfl (by decide +kernel) rfl ?_
    refine at_iload (i := 10) 9 45 rfl (by decide +kernel) rfl ?_
    refine at_iadd 46 rfl (by decide +kernel) ?_
    obtain ⟨b3, e4, h⟩ := h
    rw [e4]
    obtain ⟨k5, h⟩ := h
    obtain ⟨v6, h⟩ := h
    refine at_iald 47 rfl (by decide +kernel) k5 v6 ?_
    refine at_i2l 48 rfl (by decide +kernel) ?_
    refine at_ladd 49 rfl (by decide +kernel) ?_
    refine at_lstore (i := 8) (lc' := [(0, va_rf (some t)), (1, .int (l1)), (2, .int (l2)), (3, va_rf (some b3)), (4, .int (l4)), (5, .int (l5)), (6, .int (l6)), (7, .int (l7)), (8, .long (l8 + ((mI m b3 (l4 + l10).toNatClampNeg).toInt64))), (10, .int (l10))]) [1, 2, 3, 4, 5, 6, 7, 8, 0, 9] 51 rfl (by decide +kernel) (by decide +kernel) rfl ?_
    refine at_iinc (i := 10) (n := 1) (lc' := [(0, va_rf (some t)), (1, .int (l1)), (2, .int (l2)), (3, va_rf (some b3)), (4, .int (l4)), (5, .int (l5)), (6, .int (l6)), (7, .int (l7)), (8, .long (l8 + ((mI m b3 (l4 + l10).toNatClampNeg).toInt64))), (10, .int (l10 + (1 : Int32)))]) (l10 + (1 : Int32)) 9 [1, 2, 3, 4, 5, 6, 7, 8, 9, 0] 54 rfl (by decide +kernel) rfl (by rw [show Int32.ofInt 1 = (1 : Int32) from by decide +kernel]) (by decide +kernel) rfl ?_
    refine at_goto (off := (-25)) 29 (by decide +kernel) (by decide +kernel) ?_
    exact h
set_option maxRecDepth 20000 in
set_option maxHeartbeats 4000000 in
theorem en_RF_passes (g : Gc) {lv : Nat} {t : Nat} {l1 : Int32} {l2 : Int32} {l3 : Option Nat} {l4 : Int32} {m : Mm} {Q : Int32 → Mm → Prop} (h : mK m t = 13 ∧ (∃ b2, mR m t 31 = some b2 ∧ (mK m b2 = 15 ∧ (vp_in l1 (mN m b2) ∧ (∃ b6, mR m t 33 = some b6 ∧ (mK m b6 = 15 ∧ (vp_in l1 (mN m b6) ∧ (CI g M_RF_store lv [va_rf (some t), .int (l1)] m (fun x10 m11 => (At g M_RF_passes (lv + 1) 29 [(0, va_rf (some t)), (1, .int (l1)), (2, .int (l2)), (3, va_rf (l3)), (4, .int (l4)), (5, .int (mI m b2 l1.toNatClampNeg)), (6, .int (mI m b6 l1.toNatClampNeg)), (7, .int (x10)), (8, .long ((0 : Int64))), (10, .int ((0 : Int32)))] [] m11 (QI Q))))))))))) : CI g M_RF_passes (lv + 1) [va_rf (some t), .int (l1), .int (l2), va_rf (l3), .int (l4)] m Q := by
  refine Call.of (by decide +kernel) (by simp [lg_sl, va_rf_cat, cat_int, cat_long, M_RF_passes]) ?_
  rw [show lv_args 0 [va_rf (some t), .int (l1), .int (l2), va_rf (l3), .int (l4)] = [(0, va_rf (some t)), (1, .int (l1)), (2, .int (l2)), (3, va_rf (l3)), (4, .int (l4))] from by simp [lv_args, va_rf_cat, cat_int, cat_long]]
  refine at_aload_n (i := 0) 0 1 rfl (by decide +kernel) rfl ?_
  obtain ⟨k1, h⟩ := h
  refine at_get (index := 95) (v := va_rf (mR m t 31)) cok12 31 4 rfl (by decide +kernel) k1 (by decide +kernel) tw_1116 rfl ?_
  refine at_iload_n (i := 1) 1 5 rfl (by decide +kernel) rfl ?_
  obtain ⟨b2, e3, h⟩ := h
  rw [e3]
  obtain ⟨k4, h⟩ := h
  obtain ⟨v5, h⟩ := h
  refine at_iald 6 rfl (by decide +kernel) k4 v5 ?_
  refine at_istore (i := 5) (lc' := [(0, va_rf (some t)), (1, .int (l1)), (2, .int (l2)), (3, va_rf (l3)), (4, .int (l4)), (5, .int (mI m b2 l1.toNatClampNeg))]) [1, 2, 3, 4, 5, 0] 8 rfl (by decide +kernel) (by decide +kernel) rfl ?_
  refine at_aload_n (i := 0) 0 9 rfl (by decide +kernel) rfl ?_
  refine at_get (index := 101) (v := va_rf (mR m t 33)) cok12 33 12 rfl (by decide +kernel) k1 (by decide +kernel) tw_1118 rfl ?_
  refine at_iload_n (i := 1) 1 13 rfl (by decide +kernel) rfl ?_
  obtain ⟨b6, e7, h⟩ := h
  rw [e7]
  obtain ⟨k8, h⟩ := h
  obtain ⟨v9, h⟩ := h
  refine at_iald 14 rfl (by decide +kernel) k8 v9 ?_
  refine at_istore (i := 6) (lc' := [(0, va_rf (some t)), (1, .int (l1)), (2, .int (l2)), (3, va_rf (l3)), (4, .int (l4)), (5, .int (mI m b2 l1.toNatClampNeg)), (6, .int (mI m b6 l1.toNatClampNeg))]) [1, 2, 3, 4, 5, 6, 0] 16 rfl (by decide +kernel) (by decide +kernel) rfl ?_
  refine at_aload_n (i := 0) 0 17 rfl (by decide +kernel) rfl ?_
  refine at_iload_n (i := 1) 1 18 rfl (by decide +kernel) rfl ?_
  refine at_callV mb_RF_store tw_1447 tw_47 cok12 k1 (index := 344) tw_1445 [.int (l1)] [] rfl rfl (by decide) 21 rfl (by decide +kernel) (Call.toI (CI.monoE h (fun x10 m11 h y12 => ?_)))
  have k13 : mK m11 t = 13 := y12.k k1 (by decide)
  have k14 : mK m11 b2 = 15 := y12.k k4 (by decide)
  have k15 : mK m11 b6 = 15 := y12.k k8 (by decide)
  refine at_istore (i := 7) (lc' := [(0, va_rf (some t)), (1, .int (l1)), (2, .int (l2)), (3, va_rf (l3)), (4, .int (l4)), (5, .int (mI m b2 l1.toNatClampNeg)), (6, .int (mI m b6 l1.toNatClampNeg)), (7, .int (x10))]) [1, 2, 3, 4, 5, 6, 7, 0] 23 rfl (by decide +kernel) (by decide +kernel) rfl ?_
  refine at_lconst (n := 0) (0 : Int64) 24 rfl (by decide +kernel) (by decide +kernel) ?_
  refine at_lstore (i := 8) (lc' := [(0, va_rf (some t)), (1, .int (l1)), (2, .int (l2)), (3, va_rf (l3)), (4, .int (l4)), (5, .int (mI m b2 l1.toNatClampNeg)), (6, .int (mI m b6 l1.toNatClampNeg)), (7, .int (x10)), (8, .long ((0 : Int64)))]) [1, 2, 3, 4, 5, 6, 7, 8, 0] 26 rfl (by decide +kernel) (by decide +kernel) rfl ?_
  refine at_iconst (n := 0) (0 : Int32) 27 rfl (by decide +kernel) (by decide +kernel) ?_
  refine at_istore (i := 10) (lc' := [(0, va_rf (some t)), (1, .int (l1)), (2, .int (l2)), (3, va_rf (l3)), (4, .int (l4)), (5, .int (mI m b2 l1.toNatClampNeg)), (6, .int (mI m b6 l1.toNatClampNeg)), (7, .int (x10)), (8, .long ((0 : Int64))), (10, .int ((0 : Int32)))]) [1, 2, 3, 4, 5, 6, 7, 8, 9, 0] 29 rfl (by decide +kernel) (by decide +kernel) rfl ?_
  exact h
set_option maxRecDepth 20000 in
set_option maxHeartbeats 4000000 in
theorem en_RF_sells (g : Gc) {lv : Nat} {t : Nat} {l1 : Int32} {l2 : Int32} {l3 : Int32} {l4 : Int32} {l5 : Int32} {m : Mm} {Q : Mm → Prop} (h : mK m t = 13 ∧ (∃ b2, mR m t 37 = some b2 ∧ (mK m b2 = 15 ∧ (vp_in (((12 : Int32) * l1) + l2) (mN m b2) ∧ (vp_in (((12 : Int32) * l1) + l2) (mN m b2) ∧ (∀ m7, m7 = sI m b2 (((12 : Int32) * l1) + l2).toNatClampNeg ((mI m b2 (((12 : Int32) * l1) + l2).toNatClampNeg) - l3) → (∃ b11, mR m7 t 39 = some b11 ∧ (mK m7 b11 = 16 ∧ (vp_in (((15 : Int32) * l1) + l2) (mN m7 b11) ∧ (vp_in (((15 : Int32) * l1) + l2) (mN m7 b11) ∧ (∀ m16, m16 = sL m7 b11 (((15 : Int32) * l1) + l2).toNatClampNeg ((mL m7 b11 (((15 : Int32) * l1) + l2).toNatClampNeg) + (l3.toInt64 * l4.toInt64)) → (∃ b21, mR m16 t 43 = some b21 ∧ (mK m16 b21 = 16 ∧ (vp_in (((8 : Int32) * l1) + l5) (mN m16 b21) ∧ (vp_in (((8 : Int32) * l1) + l5) (mN m16 b21) ∧ (∀ m26, m26 = sL m16 b21 (((8 : Int32) * l1) + l5).toNatClampNeg ((mL m16 b21 (((8 : Int32) * l1) + l5).toNatClampNeg) + l3.toInt64) → (Q m26))))))))))))))))) : CV g M_RF_sells (lv + 1) [va_rf (some t), .int (l1), .int (l2), .int (l3), .int (l4), .int (l5)] m Q := by
  refine Call.of (by decide +kernel) (Nat.le_of_ble_eq_true rfl) ?_
  show At g M_RF_sells (lv + 1) 0 [(0, va_rf (some t)), (1, .int (l1)), (2, .int (l2)), (3, .int (l3)), (4, .int (l4)), (5, .int (l5))] [] m (QV Q)
  refine at_aload_n (i := 0) 0 1 rfl (by decide +kernel) rfl ?_
  obtain ⟨k1, h⟩ := h
  refine at_get (index := 113) (v := va_rf (mR m t 37)) cok12 37 4 rfl (by decide +kernel) k1 (by decide +kernel) tw_1122 rfl ?_
  refine at_bipush (n := 12) (12 : Int32) 6 rfl (by decide +kernel) (by decide +kernel) ?_
  refine at_iload_n (i := 1) 1 7 rfl (by decide +kernel) rfl ?_
  refine at_imul 8 rfl (by decide +kernel) ?_
  refine at_iload_n (i := 2) 2 9 rfl (by decide +kernel) rfl ?_
  refine at_iadd 10 rfl (by decide +kernel) ?_
  refine at_dup2_11 11 rfl (by decide +kernel) rfl (va_rf_cat _) ?_
  obtain ⟨b2, e3, h⟩ := h
  rw [e3]
  obtain ⟨k4, h⟩ := h
  obtain ⟨v5, h⟩ := h
  refine at_iald 12 rfl (by decide +kernel) k4 v5 ?_
  refine at_iload_n (i := 3) 3 13 rfl (by decide +kernel) rfl ?_
  refine at_isub 14 rfl (by decide +kernel) ?_
  obtain ⟨v6, h⟩ := h
  refine at_iast 15 rfl (by decide +kernel) k4 v6 (fun m7 e8 => ?_)
  replace h := h m7 e8
  have k9 : mK m7 t = 13 := by rw [e8]; exact k1
  have k10 : mK m7 b2 = 15 := by rw [e8]; exact k4
  refine at_aload_n (i := 0) 0 16 rfl (by decide +kernel) rfl ?_
  refine at_get (index := 119) (v := va_rf (mR m7 t 39)) cok12 39 19 rfl (by decide +kernel) k9 (by decide +kernel) tw_1124 rfl ?_
  refine at_bipush (n := 15) (15 : Int32) 21 rfl (by decide +kernel) (by decide +kernel) ?_
  refine at_iload_n (i := 1) 1 22 rfl (by decide +kernel) rfl ?_
  refine at_imul 23 rfl (by decide +kernel) ?_
  refine at_iload_n (i := 2) 2 24 rfl (by decide +kernel) rfl ?_
  refine at_iadd 25 rfl (by decide +kernel) ?_
  refine at_dup2_11 26 rfl (by decide +kernel) rfl (va_rf_cat _) ?_
  obtain ⟨b11, e12, h⟩ := h
  rw [e12]
  obtain ⟨k13, h⟩ := h
  obtain ⟨v14, h⟩ := h
  refine at_lald 27 rfl (by decide +kernel) k13 v14 ?_
  refine at_iload_n (i := 3) 3 28 rfl (by decide +kernel) rfl ?_
  refine at_i2l 29 rfl (by decide +kernel) ?_
  refine at_iload (i := 4) 4 31 rfl (by decide +kernel) rfl ?_
  refine at_i2l 32 rfl (by decide +kernel) ?_
  refine at_lmul 33 rfl (by decide +kernel) ?_
  refine at_ladd 34 rfl (by decide +kernel) ?_
  obtain ⟨v15, h⟩ := h
  refine at_last 35 rfl (by decide +kernel) k13 v15 (fun m16 e17 => ?_)
  replace h := h m16 e17
  have k18 : mK m16 t = 13 := by rw [e17]; exact k9
  have k19 : mK m16 b2 = 15 := by rw [e17]; exact k10
  have k20 : mK m16 b11 = 16 := by rw [e17]; exact k13
  refine at_aload_n (i := 0) 0 36 rfl (by decide +kernel) rfl ?_
  refine at_get (index := 131) (v := va_rf (mR m16 t 43)) cok12 43 39 rfl (by decide +kernel) k18 (by decide +kernel) tw_1128 rfl ?_
  refine at_bipush (n := 8) (8 : Int32) 41 rfl (by decide +kernel) (by decide +kernel) ?_
  refine at_iload_n (i := 1) 1 42 rfl (by decide +kernel) rfl ?_
  refine at_imul 43 rfl (by decide +kernel) ?_
  refine at_iload (i := 5) 5 45 rfl (by decide +kernel) rfl ?_
  refine at_iadd 46 rfl (by decide +kernel) ?_
  refine at_dup2_11 47 rfl (by decide +kernel) rfl (va_rf_cat _) ?_
  obtain ⟨b21, e22, h⟩ := h
  rw [e22]
  obtain ⟨k23, h⟩ := h
  obtain ⟨v24, h⟩ := h
  refine at_lald 48 rfl (by decide +kernel) k23 v24 ?_
  refine at_iload_n (i := 3) 3 49 rfl (by decide +kernel) rfl ?_
  refine at_i2l 50 rfl (by decide +kernel) ?_
  refine at_ladd 51 rfl (by decide +kernel) ?_
  obtain ⟨v25, h⟩ := h
  refine at_last 52 rfl (by decide +kernel) k23 v25 (fun m26 e27 => ?_)
  replace h := h m26 e27
  have k28 : mK m26 t = 13 := by rw [e27]; exact k18
  have k29 : mK m26 b2 = 15 := by rw [e27]; exact k19
  have k30 : mK m26 b11 = 16 := by rw [e27]; exact k20
  have k31 : mK m26 b21 = 16 := by rw [e27]; exact k23
  exact at_vret rfl (by decide +kernel) h
set_option maxRecDepth 20000 in
set_option maxHeartbeats 4000000 in
theorem bk_RF_abroad_79 (g : Gc) {lv : Nat} {t : Nat} {l1 : Int32} {l4 : Int32} {l5 : Int32} {m : Mm} {Q : Mm → Prop} (h : mK m t = 13 ∧ (if (mI m t 19) ≤ (l5) then (At g M_RF_abroad (lv + 1) 71 [(0, va_rf (some t)), (1, .int (l1)), (4, .int (l4))] [] m (QV Q)) else (if (l4) ≤ 0 then (At g M_RF_abroad (lv + 1) 71 [(0, va_rf (some t)), (1, .int (l1)), (4, .int (l4))] [] m (QV Q)) else (∃ b4, mR m t 37 = some b4 ∧ (mK m b4 = 15 ∧ (vp_in (((12 : Int32) * l1) + l5) (mN m b4) ∧ (if (mI m b4 (((12 : Int32) * l1) + l5).toNatClampNeg) = 0 then (At g M_RF_abroad (lv + 1) 79 [(0, va_rf (some t)), (1, .int (l1)), (4, .int (l4)), (5, .int (l5 + (1 : Int32)))] [] m (QV Q)) else (∃ b9, mR m t 32 = some b9 ∧ (mK m b9 = 15 ∧ (vp_in l1 (mN m b9) ∧ (CV g M_RF_sells lv [va_rf (some t), .int (l1), .int (l5), .int ((1 : Int32)), .int (mI m b9 l1.toNatClampNeg), .int ((2 : Int32))] m (fun m13 => (At g M_RF_abroad (lv + 1) 79 [(0, va_rf (some t)), (1, .int (l1)), (4, .int (l4 + (-1 : Int32))), (5, .int (l5 + (1 : Int32)))] [] m13 (QV Q)))))))))))))) : At g M_RF_abroad (lv + 1) 79 [(0, va_rf (some t)), (1, .int (l1)), (4, .int (l4)), (5, .int (l5))] [] m (QV Q) := by
  refine at_iload (i := 5) 3 81 rfl (by decide +kernel) rfl ?_
  refine at_aload_n (i := 0) 0 82 rfl (by decide +kernel) rfl ?_
  obtain ⟨k1, h⟩ := h
  refine at_get (index := 185) (v := .int (mI m t 19)) cok12 19 85 rfl (by decide +kernel) k1 (by decide +kernel) tw_1104 rfl ?_
  refine at_icmp_ge (off := 50) 135 88 rfl (by decide +kernel) (by decide +kernel) (fun c2 => ?_) (fun c2 => ?_)
  · rw [if_pos c2] at h
    refine at_goto (off := (-64)) 71 (by decide +kernel) (by decide +kernel) ?_
    exact At.sub [0, 1, 2] rfl h
  · rw [if_neg c2] at h
    refine at_iload (i := 4) 2 90 rfl (by decide +kernel) rfl ?_
    refine at_if_le (off := 45) 135 93 rfl (by decide +kernel) (by decide +kernel) (fun c3 => ?_) (fun c3 => ?_)
    · rw [if_pos c3] at h
      refine at_goto (off := (-64)) 71 (by decide +kernel) (by decide +kernel) ?_
      exact At.sub [0, 1, 2] rfl h
    · rw [if_neg c3] at h
      refine at_aload_n (i := 0) 0 94 rfl (by decide +kernel) rfl ?_
      refine at_get (index := 113) (v := va_rf (mR m t 37)) cok12 37 97 rfl (by decide +kernel) k1 (by decide +kernel) tw_1122 rfl ?_
      refine at_bipush (n := 12) (12 : Int32) 99 rfl (by decide +kernel) (by decide +kernel) ?_
      refine at_iload_n (i := 1) 1 100 rfl (by decide +kernel) rfl ?_
      refine at_imul 101 rfl (by decide +kernel) ?_
      refine at_iload (i := 5) 3 103 rfl (by decide +kernel) rfl ?_
      refine at_iadd 104 rfl (by decide +kernel) ?_
      obtain ⟨b4, e5, h⟩ := h
      rw [e5]
      obtain ⟨k6, h⟩ := h
      obtain ⟨v7, h⟩ := h
      refine at_iald 105 rfl (by decide +kernel) k6 v7 ?_
      refine at_if_ne (off := 6) 111 108 rfl (by decide +kernel) (by decide +kernel) (fun c8 => ?_) (fun c8 => ?_)
      · rw [if_neg c8] at h
        refine at_aload_n (i := 0) 0 112 rfl (by decide +kernel) rfl ?_
        refine at_iload_n (i := 1) 1 113 rfl (by decide +kernel) rfl ?_
        refine at_iload (i := 5) 3 115 rfl (by decide +kernel) rfl ?_
        refine at_iconst (n := 1) (1 : Int32) 116 rfl (by decide +kernel) (by decide +kernel) ?_
        refine at_aload_n (i := 0) 0 117 rfl (by decide +kernel) rfl ?_
        refine at_get (index := 98) (v := va_rf (mR m t 32)) cok12 32 120 rfl (by decide +kernel) k1 (by decide +kernel) tw_1117 rfl ?_
        refine at_iload_n (i := 1) 1 121 rfl (by decide +kernel) rfl ?_
        obtain ⟨b9, e10, h⟩ := h
        rw [e10]
        obtain ⟨k11, h⟩ := h
        obtain ⟨v12, h⟩ := h
        refine at_iald 122 rfl (by decide +kernel) k11 v12 ?_
        refine at_iconst (n := 2) (2 : Int32) 123 rfl (by decide +kernel) (by decide +kernel) ?_
        refine at_callV mb_RF_sells tw_1473 tw_53 cok12 k1 (index := 372) tw_1471 [.int (l1), .int (l5), .int ((1 : Int32)), .int (mI m b9 l1.toNatClampNeg), .int ((2 : Int32))] [] rfl rfl (by decide) 126 rfl (by decide +kernel) (Call.toV (CV.monoE h (fun m13 h y14 => ?_)))
        have k15 : mK m13 t = 13 := y14.k k1 (by decide)
        have k16 : mK m13 b4 = 15 := y14.k k6 (by decide)
        have k17 : mK m13 b9 = 15 := y14.k k11 (by decide)
        refine at_iinc (i := 4) (n := (-1)) (lc' := [(0, va_rf (some t)), (1, .int (l1)), (4, .int (l4 + (-1 : Int32))), (5, .int (l5))]) (l4 + (-1 : Int32)) 2 [1, 2, 0, 3] 129 rfl (by decide +kernel) rfl (by rw [show Int32.ofInt (-1) = (-1 : Int32) from by decide +kernel]) (by decide +kernel) rfl ?_
        refine at_iinc (i := 5) (n := 1) (lc' := [(0, va_rf (some t)), (1, .int (l1)), (4, .int (l4 + (-1 : Int32))), (5, .int (l5 + (1 : Int32)))]) (l5 + (1 : Int32)) 3 [1, 2, 3, 0] 132 rfl (by decide +kernel) rfl (by rw [show Int32.ofInt 1 = (1 : Int32) from by decide +kernel]) (by decide +kernel) rfl ?_
        refine at_goto (off := (-53)) 79 (by decide +kernel) (by decide +kernel) ?_
        exact h
      · rw [if_pos c8] at h
        refine at_goto (off := 21) 129 (by decide +kernel) (by decide +kernel) ?_
        refine at_iinc (i := 5) (n := 1) (lc' := [(0, va_rf (some t)), (1, .int (l1)), (4, .int (l4)), (5, .int (l5 + (1 : Int32)))]) (l5 + (1 : Int32)) 3 [1, 2, 3, 0] 132 rfl (by decide +kernel) rfl (by rw [show Int32.ofInt 1 = (1 : Int32) from by decide +kernel]) (by decide +kernel) rfl ?_
        refine at_goto (off := (-53)) 79 (by decide +kernel) (by decide +kernel) ?_
        exact h
set_option maxRecDepth 20000 in
set_option maxHeartbeats 4000000 in
theorem bk_RF_abroad_71 (g : Gc) {lv : Nat} {t : Nat} {l1 : Int32} {l4 : Int32} {m : Mm} {Q : Mm → Prop} (h : if (l4) ≤ 0 then (Q m) else (At g M_RF_abroad (lv + 1) 79 [(0, va_rf (some t)), (1, .int (l1)), (4, .int (l4)), (5, .int ((0 : Int32)))] [] m (QV Q))) : At g M_RF_abroad (lv + 1) 71 [(0, va_rf (some t)), (1, .int (l1)), (4, .int (l4))] [] m (QV Q) := by
  refine at_iload (i := 4) 2 73 rfl (by decide +kernel) rfl ?_
  refine at_if_le (off := 65) 138 76 rfl (by decide +kernel) (by decide +kernel) (fun c1 => ?_) (fun c1 => ?_)
  · rw [if_pos c1] at h
    exact at_vret rfl (by decide +kernel) h
  · rw [if_neg c1] at h
    refine at_iconst (n := 0) (0 : Int32) 77 rfl (by decide +kernel) (by decide +kernel) ?_
    refine at_istore (i := 5) (lc' := [(0, va_rf (some t)), (1, .int (l1)), (4, .int (l4)), (5, .int ((0 : Int32)))]) [1, 2, 3, 0] 79 rfl (by decide +kernel) (by decide +kernel) rfl ?_
    exact h
set_option maxRecDepth 20000 in
set_option maxHeartbeats 4000000 in
theorem bk_RF_abroad_11 (g : Gc) {lv : Nat} {t : Nat} {l1 : Int32} {l2 : Int32} {l3 : Int32} {l4 : Int32} {l5 : Int32} {m : Mm} {Q : Mm → Prop} (h : mK m t = 13 ∧ (if (mI m t 19) ≤ (l5) then (At g M_RF_abroad (lv + 1) 71 [(0, va_rf (some t)), (1, .int (l1)), (4, .int (l4))] [] m (QV Q)) else (∃ b3, mR m t 37 = some b3 ∧ (mK m b3 = 15 ∧ (vp_in (((12 : Int32) * l1) + l5) (mN m b3) ∧ (¬ l2.toInt64 = 0 ∧ (∃ b8, mR m t 32 = some b8 ∧ (mK m b8 = 15 ∧ (vp_in l1 (mN m b8) ∧ (CV g M_RF_sells lv [va_rf (some t), .int (l1), .int (l5), .int (((((mI m b3 (((12 : Int32) * l1) + l5).toNatClampNeg).toInt64) * l3.toInt64) / l2.toInt64).toInt32), .int (mI m b8 l1.toNatClampNeg), .int ((2 : Int32))] m (fun m12 => (At g M_RF_abroad (lv + 1) 11 [(0, va_rf (some t)), (1, .int (l1)), (2, .int (l2)), (3, .int (l3)), (4, .int (l4 - (((((mI m b3 (((12 : Int32) * l1) + l5).toNatClampNeg).toInt64) * l3.toInt64) / l2.toInt64).toInt32))), (5, .int (l5 + (1 : Int32)))] [] m12 (QV Q))))))))))))) : At g M_RF_abroad (lv + 1) 11 [(0, va_rf (some t)), (1, .int (l1)), (2, .int (l2)), (3, .int (l3)), (4, .int (l4)), (5, .int (l5))] [] m (QV Q) := by
  refine at_iload (i := 5) 5 13 rfl (by decide +kernel) rfl ?_
  refine at_aload_n (i := 0) 0 14 rfl (by decide +kernel) rfl ?_
  obtain ⟨k1, h⟩ := h
  refine at_get (index := 185) (v := .int (mI m t 19)) cok12 19 17 rfl (by decide +kernel) k1 (by decide +kernel) tw_1104 rfl ?_
  refine at_icmp_ge (off := 54) 71 20 rfl (by decide +kernel) (by decide +kernel) (fun c2 => ?_) (fun c2 => ?_)
  · rw [if_pos c2] at h
    exact At.sub [0, 1, 4] rfl h
  · rw [if_neg c2] at h
    refine at_aload_n (i := 0) 0 21 rfl (by decide +kernel) rfl ?_
    refine at_get (index := 113) (v := va_rf (mR m t 37)) cok12 37 24 rfl (by decide +kernel) k1 (by decide +kernel) tw_1122 rfl ?_
    refine at_bipush (n := 12) (12 : Int32) 26 rfl (by decide +kernel) (by decide +kernel) ?_
    refine at_iload_n (i := 1) 1 27 rfl (by decide +kernel) rfl ?_
    refine at_imul 28 rfl (by decide +kernel) ?_
    refine at_iload (i := 5) 5 30 rfl (by decide +kernel) rfl ?_
    refine at_iadd 31 rfl (by decide +kernel) ?_
    obtain ⟨b3, e4, h⟩ := h
    rw [e4]
    obtain ⟨k5, h⟩ := h
    obtain ⟨v6, h⟩ := h
    refine at_iald 32 rfl (by decide +kernel) k5 v6 ?_
    refine at_i2l 33 rfl (by decide +kernel) ?_
    refine at_iload_n (i := 3) 3 34 rfl (by decide +kernel) rfl ?_
    refine at_i2l 35 rfl (by decide +kernel) ?_
    refine at_lmul 36 rfl (by decide +kernel) ?_
    refine at_iload_n (i := 2) 2 37 rfl (by decide +kernel) rfl ?_
    refine at_i2l 38 rfl (by decide +kernel) ?_
    obtain ⟨c7, h⟩ := h
    refine at_ldiv 39 rfl (by decide +kernel) c7 ?_
    refine at_l2i 40 rfl (by decide +kernel) ?_
    refine at_istore (i := 6) (lc' := [(0, va_rf (some t)), (1, .int (l1)), (2, .int (l2)), (3, .int (l3)), (4, .int (l4)), (5, .int (l5)), (6, .int (((((mI m b3 (((12 : Int32) * l1) + l5).toNatClampNeg).toInt64) * l3.toInt64) / l2.toInt64).toInt32))]) [1, 2, 3, 4, 5, 6, 0] 42 rfl (by decide +kernel) (by decide +kernel) rfl ?_
    refine at_aload_n (i := 0) 0 43 rfl (by decide +kernel) rfl ?_
    refine at_iload_n (i := 1) 1 44 rfl (by decide +kernel) rfl ?_
    refine at_iload (i := 5) 5 46 rfl (by decide +kernel) rfl ?_
    refine at_iload (i := 6) 6 48 rfl (by decide +kernel) rfl ?_
    refine at_aload_n (i := 0) 0 49 rfl (by decide +kernel) rfl ?_
    refine at_get (index := 98) (v := va_rf (mR m t 32)) cok12 32 52 rfl (by decide +kernel) k1 (by decide +kernel) tw_1117 rfl ?_
    refine at_iload_n (i := 1) 1 53 rfl (by decide +kernel) rfl ?_
    obtain ⟨b8, e9, h⟩ := h
    rw [e9]
    obtain ⟨k10, h⟩ := h
    obtain ⟨v11, h⟩ := h
    refine at_iald 54 rfl (by decide +kernel) k10 v11 ?_
    refine at_iconst (n := 2) (2 : Int32) 55 rfl (by decide +kernel) (by decide +kernel) ?_
    refine at_callV mb_RF_sells tw_1473 tw_53 cok12 k1 (index := 372) tw_1471 [.int (l1), .int (l5), .int (((((mI m b3 (((12 : Int32) * l1) + l5).toNatClampNeg).toInt64) * l3.toInt64) / l2.toInt64).toInt32), .int (mI m b8 l1.toNatClampNeg), .int ((2 : Int32))] [] rfl rfl (by decide) 58 rfl (by decide +kernel) (Call.toV (CV.monoE h (fun m12 h y13 => ?_)))
    have k14 : mK m12 t = 13 := y13.k k1 (by decide)
    have k15 : mK m12 b3 = 15 := y13.k k5 (by decide)
    have k16 : mK m12 b8 = 15 := y13.k k10 (by decide)
    refine at_iload (i := 4) 4 60 rfl (by decide +kernel) rfl ?_
    refine at_iload (i := 6) 6 62 rfl (by decide +kernel) rfl ?_
    refine at_isub 63 rfl (by decide +kernel) ?_
    refine at_istore (i := 4) (lc' := [(0, va_rf (some t)), (1, .int (l1)), (2, .int (l2)), (3, .int (l3)), (4, .int (l4 - (((((mI m b3 (((12 : Int32) * l1) + l5).toNatClampNeg).toInt64) * l3.toInt64) / l2.toInt64).toInt32))), (5, .int (l5))]) [1, 2, 3, 4, 0, 5] 65 rfl (by decide +kernel) (by decide +kernel) rfl ?_
    refine at_iinc (i := 5) (n := 1) (lc' := [(0, va_rf (some t)), (1, .int (l1)), (2, .int (l2)), (3, .int (l3)), (4, .int (l4 - (((((mI m b3 (((12 : Int32) * l1) + l5).toNatClampNeg).toInt64) * l3.toInt64) / l2.toInt64).toInt32))), (5, .int (l5 + (1 : Int32)))]) (l5 + (1 : Int32)) 5 [1, 2, 3, 4, 5, 0] 68 rfl (by decide +kernel) rfl (by rw [show Int32.ofInt 1 = (1 : Int32) from by decide +kernel]) (by decide +kernel) rfl ?_
    refine at_goto (off := (-57)) 11 (by decide +kernel) (by decide +kernel) ?_
    exact h
set_option maxRecDepth 20000 in
set_option maxHeartbeats 4000000 in
theorem en_RF_abroad (g : Gc) {lv : Nat} {t : Nat} {l1 : Int32} {l2 : Int32} {l3 : Int32} {m : Mm} {Q : Mm → Prop} (h : if (l3) = 0 then (Q m) else (At g M_RF_abroad (lv + 1) 11 [(0, va_rf (some t)), (1, .int (l1)), (2, .int (l2)), (3, .int (l3)), (4, .int (l3)), (5, .int ((0 : Int32)))] [] m (QV Q))) : CV g M_RF_abroad (lv + 1) [va_rf (some t), .int (l1), .int (l2), .int (l3)] m Q := by
  refine Call.of (by decide +kernel) (Nat.le_of_ble_eq_true rfl) ?_
  show At g M_RF_abroad (lv + 1) 0 [(0, va_rf (some t)), (1, .int (l1)), (2, .int (l2)), (3, .int (l3))] [] m (QV Q)
  refine at_iload_n (i := 3) 3 1 rfl (by decide +kernel) rfl ?_
  refine at_if_ne (off := 4) 5 4 rfl (by decide +kernel) (by decide +kernel) (fun c1 => ?_) (fun c1 => ?_)
  · rw [if_neg c1] at h
    refine at_iload_n (i := 3) 3 6 rfl (by decide +kernel) rfl ?_
    refine at_istore (i := 4) (lc' := [(0, va_rf (some t)), (1, .int (l1)), (2, .int (l2)), (3, .int (l3)), (4, .int (l3))]) [1, 2, 3, 4, 0] 8 rfl (by decide +kernel) (by decide +kernel) rfl ?_
    refine at_iconst (n := 0) (0 : Int32) 9 rfl (by decide +kernel) (by decide +kernel) ?_
    refine at_istore (i := 5) (lc' := [(0, va_rf (some t)), (1, .int (l1)), (2, .int (l2)), (3, .int (l3)), (4, .int (l3)), (5, .int ((0 : Int32)))]) [1, 2, 3, 4, 5, 0] 11 rfl (by decide +kernel) (by decide +kernel) rfl ?_
    exact h
  · rw [if_pos c1] at h
    exact at_vret rfl (by decide +kernel) h
set_option maxRecDepth 20000 in
set_option maxHeartbeats 4000000 in
theorem bk_RF_stills_7 (g : Gc) {lv : Nat} {t : Nat} {l1 : Int32} {l2 : Int32} {l3 : Int32} {m : Mm} {Q : Mm → Prop} (h : mK m t = 13 ∧ (if (mI m t 19) ≤ (l3) then (Q m) else (∃ b3, mR m t 37 = some b3 ∧ (mK m b3 = 15 ∧ (vp_in (((12 : Int32) * l1) + l3) (mN m b3) ∧ (∃ b7, mR m t 32 = some b7 ∧ (mK m b7 = 15 ∧ (vp_in l1 (mN m b7) ∧ (CV g M_RF_sells lv [va_rf (some t), .int (l1), .int (l3), .int (imn l2 (mI m b3 (((12 : Int32) * l1) + l3).toNatClampNeg)), .int ((mI m b7 l1.toNatClampNeg) / (4 : Int32)), .int ((4 : Int32))] m (fun m11 => (At g M_RF_stills (lv + 1) 7 [(0, va_rf (some t)), (1, .int (l1)), (2, .int (l2 - (imn l2 (mI m b3 (((12 : Int32) * l1) + l3).toNatClampNeg)))), (3, .int (l3 + (1 : Int32)))] [] m11 (QV Q)))))))))))) : At g M_RF_stills (lv + 1) 7 [(0, va_rf (some t)), (1, .int (l1)), (2, .int (l2)), (3, .int (l3))] [] m (QV Q) := by
  refine at_iload_n (i := 3) 3 8 rfl (by decide +kernel) rfl ?_
  refine at_aload_n (i := 0) 0 9 rfl (by decide +kernel) rfl ?_
  obtain ⟨k1, h⟩ := h
  refine at_get (index := 185) (v := .int (mI m t 19)) cok12 19 12 rfl (by decide +kernel) k1 (by decide +kernel) tw_1104 rfl ?_
  refine at_icmp_ge (off := 48) 60 15 rfl (by decide +kernel) (by decide +kernel) (fun c2 => ?_) (fun c2 => ?_)
  · rw [if_pos c2] at h
    exact at_vret rfl (by decide +kernel) h
  · rw [if_neg c2] at h
    refine at_iload_n (i := 2) 2 16 rfl (by decide +kernel) rfl ?_
    refine at_aload_n (i := 0) 0 17 rfl (by decide +kernel) rfl ?_
    refine at_get (index := 113) (v := va_rf (mR m t 37)) cok12 37 20 rfl (by decide +kernel) k1 (by decide +kernel) tw_1122 rfl ?_
    refine at_bipush (n := 12) (12 : Int32) 22 rfl (by decide +kernel) (by decide +kernel) ?_
    refine at_iload_n (i := 1) 1 23 rfl (by decide +kernel) rfl ?_
    refine at_imul 24 rfl (by decide +kernel) ?_
    refine at_iload_n (i := 3) 3 25 rfl (by decide +kernel) rfl ?_
    refine at_iadd 26 rfl (by decide +kernel) ?_
    obtain ⟨b3, e4, h⟩ := h
    rw [e4]
    obtain ⟨k5, h⟩ := h
    obtain ⟨v6, h⟩ := h
    refine at_iald 27 rfl (by decide +kernel) k5 v6 ?_
    refine at_imn (index := 305) 30 rfl (by decide +kernel) tw_1390 (by decide) ?_
    refine at_istore (i := 4) (lc' := [(0, va_rf (some t)), (1, .int (l1)), (2, .int (l2)), (3, .int (l3)), (4, .int (imn l2 (mI m b3 (((12 : Int32) * l1) + l3).toNatClampNeg)))]) [1, 2, 3, 4, 0] 32 rfl (by decide +kernel) (by decide +kernel) rfl ?_
    refine at_aload_n (i := 0) 0 33 rfl (by decide +kernel) rfl ?_
    refine at_iload_n (i := 1) 1 34 rfl (by decide +kernel) rfl ?_
    refine at_iload_n (i := 3) 3 35 rfl (by decide +kernel) rfl ?_
    refine at_iload (i := 4) 4 37 rfl (by decide +kernel) rfl ?_
    refine at_aload_n (i := 0) 0 38 rfl (by decide +kernel) rfl ?_
    refine at_get (index := 98) (v := va_rf (mR m t 32)) cok12 32 41 rfl (by decide +kernel) k1 (by decide +kernel) tw_1117 rfl ?_
    refine at_iload_n (i := 1) 1 42 rfl (by decide +kernel) rfl ?_
    obtain ⟨b7, e8, h⟩ := h
    rw [e8]
    obtain ⟨k9, h⟩ := h
    obtain ⟨v10, h⟩ := h
    refine at_iald 43 rfl (by decide +kernel) k9 v10 ?_
    refine at_iconst (n := 4) (4 : Int32) 44 rfl (by decide +kernel) (by decide +kernel) ?_
    refine at_idiv 45 rfl (by decide +kernel) (by decide +kernel) ?_
    refine at_iconst (n := 4) (4 : Int32) 46 rfl (by decide +kernel) (by decide +kernel) ?_
    refine at_callV mb_RF_sells tw_1473 tw_53 cok12 k1 (index := 372) tw_1471 [.int (l1), .int (l3), .int (imn l2 (mI m b3 (((12 : Int32) * l1) + l3).toNatClampNeg)), .int ((mI m b7 l1.toNatClampNeg) / (4 : Int32)), .int ((4 : Int32))] [] rfl rfl (by decide) 49 rfl (by decide +kernel) (Call.toV (CV.monoE h (fun m11 h y12 => ?_)))
    have k13 : mK m11 t = 13 := y12.k k1 (by decide)
    have k14 : mK m11 b3 = 15 := y12.k k5 (by decide)
    have k15 : mK m11 b7 = 15 := y12.k k9 (by decide)
    refine at_iload_n (i := 2) 2 50 rfl (by decide +kernel) rfl ?_
    refine at_iload (i := 4) 4 52 rfl (by decide +kernel) rfl ?_
    refine at_isub 53 rfl (by decide +kernel) ?_
    refine at_istore_n (i := 2) (lc' := [(0, va_rf (some t)), (1, .int (l1)), (2, .int (l2 - (imn l2 (mI m b3 (((12 : Int32) * l1) + l3).toNatClampNeg)))), (3, .int (l3))]) [1, 2, 0, 3] 54 rfl (by decide +kernel) (by decide +kernel) rfl ?_
    refine at_iinc (i := 3) (n := 1) (lc' := [(0, va_rf (some t)), (1, .int (l1)), (2, .int (l2 - (imn l2 (mI m b3 (((12 : Int32) * l1) + l3).toNatClampNeg)))), (3, .int (l3 + (1 : Int32)))]) (l3 + (1 : Int32)) 3 [1, 2, 3, 0] 57 rfl (by decide +kernel) rfl (by rw [show Int32.ofInt 1 = (1 : Int32) from by decide +kernel]) (by decide +kernel) rfl ?_
    refine at_goto (off := (-50)) 7 (by decide +kernel) (by decide +kernel) ?_
    exact h
set_option maxRecDepth 20000 in
set_option maxHeartbeats 4000000 in
theorem en_RF_stills (g : Gc) {lv : Nat} {t : Nat} {l1 : Int32} {m : Mm} {Q : Mm → Prop} (h : mK m t = 13 ∧ (At g M_RF_stills (lv + 1) 7 [(0, va_rf (some t)), (1, .int (l1)), (2, .int (mI m t 8)), (3, .int ((0 : Int32)))] [] m (QV Q))) : CV g M_RF_stills (lv + 1) [va_rf (some t), .int (l1)] m Q := by
  refine Call.of (by decide +kernel) (Nat.le_of_ble_eq_true rfl) ?_
  show At g M_RF_stills (lv + 1) 0 [(0, va_rf (some t)), (1, .int (l1))] [] m (QV Q)
  refine at_aload_n (i := 0) 0 1 rfl (by decide +kernel) rfl ?_
  obtain ⟨k1, h⟩ := h
  refine at_get (index := 33) (v := .int (mI m t 8)) cok12 8 4 rfl (by decide +kernel) k1 (by decide +kernel) tw_1093 rfl ?_
  refine at_istore_n (i := 2) (lc' := [(0, va_rf (some t)), (1, .int (l1)), (2, .int (mI m t 8))]) [1, 2, 0] 5 rfl (by decide +kernel) (by decide +kernel) rfl ?_
  refine at_iconst (n := 0) (0 : Int32) 6 rfl (by decide +kernel) (by decide +kernel) ?_
  refine at_istore_n (i := 3) (lc' := [(0, va_rf (some t)), (1, .int (l1)), (2, .int (mI m t 8)), (3, .int ((0 : Int32)))]) [1, 2, 3, 0] 7 rfl (by decide +kernel) (by decide +kernel) rfl ?_
  exact h
set_option maxRecDepth 20000 in
set_option maxHeartbeats 4000000 in
theorem bk_RF_grows_2 (g : Gc) {lv : Nat} {t : Nat} {l1 : Int32} {l2 : Int32} {m : Mm} {Q : Mm → Prop} (h : mK m t = 13 ∧ (if (mI m t 19) ≤ (l2) then (Q m) else (∃ b3, mR m t 35 = some b3 ∧ (mK m b3 = 15 ∧ (vp_in (((12 : Int32) * l1) + l2) (mN m b3) ∧ (∃ b7, mR m t 36 = some b7 ∧ (mK m b7 = 15 ∧ (vp_in (((3 : Int32) * (((12 : Int32) * l1) + l2)) + (2 : Int32)) (mN m b7) ∧ (vp_in (((12 : Int32) * l1) + l2) (mN m b3) ∧ (∀ m12, m12 = sI m b3 (((12 : Int32) * l1) + l2).toNatClampNeg ((mI m b3 (((12 : Int32) * l1) + l2).toNatClampNeg) + (mI m b7 (((3 : Int32) * (((12 : Int32) * l1) + l2)) + (2 : Int32)).toNatClampNeg)) → (∃ b17, mR m12 t 36 = some b17 ∧ (mK m12 b17 = 15 ∧ (vp_in (((3 : Int32) * (((12 : Int32) * l1) + l2)) + (1 : Int32)) (mN m12 b17) ∧ (vp_in (((3 : Int32) * (((12 : Int32) * l1) + l2)) + (2 : Int32)) (mN m12 b17) ∧ (∀ m22, m22 = sI m12 b17 (((3 : Int32) * (((12 : Int32) * l1) + l2)) + (2 : Int32)).toNatClampNeg (mI m12 b17 (((3 : Int32) * (((12 : Int32) * l1) + l2)) + (1 : Int32)).toNatClampNeg) → (∃ b28, mR m22 t 36 = some b28 ∧ (mK m22 b28 = 15 ∧ (vp_in ((3 : Int32) * (((12 : Int32) * l1) + l2)) (mN m22 b28) ∧ (vp_in (((3 : Int32) * (((12 : Int32) * l1) + l2)) + (1 : Int32)) (mN m22 b28) ∧ (∀ m33, m33 = sI m22 b28 (((3 : Int32) * (((12 : Int32) * l1) + l2)) + (1 : Int32)).toNatClampNeg (mI m22 b28 ((3 : Int32) * (((12 : Int32) * l1) + l2)).toNatClampNeg) → (∃ b40, mR m33 t 36 = some b40 ∧ (mK m33 b40 = 15 ∧ (vp_in ((3 : Int32) * (((12 : Int32) * l1) + l2)) (mN m33 b40) ∧ (∀ m44, m44 = sI m33 b40 ((3 : Int32) * (((12 : Int32) * l1) + l2)).toNatClampNeg (0 : Int32) → (∃ b52, mR m44 t 32 = some b52 ∧ (mK m44 b52 = 15 ∧ (vp_in l1 (mN m44 b52) ∧ (if (mI m44 b52 l1.toNatClampNeg) < (mI m44 t 9) then (At g M_RF_grows (lv + 1) 2 [(0, va_rf (some t)), (1, .int (l1)), (2, .int (l2 + (1 : Int32)))] [] m44 (QV Q)) else (∃ b57, mR m44 t 39 = some b57 ∧ (mK m44 b57 = 16 ∧ (vp_in (((15 : Int32) * l1) + l2) (mN m44 b57) ∧ (if ((0 : Int64)) ≤ (mL m44 b57 (((15 : Int32) * l1) + l2).toNatClampNeg) then (∃ b62, mR m44 t 35 = some b62 ∧ (mK m44 b62 = 15 ∧ (vp_in (((12 : Int32) * l1) + l2) (mN m44 b62) ∧ (∃ b66, mR m44 t 36 = some b66 ∧ (mK m44 b66 = 15 ∧ (vp_in (((3 : Int32) * (((12 : Int32) * l1) + l2)) + (1 : Int32)) (mN m44 b66) ∧ (vp_in (((3 : Int32) * (((12 : Int32) * l1) + l2)) + (2 : Int32)) (mN m44 b66) ∧ (vp_in (((12 : Int32) * l1) + l2) (mN m44 b62) ∧ (vp_in ((3 : Int32) * (((12 : Int32) * l1) + l2)) (mN m44 b66) ∧ (∀ m73, m73 = sI m44 b66 ((3 : Int32) * (((12 : Int32) * l1) + l2)).toNatClampNeg (imx (0 : Int32) (imn ((((5000 : Int32) - (mI m44 b62 (((12 : Int32) * l1) + l2).toNatClampNeg)) - (mI m44 b66 (((3 : Int32) * (((12 : Int32) * l1) + l2)) + (1 : Int32)).toNatClampNeg)) - (mI m44 b66 (((3 : Int32) * (((12 : Int32) * l1) + l2)) + (2 : Int32)).toNatClampNeg)) (((mI m44 b62 (((12 : Int32) * l1) + l2).toNatClampNeg) * (mI m44 t 10)) / (100 : Int32)))) → (At g M_RF_grows (lv + 1) 2 [(0, va_rf (some t)), (1, .int (l1)), (2, .int (l2 + (1 : Int32)))] [] m73 (QV Q)))))))))))) else (At g M_RF_grows (lv + 1) 2 [(0, va_rf (some t)), (1, .int (l1)), (2, .int (l2 + (1 : Int32)))] [] m44 (QV Q)))))))))))))))))))))))))))))))))) : At g M_RF_grows (lv + 1) 2 [(0, va_rf (some t)), (1, .int (l1)), (2, .int (l2))] [] m (QV Q) := by
  refine at_iload_n (i := 2) 2 3 rfl (by decide +kernel) rfl ?_
  refine at_aload_n (i := 0) 0 4 rfl (by decide +kernel) rfl ?_
  obtain ⟨k1, h⟩ := h
  refine at_get (index := 185) (v := .int (mI m t 19)) cok12 19 7 rfl (by decide +kernel) k1 (by decide +kernel) tw_1104 rfl ?_
  refine at_icmp_ge (off := 179) 186 10 rfl (by decide +kernel) (by decide +kernel) (fun c2 => ?_) (fun c2 => ?_)
  · rw [if_pos c2] at h
    exact at_vret rfl (by decide +kernel) h
  · rw [if_neg c2] at h
    refine at_bipush (n := 12) (12 : Int32) 12 rfl (by decide +kernel) (by decide +kernel) ?_
    refine at_iload_n (i := 1) 1 13 rfl (by decide +kernel) rfl ?_
    refine at_imul 14 rfl (by decide +kernel) ?_
    refine at_iload_n (i := 2) 2 15 rfl (by decide +kernel) rfl ?_
    refine at_iadd 16 rfl (by decide +kernel) ?_
    refine at_istore_n (i := 3) (lc' := [(0, va_rf (some t)), (1, .int (l1)), (2, .int (l2)), (3, .int (((12 : Int32) * l1) + l2))]) [1, 2, 3, 0] 17 rfl (by decide +kernel) (by decide +kernel) rfl ?_
    refine at_aload_n (i := 0) 0 18 rfl (by decide +kernel) rfl ?_
    refine at_get (index := 107) (v := va_rf (mR m t 35)) cok12 35 21 rfl (by decide +kernel) k1 (by decide +kernel) tw_1120 rfl ?_
    refine at_iload_n (i := 3) 3 22 rfl (by decide +kernel) rfl ?_
    refine at_dup2_11 23 rfl (by decide +kernel) rfl (va_rf_cat _) ?_
    obtain ⟨b3, e4, h⟩ := h
    rw [e4]
    obtain ⟨k5, h⟩ := h
    obtain ⟨v6, h⟩ := h
    refine at_iald 24 rfl (by decide +kernel) k5 v6 ?_
    refine at_aload_n (i := 0) 0 25 rfl (by decide +kernel) rfl ?_
    refine at_get (index := 110) (v := va_rf (mR m t 36)) cok12 36 28 rfl (by decide +kernel) k1 (by decide +kernel) tw_1121 rfl ?_
    refine at_iconst (n := 3) (3 : Int32) 29 rfl (by decide +kernel) (by decide +kernel) ?_
    refine at_iload_n (i := 3) 3 30 rfl (by decide +kernel) rfl ?_
    refine at_imul 31 rfl (by decide +kernel) ?_
    refine at_iconst (n := 2) (2 : Int32) 32 rfl (by decide +kernel) (by decide +kernel) ?_
    refine at_iadd 33 rfl (by decide +kernel) ?_
    obtain ⟨b7, e8, h⟩ := h
    rw [e8]
    obtain ⟨k9, h⟩ := h
    obtain ⟨v10, h⟩ := h
    refine at_iald 34 rfl (by decide +kernel) k9 v10 ?_
    refine at_iadd 35 rfl (by decide +kernel) ?_
    obtain ⟨v11, h⟩ := h
    refine at_iast 36 rfl (by decide +kernel) k5 v11 (fun m12 e13 => ?_)
    replace h := h m12 e13
    have k14 : mK m12 t = 13 := by rw [e13]; exact k1
    have k15 : mK m12 b3 = 15 := by rw [e13]; exact k5
    have k16 : mK m12 b7 = 15 := by rw [e13]; exact k9
    refine at_aload_n (i := 0) 0 37 rfl (by decide +kernel) rfl ?_
    refine at_get (index := 110) (v := va_rf (mR m12 t 36)) cok12 36 40 rfl (by decide +kernel) k14 (by decide +kernel) tw_1121 rfl ?_
    refine at_iconst (n := 3) (3 : Int32) 41 rfl (by decide +kernel) (by decide +kernel) ?_
    refine at_iload_n (i := 3) 3 42 rfl (by decide +kernel) rfl ?_
    refine at_imul 43 rfl (by decide +kernel) ?_
    refine at_iconst (n := 2) (2 : Int32) 44 rfl (by decide +kernel) (by decide +kernel) ?_
    refine at_iadd 45 rfl (by decide +kernel) ?_
    refine at_aload_n (i := 0) 0 46 rfl (by decide +kernel) rfl ?_
    refine at_get (index := 110) (v := va_rf (mR m12 t 36)) cok12 36 49 rfl (by decide +kernel) k14 (by decide +kernel) tw_1121 rfl ?_
    refine at_iconst (n := 3) (3 : Int32) 50 rfl (by decide +kernel) (by decide +kernel) ?_
    refine at_iload_n (i := 3) 3 51 rfl (by decide +kernel) rfl ?_
    refine at_imul 52 rfl (by decide +kernel) ?_
    refine at_iconst (n := 1) (1 : Int32) 53 rfl (by decide +kernel) (by decide +kernel) ?_
    refine at_iadd 54 rfl (by decide +kernel) ?_
    obtain ⟨b17, e18, h⟩ := h
    rw [e18]
    obtain ⟨k19, h⟩ := h
    obtain ⟨v20, h⟩ := h
    refine at_iald 55 rfl (by decide +kernel) k19 v20 ?_
    obtain ⟨v21, h⟩ := h
    refine at_iast 56 rfl (by decide +kernel) k19 v21 (fun m22 e23 => ?_)
    replace h := h m22 e23
    have k24 : mK m22 t = 13 := by rw [e23]; exact k14
    have k25 : mK m22 b3 = 15 := by rw [e23]; exact k15
    have k26 : mK m22 b7 = 15 := by rw [e23]; exact k16
    have k27 : mK m22 b17 = 15 := by rw [e23]; exact k19
    refine at_aload_n (i := 0) 0 57 rfl (by decide +kernel) rfl ?_
    refine at_get (index := 110) (v := va_rf (mR m22 t 36)) cok12 36 60 rfl (by decide +kernel) k24 (by decide +kernel) tw_1121 rfl ?_
    refine at_iconst (n := 3) (3 : Int32) 61 rfl (by decide +kernel) (by decide +kernel) ?_
    refine at_iload_n (i := 3) 3 62 rfl (by decide +kernel) rfl ?_
    refine at_imul 63 rfl (by decide +kernel) ?_
    refine at_iconst (n := 1) (1 : Int32) 64 rfl (by decide +kernel) (by decide +kernel) ?_
    refine at_iadd 65 rfl (by decide +kernel) ?_
    refine at_aload_n (i := 0) 0 66 rfl (by decide +kernel) rfl ?_
    refine at_get (index := 110) (v := va_rf (mR m22 t 36)) cok12 36 69 rfl (by decide +kernel) k24 (by decide +kernel) tw_1121 rfl ?_
    refine at_iconst (n := 3) (3 : Int32) 70 rfl (by decide +kernel) (by decide +kernel) ?_
    refine at_iload_n (i := 3) 3 71 rfl (by decide +kernel) rfl ?_
    refine at_imul 72 rfl (by decide +kernel) ?_
    obtain ⟨b28, e29, h⟩ := h
    rw [e29]
    obtain ⟨k30, h⟩ := h
    obtain ⟨v31, h⟩ := h
    refine at_iald 73 rfl (by decide +kernel) k30 v31 ?_
    obtain ⟨v32, h⟩ := h
    refine at_iast 74 rfl (by decide +kernel) k30 v32 (fun m33 e34 => ?_)
    replace h := h m33 e34
    have k35 : mK m33 t = 13 := by rw [e34]; exact k24
    have k36 : mK m33 b3 = 15 := by rw [e34]; exact k25
    have k37 : mK m33 b7 = 15 := by rw [e34]; exact k26
    have k38 : mK m33 b17 = 15 := by rw [e34]; exact k27
    have k39 : mK m33 b28 = 15 := by rw [e34]; exact k30
    refine at_aload_n (i := 0) 0 75 rfl (by decide +kernel) rfl ?_
    refine at_get (index := 110) (v := va_rf (mR m33 t 36)) cok12 36 78 rfl (by decide +kernel) k35 (by decide +kernel) tw_1121 rfl ?_
    refine at_iconst (n := 3) (3 : Int32) 79 rfl (by decide +kernel) (by decide +kernel) ?_
    refine at_iload_n (i := 3) 3 80 rfl (by decide +kernel) rfl ?_
    refine at_imul 81 rfl (by decide +kernel) ?_
    refine at_iconst (n := 0) (0 : Int32) 82 rfl (by decide +kernel) (by decide +kernel) ?_
    obtain ⟨b40, e41, h⟩ := h
    rw [e41]
    obtain ⟨k42, h⟩ := h
    obtain ⟨v43, h⟩ := h
    refine at_iast 83 rfl (by decide +kernel) k42 v43 (fun m44 e45 => ?_)
    replace h := h m44 e45
    have k46 : mK m44 t = 13 := by rw [e45]; exact k35
    have k47 : mK m44 b3 = 15 := by rw [e45]; exact k36
    have k48 : mK m44 b7 = 15 := by rw [e45]; exact k37
    have k49 : mK m44 b17 = 15 := by rw [e45]; exact k38
    have k50 : mK m44 b28 = 15 := by rw [e45]; exact k39
    have k51 : mK m44 b40 = 15 := by rw [e45]; exact k42
    refine at_aload_n (i := 0) 0 84 rfl (by decide +kernel) rfl ?_
    refine at_get (index := 98) (v := va_rf (mR m44 t 32)) cok12 32 87 rfl (by decide +kernel) k46 (by decide +kernel) tw_1117 rfl ?_
    refine at_iload_n (i := 1) 1 88 rfl (by decide +kernel) rfl ?_
    obtain ⟨b52, e53, h⟩ := h
    rw [e53]
    obtain ⟨k54, h⟩ := h
    obtain ⟨v55, h⟩ := h
    refine at_iald 89 rfl (by decide +kernel) k54 v55 ?_
    refine at_aload_n (i := 0) 0 90 rfl (by decide +kernel) rfl ?_
    refine at_get (index := 36) (v := .int (mI m44 t 9)) cok12 9 93 rfl (by decide +kernel) k46 (by decide +kernel) tw_1094 rfl ?_
    refine at_icmp_lt (off := 87) 180 96 rfl (by decide +kernel) (by decide +kernel) (fun c56 => ?_) (fun c56 => ?_)
    · rw [if_pos c56] at h
      refine at_iinc (i := 2) (n := 1) (lc' := [(0, va_rf (some t)), (1, .int (l1)), (2, .int (l2 + (1 : Int32)))]) (l2 + (1 : Int32)) 2 [1, 2, 0] 183 rfl (by decide +kernel) rfl (by rw [show Int32.ofInt 1 = (1 : Int32) from by decide +kernel]) (by decide +kernel) rfl ?_
      refine at_goto (off := (-181)) 2 (by decide +kernel) (by decide +kernel) ?_
      exact h
    · rw [if_neg c56] at h
      refine at_aload_n (i := 0) 0 97 rfl (by decide +kernel) rfl ?_
      refine at_get (index := 119) (v := va_rf (mR m44 t 39)) cok12 39 100 rfl (by decide +kernel) k46 (by decide +kernel) tw_1124 rfl ?_
      refine at_bipush (n := 15) (15 : Int32) 102 rfl (by decide +kernel) (by decide +kernel) ?_
      refine at_iload_n (i := 1) 1 103 rfl (by decide +kernel) rfl ?_
      refine at_imul 104 rfl (by decide +kernel) ?_
      refine at_iload_n (i := 2) 2 105 rfl (by decide +kernel) rfl ?_
      refine at_iadd 106 rfl (by decide +kernel) ?_
      obtain ⟨b57, e58, h⟩ := h
      rw [e58]
      obtain ⟨k59, h⟩ := h
      obtain ⟨v60, h⟩ := h
      refine at_lald 107 rfl (by decide +kernel) k59 v60 ?_
      refine at_lconst (n := 0) (0 : Int64) 108 rfl (by decide +kernel) (by decide +kernel) ?_
      refine at_lif_ge (off := 6) 109 115 112 rfl rfl (by decide +kernel) (by decide +kernel) (by decide +kernel) (fun c61 => ?_) (fun c61 => ?_)
      · rw [if_pos c61] at h
        refine at_sipush (n := 5000) (5000 : Int32) 118 rfl (by decide +kernel) (by decide +kernel) ?_
        refine at_aload_n (i := 0) 0 119 rfl (by decide +kernel) rfl ?_
        refine at_get (index := 107) (v := va_rf (mR m44 t 35)) cok12 35 122 rfl (by decide +kernel) k46 (by decide +kernel) tw_1120 rfl ?_
        refine at_iload_n (i := 3) 3 123 rfl (by decide +kernel) rfl ?_
        obtain ⟨b62, e63, h⟩ := h
        rw [e63]
        obtain ⟨k64, h⟩ := h
        obtain ⟨v65, h⟩ := h
        refine at_iald 124 rfl (by decide +kernel) k64 v65 ?_
        refine at_isub 125 rfl (by decide +kernel) ?_
        refine at_aload_n (i := 0) 0 126 rfl (by decide +kernel) rfl ?_
        refine at_get (index := 110) (v := va_rf (mR m44 t 36)) cok12 36 129 rfl (by decide +kernel) k46 (by decide +kernel) tw_1121 rfl ?_
        refine at_iconst (n := 3) (3 : Int32) 130 rfl (by decide +kernel) (by decide +kernel) ?_
        refine at_iload_n (i := 3) 3 131 rfl (by decide +kernel) rfl ?_
        refine at_imul 132 rfl (by decide +kernel) ?_
        refine at_iconst (n := 1) (1 : Int32) 133 rfl (by decide +kernel) (by decide +kernel) ?_
        refine at_iadd 134 rfl (by decide +kernel) ?_
        obtain ⟨b66, e67, h⟩ := h
        rw [e67]
        obtain ⟨k68, h⟩ := h
        obtain ⟨v69, h⟩ := h
        refine at_iald 135 rfl (by decide +kernel) k68 v69 ?_
        refine at_isub 136 rfl (by decide +kernel) ?_
        refine at_aload_n (i := 0) 0 137 rfl (by decide +kernel) rfl ?_
        refine at_get (index := 110) (v := va_rf (mR m44 t 36)) cok12 36 140 rfl (by decide +kernel) k46 (by decide +kernel) tw_1121 rfl ?_
        rw [e67]
        refine at_iconst (n := 3) (3 : Int32) 141 rfl (by decide +kernel) (by decide +kernel) ?_
        refine at_iload_n (i := 3) 3 142 rfl (by decide +kernel) rfl ?_
        refine at_imul 143 rfl (by decide +kernel) ?_
        refine at_iconst (n := 2) (2 : Int32) 144 rfl (by decide +kernel) (by decide +kernel) ?_
        refine at_iadd 145 rfl (by decide +kernel) ?_
        obtain ⟨v70, h⟩ := h
        refine at_iald 146 rfl (by decide +kernel) k68 v70 ?_
        refine at_isub 147 rfl (by decide +kernel) ?_
        refine at_istore (i := 4) (lc' := [(0, va_rf (some t)), (1, .int (l1)), (2, .int (l2)), (3, .int (((12 : Int32) * l1) + l2)), (4, .int ((((5000 : Int32) - (mI m44 b62 (((12 : Int32) * l1) + l2).toNatClampNeg)) - (mI m44 b66 (((3 : Int32) * (((12 : Int32) * l1) + l2)) + (1 : Int32)).toNatClampNeg)) - (mI m44 b66 (((3 : Int32) * (((12 : Int32) * l1) + l2)) + (2 : Int32)).toNatClampNeg)))]) [1, 2, 3, 4, 0] 149 rfl (by decide +kernel) (by decide +kernel) rfl ?_
        refine at_aload_n (i := 0) 0 150 rfl (by decide +kernel) rfl ?_
        refine at_get (index := 110) (v := va_rf (mR m44 t 36)) cok12 36 153 rfl (by decide +kernel) k46 (by decide +kernel) tw_1121 rfl ?_
        rw [e67]
        refine at_iconst (n := 3) (3 : Int32) 154 rfl (by decide +kernel) (by decide +kernel) ?_
        refine at_iload_n (i := 3) 3 155 rfl (by decide +kernel) rfl ?_
        refine at_imul 156 rfl (by decide +kernel) ?_
        refine at_iconst (n := 0) (0 : Int32) 157 rfl (by decide +kernel) (by decide +kernel) ?_
        refine at_iload (i := 4) 4 159 rfl (by decide +kernel) rfl ?_
        refine at_aload_n (i := 0) 0 160 rfl (by decide +kernel) rfl ?_
        refine at_get (index := 107) (v := va_rf (mR m44 t 35)) cok12 35 163 rfl (by decide +kernel) k46 (by decide +kernel) tw_1120 rfl ?_
        rw [e63]
        refine at_iload_n (i := 3) 3 164 rfl (by decide +kernel) rfl ?_
        obtain ⟨v71, h⟩ := h
        refine at_iald 165 rfl (by decide +kernel) k64 v71 ?_
        refine at_aload_n (i := 0) 0 166 rfl (by decide +kernel) rfl ?_
        refine at_get (index := 39) (v := .int (mI m44 t 10)) cok12 10 169 rfl (by decide +kernel) k46 (by decide +kernel) tw_1095 rfl ?_
        refine at_imul 170 rfl (by decide +kernel) ?_
        refine at_bipush (n := 100) (100 : Int32) 172 rfl (by decide +kernel) (by decide +kernel) ?_
        refine at_idiv 173 rfl (by decide +kernel) (by decide +kernel) ?_
        refine at_imn (index := 305) 176 rfl (by decide +kernel) tw_1390 (by simp [va_rf_cat, cat_int, cat_long]) ?_
        refine at_imx (index := 297) 179 rfl (by decide +kernel) tw_1389 (by simp [va_rf_cat, cat_int, cat_long]) ?_
        obtain ⟨v72, h⟩ := h
        refine at_iast 180 rfl (by decide +kernel) k68 v72 (fun m73 e74 => ?_)
        replace h := h m73 e74
        have k75 : mK m73 t = 13 := by rw [e74]; exact k46
        have k76 : mK m73 b3 = 15 := by rw [e74]; exact k47
        have k77 : mK m73 b7 = 15 := by rw [e74]; exact k48
        have k78 : mK m73 b17 = 15 := by rw [e74]; exact k49
        have k79 : mK m73 b28 = 15 := by rw [e74]; exact k50
        have k80 : mK m73 b40 = 15 := by rw [e74]; exact k51
        have k81 : mK m73 b52 = 15 := by rw [e74]; exact k54
        have k82 : mK m73 b57 = 16 := by rw [e74]; exact k59
        have k83 : mK m73 b62 = 15 := by rw [e74]; exact k64
        have k84 : mK m73 b66 = 15 := by rw [e74]; exact k68
        refine at_iinc (i := 2) (n := 1) (lc' := [(0, va_rf (some t)), (1, .int (l1)), (2, .int (l2 + (1 : Int32)))]) (l2 + (1 : Int32)) 2 [1, 2, 0] 183 rfl (by decide +kernel) rfl (by rw [show Int32.ofInt 1 = (1 : Int32) from by decide +kernel]) (by decide +kernel) rfl ?_
        refine at_goto (off := (-181)) 2 (by decide +kernel) (by decide +kernel) ?_
        exact h
      · rw [if_neg c61] at h
        refine at_goto (off := 68) 180 (by decide +kernel) (by decide +kernel) ?_
        refine at_iinc (i := 2) (n := 1) (lc' := [(0, va_rf (some t)), (1, .int (l1)), (2, .int (l2 + (1 : Int32)))]) (l2 + (1 : Int32)) 2 [1, 2, 0] 183 rfl (by decide +kernel) rfl (by rw [show Int32.ofInt 1 = (1 : Int32) from by decide +kernel]) (by decide +kernel) rfl ?_
        refine at_goto (off := (-181)) 2 (by decide +kernel) (by decide +kernel) ?_
        exact h
set_option maxRecDepth 20000 in
set_option maxHeartbeats 4000000 in
theorem en_RF_grows (g : Gc) {lv : Nat} {t : Nat} {l1 : Int32} {m : Mm} {Q : Mm → Prop} (h : At g M_RF_grows (lv + 1) 2 [(0, va_rf (some t)), (1, .int (l1)), (2, .int ((0 : Int32)))] [] m (QV Q)) : CV g M_RF_grows (lv + 1) [va_rf (some t), .int (l1)] m Q := by
  refine Call.of (by decide +kernel) (Nat.le_of_ble_eq_true rfl) ?_
  show At g M_RF_grows (lv + 1) 0 [(0, va_rf (some t)), (1, .int (l1))] [] m (QV Q)
  refine at_iconst (n := 0) (0 : Int32) 1 rfl (by decide +kernel) (by decide +kernel) ?_
  refine at_istore_n (i := 2) (lc' := [(0, va_rf (some t)), (1, .int (l1)), (2, .int ((0 : Int32)))]) [1, 2, 0] 2 rfl (by decide +kernel) (by decide +kernel) rfl ?_
  exact h
set_option maxRecDepth 20000 in
set_option maxHeartbeats 4000000 in
theorem bk_RF_go_189 (g : Gc) {lv : Nat} {t : Nat} {l2 : Int32} {l3 : Int32} {m : Mm} {Q : Int32 → Mm → Prop} (h : mK m t = 13 ∧ (∃ b2, mR m t 33 = some b2 ∧ (mK m b2 = 15 ∧ (vp_in (0 : Int32) (mN m b2) ∧ (if (mI m b2 (0 : Int32).toNatClampNeg) ≤ (l3) then (∃ b7, mR m t 31 = some b7 ∧ (mK m b7 = 15 ∧ (vp_in (0 : Int32) (mN m b7) ∧ (vp_in (0 : Int32) (mN m b7) ∧ (∀ m12, m12 = sI m b7 (0 : Int32).toNatClampNeg ((mI m b7 (0 : Int32).toNatClampNeg) + (1 : Int32)) → (∃ b17, mR m12 t 31 = some b17 ∧ (mK m12 b17 = 15 ∧ (vp_in (0 : Int32) (mN m12 b17) ∧ (Q (mI m12 b17 (0 : Int32).toNatClampNeg) m12))))))))) else (CV g M_RF_dues lv [va_rf (some t), .int (l3), .int (l2)] m (fun m21 => (At g M_RF_go (lv + 1) 189 [(0, va_rf (some t)), (2, .int (l2)), (3, .int (l3 + (1 : Int32)))] [] m21 (QI Q))))))))) : At g M_RF_go (lv + 1) 189 [(0, va_rf (some t)), (2, .int (l2)), (3, .int (l3))] [] m (QI Q) := by
  refine at_iload_n (i := 3) 2 190 rfl (by decide +kernel) rfl ?_
  refine at_aload_n (i := 0) 0 191 rfl (by decide +kernel) rfl ?_
  obtain ⟨k1, h⟩ := h
  refine at_get (index := 101) (v := va_rf (mR m t 33)) cok12 33 194 rfl (by decide +kernel) k1 (by decide +kernel) tw_1118 rfl ?_
  refine at_iconst (n := 0) (0 : Int32) 195 rfl (by decide +kernel) (by decide +kernel) ?_
  obtain ⟨b2, e3, h⟩ := h
  rw [e3]
  obtain ⟨k4, h⟩ := h
  obtain ⟨v5, h⟩ := h
  refine at_iald 196 rfl (by decide +kernel) k4 v5 ?_
  refine at_icmp_ge (off := 15) 211 199 rfl (by decide +kernel) (by decide +kernel) (fun c6 => ?_) (fun c6 => ?_)
  · rw [if_pos c6] at h
    refine at_aload_n (i := 0) 0 212 rfl (by decide +kernel) rfl ?_
    refine at_get (index := 95) (v := va_rf (mR m t 31)) cok12 31 215 rfl (by decide +kernel) k1 (by decide +kernel) tw_1116 rfl ?_
    refine at_iconst (n := 0) (0 : Int32) 216 rfl (by decide +kernel) (by decide +kernel) ?_
    refine at_dup2_11 217 rfl (by decide +kernel) rfl (va_rf_cat _) ?_
    obtain ⟨b7, e8, h⟩ := h
    rw [e8]
    obtain ⟨k9, h⟩ := h
    obtain ⟨v10, h⟩ := h
    refine at_iald 218 rfl (by decide +kernel) k9 v10 ?_
    refine at_iconst (n := 1) (1 : Int32) 219 rfl (by decide +kernel) (by decide +kernel) ?_
    refine at_iadd 220 rfl (by decide +kernel) ?_
    obtain ⟨v11, h⟩ := h
    refine at_iast 221 rfl (by decide +kernel) k9 v11 (fun m12 e13 => ?_)
    replace h := h m12 e13
    have k14 : mK m12 t = 13 := by rw [e13]; exact k1
    have k15 : mK m12 b2 = 15 := by rw [e13]; exact k4
    have k16 : mK m12 b7 = 15 := by rw [e13]; exact k9
    refine at_aload_n (i := 0) 0 222 rfl (by decide +kernel) rfl ?_
    refine at_get (index := 95) (v := va_rf (mR m12 t 31)) cok12 31 225 rfl (by decide +kernel) k14 (by decide +kernel) tw_1116 rfl ?_
    refine at_iconst (n := 0) (0 : Int32) 226 rfl (by decide +kernel) (by decide +kernel) ?_
    obtain ⟨b17, e18, h⟩ := h
    rw [e18]
    obtain ⟨k19, h⟩ := h
    obtain ⟨v20, h⟩ := h
    refine at_iald 227 rfl (by decide +kernel) k19 v20 ?_
    exact at_iret rfl (by decide +kernel) h
  · rw [if_neg c6] at h
    refine at_aload_n (i := 0) 0 200 rfl (by decide +kernel) rfl ?_
    refine at_iload_n (i := 3) 2 201 rfl (by decide +kernel) rfl ?_
    refine at_iload_n (i := 2) 1 202 rfl (by decide +kernel) rfl ?_
    refine at_callV mb_RF_dues tw_1485 tw_56 cok12 k1 (index := 378) tw_1483 [.int (l3), .int (l2)] [] rfl rfl (by decide) 205 rfl (by decide +kernel) (Call.toV (CV.monoE h (fun m21 h y22 => ?_)))
    have k23 : mK m21 t = 13 := y22.k k1 (by decide)
    have k24 : mK m21 b2 = 15 := y22.k k4 (by decide)
    refine at_iinc (i := 3) (n := 1) (lc' := [(0, va_rf (some t)), (2, .int (l2)), (3, .int (l3 + (1 : Int32)))]) (l3 + (1 : Int32)) 2 [1, 2, 0] 208 rfl (by decide +kernel) rfl (by rw [show Int32.ofInt 1 = (1 : Int32) from by decide +kernel]) (by decide +kernel) rfl ?_
    refine at_goto (off := (-19)) 189 (by decide +kernel) (by decide +kernel) ?_
    exact h
set_option maxRecDepth 20000 in
set_option maxHeartbeats 4000000 in
theorem bk_RF_go_93 (g : Gc) {lv : Nat} {t : Nat} {l1 : Int32} {l2 : Int32} {l3 : Int32} {s0 : Int32} {m : Mm} {Q : Int32 → Mm → Prop} (h : mK m t = 13 ∧ (∃ b2, mR m t 23 = some b2 ∧ (mK m b2 = 15 ∧ (vp_in (((12 : Int32) * l2) + l3) (mN m b2) ∧ (∀ m6, m6 = sI m b2 (((12 : Int32) * l2) + l3).toNatClampNeg s0 → (∃ b10, mR m6 t 24 = some b10 ∧ (mK m6 b10 = 15 ∧ (vp_in (((12 : Int32) * l2) + l3) (mN m6 b10) ∧ (∀ m14, m14 = sI m6 b10 (((12 : Int32) * l2) + l3).toNatClampNeg s0 → (∃ b19, mR m14 t 22 = some b19 ∧ (mK m14 b19 = 15 ∧ (vp_in l3 (mN m14 b19) ∧ (if (mI m14 b19 l3.toNatClampNeg) = ((-1 : Int32)) then (∃ b24, mR m14 t 28 = some b24 ∧ (mK m14 b24 = 17 ∧ (vp_in (((12 : Int32) * l2) + l3) (mN m14 b24) ∧ (∀ m28, m28 = sI m14 b24 (((12 : Int32) * l2) + l3).toNatClampNeg (0 : Int32) → (∃ b35, mR m28 t 22 = some b35 ∧ (mK m28 b35 = 15 ∧ (vp_in l3 (mN m28 b35) ∧ (∀ m39, m39 = sI m28 b35 l3.toNatClampNeg (-1 : Int32) → (At g M_RF_go (lv + 1) 58 [(0, va_rf (some t)), (1, .int (l1)), (2, .int (l2)), (3, .int (l3 + (1 : Int32)))] [] m39 (QI Q)))))))))) else (∃ b47, mR m14 t 28 = some b47 ∧ (mK m14 b47 = 17 ∧ (vp_in (((12 : Int32) * l2) + l3) (mN m14 b47) ∧ (∀ m51, m51 = sI m14 b47 (((12 : Int32) * l2) + l3).toNatClampNeg (1 : Int32) → (∃ b58, mR m51 t 22 = some b58 ∧ (mK m51 b58 = 15 ∧ (vp_in l3 (mN m51 b58) ∧ (∀ m62, m62 = sI m51 b58 l3.toNatClampNeg (-1 : Int32) → (At g M_RF_go (lv + 1) 58 [(0, va_rf (some t)), (1, .int (l1)), (2, .int (l2)), (3, .int (l3 + (1 : Int32)))] [] m62 (QI Q))))))))))))))))))))))) : At g M_RF_go (lv + 1) 93 [(0, va_rf (some t)), (1, .int (l1)), (2, .int (l2)), (3, .int (l3))] [.int (s0)] m (QI Q) := by
  refine at_istore (i := 4) (lc' := [(0, va_rf (some t)), (1, .int (l1)), (2, .int (l2)), (3, .int (l3)), (4, .int (s0))]) [1, 2, 3, 4, 0] 95 rfl (by decide +kernel) (by decide +kernel) rfl ?_
  refine at_aload_n (i := 0) 0 96 rfl (by decide +kernel) rfl ?_
  obtain ⟨k1, h⟩ := h
  refine at_get (index := 70) (v := va_rf (mR m t 23)) cok12 23 99 rfl (by decide +kernel) k1 (by decide +kernel) tw_1108 rfl ?_
  refine at_bipush (n := 12) (12 : Int32) 101 rfl (by decide +kernel) (by decide +kernel) ?_
  refine at_iload_n (i := 2) 2 102 rfl (by decide +kernel) rfl ?_
  refine at_imul 103 rfl (by decide +kernel) ?_
  refine at_iload_n (i := 3) 3 104 rfl (by decide +kernel) rfl ?_
  refine at_iadd 105 rfl (by decide +kernel) ?_
  refine at_iload (i := 4) 4 107 rfl (by decide +kernel) rfl ?_
  obtain ⟨b2, e3, h⟩ := h
  rw [e3]
  obtain ⟨k4, h⟩ := h
  obtain ⟨v5, h⟩ := h
  refine at_iast 108 rfl (by decide +kernel) k4 v5 (fun m6 e7 => ?_)
  replace h := h m6 e7
  have k8 : mK m6 t = 13 := by rw [e7]; exact k1
  have k9 : mK m6 b2 = 15 := by rw [e7]; exact k4
  refine at_aload_n (i := 0) 0 109 rfl (by decide +kernel) rfl ?_
  refine at_get (index := 73) (v := va_rf (mR m6 t 24)) cok12 24 112 rfl (by decide +kernel) k8 (by decide +kernel) tw_1109 rfl ?_
  refine at_bipush (n := 12) (12 : Int32) 114 rfl (by decide +kernel) (by decide +kernel) ?_
  refine at_iload_n (i := 2) 2 115 rfl (by decide +kernel) rfl ?_
  refine at_imul 116 rfl (by decide +kernel) ?_
  refine at_iload_n (i := 3) 3 117 rfl (by decide +kernel) rfl ?_
  refine at_iadd 118 rfl (by decide +kernel) ?_
  refine at_iload (i := 4) 4 120 rfl (by decide +kernel) rfl ?_
  obtain ⟨b10, e11, h⟩ := h
  rw [e11]
  obtain ⟨k12, h⟩ := h
  obtain ⟨v13, h⟩ := h
  refine at_iast 121 rfl (by decide +kernel) k12 v13 (fun m14 e15 => ?_)
  replace h := h m14 e15
  have k16 : mK m14 t = 13 := by rw [e15]; exact k8
  have k17 : mK m14 b2 = 15 := by rw [e15]; exact k9
  have k18 : mK m14 b10 = 15 := by rw [e15]; exact k12
  refine at_aload_n (i := 0) 0 122 rfl (by decide +kernel) rfl ?_
  refine at_get (index := 86) (v := va_rf (mR m14 t 28)) cok12 28 125 rfl (by decide +kernel) k16 (by decide +kernel) tw_1113 rfl ?_
  refine at_bipush (n := 12) (12 : Int32) 127 rfl (by decide +kernel) (by decide +kernel) ?_
  refine at_iload_n (i := 2) 2 128 rfl (by decide +kernel) rfl ?_
  refine at_imul 129 rfl (by decide +kernel) ?_
  refine at_iload_n (i := 3) 3 130 rfl (by decide +kernel) rfl ?_
  refine at_iadd 131 rfl (by decide +kernel) ?_
  refine at_aload_n (i := 0) 0 132 rfl (by decide +kernel) rfl ?_
  refine at_get (index := 67) (v := va_rf (mR m14 t 22)) cok12 22 135 rfl (by decide +kernel) k16 (by decide +kernel) tw_1107 rfl ?_
  refine at_iload_n (i := 3) 3 136 rfl (by decide +kernel) rfl ?_
  obtain ⟨b19, e20, h⟩ := h
  rw [e20]
  obtain ⟨k21, h⟩ := h
  obtain ⟨v22, h⟩ := h
  refine at_iald 137 rfl (by decide +kernel) k21 v22 ?_
  refine at_iconst (n := (-1)) (-1 : Int32) 138 rfl (by decide +kernel) (by decide +kernel) ?_
  refine at_icmp_eq (off := 7) 145 141 rfl (by decide +kernel) (by decide +kernel) (fun c23 => ?_) (fun c23 => ?_)
  · rw [if_pos c23] at h
    refine at_iconst (n := 0) (0 : Int32) 146 rfl (by decide +kernel) (by decide +kernel) ?_
    obtain ⟨b24, e25, h⟩ := h
    rw [e25]
    obtain ⟨k26, h⟩ := h
    obtain ⟨v27, h⟩ := h
    refine at_zast 147 rfl (by decide +kernel) k26 v27 (Or.inl rfl) (fun m28 e29 => ?_)
    replace h := h m28 e29
    have k30 : mK m28 t = 13 := by rw [e29]; exact k16
    have k31 : mK m28 b2 = 15 := by rw [e29]; exact k17
    have k32 : mK m28 b10 = 15 := by rw [e29]; exact k18
    have k33 : mK m28 b19 = 15 := by rw [e29]; exact k21
    have k34 : mK m28 b24 = 17 := by rw [e29]; exact k26
    refine at_aload_n (i := 0) 0 148 rfl (by decide +kernel) rfl ?_
    refine at_get (index := 67) (v := va_rf (mR m28 t 22)) cok12 22 151 rfl (by decide +kernel) k30 (by decide +kernel) tw_1107 rfl ?_
    refine at_iload_n (i := 3) 3 152 rfl (by decide +kernel) rfl ?_
    refine at_iconst (n := (-1)) (-1 : Int32) 153 rfl (by decide +kernel) (by decide +kernel) ?_
    obtain ⟨b35, e36, h⟩ := h
    rw [e36]
    obtain ⟨k37, h⟩ := h
    obtain ⟨v38, h⟩ := h
    refine at_iast 154 rfl (by decide +kernel) k37 v38 (fun m39 e40 => ?_)
    replace h := h m39 e40
    have k41 : mK m39 t = 13 := by rw [e40]; exact k30
    have k42 : mK m39 b2 = 15 := by rw [e40]; exact k31
    have k43 : mK m39 b10 = 15 := by rw [e40]; exact k32
    have k44 : mK m39 b19 = 15 := by rw [e40]; exact k33
    have k45 : mK m39 b24 = 17 := by rw [e40]; exact k34
    have k46 : mK m39 b35 = 15 := by rw [e40]; exact k37
    refine at_iinc (i := 3) (n := 1) (lc' := [(0, va_rf (some t)), (1, .int (l1)), (2, .int (l2)), (3, .int (l3 + (1 : Int32)))]) (l3 + (1 : Int32)) 3 [1, 2, 3, 0] 157 rfl (by decide +kernel) rfl (by rw [show Int32.ofInt 1 = (1 : Int32) from by decide +kernel]) (by decide +kernel) rfl ?_
    refine at_goto (off := (-99)) 58 (by decide +kernel) (by decide +kernel) ?_
    exact h
  · rw [if_neg c23] at h
    refine at_iconst (n := 1) (1 : Int32) 142 rfl (by decide +kernel) (by decide +kernel) ?_
    refine at_goto (off := 4) 146 (by decide +kernel) (by decide +kernel) ?_
    obtain ⟨b47, e48, h⟩ := h
    rw [e48]
    obtain ⟨k49, h⟩ := h
    obtain ⟨v50, h⟩ := h
    refine at_zast 147 rfl (by decide +kernel) k49 v50 (Or.inr rfl) (fun m51 e52 => ?_)
    replace h := h m51 e52
    have k53 : mK m51 t = 13 := by rw [e52]; exact k16
    have k54 : mK m51 b2 = 15 := by rw [e52]; exact k17
    have k55 : mK m51 b10 = 15 := by rw [e52]; exact k18
    have k56 : mK m51 b19 = 15 := by rw [e52]; exact k21
    have k57 : mK m51 b47 = 17 := by rw [e52]; exact k49
    refine at_aload_n (i := 0) 0 148 rfl (by decide +kernel) rfl ?_
    refine at_get (index := 67) (v := va_rf (mR m51 t 22)) cok12 22 151 rfl (by decide +kernel) k53 (by decide +kernel) tw_1107 rfl ?_
    refine at_iload_n (i := 3) 3 152 rfl (by decide +kernel) rfl ?_
    refine at_iconst (n := (-1)) (-1 : Int32) 153 rfl (by decide +kernel) (by decide +kernel) ?_
    obtain ⟨b58, e59, h⟩ := h
    rw [e59]
    obtain ⟨k60, h⟩ := h
    obtain ⟨v61, h⟩ := h
    refine at_iast 154 rfl (by decide +kernel) k60 v61 (fun m62 e63 => ?_)
    replace h := h m62 e63
    have k64 : mK m62 t = 13 := by rw [e63]; exact k53
    have k65 : mK m62 b2 = 15 := by rw [e63]; exact k54
    have k66 : mK m62 b10 = 15 := by rw [e63]; exact k55
    have k67 : mK m62 b19 = 15 := by rw [e63]; exact k56
    have k68 : mK m62 b47 = 17 := by rw [e63]; exact k57
    have k69 : mK m62 b58 = 15 := by rw [e63]; exact k60
    refine at_iinc (i := 3) (n := 1) (lc' := [(0, va_rf (some t)), (1, .int (l1)), (2, .int (l2)), (3, .int (l3 + (1 : Int32)))]) (l3 + (1 : Int32)) 3 [1, 2, 3, 0] 157 rfl (by decide +kernel) rfl (by rw [show Int32.ofInt 1 = (1 : Int32) from by decide +kernel]) (by decide +kernel) rfl ?_
    refine at_goto (off := (-99)) 58 (by decide +kernel) (by decide +kernel) ?_
    exact h
set_option maxRecDepth 20000 in
set_option maxHeartbeats 4000000 in
theorem bk_RF_go_58 (g : Gc) {lv : Nat} {t : Nat} {l1 : Int32} {l2 : Int32} {l3 : Int32} {m : Mm} {Q : Int32 → Mm → Prop} (h : mK m t = 13 ∧ (if (mI m t 19) ≤ (l3) then (∃ b3, mR m t 25 = some b3 ∧ (mK m b3 = 15 ∧ (vp_in l2 (mN m b3) ∧ (∀ m7, m7 = sI m b3 l2.toNatClampNeg l1 → (CI g M_RF_passes lv [va_rf (some t), .int ((0 : Int32)), .int (l2), va_rf (mR m7 t 23), .int ((12 : Int32) * l2)] m7 (fun x11 m12 => (∃ b16, mR m7 t 26 = some b16 ∧ (mK m12 b16 = 15 ∧ (vp_in l2 (mN m12 b16) ∧ (∀ m20, m20 = sI m12 b16 l2.toNatClampNeg x11 → (At g M_RF_go (lv + 1) 189 [(0, va_rf (some t)), (2, .int (l2)), (3, .int ((0 : Int32)))] [] m20 (QI Q)))))))))))) else (∃ b25, mR m t 22 = some b25 ∧ (mK m b25 = 15 ∧ (vp_in l3 (mN m b25) ∧ (if (mI m b25 l3.toNatClampNeg) = ((-1 : Int32)) then (∃ b30, mR m t 35 = some b30 ∧ (mK m b30 = 15 ∧ (vp_in l3 (mN m b30) ∧ (At g M_RF_go (lv + 1) 93 [(0, va_rf (some t)), (1, .int (l1)), (2, .int (l2)), (3, .int (l3))] [.int ((mI m b30 l3.toNatClampNeg) * l1)] m (QI Q))))) else (vp_in l3 (mN m b25) ∧ (At g M_RF_go (lv + 1) 93 [(0, va_rf (some t)), (1, .int (l1)), (2, .int (l2)), (3, .int (l3))] [.int (mI m b25 l3.toNatClampNeg)] m (QI Q))))))))) : At g M_RF_go (lv + 1) 58 [(0, va_rf (some t)), (1, .int (l1)), (2, .int (l2)), (3, .int (l3))] [] m (QI Q) := by
  refine at_iload_n (i := 3) 3 59 rfl (by decide +kernel) rfl ?_
  refine at_aload_n (i := 0) 0 60 rfl (by decide +kernel) rfl ?_
  obtain ⟨k1, h⟩ := h
  refine at_get (index := 185) (v := .int (mI m t 19)) cok12 19 63 rfl (by decide +kernel) k1 (by decide +kernel) tw_1104 rfl ?_
  refine at_icmp_ge (off := 97) 160 66 rfl (by decide +kernel) (by decide +kernel) (fun c2 => ?_) (fun c2 => ?_)
  · rw [if_pos c2] at h
    refine at_aload_n (i := 0) 0 161 rfl (by decide +kernel) rfl ?_
    refine at_get (index := 76) (v := va_rf (mR m t 25)) cok12 25 164 rfl (by decide +kernel) k1 (by decide +kernel) tw_1110 rfl ?_
    refine at_iload_n (i := 2) 2 165 rfl (by decide +kernel) rfl ?_
    refine at_iload_n (i := 1) 1 166 rfl (by decide +kernel) rfl ?_
    obtain ⟨b3, e4, h⟩ := h
    rw [e4]
    obtain ⟨k5, h⟩ := h
    obtain ⟨v6, h⟩ := h
    refine at_iast 167 rfl (by decide +kernel) k5 v6 (fun m7 e8 => ?_)
    replace h := h m7 e8
    have k9 : mK m7 t = 13 := by rw [e8]; exact k1
    have k10 : mK m7 b3 = 15 := by rw [e8]; exact k5
    refine at_aload_n (i := 0) 0 168 rfl (by decide +kernel) rfl ?_
    refine at_get (index := 79) (v := va_rf (mR m7 t 26)) cok12 26 171 rfl (by decide +kernel) k9 (by decide +kernel) tw_1111 rfl ?_
    refine at_iload_n (i := 2) 2 172 rfl (by decide +kernel) rfl ?_
    refine at_aload_n (i := 0) 0 173 rfl (by decide +kernel) rfl ?_
    refine at_iconst (n := 0) (0 : Int32) 174 rfl (by decide +kernel) (by decide +kernel) ?_
    refine at_iload_n (i := 2) 2 175 rfl (by decide +kernel) rfl ?_
    refine at_aload_n (i := 0) 0 176 rfl (by decide +kernel) rfl ?_
    refine at_get (index := 70) (v := va_rf (mR m7 t 23)) cok12 23 179 rfl (by decide +kernel) k9 (by decide +kernel) tw_1108 rfl ?_
    refine at_bipush (n := 12) (12 : Int32) 181 rfl (by decide +kernel) (by decide +kernel) ?_
    refine at_iload_n (i := 2) 2 182 rfl (by decide +kernel) rfl ?_
    refine at_imul 183 rfl (by decide +kernel) ?_
    refine at_callV mb_RF_passes tw_1443 tw_46 cok12 k9 (index := 374) tw_1441 [.int ((0 : Int32)), .int (l2), va_rf (mR m7 t 23), .int ((12 : Int32) * l2)] [.int (l2), va_rf (mR m7 t 26)] rfl rfl (by simp [va_rf_cat, cat_int, cat_long]) 186 rfl (by decide +kernel) (Call.toI (CI.monoE h (fun x11 m12 h y13 => ?_)))
    have k14 : mK m12 t = 13 := y13.k k9 (by decide)
    have k15 : mK m12 b3 = 15 := y13.k k10 (by decide)
    obtain ⟨b16, e17, h⟩ := h
    rw [e17]
    obtain ⟨k18, h⟩ := h
    obtain ⟨v19, h⟩ := h
    refine at_iast 187 rfl (by decide +kernel) k18 v19 (fun m20 e21 => ?_)
    replace h := h m20 e21
    have k22 : mK m20 t = 13 := by rw [e21]; exact k14
    have k23 : mK m20 b3 = 15 := by rw [e21]; exact k15
    have k24 : mK m20 b16 = 15 := by rw [e21]; exact k18
    refine at_iconst (n := 0) (0 : Int32) 188 rfl (by decide +kernel) (by decide +kernel) ?_
    refine at_istore_n (i := 3) (lc' := [(0, va_rf (some t)), (2, .int (l2)), (3, .int ((0 : Int32)))]) [1, 3, 0] 189 rfl (by decide +kernel) (by decide +kernel) rfl ?_
    exact h
  · rw [if_neg c2] at h
    refine at_aload_n (i := 0) 0 67 rfl (by decide +kernel) rfl ?_
    refine at_get (index := 67) (v := va_rf (mR m t 22)) cok12 22 70 rfl (by decide +kernel) k1 (by decide +kernel) tw_1107 rfl ?_
    refine at_iload_n (i := 3) 3 71 rfl (by decide +kernel) rfl ?_
    obtain ⟨b25, e26, h⟩ := h
    rw [e26]
    obtain ⟨k27, h⟩ := h
    obtain ⟨v28, h⟩ := h
    refine at_iald 72 rfl (by decide +kernel) k27 v28 ?_
    refine at_iconst (n := (-1)) (-1 : Int32) 73 rfl (by decide +kernel) (by decide +kernel) ?_
    refine at_icmp_eq (off := 12) 85 76 rfl (by decide +kernel) (by decide +kernel) (fun c29 => ?_) (fun c29 => ?_)
    · rw [if_pos c29] at h
      refine at_aload_n (i := 0) 0 86 rfl (by decide +kernel) rfl ?_
      refine at_get (index := 107) (v := va_rf (mR m t 35)) cok12 35 89 rfl (by decide +kernel) k1 (by decide +kernel) tw_1120 rfl ?_
      refine at_iload_n (i := 3) 3 90 rfl (by decide +kernel) rfl ?_
      obtain ⟨b30, e31, h⟩ := h
      rw [e31]
      obtain ⟨k32, h⟩ := h
      obtain ⟨v33, h⟩ := h
      refine at_iald 91 rfl (by decide +kernel) k32 v33 ?_
      refine at_iload_n (i := 1) 1 92 rfl (by decide +kernel) rfl ?_
      refine at_imul 93 rfl (by decide +kernel) ?_
      exact h
    · rw [if_neg c29] at h
      refine at_aload_n (i := 0) 0 77 rfl (by decide +kernel) rfl ?_
      refine at_get (index := 67) (v := va_rf (mR m t 22)) cok12 22 80 rfl (by decide +kernel) k1 (by decide +kernel) tw_1107 rfl ?_
      rw [e26]
      refine at_iload_n (i := 3) 3 81 rfl (by decide +kernel) rfl ?_
      obtain ⟨v34, h⟩ := h
      refine at_iald 82 rfl (by decide +kernel) k27 v34 ?_
      refine at_goto (off := 11) 93 (by decide +kernel) (by decide +kernel) ?_
      exact h
set_option maxRecDepth 20000 in
set_option maxHeartbeats 4000000 in
theorem en_RF_go (g : Gc) {lv : Nat} {t : Nat} {l1 : Int32} {m : Mm} {Q : Int32 → Mm → Prop} (h : mK m t = 13 ∧ (∀ m2, m2 = sI m t 0 (0 : Int32) → (CI g M_RF_in lv [.long (l1.toInt64), .long ((0 : Int64)), .long ((100 : Int64))] m2 (fun x5 m6 => (if (x5) = 0 then (Q (-2 : Int32) m6) else (∃ b10, mR m6 t 31 = some b10 ∧ (mK m6 b10 = 15 ∧ (vp_in (0 : Int32) (mN m6 b10) ∧ (if (mI m6 b10 (0 : Int32).toNatClampNeg) = ((30 : Int32)) then (Q (-9 : Int32) m6) else (∃ b15, mR m6 t 33 = some b15 ∧ (mK m6 b15 = 15 ∧ (vp_in (0 : Int32) (mN m6 b15) ∧ (if (mI m6 t 19) ≤ ((400 : Int32) - (mI m6 b15 (0 : Int32).toNatClampNeg)) then (At g M_RF_go (lv + 1) 58 [(0, va_rf (some t)), (1, .int (l1)), (2, .int (mI m6 b10 (0 : Int32).toNatClampNeg)), (3, .int ((0 : Int32)))] [] m6 (QI Q)) else (Q (-3 : Int32) m6)))))))))))))) : CI g M_RF_go (lv + 1) [va_rf (some t), .int (l1)] m Q := by
  refine Call.of (by decide +kernel) (Nat.le_of_ble_eq_true rfl) ?_
  show At g M_RF_go (lv + 1) 0 [(0, va_rf (some t)), (1, .int (l1))] [] m (QI Q)
  refine at_aload_n (i := 0) 0 1 rfl (by decide +kernel) rfl ?_
  refine at_iconst (n := 0) (0 : Int32) 2 rfl (by decide +kernel) (by decide +kernel) ?_
  obtain ⟨k1, h⟩ := h
  refine at_putI (index := 149) cok12 0 5 rfl (by decide +kernel) k1 (by decide +kernel) tw_1085 rfl rfl rfl (fun m2 e3 => ?_)
  replace h := h m2 e3
  have k4 : mK m2 t = 13 := by rw [e3]; exact k1
  refine at_iload_n (i := 1) 1 6 rfl (by decide +kernel) rfl ?_
  refine at_i2l 7 rfl (by decide +kernel) ?_
  refine at_lconst (n := 0) (0 : Int64) 8 rfl (by decide +kernel) (by decide +kernel) ?_
  refine at_ldc2 (index := 174) (100 : Int64) 11 rfl (by decide +kernel) tw_1318 ?_
  refine at_callS mb_RF_in tw_1293 (index := 154) tw_1292 [.long (l1.toInt64), .long ((0 : Int64)), .long ((100 : Int64))] [] rfl rfl (by decide) 14 rfl (by decide +kernel) (Call.toI (CI.monoE h (fun x5 m6 h y7 => ?_)))
  have k8 : mK m6 t = 13 := y7.k k4 (by decide)
  refine at_if_ne (off := 6) 20 17 rfl (by decide +kernel) (by decide +kernel) (fun c9 => ?_) (fun c9 => ?_)
  · rw [if_neg c9] at h
    refine at_aload_n (i := 0) 0 21 rfl (by decide +kernel) rfl ?_
    refine at_get (index := 95) (v := va_rf (mR m6 t 31)) cok12 31 24 rfl (by decide +kernel) k8 (by decide +kernel) tw_1116 rfl ?_
    refine at_iconst (n := 0) (0 : Int32) 25 rfl (by decide +kernel) (by decide +kernel) ?_
    obtain ⟨b10, e11, h⟩ := h
    rw [e11]
    obtain ⟨k12, h⟩ := h
    obtain ⟨v13, h⟩ := h
    refine at_iald 26 rfl (by decide +kernel) k12 v13 ?_
    refine at_istore_n (i := 2) (lc' := [(0, va_rf (some t)), (1, .int (l1)), (2, .int (mI m6 b10 (0 : Int32).toNatClampNeg))]) [1, 2, 0] 27 rfl (by decide +kernel) (by decide +kernel) rfl ?_
    refine at_iload_n (i := 2) 2 28 rfl (by decide +kernel) rfl ?_
    refine at_bipush (n := 30) (30 : Int32) 30 rfl (by decide +kernel) (by decide +kernel) ?_
    refine at_icmp_ne (off := 6) 36 33 rfl (by decide +kernel) (by decide +kernel) (fun c14 => ?_) (fun c14 => ?_)
    · rw [if_neg c14] at h
      refine at_sipush (n := 400) (400 : Int32) 39 rfl (by decide +kernel) (by decide +kernel) ?_
      refine at_aload_n (i := 0) 0 40 rfl (by decide +kernel) rfl ?_
      refine at_get (index := 101) (v := va_rf (mR m6 t 33)) cok12 33 43 rfl (by decide +kernel) k8 (by decide +kernel) tw_1118 rfl ?_
      refine at_iconst (n := 0) (0 : Int32) 44 rfl (by decide +kernel) (by decide +kernel) ?_
      obtain ⟨b15, e16, h⟩ := h
      rw [e16]
      obtain ⟨k17, h⟩ := h
      obtain ⟨v18, h⟩ := h
      refine at_iald 45 rfl (by decide +kernel) k17 v18 ?_
      refine at_isub 46 rfl (by decide +kernel) ?_
      refine at_aload_n (i := 0) 0 47 rfl (by decide +kernel) rfl ?_
      refine at_get (index := 185) (v := .int (mI m6 t 19)) cok12 19 50 rfl (by decide +kernel) k8 (by decide +kernel) tw_1104 rfl ?_
      refine at_icmp_ge (off := 6) 56 53 rfl (by decide +kernel) (by decide +kernel) (fun c19 => ?_) (fun c19 => ?_)
      · rw [if_pos c19] at h
        refine at_iconst (n := 0) (0 : Int32) 57 rfl (by decide +kernel) (by decide +kernel) ?_
        refine at_istore_n (i := 3) (lc' := [(0, va_rf (some t)), (1, .int (l1)), (2, .int (mI m6 b10 (0 : Int32).toNatClampNeg)), (3, .int ((0 : Int32)))]) [1, 2, 3, 0] 58 rfl (by decide +kernel) (by decide +kernel) rfl ?_
        exact h
      · rw [if_neg c19] at h
        refine at_bipush (n := (-3)) (-3 : Int32) 55 rfl (by decide +kernel) (by decide +kernel) ?_
        exact at_iret rfl (by decide +kernel) h
    · rw [if_pos c14] at h
      refine at_bipush (n := (-9)) (-9 : Int32) 35 rfl (by decide +kernel) (by decide +kernel) ?_
      exact at_iret rfl (by decide +kernel) h
  · rw [if_pos c9] at h
    refine at_bipush (n := (-2)) (-2 : Int32) 19 rfl (by decide +kernel) (by decide +kernel) ?_
    exact at_iret rfl (by decide +kernel) h
set_option maxRecDepth 20000 in
set_option maxHeartbeats 4000000 in
theorem bk_RF_right_88 (g : Gc) {lv : Nat} {t : Nat} {l1 : Int32} {l3 : Int32} {l4 : Int32} {s0 : Int32} {m : Mm} {Q : Int32 → Mm → Prop} (h : mK m t = 13 ∧ (∃ b2, mR m t 24 = some b2 ∧ (mK m b2 = 15 ∧ (vp_in l4 (mN m b2) ∧ (∀ m6, m6 = sI m b2 l4.toNatClampNeg l3 → (∃ b10, mR m6 t 38 = some b10 ∧ (mK m6 b10 = 16 ∧ (vp_in l1 (mN m6 b10) ∧ (vp_in l1 (mN m6 b10) ∧ (∀ m15, m15 = sL m6 b10 l1.toNatClampNeg ((mL m6 b10 l1.toNatClampNeg) + ((100 : Int64) * s0.toInt64)) → (Q s0 m15))))))))))) : At g M_RF_right (lv + 1) 88 [(0, va_rf (some t)), (1, .int (l1)), (3, .int (l3)), (4, .int (l4))] [.int (s0)] m (QI Q) := by
  refine at_istore (i := 5) (lc' := [(0, va_rf (some t)), (1, .int (l1)), (3, .int (l3)), (4, .int (l4)), (5, .int (s0))]) [1, 2, 3, 4, 0] 90 rfl (by decide +kernel) (by decide +kernel) rfl ?_
  refine at_aload_n (i := 0) 0 91 rfl (by decide +kernel) rfl ?_
  obtain ⟨k1, h⟩ := h
  refine at_get (index := 73) (v := va_rf (mR m t 24)) cok12 24 94 rfl (by decide +kernel) k1 (by decide +kernel) tw_1109 rfl ?_
  refine at_iload (i := 4) 3 96 rfl (by decide +kernel) rfl ?_
  refine at_iload_n (i := 3) 2 97 rfl (by decide +kernel) rfl ?_
  obtain ⟨b2, e3, h⟩ := h
  rw [e3]
  obtain ⟨k4, h⟩ := h
  obtain ⟨v5, h⟩ := h
  refine at_iast 98 rfl (by decide +kernel) k4 v5 (fun m6 e7 => ?_)
  replace h := h m6 e7
  have k8 : mK m6 t = 13 := by rw [e7]; exact k1
  have k9 : mK m6 b2 = 15 := by rw [e7]; exact k4
  refine at_aload_n (i := 0) 0 99 rfl (by decide +kernel) rfl ?_
  refine at_get (index := 116) (v := va_rf (mR m6 t 38)) cok12 38 102 rfl (by decide +kernel) k8 (by decide +kernel) tw_1123 rfl ?_
  refine at_iload_n (i := 1) 1 103 rfl (by decide +kernel) rfl ?_
  refine at_dup2_11 104 rfl (by decide +kernel) rfl (va_rf_cat _) ?_
  obtain ⟨b10, e11, h⟩ := h
  rw [e11]
  obtain ⟨k12, h⟩ := h
  obtain ⟨v13, h⟩ := h
  refine at_lald 105 rfl (by decide +kernel) k12 v13 ?_
  refine at_ldc2 (index := 174) (100 : Int64) 108 rfl (by decide +kernel) tw_1318 ?_
  refine at_iload (i := 5) 4 110 rfl (by decide +kernel) rfl ?_
  refine at_i2l 111 rfl (by decide +kernel) ?_
  refine at_lmul 112 rfl (by decide +kernel) ?_
  refine at_ladd 113 rfl (by decide +kernel) ?_
  obtain ⟨v14, h⟩ := h
  refine at_last 114 rfl (by decide +kernel) k12 v14 (fun m15 e16 => ?_)
  replace h := h m15 e16
  have k17 : mK m15 t = 13 := by rw [e16]; exact k8
  have k18 : mK m15 b2 = 15 := by rw [e16]; exact k9
  have k19 : mK m15 b10 = 16 := by rw [e16]; exact k12
  refine at_iload (i := 5) 4 116 rfl (by decide +kernel) rfl ?_
  exact at_iret rfl (by decide +kernel) h
set_option maxRecDepth 20000 in
set_option maxHeartbeats 4000000 in
theorem en_RF_right (g : Gc) {lv : Nat} {t : Nat} {l1 : Int32} {l2 : Int32} {l3 : Int32} {m : Mm} {Q : Int32 → Mm → Prop} (h : mK m t = 13 ∧ (∀ m2, m2 = sI m t 0 (0 : Int32) → (CI g M_RF_isGrower lv [va_rf (some t), .int (l1)] m2 (fun x5 m6 => (if (x5) = 0 then (Q (-1000000 : Int32) m6) else (∃ b10, mR m6 t 31 = some b10 ∧ (mK m6 b10 = 15 ∧ (vp_in (0 : Int32) (mN m6 b10) ∧ (CI g M_RF_in lv [.long (l2.toInt64), .long ((0 : Int64)), .long (((mI m6 b10 (0 : Int32).toNatClampNeg) - (1 : Int32)).toInt64)] m6 (fun x14 m15 => (if (x14) = 0 then (Q (-1000000 : Int32) m15) else (CI g M_RF_in lv [.long (l3.toInt64), .long ((0 : Int64)), .long ((500000 : Int64))] m15 (fun x20 m21 => (if (x20) = 0 then (Q (-1000000 : Int32) m21) else (∃ b26, mR m21 t 27 = some b26 ∧ (mK m21 b26 = 17 ∧ (vp_in (((12 : Int32) * l2) + l1) (mN m21 b26) ∧ (if (mI m21 b26 (((12 : Int32) * l2) + l1).toNatClampNeg) = 0 then (∃ b31, mR m21 t 26 = some b31 ∧ (mK m21 b31 = 15 ∧ (vp_in l2 (mN m21 b31) ∧ (∃ b35, mR m21 t 24 = some b35 ∧ (mK m21 b35 = 15 ∧ (vp_in (((12 : Int32) * l2) + l1) (mN m21 b35) ∧ (At g M_RF_right (lv + 1) 88 [(0, va_rf (some t)), (1, .int (l1)), (3, .int (l3)), (4, .int (((12 : Int32) * l2) + l1))] [.int (((mI m21 b31 l2.toNatClampNeg) * (l3 - (mI m21 b35 (((12 : Int32) * l2) + l1).toNatClampNeg))) / (100 : Int32))] m21 (QI Q)))))))) else (At g M_RF_right (lv + 1) 88 [(0, va_rf (some t)), (1, .int (l1)), (3, .int (l3)), (4, .int (((12 : Int32) * l2) + l1))] [.int ((0 : Int32))] m21 (QI Q)))))))))))))))))))) : CI g M_RF_right (lv + 1) [va_rf (some t), .int (l1), .int (l2), .int (l3)] m Q := by
  refine Call.of (by decide +kernel) (Nat.le_of_ble_eq_true rfl) ?_
  show At g M_RF_right (lv + 1) 0 [(0, va_rf (some t)), (1, .int (l1)), (2, .int (l2)), (3, .int (l3))] [] m (QI Q)
  refine at_aload_n (i := 0) 0 1 rfl (by decide +kernel) rfl ?_
  refine at_iconst (n := 0) (0 : Int32) 2 rfl (by decide +kernel) (by decide +kernel) ?_
  obtain ⟨k1, h⟩ := h
  refine at_putI (index := 149) cok12 0 5 rfl (by decide +kernel) k1 (by decide +kernel) tw_1085 rfl rfl rfl (fun m2 e3 => ?_)
  replace h := h m2 e3
  have k4 : mK m2 t = 13 := by rw [e3]; exact k1
  refine at_aload_n (i := 0) 0 6 rfl (by decide +kernel) rfl ?_
  refine at_iload_n (i := 1) 1 7 rfl (by decide +kernel) rfl ?_
  refine at_callV mb_RF_isGrower tw_1430 tw_45 cok12 k4 (index := 336) tw_1428 [.int (l1)] [] rfl rfl (by decide) 10 rfl (by decide +kernel) (Call.toI (CI.monoE h (fun x5 m6 h y7 => ?_)))
  have k8 : mK m6 t = 13 := y7.k k4 (by decide)
  refine at_if_eq (off := 33) 43 13 rfl (by decide +kernel) (by decide +kernel) (fun c9 => ?_) (fun c9 => ?_)
  · rw [if_pos c9] at h
    refine at_ldcw (index := 382) (-1000000 : Int32) 46 rfl (by decide +kernel) tw_1499 ?_
    exact at_iret rfl (by decide +kernel) h
  · rw [if_neg c9] at h
    refine at_iload_n (i := 2) 2 14 rfl (by decide +kernel) rfl ?_
    refine at_i2l 15 rfl (by decide +kernel) ?_
    refine at_lconst (n := 0) (0 : Int64) 16 rfl (by decide +kernel) (by decide +kernel) ?_
    refine at_aload_n (i := 0) 0 17 rfl (by decide +kernel) rfl ?_
    refine at_get (index := 95) (v := va_rf (mR m6 t 31)) cok12 31 20 rfl (by decide +kernel) k8 (by decide +kernel) tw_1116 rfl ?_
    refine at_iconst (n := 0) (0 : Int32) 21 rfl (by decide +kernel) (by decide +kernel) ?_
    obtain ⟨b10, e11, h⟩ := h
    rw [e11]
    obtain ⟨k12, h⟩ := h
    obtain ⟨v13, h⟩ := h
    refine at_iald 22 rfl (by decide +kernel) k12 v13 ?_
    refine at_iconst (n := 1) (1 : Int32) 23 rfl (by decide +kernel) (by decide +kernel) ?_
    refine at_isub 24 rfl (by decide +kernel) ?_
    refine at_i2l 25 rfl (by decide +kernel) ?_
    refine at_callS mb_RF_in tw_1293 (index := 154) tw_1292 [.long (l2.toInt64), .long ((0 : Int64)), .long (((mI m6 b10 (0 : Int32).toNatClampNeg) - (1 : Int32)).toInt64)] [] rfl rfl (by decide) 28 rfl (by decide +kernel) (Call.toI (CI.monoE h (fun x14 m15 h y16 => ?_)))
    have k17 : mK m15 t = 13 := y16.k k8 (by decide)
    have k18 : mK m15 b10 = 15 := y16.k k12 (by decide)
    refine at_if_eq (off := 15) 43 31 rfl (by decide +kernel) (by decide +kernel) (fun c19 => ?_) (fun c19 => ?_)
    · rw [if_pos c19] at h
      refine at_ldcw (index := 382) (-1000000 : Int32) 46 rfl (by decide +kernel) tw_1499 ?_
      exact at_iret rfl (by decide +kernel) h
    · rw [if_neg c19] at h
      refine at_iload_n (i := 3) 3 32 rfl (by decide +kernel) rfl ?_
      refine at_i2l 33 rfl (by decide +kernel) ?_
      refine at_lconst (n := 0) (0 : Int64) 34 rfl (by decide +kernel) (by decide +kernel) ?_
      refine at_ldc2 (index := 339) (500000 : Int64) 37 rfl (by decide +kernel) tw_1432 ?_
      refine at_callS mb_RF_in tw_1293 (index := 154) tw_1292 [.long (l3.toInt64), .long ((0 : Int64)), .long ((500000 : Int64))] [] rfl rfl (by decide) 40 rfl (by decide +kernel) (Call.toI (CI.monoE h (fun x20 m21 h y22 => ?_)))
      have k23 : mK m21 t = 13 := y22.k k17 (by decide)
      have k24 : mK m21 b10 = 15 := y22.k k18 (by decide)
      refine at_if_ne (off := 7) 47 43 rfl (by decide +kernel) (by decide +kernel) (fun c25 => ?_) (fun c25 => ?_)
      · rw [if_neg c25] at h
        refine at_bipush (n := 12) (12 : Int32) 49 rfl (by decide +kernel) (by decide +kernel) ?_
        refine at_iload_n (i := 2) 2 50 rfl (by decide +kernel) rfl ?_
        refine at_imul 51 rfl (by decide +kernel) ?_
        refine at_iload_n (i := 1) 1 52 rfl (by decide +kernel) rfl ?_
        refine at_iadd 53 rfl (by decide +kernel) ?_
        refine at_istore (i := 4) (lc' := [(0, va_rf (some t)), (1, .int (l1)), (2, .int (l2)), (3, .int (l3)), (4, .int (((12 : Int32) * l2) + l1))]) [1, 2, 3, 4, 0] 55 rfl (by decide +kernel) (by decide +kernel) rfl ?_
        refine at_aload_n (i := 0) 0 56 rfl (by decide +kernel) rfl ?_
        refine at_get (index := 82) (v := va_rf (mR m21 t 27)) cok12 27 59 rfl (by decide +kernel) k23 (by decide +kernel) tw_1112 rfl ?_
        refine at_iload (i := 4) 4 61 rfl (by decide +kernel) rfl ?_
        obtain ⟨b26, e27, h⟩ := h
        rw [e27]
        obtain ⟨k28, h⟩ := h
        obtain ⟨v29, h⟩ := h
        refine at_zald 62 rfl (by decide +kernel) k28 v29 ?_
        refine at_if_eq (off := 7) 69 65 rfl (by decide +kernel) (by decide +kernel) (fun c30 => ?_) (fun c30 => ?_)
        · rw [if_pos c30] at h
          refine at_aload_n (i := 0) 0 70 rfl (by decide +kernel) rfl ?_
          refine at_get (index := 79) (v := va_rf (mR m21 t 26)) cok12 26 73 rfl (by decide +kernel) k23 (by decide +kernel) tw_1111 rfl ?_
          refine at_iload_n (i := 2) 2 74 rfl (by decide +kernel) rfl ?_
          obtain ⟨b31, e32, h⟩ := h
          rw [e32]
          obtain ⟨k33, h⟩ := h
          obtain ⟨v34, h⟩ := h
          refine at_iald 75 rfl (by decide +kernel) k33 v34 ?_
          refine at_iload_n (i := 3) 3 76 rfl (by decide +kernel) rfl ?_
          refine at_aload_n (i := 0) 0 77 rfl (by decide +kernel) rfl ?_
          refine at_get (index := 73) (v := va_rf (mR m21 t 24)) cok12 24 80 rfl (by decide +kernel) k23 (by decide +kernel) tw_1109 rfl ?_
          refine at_iload (i := 4) 4 82 rfl (by decide +kernel) rfl ?_
          obtain ⟨b35, e36, h⟩ := h
          rw [e36]
          obtain ⟨k37, h⟩ := h
          obtain ⟨v38, h⟩ := h
          refine at_iald 83 rfl (by decide +kernel) k37 v38 ?_
          refine at_isub 84 rfl (by decide +kernel) ?_
          refine at_imul 85 rfl (by decide +kernel) ?_
          refine at_bipush (n := 100) (100 : Int32) 87 rfl (by decide +kernel) (by decide +kernel) ?_
          refine at_idiv 88 rfl (by decide +kernel) (by decide +kernel) ?_
          exact At.sub [0, 1, 3, 4] rfl h
        · rw [if_neg c30] at h
          refine at_iconst (n := 0) (0 : Int32) 66 rfl (by decide +kernel) (by decide +kernel) ?_
          refine at_goto (off := 22) 88 (by decide +kernel) (by decide +kernel) ?_
          exact At.sub [0, 1, 3, 4] rfl h
      · rw [if_pos c25] at h
        refine at_ldcw (index := 382) (-1000000 : Int32) 46 rfl (by decide +kernel) tw_1499 ?_
        exact at_iret rfl (by decide +kernel) h
set_option maxRecDepth 20000 in
set_option maxHeartbeats 4000000 in
theorem en_RF_isFull (g : Gc) {lv : Nat} {t : Nat} {l1 : Int32} {m : Mm} {Q : Int32 → Mm → Prop} (h : mK m t = 13 ∧ (∃ b2, mR m t 33 = some b2 ∧ (mK m b2 = 15 ∧ (vp_in (0 : Int32) (mN m b2) ∧ (CI g M_RF_in lv [.long (l1.toInt64), .long ((0 : Int64)), .long (((mI m b2 (0 : Int32).toNatClampNeg) - (1 : Int32)).toInt64)] m (fun x6 m7 => (if (x6) = 0 then (Q (0 : Int32) m7) else (∃ b12, mR m7 t 41 = some b12 ∧ (mK m7 b12 = 15 ∧ (vp_in l1 (mN m7 b12) ∧ (if (mI m7 b12 l1.toNatClampNeg) ≤ 0 then (Q (0 : Int32) m7) else (Q (1 : Int32) m7)))))))))))) : CI g M_RF_isFull (lv + 1) [va_rf (some t), .int (l1)] m Q := by
  refine Call.of (by decide +kernel) (Nat.le_of_ble_eq_true rfl) ?_
  show At g M_RF_isFull (lv + 1) 0 [(0, va_rf (some t)), (1, .int (l1))] [] m (QI Q)
  refine at_iload_n (i := 1) 1 1 rfl (by decide +kernel) rfl ?_
  refine at_i2l 2 rfl (by decide +kernel) ?_
  refine at_lconst (n := 0) (0 : Int64) 3 rfl (by decide +kernel) (by decide +kernel) ?_
  refine at_aload_n (i := 0) 0 4 rfl (by decide +kernel) rfl ?_
  obtain ⟨k1, h⟩ := h
  refine at_get (index := 101) (v := va_rf (mR m t 33)) cok12 33 7 rfl (by decide +kernel) k1 (by decide +kernel) tw_1118 rfl ?_
  refine at_iconst (n := 0) (0 : Int32) 8 rfl (by decide +kernel) (by decide +kernel) ?_
  obtain ⟨b2, e3, h⟩ := h
  rw [e3]
  obtain ⟨k4, h⟩ := h
  obtain ⟨v5, h⟩ := h
  refine at_iald 9 rfl (by decide +kernel) k4 v5 ?_
  refine at_iconst (n := 1) (1 : Int32) 10 rfl (by decide +kernel) (by decide +kernel) ?_
  refine at_isub 11 rfl (by decide +kernel) ?_
  refine at_i2l 12 rfl (by decide +kernel) ?_
  refine at_callS mb_RF_in tw_1293 (index := 154) tw_1292 [.long (l1.toInt64), .long ((0 : Int64)), .long (((mI m b2 (0 : Int32).toNatClampNeg) - (1 : Int32)).toInt64)] [] rfl rfl (by decide) 15 rfl (by decide +kernel) (Call.toI (CI.monoE h (fun x6 m7 h y8 => ?_)))
  have k9 : mK m7 t = 13 := y8.k k1 (by decide)
  have k10 : mK m7 b2 = 15 := y8.k k4 (by decide)
  refine at_if_eq (off := 16) 31 18 rfl (by decide +kernel) (by decide +kernel) (fun c11 => ?_) (fun c11 => ?_)
  · rw [if_pos c11] at h
    refine at_iconst (n := 0) (0 : Int32) 32 rfl (by decide +kernel) (by decide +kernel) ?_
    exact at_zret rfl (by decide +kernel) (Or.inl rfl) h
  · rw [if_neg c11] at h
    refine at_aload_n (i := 0) 0 19 rfl (by decide +kernel) rfl ?_
    refine at_get (index := 125) (v := va_rf (mR m7 t 41)) cok12 41 22 rfl (by decide +kernel) k9 (by decide +kernel) tw_1126 rfl ?_
    refine at_iload_n (i := 1) 1 23 rfl (by decide +kernel) rfl ?_
    obtain ⟨b12, e13, h⟩ := h
    rw [e13]
    obtain ⟨k14, h⟩ := h
    obtain ⟨v15, h⟩ := h
    refine at_iald 24 rfl (by decide +kernel) k14 v15 ?_
    refine at_if_le (off := 7) 31 27 rfl (by decide +kernel) (by decide +kernel) (fun c16 => ?_) (fun c16 => ?_)
    · rw [if_pos c16] at h
      refine at_iconst (n := 0) (0 : Int32) 32 rfl (by decide +kernel) (by decide +kernel) ?_
      exact at_zret rfl (by decide +kernel) (Or.inl rfl) h
    · rw [if_neg c16] at h
      refine at_iconst (n := 1) (1 : Int32) 28 rfl (by decide +kernel) (by decide +kernel) ?_
      refine at_goto (off := 4) 32 (by decide +kernel) (by decide +kernel) ?_
      exact at_zret rfl (by decide +kernel) (Or.inr rfl) h
set_option maxRecDepth 20000 in
set_option maxHeartbeats 4000000 in
theorem en_RF_isPledged (g : Gc) {lv : Nat} {t : Nat} {l1 : Int32} {m : Mm} {Q : Int32 → Mm → Prop} (h : mK m t = 13 ∧ (∃ b2, mR m t 44 = some b2 ∧ (mK m b2 = 15 ∧ (vp_in ((2 : Int32) * l1) (mN m b2) ∧ (if (mI m b2 ((2 : Int32) * l1).toNatClampNeg) = ((-1 : Int32)) then (Q (0 : Int32) m) else (Q (1 : Int32) m)))))) : CI g M_RF_isPledged (lv + 1) [va_rf (some t), .int (l1)] m Q := by
  refine Call.of (by decide +kernel) (Nat.le_of_ble_eq_true rfl) ?_
  show At g M_RF_isPledged (lv + 1) 0 [(0, va_rf (some t)), (1, .int (l1))] [] m (QI Q)
  refine at_aload_n (i := 0) 0 1 rfl (by decide +kernel) rfl ?_
  obtain ⟨k1, h⟩ := h
  refine at_get (index := 134) (v := va_rf (mR m t 44)) cok12 44 4 rfl (by decide +kernel) k1 (by decide +kernel) tw_1129 rfl ?_
  refine at_iconst (n := 2) (2 : Int32) 5 rfl (by decide +kernel) (by decide +kernel) ?_
  refine at_iload_n (i := 1) 1 6 rfl (by decide +kernel) rfl ?_
  refine at_imul 7 rfl (by decide +kernel) ?_
  obtain ⟨b2, e3, h⟩ := h
  rw [e3]
  obtain ⟨k4, h⟩ := h
  obtain ⟨v5, h⟩ := h
  refine at_iald 8 rfl (by decide +kernel) k4 v5 ?_
  refine at_iconst (n := (-1)) (-1 : Int32) 9 rfl (by decide +kernel) (by decide +kernel) ?_
  refine at_icmp_eq (off := 7) 16 12 rfl (by decide +kernel) (by decide +kernel) (fun c6 => ?_) (fun c6 => ?_)
  · rw [if_pos c6] at h
    refine at_iconst (n := 0) (0 : Int32) 17 rfl (by decide +kernel) (by decide +kernel) ?_
    exact at_zret rfl (by decide +kernel) (Or.inl rfl) h
  · rw [if_neg c6] at h
    refine at_iconst (n := 1) (1 : Int32) 13 rfl (by decide +kernel) (by decide +kernel) ?_
    refine at_goto (off := 4) 17 (by decide +kernel) (by decide +kernel) ?_
    exact at_zret rfl (by decide +kernel) (Or.inr rfl) h
set_option maxRecDepth 20000 in
set_option maxHeartbeats 4000000 in
theorem en_RF_split (g : Gc) {lv : Nat} {t : Nat} {l1 : Int32} {l2 : Int32} {m : Mm} {Q : Int32 → Mm → Prop} (h : mK m t = 13 ∧ (∀ m2, m2 = sI m t 0 (0 : Int32) → (CI g M_RF_isFull lv [va_rf (some t), .int (l1)] m2 (fun x5 m6 => (if (x5) = 0 then (Q (-2 : Int32) m6) else (∃ b10, mR m6 t 41 = some b10 ∧ (mK m6 b10 = 15 ∧ (vp_in l1 (mN m6 b10) ∧ (CI g M_RF_in lv [.long (l2.toInt64), .long ((1 : Int64)), .long (((mI m6 b10 l1.toNatClampNeg) - (1 : Int32)).toInt64)] m6 (fun x14 m15 => (if (x14) = 0 then (Q (-2 : Int32) m15) else (∃ b20, mR m15 t 33 = some b20 ∧ (mK m15 b20 = 15 ∧ (vp_in (0 : Int32) (mN m15 b20) ∧ (if (mI m15 b20 (0 : Int32).toNatClampNeg) = ((400 : Int32)) then (Q (-3 : Int32) m15) else (CI g M_RF_isPledged lv [va_rf (some t), .int (l1)] m15 (fun x25 m26 => (if (x25) = 0 then (∃ b32, mR m26 t 41 = some b32 ∧ (mK m26 b32 = 15 ∧ (vp_in l1 (mN m26 b32) ∧ (vp_in l1 (mN m26 b32) ∧ (∀ m37, m37 = sI m26 b32 l1.toNatClampNeg ((mI m26 b32 l1.toNatClampNeg) - l2) → (∃ b43, mR m37 t 40 = some b43 ∧ (mK m37 b43 = 15 ∧ (vp_in l1 (mN m37 b43) ∧ (∃ b47, mR m37 t 42 = some b47 ∧ (mK m37 b47 = 15 ∧ (vp_in l1 (mN m37 b47) ∧ (CI g M_RF_receipt_IIII lv [va_rf (some t), .int ((0 : Int32)), .int (mI m37 b43 l1.toNatClampNeg), .int (l2), .int (mI m37 b47 l1.toNatClampNeg)] m37 (fun x51 m52 => (Q x51 m52)))))))))))))) else (Q (-7 : Int32) m26))))))))))))))))))) : CI g M_RF_split (lv + 1) [va_rf (some t), .int (l1), .int (l2)] m Q := by
  refine Call.of (by decide +kernel) (Nat.le_of_ble_eq_true rfl) ?_
  show At g M_RF_split (lv + 1) 0 [(0, va_rf (some t)), (1, .int (l1)), (2, .int (l2))] [] m (QI Q)
  refine at_aload_n (i := 0) 0 1 rfl (by decide +kernel) rfl ?_
  refine at_iconst (n := 0) (0 : Int32) 2 rfl (by decide +kernel) (by decide +kernel) ?_
  obtain ⟨k1, h⟩ := h
  refine at_putI (index := 149) cok12 0 5 rfl (by decide +kernel) k1 (by decide +kernel) tw_1085 rfl rfl rfl (fun m2 e3 => ?_)
  replace h := h m2 e3
  have k4 : mK m2 t = 13 := by rw [e3]; exact k1
  refine at_aload_n (i := 0) 0 6 rfl (by decide +kernel) rfl ?_
  refine at_iload_n (i := 1) 1 7 rfl (by decide +kernel) rfl ?_
  refine at_callV mb_RF_isFull tw_1506 tw_59 cok12 k4 (index := 383) tw_1504 [.int (l1)] [] rfl rfl (by decide) 10 rfl (by decide +kernel) (Call.toI (CI.monoE h (fun x5 m6 h y7 => ?_)))
  have k8 : mK m6 t = 13 := y7.k k4 (by decide)
  refine at_if_eq (off := 21) 31 13 rfl (by decide +kernel) (by decide +kernel) (fun c9 => ?_) (fun c9 => ?_)
  · rw [if_pos c9] at h
    refine at_bipush (n := (-2)) (-2 : Int32) 33 rfl (by decide +kernel) (by decide +kernel) ?_
    exact at_iret rfl (by decide +kernel) h
  · rw [if_neg c9] at h
    refine at_iload_n (i := 2) 2 14 rfl (by decide +kernel) rfl ?_
    refine at_i2l 15 rfl (by decide +kernel) ?_
    refine at_lconst (n := 1) (1 : Int64) 16 rfl (by decide +kernel) (by decide +kernel) ?_
    refine at_aload_n (i := 0) 0 17 rfl (by decide +kernel) rfl ?_
    refine at_get (index := 125) (v := va_rf (mR m6 t 41)) cok12 41 20 rfl (by decide +kernel) k8 (by decide +kernel) tw_1126 rfl ?_
    refine at_iload_n (i := 1) 1 21 rfl (by decide +kernel) rfl ?_
    obtain ⟨b10, e11, h⟩ := h
    rw [e11]
    obtain ⟨k12, h⟩ := h
    obtain ⟨v13, h⟩ := h
    refine at_iald 22 rfl (by decide +kernel) k12 v13 ?_
    refine at_iconst (n := 1) (1 : Int32) 23 rfl (by decide +kernel) (by decide +kernel) ?_
    refine at_isub 24 rfl (by decide +kernel) ?_
    refine at_i2l 25 rfl (by decide +kernel) ?_
    refine at_callS mb_RF_in tw_1293 (index := 154) tw_1292 [.long (l2.toInt64), .long ((1 : Int64)), .long (((mI m6 b10 l1.toNatClampNeg) - (1 : Int32)).toInt64)] [] rfl rfl (by decide) 28 rfl (by decide +kernel) (Call.toI (CI.monoE h (fun x14 m15 h y16 => ?_)))
    have k17 : mK m15 t = 13 := y16.k k8 (by decide)
    have k18 : mK m15 b10 = 15 := y16.k k12 (by decide)
    refine at_if_ne (off := 6) 34 31 rfl (by decide +kernel) (by decide +kernel) (fun c19 => ?_) (fun c19 => ?_)
    · rw [if_neg c19] at h
      refine at_aload_n (i := 0) 0 35 rfl (by decide +kernel) rfl ?_
      refine at_get (index := 101) (v := va_rf (mR m15 t 33)) cok12 33 38 rfl (by decide +kernel) k17 (by decide +kernel) tw_1118 rfl ?_
      refine at_iconst (n := 0) (0 : Int32) 39 rfl (by decide +kernel) (by decide +kernel) ?_
      obtain ⟨b20, e21, h⟩ := h
      rw [e21]
      obtain ⟨k22, h⟩ := h
      obtain ⟨v23, h⟩ := h
      refine at_iald 40 rfl (by decide +kernel) k22 v23 ?_
      refine at_sipush (n := 400) (400 : Int32) 43 rfl (by decide +kernel) (by decide +kernel) ?_
      refine at_icmp_ne (off := 6) 49 46 rfl (by decide +kernel) (by decide +kernel) (fun c24 => ?_) (fun c24 => ?_)
      · rw [if_neg c24] at h
        refine at_aload_n (i := 0) 0 50 rfl (by decide +kernel) rfl ?_
        refine at_iload_n (i := 1) 1 51 rfl (by decide +kernel) rfl ?_
        refine at_callV mb_RF_isPledged tw_1510 tw_60 cok12 k17 (index := 386) tw_1508 [.int (l1)] [] rfl rfl (by decide) 54 rfl (by decide +kernel) (Call.toI (CI.monoE h (fun x25 m26 h y27 => ?_)))
        have k28 : mK m26 t = 13 := y27.k k17 (by decide)
        have k29 : mK m26 b10 = 15 := y27.k k18 (by decide)
        have k30 : mK m26 b20 = 15 := y27.k k22 (by decide)
        refine at_if_eq (off := 6) 60 57 rfl (by decide +kernel) (by decide +kernel) (fun c31 => ?_) (fun c31 => ?_)
        · rw [if_pos c31] at h
          refine at_aload_n (i := 0) 0 61 rfl (by decide +kernel) rfl ?_
          refine at_get (index := 125) (v := va_rf (mR m26 t 41)) cok12 41 64 rfl (by decide +kernel) k28 (by decide +kernel) tw_1126 rfl ?_
          refine at_iload_n (i := 1) 1 65 rfl (by decide +kernel) rfl ?_
          refine at_dup2_11 66 rfl (by decide +kernel) rfl (va_rf_cat _) ?_
          obtain ⟨b32, e33, h⟩ := h
          rw [e33]
          obtain ⟨k34, h⟩ := h
          obtain ⟨v35, h⟩ := h
          refine at_iald 67 rfl (by decide +kernel) k34 v35 ?_
          refine at_iload_n (i := 2) 2 68 rfl (by decide +kernel) rfl ?_
          refine at_isub 69 rfl (by decide +kernel) ?_
          obtain ⟨v36, h⟩ := h
          refine at_iast 70 rfl (by decide +kernel) k34 v36 (fun m37 e38 => ?_)
          replace h := h m37 e38
          have k39 : mK m37 t = 13 := by rw [e38]; exact k28
          have k40 : mK m37 b10 = 15 := by rw [e38]; exact k29
          have k41 : mK m37 b20 = 15 := by rw [e38]; exact k30
          have k42 : mK m37 b32 = 15 := by rw [e38]; exact k34
          refine at_aload_n (i := 0) 0 71 rfl (by decide +kernel) rfl ?_
          refine at_iconst (n := 0) (0 : Int32) 72 rfl (by decide +kernel) (by decide +kernel) ?_
          refine at_aload_n (i := 0) 0 73 rfl (by decide +kernel) rfl ?_
          refine at_get (index := 122) (v := va_rf (mR m37 t 40)) cok12 40 76 rfl (by decide +kernel) k39 (by decide +kernel) tw_1125 rfl ?_
          refine at_iload_n (i := 1) 1 77 rfl (by decide +kernel) rfl ?_
          obtain ⟨b43, e44, h⟩ := h
          rw [e44]
          obtain ⟨k45, h⟩ := h
          obtain ⟨v46, h⟩ := h
          refine at_iald 78 rfl (by decide +kernel) k45 v46 ?_
          refine at_iload_n (i := 2) 2 79 rfl (by decide +kernel) rfl ?_
          refine at_aload_n (i := 0) 0 80 rfl (by decide +kernel) rfl ?_
          refine at_get (index := 128) (v := va_rf (mR m37 t 42)) cok12 42 83 rfl (by decide +kernel) k39 (by decide +kernel) tw_1127 rfl ?_
          refine at_iload_n (i := 1) 1 84 rfl (by decide +kernel) rfl ?_
          obtain ⟨b47, e48, h⟩ := h
          rw [e48]
          obtain ⟨k49, h⟩ := h
          obtain ⟨v50, h⟩ := h
          refine at_iald 85 rfl (by decide +kernel) k49 v50 ?_
          refine at_callV mb_RF_receipt_IIII tw_1457 tw_49 cok12 k39 (index := 351) tw_1455 [.int ((0 : Int32)), .int (mI m37 b43 l1.toNatClampNeg), .int (l2), .int (mI m37 b47 l1.toNatClampNeg)] [] rfl rfl (by decide) 88 rfl (by decide +kernel) (Call.toI (CI.monoE h (fun x51 m52 h y53 => ?_)))
          have k54 : mK m52 t = 13 := y53.k k39 (by decide)
          have k55 : mK m52 b10 = 15 := y53.k k40 (by decide)
          have k56 : mK m52 b20 = 15 := y53.k k41 (by decide)
          have k57 : mK m52 b32 = 15 := y53.k k42 (by decide)
          have k58 : mK m52 b43 = 15 := y53.k k45 (by decide)
          have k59 : mK m52 b47 = 15 := y53.k k49 (by decide)
          exact at_iret rfl (by decide +kernel) h
        · rw [if_neg c31] at h
          refine at_bipush (n := (-7)) (-7 : Int32) 59 rfl (by decide +kernel) (by decide +kernel) ?_
          exact at_iret rfl (by decide +kernel) h
      · rw [if_pos c24] at h
        refine at_bipush (n := (-3)) (-3 : Int32) 48 rfl (by decide +kernel) (by decide +kernel) ?_
        exact at_iret rfl (by decide +kernel) h
    · rw [if_pos c19] at h
      refine at_bipush (n := (-2)) (-2 : Int32) 33 rfl (by decide +kernel) (by decide +kernel) ?_
      exact at_iret rfl (by decide +kernel) h
set_option maxRecDepth 20000 in
set_option maxHeartbeats 4000000 in
theorem en_RF_give (g : Gc) {lv : Nat} {t : Nat} {l1 : Int32} {l2 : Int32} {m : Mm} {Q : Int32 → Mm → Prop} (h : mK m t = 13 ∧ (∀ m2, m2 = sI m t 0 (0 : Int32) → (CI g M_RF_isFull lv [va_rf (some t), .int (l1)] m2 (fun x5 m6 => (if (x5) = 0 then (Q (-2 : Int32) m6) else (CI g M_RF_isGrower lv [va_rf (some t), .int (l2)] m6 (fun x10 m11 => (if (x10) = 0 then (Q (-2 : Int32) m11) else (CI g M_RF_isPledged lv [va_rf (some t), .int (l1)] m11 (fun x15 m16 => (if (x15) = 0 then (∃ b20, mR m16 t 40 = some b20 ∧ (mK m16 b20 = 15 ∧ (vp_in l1 (mN m16 b20) ∧ (∀ m24, m24 = sI m16 b20 l1.toNatClampNeg l2 → (Q (0 : Int32) m24))))) else (Q (-7 : Int32) m16)))))))))))) : CI g M_RF_give (lv + 1) [va_rf (some t), .int (l1), .int (l2)] m Q := by
  refine Call.of (by decide +kernel) (Nat.le_of_ble_eq_true rfl) ?_
  show At g M_RF_give (lv + 1) 0 [(0, va_rf (some t)), (1, .int (l1)), (2, .int (l2))] [] m (QI Q)
  refine at_aload_n (i := 0) 0 1 rfl (by decide +kernel) rfl ?_
  refine at_iconst (n := 0) (0 : Int32) 2 rfl (by decide +kernel) (by decide +kernel) ?_
  obtain ⟨k1, h⟩ := h
  refine at_putI (index := 149) cok12 0 5 rfl (by decide +kernel) k1 (by decide +kernel) tw_1085 rfl rfl rfl (fun m2 e3 => ?_)
  replace h := h m2 e3
  have k4 : mK m2 t = 13 := by rw [e3]; exact k1
  refine at_aload_n (i := 0) 0 6 rfl (by decide +kernel) rfl ?_
  refine at_iload_n (i := 1) 1 7 rfl (by decide +kernel) rfl ?_
  refine at_callV mb_RF_isFull tw_1506 tw_59 cok12 k4 (index := 383) tw_1504 [.int (l1)] [] rfl rfl (by decide) 10 rfl (by decide +kernel) (Call.toI (CI.monoE h (fun x5 m6 h y7 => ?_)))
  have k8 : mK m6 t = 13 := y7.k k4 (by decide)
  refine at_if_eq (off := 11) 21 13 rfl (by decide +kernel) (by decide +kernel) (fun c9 => ?_) (fun c9 => ?_)
  · rw [if_pos c9] at h
    refine at_bipush (n := (-2)) (-2 : Int32) 23 rfl (by decide +kernel) (by decide +kernel) ?_
    exact at_iret rfl (by decide +kernel) h
  · rw [if_neg c9] at h
    refine at_aload_n (i := 0) 0 14 rfl (by decide +kernel) rfl ?_
    refine at_iload_n (i := 2) 2 15 rfl (by decide +kernel) rfl ?_
    refine at_callV mb_RF_isGrower tw_1430 tw_45 cok12 k8 (index := 336) tw_1428 [.int (l2)] [] rfl rfl (by decide) 18 rfl (by decide +kernel) (Call.toI (CI.monoE h (fun x10 m11 h y12 => ?_)))
    have k13 : mK m11 t = 13 := y12.k k8 (by decide)
    refine at_if_ne (off := 6) 24 21 rfl (by decide +kernel) (by decide +kernel) (fun c14 => ?_) (fun c14 => ?_)
    · rw [if_neg c14] at h
      refine at_aload_n (i := 0) 0 25 rfl (by decide +kernel) rfl ?_
      refine at_iload_n (i := 1) 1 26 rfl (by decide +kernel) rfl ?_
      refine at_callV mb_RF_isPledged tw_1510 tw_60 cok12 k13 (index := 386) tw_1508 [.int (l1)] [] rfl rfl (by decide) 29 rfl (by decide +kernel) (Call.toI (CI.monoE h (fun x15 m16 h y17 => ?_)))
      have k18 : mK m16 t = 13 := y17.k k13 (by decide)
      refine at_if_eq (off := 6) 35 32 rfl (by decide +kernel) (by decide +kernel) (fun c19 => ?_) (fun c19 => ?_)
      · rw [if_pos c19] at h
        refine at_aload_n (i := 0) 0 36 rfl (by decide +kernel) rfl ?_
        refine at_get (index := 122) (v := va_rf (mR m16 t 40)) cok12 40 39 rfl (by decide +kernel) k18 (by decide +kernel) tw_1125 rfl ?_
        refine at_iload_n (i := 1) 1 40 rfl (by decide +kernel) rfl ?_
        refine at_iload_n (i := 2) 2 41 rfl (by decide +kernel) rfl ?_
        obtain ⟨b20, e21, h⟩ := h
        rw [e21]
        obtain ⟨k22, h⟩ := h
        obtain ⟨v23, h⟩ := h
        refine at_iast 42 rfl (by decide +kernel) k22 v23 (fun m24 e25 => ?_)
        replace h := h m24 e25
        have k26 : mK m24 t = 13 := by rw [e25]; exact k18
        have k27 : mK m24 b20 = 15 := by rw [e25]; exact k22
        refine at_iconst (n := 0) (0 : Int32) 43 rfl (by decide +kernel) (by decide +kernel) ?_
        exact at_iret rfl (by decide +kernel) h
      · rw [if_neg c19] at h
        refine at_bipush (n := (-7)) (-7 : Int32) 34 rfl (by decide +kernel) (by decide +kernel) ?_
        exact at_iret rfl (by decide +kernel) h
    · rw [if_pos c14] at h
      refine at_bipush (n := (-2)) (-2 : Int32) 23 rfl (by decide +kernel) (by decide +kernel) ?_
      exact at_iret rfl (by decide +kernel) h
set_option maxRecDepth 20000 in
set_option maxHeartbeats 4000000 in
theorem bk_RF_pledge_146 (g : Gc) {lv : Nat} {t : Nat} {l1 : Int32} {l2 : Int32} {l3 : Int32} {l4 : Int32} {l5 : Int64} {m : Mm} {Q : Int64 → Mm → Prop} (h : if (l5) = ((0 : Int64)) then (Q (-8 : Int64) m) else (mK m t = 13 ∧ (∃ b3, mR m t 40 = some b3 ∧ (mK m b3 = 15 ∧ (vp_in l1 (mN m b3) ∧ (∃ b7, mR m t 39 = some b7 ∧ (mK m b7 = 16 ∧ (vp_in (mI m b3 l1.toNatClampNeg) (mN m b7) ∧ (vp_in (mI m b3 l1.toNatClampNeg) (mN m b7) ∧ (∀ m12, m12 = sL m b7 (mI m b3 l1.toNatClampNeg).toNatClampNeg ((mL m b7 (mI m b3 l1.toNatClampNeg).toNatClampNeg) + l5) → (∃ b17, mR m12 t 39 = some b17 ∧ (mK m12 b17 = 16 ∧ (vp_in ((12 : Int32) + l2) (mN m12 b17) ∧ (vp_in ((12 : Int32) + l2) (mN m12 b17) ∧ (∀ m22, m22 = sL m12 b17 ((12 : Int32) + l2).toNatClampNeg ((mL m12 b17 ((12 : Int32) + l2).toNatClampNeg) - l5) → (∃ b28, mR m22 t 44 = some b28 ∧ (mK m22 b28 = 15 ∧ (vp_in (((2 : Int32) * l1) + l4) (mN m22 b28) ∧ (∀ m32, m32 = sI m22 b28 (((2 : Int32) * l1) + l4).toNatClampNeg l2 → (∃ b39, mR m32 t 13 = some b39 ∧ (mK m32 b39 = 15 ∧ (vp_in l2 (mN m32 b39) ∧ (∃ b43, mR m32 t 46 = some b43 ∧ (mK m32 b43 = 16 ∧ (vp_in (((2 : Int32) * l1) + l4) (mN m32 b43) ∧ (∀ m47, m47 = sL m32 b43 (((2 : Int32) * l1) + l4).toNatClampNeg ((l5 * (((100 : Int32) + (mI m32 b39 l2.toNatClampNeg)).toInt64)) / (100 : Int64)) → (∃ b56, mR m47 t 31 = some b56 ∧ (mK m47 b56 = 15 ∧ (vp_in (0 : Int32) (mN m47 b56) ∧ (∃ b60, mR m47 t 45 = some b60 ∧ (mK m47 b60 = 15 ∧ (vp_in (((2 : Int32) * l1) + l4) (mN m47 b60) ∧ (∀ m64, m64 = sI m47 b60 (((2 : Int32) * l1) + l4).toNatClampNeg ((mI m47 b56 (0 : Int32).toNatClampNeg) + l3) → (Q l5 m64)))))))))))))))))))))))))))))))))) : At g M_RF_pledge (lv + 1) 146 [(0, va_rf (some t)), (1, .int (l1)), (2, .int (l2)), (3, .int (l3)), (4, .int (l4)), (5, .long (l5))] [] m (QJ Q) := by
  refine at_lload (i := 5) 5 148 rfl (by decide +kernel) rfl ?_
  refine at_lconst (n := 0) (0 : Int64) 149 rfl (by decide +kernel) (by decide +kernel) ?_
  refine at_lif_ne (off := 7) 150 157 153 rfl rfl (by decide +kernel) (by decide +kernel) (by decide +kernel) (fun c1 => ?_) (fun c1 => ?_)
  · rw [if_neg c1] at h
    refine at_aload_n (i := 0) 0 158 rfl (by decide +kernel) rfl ?_
    obtain ⟨k2, h⟩ := h
    refine at_get (index := 119) (v := va_rf (mR m t 39)) cok12 39 161 rfl (by decide +kernel) k2 (by decide +kernel) tw_1124 rfl ?_
    refine at_aload_n (i := 0) 0 162 rfl (by decide +kernel) rfl ?_
    refine at_get (index := 122) (v := va_rf (mR m t 40)) cok12 40 165 rfl (by decide +kernel) k2 (by decide +kernel) tw_1125 rfl ?_
    refine at_iload_n (i := 1) 1 166 rfl (by decide +kernel) rfl ?_
    obtain ⟨b3, e4, h⟩ := h
    rw [e4]
    obtain ⟨k5, h⟩ := h
    obtain ⟨v6, h⟩ := h
    refine at_iald 167 rfl (by decide +kernel) k5 v6 ?_
    refine at_dup2_11 168 rfl (by decide +kernel) rfl (va_rf_cat _) ?_
    obtain ⟨b7, e8, h⟩ := h
    rw [e8]
    obtain ⟨k9, h⟩ := h
    obtain ⟨v10, h⟩ := h
    refine at_lald 169 rfl (by decide +kernel) k9 v10 ?_
    refine at_lload (i := 5) 5 171 rfl (by decide +kernel) rfl ?_
    refine at_ladd 172 rfl (by decide +kernel) ?_
    obtain ⟨v11, h⟩ := h
    refine at_last 173 rfl (by decide +kernel) k9 v11 (fun m12 e13 => ?_)
    replace h := h m12 e13
    have k14 : mK m12 t = 13 := by rw [e13]; exact k2
    have k15 : mK m12 b3 = 15 := by rw [e13]; exact k5
    have k16 : mK m12 b7 = 16 := by rw [e13]; exact k9
    refine at_aload_n (i := 0) 0 174 rfl (by decide +kernel) rfl ?_
    refine at_get (index := 119) (v := va_rf (mR m12 t 39)) cok12 39 177 rfl (by decide +kernel) k14 (by decide +kernel) tw_1124 rfl ?_
    refine at_bipush (n := 12) (12 : Int32) 179 rfl (by decide +kernel) (by decide +kernel) ?_
    refine at_iload_n (i := 2) 2 180 rfl (by decide +kernel) rfl ?_
    refine at_iadd 181 rfl (by decide +kernel) ?_
    refine at_dup2_11 182 rfl (by decide +kernel) rfl (va_rf_cat _) ?_
    obtain ⟨b17, e18, h⟩ := h
    rw [e18]
    obtain ⟨k19, h⟩ := h
    obtain ⟨v20, h⟩ := h
    refine at_lald 183 rfl (by decide +kernel) k19 v20 ?_
    refine at_lload (i := 5) 5 185 rfl (by decide +kernel) rfl ?_
    refine at_lsub 186 rfl (by decide +kernel) ?_
    obtain ⟨v21, h⟩ := h
    refine at_last 187 rfl (by decide +kernel) k19 v21 (fun m22 e23 => ?_)
    replace h := h m22 e23
    have k24 : mK m22 t = 13 := by rw [e23]; exact k14
    have k25 : mK m22 b3 = 15 := by rw [e23]; exact k15
    have k26 : mK m22 b7 = 16 := by rw [e23]; exact k16
    have k27 : mK m22 b17 = 16 := by rw [e23]; exact k19
    refine at_aload_n (i := 0) 0 188 rfl (by decide +kernel) rfl ?_
    refine at_get (index := 134) (v := va_rf (mR m22 t 44)) cok12 44 191 rfl (by decide +kernel) k24 (by decide +kernel) tw_1129 rfl ?_
    refine at_iconst (n := 2) (2 : Int32) 192 rfl (by decide +kernel) (by decide +kernel) ?_
    refine at_iload_n (i := 1) 1 193 rfl (by decide +kernel) rfl ?_
    refine at_imul 194 rfl (by decide +kernel) ?_
    refine at_iload (i := 4) 4 196 rfl (by decide +kernel) rfl ?_
    refine at_iadd 197 rfl (by decide +kernel) ?_
    refine at_iload_n (i := 2) 2 198 rfl (by decide +kernel) rfl ?_
    obtain ⟨b28, e29, h⟩ := h
    rw [e29]
    obtain ⟨k30, h⟩ := h
    obtain ⟨v31, h⟩ := h
    refine at_iast 199 rfl (by decide +kernel) k30 v31 (fun m32 e33 => ?_)
    replace h := h m32 e33
    have k34 : mK m32 t = 13 := by rw [e33]; exact k24
    have k35 : mK m32 b3 = 15 := by rw [e33]; exact k25
    have k36 : mK m32 b7 = 16 := by rw [e33]; exact k26
    have k37 : mK m32 b17 = 16 := by rw [e33]; exact k27
    have k38 : mK m32 b28 = 15 := by rw [e33]; exact k30
    refine at_aload_n (i := 0) 0 200 rfl (by decide +kernel) rfl ?_
    refine at_get (index := 140) (v := va_rf (mR m32 t 46)) cok12 46 203 rfl (by decide +kernel) k34 (by decide +kernel) tw_1131 rfl ?_
    refine at_iconst (n := 2) (2 : Int32) 204 rfl (by decide +kernel) (by decide +kernel) ?_
    refine at_iload_n (i := 1) 1 205 rfl (by decide +kernel) rfl ?_
    refine at_imul 206 rfl (by decide +kernel) ?_
    refine at_iload (i := 4) 4 208 rfl (by decide +kernel) rfl ?_
    refine at_iadd 209 rfl (by decide +kernel) ?_
    refine at_lload (i := 5) 5 211 rfl (by decide +kernel) rfl ?_
    refine at_bipush (n := 100) (100 : Int32) 213 rfl (by decide +kernel) (by decide +kernel) ?_
    refine at_aload_n (i := 0) 0 214 rfl (by decide +kernel) rfl ?_
    refine at_get (index := 45) (v := va_rf (mR m32 t 13)) cok12 13 217 rfl (by decide +kernel) k34 (by decide +kernel) tw_1098 rfl ?_
    refine at_iload_n (i := 2) 2 218 rfl (by decide +kernel) rfl ?_
    obtain ⟨b39, e40, h⟩ := h
    rw [e40]
    obtain ⟨k41, h⟩ := h
    obtain ⟨v42, h⟩ := h
    refine at_iald 219 rfl (by decide +kernel) k41 v42 ?_
    refine at_iadd 220 rfl (by decide +kernel) ?_
    refine at_i2l 221 rfl (by decide +kernel) ?_
    refine at_lmul 222 rfl (by decide +kernel) ?_
    refine at_ldc2 (index := 174) (100 : Int64) 225 rfl (by decide +kernel) tw_1318 ?_
    refine at_ldiv 226 rfl (by decide +kernel) (by decide +kernel) ?_
    obtain ⟨b43, e44, h⟩ := h
    rw [e44]
    obtain ⟨k45, h⟩ := h
    obtain ⟨v46, h⟩ := h
    refine at_last 227 rfl (by decide +kernel) k45 v46 (fun m47 e48 => ?_)
    replace h := h m47 e48
    have k49 : mK m47 t = 13 := by rw [e48]; exact k34
    have k50 : mK m47 b3 = 15 := by rw [e48]; exact k35
    have k51 : mK m47 b7 = 16 := by rw [e48]; exact k36
    have k52 : mK m47 b17 = 16 := by rw [e48]; exact k37
    have k53 : mK m47 b28 = 15 := by rw [e48]; exact k38
    have k54 : mK m47 b39 = 15 := by rw [e48]; exact k41
    have k55 : mK m47 b43 = 16 := by rw [e48]; exact k45
    refine at_aload_n (i := 0) 0 228 rfl (by decide +kernel) rfl ?_
    refine at_get (index := 137) (v := va_rf (mR m47 t 45)) cok12 45 231 rfl (by decide +kernel) k49 (by decide +kernel) tw_1130 rfl ?_
    refine at_iconst (n := 2) (2 : Int32) 232 rfl (by decide +kernel) (by decide +kernel) ?_
    refine at_iload_n (i := 1) 1 233 rfl (by decide +kernel) rfl ?_
    refine at_imul 234 rfl (by decide +kernel) ?_
    refine at_iload (i := 4) 4 236 rfl (by decide +kernel) rfl ?_
    refine at_iadd 237 rfl (by decide +kernel) ?_
    refine at_aload_n (i := 0) 0 238 rfl (by decide +kernel) rfl ?_
    refine at_get (index := 95) (v := va_rf (mR m47 t 31)) cok12 31 241 rfl (by decide +kernel) k49 (by decide +kernel) tw_1116 rfl ?_
    refine at_iconst (n := 0) (0 : Int32) 242 rfl (by decide +kernel) (by decide +kernel) ?_
    obtain ⟨b56, e57, h⟩ := h
    rw [e57]
    obtain ⟨k58, h⟩ := h
    obtain ⟨v59, h⟩ := h
    refine at_iald 243 rfl (by decide +kernel) k58 v59 ?_
    refine at_iload_n (i := 3) 3 244 rfl (by decide +kernel) rfl ?_
    refine at_iadd 245 rfl (by decide +kernel) ?_
    obtain ⟨b60, e61, h⟩ := h
    rw [e61]
    obtain ⟨k62, h⟩ := h
    obtain ⟨v63, h⟩ := h
    refine at_iast 246 rfl (by decide +kernel) k62 v63 (fun m64 e65 => ?_)
    replace h := h m64 e65
    have k66 : mK m64 t = 13 := by rw [e65]; exact k49
    have k67 : mK m64 b3 = 15 := by rw [e65]; exact k50
    have k68 : mK m64 b7 = 16 := by rw [e65]; exact k51
    have k69 : mK m64 b17 = 16 := by rw [e65]; exact k52
    have k70 : mK m64 b28 = 15 := by rw [e65]; exact k53
    have k71 : mK m64 b39 = 15 := by rw [e65]; exact k54
    have k72 : mK m64 b43 = 16 := by rw [e65]; exact k55
    have k73 : mK m64 b56 = 15 := by rw [e65]; exact k58
    have k74 : mK m64 b60 = 15 := by rw [e65]; exact k62
    refine at_lload (i := 5) 5 248 rfl (by decide +kernel) rfl ?_
    exact at_lret rfl (by decide +kernel) h
  · rw [if_pos c1] at h
    refine at_ldc2 (index := 395) (-8 : Int64) 156 rfl (by decide +kernel) tw_1523 ?_
    exact at_lret rfl (by decide +kernel) h
set_option maxRecDepth 20000 in
set_option maxHeartbeats 4000000 in
theorem bk_RF_pledge_103 (g : Gc) {lv : Nat} {t : Nat} {l1 : Int32} {l2 : Int32} {l3 : Int32} {l4 : Int32} {m : Mm} {Q : Int64 → Mm → Prop} (h : mK m t = 13 ∧ (∃ b2, mR m t 41 = some b2 ∧ (mK m b2 = 15 ∧ (vp_in l1 (mN m b2) ∧ (∃ b6, mR m t 32 = some b6 ∧ (mK m b6 = 15 ∧ (vp_in (0 : Int32) (mN m b6) ∧ (∃ b10, mR m t 12 = some b10 ∧ (mK m b10 = 15 ∧ (vp_in l2 (mN m b10) ∧ (if (l4) = ((1 : Int32)) then (At g M_RF_pledge (lv + 1) 146 [(0, va_rf (some t)), (1, .int (l1)), (2, .int (l2)), (3, .int (l3)), (4, .int (l4)), (5, .long ((((((mI m b2 l1.toNatClampNeg).toInt64) * ((mI m b6 (0 : Int32).toNatClampNeg).toInt64)) * ((mI m b10 l2.toNatClampNeg).toInt64)) / (100 : Int64)) / (2 : Int64)))] [] m (QJ Q)) else (At g M_RF_pledge (lv + 1) 146 [(0, va_rf (some t)), (1, .int (l1)), (2, .int (l2)), (3, .int (l3)), (4, .int (l4)), (5, .long (((((mI m b2 l1.toNatClampNeg).toInt64) * ((mI m b6 (0 : Int32).toNatClampNeg).toInt64)) * ((mI m b10 l2.toNatClampNeg).toInt64)) / (100 : Int64)))] [] m (QJ Q))))))))))))) : At g M_RF_pledge (lv + 1) 103 [(0, va_rf (some t)), (1, .int (l1)), (2, .int (l2)), (3, .int (l3)), (4, .int (l4))] [] m (QJ Q) := by
  refine at_aload_n (i := 0) 0 104 rfl (by decide +kernel) rfl ?_
  obtain ⟨k1, h⟩ := h
  refine at_get (index := 125) (v := va_rf (mR m t 41)) cok12 41 107 rfl (by decide +kernel) k1 (by decide +kernel) tw_1126 rfl ?_
  refine at_iload_n (i := 1) 1 108 rfl (by decide +kernel) rfl ?_
  obtain ⟨b2, e3, h⟩ := h
  rw [e3]
  obtain ⟨k4, h⟩ := h
  obtain ⟨v5, h⟩ := h
  refine at_iald 109 rfl (by decide +kernel) k4 v5 ?_
  refine at_i2l 110 rfl (by decide +kernel) ?_
  refine at_aload_n (i := 0) 0 111 rfl (by decide +kernel) rfl ?_
  refine at_get (index := 98) (v := va_rf (mR m t 32)) cok12 32 114 rfl (by decide +kernel) k1 (by decide +kernel) tw_1117 rfl ?_
  refine at_iconst (n := 0) (0 : Int32) 115 rfl (by decide +kernel) (by decide +kernel) ?_
  obtain ⟨b6, e7, h⟩ := h
  rw [e7]
  obtain ⟨k8, h⟩ := h
  obtain ⟨v9, h⟩ := h
  refine at_iald 116 rfl (by decide +kernel) k8 v9 ?_
  refine at_i2l 117 rfl (by decide +kernel) ?_
  refine at_lmul 118 rfl (by decide +kernel) ?_
  refine at_aload_n (i := 0) 0 119 rfl (by decide +kernel) rfl ?_
  refine at_get (index := 42) (v := va_rf (mR m t 12)) cok12 12 122 rfl (by decide +kernel) k1 (by decide +kernel) tw_1097 rfl ?_
  refine at_iload_n (i := 2) 2 123 rfl (by decide +kernel) rfl ?_
  obtain ⟨b10, e11, h⟩ := h
  rw [e11]
  obtain ⟨k12, h⟩ := h
  obtain ⟨v13, h⟩ := h
  refine at_iald 124 rfl (by decide +kernel) k12 v13 ?_
  refine at_i2l 125 rfl (by decide +kernel) ?_
  refine at_lmul 126 rfl (by decide +kernel) ?_
  refine at_ldc2 (index := 174) (100 : Int64) 129 rfl (by decide +kernel) tw_1318 ?_
  refine at_ldiv 130 rfl (by decide +kernel) (by decide +kernel) ?_
  refine at_lstore (i := 5) (lc' := [(0, va_rf (some t)), (1, .int (l1)), (2, .int (l2)), (3, .int (l3)), (4, .int (l4)), (5, .long (((((mI m b2 l1.toNatClampNeg).toInt64) * ((mI m b6 (0 : Int32).toNatClampNeg).toInt64)) * ((mI m b10 l2.toNatClampNeg).toInt64)) / (100 : Int64)))]) [1, 2, 3, 4, 5, 0] 132 rfl (by decide +kernel) (by decide +kernel) rfl ?_
  refine at_iload (i := 4) 4 134 rfl (by decide +kernel) rfl ?_
  refine at_iconst (n := 1) (1 : Int32) 135 rfl (by decide +kernel) (by decide +kernel) ?_
  refine at_icmp_ne (off := 11) 146 138 rfl (by decide +kernel) (by decide +kernel) (fun c14 => ?_) (fun c14 => ?_)
  · rw [if_neg c14] at h
    exact h
  · rw [if_pos c14] at h
    refine at_lload (i := 5) 5 140 rfl (by decide +kernel) rfl ?_
    refine at_ldc2 (index := 181) (2 : Int64) 143 rfl (by decide +kernel) tw_1324 ?_
    refine at_ldiv 144 rfl (by decide +kernel) (by decide +kernel) ?_
    refine at_lstore (i := 5) (lc' := [(0, va_rf (some t)), (1, .int (l1)), (2, .int (l2)), (3, .int (l3)), (4, .int (l4)), (5, .long ((((((mI m b2 l1.toNatClampNeg).toInt64) * ((mI m b6 (0 : Int32).toNatClampNeg).toInt64)) * ((mI m b10 l2.toNatClampNeg).toInt64)) / (100 : Int64)) / (2 : Int64)))]) [1, 2, 3, 4, 5, 0] 146 rfl (by decide +kernel) (by decide +kernel) rfl ?_
    exact h
set_option maxRecDepth 20000 in
set_option maxHeartbeats 4000000 in
theorem bk_RF_pledge_65 (g : Gc) {lv : Nat} {t : Nat} {l1 : Int32} {l2 : Int32} {l3 : Int32} {s0 : Int32} {m : Mm} {Q : Int64 → Mm → Prop} (h : mK m t = 13 ∧ (∃ b2, mR m t 44 = some b2 ∧ (mK m b2 = 15 ∧ (vp_in (((2 : Int32) * l1) + (1 : Int32)) (mN m b2) ∧ (if (mI m b2 (((2 : Int32) * l1) + (1 : Int32)).toNatClampNeg) = ((-1 : Int32)) then (if (s0) = ((1 : Int32)) then (vp_in ((2 : Int32) * l1) (mN m b2) ∧ (if (mI m b2 ((2 : Int32) * l1).toNatClampNeg) = (l2) then (Q (-7 : Int64) m) else (At g M_RF_pledge (lv + 1) 103 [(0, va_rf (some t)), (1, .int (l1)), (2, .int (l2)), (3, .int (l3)), (4, .int (s0))] [] m (QJ Q)))) else (At g M_RF_pledge (lv + 1) 103 [(0, va_rf (some t)), (1, .int (l1)), (2, .int (l2)), (3, .int (l3)), (4, .int (s0))] [] m (QJ Q))) else (Q (-7 : Int64) m)))))) : At g M_RF_pledge (lv + 1) 65 [(0, va_rf (some t)), (1, .int (l1)), (2, .int (l2)), (3, .int (l3))] [.int (s0)] m (QJ Q) := by
  refine at_istore (i := 4) (lc' := [(0, va_rf (some t)), (1, .int (l1)), (2, .int (l2)), (3, .int (l3)), (4, .int (s0))]) [1, 2, 3, 4, 0] 67 rfl (by decide +kernel) (by decide +kernel) rfl ?_
  refine at_aload_n (i := 0) 0 68 rfl (by decide +kernel) rfl ?_
  obtain ⟨k1, h⟩ := h
  refine at_get (index := 134) (v := va_rf (mR m t 44)) cok12 44 71 rfl (by decide +kernel) k1 (by decide +kernel) tw_1129 rfl ?_
  refine at_iconst (n := 2) (2 : Int32) 72 rfl (by decide +kernel) (by decide +kernel) ?_
  refine at_iload_n (i := 1) 1 73 rfl (by decide +kernel) rfl ?_
  refine at_imul 74 rfl (by decide +kernel) ?_
  refine at_iconst (n := 1) (1 : Int32) 75 rfl (by decide +kernel) (by decide +kernel) ?_
  refine at_iadd 76 rfl (by decide +kernel) ?_
  obtain ⟨b2, e3, h⟩ := h
  rw [e3]
  obtain ⟨k4, h⟩ := h
  obtain ⟨v5, h⟩ := h
  refine at_iald 77 rfl (by decide +kernel) k4 v5 ?_
  refine at_iconst (n := (-1)) (-1 : Int32) 78 rfl (by decide +kernel) (by decide +kernel) ?_
  refine at_icmp_ne (off := 21) 99 81 rfl (by decide +kernel) (by decide +kernel) (fun c6 => ?_) (fun c6 => ?_)
  · rw [if_neg c6] at h
    refine at_ldc2 (index := 393) (-7 : Int64) 102 rfl (by decide +kernel) tw_1522 ?_
    exact at_lret rfl (by decide +kernel) h
  · rw [if_pos c6] at h
    refine at_iload (i := 4) 4 83 rfl (by decide +kernel) rfl ?_
    refine at_iconst (n := 1) (1 : Int32) 84 rfl (by decide +kernel) (by decide +kernel) ?_
    refine at_icmp_ne (off := 19) 103 87 rfl (by decide +kernel) (by decide +kernel) (fun c7 => ?_) (fun c7 => ?_)
    · rw [if_neg c7] at h
      exact h
    · rw [if_pos c7] at h
      refine at_aload_n (i := 0) 0 88 rfl (by decide +kernel) rfl ?_
      refine at_get (index := 134) (v := va_rf (mR m t 44)) cok12 44 91 rfl (by decide +kernel) k1 (by decide +kernel) tw_1129 rfl ?_
      rw [e3]
      refine at_iconst (n := 2) (2 : Int32) 92 rfl (by decide +kernel) (by decide +kernel) ?_
      refine at_iload_n (i := 1) 1 93 rfl (by decide +kernel) rfl ?_
      refine at_imul 94 rfl (by decide +kernel) ?_
      obtain ⟨v8, h⟩ := h
      refine at_iald 95 rfl (by decide +kernel) k4 v8 ?_
      refine at_iload_n (i := 2) 2 96 rfl (by decide +kernel) rfl ?_
      refine at_icmp_ne (off := 7) 103 99 rfl (by decide +kernel) (by decide +kernel) (fun c9 => ?_) (fun c9 => ?_)
      · rw [if_neg c9] at h
        exact h
      · rw [if_pos c9] at h
        refine at_ldc2 (index := 393) (-7 : Int64) 102 rfl (by decide +kernel) tw_1522 ?_
        exact at_lret rfl (by decide +kernel) h
set_option maxRecDepth 20000 in
set_option maxHeartbeats 4000000 in
theorem en_RF_pledge (g : Gc) {lv : Nat} {t : Nat} {l1 : Int32} {l2 : Int32} {l3 : Int32} {m : Mm} {Q : Int64 → Mm → Prop} (h : mK m t = 13 ∧ (∀ m2, m2 = sI m t 0 (0 : Int32) → (CI g M_RF_isFull lv [va_rf (some t), .int (l1)] m2 (fun x5 m6 => (if (x5) = 0 then (Q (-2 : Int64) m6) else (CI g M_RF_in lv [.long (l2.toInt64), .long ((0 : Int64)), .long ((2 : Int64))] m6 (fun x10 m11 => (if (x10) = 0 then (Q (-2 : Int64) m11) else (∃ b15, mR m11 t 40 = some b15 ∧ (mK m11 b15 = 15 ∧ (vp_in l1 (mN m11 b15) ∧ (if ((12 : Int32)) ≤ (mI m11 b15 l1.toNatClampNeg) then (Q (-2 : Int64) m11) else (CI g M_RF_in lv [.long (l3.toInt64), .long ((1 : Int64)), .long ((9 : Int64))] m11 (fun x20 m21 => (if (x20) = 0 then (Q (-2 : Int64) m21) else (CI g M_RF_isPledged lv [va_rf (some t), .int (l1)] m21 (fun x26 m27 => (if (x26) = 0 then (At g M_RF_pledge (lv + 1) 65 [(0, va_rf (some t)), (1, .int (l1)), (2, .int (l2)), (3, .int (l3))] [.int ((0 : Int32))] m27 (QJ Q)) else (At g M_RF_pledge (lv + 1) 65 [(0, va_rf (some t)), (1, .int (l1)), (2, .int (l2)), (3, .int (l3))] [.int ((1 : Int32))] m27 (QJ Q)))))))))))))))))))) : CJ g M_RF_pledge (lv + 1) [va_rf (some t), .int (l1), .int (l2), .int (l3)] m Q := by
  refine Call.of (by decide +kernel) (Nat.le_of_ble_eq_true rfl) ?_
  show At g M_RF_pledge (lv + 1) 0 [(0, va_rf (some t)), (1, .int (l1)), (2, .int (l2)), (3, .int (l3))] [] m (QJ Q)
  refine at_aload_n (i := 0) 0 1 rfl (by decide +kernel) rfl ?_
  refine at_iconst (n := 0) (0 : Int32) 2 rfl (by decide +kernel) (by decide +kernel) ?_
  obtain ⟨k1, h⟩ := h
  refine at_putI (index := 149) cok12 0 5 rfl (by decide +kernel) k1 (by decide +kernel) tw_1085 rfl rfl rfl (fun m2 e3 => ?_)
  replace h := h m2 e3
  have k4 : mK m2 t = 13 := by rw [e3]; exact k1
  refine at_aload_n (i := 0) 0 6 rfl (by decide +kernel) rfl ?_
  refine at_iload_n (i := 1) 1 7 rfl (by decide +kernel) rfl ?_
  refine at_callV mb_RF_isFull tw_1506 tw_59 cok12 k4 (index := 383) tw_1504 [.int (l1)] [] rfl rfl (by decide) 10 rfl (by decide +kernel) (Call.toI (CI.monoE h (fun x5 m6 h y7 => ?_)))
  have k8 : mK m6 t = 13 := y7.k k4 (by decide)
  refine at_if_eq (off := 38) 48 13 rfl (by decide +kernel) (by decide +kernel) (fun c9 => ?_) (fun c9 => ?_)
  · rw [if_pos c9] at h
    refine at_ldc2 (index := 391) (-2 : Int64) 51 rfl (by decide +kernel) tw_1521 ?_
    exact at_lret rfl (by decide +kernel) h
  · rw [if_neg c9] at h
    refine at_iload_n (i := 2) 2 14 rfl (by decide +kernel) rfl ?_
    refine at_i2l 15 rfl (by decide +kernel) ?_
    refine at_lconst (n := 0) (0 : Int64) 16 rfl (by decide +kernel) (by decide +kernel) ?_
    refine at_ldc2 (index := 181) (2 : Int64) 19 rfl (by decide +kernel) tw_1324 ?_
    refine at_callS mb_RF_in tw_1293 (index := 154) tw_1292 [.long (l2.toInt64), .long ((0 : Int64)), .long ((2 : Int64))] [] rfl rfl (by decide) 22 rfl (by decide +kernel) (Call.toI (CI.monoE h (fun x10 m11 h y12 => ?_)))
    have k13 : mK m11 t = 13 := y12.k k8 (by decide)
    refine at_if_eq (off := 26) 48 25 rfl (by decide +kernel) (by decide +kernel) (fun c14 => ?_) (fun c14 => ?_)
    · rw [if_pos c14] at h
      refine at_ldc2 (index := 391) (-2 : Int64) 51 rfl (by decide +kernel) tw_1521 ?_
      exact at_lret rfl (by decide +kernel) h
    · rw [if_neg c14] at h
      refine at_aload_n (i := 0) 0 26 rfl (by decide +kernel) rfl ?_
      refine at_get (index := 122) (v := va_rf (mR m11 t 40)) cok12 40 29 rfl (by decide +kernel) k13 (by decide +kernel) tw_1125 rfl ?_
      refine at_iload_n (i := 1) 1 30 rfl (by decide +kernel) rfl ?_
      obtain ⟨b15, e16, h⟩ := h
      rw [e16]
      obtain ⟨k17, h⟩ := h
      obtain ⟨v18, h⟩ := h
      refine at_iald 31 rfl (by decide +kernel) k17 v18 ?_
      refine at_bipush (n := 12) (12 : Int32) 33 rfl (by decide +kernel) (by decide +kernel) ?_
      refine at_icmp_ge (off := 15) 48 36 rfl (by decide +kernel) (by decide +kernel) (fun c19 => ?_) (fun c19 => ?_)
      · rw [if_pos c19] at h
        refine at_ldc2 (index := 391) (-2 : Int64) 51 rfl (by decide +kernel) tw_1521 ?_
        exact at_lret rfl (by decide +kernel) h
      · rw [if_neg c19] at h
        refine at_iload_n (i := 3) 3 37 rfl (by decide +kernel) rfl ?_
        refine at_i2l 38 rfl (by decide +kernel) ?_
        refine at_lconst (n := 1) (1 : Int64) 39 rfl (by decide +kernel) (by decide +kernel) ?_
        refine at_ldc2 (index := 389) (9 : Int64) 42 rfl (by decide +kernel) tw_1520 ?_
        refine at_callS mb_RF_in tw_1293 (index := 154) tw_1292 [.long (l3.toInt64), .long ((1 : Int64)), .long ((9 : Int64))] [] rfl rfl (by decide) 45 rfl (by decide +kernel) (Call.toI (CI.monoE h (fun x20 m21 h y22 => ?_)))
        have k23 : mK m21 t = 13 := y22.k k13 (by decide)
        have k24 : mK m21 b15 = 15 := y22.k k17 (by decide)
        refine at_if_ne (off := 7) 52 48 rfl (by decide +kernel) (by decide +kernel) (fun c25 => ?_) (fun c25 => ?_)
        · rw [if_neg c25] at h
          refine at_aload_n (i := 0) 0 53 rfl (by decide +kernel) rfl ?_
          refine at_iload_n (i := 1) 1 54 rfl (by decide +kernel) rfl ?_
          refine at_callV mb_RF_isPledged tw_1510 tw_60 cok12 k23 (index := 386) tw_1508 [.int (l1)] [] rfl rfl (by decide) 57 rfl (by decide +kernel) (Call.toI (CI.monoE h (fun x26 m27 h y28 => ?_)))
          have k29 : mK m27 t = 13 := y28.k k23 (by decide)
          have k30 : mK m27 b15 = 15 := y28.k k24 (by decide)
          refine at_if_eq (off := 7) 64 60 rfl (by decide +kernel) (by decide +kernel) (fun c31 => ?_) (fun c31 => ?_)
          · rw [if_pos c31] at h
            refine at_iconst (n := 0) (0 : Int32) 65 rfl (by decide +kernel) (by decide +kernel) ?_
            exact h
          · rw [if_neg c31] at h
            refine at_iconst (n := 1) (1 : Int32) 61 rfl (by decide +kernel) (by decide +kernel) ?_
            refine at_goto (off := 4) 65 (by decide +kernel) (by decide +kernel) ?_
            exact h
        · rw [if_pos c25] at h
          refine at_ldc2 (index := 391) (-2 : Int64) 51 rfl (by decide +kernel) tw_1521 ?_
          exact at_lret rfl (by decide +kernel) h
set_option maxRecDepth 20000 in
set_option maxHeartbeats 4000000 in
theorem en_RF_isLoan (g : Gc) {lv : Nat} {t : Nat} {l1 : Int32} {l2 : Int32} {m : Mm} {Q : Int32 → Mm → Prop} (h : mK m t = 13 ∧ (∃ b2, mR m t 33 = some b2 ∧ (mK m b2 = 15 ∧ (vp_in (0 : Int32) (mN m b2) ∧ (CI g M_RF_in lv [.long (l1.toInt64), .long ((0 : Int64)), .long (((mI m b2 (0 : Int32).toNatClampNeg) - (1 : Int32)).toInt64)] m (fun x6 m7 => (if (x6) = 0 then (Q (0 : Int32) m7) else (CI g M_RF_in lv [.long (l2.toInt64), .long ((1 : Int64)), .long ((2 : Int64))] m7 (fun x12 m13 => (if (x12) = 0 then (Q (0 : Int32) m13) else (∃ b18, mR m13 t 44 = some b18 ∧ (mK m13 b18 = 15 ∧ (vp_in ((((2 : Int32) * l1) + l2) - (1 : Int32)) (mN m13 b18) ∧ (if (mI m13 b18 ((((2 : Int32) * l1) + l2) - (1 : Int32)).toNatClampNeg) = ((-1 : Int32)) then (Q (0 : Int32) m13) else (Q (1 : Int32) m13))))))))))))))) : CI g M_RF_isLoan (lv + 1) [va_rf (some t), .int (l1), .int (l2)] m Q := by
  refine Call.of (by decide +kernel) (Nat.le_of_ble_eq_true rfl) ?_
  show At g M_RF_isLoan (lv + 1) 0 [(0, va_rf (some t)), (1, .int (l1)), (2, .int (l2))] [] m (QI Q)
  refine at_iload_n (i := 1) 1 1 rfl (by decide +kernel) rfl ?_
  refine at_i2l 2 rfl (by decide +kernel) ?_
  refine at_lconst (n := 0) (0 : Int64) 3 rfl (by decide +kernel) (by decide +kernel) ?_
  refine at_aload_n (i := 0) 0 4 rfl (by decide +kernel) rfl ?_
  obtain ⟨k1, h⟩ := h
  refine at_get (index := 101) (v := va_rf (mR m t 33)) cok12 33 7 rfl (by decide +kernel) k1 (by decide +kernel) tw_1118 rfl ?_
  refine at_iconst (n := 0) (0 : Int32) 8 rfl (by decide +kernel) (by decide +kernel) ?_
  obtain ⟨b2, e3, h⟩ := h
  rw [e3]
  obtain ⟨k4, h⟩ := h
  obtain ⟨v5, h⟩ := h
  refine at_iald 9 rfl (by decide +kernel) k4 v5 ?_
  refine at_iconst (n := 1) (1 : Int32) 10 rfl (by decide +kernel) (by decide +kernel) ?_
  refine at_isub 11 rfl (by decide +kernel) ?_
  refine at_i2l 12 rfl (by decide +kernel) ?_
  refine at_callS mb_RF_in tw_1293 (index := 154) tw_1292 [.long (l1.toInt64), .long ((0 : Int64)), .long (((mI m b2 (0 : Int32).toNatClampNeg) - (1 : Int32)).toInt64)] [] rfl rfl (by decide) 15 rfl (by decide +kernel) (Call.toI (CI.monoE h (fun x6 m7 h y8 => ?_)))
  have k9 : mK m7 t = 13 := y8.k k1 (by decide)
  have k10 : mK m7 b2 = 15 := y8.k k4 (by decide)
  refine at_if_eq (off := 35) 50 18 rfl (by decide +kernel) (by decide +kernel) (fun c11 => ?_) (fun c11 => ?_)
  · rw [if_pos c11] at h
    refine at_iconst (n := 0) (0 : Int32) 51 rfl (by decide +kernel) (by decide +kernel) ?_
    exact at_zret rfl (by decide +kernel) (Or.inl rfl) h
  · rw [if_neg c11] at h
    refine at_iload_n (i := 2) 2 19 rfl (by decide +kernel) rfl ?_
    refine at_i2l 20 rfl (by decide +kernel) ?_
    refine at_lconst (n := 1) (1 : Int64) 21 rfl (by decide +kernel) (by decide +kernel) ?_
    refine at_ldc2 (index := 181) (2 : Int64) 24 rfl (by decide +kernel) tw_1324 ?_
    refine at_callS mb_RF_in tw_1293 (index := 154) tw_1292 [.long (l2.toInt64), .long ((1 : Int64)), .long ((2 : Int64))] [] rfl rfl (by decide) 27 rfl (by decide +kernel) (Call.toI (CI.monoE h (fun x12 m13 h y14 => ?_)))
    have k15 : mK m13 t = 13 := y14.k k9 (by decide)
    have k16 : mK m13 b2 = 15 := y14.k k10 (by decide)
    refine at_if_eq (off := 23) 50 30 rfl (by decide +kernel) (by decide +kernel) (fun c17 => ?_) (fun c17 => ?_)
    · rw [if_pos c17] at h
      refine at_iconst (n := 0) (0 : Int32) 51 rfl (by decide +kernel) (by decide +kernel) ?_
      exact at_zret rfl (by decide +kernel) (Or.inl rfl) h
    · rw [if_neg c17] at h
      refine at_aload_n (i := 0) 0 31 rfl (by decide +kernel) rfl ?_
      refine at_get (index := 134) (v := va_rf (mR m13 t 44)) cok12 44 34 rfl (by decide +kernel) k15 (by decide +kernel) tw_1129 rfl ?_
      refine at_iconst (n := 2) (2 : Int32) 35 rfl (by decide +kernel) (by decide +kernel) ?_
      refine at_iload_n (i := 1) 1 36 rfl (by decide +kernel) rfl ?_
      refine at_imul 37 rfl (by decide +kernel) ?_
      refine at_iload_n (i := 2) 2 38 rfl (by decide +kernel) rfl ?_
      refine at_iadd 39 rfl (by decide +kernel) ?_
      refine at_iconst (n := 1) (1 : Int32) 40 rfl (by decide +kernel) (by decide +kernel) ?_
      refine at_isub 41 rfl (by decide +kernel) ?_
      obtain ⟨b18, e19, h⟩ := h
      rw [e19]
      obtain ⟨k20, h⟩ := h
      obtain ⟨v21, h⟩ := h
      refine at_iald 42 rfl (by decide +kernel) k20 v21 ?_
      refine at_iconst (n := (-1)) (-1 : Int32) 43 rfl (by decide +kernel) (by decide +kernel) ?_
      refine at_icmp_eq (off := 7) 50 46 rfl (by decide +kernel) (by decide +kernel) (fun c22 => ?_) (fun c22 => ?_)
      · rw [if_pos c22] at h
        refine at_iconst (n := 0) (0 : Int32) 51 rfl (by decide +kernel) (by decide +kernel) ?_
        exact at_zret rfl (by decide +kernel) (Or.inl rfl) h
      · rw [if_neg c22] at h
        refine at_iconst (n := 1) (1 : Int32) 47 rfl (by decide +kernel) (by decide +kernel) ?_
        refine at_goto (off := 4) 51 (by decide +kernel) (by decide +kernel) ?_
        exact at_zret rfl (by decide +kernel) (Or.inr rfl) h
set_option maxRecDepth 20000 in
set_option maxHeartbeats 4000000 in
theorem en_RF_ends (g : Gc) {lv : Nat} {t : Nat} {l1 : Int32} {l2 : Int32} {m : Mm} {Q : Mm → Prop} (h : if (l2) = ((1 : Int32)) then (mK m t = 13 ∧ (∃ b12, mR m t 44 = some b12 ∧ (mK m b12 = 15 ∧ (vp_in (((2 : Int32) * l1) + (1 : Int32)) (mN m b12) ∧ (vp_in ((2 : Int32) * l1) (mN m b12) ∧ (∀ m17, m17 = sI m b12 ((2 : Int32) * l1).toNatClampNeg (mI m b12 (((2 : Int32) * l1) + (1 : Int32)).toNatClampNeg) → (∃ b21, mR m17 t 46 = some b21 ∧ (mK m17 b21 = 16 ∧ (vp_in (((2 : Int32) * l1) + (1 : Int32)) (mN m17 b21) ∧ (vp_in ((2 : Int32) * l1) (mN m17 b21) ∧ (∀ m26, m26 = sL m17 b21 ((2 : Int32) * l1).toNatClampNeg (mL m17 b21 (((2 : Int32) * l1) + (1 : Int32)).toNatClampNeg) → (∃ b31, mR m26 t 45 = some b31 ∧ (mK m26 b31 = 15 ∧ (vp_in (((2 : Int32) * l1) + (1 : Int32)) (mN m26 b31) ∧ (vp_in ((2 : Int32) * l1) (mN m26 b31) ∧ (∀ m36, m36 = sI m26 b31 ((2 : Int32) * l1).toNatClampNeg (mI m26 b31 (((2 : Int32) * l1) + (1 : Int32)).toNatClampNeg) → (∃ b42, mR m36 t 44 = some b42 ∧ (mK m36 b42 = 15 ∧ (vp_in (((2 : Int32) * l1) + (1 : Int32)) (mN m36 b42) ∧ (∀ m46, m46 = sI m36 b42 (((2 : Int32) * l1) + (1 : Int32)).toNatClampNeg (-1 : Int32) → (Q m46))))))))))))))))))))) else (mK m t = 13 ∧ (∃ b3, mR m t 44 = some b3 ∧ (mK m b3 = 15 ∧ (vp_in (((2 : Int32) * l1) + (1 : Int32)) (mN m b3) ∧ (∀ m7, m7 = sI m b3 (((2 : Int32) * l1) + (1 : Int32)).toNatClampNeg (-1 : Int32) → (Q m7))))))) : CV g M_RF_ends (lv + 1) [va_rf (some t), .int (l1), .int (l2)] m Q := by
  refine Call.of (by decide +kernel) (Nat.le_of_ble_eq_true rfl) ?_
  show At g M_RF_ends (lv + 1) 0 [(0, va_rf (some t)), (1, .int (l1)), (2, .int (l2))] [] m (QV Q)
  refine at_iload_n (i := 2) 2 1 rfl (by decide +kernel) rfl ?_
  refine at_iconst (n := 1) (1 : Int32) 2 rfl (by decide +kernel) (by decide +kernel) ?_
  refine at_icmp_ne (off := 57) 59 5 rfl (by decide +kernel) (by decide +kernel) (fun c1 => ?_) (fun c1 => ?_)
  · rw [if_neg c1] at h
    refine at_aload_n (i := 0) 0 60 rfl (by decide +kernel) rfl ?_
    obtain ⟨k2, h⟩ := h
    refine at_get (index := 134) (v := va_rf (mR m t 44)) cok12 44 63 rfl (by decide +kernel) k2 (by decide +kernel) tw_1129 rfl ?_
    refine at_iconst (n := 2) (2 : Int32) 64 rfl (by decide +kernel) (by decide +kernel) ?_
    refine at_iload_n (i := 1) 1 65 rfl (by decide +kernel) rfl ?_
    refine at_imul 66 rfl (by decide +kernel) ?_
    refine at_iconst (n := 1) (1 : Int32) 67 rfl (by decide +kernel) (by decide +kernel) ?_
    refine at_iadd 68 rfl (by decide +kernel) ?_
    refine at_iconst (n := (-1)) (-1 : Int32) 69 rfl (by decide +kernel) (by decide +kernel) ?_
    obtain ⟨b3, e4, h⟩ := h
    rw [e4]
    obtain ⟨k5, h⟩ := h
    obtain ⟨v6, h⟩ := h
    refine at_iast 70 rfl (by decide +kernel) k5 v6 (fun m7 e8 => ?_)
    replace h := h m7 e8
    have k9 : mK m7 t = 13 := by rw [e8]; exact k2
    have k10 : mK m7 b3 = 15 := by rw [e8]; exact k5
    exact at_vret rfl (by decide +kernel) h
  · rw [if_pos c1] at h
    refine at_aload_n (i := 0) 0 6 rfl (by decide +kernel) rfl ?_
    obtain ⟨k11, h⟩ := h
    refine at_get (index := 134) (v := va_rf (mR m t 44)) cok12 44 9 rfl (by decide +kernel) k11 (by decide +kernel) tw_1129 rfl ?_
    refine at_iconst (n := 2) (2 : Int32) 10 rfl (by decide +kernel) (by decide +kernel) ?_
    refine at_iload_n (i := 1) 1 11 rfl (by decide +kernel) rfl ?_
    refine at_imul 12 rfl (by decide +kernel) ?_
    refine at_aload_n (i := 0) 0 13 rfl (by decide +kernel) rfl ?_
    refine at_get (index := 134) (v := va_rf (mR m t 44)) cok12 44 16 rfl (by decide +kernel) k11 (by decide +kernel) tw_1129 rfl ?_
    refine at_iconst (n := 2) (2 : Int32) 17 rfl (by decide +kernel) (by decide +kernel) ?_
    refine at_iload_n (i := 1) 1 18 rfl (by decide +kernel) rfl ?_
    refine at_imul 19 rfl (by decide +kernel) ?_
    refine at_iconst (n := 1) (1 : Int32) 20 rfl (by decide +kernel) (by decide +kernel) ?_
    refine at_iadd 21 rfl (by decide +kernel) ?_
    obtain ⟨b12, e13, h⟩ := h
    rw [e13]
    obtain ⟨k14, h⟩ := h
    obtain ⟨v15, h⟩ := h
    refine at_iald 22 rfl (by decide +kernel) k14 v15 ?_
    obtain ⟨v16, h⟩ := h
    refine at_iast 23 rfl (by decide +kernel) k14 v16 (fun m17 e18 => ?_)
    replace h := h m17 e18
    have k19 : mK m17 t = 13 := by rw [e18]; exact k11
    have k20 : mK m17 b12 = 15 := by rw [e18]; exact k14
    refine at_aload_n (i := 0) 0 24 rfl (by decide +kernel) rfl ?_
    refine at_get (index := 140) (v := va_rf (mR m17 t 46)) cok12 46 27 rfl (by decide +kernel) k19 (by decide +kernel) tw_1131 rfl ?_
    refine at_iconst (n := 2) (2 : Int32) 28 rfl (by decide +kernel) (by decide +kernel) ?_
    refine at_iload_n (i := 1) 1 29 rfl (by decide +kernel) rfl ?_
    refine at_imul 30 rfl (by decide +kernel) ?_
    refine at_aload_n (i := 0) 0 31 rfl (by decide +kernel) rfl ?_
    refine at_get (index := 140) (v := va_rf (mR m17 t 46)) cok12 46 34 rfl (by decide +kernel) k19 (by decide +kernel) tw_1131 rfl ?_
    refine at_iconst (n := 2) (2 : Int32) 35 rfl (by decide +kernel) (by decide +kernel) ?_
    refine at_iload_n (i := 1) 1 36 rfl (by decide +kernel) rfl ?_
    refine at_imul 37 rfl (by decide +kernel) ?_
    refine at_iconst (n := 1) (1 : Int32) 38 rfl (by decide +kernel) (by decide +kernel) ?_
    refine at_iadd 39 rfl (by decide +kernel) ?_
    obtain ⟨b21, e22, h⟩ := h
    rw [e22]
    obtain ⟨k23, h⟩ := h
    obtain ⟨v24, h⟩ := h
    refine at_lald 40 rfl (by decide +kernel) k23 v24 ?_
    obtain ⟨v25, h⟩ := h
    refine at_last 41 rfl (by decide +kernel) k23 v25 (fun m26 e27 => ?_)
    replace h := h m26 e27
    have k28 : mK m26 t = 13 := by rw [e27]; exact k19
    have k29 : mK m26 b12 = 15 := by rw [e27]; exact k20
    have k30 : mK m26 b21 = 16 := by rw [e27]; exact k23
    refine at_aload_n (i := 0) 0 42 rfl (by decide +kernel) rfl ?_
    refine at_get (index := 137) (v := va_rf (mR m26 t 45)) cok12 45 45 rfl (by decide +kernel) k28 (by decide +kernel) tw_1130 rfl ?_
    refine at_iconst (n := 2) (2 : Int32) 46 rfl (by decide +kernel) (by decide +kernel) ?_
    refine at_iload_n (i := 1) 1 47 rfl (by decide +kernel) rfl ?_
    refine at_imul 48 rfl (by decide +kernel) ?_
    refine at_aload_n (i := 0) 0 49 rfl (by decide +kernel) rfl ?_
    refine at_get (index := 137) (v := va_rf (mR m26 t 45)) cok12 45 52 rfl (by decide +kernel) k28 (by decide +kernel) tw_1130 rfl ?_
    refine at_iconst (n := 2) (2 : Int32) 53 rfl (by decide +kernel) (by decide +kernel) ?_
    refine at_iload_n (i := 1) 1 54 rfl (by decide +kernel) rfl ?_
    refine at_imul 55 rfl (by decide +kernel) ?_
    refine at_iconst (n := 1) (1 : Int32) 56 rfl (by decide +kernel) (by decide +kernel) ?_
    refine at_iadd 57 rfl (by decide +kernel) ?_
    obtain ⟨b31, e32, h⟩ := h
    rw [e32]
    obtain ⟨k33, h⟩ := h
    obtain ⟨v34, h⟩ := h
    refine at_iald 58 rfl (by decide +kernel) k33 v34 ?_
    obtain ⟨v35, h⟩ := h
    refine at_iast 59 rfl (by decide +kernel) k33 v35 (fun m36 e37 => ?_)
    replace h := h m36 e37
    have k38 : mK m36 t = 13 := by rw [e37]; exact k28
    have k39 : mK m36 b12 = 15 := by rw [e37]; exact k29
    have k40 : mK m36 b21 = 16 := by rw [e37]; exact k30
    have k41 : mK m36 b31 = 15 := by rw [e37]; exact k33
    refine at_aload_n (i := 0) 0 60 rfl (by decide +kernel) rfl ?_
    refine at_get (index := 134) (v := va_rf (mR m36 t 44)) cok12 44 63 rfl (by decide +kernel) k38 (by decide +kernel) tw_1129 rfl ?_
    refine at_iconst (n := 2) (2 : Int32) 64 rfl (by decide +kernel) (by decide +kernel) ?_
    refine at_iload_n (i := 1) 1 65 rfl (by decide +kernel) rfl ?_
    refine at_imul 66 rfl (by decide +kernel) ?_
    refine at_iconst (n := 1) (1 : Int32) 67 rfl (by decide +kernel) (by decide +kernel) ?_
    refine at_iadd 68 rfl (by decide +kernel) ?_
    refine at_iconst (n := (-1)) (-1 : Int32) 69 rfl (by decide +kernel) (by decide +kernel) ?_
    obtain ⟨b42, e43, h⟩ := h
    rw [e43]
    obtain ⟨k44, h⟩ := h
    obtain ⟨v45, h⟩ := h
    refine at_iast 70 rfl (by decide +kernel) k44 v45 (fun m46 e47 => ?_)
    replace h := h m46 e47
    have k48 : mK m46 t = 13 := by rw [e47]; exact k38
    have k49 : mK m46 b12 = 15 := by rw [e47]; exact k39
    have k50 : mK m46 b21 = 16 := by rw [e47]; exact k40
    have k51 : mK m46 b31 = 15 := by rw [e47]; exact k41
    have k52 : mK m46 b42 = 15 := by rw [e47]; exact k44
    exact at_vret rfl (by decide +kernel) h
set_option maxRecDepth 20000 in
set_option maxHeartbeats 4000000 in
theorem en_RF_pays (g : Gc) {lv : Nat} {t : Nat} {l1 : Int32} {l2 : Int32} {m : Mm} {Q : Int32 → Mm → Prop} (h : mK m t = 13 ∧ (∃ b2, mR m t 40 = some b2 ∧ (mK m b2 = 15 ∧ (vp_in l1 (mN m b2) ∧ (∃ b6, mR m t 39 = some b6 ∧ (mK m b6 = 16 ∧ (vp_in (mI m b2 l1.toNatClampNeg) (mN m b6) ∧ (∃ b10, mR m t 46 = some b10 ∧ (mK m b10 = 16 ∧ (vp_in ((((2 : Int32) * l1) + l2) - (1 : Int32)) (mN m b10) ∧ (if (mL m b10 ((((2 : Int32) * l1) + l2) - (1 : Int32)).toNatClampNeg) ≤ (mL m b6 (mI m b2 l1.toNatClampNeg).toNatClampNeg) then (vp_in l1 (mN m b2) ∧ (vp_in (mI m b2 l1.toNatClampNeg) (mN m b6) ∧ (vp_in ((((2 : Int32) * l1) + l2) - (1 : Int32)) (mN m b10) ∧ (vp_in (mI m b2 l1.toNatClampNeg) (mN m b6) ∧ (∀ m19, m19 = sL m b6 (mI m b2 l1.toNatClampNeg).toNatClampNeg ((mL m b6 (mI m b2 l1.toNatClampNeg).toNatClampNeg) - (mL m b10 ((((2 : Int32) * l1) + l2) - (1 : Int32)).toNatClampNeg)) → (∃ b25, mR m19 t 44 = some b25 ∧ (mK m19 b25 = 15 ∧ (vp_in ((((2 : Int32) * l1) + l2) - (1 : Int32)) (mN m19 b25) ∧ (∃ b29, mR m19 t 39 = some b29 ∧ (mK m19 b29 = 16 ∧ (vp_in ((12 : Int32) + (mI m19 b25 ((((2 : Int32) * l1) + l2) - (1 : Int32)).toNatClampNeg)) (mN m19 b29) ∧ (∃ b33, mR m19 t 46 = some b33 ∧ (mK m19 b33 = 16 ∧ (vp_in ((((2 : Int32) * l1) + l2) - (1 : Int32)) (mN m19 b33) ∧ (vp_in ((12 : Int32) + (mI m19 b25 ((((2 : Int32) * l1) + l2) - (1 : Int32)).toNatClampNeg)) (mN m19 b29) ∧ (∀ m38, m38 = sL m19 b29 ((12 : Int32) + (mI m19 b25 ((((2 : Int32) * l1) + l2) - (1 : Int32)).toNatClampNeg)).toNatClampNeg ((mL m19 b29 ((12 : Int32) + (mI m19 b25 ((((2 : Int32) * l1) + l2) - (1 : Int32)).toNatClampNeg)).toNatClampNeg) + (mL m19 b33 ((((2 : Int32) * l1) + l2) - (1 : Int32)).toNatClampNeg)) → (CV g M_RF_ends lv [va_rf (some t), .int (l1), .int (l2)] m38 (fun m47 => (Q (1 : Int32) m47))))))))))))))))))) else (Q (0 : Int32) m)))))))))))) : CI g M_RF_pays (lv + 1) [va_rf (some t), .int (l1), .int (l2)] m Q := by
  refine Call.of (by decide +kernel) (Nat.le_of_ble_eq_true rfl) ?_
  show At g M_RF_pays (lv + 1) 0 [(0, va_rf (some t)), (1, .int (l1)), (2, .int (l2))] [] m (QI Q)
  refine at_iconst (n := 2) (2 : Int32) 1 rfl (by decide +kernel) (by decide +kernel) ?_
  refine at_iload_n (i := 1) 1 2 rfl (by decide +kernel) rfl ?_
  refine at_imul 3 rfl (by decide +kernel) ?_
  refine at_iload_n (i := 2) 2 4 rfl (by decide +kernel) rfl ?_
  refine at_iadd 5 rfl (by decide +kernel) ?_
  refine at_iconst (n := 1) (1 : Int32) 6 rfl (by decide +kernel) (by decide +kernel) ?_
  refine at_isub 7 rfl (by decide +kernel) ?_
  refine at_istore_n (i := 3) (lc' := [(0, va_rf (some t)), (1, .int (l1)), (2, .int (l2)), (3, .int ((((2 : Int32) * l1) + l2) - (1 : Int32)))]) [1, 2, 3, 0] 8 rfl (by decide +kernel) (by decide +kernel) rfl ?_
  refine at_aload_n (i := 0) 0 9 rfl (by decide +kernel) rfl ?_
  obtain ⟨k1, h⟩ := h
  refine at_get (index := 119) (v := va_rf (mR m t 39)) cok12 39 12 rfl (by decide +kernel) k1 (by decide +kernel) tw_1124 rfl ?_
  refine at_aload_n (i := 0) 0 13 rfl (by decide +kernel) rfl ?_
  refine at_get (index := 122) (v := va_rf (mR m t 40)) cok12 40 16 rfl (by decide +kernel) k1 (by decide +kernel) tw_1125 rfl ?_
  refine at_iload_n (i := 1) 1 17 rfl (by decide +kernel) rfl ?_
  obtain ⟨b2, e3, h⟩ := h
  rw [e3]
  obtain ⟨k4, h⟩ := h
  obtain ⟨v5, h⟩ := h
  refine at_iald 18 rfl (by decide +kernel) k4 v5 ?_
  obtain ⟨b6, e7, h⟩ := h
  rw [e7]
  obtain ⟨k8, h⟩ := h
  obtain ⟨v9, h⟩ := h
  refine at_lald 19 rfl (by decide +kernel) k8 v9 ?_
  refine at_aload_n (i := 0) 0 20 rfl (by decide +kernel) rfl ?_
  refine at_get (index := 140) (v := va_rf (mR m t 46)) cok12 46 23 rfl (by decide +kernel) k1 (by decide +kernel) tw_1131 rfl ?_
  refine at_iload_n (i := 3) 3 24 rfl (by decide +kernel) rfl ?_
  obtain ⟨b10, e11, h⟩ := h
  rw [e11]
  obtain ⟨k12, h⟩ := h
  obtain ⟨v13, h⟩ := h
  refine at_lald 25 rfl (by decide +kernel) k12 v13 ?_
  refine at_lif_ge (off := 5) 26 31 29 rfl rfl (by decide +kernel) (by decide +kernel) (by decide +kernel) (fun c14 => ?_) (fun c14 => ?_)
  · rw [if_pos c14] at h
    refine at_aload_n (i := 0) 0 32 rfl (by decide +kernel) rfl ?_
    refine at_get (index := 119) (v := va_rf (mR m t 39)) cok12 39 35 rfl (by decide +kernel) k1 (by decide +kernel) tw_1124 rfl ?_
    rw [e7]
    refine at_aload_n (i := 0) 0 36 rfl (by decide +kernel) rfl ?_
    refine at_get (index := 122) (v := va_rf (mR m t 40)) cok12 40 39 rfl (by decide +kernel) k1 (by decide +kernel) tw_1125 rfl ?_
    rw [e3]
    refine at_iload_n (i := 1) 1 40 rfl (by decide +kernel) rfl ?_
    obtain ⟨v15, h⟩ := h
    refine at_iald 41 rfl (by decide +kernel) k4 v15 ?_
    refine at_dup2_11 42 rfl (by decide +kernel) rfl (va_rf_cat _) ?_
    obtain ⟨v16, h⟩ := h
    refine at_lald 43 rfl (by decide +kernel) k8 v16 ?_
    refine at_aload_n (i := 0) 0 44 rfl (by decide +kernel) rfl ?_
    refine at_get (index := 140) (v := va_rf (mR m t 46)) cok12 46 47 rfl (by decide +kernel) k1 (by decide +kernel) tw_1131 rfl ?_
    rw [e11]
    refine at_iload_n (i := 3) 3 48 rfl (by decide +kernel) rfl ?_
    obtain ⟨v17, h⟩ := h
    refine at_lald 49 rfl (by decide +kernel) k12 v17 ?_
    refine at_lsub 50 rfl (by decide +kernel) ?_
    obtain ⟨v18, h⟩ := h
    refine at_last 51 rfl (by decide +kernel) k8 v18 (fun m19 e20 => ?_)
    replace h := h m19 e20
    have k21 : mK m19 t = 13 := by rw [e20]; exact k1
    have k22 : mK m19 b2 = 15 := by rw [e20]; exact k4
    have k23 : mK m19 b6 = 16 := by rw [e20]; exact k8
    have k24 : mK m19 b10 = 16 := by rw [e20]; exact k12
    refine at_aload_n (i := 0) 0 52 rfl (by decide +kernel) rfl ?_
    refine at_get (index := 119) (v := va_rf (mR m19 t 39)) cok12 39 55 rfl (by decide +kernel) k21 (by decide +kernel) tw_1124 rfl ?_
    refine at_bipush (n := 12) (12 : Int32) 57 rfl (by decide +kernel) (by decide +kernel) ?_
    refine at_aload_n (i := 0) 0 58 rfl (by decide +kernel) rfl ?_
    refine at_get (index := 134) (v := va_rf (mR m19 t 44)) cok12 44 61 rfl (by decide +kernel) k21 (by decide +kernel) tw_1129 rfl ?_
    refine at_iload_n (i := 3) 3 62 rfl (by decide +kernel) rfl ?_
    obtain ⟨b25, e26, h⟩ := h
    rw [e26]
    obtain ⟨k27, h⟩ := h
    obtain ⟨v28, h⟩ := h
    refine at_iald 63 rfl (by decide +kernel) k27 v28 ?_
    refine at_iadd 64 rfl (by decide +kernel) ?_
    refine at_dup2_11 65 rfl (by decide +kernel) rfl (va_rf_cat _) ?_
    obtain ⟨b29, e30, h⟩ := h
    rw [e30]
    obtain ⟨k31, h⟩ := h
    obtain ⟨v32, h⟩ := h
    refine at_lald 66 rfl (by decide +kernel) k31 v32 ?_
    refine at_aload_n (i := 0) 0 67 rfl (by decide +kernel) rfl ?_
    refine at_get (index := 140) (v := va_rf (mR m19 t 46)) cok12 46 70 rfl (by decide +kernel) k21 (by decide +kernel) tw_1131 rfl ?_
    refine at_iload_n (i := 3) 3 71 rfl (by decide +kernel) rfl ?_
    obtain ⟨b33, e34, h⟩ := h
    rw [e34]
    obtain ⟨k35, h⟩ := h
    obtain ⟨v36, h⟩ := h
    refine at_lald 72 rfl (by decide +kernel) k35 v36 ?_
    refine at_ladd 73 rfl (by decide +kernel) ?_
    obtain ⟨v37, h⟩ := h
    refine at_last 74 rfl (by decide +kernel) k31 v37 (fun m38 e39 => ?_)
    replace h := h m38 e39
    have k40 : mK m38 t = 13 := by rw [e39]; exact k21
    have k41 : mK m38 b2 = 15 := by rw [e39]; exact k22
    have k42 : mK m38 b6 = 16 := by rw [e39]; exact k23
    have k43 : mK m38 b10 = 16 := by rw [e39]; exact k24
    have k44 : mK m38 b25 = 15 := by rw [e39]; exact k27
    have k45 : mK m38 b29 = 16 := by rw [e39]; exact k31
    have k46 : mK m38 b33 = 16 := by rw [e39]; exact k35
    refine at_aload_n (i := 0) 0 75 rfl (by decide +kernel) rfl ?_
    refine at_iload_n (i := 1) 1 76 rfl (by decide +kernel) rfl ?_
    refine at_iload_n (i := 2) 2 77 rfl (by decide +kernel) rfl ?_
    refine at_callV mb_RF_ends tw_1493 tw_58 cok12 k40 (index := 397) tw_1491 [.int (l1), .int (l2)] [] rfl rfl (by decide) 80 rfl (by decide +kernel) (Call.toV (CV.monoE h (fun m47 h y48 => ?_)))
    have k49 : mK m47 t = 13 := y48.k k40 (by decide)
    have k50 : mK m47 b2 = 15 := y48.k k41 (by decide)
    have k51 : mK m47 b6 = 16 := y48.k k42 (by decide)
    have k52 : mK m47 b10 = 16 := y48.k k43 (by decide)
    have k53 : mK m47 b25 = 15 := y48.k k44 (by decide)
    have k54 : mK m47 b29 = 16 := y48.k k45 (by decide)
    have k55 : mK m47 b33 = 16 := y48.k k46 (by decide)
    refine at_iconst (n := 1) (1 : Int32) 81 rfl (by decide +kernel) (by decide +kernel) ?_
    exact at_zret rfl (by decide +kernel) (Or.inr rfl) h
  · rw [if_neg c14] at h
    refine at_iconst (n := 0) (0 : Int32) 30 rfl (by decide +kernel) (by decide +kernel) ?_
    exact at_zret rfl (by decide +kernel) (Or.inl rfl) h
set_option maxRecDepth 20000 in
set_option maxHeartbeats 4000000 in
theorem en_RF_pay (g : Gc) {lv : Nat} {t : Nat} {l1 : Int32} {l2 : Int32} {m : Mm} {Q : Int64 → Mm → Prop} (h : mK m t = 13 ∧ (∀ m2, m2 = sI m t 0 (0 : Int32) → (CI g M_RF_isLoan lv [va_rf (some t), .int (l1), .int (l2)] m2 (fun x5 m6 => (if (x5) = 0 then (Q (-2 : Int64) m6) else (∃ b10, mR m6 t 46 = some b10 ∧ (mK m6 b10 = 16 ∧ (vp_in ((((2 : Int32) * l1) + l2) - (1 : Int32)) (mN m6 b10) ∧ (CI g M_RF_pays lv [va_rf (some t), .int (l1), .int (l2)] m6 (fun x14 m15 => (if (x14) = 0 then (Q (-7 : Int64) m15) else (Q (mL m6 b10 ((((2 : Int32) * l1) + l2) - (1 : Int32)).toNatClampNeg) m15)))))))))))) : CJ g M_RF_pay (lv + 1) [va_rf (some t), .int (l1), .int (l2)] m Q := by
  refine Call.of (by decide +kernel) (Nat.le_of_ble_eq_true rfl) ?_
  show At g M_RF_pay (lv + 1) 0 [(0, va_rf (some t)), (1, .int (l1)), (2, .int (l2))] [] m (QJ Q)
  refine at_aload_n (i := 0) 0 1 rfl (by decide +kernel) rfl ?_
  refine at_iconst (n := 0) (0 : Int32) 2 rfl (by decide +kernel) (by decide +kernel) ?_
  obtain ⟨k1, h⟩ := h
  refine at_putI (index := 149) cok12 0 5 rfl (by decide +kernel) k1 (by decide +kernel) tw_1085 rfl rfl rfl (fun m2 e3 => ?_)
  replace h := h m2 e3
  have k4 : mK m2 t = 13 := by rw [e3]; exact k1
  refine at_aload_n (i := 0) 0 6 rfl (by decide +kernel) rfl ?_
  refine at_iload_n (i := 1) 1 7 rfl (by decide +kernel) rfl ?_
  refine at_iload_n (i := 2) 2 8 rfl (by decide +kernel) rfl ?_
  refine at_callV mb_RF_isLoan tw_1530 tw_61 cok12 k4 (index := 400) tw_1528 [.int (l1), .int (l2)] [] rfl rfl (by decide) 11 rfl (by decide +kernel) (Call.toI (CI.monoE h (fun x5 m6 h y7 => ?_)))
  have k8 : mK m6 t = 13 := y7.k k4 (by decide)
  refine at_if_ne (off := 7) 18 14 rfl (by decide +kernel) (by decide +kernel) (fun c9 => ?_) (fun c9 => ?_)
  · rw [if_neg c9] at h
    refine at_aload_n (i := 0) 0 19 rfl (by decide +kernel) rfl ?_
    refine at_get (index := 140) (v := va_rf (mR m6 t 46)) cok12 46 22 rfl (by decide +kernel) k8 (by decide +kernel) tw_1131 rfl ?_
    refine at_iconst (n := 2) (2 : Int32) 23 rfl (by decide +kernel) (by decide +kernel) ?_
    refine at_iload_n (i := 1) 1 24 rfl (by decide +kernel) rfl ?_
    refine at_imul 25 rfl (by decide +kernel) ?_
    refine at_iload_n (i := 2) 2 26 rfl (by decide +kernel) rfl ?_
    refine at_iadd 27 rfl (by decide +kernel) ?_
    refine at_iconst (n := 1) (1 : Int32) 28 rfl (by decide +kernel) (by decide +kernel) ?_
    refine at_isub 29 rfl (by decide +kernel) ?_
    obtain ⟨b10, e11, h⟩ := h
    rw [e11]
    obtain ⟨k12, h⟩ := h
    obtain ⟨v13, h⟩ := h
    refine at_lald 30 rfl (by decide +kernel) k12 v13 ?_
    refine at_lstore_n (i := 3) (lc' := [(0, va_rf (some t)), (1, .int (l1)), (2, .int (l2)), (3, .long (mL m6 b10 ((((2 : Int32) * l1) + l2) - (1 : Int32)).toNatClampNeg))]) [1, 2, 3, 0] 31 rfl (by decide +kernel) (by decide +kernel) rfl ?_
    refine at_aload_n (i := 0) 0 32 rfl (by decide +kernel) rfl ?_
    refine at_iload_n (i := 1) 1 33 rfl (by decide +kernel) rfl ?_
    refine at_iload_n (i := 2) 2 34 rfl (by decide +kernel) rfl ?_
    refine at_callV mb_RF_pays tw_1489 tw_57 cok12 k8 (index := 404) tw_1487 [.int (l1), .int (l2)] [] rfl rfl (by decide) 37 rfl (by decide +kernel) (Call.toI (CI.monoE h (fun x14 m15 h y16 => ?_)))
    have k17 : mK m15 t = 13 := y16.k k8 (by decide)
    have k18 : mK m15 b10 = 16 := y16.k k12 (by decide)
    refine at_if_eq (off := 7) 44 40 rfl (by decide +kernel) (by decide +kernel) (fun c19 => ?_) (fun c19 => ?_)
    · rw [if_pos c19] at h
      refine at_ldc2 (index := 393) (-7 : Int64) 47 rfl (by decide +kernel) tw_1522 ?_
      exact at_lret rfl (by decide +kernel) h
    · rw [if_neg c19] at h
      refine at_lload_n (i := 3) 3 41 rfl (by decide +kernel) rfl ?_
      refine at_goto (off := 6) 47 (by decide +kernel) (by decide +kernel) ?_
      exact at_lret rfl (by decide +kernel) h
  · rw [if_pos c9] at h
    refine at_ldc2 (index := 391) (-2 : Int64) 17 rfl (by decide +kernel) tw_1521 ?_
    exact at_lret rfl (by decide +kernel) h
set_option maxRecDepth 20000 in
set_option maxHeartbeats 4000000 in
theorem bk_RF_dues_127 (g : Gc) {lv : Nat} {t : Nat} {l1 : Int32} {l2 : Int32} {l3 : Int32} {l7 : Int32} {m : Mm} {Q : Mm → Prop} (h : mK m t = 13 ∧ (∃ b2, mR m t 40 = some b2 ∧ (mK m b2 = 15 ∧ (vp_in l1 (mN m b2) ∧ (∀ m6, m6 = sI m b2 l1.toNatClampNeg l7 → (∃ b10, mR m6 t 44 = some b10 ∧ (mK m6 b10 = 15 ∧ (vp_in ((2 : Int32) * l1) (mN m6 b10) ∧ (∀ m14, m14 = sI m6 b10 ((2 : Int32) * l1).toNatClampNeg (-1 : Int32) → (∃ b19, mR m14 t 44 = some b19 ∧ (mK m14 b19 = 15 ∧ (vp_in (((2 : Int32) * l1) + (1 : Int32)) (mN m14 b19) ∧ (∀ m23, m23 = sI m14 b19 (((2 : Int32) * l1) + (1 : Int32)).toNatClampNeg (-1 : Int32) → (At g M_RF_dues (lv + 1) 2 [(0, va_rf (some t)), (1, .int (l1)), (2, .int (l2)), (3, .int (l3))] [] m23 (QV Q))))))))))))))) : At g M_RF_dues (lv + 1) 127 [(0, va_rf (some t)), (1, .int (l1)), (2, .int (l2)), (3, .int (l3)), (7, .int (l7))] [] m (QV Q) := by
  refine at_aload_n (i := 0) 0 128 rfl (by decide +kernel) rfl ?_
  obtain ⟨k1, h⟩ := h
  refine at_get (index := 122) (v := va_rf (mR m t 40)) cok12 40 131 rfl (by decide +kernel) k1 (by decide +kernel) tw_1125 rfl ?_
  refine at_iload_n (i := 1) 1 132 rfl (by decide +kernel) rfl ?_
  refine at_iload (i := 7) 4 134 rfl (by decide +kernel) rfl ?_
  obtain ⟨b2, e3, h⟩ := h
  rw [e3]
  obtain ⟨k4, h⟩ := h
  obtain ⟨v5, h⟩ := h
  refine at_iast 135 rfl (by decide +kernel) k4 v5 (fun m6 e7 => ?_)
  replace h := h m6 e7
  have k8 : mK m6 t = 13 := by rw [e7]; exact k1
  have k9 : mK m6 b2 = 15 := by rw [e7]; exact k4
  refine at_aload_n (i := 0) 0 136 rfl (by decide +kernel) rfl ?_
  refine at_get (index := 134) (v := va_rf (mR m6 t 44)) cok12 44 139 rfl (by decide +kernel) k8 (by decide +kernel) tw_1129 rfl ?_
  refine at_iconst (n := 2) (2 : Int32) 140 rfl (by decide +kernel) (by decide +kernel) ?_
  refine at_iload_n (i := 1) 1 141 rfl (by decide +kernel) rfl ?_
  refine at_imul 142 rfl (by decide +kernel) ?_
  refine at_iconst (n := (-1)) (-1 : Int32) 143 rfl (by decide +kernel) (by decide +kernel) ?_
  obtain ⟨b10, e11, h⟩ := h
  rw [e11]
  obtain ⟨k12, h⟩ := h
  obtain ⟨v13, h⟩ := h
  refine at_iast 144 rfl (by decide +kernel) k12 v13 (fun m14 e15 => ?_)
  replace h := h m14 e15
  have k16 : mK m14 t = 13 := by rw [e15]; exact k8
  have k17 : mK m14 b2 = 15 := by rw [e15]; exact k9
  have k18 : mK m14 b10 = 15 := by rw [e15]; exact k12
  refine at_aload_n (i := 0) 0 145 rfl (by decide +kernel) rfl ?_
  refine at_get (index := 134) (v := va_rf (mR m14 t 44)) cok12 44 148 rfl (by decide +kernel) k16 (by decide +kernel) tw_1129 rfl ?_
  refine at_iconst (n := 2) (2 : Int32) 149 rfl (by decide +kernel) (by decide +kernel) ?_
  refine at_iload_n (i := 1) 1 150 rfl (by decide +kernel) rfl ?_
  refine at_imul 151 rfl (by decide +kernel) ?_
  refine at_iconst (n := 1) (1 : Int32) 152 rfl (by decide +kernel) (by decide +kernel) ?_
  refine at_iadd 153 rfl (by decide +kernel) ?_
  refine at_iconst (n := (-1)) (-1 : Int32) 154 rfl (by decide +kernel) (by decide +kernel) ?_
  obtain ⟨b19, e20, h⟩ := h
  rw [e20]
  obtain ⟨k21, h⟩ := h
  obtain ⟨v22, h⟩ := h
  refine at_iast 155 rfl (by decide +kernel) k21 v22 (fun m23 e24 => ?_)
  replace h := h m23 e24
  have k25 : mK m23 t = 13 := by rw [e24]; exact k16
  have k26 : mK m23 b2 = 15 := by rw [e24]; exact k17
  have k27 : mK m23 b10 = 15 := by rw [e24]; exact k18
  have k28 : mK m23 b19 = 15 := by rw [e24]; exact k21
  refine at_goto (off := 39) 194 (by decide +kernel) (by decide +kernel) ?_
  refine at_goto (off := (-192)) 2 (by decide +kernel) (by decide +kernel) ?_
  exact At.sub [0, 1, 2, 3] rfl h
set_option maxRecDepth 20000 in
set_option maxHeartbeats 4000000 in
theorem bk_RF_dues_2 (g : Gc) {lv : Nat} {t : Nat} {l1 : Int32} {l2 : Int32} {l3 : Int32} {m : Mm} {Q : Mm → Prop} (h : if ((3 : Int32)) ≤ (l3) then (Q m) else (mK m t = 13 ∧ (∃ b3, mR m t 44 = some b3 ∧ (mK m b3 = 15 ∧ (vp_in ((((2 : Int32) * l1) + l3) - (1 : Int32)) (mN m b3) ∧ (if (mI m b3 ((((2 : Int32) * l1) + l3) - (1 : Int32)).toNatClampNeg) = ((-1 : Int32)) then (At g M_RF_dues (lv + 1) 2 [(0, va_rf (some t)), (1, .int (l1)), (2, .int (l2)), (3, .int (l3 + (1 : Int32)))] [] m (QV Q)) else (∃ b8, mR m t 45 = some b8 ∧ (mK m b8 = 15 ∧ (vp_in ((((2 : Int32) * l1) + l3) - (1 : Int32)) (mN m b8) ∧ (if (mI m b8 ((((2 : Int32) * l1) + l3) - (1 : Int32)).toNatClampNeg) ≤ (l2) then (CI g M_RF_pays lv [va_rf (some t), .int (l1), .int (l3)] m (fun x13 m14 => (if (x13) = 0 then (∀ m20, m20 = sI m14 t 47 ((mI m14 t 47) + (1 : Int32)) → (∃ b25, mR m20 t 46 = some b25 ∧ (mK m20 b25 = 16 ∧ (vp_in ((((2 : Int32) * l1) + l3) - (1 : Int32)) (mN m20 b25) ∧ (∃ b29, mR m20 t 32 = some b29 ∧ (mK m20 b29 = 15 ∧ (vp_in (0 : Int32) (mN m20 b29) ∧ (vp_in (0 : Int32) (mN m20 b29) ∧ (¬ ((mI m20 b29 (0 : Int32).toNatClampNeg).toInt64) = 0 ∧ (∃ b35, mR m20 t 44 = some b35 ∧ (mK m20 b35 = 15 ∧ (vp_in ((((2 : Int32) * l1) + l3) - (1 : Int32)) (mN m20 b35) ∧ (∃ b39, mR m20 t 41 = some b39 ∧ (mK m20 b39 = 15 ∧ (vp_in l1 (mN m20 b39) ∧ (if ((mI m20 b39 l1.toNatClampNeg).toInt64) ≤ ((((mL m20 b25 ((((2 : Int32) * l1) + l3) - (1 : Int32)).toNatClampNeg) + ((mI m20 b29 (0 : Int32).toNatClampNeg).toInt64)) - (1 : Int64)) / ((mI m20 b29 (0 : Int32).toNatClampNeg).toInt64)) then (At g M_RF_dues (lv + 1) 127 [(0, va_rf (some t)), (1, .int (l1)), (2, .int (l2)), (3, .int (l3)), (7, .int ((12 : Int32) + (mI m20 b35 ((((2 : Int32) * l1) + l3) - (1 : Int32)).toNatClampNeg)))] [] m20 (QV Q)) else (∃ b44, mR m20 t 33 = some b44 ∧ (mK m20 b44 = 15 ∧ (vp_in (0 : Int32) (mN m20 b44) ∧ (if (mI m20 b44 (0 : Int32).toNatClampNeg) = ((400 : Int32)) then (At g M_RF_dues (lv + 1) 127 [(0, va_rf (some t)), (1, .int (l1)), (2, .int (l2)), (3, .int (l3)), (7, .int ((12 : Int32) + (mI m20 b35 ((((2 : Int32) * l1) + l3) - (1 : Int32)).toNatClampNeg)))] [] m20 (QV Q)) else (vp_in l1 (mN m20 b39) ∧ (vp_in l1 (mN m20 b39) ∧ (∀ m51, m51 = sI m20 b39 l1.toNatClampNeg ((mI m20 b39 l1.toNatClampNeg) - (((((mL m20 b25 ((((2 : Int32) * l1) + l3) - (1 : Int32)).toNatClampNeg) + ((mI m20 b29 (0 : Int32).toNatClampNeg).toInt64)) - (1 : Int64)) / ((mI m20 b29 (0 : Int32).toNatClampNeg).toInt64)).toInt32)) → (∃ b61, mR m51 t 42 = some b61 ∧ (mK m51 b61 = 15 ∧ (vp_in l1 (mN m51 b61) ∧ (CI g M_RF_receipt_IIII lv [va_rf (some t), .int ((0 : Int32)), .int ((12 : Int32) + (mI m20 b35 ((((2 : Int32) * l1) + l3) - (1 : Int32)).toNatClampNeg)), .int (((((mL m20 b25 ((((2 : Int32) * l1) + l3) - (1 : Int32)).toNatClampNeg) + ((mI m20 b29 (0 : Int32).toNatClampNeg).toInt64)) - (1 : Int64)) / ((mI m20 b29 (0 : Int32).toNatClampNeg).toInt64)).toInt32), .int (mI m51 b61 l1.toNatClampNeg)] m51 (fun x65 m66 => (CV g M_RF_ends lv [va_rf (some t), .int (l1), .int (l3)] m66 (fun m77 => (At g M_RF_dues (lv + 1) 2 [(0, va_rf (some t)), (1, .int (l1)), (2, .int (l2)), (3, .int (l3))] [] m77 (QV Q)))))))))))))))))))))))))))))))) else (At g M_RF_dues (lv + 1) 2 [(0, va_rf (some t)), (1, .int (l1)), (2, .int (l2)), (3, .int (l3))] [] m14 (QV Q))))) else (At g M_RF_dues (lv + 1) 2 [(0, va_rf (some t)), (1, .int (l1)), (2, .int (l2)), (3, .int (l3 + (1 : Int32)))] [] m (QV Q)))))))))))) : At g M_RF_dues (lv + 1) 2 [(0, va_rf (some t)), (1, .int (l1)), (2, .int (l2)), (3, .int (l3))] [] m (QV Q) := by
  refine at_iload_n (i := 3) 3 3 rfl (by decide +kernel) rfl ?_
  refine at_iconst (n := 3) (3 : Int32) 4 rfl (by decide +kernel) (by decide +kernel) ?_
  refine at_icmp_ge (off := 193) 197 7 rfl (by decide +kernel) (by decide +kernel) (fun c1 => ?_) (fun c1 => ?_)
  · rw [if_pos c1] at h
    exact at_vret rfl (by decide +kernel) h
  · rw [if_neg c1] at h
    refine at_iconst (n := 2) (2 : Int32) 8 rfl (by decide +kernel) (by decide +kernel) ?_
    refine at_iload_n (i := 1) 1 9 rfl (by decide +kernel) rfl ?_
    refine at_imul 10 rfl (by decide +kernel) ?_
    refine at_iload_n (i := 3) 3 11 rfl (by decide +kernel) rfl ?_
    refine at_iadd 12 rfl (by decide +kernel) ?_
    refine at_iconst (n := 1) (1 : Int32) 13 rfl (by decide +kernel) (by decide +kernel) ?_
    refine at_isub 14 rfl (by decide +kernel) ?_
    refine at_istore (i := 4) (lc' := [(0, va_rf (some t)), (1, .int (l1)), (2, .int (l2)), (3, .int (l3)), (4, .int ((((2 : Int32) * l1) + l3) - (1 : Int32)))]) [1, 2, 3, 4, 0] 16 rfl (by decide +kernel) (by decide +kernel) rfl ?_
    refine at_aload_n (i := 0) 0 17 rfl (by decide +kernel) rfl ?_
    obtain ⟨k2, h⟩ := h
    refine at_get (index := 134) (v := va_rf (mR m t 44)) cok12 44 20 rfl (by decide +kernel) k2 (by decide +kernel) tw_1129 rfl ?_
    refine at_iload (i := 4) 4 22 rfl (by decide +kernel) rfl ?_
    obtain ⟨b3, e4, h⟩ := h
    rw [e4]
    obtain ⟨k5, h⟩ := h
    obtain ⟨v6, h⟩ := h
    refine at_iald 23 rfl (by decide +kernel) k5 v6 ?_
    refine at_iconst (n := (-1)) (-1 : Int32) 24 rfl (by decide +kernel) (by decide +kernel) ?_
    refine at_icmp_eq (off := 14) 38 27 rfl (by decide +kernel) (by decide +kernel) (fun c7 => ?_) (fun c7 => ?_)
    · rw [if_pos c7] at h
      refine at_iinc (i := 3) (n := 1) (lc' := [(0, va_rf (some t)), (1, .int (l1)), (2, .int (l2)), (3, .int (l3 + (1 : Int32)))]) (l3 + (1 : Int32)) 3 [1, 2, 3, 0] 41 rfl (by decide +kernel) rfl (by rw [show Int32.ofInt 1 = (1 : Int32) from by decide +kernel]) (by decide +kernel) rfl ?_
      refine at_goto (off := 153) 194 (by decide +kernel) (by decide +kernel) ?_
      refine at_goto (off := (-192)) 2 (by decide +kernel) (by decide +kernel) ?_
      exact h
    · rw [if_neg c7] at h
      refine at_aload_n (i := 0) 0 28 rfl (by decide +kernel) rfl ?_
      refine at_get (index := 137) (v := va_rf (mR m t 45)) cok12 45 31 rfl (by decide +kernel) k2 (by decide +kernel) tw_1130 rfl ?_
      refine at_iload (i := 4) 4 33 rfl (by decide +kernel) rfl ?_
      obtain ⟨b8, e9, h⟩ := h
      rw [e9]
      obtain ⟨k10, h⟩ := h
      obtain ⟨v11, h⟩ := h
      refine at_iald 34 rfl (by decide +kernel) k10 v11 ?_
      refine at_iload_n (i := 2) 2 35 rfl (by decide +kernel) rfl ?_
      refine at_icmp_le (off := 9) 44 38 rfl (by decide +kernel) (by decide +kernel) (fun c12 => ?_) (fun c12 => ?_)
      · rw [if_pos c12] at h
        refine at_aload_n (i := 0) 0 45 rfl (by decide +kernel) rfl ?_
        refine at_iload_n (i := 1) 1 46 rfl (by decide +kernel) rfl ?_
        refine at_iload_n (i := 3) 3 47 rfl (by decide +kernel) rfl ?_
        refine at_callV mb_RF_pays tw_1489 tw_57 cok12 k2 (index := 404) tw_1487 [.int (l1), .int (l3)] [] rfl rfl (by decide) 50 rfl (by decide +kernel) (Call.toI (CI.monoE h (fun x13 m14 h y15 => ?_)))
        have k16 : mK m14 t = 13 := y15.k k2 (by decide)
        have k17 : mK m14 b3 = 15 := y15.k k5 (by decide)
        have k18 : mK m14 b8 = 15 := y15.k k10 (by decide)
        refine at_if_ne (off := 144) 194 53 rfl (by decide +kernel) (by decide +kernel) (fun c19 => ?_) (fun c19 => ?_)
        · rw [if_neg c19] at h
          refine at_goto (off := (-192)) 2 (by decide +kernel) (by decide +kernel) ?_
          exact At.sub [0, 1, 2, 3] rfl h
        · rw [if_pos c19] at h
          refine at_aload_n (i := 0) 0 54 rfl (by decide +kernel) rfl ?_
          refine at_dup 55 rfl (by decide +kernel) (va_rf_cat _) ?_
          refine at_get (index := 407) (v := .int (mI m14 t 47)) cok12 47 58 rfl (by decide +kernel) k16 (by decide +kernel) tw_1132 rfl ?_
          refine at_iconst (n := 1) (1 : Int32) 59 rfl (by decide +kernel) (by decide +kernel) ?_
          refine at_iadd 60 rfl (by decide +kernel) ?_
          refine at_putI (index := 407) cok12 47 63 rfl (by decide +kernel) k16 (by decide +kernel) tw_1132 rfl rfl rfl (fun m20 e21 => ?_)
          replace h := h m20 e21
          have k22 : mK m20 t = 13 := by rw [e21]; exact k16
          have k23 : mK m20 b3 = 15 := by rw [e21]; exact k17
          have k24 : mK m20 b8 = 15 := by rw [e21]; exact k18
          refine at_aload_n (i := 0) 0 64 rfl (by decide +kernel) rfl ?_
          refine at_get (index := 140) (v := va_rf (mR m20 t 46)) cok12 46 67 rfl (by decide +kernel) k22 (by decide +kernel) tw_1131 rfl ?_
          refine at_iload (i := 4) 4 69 rfl (by decide +kernel) rfl ?_
          obtain ⟨b25, e26, h⟩ := h
          rw [e26]
          obtain ⟨k27, h⟩ := h
          obtain ⟨v28, h⟩ := h
          refine at_lald 70 rfl (by decide +kernel) k27 v28 ?_
          refine at_aload_n (i := 0) 0 71 rfl (by decide +kernel) rfl ?_
          refine at_get (index := 98) (v := va_rf (mR m20 t 32)) cok12 32 74 rfl (by decide +kernel) k22 (by decide +kernel) tw_1117 rfl ?_
          refine at_iconst (n := 0) (0 : Int32) 75 rfl (by decide +kernel) (by decide +kernel) ?_
          obtain ⟨b29, e30, h⟩ := h
          rw [e30]
          obtain ⟨k31, h⟩ := h
          obtain ⟨v32, h⟩ := h
          refine at_iald 76 rfl (by decide +kernel) k31 v32 ?_
          refine at_i2l 77 rfl (by decide +kernel) ?_
          refine at_ladd 78 rfl (by decide +kernel) ?_
          refine at_lconst (n := 1) (1 : Int64) 79 rfl (by decide +kernel) (by decide +kernel) ?_
          refine at_lsub 80 rfl (by decide +kernel) ?_
          refine at_aload_n (i := 0) 0 81 rfl (by decide +kernel) rfl ?_
          refine at_get (index := 98) (v := va_rf (mR m20 t 32)) cok12 32 84 rfl (by decide +kernel) k22 (by decide +kernel) tw_1117 rfl ?_
          rw [e30]
          refine at_iconst (n := 0) (0 : Int32) 85 rfl (by decide +kernel) (by decide +kernel) ?_
          obtain ⟨v33, h⟩ := h
          refine at_iald 86 rfl (by decide +kernel) k31 v33 ?_
          refine at_i2l 87 rfl (by decide +kernel) ?_
          obtain ⟨c34, h⟩ := h
          refine at_ldiv 88 rfl (by decide +kernel) c34 ?_
          refine at_lstore (i := 5) (lc' := [(0, va_rf (some t)), (1, .int (l1)), (2, .int (l2)), (3, .int (l3)), (4, .int ((((2 : Int32) * l1) + l3) - (1 : Int32))), (5, .long ((((mL m20 b25 ((((2 : Int32) * l1) + l3) - (1 : Int32)).toNatClampNeg) + ((mI m20 b29 (0 : Int32).toNatClampNeg).toInt64)) - (1 : Int64)) / ((mI m20 b29 (0 : Int32).toNatClampNeg).toInt64)))]) [1, 2, 3, 4, 5, 0] 90 rfl (by decide +kernel) (by decide +kernel) rfl ?_
          refine at_bipush (n := 12) (12 : Int32) 92 rfl (by decide +kernel) (by decide +kernel) ?_
          refine at_aload_n (i := 0) 0 93 rfl (by decide +kernel) rfl ?_
          refine at_get (index := 134) (v := va_rf (mR m20 t 44)) cok12 44 96 rfl (by decide +kernel) k22 (by decide +kernel) tw_1129 rfl ?_
          refine at_iload (i := 4) 4 98 rfl (by decide +kernel) rfl ?_
          obtain ⟨b35, e36, h⟩ := h
          rw [e36]
          obtain ⟨k37, h⟩ := h
          obtain ⟨v38, h⟩ := h
          refine at_iald 99 rfl (by decide +kernel) k37 v38 ?_
          refine at_iadd 100 rfl (by decide +kernel) ?_
          refine at_istore (i := 7) (lc' := [(0, va_rf (some t)), (1, .int (l1)), (2, .int (l2)), (3, .int (l3)), (5, .long ((((mL m20 b25 ((((2 : Int32) * l1) + l3) - (1 : Int32)).toNatClampNeg) + ((mI m20 b29 (0 : Int32).toNatClampNeg).toInt64)) - (1 : Int64)) / ((mI m20 b29 (0 : Int32).toNatClampNeg).toInt64))), (7, .int ((12 : Int32) + (mI m20 b35 ((((2 : Int32) * l1) + l3) - (1 : Int32)).toNatClampNeg)))]) [1, 2, 3, 4, 6, 0] 102 rfl (by decide +kernel) (by decide +kernel) rfl ?_
          refine at_lload (i := 5) 4 104 rfl (by decide +kernel) rfl ?_
          refine at_aload_n (i := 0) 0 105 rfl (by decide +kernel) rfl ?_
          refine at_get (index := 125) (v := va_rf (mR m20 t 41)) cok12 41 108 rfl (by decide +kernel) k22 (by decide +kernel) tw_1126 rfl ?_
          refine at_iload_n (i := 1) 1 109 rfl (by decide +kernel) rfl ?_
          obtain ⟨b39, e40, h⟩ := h
          rw [e40]
          obtain ⟨k41, h⟩ := h
          obtain ⟨v42, h⟩ := h
          refine at_iald 110 rfl (by decide +kernel) k41 v42 ?_
          refine at_i2l 111 rfl (by decide +kernel) ?_
          refine at_lif_ge (off := 15) 112 127 115 rfl rfl (by decide +kernel) (by decide +kernel) (by decide +kernel) (fun c43 => ?_) (fun c43 => ?_)
          · rw [if_pos c43] at h
            exact At.sub [0, 1, 2, 3, 5] rfl h
          · rw [if_neg c43] at h
            refine at_aload_n (i := 0) 0 116 rfl (by decide +kernel) rfl ?_
            refine at_get (index := 101) (v := va_rf (mR m20 t 33)) cok12 33 119 rfl (by decide +kernel) k22 (by decide +kernel) tw_1118 rfl ?_
            refine at_iconst (n := 0) (0 : Int32) 120 rfl (by decide +kernel) (by decide +kernel) ?_
            obtain ⟨b44, e45, h⟩ := h
            rw [e45]
            obtain ⟨k46, h⟩ := h
            obtain ⟨v47, h⟩ := h
            refine at_iald 121 rfl (by decide +kernel) k46 v47 ?_
            refine at_sipush (n := 400) (400 : Int32) 124 rfl (by decide +kernel) (by decide +kernel) ?_
            refine at_icmp_ne (off := 34) 158 127 rfl (by decide +kernel) (by decide +kernel) (fun c48 => ?_) (fun c48 => ?_)
            · rw [if_neg c48] at h
              refine at_aload_n (i := 0) 0 159 rfl (by decide +kernel) rfl ?_
              refine at_get (index := 125) (v := va_rf (mR m20 t 41)) cok12 41 162 rfl (by decide +kernel) k22 (by decide +kernel) tw_1126 rfl ?_
              rw [e40]
              refine at_iload_n (i := 1) 1 163 rfl (by decide +kernel) rfl ?_
              refine at_dup2_11 164 rfl (by decide +kernel) rfl (va_rf_cat _) ?_
              obtain ⟨v49, h⟩ := h
              refine at_iald 165 rfl (by decide +kernel) k41 v49 ?_
              refine at_lload (i := 5) 4 167 rfl (by decide +kernel) rfl ?_
              refine at_l2i 168 rfl (by decide +kernel) ?_
              refine at_isub 169 rfl (by decide +kernel) ?_
              obtain ⟨v50, h⟩ := h
              refine at_iast 170 rfl (by decide +kernel) k41 v50 (fun m51 e52 => ?_)
              replace h := h m51 e52
              have k53 : mK m51 t = 13 := by rw [e52]; exact k22
              have k54 : mK m51 b3 = 15 := by rw [e52]; exact k23
              have k55 : mK m51 b8 = 15 := by rw [e52]; exact k24
              have k56 : mK m51 b25 = 16 := by rw [e52]; exact k27
              have k57 : mK m51 b29 = 15 := by rw [e52]; exact k31
              have k58 : mK m51 b35 = 15 := by rw [e52]; exact k37
              have k59 : mK m51 b39 = 15 := by rw [e52]; exact k41
              have k60 : mK m51 b44 = 15 := by rw [e52]; exact k46
              refine at_aload_n (i := 0) 0 171 rfl (by decide +kernel) rfl ?_
              refine at_iconst (n := 0) (0 : Int32) 172 rfl (by decide +kernel) (by decide +kernel) ?_
              refine at_iload (i := 7) 5 174 rfl (by decide +kernel) rfl ?_
              refine at_lload (i := 5) 4 176 rfl (by decide +kernel) rfl ?_
              refine at_l2i 177 rfl (by decide +kernel) ?_
              refine at_aload_n (i := 0) 0 178 rfl (by decide +kernel) rfl ?_
              refine at_get (index := 128) (v := va_rf (mR m51 t 42)) cok12 42 181 rfl (by decide +kernel) k53 (by decide +kernel) tw_1127 rfl ?_
              refine at_iload_n (i := 1) 1 182 rfl (by decide +kernel) rfl ?_
              obtain ⟨b61, e62, h⟩ := h
              rw [e62]
              obtain ⟨k63, h⟩ := h
              obtain ⟨v64, h⟩ := h
              refine at_iald 183 rfl (by decide +kernel) k63 v64 ?_
              refine at_callV mb_RF_receipt_IIII tw_1457 tw_49 cok12 k53 (index := 351) tw_1455 [.int ((0 : Int32)), .int ((12 : Int32) + (mI m20 b35 ((((2 : Int32) * l1) + l3) - (1 : Int32)).toNatClampNeg)), .int (((((mL m20 b25 ((((2 : Int32) * l1) + l3) - (1 : Int32)).toNatClampNeg) + ((mI m20 b29 (0 : Int32).toNatClampNeg).toInt64)) - (1 : Int64)) / ((mI m20 b29 (0 : Int32).toNatClampNeg).toInt64)).toInt32), .int (mI m51 b61 l1.toNatClampNeg)] [] rfl rfl (by decide) 186 rfl (by decide +kernel) (Call.toI (CI.monoE h (fun x65 m66 h y67 => ?_)))
              have k68 : mK m66 t = 13 := y67.k k53 (by decide)
              have k69 : mK m66 b3 = 15 := y67.k k54 (by decide)
              have k70 : mK m66 b8 = 15 := y67.k k55 (by decide)
              have k71 : mK m66 b25 = 16 := y67.k k56 (by decide)
              have k72 : mK m66 b29 = 15 := y67.k k57 (by decide)
              have k73 : mK m66 b35 = 15 := y67.k k58 (by decide)
              have k74 : mK m66 b39 = 15 := y67.k k59 (by decide)
              have k75 : mK m66 b44 = 15 := y67.k k60 (by decide)
              have k76 : mK m66 b61 = 15 := y67.k k63 (by decide)
              refine at_istore (i := 8) (lc' := [(0, va_rf (some t)), (1, .int (l1)), (2, .int (l2)), (3, .int (l3)), (8, .int (x65))]) [1, 2, 3, 4, 0] 188 rfl (by decide +kernel) (by decide +kernel) rfl ?_
              refine at_aload_n (i := 0) 0 189 rfl (by decide +kernel) rfl ?_
              refine at_iload_n (i := 1) 1 190 rfl (by decide +kernel) rfl ?_
              refine at_iload_n (i := 3) 3 191 rfl (by decide +kernel) rfl ?_
              refine at_callV mb_RF_ends tw_1493 tw_58 cok12 k68 (index := 397) tw_1491 [.int (l1), .int (l3)] [] rfl rfl (by decide) 194 rfl (by decide +kernel) (Call.toV (CV.monoE h (fun m77 h y78 => ?_)))
              have k79 : mK m77 t = 13 := y78.k k68 (by decide)
              have k80 : mK m77 b3 = 15 := y78.k k69 (by decide)
              have k81 : mK m77 b8 = 15 := y78.k k70 (by decide)
              have k82 : mK m77 b25 = 16 := y78.k k71 (by decide)
              have k83 : mK m77 b29 = 15 := y78.k k72 (by decide)
              have k84 : mK m77 b35 = 15 := y78.k k73 (by decide)
              have k85 : mK m77 b39 = 15 := y78.k k74 (by decide)
              have k86 : mK m77 b44 = 15 := y78.k k75 (by decide)
              have k87 : mK m77 b61 = 15 := y78.k k76 (by decide)
              refine at_goto (off := (-192)) 2 (by decide +kernel) (by decide +kernel) ?_
              exact At.sub [0, 1, 2, 3] rfl h
            · rw [if_pos c48] at h
              exact At.sub [0, 1, 2, 3, 5] rfl h
      · rw [if_neg c12] at h
        refine at_iinc (i := 3) (n := 1) (lc' := [(0, va_rf (some t)), (1, .int (l1)), (2, .int (l2)), (3, .int (l3 + (1 : Int32)))]) (l3 + (1 : Int32)) 3 [1, 2, 3, 0] 41 rfl (by decide +kernel) rfl (by rw [show Int32.ofInt 1 = (1 : Int32) from by decide +kernel]) (by decide +kernel) rfl ?_
        refine at_goto (off := 153) 194 (by decide +kernel) (by decide +kernel) ?_
        refine at_goto (off := (-192)) 2 (by decide +kernel) (by decide +kernel) ?_
        exact h
set_option maxRecDepth 20000 in
set_option maxHeartbeats 4000000 in
theorem en_RF_dues (g : Gc) {lv : Nat} {t : Nat} {l1 : Int32} {l2 : Int32} {m : Mm} {Q : Mm → Prop} (h : At g M_RF_dues (lv + 1) 2 [(0, va_rf (some t)), (1, .int (l1)), (2, .int (l2)), (3, .int ((1 : Int32)))] [] m (QV Q)) : CV g M_RF_dues (lv + 1) [va_rf (some t), .int (l1), .int (l2)] m Q := by
  refine Call.of (by decide +kernel) (Nat.le_of_ble_eq_true rfl) ?_
  show At g M_RF_dues (lv + 1) 0 [(0, va_rf (some t)), (1, .int (l1)), (2, .int (l2))] [] m (QV Q)
  refine at_iconst (n := 1) (1 : Int32) 1 rfl (by decide +kernel) (by decide +kernel) ?_
  refine at_istore_n (i := 3) (lc' := [(0, va_rf (some t)), (1, .int (l1)), (2, .int (l2)), (3, .int ((1 : Int32)))]) [1, 2, 3, 0] 2 rfl (by decide +kernel) (by decide +kernel) rfl ?_
  exact h
set_option maxRecDepth 20000 in
set_option maxHeartbeats 4000000 in
theorem en_RF_redeem (g : Gc) {lv : Nat} {t : Nat} {l1 : Int32} {m : Mm} {Q : Int32 → Mm → Prop} (h : mK m t = 13 ∧ (∀ m2, m2 = sI m t 0 (0 : Int32) → (CI g M_RF_isFull lv [va_rf (some t), .int (l1)] m2 (fun x5 m6 => (if (x5) = 0 then (Q (-2 : Int32) m6) else (∃ b10, mR m6 t 40 = some b10 ∧ (mK m6 b10 = 15 ∧ (vp_in l1 (mN m6 b10) ∧ (if (mI m6 b10 l1.toNatClampNeg) < ((12 : Int32)) then (CI g M_RF_isPledged lv [va_rf (some t), .int (l1)] m6 (fun x15 m16 => (if (x15) = 0 then (∃ b21, mR m16 t 31 = some b21 ∧ (mK m16 b21 = 15 ∧ (vp_in (0 : Int32) (mN m16 b21) ∧ (∃ b25, mR m16 t 42 = some b25 ∧ (mK m16 b25 = 15 ∧ (vp_in l1 (mN m16 b25) ∧ (if ((3 : Int32)) ≤ ((mI m16 b21 (0 : Int32).toNatClampNeg) - (mI m16 b25 l1.toNatClampNeg)) then (∃ b30, mR m16 t 41 = some b30 ∧ (mK m16 b30 = 15 ∧ (vp_in l1 (mN m16 b30) ∧ (∃ b34, mR m16 t 40 = some b34 ∧ (mK m16 b34 = 15 ∧ (vp_in l1 (mN m16 b34) ∧ (∃ b38, mR m16 t 37 = some b38 ∧ (mK m16 b38 = 15 ∧ (vp_in (mI m16 b34 l1.toNatClampNeg) (mN m16 b38) ∧ (vp_in (mI m16 b34 l1.toNatClampNeg) (mN m16 b38) ∧ (∀ m43, m43 = sI m16 b38 (mI m16 b34 l1.toNatClampNeg).toNatClampNeg ((mI m16 b38 (mI m16 b34 l1.toNatClampNeg).toNatClampNeg) + (mI m16 b30 l1.toNatClampNeg)) → (∃ b52, mR m43 t 41 = some b52 ∧ (mK m43 b52 = 15 ∧ (vp_in l1 (mN m43 b52) ∧ (∀ m56, m56 = sI m43 b52 l1.toNatClampNeg (0 : Int32) → (∃ b66, mR m56 t 43 = some b66 ∧ (mK m56 b66 = 16 ∧ (vp_in (7 : Int32) (mN m56 b66) ∧ (vp_in (7 : Int32) (mN m56 b66) ∧ (∀ m71, m71 = sL m56 b66 (7 : Int32).toNatClampNeg ((mL m56 b66 (7 : Int32).toNatClampNeg) + ((mI m16 b30 l1.toNatClampNeg).toInt64)) → (Q (mI m16 b30 l1.toNatClampNeg) m71))))))))))))))))))))) else (Q (-9 : Int32) m16)))))))) else (Q (-7 : Int32) m16)))) else (Q (-2 : Int32) m6)))))))))) : CI g M_RF_redeem (lv + 1) [va_rf (some t), .int (l1)] m Q := by
  refine Call.of (by decide +kernel) (Nat.le_of_ble_eq_true rfl) ?_
  show At g M_RF_redeem (lv + 1) 0 [(0, va_rf (some t)), (1, .int (l1))] [] m (QI Q)
  refine at_aload_n (i := 0) 0 1 rfl (by decide +kernel) rfl ?_
  refine at_iconst (n := 0) (0 : Int32) 2 rfl (by decide +kernel) (by decide +kernel) ?_
  obtain ⟨k1, h⟩ := h
  refine at_putI (index := 149) cok12 0 5 rfl (by decide +kernel) k1 (by decide +kernel) tw_1085 rfl rfl rfl (fun m2 e3 => ?_)
  replace h := h m2 e3
  have k4 : mK m2 t = 13 := by rw [e3]; exact k1
  refine at_aload_n (i := 0) 0 6 rfl (by decide +kernel) rfl ?_
  refine at_iload_n (i := 1) 1 7 rfl (by decide +kernel) rfl ?_
  refine at_callV mb_RF_isFull tw_1506 tw_59 cok12 k4 (index := 383) tw_1504 [.int (l1)] [] rfl rfl (by decide) 10 rfl (by decide +kernel) (Call.toI (CI.monoE h (fun x5 m6 h y7 => ?_)))
  have k8 : mK m6 t = 13 := y7.k k4 (by decide)
  refine at_if_eq (off := 14) 24 13 rfl (by decide +kernel) (by decide +kernel) (fun c9 => ?_) (fun c9 => ?_)
  · rw [if_pos c9] at h
    refine at_bipush (n := (-2)) (-2 : Int32) 26 rfl (by decide +kernel) (by decide +kernel) ?_
    exact at_iret rfl (by decide +kernel) h
  · rw [if_neg c9] at h
    refine at_aload_n (i := 0) 0 14 rfl (by decide +kernel) rfl ?_
    refine at_get (index := 122) (v := va_rf (mR m6 t 40)) cok12 40 17 rfl (by decide +kernel) k8 (by decide +kernel) tw_1125 rfl ?_
    refine at_iload_n (i := 1) 1 18 rfl (by decide +kernel) rfl ?_
    obtain ⟨b10, e11, h⟩ := h
    rw [e11]
    obtain ⟨k12, h⟩ := h
    obtain ⟨v13, h⟩ := h
    refine at_iald 19 rfl (by decide +kernel) k12 v13 ?_
    refine at_bipush (n := 12) (12 : Int32) 21 rfl (by decide +kernel) (by decide +kernel) ?_
    refine at_icmp_lt (off := 6) 27 24 rfl (by decide +kernel) (by decide +kernel) (fun c14 => ?_) (fun c14 => ?_)
    · rw [if_pos c14] at h
      refine at_aload_n (i := 0) 0 28 rfl (by decide +kernel) rfl ?_
      refine at_iload_n (i := 1) 1 29 rfl (by decide +kernel) rfl ?_
      refine at_callV mb_RF_isPledged tw_1510 tw_60 cok12 k8 (index := 386) tw_1508 [.int (l1)] [] rfl rfl (by decide) 32 rfl (by decide +kernel) (Call.toI (CI.monoE h (fun x15 m16 h y17 => ?_)))
      have k18 : mK m16 t = 13 := y17.k k8 (by decide)
      have k19 : mK m16 b10 = 15 := y17.k k12 (by decide)
      refine at_if_eq (off := 6) 38 35 rfl (by decide +kernel) (by decide +kernel) (fun c20 => ?_) (fun c20 => ?_)
      · rw [if_pos c20] at h
        refine at_aload_n (i := 0) 0 39 rfl (by decide +kernel) rfl ?_
        refine at_get (index := 95) (v := va_rf (mR m16 t 31)) cok12 31 42 rfl (by decide +kernel) k18 (by decide +kernel) tw_1116 rfl ?_
        refine at_iconst (n := 0) (0 : Int32) 43 rfl (by decide +kernel) (by decide +kernel) ?_
        obtain ⟨b21, e22, h⟩ := h
        rw [e22]
        obtain ⟨k23, h⟩ := h
        obtain ⟨v24, h⟩ := h
        refine at_iald 44 rfl (by decide +kernel) k23 v24 ?_
        refine at_aload_n (i := 0) 0 45 rfl (by decide +kernel) rfl ?_
        refine at_get (index := 128) (v := va_rf (mR m16 t 42)) cok12 42 48 rfl (by decide +kernel) k18 (by decide +kernel) tw_1127 rfl ?_
        refine at_iload_n (i := 1) 1 49 rfl (by decide +kernel) rfl ?_
        obtain ⟨b25, e26, h⟩ := h
        rw [e26]
        obtain ⟨k27, h⟩ := h
        obtain ⟨v28, h⟩ := h
        refine at_iald 50 rfl (by decide +kernel) k27 v28 ?_
        refine at_isub 51 rfl (by decide +kernel) ?_
        refine at_iconst (n := 3) (3 : Int32) 52 rfl (by decide +kernel) (by decide +kernel) ?_
        refine at_icmp_ge (off := 6) 58 55 rfl (by decide +kernel) (by decide +kernel) (fun c29 => ?_) (fun c29 => ?_)
        · rw [if_pos c29] at h
          refine at_aload_n (i := 0) 0 59 rfl (by decide +kernel) rfl ?_
          refine at_get (index := 125) (v := va_rf (mR m16 t 41)) cok12 41 62 rfl (by decide +kernel) k18 (by decide +kernel) tw_1126 rfl ?_
          refine at_iload_n (i := 1) 1 63 rfl (by decide +kernel) rfl ?_
          obtain ⟨b30, e31, h⟩ := h
          rw [e31]
          obtain ⟨k32, h⟩ := h
          obtain ⟨v33, h⟩ := h
          refine at_iald 64 rfl (by decide +kernel) k32 v33 ?_
          refine at_istore_n (i := 2) (lc' := [(0, va_rf (some t)), (1, .int (l1)), (2, .int (mI m16 b30 l1.toNatClampNeg))]) [1, 2, 0] 65 rfl (by decide +kernel) (by decide +kernel) rfl ?_
          refine at_aload_n (i := 0) 0 66 rfl (by decide +kernel) rfl ?_
          refine at_get (index := 113) (v := va_rf (mR m16 t 37)) cok12 37 69 rfl (by decide +kernel) k18 (by decide +kernel) tw_1122 rfl ?_
          refine at_aload_n (i := 0) 0 70 rfl (by decide +kernel) rfl ?_
          refine at_get (index := 122) (v := va_rf (mR m16 t 40)) cok12 40 73 rfl (by decide +kernel) k18 (by decide +kernel) tw_1125 rfl ?_
          refine at_iload_n (i := 1) 1 74 rfl (by decide +kernel) rfl ?_
          obtain ⟨b34, e35, h⟩ := h
          rw [e35]
          obtain ⟨k36, h⟩ := h
          obtain ⟨v37, h⟩ := h
          refine at_iald 75 rfl (by decide +kernel) k36 v37 ?_
          refine at_dup2_11 76 rfl (by decide +kernel) rfl (va_rf_cat _) ?_
          obtain ⟨b38, e39, h⟩ := h
          rw [e39]
          obtain ⟨k40, h⟩ := h
          obtain ⟨v41, h⟩ := h
          refine at_iald 77 rfl (by decide +kernel) k40 v41 ?_
          refine at_iload_n (i := 2) 2 78 rfl (by decide +kernel) rfl ?_
          refine at_iadd 79 rfl (by decide +kernel) ?_
          obtain ⟨v42, h⟩ := h
          refine at_iast 80 rfl (by decide +kernel) k40 v42 (fun m43 e44 => ?_)
          replace h := h m43 e44
          have k45 : mK m43 t = 13 := by rw [e44]; exact k18
          have k46 : mK m43 b10 = 15 := by rw [e44]; exact k19
          have k47 : mK m43 b21 = 15 := by rw [e44]; exact k23
          have k48 : mK m43 b25 = 15 := by rw [e44]; exact k27
          have k49 : mK m43 b30 = 15 := by rw [e44]; exact k32
          have k50 : mK m43 b34 = 15 := by rw [e44]; exact k36
          have k51 : mK m43 b38 = 15 := by rw [e44]; exact k40
          refine at_aload_n (i := 0) 0 81 rfl (by decide +kernel) rfl ?_
          refine at_get (index := 125) (v := va_rf (mR m43 t 41)) cok12 41 84 rfl (by decide +kernel) k45 (by decide +kernel) tw_1126 rfl ?_
          refine at_iload_n (i := 1) 1 85 rfl (by decide +kernel) rfl ?_
          refine at_iconst (n := 0) (0 : Int32) 86 rfl (by decide +kernel) (by decide +kernel) ?_
          obtain ⟨b52, e53, h⟩ := h
          rw [e53]
          obtain ⟨k54, h⟩ := h
          obtain ⟨v55, h⟩ := h
          refine at_iast 87 rfl (by decide +kernel) k54 v55 (fun m56 e57 => ?_)
          replace h := h m56 e57
          have k58 : mK m56 t = 13 := by rw [e57]; exact k45
          have k59 : mK m56 b10 = 15 := by rw [e57]; exact k46
          have k60 : mK m56 b21 = 15 := by rw [e57]; exact k47
          have k61 : mK m56 b25 = 15 := by rw [e57]; exact k48
          have k62 : mK m56 b30 = 15 := by rw [e57]; exact k49
          have k63 : mK m56 b34 = 15 := by rw [e57]; exact k50
          have k64 : mK m56 b38 = 15 := by rw [e57]; exact k51
          have k65 : mK m56 b52 = 15 := by rw [e57]; exact k54
          refine at_aload_n (i := 0) 0 88 rfl (by decide +kernel) rfl ?_
          refine at_get (index := 131) (v := va_rf (mR m56 t 43)) cok12 43 91 rfl (by decide +kernel) k58 (by decide +kernel) tw_1128 rfl ?_
          refine at_bipush (n := 7) (7 : Int32) 93 rfl (by decide +kernel) (by decide +kernel) ?_
          refine at_dup2_11 94 rfl (by decide +kernel) rfl (va_rf_cat _) ?_
          obtain ⟨b66, e67, h⟩ := h
          rw [e67]
          obtain ⟨k68, h⟩ := h
          obtain ⟨v69, h⟩ := h
          refine at_lald 95 rfl (by decide +kernel) k68 v69 ?_
          refine at_iload_n (i := 2) 2 96 rfl (by decide +kernel) rfl ?_
          refine at_i2l 97 rfl (by decide +kernel) ?_
          refine at_ladd 98 rfl (by decide +kernel) ?_
          obtain ⟨v70, h⟩ := h
          refine at_last 99 rfl (by decide +kernel) k68 v70 (fun m71 e72 => ?_)
          replace h := h m71 e72
          have k73 : mK m71 t = 13 := by rw [e72]; exact k58
          have k74 : mK m71 b10 = 15 := by rw [e72]; exact k59
          have k75 : mK m71 b21 = 15 := by rw [e72]; exact k60
          have k76 : mK m71 b25 = 15 := by rw [e72]; exact k61
          have k77 : mK m71 b30 = 15 := by rw [e72]; exact k62
          have k78 : mK m71 b34 = 15 := by rw [e72]; exact k63
          have k79 : mK m71 b38 = 15 := by rw [e72]; exact k64
          have k80 : mK m71 b52 = 15 := by rw [e72]; exact k65
          have k81 : mK m71 b66 = 16 := by rw [e72]; exact k68
          refine at_iload_n (i := 2) 2 100 rfl (by decide +kernel) rfl ?_
          exact at_iret rfl (by decide +kernel) h
        · rw [if_neg c29] at h
          refine at_bipush (n := (-9)) (-9 : Int32) 57 rfl (by decide +kernel) (by decide +kernel) ?_
          exact at_iret rfl (by decide +kernel) h
      · rw [if_neg c20] at h
        refine at_bipush (n := (-7)) (-7 : Int32) 37 rfl (by decide +kernel) (by decide +kernel) ?_
        exact at_iret rfl (by decide +kernel) h
    · rw [if_neg c14] at h
      refine at_bipush (n := (-2)) (-2 : Int32) 26 rfl (by decide +kernel) (by decide +kernel) ?_
      exact at_iret rfl (by decide +kernel) h
set_option maxRecDepth 20000 in
set_option maxHeartbeats 4000000 in
theorem en_RF_receipt_II (g : Gc) {lv : Nat} {t : Nat} {l1 : Int32} {l2 : Int32} {m : Mm} {Q : Int32 → Mm → Prop} (h : mK m t = 13 ∧ (∀ m2, m2 = sI m t 0 (0 : Int32) → (∃ b5, mR m2 t 33 = some b5 ∧ (mK m2 b5 = 15 ∧ (vp_in (0 : Int32) (mN m2 b5) ∧ (CI g M_RF_in lv [.long (l1.toInt64), .long ((0 : Int64)), .long (((mI m2 b5 (0 : Int32).toNatClampNeg) - (1 : Int32)).toInt64)] m2 (fun x9 m10 => (if (x9) = 0 then (Q (-2 : Int32) m10) else (if l2 = (0 : Int32) then (∃ b17, mR m10 t 40 = some b17 ∧ (mK m10 b17 = 15 ∧ (vp_in l1 (mN m10 b17) ∧ (Q (mI m10 b17 l1.toNatClampNeg) m10)))) else (if l2 = (1 : Int32) then (∃ b22, mR m10 t 41 = some b22 ∧ (mK m10 b22 = 15 ∧ (vp_in l1 (mN m10 b22) ∧ (Q (mI m10 b22 l1.toNatClampNeg) m10)))) else (if l2 = (2 : Int32) then (∃ b27, mR m10 t 42 = some b27 ∧ (mK m10 b27 = 15 ∧ (vp_in l1 (mN m10 b27) ∧ (Q (mI m10 b27 l1.toNatClampNeg) m10)))) else (if l2 = (3 : Int32) then (∃ b32, mR m10 t 44 = some b32 ∧ (mK m10 b32 = 15 ∧ (vp_in ((2 : Int32) * l1) (mN m10 b32) ∧ (Q (mI m10 b32 ((2 : Int32) * l1).toNatClampNeg) m10)))) else (if l2 = (4 : Int32) then (∃ b37, mR m10 t 44 = some b37 ∧ (mK m10 b37 = 15 ∧ (vp_in (((2 : Int32) * l1) + (1 : Int32)) (mN m10 b37) ∧ (Q (mI m10 b37 (((2 : Int32) * l1) + (1 : Int32)).toNatClampNeg) m10)))) else (if l2 = (5 : Int32) then (∃ b42, mR m10 t 44 = some b42 ∧ (mK m10 b42 = 15 ∧ (vp_in ((2 : Int32) * l1) (mN m10 b42) ∧ (if (mI m10 b42 ((2 : Int32) * l1).toNatClampNeg) = ((-1 : Int32)) then (Q (-1 : Int32) m10) else (∃ b47, mR m10 t 45 = some b47 ∧ (mK m10 b47 = 15 ∧ (vp_in ((2 : Int32) * l1) (mN m10 b47) ∧ (Q (mI m10 b47 ((2 : Int32) * l1).toNatClampNeg) m10)))))))) else (if l2 = (6 : Int32) then (∃ b52, mR m10 t 44 = some b52 ∧ (mK m10 b52 = 15 ∧ (vp_in (((2 : Int32) * l1) + (1 : Int32)) (mN m10 b52) ∧ (if (mI m10 b52 (((2 : Int32) * l1) + (1 : Int32)).toNatClampNeg) = ((-1 : Int32)) then (Q (-1 : Int32) m10) else (∃ b57, mR m10 t 45 = some b57 ∧ (mK m10 b57 = 15 ∧ (vp_in (((2 : Int32) * l1) + (1 : Int32)) (mN m10 b57) ∧ (Q (mI m10 b57 (((2 : Int32) * l1) + (1 : Int32)).toNatClampNeg) m10)))))))) else (Q (-2 : Int32) m10)))))))))))))))) : CI g M_RF_receipt_II (lv + 1) [va_rf (some t), .int (l1), .int (l2)] m Q := by
  refine Call.of (by decide +kernel) (Nat.le_of_ble_eq_true rfl) ?_
  show At g M_RF_receipt_II (lv + 1) 0 [(0, va_rf (some t)), (1, .int (l1)), (2, .int (l2))] [] m (QI Q)
  refine at_aload_n (i := 0) 0 1 rfl (by decide +kernel) rfl ?_
  refine at_iconst (n := 0) (0 : Int32) 2 rfl (by decide +kernel) (by decide +kernel) ?_
  obtain ⟨k1, h⟩ := h
  refine at_putI (index := 149) cok12 0 5 rfl (by decide +kernel) k1 (by decide +kernel) tw_1085 rfl rfl rfl (fun m2 e3 => ?_)
  replace h := h m2 e3
  have k4 : mK m2 t = 13 := by rw [e3]; exact k1
  refine at_iload_n (i := 1) 1 6 rfl (by decide +kernel) rfl ?_
  refine at_i2l 7 rfl (by decide +kernel) ?_
  refine at_lconst (n := 0) (0 : Int64) 8 rfl (by decide +kernel) (by decide +kernel) ?_
  refine at_aload_n (i := 0) 0 9 rfl (by decide +kernel) rfl ?_
  refine at_get (index := 101) (v := va_rf (mR m2 t 33)) cok12 33 12 rfl (by decide +kernel) k4 (by decide +kernel) tw_1118 rfl ?_
  refine at_iconst (n := 0) (0 : Int32) 13 rfl (by decide +kernel) (by decide +kernel) ?_
  obtain ⟨b5, e6, h⟩ := h
  rw [e6]
  obtain ⟨k7, h⟩ := h
  obtain ⟨v8, h⟩ := h
  refine at_iald 14 rfl (by decide +kernel) k7 v8 ?_
  refine at_iconst (n := 1) (1 : Int32) 15 rfl (by decide +kernel) (by decide +kernel) ?_
  refine at_isub 16 rfl (by decide +kernel) ?_
  refine at_i2l 17 rfl (by decide +kernel) ?_
  refine at_callS mb_RF_in tw_1293 (index := 154) tw_1292 [.long (l1.toInt64), .long ((0 : Int64)), .long (((mI m2 b5 (0 : Int32).toNatClampNeg) - (1 : Int32)).toInt64)] [] rfl rfl (by decide) 20 rfl (by decide +kernel) (Call.toI (CI.monoE h (fun x9 m10 h y11 => ?_)))
  have k12 : mK m10 t = 13 := y11.k k4 (by decide)
  have k13 : mK m10 b5 = 15 := y11.k k7 (by decide)
  refine at_if_ne (off := 6) 26 23 rfl (by decide +kernel) (by decide +kernel) (fun c14 => ?_) (fun c14 => ?_)
  · rw [if_neg c14] at h
    refine at_iload_n (i := 2) 2 27 rfl (by decide +kernel) rfl ?_
    by_cases c16 : l2 = (0 : Int32)
    · rw [if_pos c16] at h
      have w15 : l2.toInt = 0 := by rw [c16]; decide +kernel
      refine at_tabIn (dflt := 136) (lo := 0) (hi := 6) (offs := #[41, 48, 55, 62, 71, 82, 107]) (len := 41) (off := 41) 68 (by decide +kernel) (by rw [w15]; decide) (by rw [w15]; decide) (by rw [w15]; decide +kernel) (by decide +kernel) ?_
      refine at_aload_n (i := 0) 0 69 rfl (by decide +kernel) rfl ?_
      refine at_get (index := 122) (v := va_rf (mR m10 t 40)) cok12 40 72 rfl (by decide +kernel) k12 (by decide +kernel) tw_1125 rfl ?_
      refine at_iload_n (i := 1) 1 73 rfl (by decide +kernel) rfl ?_
      obtain ⟨b17, e18, h⟩ := h
      rw [e18]
      obtain ⟨k19, h⟩ := h
      obtain ⟨v20, h⟩ := h
      refine at_iald 74 rfl (by decide +kernel) k19 v20 ?_
      exact at_iret rfl (by decide +kernel) h
    rw [if_neg c16] at h
    by_cases c21 : l2 = (1 : Int32)
    · rw [if_pos c21] at h
      have w15 : l2.toInt = 1 := by rw [c21]; decide +kernel
      refine at_tabIn (dflt := 136) (lo := 0) (hi := 6) (offs := #[41, 48, 55, 62, 71, 82, 107]) (len := 41) (off := 48) 75 (by decide +kernel) (by rw [w15]; decide) (by rw [w15]; decide) (by rw [w15]; decide +kernel) (by decide +kernel) ?_
      refine at_aload_n (i := 0) 0 76 rfl (by decide +kernel) rfl ?_
      refine at_get (index := 125) (v := va_rf (mR m10 t 41)) cok12 41 79 rfl (by decide +kernel) k12 (by decide +kernel) tw_1126 rfl ?_
      refine at_iload_n (i := 1) 1 80 rfl (by decide +kernel) rfl ?_
      obtain ⟨b22, e23, h⟩ := h
      rw [e23]
      obtain ⟨k24, h⟩ := h
      obtain ⟨v25, h⟩ := h
      refine at_iald 81 rfl (by decide +kernel) k24 v25 ?_
      exact at_iret rfl (by decide +kernel) h
    rw [if_neg c21] at h
    by_cases c26 : l2 = (2 : Int32)
    · rw [if_pos c26] at h
      have w15 : l2.toInt = 2 := by rw [c26]; decide +kernel
      refine at_tabIn (dflt := 136) (lo := 0) (hi := 6) (offs := #[41, 48, 55, 62, 71, 82, 107]) (len := 41) (off := 55) 82 (by decide +kernel) (by rw [w15]; decide) (by rw [w15]; decide) (by rw [w15]; decide +kernel) (by decide +kernel) ?_
      refine at_aload_n (i := 0) 0 83 rfl (by decide +kernel) rfl ?_
      refine at_get (index := 128) (v := va_rf (mR m10 t 42)) cok12 42 86 rfl (by decide +kernel) k12 (by decide +kernel) tw_1127 rfl ?_
      refine at_iload_n (i := 1) 1 87 rfl (by decide +kernel) rfl ?_
      obtain ⟨b27, e28, h⟩ := h
      rw [e28]
      obtain ⟨k29, h⟩ := h
      obtain ⟨v30, h⟩ := h
      refine at_iald 88 rfl (by decide +kernel) k29 v30 ?_
      exact at_iret rfl (by decide +kernel) h
    rw [if_neg c26] at h
    by_cases c31 : l2 = (3 : Int32)
    · rw [if_pos c31] at h
      have w15 : l2.toInt = 3 := by rw [c31]; decide +kernel
      refine at_tabIn (dflt := 136) (lo := 0) (hi := 6) (offs := #[41, 48, 55, 62, 71, 82, 107]) (len := 41) (off := 62) 89 (by decide +kernel) (by rw [w15]; decide) (by rw [w15]; decide) (by rw [w15]; decide +kernel) (by decide +kernel) ?_
      refine at_aload_n (i := 0) 0 90 rfl (by decide +kernel) rfl ?_
      refine at_get (index := 134) (v := va_rf (mR m10 t 44)) cok12 44 93 rfl (by decide +kernel) k12 (by decide +kernel) tw_1129 rfl ?_
      refine at_iconst (n := 2) (2 : Int32) 94 rfl (by decide +kernel) (by decide +kernel) ?_
      refine at_iload_n (i := 1) 1 95 rfl (by decide +kernel) rfl ?_
      refine at_imul 96 rfl (by decide +kernel) ?_
      obtain ⟨b32, e33, h⟩ := h
      rw [e33]
      obtain ⟨k34, h⟩ := h
      obtain ⟨v35, h⟩ := h
      refine at_iald 97 rfl (by decide +kernel) k34 v35 ?_
      exact at_iret rfl (by decide +kernel) h
    rw [if_neg c31] at h
    by_cases c36 : l2 = (4 : Int32)
    · rw [if_pos c36] at h
      have w15 : l2.toInt = 4 := by rw [c36]; decide +kernel
      refine at_tabIn (dflt := 136) (lo := 0) (hi := 6) (offs := #[41, 48, 55, 62, 71, 82, 107]) (len := 41) (off := 71) 98 (by decide +kernel) (by rw [w15]; decide) (by rw [w15]; decide) (by rw [w15]; decide +kernel) (by decide +kernel) ?_
      refine at_aload_n (i := 0) 0 99 rfl (by decide +kernel) rfl ?_
      refine at_get (index := 134) (v := va_rf (mR m10 t 44)) cok12 44 102 rfl (by decide +kernel) k12 (by decide +kernel) tw_1129 rfl ?_
      refine at_iconst (n := 2) (2 : Int32) 103 rfl (by decide +kernel) (by decide +kernel) ?_
      refine at_iload_n (i := 1) 1 104 rfl (by decide +kernel) rfl ?_
      refine at_imul 105 rfl (by decide +kernel) ?_
      refine at_iconst (n := 1) (1 : Int32) 106 rfl (by decide +kernel) (by decide +kernel) ?_
      refine at_iadd 107 rfl (by decide +kernel) ?_
      obtain ⟨b37, e38, h⟩ := h
      rw [e38]
      obtain ⟨k39, h⟩ := h
      obtain ⟨v40, h⟩ := h
      refine at_iald 108 rfl (by decide +kernel) k39 v40 ?_
      exact at_iret rfl (by decide +kernel) h
    rw [if_neg c36] at h
    by_cases c41 : l2 = (5 : Int32)
    · rw [if_pos c41] at h
      have w15 : l2.toInt = 5 := by rw [c41]; decide +kernel
      refine at_tabIn (dflt := 136) (lo := 0) (hi := 6) (offs := #[41, 48, 55, 62, 71, 82, 107]) (len := 41) (off := 82) 109 (by decide +kernel) (by rw [w15]; decide) (by rw [w15]; decide) (by rw [w15]; decide +kernel) (by decide +kernel) ?_
      refine at_aload_n (i := 0) 0 110 rfl (by decide +kernel) rfl ?_
      refine at_get (index := 134) (v := va_rf (mR m10 t 44)) cok12 44 113 rfl (by decide +kernel) k12 (by decide +kernel) tw_1129 rfl ?_
      refine at_iconst (n := 2) (2 : Int32) 114 rfl (by decide +kernel) (by decide +kernel) ?_
      refine at_iload_n (i := 1) 1 115 rfl (by decide +kernel) rfl ?_
      refine at_imul 116 rfl (by decide +kernel) ?_
      obtain ⟨b42, e43, h⟩ := h
      rw [e43]
      obtain ⟨k44, h⟩ := h
      obtain ⟨v45, h⟩ := h
      refine at_iald 117 rfl (by decide +kernel) k44 v45 ?_
      refine at_iconst (n := (-1)) (-1 : Int32) 118 rfl (by decide +kernel) (by decide +kernel) ?_
      refine at_icmp_ne (off := 7) 125 121 rfl (by decide +kernel) (by decide +kernel) (fun c46 => ?_) (fun c46 => ?_)
      · rw [if_neg c46] at h
        refine at_aload_n (i := 0) 0 126 rfl (by decide +kernel) rfl ?_
        refine at_get (index := 137) (v := va_rf (mR m10 t 45)) cok12 45 129 rfl (by decide +kernel) k12 (by decide +kernel) tw_1130 rfl ?_
        refine at_iconst (n := 2) (2 : Int32) 130 rfl (by decide +kernel) (by decide +kernel) ?_
        refine at_iload_n (i := 1) 1 131 rfl (by decide +kernel) rfl ?_
        refine at_imul 132 rfl (by decide +kernel) ?_
        obtain ⟨b47, e48, h⟩ := h
        rw [e48]
        obtain ⟨k49, h⟩ := h
        obtain ⟨v50, h⟩ := h
        refine at_iald 133 rfl (by decide +kernel) k49 v50 ?_
        exact at_iret rfl (by decide +kernel) h
      · rw [if_pos c46] at h
        refine at_iconst (n := (-1)) (-1 : Int32) 122 rfl (by decide +kernel) (by decide +kernel) ?_
        refine at_goto (off := 11) 133 (by decide +kernel) (by decide +kernel) ?_
        exact at_iret rfl (by decide +kernel) h
    rw [if_neg c41] at h
    by_cases c51 : l2 = (6 : Int32)
    · rw [if_pos c51] at h
      have w15 : l2.toInt = 6 := by rw [c51]; decide +kernel
      refine at_tabIn (dflt := 136) (lo := 0) (hi := 6) (offs := #[41, 48, 55, 62, 71, 82, 107]) (len := 41) (off := 107) 134 (by decide +kernel) (by rw [w15]; decide) (by rw [w15]; decide) (by rw [w15]; decide +kernel) (by decide +kernel) ?_
      refine at_aload_n (i := 0) 0 135 rfl (by decide +kernel) rfl ?_
      refine at_get (index := 134) (v := va_rf (mR m10 t 44)) cok12 44 138 rfl (by decide +kernel) k12 (by decide +kernel) tw_1129 rfl ?_
      refine at_iconst (n := 2) (2 : Int32) 139 rfl (by decide +kernel) (by decide +kernel) ?_
      refine at_iload_n (i := 1) 1 140 rfl (by decide +kernel) rfl ?_
      refine at_imul 141 rfl (by decide +kernel) ?_
      refine at_iconst (n := 1) (1 : Int32) 142 rfl (by decide +kernel) (by decide +kernel) ?_
      refine at_iadd 143 rfl (by decide +kernel) ?_
      obtain ⟨b52, e53, h⟩ := h
      rw [e53]
      obtain ⟨k54, h⟩ := h
      obtain ⟨v55, h⟩ := h
      refine at_iald 144 rfl (by decide +kernel) k54 v55 ?_
      refine at_iconst (n := (-1)) (-1 : Int32) 145 rfl (by decide +kernel) (by decide +kernel) ?_
      refine at_icmp_ne (off := 7) 152 148 rfl (by decide +kernel) (by decide +kernel) (fun c56 => ?_) (fun c56 => ?_)
      · rw [if_neg c56] at h
        refine at_aload_n (i := 0) 0 153 rfl (by decide +kernel) rfl ?_
        refine at_get (index := 137) (v := va_rf (mR m10 t 45)) cok12 45 156 rfl (by decide +kernel) k12 (by decide +kernel) tw_1130 rfl ?_
        refine at_iconst (n := 2) (2 : Int32) 157 rfl (by decide +kernel) (by decide +kernel) ?_
        refine at_iload_n (i := 1) 1 158 rfl (by decide +kernel) rfl ?_
        refine at_imul 159 rfl (by decide +kernel) ?_
        refine at_iconst (n := 1) (1 : Int32) 160 rfl (by decide +kernel) (by decide +kernel) ?_
        refine at_iadd 161 rfl (by decide +kernel) ?_
        obtain ⟨b57, e58, h⟩ := h
        rw [e58]
        obtain ⟨k59, h⟩ := h
        obtain ⟨v60, h⟩ := h
        refine at_iald 162 rfl (by decide +kernel) k59 v60 ?_
        exact at_iret rfl (by decide +kernel) h
      · rw [if_pos c56] at h
        refine at_iconst (n := (-1)) (-1 : Int32) 149 rfl (by decide +kernel) (by decide +kernel) ?_
        refine at_goto (off := 13) 162 (by decide +kernel) (by decide +kernel) ?_
        exact at_iret rfl (by decide +kernel) h
    rw [if_neg c51] at h
    have c16e : l2.toInt ≠ 0 := fun e => c16 (Int32.toInt_inj.mp (e.trans (by decide +kernel)))
    have c21e : l2.toInt ≠ 1 := fun e => c21 (Int32.toInt_inj.mp (e.trans (by decide +kernel)))
    have c26e : l2.toInt ≠ 2 := fun e => c26 (Int32.toInt_inj.mp (e.trans (by decide +kernel)))
    have c31e : l2.toInt ≠ 3 := fun e => c31 (Int32.toInt_inj.mp (e.trans (by decide +kernel)))
    have c36e : l2.toInt ≠ 4 := fun e => c36 (Int32.toInt_inj.mp (e.trans (by decide +kernel)))
    have c41e : l2.toInt ≠ 5 := fun e => c41 (Int32.toInt_inj.mp (e.trans (by decide +kernel)))
    have c51e : l2.toInt ≠ 6 := fun e => c51 (Int32.toInt_inj.mp (e.trans (by decide +kernel)))
    refine at_tabOut (dflt := 136) (lo := 0) (hi := 6) (offs := #[41, 48, 55, 62, 71, 82, 107]) (len := 41) 163 (by decide +kernel) (by omega) (by decide +kernel) ?_
    refine at_bipush (n := (-2)) (-2 : Int32) 165 rfl (by decide +kernel) (by decide +kernel) ?_
    exact at_iret rfl (by decide +kernel) h
  · rw [if_pos c14] at h
    refine at_bipush (n := (-2)) (-2 : Int32) 25 rfl (by decide +kernel) (by decide +kernel) ?_
    exact at_iret rfl (by decide +kernel) h
set_option maxRecDepth 20000 in
set_option maxHeartbeats 4000000 in
theorem en_RF_owed (g : Gc) {lv : Nat} {t : Nat} {l1 : Int32} {l2 : Int32} {m : Mm} {Q : Int64 → Mm → Prop} (h : mK m t = 13 ∧ (∀ m2, m2 = sI m t 0 (0 : Int32) → (CI g M_RF_isLoan lv [va_rf (some t), .int (l1), .int (l2)] m2 (fun x5 m6 => (if (x5) = 0 then (Q (0 : Int64) m6) else (∃ b10, mR m6 t 46 = some b10 ∧ (mK m6 b10 = 16 ∧ (vp_in ((((2 : Int32) * l1) + l2) - (1 : Int32)) (mN m6 b10) ∧ (Q (mL m6 b10 ((((2 : Int32) * l1) + l2) - (1 : Int32)).toNatClampNeg) m6))))))))) : CJ g M_RF_owed (lv + 1) [va_rf (some t), .int (l1), .int (l2)] m Q := by
  refine Call.of (by decide +kernel) (Nat.le_of_ble_eq_true rfl) ?_
  show At g M_RF_owed (lv + 1) 0 [(0, va_rf (some t)), (1, .int (l1)), (2, .int (l2))] [] m (QJ Q)
  refine at_aload_n (i := 0) 0 1 rfl (by decide +kernel) rfl ?_
  refine at_iconst (n := 0) (0 : Int32) 2 rfl (by decide +kernel) (by decide +kernel) ?_
  obtain ⟨k1, h⟩ := h
  refine at_putI (index := 149) cok12 0 5 rfl (by decide +kernel) k1 (by decide +kernel) tw_1085 rfl rfl rfl (fun m2 e3 => ?_)
  replace h := h m2 e3
  have k4 : mK m2 t = 13 := by rw [e3]; exact k1
  refine at_aload_n (i := 0) 0 6 rfl (by decide +kernel) rfl ?_
  refine at_iload_n (i := 1) 1 7 rfl (by decide +kernel) rfl ?_
  refine at_iload_n (i := 2) 2 8 rfl (by decide +kernel) rfl ?_
  refine at_callV mb_RF_isLoan tw_1530 tw_61 cok12 k4 (index := 400) tw_1528 [.int (l1), .int (l2)] [] rfl rfl (by decide) 11 rfl (by decide +kernel) (Call.toI (CI.monoE h (fun x5 m6 h y7 => ?_)))
  have k8 : mK m6 t = 13 := y7.k k4 (by decide)
  refine at_if_eq (off := 18) 29 14 rfl (by decide +kernel) (by decide +kernel) (fun c9 => ?_) (fun c9 => ?_)
  · rw [if_pos c9] at h
    refine at_lconst (n := 0) (0 : Int64) 30 rfl (by decide +kernel) (by decide +kernel) ?_
    exact at_lret rfl (by decide +kernel) h
  · rw [if_neg c9] at h
    refine at_aload_n (i := 0) 0 15 rfl (by decide +kernel) rfl ?_
    refine at_get (index := 140) (v := va_rf (mR m6 t 46)) cok12 46 18 rfl (by decide +kernel) k8 (by decide +kernel) tw_1131 rfl ?_
    refine at_iconst (n := 2) (2 : Int32) 19 rfl (by decide +kernel) (by decide +kernel) ?_
    refine at_iload_n (i := 1) 1 20 rfl (by decide +kernel) rfl ?_
    refine at_imul 21 rfl (by decide +kernel) ?_
    refine at_iload_n (i := 2) 2 22 rfl (by decide +kernel) rfl ?_
    refine at_iadd 23 rfl (by decide +kernel) ?_
    refine at_iconst (n := 1) (1 : Int32) 24 rfl (by decide +kernel) (by decide +kernel) ?_
    refine at_isub 25 rfl (by decide +kernel) ?_
    obtain ⟨b10, e11, h⟩ := h
    rw [e11]
    obtain ⟨k12, h⟩ := h
    obtain ⟨v13, h⟩ := h
    refine at_lald 26 rfl (by decide +kernel) k12 v13 ?_
    refine at_goto (off := 4) 30 (by decide +kernel) (by decide +kernel) ?_
    exact at_lret rfl (by decide +kernel) h
set_option maxRecDepth 20000 in
set_option maxHeartbeats 4000000 in
theorem en_RF_growerOf (g : Gc) {lv : Nat} {t : Nat} {l1 : Int32} {l2 : Int32} {m : Mm} {Q : Int32 → Mm → Prop} (h : mK m t = 13 ∧ (∀ m2, m2 = sI m t 0 (0 : Int32) → (CI g M_RF_isGrower lv [va_rf (some t), .int (l1)] m2 (fun x5 m6 => (if (x5) = 0 then (Q (-1000000 : Int32) m6) else (if l2 = (0 : Int32) then (∃ b12, mR m6 t 20 = some b12 ∧ (mK m6 b12 = 15 ∧ (vp_in l1 (mN m6 b12) ∧ (Q (mI m6 b12 l1.toNatClampNeg) m6)))) else (if l2 = (1 : Int32) then (∃ b17, mR m6 t 35 = some b17 ∧ (mK m6 b17 = 15 ∧ (vp_in l1 (mN m6 b17) ∧ (Q (mI m6 b17 l1.toNatClampNeg) m6)))) else (if l2 = (2 : Int32) then (∃ b22, mR m6 t 36 = some b22 ∧ (mK m6 b22 = 15 ∧ (vp_in ((3 : Int32) * l1) (mN m6 b22) ∧ (Q (mI m6 b22 ((3 : Int32) * l1).toNatClampNeg) m6)))) else (if l2 = (3 : Int32) then (∃ b27, mR m6 t 36 = some b27 ∧ (mK m6 b27 = 15 ∧ (vp_in (((3 : Int32) * l1) + (1 : Int32)) (mN m6 b27) ∧ (Q (mI m6 b27 (((3 : Int32) * l1) + (1 : Int32)).toNatClampNeg) m6)))) else (if l2 = (4 : Int32) then (∃ b32, mR m6 t 36 = some b32 ∧ (mK m6 b32 = 15 ∧ (vp_in (((3 : Int32) * l1) + (2 : Int32)) (mN m6 b32) ∧ (Q (mI m6 b32 (((3 : Int32) * l1) + (2 : Int32)).toNatClampNeg) m6)))) else (if l2 = (5 : Int32) then (∃ b37, mR m6 t 37 = some b37 ∧ (mK m6 b37 = 15 ∧ (vp_in l1 (mN m6 b37) ∧ (Q (mI m6 b37 l1.toNatClampNeg) m6)))) else (if l2 = (6 : Int32) then (∃ b42, mR m6 t 38 = some b42 ∧ (mK m6 b42 = 16 ∧ (vp_in l1 (mN m6 b42) ∧ (Q ((mL m6 b42 l1.toNatClampNeg).toInt32) m6)))) else (if l2 = (7 : Int32) then (∃ b47, mR m6 t 31 = some b47 ∧ (mK m6 b47 = 15 ∧ (vp_in (0 : Int32) (mN m6 b47) ∧ (if (mI m6 b47 (0 : Int32).toNatClampNeg) = 0 then (Q (-1 : Int32) m6) else (vp_in (0 : Int32) (mN m6 b47) ∧ (∃ b53, mR m6 t 24 = some b53 ∧ (mK m6 b53 = 15 ∧ (vp_in (((12 : Int32) * ((mI m6 b47 (0 : Int32).toNatClampNeg) - (1 : Int32))) + l1) (mN m6 b53) ∧ (Q (mI m6 b53 (((12 : Int32) * ((mI m6 b47 (0 : Int32).toNatClampNeg) - (1 : Int32))) + l1).toNatClampNeg) m6))))))))) else (if l2 = (8 : Int32) then (∃ b58, mR m6 t 31 = some b58 ∧ (mK m6 b58 = 15 ∧ (vp_in (0 : Int32) (mN m6 b58) ∧ (if (mI m6 b58 (0 : Int32).toNatClampNeg) = 0 then (Q (-1 : Int32) m6) else (∃ b63, mR m6 t 30 = some b63 ∧ (mK m6 b63 = 15 ∧ (vp_in l1 (mN m6 b63) ∧ (Q (mI m6 b63 l1.toNatClampNeg) m6)))))))) else (Q (-1000000 : Int32) m6))))))))))))))) : CI g M_RF_growerOf (lv + 1) [va_rf (some t), .int (l1), .int (l2)] m Q := by
  refine Call.of (by decide +kernel) (Nat.le_of_ble_eq_true rfl) ?_
  show At g M_RF_growerOf (lv + 1) 0 [(0, va_rf (some t)), (1, .int (l1)), (2, .int (l2))] [] m (QI Q)
  refine at_aload_n (i := 0) 0 1 rfl (by decide +kernel) rfl ?_
  refine at_iconst (n := 0) (0 : Int32) 2 rfl (by decide +kernel) (by decide +kernel) ?_
  obtain ⟨k1, h⟩ := h
  refine at_putI (index := 149) cok12 0 5 rfl (by decide +kernel) k1 (by decide +kernel) tw_1085 rfl rfl rfl (fun m2 e3 => ?_)
  replace h := h m2 e3
  have k4 : mK m2 t = 13 := by rw [e3]; exact k1
  refine at_aload_n (i := 0) 0 6 rfl (by decide +kernel) rfl ?_
  refine at_iload_n (i := 1) 1 7 rfl (by decide +kernel) rfl ?_
  refine at_callV mb_RF_isGrower tw_1430 tw_45 cok12 k4 (index := 336) tw_1428 [.int (l1)] [] rfl rfl (by decide) 10 rfl (by decide +kernel) (Call.toI (CI.monoE h (fun x5 m6 h y7 => ?_)))
  have k8 : mK m6 t = 13 := y7.k k4 (by decide)
  refine at_if_ne (off := 7) 17 13 rfl (by decide +kernel) (by decide +kernel) (fun c9 => ?_) (fun c9 => ?_)
  · rw [if_neg c9] at h
    refine at_iload_n (i := 2) 2 18 rfl (by decide +kernel) rfl ?_
    by_cases c11 : l2 = (0 : Int32)
    · rw [if_pos c11] at h
      have w10 : l2.toInt = 0 := by rw [c11]; decide +kernel
      refine at_tabIn (dflt := 162) (lo := 0) (hi := 8) (offs := #[50, 57, 64, 73, 84, 95, 102, 110, 142]) (len := 50) (off := 50) 68 (by decide +kernel) (by rw [w10]; decide) (by rw [w10]; decide) (by rw [w10]; decide +kernel) (by decide +kernel) ?_
      refine at_aload_n (i := 0) 0 69 rfl (by decide +kernel) rfl ?_
      refine at_get (index := 61) (v := va_rf (mR m6 t 20)) cok12 20 72 rfl (by decide +kernel) k8 (by decide +kernel) tw_1105 rfl ?_
      refine at_iload_n (i := 1) 1 73 rfl (by decide +kernel) rfl ?_
      obtain ⟨b12, e13, h⟩ := h
      rw [e13]
      obtain ⟨k14, h⟩ := h
      obtain ⟨v15, h⟩ := h
      refine at_iald 74 rfl (by decide +kernel) k14 v15 ?_
      exact at_iret rfl (by decide +kernel) h
    rw [if_neg c11] at h
    by_cases c16 : l2 = (1 : Int32)
    · rw [if_pos c16] at h
      have w10 : l2.toInt = 1 := by rw [c16]; decide +kernel
      refine at_tabIn (dflt := 162) (lo := 0) (hi := 8) (offs := #[50, 57, 64, 73, 84, 95, 102, 110, 142]) (len := 50) (off := 57) 75 (by decide +kernel) (by rw [w10]; decide) (by rw [w10]; decide) (by rw [w10]; decide +kernel) (by decide +kernel) ?_
      refine at_aload_n (i := 0) 0 76 rfl (by decide +kernel) rfl ?_
      refine at_get (index := 107) (v := va_rf (mR m6 t 35)) cok12 35 79 rfl (by decide +kernel) k8 (by decide +kernel) tw_1120 rfl ?_
      refine at_iload_n (i := 1) 1 80 rfl (by decide +kernel) rfl ?_
      obtain ⟨b17, e18, h⟩ := h
      rw [e18]
      obtain ⟨k19, h⟩ := h
      obtain ⟨v20, h⟩ := h
      refine at_iald 81 rfl (by decide +kernel) k19 v20 ?_
      exact at_iret rfl (by decide +kernel) h
    rw [if_neg c16] at h
    by_cases c21 : l2 = (2 : Int32)
    · rw [if_pos c21] at h
      have w10 : l2.toInt = 2 := by rw [c21]; decide +kernel
      refine at_tabIn (dflt := 162) (lo := 0) (hi := 8) (offs := #[50, 57, 64, 73, 84, 95, 102, 110, 142]) (len := 50) (off := 64) 82 (by decide +kernel) (by rw [w10]; decide) (by rw [w10]; decide) (by rw [w10]; decide +kernel) (by decide +kernel) ?_
      refine at_aload_n (i := 0) 0 83 rfl (by decide +kernel) rfl ?_
      refine at_get (index := 110) (v := va_rf (mR m6 t 36)) cok12 36 86 rfl (by decide +kernel) k8 (by decide +kernel) tw_1121 rfl ?_
      refine at_iconst (n := 3) (3 : Int32) 87 rfl (by decide +kernel) (by decide +kernel) ?_
      refine at_iload_n (i := 1) 1 88 rfl (by decide +kernel) rfl ?_
      refine at_imul 89 rfl (by decide +kernel) ?_
      obtain ⟨b22, e23, h⟩ := h
      rw [e23]
      obtain ⟨k24, h⟩ := h
      obtain ⟨v25, h⟩ := h
      refine at_iald 90 rfl (by decide +kernel) k24 v25 ?_
      exact at_iret rfl (by decide +kernel) h
    rw [if_neg c21] at h
    by_cases c26 : l2 = (3 : Int32)
    · rw [if_pos c26] at h
      have w10 : l2.toInt = 3 := by rw [c26]; decide +kernel
      refine at_tabIn (dflt := 162) (lo := 0) (hi := 8) (offs := #[50, 57, 64, 73, 84, 95, 102, 110, 142]) (len := 50) (off := 73) 91 (by decide +kernel) (by rw [w10]; decide) (by rw [w10]; decide) (by rw [w10]; decide +kernel) (by decide +kernel) ?_
      refine at_aload_n (i := 0) 0 92 rfl (by decide +kernel) rfl ?_
      refine at_get (index := 110) (v := va_rf (mR m6 t 36)) cok12 36 95 rfl (by decide +kernel) k8 (by decide +kernel) tw_1121 rfl ?_
      refine at_iconst (n := 3) (3 : Int32) 96 rfl (by decide +kernel) (by decide +kernel) ?_
      refine at_iload_n (i := 1) 1 97 rfl (by decide +kernel) rfl ?_
      refine at_imul 98 rfl (by decide +kernel) ?_
      refine at_iconst (n := 1) (1 : Int32) 99 rfl (by decide +kernel) (by decide +kernel) ?_
      refine at_iadd 100 rfl (by decide +kernel) ?_
      obtain ⟨b27, e28, h⟩ := h
      rw [e28]
      obtain ⟨k29, h⟩ := h
      obtain ⟨v30, h⟩ := h
      refine at_iald 101 rfl (by decide +kernel) k29 v30 ?_
      exact at_iret rfl (by decide +kernel) h
    rw [if_neg c26] at h
    by_cases c31 : l2 = (4 : Int32)
    · rw [if_pos c31] at h
      have w10 : l2.toInt = 4 := by rw [c31]; decide +kernel
      refine at_tabIn (dflt := 162) (lo := 0) (hi := 8) (offs := #[50, 57, 64, 73, 84, 95, 102, 110, 142]) (len := 50) (off := 84) 102 (by decide +kernel) (by rw [w10]; decide) (by rw [w10]; decide) (by rw [w10]; decide +kernel) (by decide +kernel) ?_
      refine at_aload_n (i := 0) 0 103 rfl (by decide +kernel) rfl ?_
      refine at_get (index := 110) (v := va_rf (mR m6 t 36)) cok12 36 106 rfl (by decide +kernel) k8 (by decide +kernel) tw_1121 rfl ?_
      refine at_iconst (n := 3) (3 : Int32) 107 rfl (by decide +kernel) (by decide +kernel) ?_
      refine at_iload_n (i := 1) 1 108 rfl (by decide +kernel) rfl ?_
      refine at_imul 109 rfl (by decide +kernel) ?_
      refine at_iconst (n := 2) (2 : Int32) 110 rfl (by decide +kernel) (by decide +kernel) ?_
      refine at_iadd 111 rfl (by decide +kernel) ?_
      obtain ⟨b32, e33, h⟩ := h
      rw [e33]
      obtain ⟨k34, h⟩ := h
      obtain ⟨v35, h⟩ := h
      refine at_iald 112 rfl (by decide +kernel) k34 v35 ?_
      exact at_iret rfl (by decide +kernel) h
    rw [if_neg c31] at h
    by_cases c36 : l2 = (5 : Int32)
    · rw [if_pos c36] at h
      have w10 : l2.toInt = 5 := by rw [c36]; decide +kernel
      refine at_tabIn (dflt := 162) (lo := 0) (hi := 8) (offs := #[50, 57, 64, 73, 84, 95, 102, 110, 142]) (len := 50) (off := 95) 113 (by decide +kernel) (by rw [w10]; decide) (by rw [w10]; decide) (by rw [w10]; decide +kernel) (by decide +kernel) ?_
      refine at_aload_n (i := 0) 0 114 rfl (by decide +kernel) rfl ?_
      refine at_get (index := 113) (v := va_rf (mR m6 t 37)) cok12 37 117 rfl (by decide +kernel) k8 (by decide +kernel) tw_1122 rfl ?_
      refine at_iload_n (i := 1) 1 118 rfl (by decide +kernel) rfl ?_
      obtain ⟨b37, e38, h⟩ := h
      rw [e38]
      obtain ⟨k39, h⟩ := h
      obtain ⟨v40, h⟩ := h
      refine at_iald 119 rfl (by decide +kernel) k39 v40 ?_
      exact at_iret rfl (by decide +kernel) h
    rw [if_neg c36] at h
    by_cases c41 : l2 = (6 : Int32)
    · rw [if_pos c41] at h
      have w10 : l2.toInt = 6 := by rw [c41]; decide +kernel
      refine at_tabIn (dflt := 162) (lo := 0) (hi := 8) (offs := #[50, 57, 64, 73, 84, 95, 102, 110, 142]) (len := 50) (off := 102) 120 (by decide +kernel) (by rw [w10]; decide) (by rw [w10]; decide) (by rw [w10]; decide +kernel) (by decide +kernel) ?_
      refine at_aload_n (i := 0) 0 121 rfl (by decide +kernel) rfl ?_
      refine at_get (index := 116) (v := va_rf (mR m6 t 38)) cok12 38 124 rfl (by decide +kernel) k8 (by decide +kernel) tw_1123 rfl ?_
      refine at_iload_n (i := 1) 1 125 rfl (by decide +kernel) rfl ?_
      obtain ⟨b42, e43, h⟩ := h
      rw [e43]
      obtain ⟨k44, h⟩ := h
      obtain ⟨v45, h⟩ := h
      refine at_lald 126 rfl (by decide +kernel) k44 v45 ?_
      refine at_l2i 127 rfl (by decide +kernel) ?_
      exact at_iret rfl (by decide +kernel) h
    rw [if_neg c41] at h
    by_cases c46 : l2 = (7 : Int32)
    · rw [if_pos c46] at h
      have w10 : l2.toInt = 7 := by rw [c46]; decide +kernel
      refine at_tabIn (dflt := 162) (lo := 0) (hi := 8) (offs := #[50, 57, 64, 73, 84, 95, 102, 110, 142]) (len := 50) (off := 110) 128 (by decide +kernel) (by rw [w10]; decide) (by rw [w10]; decide) (by rw [w10]; decide +kernel) (by decide +kernel) ?_
      refine at_aload_n (i := 0) 0 129 rfl (by decide +kernel) rfl ?_
      refine at_get (index := 95) (v := va_rf (mR m6 t 31)) cok12 31 132 rfl (by decide +kernel) k8 (by decide +kernel) tw_1116 rfl ?_
      refine at_iconst (n := 0) (0 : Int32) 133 rfl (by decide +kernel) (by decide +kernel) ?_
      obtain ⟨b47, e48, h⟩ := h
      rw [e48]
      obtain ⟨k49, h⟩ := h
      obtain ⟨v50, h⟩ := h
      refine at_iald 134 rfl (by decide +kernel) k49 v50 ?_
      refine at_if_ne (off := 7) 141 137 rfl (by decide +kernel) (by decide +kernel) (fun c51 => ?_) (fun c51 => ?_)
      · rw [if_neg c51] at h
        refine at_aload_n (i := 0) 0 142 rfl (by decide +kernel) rfl ?_
        refine at_get (index := 73) (v := va_rf (mR m6 t 24)) cok12 24 145 rfl (by decide +kernel) k8 (by decide +kernel) tw_1109 rfl ?_
        refine at_bipush (n := 12) (12 : Int32) 147 rfl (by decide +kernel) (by decide +kernel) ?_
        refine at_aload_n (i := 0) 0 148 rfl (by decide +kernel) rfl ?_
        refine at_get (index := 95) (v := va_rf (mR m6 t 31)) cok12 31 151 rfl (by decide +kernel) k8 (by decide +kernel) tw_1116 rfl ?_
        rw [e48]
        refine at_iconst (n := 0) (0 : Int32) 152 rfl (by decide +kernel) (by decide +kernel) ?_
        obtain ⟨v52, h⟩ := h
        refine at_iald 153 rfl (by decide +kernel) k49 v52 ?_
        refine at_iconst (n := 1) (1 : Int32) 154 rfl (by decide +kernel) (by decide +kernel) ?_
        refine at_isub 155 rfl (by decide +kernel) ?_
        refine at_imul 156 rfl (by decide +kernel) ?_
        refine at_iload_n (i := 1) 1 157 rfl (by decide +kernel) rfl ?_
        refine at_iadd 158 rfl (by decide +kernel) ?_
        obtain ⟨b53, e54, h⟩ := h
        rw [e54]
        obtain ⟨k55, h⟩ := h
        obtain ⟨v56, h⟩ := h
        refine at_iald 159 rfl (by decide +kernel) k55 v56 ?_
        exact at_iret rfl (by decide +kernel) h
      · rw [if_pos c51] at h
        refine at_iconst (n := (-1)) (-1 : Int32) 138 rfl (by decide +kernel) (by decide +kernel) ?_
        refine at_goto (off := 21) 159 (by decide +kernel) (by decide +kernel) ?_
        exact at_iret rfl (by decide +kernel) h
    rw [if_neg c46] at h
    by_cases c57 : l2 = (8 : Int32)
    · rw [if_pos c57] at h
      have w10 : l2.toInt = 8 := by rw [c57]; decide +kernel
      refine at_tabIn (dflt := 162) (lo := 0) (hi := 8) (offs := #[50, 57, 64, 73, 84, 95, 102, 110, 142]) (len := 50) (off := 142) 160 (by decide +kernel) (by rw [w10]; decide) (by rw [w10]; decide) (by rw [w10]; decide +kernel) (by decide +kernel) ?_
      refine at_aload_n (i := 0) 0 161 rfl (by decide +kernel) rfl ?_
      refine at_get (index := 95) (v := va_rf (mR m6 t 31)) cok12 31 164 rfl (by decide +kernel) k8 (by decide +kernel) tw_1116 rfl ?_
      refine at_iconst (n := 0) (0 : Int32) 165 rfl (by decide +kernel) (by decide +kernel) ?_
      obtain ⟨b58, e59, h⟩ := h
      rw [e59]
      obtain ⟨k60, h⟩ := h
      obtain ⟨v61, h⟩ := h
      refine at_iald 166 rfl (by decide +kernel) k60 v61 ?_
      refine at_if_ne (off := 7) 173 169 rfl (by decide +kernel) (by decide +kernel) (fun c62 => ?_) (fun c62 => ?_)
      · rw [if_neg c62] at h
        refine at_aload_n (i := 0) 0 174 rfl (by decide +kernel) rfl ?_
        refine at_get (index := 92) (v := va_rf (mR m6 t 30)) cok12 30 177 rfl (by decide +kernel) k8 (by decide +kernel) tw_1115 rfl ?_
        refine at_iload_n (i := 1) 1 178 rfl (by decide +kernel) rfl ?_
        obtain ⟨b63, e64, h⟩ := h
        rw [e64]
        obtain ⟨k65, h⟩ := h
        obtain ⟨v66, h⟩ := h
        refine at_iald 179 rfl (by decide +kernel) k65 v66 ?_
        exact at_iret rfl (by decide +kernel) h
      · rw [if_pos c62] at h
        refine at_iconst (n := (-1)) (-1 : Int32) 170 rfl (by decide +kernel) (by decide +kernel) ?_
        refine at_goto (off := 9) 179 (by decide +kernel) (by decide +kernel) ?_
        exact at_iret rfl (by decide +kernel) h
    rw [if_neg c57] at h
    have c11e : l2.toInt ≠ 0 := fun e => c11 (Int32.toInt_inj.mp (e.trans (by decide +kernel)))
    have c16e : l2.toInt ≠ 1 := fun e => c16 (Int32.toInt_inj.mp (e.trans (by decide +kernel)))
    have c21e : l2.toInt ≠ 2 := fun e => c21 (Int32.toInt_inj.mp (e.trans (by decide +kernel)))
    have c26e : l2.toInt ≠ 3 := fun e => c26 (Int32.toInt_inj.mp (e.trans (by decide +kernel)))
    have c31e : l2.toInt ≠ 4 := fun e => c31 (Int32.toInt_inj.mp (e.trans (by decide +kernel)))
    have c36e : l2.toInt ≠ 5 := fun e => c36 (Int32.toInt_inj.mp (e.trans (by decide +kernel)))
    have c41e : l2.toInt ≠ 6 := fun e => c41 (Int32.toInt_inj.mp (e.trans (by decide +kernel)))
    have c46e : l2.toInt ≠ 7 := fun e => c46 (Int32.toInt_inj.mp (e.trans (by decide +kernel)))
    have c57e : l2.toInt ≠ 8 := fun e => c57 (Int32.toInt_inj.mp (e.trans (by decide +kernel)))
    refine at_tabOut (dflt := 162) (lo := 0) (hi := 8) (offs := #[50, 57, 64, 73, 84, 95, 102, 110, 142]) (len := 50) 180 (by decide +kernel) (by omega) (by decide +kernel) ?_
    refine at_ldcw (index := 382) (-1000000 : Int32) 183 rfl (by decide +kernel) tw_1499 ?_
    exact at_iret rfl (by decide +kernel) h
  · rw [if_pos c9] at h
    refine at_ldcw (index := 382) (-1000000 : Int32) 16 rfl (by decide +kernel) tw_1499 ?_
    exact at_iret rfl (by decide +kernel) h
set_option maxRecDepth 20000 in
set_option maxHeartbeats 4000000 in
theorem en_RF_money (g : Gc) {lv : Nat} {t : Nat} {l1 : Int32} {m : Mm} {Q : Int64 → Mm → Prop} (h : mK m t = 13 ∧ (∀ m2, m2 = sI m t 0 (0 : Int32) → (CI g M_RF_isGrower lv [va_rf (some t), .int (l1)] m2 (fun x5 m6 => (if (x5) = 0 then (CI g M_RF_in lv [.long (l1.toInt64), .long ((12 : Int64)), .long ((14 : Int64))] m6 (fun x14 m15 => (if (x14) = 0 then (Q (0 : Int64) m15) else (∃ b19, mR m15 t 39 = some b19 ∧ (mK m15 b19 = 16 ∧ (vp_in l1 (mN m15 b19) ∧ (Q (mL m15 b19 l1.toNatClampNeg) m15))))))) else (∃ b10, mR m6 t 39 = some b10 ∧ (mK m6 b10 = 16 ∧ (vp_in l1 (mN m6 b10) ∧ (Q (mL m6 b10 l1.toNatClampNeg) m6))))))))) : CJ g M_RF_money (lv + 1) [va_rf (some t), .int (l1)] m Q := by
  refine Call.of (by decide +kernel) (Nat.le_of_ble_eq_true rfl) ?_
  show At g M_RF_money (lv + 1) 0 [(0, va_rf (some t)), (1, .int (l1))] [] m (QJ Q)
  refine at_aload_n (i := 0) 0 1 rfl (by decide +kernel) rfl ?_
  refine at_iconst (n := 0) (0 : Int32) 2 rfl (by decide +kernel) (by decide +kernel) ?_
  obtain ⟨k1, h⟩ := h
  refine at_putI (index := 149) cok12 0 5 rfl (by decide +kernel) k1 (by decide +kernel) tw_1085 rfl rfl rfl (fun m2 e3 => ?_)
  replace h := h m2 e3
  have k4 : mK m2 t = 13 := by rw [e3]; exact k1
  refine at_aload_n (i := 0) 0 6 rfl (by decide +kernel) rfl ?_
  refine at_iload_n (i := 1) 1 7 rfl (by decide +kernel) rfl ?_
  refine at_callV mb_RF_isGrower tw_1430 tw_45 cok12 k4 (index := 336) tw_1428 [.int (l1)] [] rfl rfl (by decide) 10 rfl (by decide +kernel) (Call.toI (CI.monoE h (fun x5 m6 h y7 => ?_)))
  have k8 : mK m6 t = 13 := y7.k k4 (by decide)
  refine at_if_ne (off := 17) 27 13 rfl (by decide +kernel) (by decide +kernel) (fun c9 => ?_) (fun c9 => ?_)
  · rw [if_neg c9] at h
    refine at_aload_n (i := 0) 0 28 rfl (by decide +kernel) rfl ?_
    refine at_get (index := 119) (v := va_rf (mR m6 t 39)) cok12 39 31 rfl (by decide +kernel) k8 (by decide +kernel) tw_1124 rfl ?_
    refine at_iload_n (i := 1) 1 32 rfl (by decide +kernel) rfl ?_
    obtain ⟨b10, e11, h⟩ := h
    rw [e11]
    obtain ⟨k12, h⟩ := h
    obtain ⟨v13, h⟩ := h
    refine at_lald 33 rfl (by decide +kernel) k12 v13 ?_
    refine at_goto (off := 4) 37 (by decide +kernel) (by decide +kernel) ?_
    exact at_lret rfl (by decide +kernel) h
  · rw [if_pos c9] at h
    refine at_iload_n (i := 1) 1 14 rfl (by decide +kernel) rfl ?_
    refine at_i2l 15 rfl (by decide +kernel) ?_
    refine at_ldc2 (index := 410) (12 : Int64) 18 rfl (by decide +kernel) tw_1552 ?_
    refine at_ldc2 (index := 412) (14 : Int64) 21 rfl (by decide +kernel) tw_1553 ?_
    refine at_callS mb_RF_in tw_1293 (index := 154) tw_1292 [.long (l1.toInt64), .long ((12 : Int64)), .long ((14 : Int64))] [] rfl rfl (by decide) 24 rfl (by decide +kernel) (Call.toI (CI.monoE h (fun x14 m15 h y16 => ?_)))
    have k17 : mK m15 t = 13 := y16.k k8 (by decide)
    refine at_if_eq (off := 12) 36 27 rfl (by decide +kernel) (by decide +kernel) (fun c18 => ?_) (fun c18 => ?_)
    · rw [if_pos c18] at h
      refine at_lconst (n := 0) (0 : Int64) 37 rfl (by decide +kernel) (by decide +kernel) ?_
      exact at_lret rfl (by decide +kernel) h
    · rw [if_neg c18] at h
      refine at_aload_n (i := 0) 0 28 rfl (by decide +kernel) rfl ?_
      refine at_get (index := 119) (v := va_rf (mR m15 t 39)) cok12 39 31 rfl (by decide +kernel) k17 (by decide +kernel) tw_1124 rfl ?_
      refine at_iload_n (i := 1) 1 32 rfl (by decide +kernel) rfl ?_
      obtain ⟨b19, e20, h⟩ := h
      rw [e20]
      obtain ⟨k21, h⟩ := h
      obtain ⟨v22, h⟩ := h
      refine at_lald 33 rfl (by decide +kernel) k21 v22 ?_
      refine at_goto (off := 4) 37 (by decide +kernel) (by decide +kernel) ?_
      exact at_lret rfl (by decide +kernel) h
set_option maxRecDepth 20000 in
set_option maxHeartbeats 4000000 in
theorem bk_RF_count_150 (g : Gc) {lv : Nat} {t : Nat} {l2 : Int32} {l3 : Int32} {m : Mm} {Q : Int32 → Mm → Prop} (h : if ((4 : Int32)) ≤ (l3) then (Q l2 m) else (mK m t = 13 ∧ (∃ b3, mR m t 1 = some b3 ∧ (mK m b3 = 15 ∧ (vp_in l3 (mN m b3) ∧ (if (mI m b3 l3.toNatClampNeg) < 0 then (At g M_RF_count (lv + 1) 150 [(0, va_rf (some t)), (2, .int (l2 + (0 : Int32))), (3, .int (l3 + (1 : Int32)))] [] m (QI Q)) else (At g M_RF_count (lv + 1) 150 [(0, va_rf (some t)), (2, .int (l2 + (1 : Int32))), (3, .int (l3 + (1 : Int32)))] [] m (QI Q)))))))) : At g M_RF_count (lv + 1) 150 [(0, va_rf (some t)), (2, .int (l2)), (3, .int (l3))] [] m (QI Q) := by
  refine at_iload_n (i := 3) 2 151 rfl (by decide +kernel) rfl ?_
  refine at_iconst (n := 4) (4 : Int32) 152 rfl (by decide +kernel) (by decide +kernel) ?_
  refine at_icmp_ge (off := 26) 178 155 rfl (by decide +kernel) (by decide +kernel) (fun c1 => ?_) (fun c1 => ?_)
  · rw [if_pos c1] at h
    refine at_iload_n (i := 2) 1 179 rfl (by decide +kernel) rfl ?_
    exact at_iret rfl (by decide +kernel) h
  · rw [if_neg c1] at h
    refine at_iload_n (i := 2) 1 156 rfl (by decide +kernel) rfl ?_
    refine at_aload_n (i := 0) 0 157 rfl (by decide +kernel) rfl ?_
    obtain ⟨k2, h⟩ := h
    refine at_get (index := 9) (v := va_rf (mR m t 1)) cok12 1 160 rfl (by decide +kernel) k2 (by decide +kernel) tw_1086 rfl ?_
    refine at_iload_n (i := 3) 2 161 rfl (by decide +kernel) rfl ?_
    obtain ⟨b3, e4, h⟩ := h
    rw [e4]
    obtain ⟨k5, h⟩ := h
    obtain ⟨v6, h⟩ := h
    refine at_iald 162 rfl (by decide +kernel) k5 v6 ?_
    refine at_if_lt (off := 7) 169 165 rfl (by decide +kernel) (by decide +kernel) (fun c7 => ?_) (fun c7 => ?_)
    · rw [if_pos c7] at h
      refine at_iconst (n := 0) (0 : Int32) 170 rfl (by decide +kernel) (by decide +kernel) ?_
      refine at_iadd 171 rfl (by decide +kernel) ?_
      refine at_istore_n (i := 2) (lc' := [(0, va_rf (some t)), (2, .int (l2 + (0 : Int32))), (3, .int (l3))]) [1, 0, 2] 172 rfl (by decide +kernel) (by decide +kernel) rfl ?_
      refine at_iinc (i := 3) (n := 1) (lc' := [(0, va_rf (some t)), (2, .int (l2 + (0 : Int32))), (3, .int (l3 + (1 : Int32)))]) (l3 + (1 : Int32)) 2 [1, 2, 0] 175 rfl (by decide +kernel) rfl (by rw [show Int32.ofInt 1 = (1 : Int32) from by decide +kernel]) (by decide +kernel) rfl ?_
      refine at_goto (off := (-25)) 150 (by decide +kernel) (by decide +kernel) ?_
      exact h
    · rw [if_neg c7] at h
      refine at_iconst (n := 1) (1 : Int32) 166 rfl (by decide +kernel) (by decide +kernel) ?_
      refine at_goto (off := 4) 170 (by decide +kernel) (by decide +kernel) ?_
      refine at_iadd 171 rfl (by decide +kernel) ?_
      refine at_istore_n (i := 2) (lc' := [(0, va_rf (some t)), (2, .int (l2 + (1 : Int32))), (3, .int (l3))]) [1, 0, 2] 172 rfl (by decide +kernel) (by decide +kernel) rfl ?_
      refine at_iinc (i := 3) (n := 1) (lc' := [(0, va_rf (some t)), (2, .int (l2 + (1 : Int32))), (3, .int (l3 + (1 : Int32)))]) (l3 + (1 : Int32)) 2 [1, 2, 0] 175 rfl (by decide +kernel) rfl (by rw [show Int32.ofInt 1 = (1 : Int32) from by decide +kernel]) (by decide +kernel) rfl ?_
      refine at_goto (off := (-25)) 150 (by decide +kernel) (by decide +kernel) ?_
      exact h
set_option maxRecDepth 20000 in
set_option maxHeartbeats 4000000 in
theorem en_RF_count (g : Gc) {lv : Nat} {t : Nat} {l1 : Int32} {m : Mm} {Q : Int32 → Mm → Prop} (h : mK m t = 13 ∧ (∀ m2, m2 = sI m t 0 (0 : Int32) → (if l1 = (0 : Int32) then (∃ b7, mR m2 t 31 = some b7 ∧ (mK m2 b7 = 15 ∧ (vp_in (0 : Int32) (mN m2 b7) ∧ (Q (mI m2 b7 (0 : Int32).toNatClampNeg) m2)))) else (if l1 = (1 : Int32) then (Q (mI m2 t 19) m2) else (if l1 = (2 : Int32) then (∃ b13, mR m2 t 33 = some b13 ∧ (mK m2 b13 = 15 ∧ (vp_in (0 : Int32) (mN m2 b13) ∧ (Q (mI m2 b13 (0 : Int32).toNatClampNeg) m2)))) else (if l1 = (3 : Int32) then (∃ b18, mR m2 t 32 = some b18 ∧ (mK m2 b18 = 15 ∧ (vp_in (0 : Int32) (mN m2 b18) ∧ (Q (mI m2 b18 (0 : Int32).toNatClampNeg) m2)))) else (if l1 = (4 : Int32) then (CI g M_RF_store lv [va_rf (some t), .int ((0 : Int32))] m2 (fun x23 m24 => (Q x23 m24))) else (if l1 = (5 : Int32) then (CI g M_RF_frees lv [va_rf (some t), .int ((0 : Int32))] m2 (fun x28 m29 => (Q x28 m29))) else (if l1 = (6 : Int32) then (∃ b33, mR m2 t 34 = some b33 ∧ (mK m2 b33 = 15 ∧ (vp_in (0 : Int32) (mN m2 b33) ∧ (Q (mI m2 b33 (0 : Int32).toNatClampNeg) m2)))) else (if l1 = (7 : Int32) then (∃ b38, mR m2 t 31 = some b38 ∧ (mK m2 b38 = 15 ∧ (vp_in (0 : Int32) (mN m2 b38) ∧ (if (mI m2 b38 (0 : Int32).toNatClampNeg) = 0 then (Q (0 : Int32) m2) else (vp_in (0 : Int32) (mN m2 b38) ∧ (∃ b44, mR m2 t 26 = some b44 ∧ (mK m2 b44 = 15 ∧ (vp_in ((mI m2 b38 (0 : Int32).toNatClampNeg) - (1 : Int32)) (mN m2 b44) ∧ (Q (mI m2 b44 ((mI m2 b38 (0 : Int32).toNatClampNeg) - (1 : Int32)).toNatClampNeg) m2))))))))) else (if l1 = (8 : Int32) then (Q (mI m2 t 15) m2) else (if l1 = (9 : Int32) then (Q (mI m2 t 47) m2) else (if l1 = (10 : Int32) then (At g M_RF_count (lv + 1) 150 [(0, va_rf (some t)), (2, .int ((0 : Int32))), (3, .int ((0 : Int32)))] [] m2 (QI Q)) else (Q (-1 : Int32) m2)))))))))))))) : CI g M_RF_count (lv + 1) [va_rf (some t), .int (l1)] m Q := by
  refine Call.of (by decide +kernel) (Nat.le_of_ble_eq_true rfl) ?_
  show At g M_RF_count (lv + 1) 0 [(0, va_rf (some t)), (1, .int (l1))] [] m (QI Q)
  refine at_aload_n (i := 0) 0 1 rfl (by decide +kernel) rfl ?_
  refine at_iconst (n := 0) (0 : Int32) 2 rfl (by decide +kernel) (by decide +kernel) ?_
  obtain ⟨k1, h⟩ := h
  refine at_putI (index := 149) cok12 0 5 rfl (by decide +kernel) k1 (by decide +kernel) tw_1085 rfl rfl rfl (fun m2 e3 => ?_)
  replace h := h m2 e3
  have k4 : mK m2 t = 13 := by rw [e3]; exact k1
  refine at_iload_n (i := 1) 1 6 rfl (by decide +kernel) rfl ?_
  by_cases c6 : l1 = (0 : Int32)
  · rw [if_pos c6] at h
    have w5 : l1.toInt = 0 := by rw [c6]; decide +kernel
    refine at_tabIn (dflt := 174) (lo := 0) (hi := 10) (offs := #[58, 65, 70, 77, 84, 90, 96, 103, 130, 135, 140]) (len := 58) (off := 58) 64 (by decide +kernel) (by rw [w5]; decide) (by rw [w5]; decide) (by rw [w5]; decide +kernel) (by decide +kernel) ?_
    refine at_aload_n (i := 0) 0 65 rfl (by decide +kernel) rfl ?_
    refine at_get (index := 95) (v := va_rf (mR m2 t 31)) cok12 31 68 rfl (by decide +kernel) k4 (by decide +kernel) tw_1116 rfl ?_
    refine at_iconst (n := 0) (0 : Int32) 69 rfl (by decide +kernel) (by decide +kernel) ?_
    obtain ⟨b7, e8, h⟩ := h
    rw [e8]
    obtain ⟨k9, h⟩ := h
    obtain ⟨v10, h⟩ := h
    refine at_iald 70 rfl (by decide +kernel) k9 v10 ?_
    exact at_iret rfl (by decide +kernel) h
  rw [if_neg c6] at h
  by_cases c11 : l1 = (1 : Int32)
  · rw [if_pos c11] at h
    have w5 : l1.toInt = 1 := by rw [c11]; decide +kernel
    refine at_tabIn (dflt := 174) (lo := 0) (hi := 10) (offs := #[58, 65, 70, 77, 84, 90, 96, 103, 130, 135, 140]) (len := 58) (off := 65) 71 (by decide +kernel) (by rw [w5]; decide) (by rw [w5]; decide) (by rw [w5]; decide +kernel) (by decide +kernel) ?_
    refine at_aload_n (i := 0) 0 72 rfl (by decide +kernel) rfl ?_
    refine at_get (index := 185) (v := .int (mI m2 t 19)) cok12 19 75 rfl (by decide +kernel) k4 (by decide +kernel) tw_1104 rfl ?_
    exact at_iret rfl (by decide +kernel) h
  rw [if_neg c11] at h
  by_cases c12 : l1 = (2 : Int32)
  · rw [if_pos c12] at h
    have w5 : l1.toInt = 2 := by rw [c12]; decide +kernel
    refine at_tabIn (dflt := 174) (lo := 0) (hi := 10) (offs := #[58, 65, 70, 77, 84, 90, 96, 103, 130, 135, 140]) (len := 58) (off := 70) 76 (by decide +kernel) (by rw [w5]; decide) (by rw [w5]; decide) (by rw [w5]; decide +kernel) (by decide +kernel) ?_
    refine at_aload_n (i := 0) 0 77 rfl (by decide +kernel) rfl ?_
    refine at_get (index := 101) (v := va_rf (mR m2 t 33)) cok12 33 80 rfl (by decide +kernel) k4 (by decide +kernel) tw_1118 rfl ?_
    refine at_iconst (n := 0) (0 : Int32) 81 rfl (by decide +kernel) (by decide +kernel) ?_
    obtain ⟨b13, e14, h⟩ := h
    rw [e14]
    obtain ⟨k15, h⟩ := h
    obtain ⟨v16, h⟩ := h
    refine at_iald 82 rfl (by decide +kernel) k15 v16 ?_
    exact at_iret rfl (by decide +kernel) h
  rw [if_neg c12] at h
  by_cases c17 : l1 = (3 : Int32)
  · rw [if_pos c17] at h
    have w5 : l1.toInt = 3 := by rw [c17]; decide +kernel
    refine at_tabIn (dflt := 174) (lo := 0) (hi := 10) (offs := #[58, 65, 70, 77, 84, 90, 96, 103, 130, 135, 140]) (len := 58) (off := 77) 83 (by decide +kernel) (by rw [w5]; decide) (by rw [w5]; decide) (by rw [w5]; decide +kernel) (by decide +kernel) ?_
    refine at_aload_n (i := 0) 0 84 rfl (by decide +kernel) rfl ?_
    refine at_get (index := 98) (v := va_rf (mR m2 t 32)) cok12 32 87 rfl (by decide +kernel) k4 (by decide +kernel) tw_1117 rfl ?_
    refine at_iconst (n := 0) (0 : Int32) 88 rfl (by decide +kernel) (by decide +kernel) ?_
    obtain ⟨b18, e19, h⟩ := h
    rw [e19]
    obtain ⟨k20, h⟩ := h
    obtain ⟨v21, h⟩ := h
    refine at_iald 89 rfl (by decide +kernel) k20 v21 ?_
    exact at_iret rfl (by decide +kernel) h
  rw [if_neg c17] at h
  by_cases c22 : l1 = (4 : Int32)
  · rw [if_pos c22] at h
    have w5 : l1.toInt = 4 := by rw [c22]; decide +kernel
    refine at_tabIn (dflt := 174) (lo := 0) (hi := 10) (offs := #[58, 65, 70, 77, 84, 90, 96, 103, 130, 135, 140]) (len := 58) (off := 84) 90 (by decide +kernel) (by rw [w5]; decide) (by rw [w5]; decide) (by rw [w5]; decide +kernel) (by decide +kernel) ?_
    refine at_aload_n (i := 0) 0 91 rfl (by decide +kernel) rfl ?_
    refine at_iconst (n := 0) (0 : Int32) 92 rfl (by decide +kernel) (by decide +kernel) ?_
    refine at_callV mb_RF_store tw_1447 tw_47 cok12 k4 (index := 344) tw_1445 [.int ((0 : Int32))] [] rfl rfl (by decide) 95 rfl (by decide +kernel) (Call.toI (CI.monoE h (fun x23 m24 h y25 => ?_)))
    have k26 : mK m24 t = 13 := y25.k k4 (by decide)
    exact at_iret rfl (by decide +kernel) h
  rw [if_neg c22] at h
  by_cases c27 : l1 = (5 : Int32)
  · rw [if_pos c27] at h
    have w5 : l1.toInt = 5 := by rw [c27]; decide +kernel
    refine at_tabIn (dflt := 174) (lo := 0) (hi := 10) (offs := #[58, 65, 70, 77, 84, 90, 96, 103, 130, 135, 140]) (len := 58) (off := 90) 96 (by decide +kernel) (by rw [w5]; decide) (by rw [w5]; decide) (by rw [w5]; decide +kernel) (by decide +kernel) ?_
    refine at_aload_n (i := 0) 0 97 rfl (by decide +kernel) rfl ?_
    refine at_iconst (n := 0) (0 : Int32) 98 rfl (by decide +kernel) (by decide +kernel) ?_
    refine at_callV mb_RF_frees tw_1465 tw_51 cok12 k4 (index := 359) tw_1463 [.int ((0 : Int32))] [] rfl rfl (by decide) 101 rfl (by decide +kernel) (Call.toI (CI.monoE h (fun x28 m29 h y30 => ?_)))
    have k31 : mK m29 t = 13 := y30.k k4 (by decide)
    exact at_iret rfl (by decide +kernel) h
  rw [if_neg c27] at h
  by_cases c32 : l1 = (6 : Int32)
  · rw [if_pos c32] at h
    have w5 : l1.toInt = 6 := by rw [c32]; decide +kernel
    refine at_tabIn (dflt := 174) (lo := 0) (hi := 10) (offs := #[58, 65, 70, 77, 84, 90, 96, 103, 130, 135, 140]) (len := 58) (off := 96) 102 (by decide +kernel) (by rw [w5]; decide) (by rw [w5]; decide) (by rw [w5]; decide +kernel) (by decide +kernel) ?_
    refine at_aload_n (i := 0) 0 103 rfl (by decide +kernel) rfl ?_
    refine at_get (index := 104) (v := va_rf (mR m2 t 34)) cok12 34 106 rfl (by decide +kernel) k4 (by decide +kernel) tw_1119 rfl ?_
    refine at_iconst (n := 0) (0 : Int32) 107 rfl (by decide +kernel) (by decide +kernel) ?_
    obtain ⟨b33, e34, h⟩ := h
    rw [e34]
    obtain ⟨k35, h⟩ := h
    obtain ⟨v36, h⟩ := h
    refine at_iald 108 rfl (by decide +kernel) k35 v36 ?_
    exact at_iret rfl (by decide +kernel) h
  rw [if_neg c32] at h
  by_cases c37 : l1 = (7 : Int32)
  · rw [if_pos c37] at h
    have w5 : l1.toInt = 7 := by rw [c37]; decide +kernel
    refine at_tabIn (dflt := 174) (lo := 0) (hi := 10) (offs := #[58, 65, 70, 77, 84, 90, 96, 103, 130, 135, 140]) (len := 58) (off := 103) 109 (by decide +kernel) (by rw [w5]; decide) (by rw [w5]; decide) (by rw [w5]; decide +kernel) (by decide +kernel) ?_
    refine at_aload_n (i := 0) 0 110 rfl (by decide +kernel) rfl ?_
    refine at_get (index := 95) (v := va_rf (mR m2 t 31)) cok12 31 113 rfl (by decide +kernel) k4 (by decide +kernel) tw_1116 rfl ?_
    refine at_iconst (n := 0) (0 : Int32) 114 rfl (by decide +kernel) (by decide +kernel) ?_
    obtain ⟨b38, e39, h⟩ := h
    rw [e39]
    obtain ⟨k40, h⟩ := h
    obtain ⟨v41, h⟩ := h
    refine at_iald 115 rfl (by decide +kernel) k40 v41 ?_
    refine at_if_ne (off := 7) 122 118 rfl (by decide +kernel) (by decide +kernel) (fun c42 => ?_) (fun c42 => ?_)
    · rw [if_neg c42] at h
      refine at_aload_n (i := 0) 0 123 rfl (by decide +kernel) rfl ?_
      refine at_get (index := 79) (v := va_rf (mR m2 t 26)) cok12 26 126 rfl (by decide +kernel) k4 (by decide +kernel) tw_1111 rfl ?_
      refine at_aload_n (i := 0) 0 127 rfl (by decide +kernel) rfl ?_
      refine at_get (index := 95) (v := va_rf (mR m2 t 31)) cok12 31 130 rfl (by decide +kernel) k4 (by decide +kernel) tw_1116 rfl ?_
      rw [e39]
      refine at_iconst (n := 0) (0 : Int32) 131 rfl (by decide +kernel) (by decide +kernel) ?_
      obtain ⟨v43, h⟩ := h
      refine at_iald 132 rfl (by decide +kernel) k40 v43 ?_
      refine at_iconst (n := 1) (1 : Int32) 133 rfl (by decide +kernel) (by decide +kernel) ?_
      refine at_isub 134 rfl (by decide +kernel) ?_
      obtain ⟨b44, e45, h⟩ := h
      rw [e45]
      obtain ⟨k46, h⟩ := h
      obtain ⟨v47, h⟩ := h
      refine at_iald 135 rfl (by decide +kernel) k46 v47 ?_
      exact at_iret rfl (by decide +kernel) h
    · rw [if_pos c42] at h
      refine at_iconst (n := 0) (0 : Int32) 119 rfl (by decide +kernel) (by decide +kernel) ?_
      refine at_goto (off := 16) 135 (by decide +kernel) (by decide +kernel) ?_
      exact at_iret rfl (by decide +kernel) h
  rw [if_neg c37] at h
  by_cases c48 : l1 = (8 : Int32)
  · rw [if_pos c48] at h
    have w5 : l1.toInt = 8 := by rw [c48]; decide +kernel
    refine at_tabIn (dflt := 174) (lo := 0) (hi := 10) (offs := #[58, 65, 70, 77, 84, 90, 96, 103, 130, 135, 140]) (len := 58) (off := 130) 136 (by decide +kernel) (by rw [w5]; decide) (by rw [w5]; decide) (by rw [w5]; decide +kernel) (by decide +kernel) ?_
    refine at_aload_n (i := 0) 0 137 rfl (by decide +kernel) rfl ?_
    refine at_get (index := 188) (v := .int (mI m2 t 15)) cok12 15 140 rfl (by decide +kernel) k4 (by decide +kernel) tw_1100 rfl ?_
    exact at_iret rfl (by decide +kernel) h
  rw [if_neg c48] at h
  by_cases c49 : l1 = (9 : Int32)
  · rw [if_pos c49] at h
    have w5 : l1.toInt = 9 := by rw [c49]; decide +kernel
    refine at_tabIn (dflt := 174) (lo := 0) (hi := 10) (offs := #[58, 65, 70, 77, 84, 90, 96, 103, 130, 135, 140]) (len := 58) (off := 135) 141 (by decide +kernel) (by rw [w5]; decide) (by rw [w5]; decide) (by rw [w5]; decide +kernel) (by decide +kernel) ?_
    refine at_aload_n (i := 0) 0 142 rfl (by decide +kernel) rfl ?_
    refine at_get (index := 407) (v := .int (mI m2 t 47)) cok12 47 145 rfl (by decide +kernel) k4 (by decide +kernel) tw_1132 rfl ?_
    exact at_iret rfl (by decide +kernel) h
  rw [if_neg c49] at h
  by_cases c50 : l1 = (10 : Int32)
  · rw [if_pos c50] at h
    have w5 : l1.toInt = 10 := by rw [c50]; decide +kernel
    refine at_tabIn (dflt := 174) (lo := 0) (hi := 10) (offs := #[58, 65, 70, 77, 84, 90, 96, 103, 130, 135, 140]) (len := 58) (off := 140) 146 (by decide +kernel) (by rw [w5]; decide) (by rw [w5]; decide) (by rw [w5]; decide +kernel) (by decide +kernel) ?_
    refine at_iconst (n := 0) (0 : Int32) 147 rfl (by decide +kernel) (by decide +kernel) ?_
    refine at_istore_n (i := 2) (lc' := [(0, va_rf (some t)), (2, .int ((0 : Int32)))]) [1, 0] 148 rfl (by decide +kernel) (by decide +kernel) rfl ?_
    refine at_iconst (n := 0) (0 : Int32) 149 rfl (by decide +kernel) (by decide +kernel) ?_
    refine at_istore_n (i := 3) (lc' := [(0, va_rf (some t)), (2, .int ((0 : Int32))), (3, .int ((0 : Int32)))]) [1, 2, 0] 150 rfl (by decide +kernel) (by decide +kernel) rfl ?_
    exact h
  rw [if_neg c50] at h
  have c6e : l1.toInt ≠ 0 := fun e => c6 (Int32.toInt_inj.mp (e.trans (by decide +kernel)))
  have c11e : l1.toInt ≠ 1 := fun e => c11 (Int32.toInt_inj.mp (e.trans (by decide +kernel)))
  have c12e : l1.toInt ≠ 2 := fun e => c12 (Int32.toInt_inj.mp (e.trans (by decide +kernel)))
  have c17e : l1.toInt ≠ 3 := fun e => c17 (Int32.toInt_inj.mp (e.trans (by decide +kernel)))
  have c22e : l1.toInt ≠ 4 := fun e => c22 (Int32.toInt_inj.mp (e.trans (by decide +kernel)))
  have c27e : l1.toInt ≠ 5 := fun e => c27 (Int32.toInt_inj.mp (e.trans (by decide +kernel)))
  have c32e : l1.toInt ≠ 6 := fun e => c32 (Int32.toInt_inj.mp (e.trans (by decide +kernel)))
  have c37e : l1.toInt ≠ 7 := fun e => c37 (Int32.toInt_inj.mp (e.trans (by decide +kernel)))
  have c48e : l1.toInt ≠ 8 := fun e => c48 (Int32.toInt_inj.mp (e.trans (by decide +kernel)))
  have c49e : l1.toInt ≠ 9 := fun e => c49 (Int32.toInt_inj.mp (e.trans (by decide +kernel)))
  have c50e : l1.toInt ≠ 10 := fun e => c50 (Int32.toInt_inj.mp (e.trans (by decide +kernel)))
  refine at_tabOut (dflt := 174) (lo := 0) (hi := 10) (offs := #[58, 65, 70, 77, 84, 90, 96, 103, 130, 135, 140]) (len := 58) 180 (by decide +kernel) (by omega) (by decide +kernel) ?_
  refine at_iconst (n := (-1)) (-1 : Int32) 181 rfl (by decide +kernel) (by decide +kernel) ?_
  exact at_iret rfl (by decide +kernel) h
set_option maxRecDepth 20000 in
set_option maxHeartbeats 4000000 in
theorem en_RF_sum_I (g : Gc) {lv : Nat} {t : Nat} {l1 : Int32} {m : Mm} {Q : Int64 → Mm → Prop} (h : mK m t = 13 ∧ (∀ m2, m2 = sI m t 0 (0 : Int32) → (CI g M_RF_in lv [.long (l1.toInt64), .long ((0 : Int64)), .long ((7 : Int64))] m2 (fun x5 m6 => (if (x5) = 0 then (Q (0 : Int64) m6) else (∃ b10, mR m6 t 43 = some b10 ∧ (mK m6 b10 = 16 ∧ (vp_in l1 (mN m6 b10) ∧ (Q (mL m6 b10 l1.toNatClampNeg) m6))))))))) : CJ g M_RF_sum_I (lv + 1) [va_rf (some t), .int (l1)] m Q := by
  refine Call.of (by decide +kernel) (Nat.le_of_ble_eq_true rfl) ?_
  show At g M_RF_sum_I (lv + 1) 0 [(0, va_rf (some t)), (1, .int (l1))] [] m (QJ Q)
  refine at_aload_n (i := 0) 0 1 rfl (by decide +kernel) rfl ?_
  refine at_iconst (n := 0) (0 : Int32) 2 rfl (by decide +kernel) (by decide +kernel) ?_
  obtain ⟨k1, h⟩ := h
  refine at_putI (index := 149) cok12 0 5 rfl (by decide +kernel) k1 (by decide +kernel) tw_1085 rfl rfl rfl (fun m2 e3 => ?_)
  replace h := h m2 e3
  have k4 : mK m2 t = 13 := by rw [e3]; exact k1
  refine at_iload_n (i := 1) 1 6 rfl (by decide +kernel) rfl ?_
  refine at_i2l 7 rfl (by decide +kernel) ?_
  refine at_lconst (n := 0) (0 : Int64) 8 rfl (by decide +kernel) (by decide +kernel) ?_
  refine at_ldc2 (index := 183) (7 : Int64) 11 rfl (by decide +kernel) tw_1329 ?_
  refine at_callS mb_RF_in tw_1293 (index := 154) tw_1292 [.long (l1.toInt64), .long ((0 : Int64)), .long ((7 : Int64))] [] rfl rfl (by decide) 14 rfl (by decide +kernel) (Call.toI (CI.monoE h (fun x5 m6 h y7 => ?_)))
  have k8 : mK m6 t = 13 := y7.k k4 (by decide)
  refine at_if_eq (off := 12) 26 17 rfl (by decide +kernel) (by decide +kernel) (fun c9 => ?_) (fun c9 => ?_)
  · rw [if_pos c9] at h
    refine at_lconst (n := 0) (0 : Int64) 27 rfl (by decide +kernel) (by decide +kernel) ?_
    exact at_lret rfl (by decide +kernel) h
  · rw [if_neg c9] at h
    refine at_aload_n (i := 0) 0 18 rfl (by decide +kernel) rfl ?_
    refine at_get (index := 131) (v := va_rf (mR m6 t 43)) cok12 43 21 rfl (by decide +kernel) k8 (by decide +kernel) tw_1128 rfl ?_
    refine at_iload_n (i := 1) 1 22 rfl (by decide +kernel) rfl ?_
    obtain ⟨b10, e11, h⟩ := h
    rw [e11]
    obtain ⟨k12, h⟩ := h
    obtain ⟨v13, h⟩ := h
    refine at_lald 23 rfl (by decide +kernel) k12 v13 ?_
    refine at_goto (off := 4) 27 (by decide +kernel) (by decide +kernel) ?_
    exact at_lret rfl (by decide +kernel) h
set_option maxRecDepth 20000 in
set_option maxHeartbeats 4000000 in
theorem bk_RF_gains_10 (g : Gc) {lv : Nat} {t : Nat} {l1 : Int32} {l2 : Int32} {l3 : Int64} {l5 : Int32} {m : Mm} {Q : Int64 → Mm → Prop} (h : mK m t = 13 ∧ (if (mI m t 19) ≤ (l5) then (Q l3 m) else (∃ b3, mR m t 35 = some b3 ∧ (mK m b3 = 15 ∧ (vp_in l5 (mN m b3) ∧ (CI g M_RF_in lv [.long ((mI m b3 l5.toNatClampNeg).toInt64), .long (l1.toInt64), .long (l2.toInt64)] m (fun x7 m8 => (if (x7) = 0 then (At g M_RF_gains (lv + 1) 10 [(0, va_rf (some t)), (1, .int (l1)), (2, .int (l2)), (3, .long (l3 + (0 : Int64))), (5, .int (l5 + (1 : Int32)))] [] m8 (QJ Q)) else (∃ b13, mR m8 t 39 = some b13 ∧ (mK m8 b13 = 16 ∧ (vp_in l5 (mN m8 b13) ∧ (At g M_RF_gains (lv + 1) 10 [(0, va_rf (some t)), (1, .int (l1)), (2, .int (l2)), (3, .long (l3 + (mL m8 b13 l5.toNatClampNeg))), (5, .int (l5 + (1 : Int32)))] [] m8 (QJ Q))))))))))))) : At g M_RF_gains (lv + 1) 10 [(0, va_rf (some t)), (1, .int (l1)), (2, .int (l2)), (3, .long (l3)), (5, .int (l5))] [] m (QJ Q) := by
  refine at_iload (i := 5) 4 12 rfl (by decide +kernel) rfl ?_
  refine at_aload_n (i := 0) 0 13 rfl (by decide +kernel) rfl ?_
  obtain ⟨k1, h⟩ := h
  refine at_get (index := 185) (v := .int (mI m t 19)) cok12 19 16 rfl (by decide +kernel) k1 (by decide +kernel) tw_1104 rfl ?_
  refine at_icmp_ge (off := 41) 57 19 rfl (by decide +kernel) (by decide +kernel) (fun c2 => ?_) (fun c2 => ?_)
  · rw [if_pos c2] at h
    refine at_lload_n (i := 3) 3 58 rfl (by decide +kernel) rfl ?_
    exact at_lret rfl (by decide +kernel) h
  · rw [if_neg c2] at h
    refine at_lload_n (i := 3) 3 20 rfl (by decide +kernel) rfl ?_
    refine at_aload_n (i := 0) 0 21 rfl (by decide +kernel) rfl ?_
    refine at_get (index := 107) (v := va_rf (mR m t 35)) cok12 35 24 rfl (by decide +kernel) k1 (by decide +kernel) tw_1120 rfl ?_
    refine at_iload (i := 5) 4 26 rfl (by decide +kernel) rfl ?_
    obtain ⟨b3, e4, h⟩ := h
    rw [e4]
    obtain ⟨k5, h⟩ := h
    obtain ⟨v6, h⟩ := h
    refine at_iald 27 rfl (by decide +kernel) k5 v6 ?_
    refine at_i2l 28 rfl (by decide +kernel) ?_
    refine at_iload_n (i := 1) 1 29 rfl (by decide +kernel) rfl ?_
    refine at_i2l 30 rfl (by decide +kernel) ?_
    refine at_iload_n (i := 2) 2 31 rfl (by decide +kernel) rfl ?_
    refine at_i2l 32 rfl (by decide +kernel) ?_
    refine at_callS mb_RF_in tw_1293 (index := 154) tw_1292 [.long ((mI m b3 l5.toNatClampNeg).toInt64), .long (l1.toInt64), .long (l2.toInt64)] [.long (l3)] rfl rfl (by simp [va_rf_cat, cat_int, cat_long]) 35 rfl (by decide +kernel) (Call.toI (CI.monoE h (fun x7 m8 h y9 => ?_)))
    have k10 : mK m8 t = 13 := y9.k k1 (by decide)
    have k11 : mK m8 b3 = 15 := y9.k k5 (by decide)
    refine at_if_eq (off := 13) 48 38 rfl (by decide +kernel) (by decide +kernel) (fun c12 => ?_) (fun c12 => ?_)
    · rw [if_pos c12] at h
      refine at_lconst (n := 0) (0 : Int64) 49 rfl (by decide +kernel) (by decide +kernel) ?_
      refine at_ladd 50 rfl (by decide +kernel) ?_
      refine at_lstore_n (i := 3) (lc' := [(0, va_rf (some t)), (1, .int (l1)), (2, .int (l2)), (3, .long (l3 + (0 : Int64))), (5, .int (l5))]) [1, 2, 3, 0, 4] 51 rfl (by decide +kernel) (by decide +kernel) rfl ?_
      refine at_iinc (i := 5) (n := 1) (lc' := [(0, va_rf (some t)), (1, .int (l1)), (2, .int (l2)), (3, .long (l3 + (0 : Int64))), (5, .int (l5 + (1 : Int32)))]) (l5 + (1 : Int32)) 4 [1, 2, 3, 4, 0] 54 rfl (by decide +kernel) rfl (by rw [show Int32.ofInt 1 = (1 : Int32) from by decide +kernel]) (by decide +kernel) rfl ?_
      refine at_goto (off := (-44)) 10 (by decide +kernel) (by decide +kernel) ?_
      exact h
    · rw [if_neg c12] at h
      refine at_aload_n (i := 0) 0 39 rfl (by decide +kernel) rfl ?_
      refine at_get (index := 119) (v := va_rf (mR m8 t 39)) cok12 39 42 rfl (by decide +kernel) k10 (by decide +kernel) tw_1124 rfl ?_
      refine at_iload (i := 5) 4 44 rfl (by decide +kernel) rfl ?_
      obtain ⟨b13, e14, h⟩ := h
      rw [e14]
      obtain ⟨k15, h⟩ := h
      obtain ⟨v16, h⟩ := h
      refine at_lald 45 rfl (by decide +kernel) k15 v16 ?_
      refine at_goto (off := 4) 49 (by decide +kernel) (by decide +kernel) ?_
      refine at_ladd 50 rfl (by decide +kernel) ?_
      refine at_lstore_n (i := 3) (lc' := [(0, va_rf (some t)), (1, .int (l1)), (2, .int (l2)), (3, .long (l3 + (mL m8 b13 l5.toNatClampNeg))), (5, .int (l5))]) [1, 2, 3, 0, 4] 51 rfl (by decide +kernel) (by decide +kernel) rfl ?_
      refine at_iinc (i := 5) (n := 1) (lc' := [(0, va_rf (some t)), (1, .int (l1)), (2, .int (l2)), (3, .long (l3 + (mL m8 b13 l5.toNatClampNeg))), (5, .int (l5 + (1 : Int32)))]) (l5 + (1 : Int32)) 4 [1, 2, 3, 4, 0] 54 rfl (by decide +kernel) rfl (by rw [show Int32.ofInt 1 = (1 : Int32) from by decide +kernel]) (by decide +kernel) rfl ?_
      refine at_goto (off := (-44)) 10 (by decide +kernel) (by decide +kernel) ?_
      exact h
set_option maxRecDepth 20000 in
set_option maxHeartbeats 4000000 in
theorem en_RF_gains (g : Gc) {lv : Nat} {t : Nat} {l1 : Int32} {l2 : Int32} {m : Mm} {Q : Int64 → Mm → Prop} (h : mK m t = 13 ∧ (∀ m2, m2 = sI m t 0 (0 : Int32) → (At g M_RF_gains (lv + 1) 10 [(0, va_rf (some t)), (1, .int (l1)), (2, .int (l2)), (3, .long ((0 : Int64))), (5, .int ((0 : Int32)))] [] m2 (QJ Q)))) : CJ g M_RF_gains (lv + 1) [va_rf (some t), .int (l1), .int (l2)] m Q := by
  refine Call.of (by decide +kernel) (Nat.le_of_ble_eq_true rfl) ?_
  show At g M_RF_gains (lv + 1) 0 [(0, va_rf (some t)), (1, .int (l1)), (2, .int (l2))] [] m (QJ Q)
  refine at_aload_n (i := 0) 0 1 rfl (by decide +kernel) rfl ?_
  refine at_iconst (n := 0) (0 : Int32) 2 rfl (by decide +kernel) (by decide +kernel) ?_
  obtain ⟨k1, h⟩ := h
  refine at_putI (index := 149) cok12 0 5 rfl (by decide +kernel) k1 (by decide +kernel) tw_1085 rfl rfl rfl (fun m2 e3 => ?_)
  replace h := h m2 e3
  have k4 : mK m2 t = 13 := by rw [e3]; exact k1
  refine at_lconst (n := 0) (0 : Int64) 6 rfl (by decide +kernel) (by decide +kernel) ?_
  refine at_lstore_n (i := 3) (lc' := [(0, va_rf (some t)), (1, .int (l1)), (2, .int (l2)), (3, .long ((0 : Int64)))]) [1, 2, 3, 0] 7 rfl (by decide +kernel) (by decide +kernel) rfl ?_
  refine at_iconst (n := 0) (0 : Int32) 8 rfl (by decide +kernel) (by decide +kernel) ?_
  refine at_istore (i := 5) (lc' := [(0, va_rf (some t)), (1, .int (l1)), (2, .int (l2)), (3, .long ((0 : Int64))), (5, .int ((0 : Int32)))]) [1, 2, 3, 4, 0] 10 rfl (by decide +kernel) (by decide +kernel) rfl ?_
  exact h
set_option maxRecDepth 20000 in
set_option maxHeartbeats 4000000 in
theorem bk_RF_beside_335 (g : Gc) {lv : Nat} {t : Nat} {l2 : Int64} {l4 : Int32} {m : Mm} {Q : Int64 → Mm → Prop} (h : mK m t = 13 ∧ (if (mI m t 19) ≤ (l4) then (Q l2 m) else (∃ b3, mR m t 35 = some b3 ∧ (mK m b3 = 15 ∧ (vp_in ((12 : Int32) + l4) (mN m b3) ∧ (At g M_RF_beside (lv + 1) 335 [(0, va_rf (some t)), (2, .long (l2 + ((mI m b3 ((12 : Int32) + l4).toNatClampNeg).toInt64))), (4, .int (l4 + (1 : Int32)))] [] m (QJ Q))))))) : At g M_RF_beside (lv + 1) 335 [(0, va_rf (some t)), (2, .long (l2)), (4, .int (l4))] [] m (QJ Q) := by
  refine at_iload (i := 4) 2 337 rfl (by decide +kernel) rfl ?_
  refine at_aload_n (i := 0) 0 338 rfl (by decide +kernel) rfl ?_
  obtain ⟨k1, h⟩ := h
  refine at_get (index := 185) (v := .int (mI m t 19)) cok12 19 341 rfl (by decide +kernel) k1 (by decide +kernel) tw_1104 rfl ?_
  refine at_icmp_ge (off := 23) 364 344 rfl (by decide +kernel) (by decide +kernel) (fun c2 => ?_) (fun c2 => ?_)
  · rw [if_pos c2] at h
    refine at_lload_n (i := 2) 1 365 rfl (by decide +kernel) rfl ?_
    exact at_lret rfl (by decide +kernel) h
  · rw [if_neg c2] at h
    refine at_lload_n (i := 2) 1 345 rfl (by decide +kernel) rfl ?_
    refine at_aload_n (i := 0) 0 346 rfl (by decide +kernel) rfl ?_
    refine at_get (index := 107) (v := va_rf (mR m t 35)) cok12 35 349 rfl (by decide +kernel) k1 (by decide +kernel) tw_1120 rfl ?_
    refine at_bipush (n := 12) (12 : Int32) 351 rfl (by decide +kernel) (by decide +kernel) ?_
    refine at_iload (i := 4) 2 353 rfl (by decide +kernel) rfl ?_
    refine at_iadd 354 rfl (by decide +kernel) ?_
    obtain ⟨b3, e4, h⟩ := h
    rw [e4]
    obtain ⟨k5, h⟩ := h
    obtain ⟨v6, h⟩ := h
    refine at_iald 355 rfl (by decide +kernel) k5 v6 ?_
    refine at_i2l 356 rfl (by decide +kernel) ?_
    refine at_ladd 357 rfl (by decide +kernel) ?_
    refine at_lstore_n (i := 2) (lc' := [(0, va_rf (some t)), (2, .long (l2 + ((mI m b3 ((12 : Int32) + l4).toNatClampNeg).toInt64))), (4, .int (l4))]) [1, 0, 2] 358 rfl (by decide +kernel) (by decide +kernel) rfl ?_
    refine at_iinc (i := 4) (n := 1) (lc' := [(0, va_rf (some t)), (2, .long (l2 + ((mI m b3 ((12 : Int32) + l4).toNatClampNeg).toInt64))), (4, .int (l4 + (1 : Int32)))]) (l4 + (1 : Int32)) 2 [1, 2, 0] 361 rfl (by decide +kernel) rfl (by rw [show Int32.ofInt 1 = (1 : Int32) from by decide +kernel]) (by decide +kernel) rfl ?_
    refine at_goto (off := (-26)) 335 (by decide +kernel) (by decide +kernel) ?_
    exact h
set_option maxRecDepth 20000 in
set_option maxHeartbeats 4000000 in
theorem bk_RF_beside_302 (g : Gc) {lv : Nat} {t : Nat} {l2 : Int64} {l4 : Int32} {m : Mm} {Q : Int64 → Mm → Prop} (h : mK m t = 13 ∧ (if (mI m t 19) ≤ (l4) then (Q l2 m) else (∃ b3, mR m t 39 = some b3 ∧ (mK m b3 = 16 ∧ (vp_in ((15 : Int32) + l4) (mN m b3) ∧ (At g M_RF_beside (lv + 1) 302 [(0, va_rf (some t)), (2, .long (l2 + (mL m b3 ((15 : Int32) + l4).toNatClampNeg))), (4, .int (l4 + (1 : Int32)))] [] m (QJ Q))))))) : At g M_RF_beside (lv + 1) 302 [(0, va_rf (some t)), (2, .long (l2)), (4, .int (l4))] [] m (QJ Q) := by
  refine at_iload (i := 4) 2 304 rfl (by decide +kernel) rfl ?_
  refine at_aload_n (i := 0) 0 305 rfl (by decide +kernel) rfl ?_
  obtain ⟨k1, h⟩ := h
  refine at_get (index := 185) (v := .int (mI m t 19)) cok12 19 308 rfl (by decide +kernel) k1 (by decide +kernel) tw_1104 rfl ?_
  refine at_icmp_ge (off := 22) 330 311 rfl (by decide +kernel) (by decide +kernel) (fun c2 => ?_) (fun c2 => ?_)
  · rw [if_pos c2] at h
    refine at_lload_n (i := 2) 1 331 rfl (by decide +kernel) rfl ?_
    exact at_lret rfl (by decide +kernel) h
  · rw [if_neg c2] at h
    refine at_lload_n (i := 2) 1 312 rfl (by decide +kernel) rfl ?_
    refine at_aload_n (i := 0) 0 313 rfl (by decide +kernel) rfl ?_
    refine at_get (index := 119) (v := va_rf (mR m t 39)) cok12 39 316 rfl (by decide +kernel) k1 (by decide +kernel) tw_1124 rfl ?_
    refine at_bipush (n := 15) (15 : Int32) 318 rfl (by decide +kernel) (by decide +kernel) ?_
    refine at_iload (i := 4) 2 320 rfl (by decide +kernel) rfl ?_
    refine at_iadd 321 rfl (by decide +kernel) ?_
    obtain ⟨b3, e4, h⟩ := h
    rw [e4]
    obtain ⟨k5, h⟩ := h
    obtain ⟨v6, h⟩ := h
    refine at_lald 322 rfl (by decide +kernel) k5 v6 ?_
    refine at_ladd 323 rfl (by decide +kernel) ?_
    refine at_lstore_n (i := 2) (lc' := [(0, va_rf (some t)), (2, .long (l2 + (mL m b3 ((15 : Int32) + l4).toNatClampNeg))), (4, .int (l4))]) [1, 0, 2] 324 rfl (by decide +kernel) (by decide +kernel) rfl ?_
    refine at_iinc (i := 4) (n := 1) (lc' := [(0, va_rf (some t)), (2, .long (l2 + (mL m b3 ((15 : Int32) + l4).toNatClampNeg))), (4, .int (l4 + (1 : Int32)))]) (l4 + (1 : Int32)) 2 [1, 2, 0] 327 rfl (by decide +kernel) rfl (by rw [show Int32.ofInt 1 = (1 : Int32) from by decide +kernel]) (by decide +kernel) rfl ?_
    refine at_goto (off := (-25)) 302 (by decide +kernel) (by decide +kernel) ?_
    exact h
set_option maxRecDepth 20000 in
set_option maxHeartbeats 4000000 in
theorem bk_RF_beside_153 (g : Gc) {lv : Nat} {t : Nat} {l1 : Int32} {l2 : Int32} {m : Mm} {Q : Int64 → Mm → Prop} (h : mK m t = 13 ∧ (if (mI m t 19) ≤ (l2) then (CI g M_RF_passes lv [va_rf (some t), .int ((1 : Int32)), .int ((30 : Int32)), va_rf (mR m t 29), .int ((0 : Int32))] m (fun x3 m4 => (∃ b7, mR m4 t 31 = some b7 ∧ (mK m4 b7 = 15 ∧ (vp_in (1 : Int32) (mN m4 b7) ∧ (vp_in (1 : Int32) (mN m4 b7) ∧ (∀ m12, m12 = sI m4 b7 (1 : Int32).toNatClampNeg ((mI m4 b7 (1 : Int32).toNatClampNeg) + (1 : Int32)) → (At g M_RF_beside (lv + 1) 136 [(0, va_rf (some t)), (1, .int (l1))] [] m12 (QJ Q))))))))) else (∃ b16, mR m t 31 = some b16 ∧ (mK m b16 = 15 ∧ (vp_in (1 : Int32) (mN m b16) ∧ (∃ b20, mR m t 28 = some b20 ∧ (mK m b20 = 17 ∧ (vp_in (((12 : Int32) * (mI m b16 (1 : Int32).toNatClampNeg)) + l2) (mN m b20) ∧ (if (mI m b20 (((12 : Int32) * (mI m b16 (1 : Int32).toNatClampNeg)) + l2).toNatClampNeg) = 0 then (∃ b25, mR m t 35 = some b25 ∧ (mK m b25 = 15 ∧ (vp_in ((12 : Int32) + l2) (mN m b25) ∧ (vp_in (1 : Int32) (mN m b16) ∧ (∃ b30, mR m t 25 = some b30 ∧ (mK m b30 = 15 ∧ (vp_in (mI m b16 (1 : Int32).toNatClampNeg) (mN m b30) ∧ (∃ b34, mR m t 29 = some b34 ∧ (mK m b34 = 15 ∧ (vp_in l2 (mN m b34) ∧ (∀ m38, m38 = sI m b34 l2.toNatClampNeg ((mI m b25 ((12 : Int32) + l2).toNatClampNeg) * (mI m b30 (mI m b16 (1 : Int32).toNatClampNeg).toNatClampNeg)) → (At g M_RF_beside (lv + 1) 153 [(0, va_rf (some t)), (1, .int (l1)), (2, .int (l2 + (1 : Int32)))] [] m38 (QJ Q))))))))))))) else (∃ b46, mR m t 23 = some b46 ∧ (mK m b46 = 15 ∧ (vp_in (((12 : Int32) * (mI m b16 (1 : Int32).toNatClampNeg)) + l2) (mN m b46) ∧ (∃ b50, mR m t 29 = some b50 ∧ (mK m b50 = 15 ∧ (vp_in l2 (mN m b50) ∧ (∀ m54, m54 = sI m b50 l2.toNatClampNeg (mI m b46 (((12 : Int32) * (mI m b16 (1 : Int32).toNatClampNeg)) + l2).toNatClampNeg) → (At g M_RF_beside (lv + 1) 153 [(0, va_rf (some t)), (1, .int (l1)), (2, .int (l2 + (1 : Int32)))] [] m54 (QJ Q)))))))))))))))))) : At g M_RF_beside (lv + 1) 153 [(0, va_rf (some t)), (1, .int (l1)), (2, .int (l2))] [] m (QJ Q) := by
  refine at_iload_n (i := 2) 2 154 rfl (by decide +kernel) rfl ?_
  refine at_aload_n (i := 0) 0 155 rfl (by decide +kernel) rfl ?_
  obtain ⟨k1, h⟩ := h
  refine at_get (index := 185) (v := .int (mI m t 19)) cok12 19 158 rfl (by decide +kernel) k1 (by decide +kernel) tw_1104 rfl ?_
  refine at_icmp_ge (off := 66) 224 161 rfl (by decide +kernel) (by decide +kernel) (fun c2 => ?_) (fun c2 => ?_)
  · rw [if_pos c2] at h
    refine at_aload_n (i := 0) 0 225 rfl (by decide +kernel) rfl ?_
    refine at_iconst (n := 1) (1 : Int32) 226 rfl (by decide +kernel) (by decide +kernel) ?_
    refine at_bipush (n := 30) (30 : Int32) 228 rfl (by decide +kernel) (by decide +kernel) ?_
    refine at_aload_n (i := 0) 0 229 rfl (by decide +kernel) rfl ?_
    refine at_get (index := 89) (v := va_rf (mR m t 29)) cok12 29 232 rfl (by decide +kernel) k1 (by decide +kernel) tw_1114 rfl ?_
    refine at_iconst (n := 0) (0 : Int32) 233 rfl (by decide +kernel) (by decide +kernel) ?_
    refine at_callV mb_RF_passes tw_1443 tw_46 cok12 k1 (index := 374) tw_1441 [.int ((1 : Int32)), .int ((30 : Int32)), va_rf (mR m t 29), .int ((0 : Int32))] [] rfl rfl (by decide) 236 rfl (by decide +kernel) (Call.toI (CI.monoE h (fun x3 m4 h y5 => ?_)))
    have k6 : mK m4 t = 13 := y5.k k1 (by decide)
    refine at_istore_n (i := 2) (lc' := [(0, va_rf (some t)), (1, .int (l1)), (2, .int (x3))]) [1, 2, 0] 237 rfl (by decide +kernel) (by decide +kernel) rfl ?_
    refine at_aload_n (i := 0) 0 238 rfl (by decide +kernel) rfl ?_
    refine at_get (index := 95) (v := va_rf (mR m4 t 31)) cok12 31 241 rfl (by decide +kernel) k6 (by decide +kernel) tw_1116 rfl ?_
    refine at_iconst (n := 1) (1 : Int32) 242 rfl (by decide +kernel) (by decide +kernel) ?_
    refine at_dup2_11 243 rfl (by decide +kernel) rfl (va_rf_cat _) ?_
    obtain ⟨b7, e8, h⟩ := h
    rw [e8]
    obtain ⟨k9, h⟩ := h
    obtain ⟨v10, h⟩ := h
    refine at_iald 244 rfl (by decide +kernel) k9 v10 ?_
    refine at_iconst (n := 1) (1 : Int32) 245 rfl (by decide +kernel) (by decide +kernel) ?_
    refine at_iadd 246 rfl (by decide +kernel) ?_
    obtain ⟨v11, h⟩ := h
    refine at_iast 247 rfl (by decide +kernel) k9 v11 (fun m12 e13 => ?_)
    replace h := h m12 e13
    have k14 : mK m12 t = 13 := by rw [e13]; exact k6
    have k15 : mK m12 b7 = 15 := by rw [e13]; exact k9
    refine at_goto (off := (-111)) 136 (by decide +kernel) (by decide +kernel) ?_
    exact At.sub [0, 1] rfl h
  · rw [if_neg c2] at h
    refine at_bipush (n := 12) (12 : Int32) 163 rfl (by decide +kernel) (by decide +kernel) ?_
    refine at_aload_n (i := 0) 0 164 rfl (by decide +kernel) rfl ?_
    refine at_get (index := 95) (v := va_rf (mR m t 31)) cok12 31 167 rfl (by decide +kernel) k1 (by decide +kernel) tw_1116 rfl ?_
    refine at_iconst (n := 1) (1 : Int32) 168 rfl (by decide +kernel) (by decide +kernel) ?_
    obtain ⟨b16, e17, h⟩ := h
    rw [e17]
    obtain ⟨k18, h⟩ := h
    obtain ⟨v19, h⟩ := h
    refine at_iald 169 rfl (by decide +kernel) k18 v19 ?_
    refine at_imul 170 rfl (by decide +kernel) ?_
    refine at_iload_n (i := 2) 2 171 rfl (by decide +kernel) rfl ?_
    refine at_iadd 172 rfl (by decide +kernel) ?_
    refine at_istore_n (i := 3) (lc' := [(0, va_rf (some t)), (1, .int (l1)), (2, .int (l2)), (3, .int (((12 : Int32) * (mI m b16 (1 : Int32).toNatClampNeg)) + l2))]) [1, 2, 3, 0] 173 rfl (by decide +kernel) (by decide +kernel) rfl ?_
    refine at_aload_n (i := 0) 0 174 rfl (by decide +kernel) rfl ?_
    refine at_get (index := 89) (v := va_rf (mR m t 29)) cok12 29 177 rfl (by decide +kernel) k1 (by decide +kernel) tw_1114 rfl ?_
    refine at_iload_n (i := 2) 2 178 rfl (by decide +kernel) rfl ?_
    refine at_aload_n (i := 0) 0 179 rfl (by decide +kernel) rfl ?_
    refine at_get (index := 86) (v := va_rf (mR m t 28)) cok12 28 182 rfl (by decide +kernel) k1 (by decide +kernel) tw_1113 rfl ?_
    refine at_iload_n (i := 3) 3 183 rfl (by decide +kernel) rfl ?_
    obtain ⟨b20, e21, h⟩ := h
    rw [e21]
    obtain ⟨k22, h⟩ := h
    obtain ⟨v23, h⟩ := h
    refine at_zald 184 rfl (by decide +kernel) k22 v23 ?_
    refine at_if_eq (off := 12) 196 187 rfl (by decide +kernel) (by decide +kernel) (fun c24 => ?_) (fun c24 => ?_)
    · rw [if_pos c24] at h
      refine at_aload_n (i := 0) 0 197 rfl (by decide +kernel) rfl ?_
      refine at_get (index := 107) (v := va_rf (mR m t 35)) cok12 35 200 rfl (by decide +kernel) k1 (by decide +kernel) tw_1120 rfl ?_
      refine at_bipush (n := 12) (12 : Int32) 202 rfl (by decide +kernel) (by decide +kernel) ?_
      refine at_iload_n (i := 2) 2 203 rfl (by decide +kernel) rfl ?_
      refine at_iadd 204 rfl (by decide +kernel) ?_
      obtain ⟨b25, e26, h⟩ := h
      rw [e26]
      obtain ⟨k27, h⟩ := h
      obtain ⟨v28, h⟩ := h
      refine at_iald 205 rfl (by decide +kernel) k27 v28 ?_
      refine at_aload_n (i := 0) 0 206 rfl (by decide +kernel) rfl ?_
      refine at_get (index := 76) (v := va_rf (mR m t 25)) cok12 25 209 rfl (by decide +kernel) k1 (by decide +kernel) tw_1110 rfl ?_
      refine at_aload_n (i := 0) 0 210 rfl (by decide +kernel) rfl ?_
      refine at_get (index := 95) (v := va_rf (mR m t 31)) cok12 31 213 rfl (by decide +kernel) k1 (by decide +kernel) tw_1116 rfl ?_
      rw [e17]
      refine at_iconst (n := 1) (1 : Int32) 214 rfl (by decide +kernel) (by decide +kernel) ?_
      obtain ⟨v29, h⟩ := h
      refine at_iald 215 rfl (by decide +kernel) k18 v29 ?_
      obtain ⟨b30, e31, h⟩ := h
      rw [e31]
      obtain ⟨k32, h⟩ := h
      obtain ⟨v33, h⟩ := h
      refine at_iald 216 rfl (by decide +kernel) k32 v33 ?_
      refine at_imul 217 rfl (by decide +kernel) ?_
      obtain ⟨b34, e35, h⟩ := h
      rw [e35]
      obtain ⟨k36, h⟩ := h
      obtain ⟨v37, h⟩ := h
      refine at_iast 218 rfl (by decide +kernel) k36 v37 (fun m38 e39 => ?_)
      replace h := h m38 e39
      have k40 : mK m38 t = 13 := by rw [e39]; exact k1
      have k41 : mK m38 b16 = 15 := by rw [e39]; exact k18
      have k42 : mK m38 b20 = 17 := by rw [e39]; exact k22
      have k43 : mK m38 b25 = 15 := by rw [e39]; exact k27
      have k44 : mK m38 b30 = 15 := by rw [e39]; exact k32
      have k45 : mK m38 b34 = 15 := by rw [e39]; exact k36
      refine at_iinc (i := 2) (n := 1) (lc' := [(0, va_rf (some t)), (1, .int (l1)), (2, .int (l2 + (1 : Int32)))]) (l2 + (1 : Int32)) 2 [1, 2, 0] 221 rfl (by decide +kernel) rfl (by rw [show Int32.ofInt 1 = (1 : Int32) from by decide +kernel]) (by decide +kernel) rfl ?_
      refine at_goto (off := (-68)) 153 (by decide +kernel) (by decide +kernel) ?_
      exact h
    · rw [if_neg c24] at h
      refine at_aload_n (i := 0) 0 188 rfl (by decide +kernel) rfl ?_
      refine at_get (index := 70) (v := va_rf (mR m t 23)) cok12 23 191 rfl (by decide +kernel) k1 (by decide +kernel) tw_1108 rfl ?_
      refine at_iload_n (i := 3) 3 192 rfl (by decide +kernel) rfl ?_
      obtain ⟨b46, e47, h⟩ := h
      rw [e47]
      obtain ⟨k48, h⟩ := h
      obtain ⟨v49, h⟩ := h
      refine at_iald 193 rfl (by decide +kernel) k48 v49 ?_
      refine at_goto (off := 24) 217 (by decide +kernel) (by decide +kernel) ?_
      obtain ⟨b50, e51, h⟩ := h
      rw [e51]
      obtain ⟨k52, h⟩ := h
      obtain ⟨v53, h⟩ := h
      refine at_iast 218 rfl (by decide +kernel) k52 v53 (fun m54 e55 => ?_)
      replace h := h m54 e55
      have k56 : mK m54 t = 13 := by rw [e55]; exact k1
      have k57 : mK m54 b16 = 15 := by rw [e55]; exact k18
      have k58 : mK m54 b20 = 17 := by rw [e55]; exact k22
      have k59 : mK m54 b46 = 15 := by rw [e55]; exact k48
      have k60 : mK m54 b50 = 15 := by rw [e55]; exact k52
      refine at_iinc (i := 2) (n := 1) (lc' := [(0, va_rf (some t)), (1, .int (l1)), (2, .int (l2 + (1 : Int32)))]) (l2 + (1 : Int32)) 2 [1, 2, 0] 221 rfl (by decide +kernel) rfl (by rw [show Int32.ofInt 1 = (1 : Int32) from by decide +kernel]) (by decide +kernel) rfl ?_
      refine at_goto (off := (-68)) 153 (by decide +kernel) (by decide +kernel) ?_
      exact h
set_option maxRecDepth 20000 in
set_option maxHeartbeats 4000000 in
theorem bk_RF_beside_136 (g : Gc) {lv : Nat} {t : Nat} {l1 : Int32} {m : Mm} {Q : Int64 → Mm → Prop} (h : mK m t = 13 ∧ (∃ b2, mR m t 31 = some b2 ∧ (mK m b2 = 15 ∧ (vp_in (1 : Int32) (mN m b2) ∧ (vp_in (0 : Int32) (mN m b2) ∧ (if (mI m b2 (0 : Int32).toNatClampNeg) ≤ (mI m b2 (1 : Int32).toNatClampNeg) then (if l1 = (0 : Int32) then (∃ b10, mR m t 32 = some b10 ∧ (mK m b10 = 15 ∧ (vp_in (1 : Int32) (mN m b10) ∧ (Q ((mI m b10 (1 : Int32).toNatClampNeg).toInt64) m)))) else (if l1 = (1 : Int32) then (CI g M_RF_store lv [va_rf (some t), .int ((1 : Int32))] m (fun x15 m16 => (Q x15.toInt64 m16))) else (if l1 = (2 : Int32) then (At g M_RF_beside (lv + 1) 302 [(0, va_rf (some t)), (2, .long ((0 : Int64))), (4, .int ((0 : Int32)))] [] m (QJ Q)) else (if l1 = (3 : Int32) then (At g M_RF_beside (lv + 1) 335 [(0, va_rf (some t)), (2, .long ((0 : Int64))), (4, .int ((0 : Int32)))] [] m (QJ Q)) else (CI g M_RF_frees lv [va_rf (some t), .int ((1 : Int32))] m (fun x22 m23 => (Q x22.toInt64 m23))))))) else (At g M_RF_beside (lv + 1) 153 [(0, va_rf (some t)), (1, .int (l1)), (2, .int ((0 : Int32)))] [] m (QJ Q)))))))) : At g M_RF_beside (lv + 1) 136 [(0, va_rf (some t)), (1, .int (l1))] [] m (QJ Q) := by
  refine at_aload_n (i := 0) 0 137 rfl (by decide +kernel) rfl ?_
  obtain ⟨k1, h⟩ := h
  refine at_get (index := 95) (v := va_rf (mR m t 31)) cok12 31 140 rfl (by decide +kernel) k1 (by decide +kernel) tw_1116 rfl ?_
  refine at_iconst (n := 1) (1 : Int32) 141 rfl (by decide +kernel) (by decide +kernel) ?_
  obtain ⟨b2, e3, h⟩ := h
  rw [e3]
  obtain ⟨k4, h⟩ := h
  obtain ⟨v5, h⟩ := h
  refine at_iald 142 rfl (by decide +kernel) k4 v5 ?_
  refine at_aload_n (i := 0) 0 143 rfl (by decide +kernel) rfl ?_
  refine at_get (index := 95) (v := va_rf (mR m t 31)) cok12 31 146 rfl (by decide +kernel) k1 (by decide +kernel) tw_1116 rfl ?_
  rw [e3]
  refine at_iconst (n := 0) (0 : Int32) 147 rfl (by decide +kernel) (by decide +kernel) ?_
  obtain ⟨v6, h⟩ := h
  refine at_iald 148 rfl (by decide +kernel) k4 v6 ?_
  refine at_icmp_ge (off := 102) 250 151 rfl (by decide +kernel) (by decide +kernel) (fun c7 => ?_) (fun c7 => ?_)
  · rw [if_pos c7] at h
    refine at_lconst (n := 0) (0 : Int64) 251 rfl (by decide +kernel) (by decide +kernel) ?_
    refine at_lstore_n (i := 2) (lc' := [(0, va_rf (some t)), (1, .int (l1)), (2, .long ((0 : Int64)))]) [1, 2, 0] 252 rfl (by decide +kernel) (by decide +kernel) rfl ?_
    refine at_iload_n (i := 1) 1 253 rfl (by decide +kernel) rfl ?_
    by_cases c9 : l1 = (0 : Int32)
    · rw [if_pos c9] at h
      have w8 : l1.toInt = 0 := by rw [c9]; decide +kernel
      refine at_tabIn (dflt := 113) (lo := 0) (hi := 3) (offs := #[31, 39, 46, 79]) (len := 31) (off := 31) 284 (by decide +kernel) (by rw [w8]; decide) (by rw [w8]; decide) (by rw [w8]; decide +kernel) (by decide +kernel) ?_
      refine at_aload_n (i := 0) 0 285 rfl (by decide +kernel) rfl ?_
      refine at_get (index := 98) (v := va_rf (mR m t 32)) cok12 32 288 rfl (by decide +kernel) k1 (by decide +kernel) tw_1117 rfl ?_
      refine at_iconst (n := 1) (1 : Int32) 289 rfl (by decide +kernel) (by decide +kernel) ?_
      obtain ⟨b10, e11, h⟩ := h
      rw [e11]
      obtain ⟨k12, h⟩ := h
      obtain ⟨v13, h⟩ := h
      refine at_iald 290 rfl (by decide +kernel) k12 v13 ?_
      refine at_i2l 291 rfl (by decide +kernel) ?_
      exact at_lret rfl (by decide +kernel) h
    rw [if_neg c9] at h
    by_cases c14 : l1 = (1 : Int32)
    · rw [if_pos c14] at h
      have w8 : l1.toInt = 1 := by rw [c14]; decide +kernel
      refine at_tabIn (dflt := 113) (lo := 0) (hi := 3) (offs := #[31, 39, 46, 79]) (len := 31) (off := 39) 292 (by decide +kernel) (by rw [w8]; decide) (by rw [w8]; decide) (by rw [w8]; decide +kernel) (by decide +kernel) ?_
      refine at_aload_n (i := 0) 0 293 rfl (by decide +kernel) rfl ?_
      refine at_iconst (n := 1) (1 : Int32) 294 rfl (by decide +kernel) (by decide +kernel) ?_
      refine at_callV mb_RF_store tw_1447 tw_47 cok12 k1 (index := 344) tw_1445 [.int ((1 : Int32))] [] rfl rfl (by decide) 297 rfl (by decide +kernel) (Call.toI (CI.monoE h (fun x15 m16 h y17 => ?_)))
      have k18 : mK m16 t = 13 := y17.k k1 (by decide)
      have k19 : mK m16 b2 = 15 := y17.k k4 (by decide)
      refine at_i2l 298 rfl (by decide +kernel) ?_
      exact at_lret rfl (by decide +kernel) h
    rw [if_neg c14] at h
    by_cases c20 : l1 = (2 : Int32)
    · rw [if_pos c20] at h
      have w8 : l1.toInt = 2 := by rw [c20]; decide +kernel
      refine at_tabIn (dflt := 113) (lo := 0) (hi := 3) (offs := #[31, 39, 46, 79]) (len := 31) (off := 46) 299 (by decide +kernel) (by rw [w8]; decide) (by rw [w8]; decide) (by rw [w8]; decide +kernel) (by decide +kernel) ?_
      refine at_iconst (n := 0) (0 : Int32) 300 rfl (by decide +kernel) (by decide +kernel) ?_
      refine at_istore (i := 4) (lc' := [(0, va_rf (some t)), (2, .long ((0 : Int64))), (4, .int ((0 : Int32)))]) [1, 3, 0] 302 rfl (by decide +kernel) (by decide +kernel) rfl ?_
      exact h
    rw [if_neg c20] at h
    by_cases c21 : l1 = (3 : Int32)
    · rw [if_pos c21] at h
      have w8 : l1.toInt = 3 := by rw [c21]; decide +kernel
      refine at_tabIn (dflt := 113) (lo := 0) (hi := 3) (offs := #[31, 39, 46, 79]) (len := 31) (off := 79) 332 (by decide +kernel) (by rw [w8]; decide) (by rw [w8]; decide) (by rw [w8]; decide +kernel) (by decide +kernel) ?_
      refine at_iconst (n := 0) (0 : Int32) 333 rfl (by decide +kernel) (by decide +kernel) ?_
      refine at_istore (i := 4) (lc' := [(0, va_rf (some t)), (2, .long ((0 : Int64))), (4, .int ((0 : Int32)))]) [1, 3, 0] 335 rfl (by decide +kernel) (by decide +kernel) rfl ?_
      exact h
    rw [if_neg c21] at h
    have c9e : l1.toInt ≠ 0 := fun e => c9 (Int32.toInt_inj.mp (e.trans (by decide +kernel)))
    have c14e : l1.toInt ≠ 1 := fun e => c14 (Int32.toInt_inj.mp (e.trans (by decide +kernel)))
    have c20e : l1.toInt ≠ 2 := fun e => c20 (Int32.toInt_inj.mp (e.trans (by decide +kernel)))
    have c21e : l1.toInt ≠ 3 := fun e => c21 (Int32.toInt_inj.mp (e.trans (by decide +kernel)))
    refine at_tabOut (dflt := 113) (lo := 0) (hi := 3) (offs := #[31, 39, 46, 79]) (len := 31) 366 (by decide +kernel) (by omega) (by decide +kernel) ?_
    refine at_aload_n (i := 0) 0 367 rfl (by decide +kernel) rfl ?_
    refine at_iconst (n := 1) (1 : Int32) 368 rfl (by decide +kernel) (by decide +kernel) ?_
    refine at_callV mb_RF_frees tw_1465 tw_51 cok12 k1 (index := 359) tw_1463 [.int ((1 : Int32))] [] rfl rfl (by decide) 371 rfl (by decide +kernel) (Call.toI (CI.monoE h (fun x22 m23 h y24 => ?_)))
    have k25 : mK m23 t = 13 := y24.k k1 (by decide)
    have k26 : mK m23 b2 = 15 := y24.k k4 (by decide)
    refine at_i2l 372 rfl (by decide +kernel) ?_
    exact at_lret rfl (by decide +kernel) h
  · rw [if_neg c7] at h
    refine at_iconst (n := 0) (0 : Int32) 152 rfl (by decide +kernel) (by decide +kernel) ?_
    refine at_istore_n (i := 2) (lc' := [(0, va_rf (some t)), (1, .int (l1)), (2, .int ((0 : Int32)))]) [1, 2, 0] 153 rfl (by decide +kernel) (by decide +kernel) rfl ?_
    exact h
set_option maxRecDepth 20000 in
set_option maxHeartbeats 4000000 in
theorem bk_RF_beside_82 (g : Gc) {lv : Nat} {t : Nat} {l1 : Int32} {l2 : Int32} {l3 : Int32} {l4 : Int32} {m : Mm} {Q : Int64 → Mm → Prop} (h : if ((3 : Int32)) ≤ (l4) then (mK m t = 13 ∧ (∃ b3, mR m t 37 = some b3 ∧ (mK m b3 = 15 ∧ (vp_in l3 (mN m b3) ∧ (∀ m7, m7 = sI m b3 l3.toNatClampNeg (0 : Int32) → (∃ b11, mR m7 t 38 = some b11 ∧ (mK m7 b11 = 16 ∧ (vp_in l3 (mN m7 b11) ∧ (∀ m15, m15 = sL m7 b11 l3.toNatClampNeg (0 : Int64) → (∃ b20, mR m15 t 39 = some b20 ∧ (mK m15 b20 = 16 ∧ (vp_in ((15 : Int32) + l2) (mN m15 b20) ∧ (∀ m24, m24 = sL m15 b20 ((15 : Int32) + l2).toNatClampNeg (0 : Int64) → (At g M_RF_beside (lv + 1) 56 [(0, va_rf (some t)), (1, .int (l1)), (2, .int (l2 + (1 : Int32)))] [] m24 (QJ Q))))))))))))))) else (mK m t = 13 ∧ (∃ b31, mR m t 36 = some b31 ∧ (mK m b31 = 15 ∧ (vp_in (((3 : Int32) * l3) + l4) (mN m b31) ∧ (∀ m35, m35 = sI m b31 (((3 : Int32) * l3) + l4).toNatClampNeg (0 : Int32) → (At g M_RF_beside (lv + 1) 82 [(0, va_rf (some t)), (1, .int (l1)), (2, .int (l2)), (3, .int (l3)), (4, .int (l4 + (1 : Int32)))] [] m35 (QJ Q)))))))) : At g M_RF_beside (lv + 1) 82 [(0, va_rf (some t)), (1, .int (l1)), (2, .int (l2)), (3, .int (l3)), (4, .int (l4))] [] m (QJ Q) := by
  refine at_iload (i := 4) 4 84 rfl (by decide +kernel) rfl ?_
  refine at_iconst (n := 3) (3 : Int32) 85 rfl (by decide +kernel) (by decide +kernel) ?_
  refine at_icmp_ge (off := 21) 106 88 rfl (by decide +kernel) (by decide +kernel) (fun c1 => ?_) (fun c1 => ?_)
  · rw [if_pos c1] at h
    refine at_aload_n (i := 0) 0 107 rfl (by decide +kernel) rfl ?_
    obtain ⟨k2, h⟩ := h
    refine at_get (index := 113) (v := va_rf (mR m t 37)) cok12 37 110 rfl (by decide +kernel) k2 (by decide +kernel) tw_1122 rfl ?_
    refine at_iload_n (i := 3) 3 111 rfl (by decide +kernel) rfl ?_
    refine at_iconst (n := 0) (0 : Int32) 112 rfl (by decide +kernel) (by decide +kernel) ?_
    obtain ⟨b3, e4, h⟩ := h
    rw [e4]
    obtain ⟨k5, h⟩ := h
    obtain ⟨v6, h⟩ := h
    refine at_iast 113 rfl (by decide +kernel) k5 v6 (fun m7 e8 => ?_)
    replace h := h m7 e8
    have k9 : mK m7 t = 13 := by rw [e8]; exact k2
    have k10 : mK m7 b3 = 15 := by rw [e8]; exact k5
    refine at_aload_n (i := 0) 0 114 rfl (by decide +kernel) rfl ?_
    refine at_get (index := 116) (v := va_rf (mR m7 t 38)) cok12 38 117 rfl (by decide +kernel) k9 (by decide +kernel) tw_1123 rfl ?_
    refine at_iload_n (i := 3) 3 118 rfl (by decide +kernel) rfl ?_
    refine at_lconst (n := 0) (0 : Int64) 119 rfl (by decide +kernel) (by decide +kernel) ?_
    obtain ⟨b11, e12, h⟩ := h
    rw [e12]
    obtain ⟨k13, h⟩ := h
    obtain ⟨v14, h⟩ := h
    refine at_last 120 rfl (by decide +kernel) k13 v14 (fun m15 e16 => ?_)
    replace h := h m15 e16
    have k17 : mK m15 t = 13 := by rw [e16]; exact k9
    have k18 : mK m15 b3 = 15 := by rw [e16]; exact k10
    have k19 : mK m15 b11 = 16 := by rw [e16]; exact k13
    refine at_aload_n (i := 0) 0 121 rfl (by decide +kernel) rfl ?_
    refine at_get (index := 119) (v := va_rf (mR m15 t 39)) cok12 39 124 rfl (by decide +kernel) k17 (by decide +kernel) tw_1124 rfl ?_
    refine at_bipush (n := 15) (15 : Int32) 126 rfl (by decide +kernel) (by decide +kernel) ?_
    refine at_iload_n (i := 2) 2 127 rfl (by decide +kernel) rfl ?_
    refine at_iadd 128 rfl (by decide +kernel) ?_
    refine at_lconst (n := 0) (0 : Int64) 129 rfl (by decide +kernel) (by decide +kernel) ?_
    obtain ⟨b20, e21, h⟩ := h
    rw [e21]
    obtain ⟨k22, h⟩ := h
    obtain ⟨v23, h⟩ := h
    refine at_last 130 rfl (by decide +kernel) k22 v23 (fun m24 e25 => ?_)
    replace h := h m24 e25
    have k26 : mK m24 t = 13 := by rw [e25]; exact k17
    have k27 : mK m24 b3 = 15 := by rw [e25]; exact k18
    have k28 : mK m24 b11 = 16 := by rw [e25]; exact k19
    have k29 : mK m24 b20 = 16 := by rw [e25]; exact k22
    refine at_iinc (i := 2) (n := 1) (lc' := [(0, va_rf (some t)), (1, .int (l1)), (2, .int (l2 + (1 : Int32)))]) (l2 + (1 : Int32)) 2 [1, 2, 0] 133 rfl (by decide +kernel) rfl (by rw [show Int32.ofInt 1 = (1 : Int32) from by decide +kernel]) (by decide +kernel) rfl ?_
    refine at_goto (off := (-77)) 56 (by decide +kernel) (by decide +kernel) ?_
    exact h
  · rw [if_neg c1] at h
    refine at_aload_n (i := 0) 0 89 rfl (by decide +kernel) rfl ?_
    obtain ⟨k30, h⟩ := h
    refine at_get (index := 110) (v := va_rf (mR m t 36)) cok12 36 92 rfl (by decide +kernel) k30 (by decide +kernel) tw_1121 rfl ?_
    refine at_iconst (n := 3) (3 : Int32) 93 rfl (by decide +kernel) (by decide +kernel) ?_
    refine at_iload_n (i := 3) 3 94 rfl (by decide +kernel) rfl ?_
    refine at_imul 95 rfl (by decide +kernel) ?_
    refine at_iload (i := 4) 4 97 rfl (by decide +kernel) rfl ?_
    refine at_iadd 98 rfl (by decide +kernel) ?_
    refine at_iconst (n := 0) (0 : Int32) 99 rfl (by decide +kernel) (by decide +kernel) ?_
    obtain ⟨b31, e32, h⟩ := h
    rw [e32]
    obtain ⟨k33, h⟩ := h
    obtain ⟨v34, h⟩ := h
    refine at_iast 100 rfl (by decide +kernel) k33 v34 (fun m35 e36 => ?_)
    replace h := h m35 e36
    have k37 : mK m35 t = 13 := by rw [e36]; exact k30
    have k38 : mK m35 b31 = 15 := by rw [e36]; exact k33
    refine at_iinc (i := 4) (n := 1) (lc' := [(0, va_rf (some t)), (1, .int (l1)), (2, .int (l2)), (3, .int (l3)), (4, .int (l4 + (1 : Int32)))]) (l4 + (1 : Int32)) 4 [1, 2, 3, 4, 0] 103 rfl (by decide +kernel) rfl (by rw [show Int32.ofInt 1 = (1 : Int32) from by decide +kernel]) (by decide +kernel) rfl ?_
    refine at_goto (off := (-21)) 82 (by decide +kernel) (by decide +kernel) ?_
    exact h
set_option maxRecDepth 20000 in
set_option maxHeartbeats 4000000 in
theorem bk_RF_beside_56 (g : Gc) {lv : Nat} {t : Nat} {l1 : Int32} {l2 : Int32} {m : Mm} {Q : Int64 → Mm → Prop} (h : if ((12 : Int32)) ≤ (l2) then (At g M_RF_beside (lv + 1) 136 [(0, va_rf (some t)), (1, .int (l1))] [] m (QJ Q)) else (mK m t = 13 ∧ (∃ b3, mR m t 21 = some b3 ∧ (mK m b3 = 15 ∧ (vp_in l2 (mN m b3) ∧ (∃ b7, mR m t 35 = some b7 ∧ (mK m b7 = 15 ∧ (vp_in ((12 : Int32) + l2) (mN m b7) ∧ (∀ m11, m11 = sI m b7 ((12 : Int32) + l2).toNatClampNeg (mI m b3 l2.toNatClampNeg) → (At g M_RF_beside (lv + 1) 82 [(0, va_rf (some t)), (1, .int (l1)), (2, .int (l2)), (3, .int ((12 : Int32) + l2)), (4, .int ((0 : Int32)))] [] m11 (QJ Q))))))))))) : At g M_RF_beside (lv + 1) 56 [(0, va_rf (some t)), (1, .int (l1)), (2, .int (l2))] [] m (QJ Q) := by
  refine at_iload_n (i := 2) 2 57 rfl (by decide +kernel) rfl ?_
  refine at_bipush (n := 12) (12 : Int32) 59 rfl (by decide +kernel) (by decide +kernel) ?_
  refine at_icmp_ge (off := 77) 136 62 rfl (by decide +kernel) (by decide +kernel) (fun c1 => ?_) (fun c1 => ?_)
  · rw [if_pos c1] at h
    exact At.sub [0, 1] rfl h
  · rw [if_neg c1] at h
    refine at_bipush (n := 12) (12 : Int32) 64 rfl (by decide +kernel) (by decide +kernel) ?_
    refine at_iload_n (i := 2) 2 65 rfl (by decide +kernel) rfl ?_
    refine at_iadd 66 rfl (by decide +kernel) ?_
    refine at_istore_n (i := 3) (lc' := [(0, va_rf (some t)), (1, .int (l1)), (2, .int (l2)), (3, .int ((12 : Int32) + l2))]) [1, 2, 3, 0] 67 rfl (by decide +kernel) (by decide +kernel) rfl ?_
    refine at_aload_n (i := 0) 0 68 rfl (by decide +kernel) rfl ?_
    obtain ⟨k2, h⟩ := h
    refine at_get (index := 107) (v := va_rf (mR m t 35)) cok12 35 71 rfl (by decide +kernel) k2 (by decide +kernel) tw_1120 rfl ?_
    refine at_iload_n (i := 3) 3 72 rfl (by decide +kernel) rfl ?_
    refine at_aload_n (i := 0) 0 73 rfl (by decide +kernel) rfl ?_
    refine at_get (index := 64) (v := va_rf (mR m t 21)) cok12 21 76 rfl (by decide +kernel) k2 (by decide +kernel) tw_1106 rfl ?_
    refine at_iload_n (i := 2) 2 77 rfl (by decide +kernel) rfl ?_
    obtain ⟨b3, e4, h⟩ := h
    rw [e4]
    obtain ⟨k5, h⟩ := h
    obtain ⟨v6, h⟩ := h
    refine at_iald 78 rfl (by decide +kernel) k5 v6 ?_
    obtain ⟨b7, e8, h⟩ := h
    rw [e8]
    obtain ⟨k9, h⟩ := h
    obtain ⟨v10, h⟩ := h
    refine at_iast 79 rfl (by decide +kernel) k9 v10 (fun m11 e12 => ?_)
    replace h := h m11 e12
    have k13 : mK m11 t = 13 := by rw [e12]; exact k2
    have k14 : mK m11 b3 = 15 := by rw [e12]; exact k5
    have k15 : mK m11 b7 = 15 := by rw [e12]; exact k9
    refine at_iconst (n := 0) (0 : Int32) 80 rfl (by decide +kernel) (by decide +kernel) ?_
    refine at_istore (i := 4) (lc' := [(0, va_rf (some t)), (1, .int (l1)), (2, .int (l2)), (3, .int ((12 : Int32) + l2)), (4, .int ((0 : Int32)))]) [1, 2, 3, 4, 0] 82 rfl (by decide +kernel) (by decide +kernel) rfl ?_
    exact h
set_option maxRecDepth 20000 in
set_option maxHeartbeats 4000000 in
theorem en_RF_beside (g : Gc) {lv : Nat} {t : Nat} {l1 : Int32} {m : Mm} {Q : Int64 → Mm → Prop} (h : mK m t = 13 ∧ (∀ m2, m2 = sI m t 0 (0 : Int32) → (CI g M_RF_in lv [.long (l1.toInt64), .long ((0 : Int64)), .long ((4 : Int64))] m2 (fun x5 m6 => (if (x5) = 0 then (Q (-2 : Int64) m6) else (CI g M_RF_isLaw lv [va_rf (some t)] m6 (fun x10 m11 => (if (x10) = 0 then (Q (-4 : Int64) m11) else (∃ b15, mR m11 t 31 = some b15 ∧ (mK m11 b15 = 15 ∧ (vp_in (1 : Int32) (mN m11 b15) ∧ (∀ m19, m19 = sI m11 b15 (1 : Int32).toNatClampNeg (0 : Int32) → (∃ b23, mR m19 t 32 = some b23 ∧ (mK m19 b23 = 15 ∧ (vp_in (1 : Int32) (mN m19 b23) ∧ (∀ m27, m27 = sI m19 b23 (1 : Int32).toNatClampNeg (100 : Int32) → (∃ b32, mR m27 t 33 = some b32 ∧ (mK m27 b32 = 15 ∧ (vp_in (1 : Int32) (mN m27 b32) ∧ (∀ m36, m36 = sI m27 b32 (1 : Int32).toNatClampNeg (0 : Int32) → (At g M_RF_beside (lv + 1) 56 [(0, va_rf (some t)), (1, .int (l1)), (2, .int ((0 : Int32)))] [] m36 (QJ Q)))))))))))))))))))))) : CJ g M_RF_beside (lv + 1) [va_rf (some t), .int (l1)] m Q := by
  refine Call.of (by decide +kernel) (Nat.le_of_ble_eq_true rfl) ?_
  show At g M_RF_beside (lv + 1) 0 [(0, va_rf (some t)), (1, .int (l1))] [] m (QJ Q)
  refine at_aload_n (i := 0) 0 1 rfl (by decide +kernel) rfl ?_
  refine at_iconst (n := 0) (0 : Int32) 2 rfl (by decide +kernel) (by decide +kernel) ?_
  obtain ⟨k1, h⟩ := h
  refine at_putI (index := 149) cok12 0 5 rfl (by decide +kernel) k1 (by decide +kernel) tw_1085 rfl rfl rfl (fun m2 e3 => ?_)
  replace h := h m2 e3
  have k4 : mK m2 t = 13 := by rw [e3]; exact k1
  refine at_iload_n (i := 1) 1 6 rfl (by decide +kernel) rfl ?_
  refine at_i2l 7 rfl (by decide +kernel) ?_
  refine at_lconst (n := 0) (0 : Int64) 8 rfl (by decide +kernel) (by decide +kernel) ?_
  refine at_ldc2 (index := 414) (4 : Int64) 11 rfl (by decide +kernel) tw_1570 ?_
  refine at_callS mb_RF_in tw_1293 (index := 154) tw_1292 [.long (l1.toInt64), .long ((0 : Int64)), .long ((4 : Int64))] [] rfl rfl (by decide) 14 rfl (by decide +kernel) (Call.toI (CI.monoE h (fun x5 m6 h y7 => ?_)))
  have k8 : mK m6 t = 13 := y7.k k4 (by decide)
  refine at_if_ne (off := 7) 21 17 rfl (by decide +kernel) (by decide +kernel) (fun c9 => ?_) (fun c9 => ?_)
  · rw [if_neg c9] at h
    refine at_aload_n (i := 0) 0 22 rfl (by decide +kernel) rfl ?_
    refine at_callV mb_RF_isLaw tw_1344 tw_32 cok12 k8 (index := 333) tw_1342 [] [] rfl rfl (by decide) 25 rfl (by decide +kernel) (Call.toI (CI.monoE h (fun x10 m11 h y12 => ?_)))
    have k13 : mK m11 t = 13 := y12.k k8 (by decide)
    refine at_if_ne (off := 7) 32 28 rfl (by decide +kernel) (by decide +kernel) (fun c14 => ?_) (fun c14 => ?_)
    · rw [if_neg c14] at h
      refine at_aload_n (i := 0) 0 33 rfl (by decide +kernel) rfl ?_
      refine at_get (index := 95) (v := va_rf (mR m11 t 31)) cok12 31 36 rfl (by decide +kernel) k13 (by decide +kernel) tw_1116 rfl ?_
      refine at_iconst (n := 1) (1 : Int32) 37 rfl (by decide +kernel) (by decide +kernel) ?_
      refine at_iconst (n := 0) (0 : Int32) 38 rfl (by decide +kernel) (by decide +kernel) ?_
      obtain ⟨b15, e16, h⟩ := h
      rw [e16]
      obtain ⟨k17, h⟩ := h
      obtain ⟨v18, h⟩ := h
      refine at_iast 39 rfl (by decide +kernel) k17 v18 (fun m19 e20 => ?_)
      replace h := h m19 e20
      have k21 : mK m19 t = 13 := by rw [e20]; exact k13
      have k22 : mK m19 b15 = 15 := by rw [e20]; exact k17
      refine at_aload_n (i := 0) 0 40 rfl (by decide +kernel) rfl ?_
      refine at_get (index := 98) (v := va_rf (mR m19 t 32)) cok12 32 43 rfl (by decide +kernel) k21 (by decide +kernel) tw_1117 rfl ?_
      refine at_iconst (n := 1) (1 : Int32) 44 rfl (by decide +kernel) (by decide +kernel) ?_
      refine at_bipush (n := 100) (100 : Int32) 46 rfl (by decide +kernel) (by decide +kernel) ?_
      obtain ⟨b23, e24, h⟩ := h
      rw [e24]
      obtain ⟨k25, h⟩ := h
      obtain ⟨v26, h⟩ := h
      refine at_iast 47 rfl (by decide +kernel) k25 v26 (fun m27 e28 => ?_)
      replace h := h m27 e28
      have k29 : mK m27 t = 13 := by rw [e28]; exact k21
      have k30 : mK m27 b15 = 15 := by rw [e28]; exact k22
      have k31 : mK m27 b23 = 15 := by rw [e28]; exact k25
      refine at_aload_n (i := 0) 0 48 rfl (by decide +kernel) rfl ?_
      refine at_get (index := 101) (v := va_rf (mR m27 t 33)) cok12 33 51 rfl (by decide +kernel) k29 (by decide +kernel) tw_1118 rfl ?_
      refine at_iconst (n := 1) (1 : Int32) 52 rfl (by decide +kernel) (by decide +kernel) ?_
      refine at_iconst (n := 0) (0 : Int32) 53 rfl (by decide +kernel) (by decide +kernel) ?_
      obtain ⟨b32, e33, h⟩ := h
      rw [e33]
      obtain ⟨k34, h⟩ := h
      obtain ⟨v35, h⟩ := h
      refine at_iast 54 rfl (by decide +kernel) k34 v35 (fun m36 e37 => ?_)
      replace h := h m36 e37
      have k38 : mK m36 t = 13 := by rw [e37]; exact k29
      have k39 : mK m36 b15 = 15 := by rw [e37]; exact k30
      have k40 : mK m36 b23 = 15 := by rw [e37]; exact k31
      have k41 : mK m36 b32 = 15 := by rw [e37]; exact k34
      refine at_iconst (n := 0) (0 : Int32) 55 rfl (by decide +kernel) (by decide +kernel) ?_
      refine at_istore_n (i := 2) (lc' := [(0, va_rf (some t)), (1, .int (l1)), (2, .int ((0 : Int32)))]) [1, 2, 0] 56 rfl (by decide +kernel) (by decide +kernel) rfl ?_
      exact h
    · rw [if_pos c14] at h
      refine at_ldc2 (index := 416) (-4 : Int64) 31 rfl (by decide +kernel) tw_1571 ?_
      exact at_lret rfl (by decide +kernel) h
  · rw [if_pos c9] at h
    refine at_ldc2 (index := 391) (-2 : Int64) 20 rfl (by decide +kernel) tw_1521 ?_
    exact at_lret rfl (by decide +kernel) h
set_option maxRecDepth 20000 in
set_option maxHeartbeats 4000000 in
theorem bk_RF_ways_35 (g : Gc) {lv : Nat} {t : Nat} {l1 : Int32} {l2 : Int32} {l3 : Int32} {l4 : Int32} {m : Mm} {Q : Int64 → Mm → Prop} (h : if (l4) ≤ 0 then (At g M_RF_ways (lv + 1) 20 [(0, va_rf (some t)), (1, .int (l1)), (2, .int (l2)), (3, .int (l3 + (1 : Int32)))] [] m (QJ Q)) else (mK m t = 13 ∧ (∃ b3, mR m t 65 = some b3 ∧ (mK m b3 = 16 ∧ (vp_in l4 (mN m b3) ∧ (vp_in (l4 - (1 : Int32)) (mN m b3) ∧ (vp_in l4 (mN m b3) ∧ (∀ m9, m9 = sL m b3 l4.toNatClampNeg ((mL m b3 l4.toNatClampNeg) + (mL m b3 (l4 - (1 : Int32)).toNatClampNeg)) → (At g M_RF_ways (lv + 1) 35 [(0, va_rf (some t)), (1, .int (l1)), (2, .int (l2)), (3, .int (l3)), (4, .int (l4 + (-1 : Int32)))] [] m9 (QJ Q)))))))))) : At g M_RF_ways (lv + 1) 35 [(0, va_rf (some t)), (1, .int (l1)), (2, .int (l2)), (3, .int (l3)), (4, .int (l4))] [] m (QJ Q) := by
  refine at_iload (i := 4) 4 37 rfl (by decide +kernel) rfl ?_
  refine at_if_le (off := 28) 65 40 rfl (by decide +kernel) (by decide +kernel) (fun c1 => ?_) (fun c1 => ?_)
  · rw [if_pos c1] at h
    refine at_iinc (i := 3) (n := 1) (lc' := [(0, va_rf (some t)), (1, .int (l1)), (2, .int (l2)), (3, .int (l3 + (1 : Int32)))]) (l3 + (1 : Int32)) 3 [1, 2, 3, 0] 68 rfl (by decide +kernel) rfl (by rw [show Int32.ofInt 1 = (1 : Int32) from by decide +kernel]) (by decide +kernel) rfl ?_
    refine at_goto (off := (-48)) 20 (by decide +kernel) (by decide +kernel) ?_
    exact h
  · rw [if_neg c1] at h
    refine at_aload_n (i := 0) 0 41 rfl (by decide +kernel) rfl ?_
    obtain ⟨k2, h⟩ := h
    refine at_get (index := 146) (v := va_rf (mR m t 65)) cok12 65 44 rfl (by decide +kernel) k2 (by decide +kernel) tw_1150 rfl ?_
    refine at_iload (i := 4) 4 46 rfl (by decide +kernel) rfl ?_
    refine at_dup2_11 47 rfl (by decide +kernel) rfl (va_rf_cat _) ?_
    obtain ⟨b3, e4, h⟩ := h
    rw [e4]
    obtain ⟨k5, h⟩ := h
    obtain ⟨v6, h⟩ := h
    refine at_lald 48 rfl (by decide +kernel) k5 v6 ?_
    refine at_aload_n (i := 0) 0 49 rfl (by decide +kernel) rfl ?_
    refine at_get (index := 146) (v := va_rf (mR m t 65)) cok12 65 52 rfl (by decide +kernel) k2 (by decide +kernel) tw_1150 rfl ?_
    rw [e4]
    refine at_iload (i := 4) 4 54 rfl (by decide +kernel) rfl ?_
    refine at_iconst (n := 1) (1 : Int32) 55 rfl (by decide +kernel) (by decide +kernel) ?_
    refine at_isub 56 rfl (by decide +kernel) ?_
    obtain ⟨v7, h⟩ := h
    refine at_lald 57 rfl (by decide +kernel) k5 v7 ?_
    refine at_ladd 58 rfl (by decide +kernel) ?_
    obtain ⟨v8, h⟩ := h
    refine at_last 59 rfl (by decide +kernel) k5 v8 (fun m9 e10 => ?_)
    replace h := h m9 e10
    have k11 : mK m9 t = 13 := by rw [e10]; exact k2
    have k12 : mK m9 b3 = 16 := by rw [e10]; exact k5
    refine at_iinc (i := 4) (n := (-1)) (lc' := [(0, va_rf (some t)), (1, .int (l1)), (2, .int (l2)), (3, .int (l3)), (4, .int (l4 + (-1 : Int32)))]) (l4 + (-1 : Int32)) 4 [1, 2, 3, 4, 0] 62 rfl (by decide +kernel) rfl (by rw [show Int32.ofInt (-1) = (-1 : Int32) from by decide +kernel]) (by decide +kernel) rfl ?_
    refine at_goto (off := (-27)) 35 (by decide +kernel) (by decide +kernel) ?_
    exact h
set_option maxRecDepth 20000 in
set_option maxHeartbeats 4000000 in
theorem bk_RF_ways_20 (g : Gc) {lv : Nat} {t : Nat} {l1 : Int32} {l2 : Int32} {l3 : Int32} {m : Mm} {Q : Int64 → Mm → Prop} (h : if (l1) < (l3) then (mK m t = 13 ∧ (∃ b3, mR m t 65 = some b3 ∧ (mK m b3 = 16 ∧ (vp_in l2 (mN m b3) ∧ (Q (mL m b3 l2.toNatClampNeg) m))))) else (mK m t = 13 ∧ (∃ b8, mR m t 65 = some b8 ∧ (mK m b8 = 16 ∧ (vp_in l3 (mN m b8) ∧ (∀ m12, m12 = sL m b8 l3.toNatClampNeg (0 : Int64) → (At g M_RF_ways (lv + 1) 35 [(0, va_rf (some t)), (1, .int (l1)), (2, .int (l2)), (3, .int (l3)), (4, .int (l3))] [] m12 (QJ Q)))))))) : At g M_RF_ways (lv + 1) 20 [(0, va_rf (some t)), (1, .int (l1)), (2, .int (l2)), (3, .int (l3))] [] m (QJ Q) := by
  refine at_iload_n (i := 3) 3 21 rfl (by decide +kernel) rfl ?_
  refine at_iload_n (i := 1) 1 22 rfl (by decide +kernel) rfl ?_
  refine at_icmp_gt (off := 49) 71 25 rfl (by decide +kernel) (by decide +kernel) (fun c1 => ?_) (fun c1 => ?_)
  · rw [if_pos c1] at h
    refine at_aload_n (i := 0) 0 72 rfl (by decide +kernel) rfl ?_
    obtain ⟨k2, h⟩ := h
    refine at_get (index := 146) (v := va_rf (mR m t 65)) cok12 65 75 rfl (by decide +kernel) k2 (by decide +kernel) tw_1150 rfl ?_
    refine at_iload_n (i := 2) 2 76 rfl (by decide +kernel) rfl ?_
    obtain ⟨b3, e4, h⟩ := h
    rw [e4]
    obtain ⟨k5, h⟩ := h
    obtain ⟨v6, h⟩ := h
    refine at_lald 77 rfl (by decide +kernel) k5 v6 ?_
    exact at_lret rfl (by decide +kernel) h
  · rw [if_neg c1] at h
    refine at_aload_n (i := 0) 0 26 rfl (by decide +kernel) rfl ?_
    obtain ⟨k7, h⟩ := h
    refine at_get (index := 146) (v := va_rf (mR m t 65)) cok12 65 29 rfl (by decide +kernel) k7 (by decide +kernel) tw_1150 rfl ?_
    refine at_iload_n (i := 3) 3 30 rfl (by decide +kernel) rfl ?_
    refine at_lconst (n := 0) (0 : Int64) 31 rfl (by decide +kernel) (by decide +kernel) ?_
    obtain ⟨b8, e9, h⟩ := h
    rw [e9]
    obtain ⟨k10, h⟩ := h
    obtain ⟨v11, h⟩ := h
    refine at_last 32 rfl (by decide +kernel) k10 v11 (fun m12 e13 => ?_)
    replace h := h m12 e13
    have k14 : mK m12 t = 13 := by rw [e13]; exact k7
    have k15 : mK m12 b8 = 16 := by rw [e13]; exact k10
    refine at_iload_n (i := 3) 3 33 rfl (by decide +kernel) rfl ?_
    refine at_istore (i := 4) (lc' := [(0, va_rf (some t)), (1, .int (l1)), (2, .int (l2)), (3, .int (l3)), (4, .int (l3))]) [1, 2, 3, 4, 0] 35 rfl (by decide +kernel) (by decide +kernel) rfl ?_
    exact h
set_option maxRecDepth 20000 in
set_option maxHeartbeats 4000000 in
theorem en_RF_ways (g : Gc) {lv : Nat} {t : Nat} {l1 : Int32} {l2 : Int32} {m : Mm} {Q : Int64 → Mm → Prop} (h : if (l2) < 0 then (Q (0 : Int64) m) else (if (l2) ≤ (l1) then (mK m t = 13 ∧ (∃ b4, mR m t 65 = some b4 ∧ (mK m b4 = 16 ∧ (vp_in (0 : Int32) (mN m b4) ∧ (∀ m8, m8 = sL m b4 (0 : Int32).toNatClampNeg (1 : Int64) → (At g M_RF_ways (lv + 1) 20 [(0, va_rf (some t)), (1, .int (l1)), (2, .int (l2)), (3, .int ((1 : Int32)))] [] m8 (QJ Q))))))) else (Q (0 : Int64) m))) : CJ g M_RF_ways (lv + 1) [va_rf (some t), .int (l1), .int (l2)] m Q := by
  refine Call.of (by decide +kernel) (Nat.le_of_ble_eq_true rfl) ?_
  show At g M_RF_ways (lv + 1) 0 [(0, va_rf (some t)), (1, .int (l1)), (2, .int (l2))] [] m (QJ Q)
  refine at_iload_n (i := 2) 2 1 rfl (by decide +kernel) rfl ?_
  refine at_if_lt (off := 8) 9 4 rfl (by decide +kernel) (by decide +kernel) (fun c1 => ?_) (fun c1 => ?_)
  · rw [if_pos c1] at h
    refine at_lconst (n := 0) (0 : Int64) 10 rfl (by decide +kernel) (by decide +kernel) ?_
    exact at_lret rfl (by decide +kernel) h
  · rw [if_neg c1] at h
    refine at_iload_n (i := 2) 2 5 rfl (by decide +kernel) rfl ?_
    refine at_iload_n (i := 1) 1 6 rfl (by decide +kernel) rfl ?_
    refine at_icmp_le (off := 5) 11 9 rfl (by decide +kernel) (by decide +kernel) (fun c2 => ?_) (fun c2 => ?_)
    · rw [if_pos c2] at h
      refine at_aload_n (i := 0) 0 12 rfl (by decide +kernel) rfl ?_
      obtain ⟨k3, h⟩ := h
      refine at_get (index := 146) (v := va_rf (mR m t 65)) cok12 65 15 rfl (by decide +kernel) k3 (by decide +kernel) tw_1150 rfl ?_
      refine at_iconst (n := 0) (0 : Int32) 16 rfl (by decide +kernel) (by decide +kernel) ?_
      refine at_lconst (n := 1) (1 : Int64) 17 rfl (by decide +kernel) (by decide +kernel) ?_
      obtain ⟨b4, e5, h⟩ := h
      rw [e5]
      obtain ⟨k6, h⟩ := h
      obtain ⟨v7, h⟩ := h
      refine at_last 18 rfl (by decide +kernel) k6 v7 (fun m8 e9 => ?_)
      replace h := h m8 e9
      have k10 : mK m8 t = 13 := by rw [e9]; exact k3
      have k11 : mK m8 b4 = 16 := by rw [e9]; exact k6
      refine at_iconst (n := 1) (1 : Int32) 19 rfl (by decide +kernel) (by decide +kernel) ?_
      refine at_istore_n (i := 3) (lc' := [(0, va_rf (some t)), (1, .int (l1)), (2, .int (l2)), (3, .int ((1 : Int32)))]) [1, 2, 3, 0] 20 rfl (by decide +kernel) (by decide +kernel) rfl ?_
      exact h
    · rw [if_neg c2] at h
      refine at_lconst (n := 0) (0 : Int64) 10 rfl (by decide +kernel) (by decide +kernel) ?_
      exact at_lret rfl (by decide +kernel) h
set_option maxRecDepth 20000 in
set_option maxHeartbeats 4000000 in
theorem bk_RF_isNear_27 (g : Gc) {lv : Nat} {t : Nat} {l1 : Int32} {l2 : Int32} {l3 : Int32} {l4 : Int32} {l5 : Int32} {l6 : Int64} {l8 : Int32} {s0 : Int32} {s1 : Int32} {m : Mm} {Q : Int32 → Mm → Prop} (h : if (s1) < (s0) then (mK m t = 13 ∧ (CJ g M_RF_ways lv [va_rf (some t), .int (l1), .int (l2)] m (fun x3 m4 => (if ((20 : Int64) * l6) < (x3) then (Q (0 : Int32) m4) else (Q (1 : Int32) m4))))) else (mK m t = 13 ∧ (CJ g M_RF_ways lv [va_rf (some t), .int (l5), .int (l8)] m (fun x9 m10 => (CJ g M_RF_ways lv [va_rf (some t), .int (l1 - l5), .int (l2 - l8)] m10 (fun x13 m14 => (At g M_RF_isNear (lv + 1) 15 [(0, va_rf (some t)), (1, .int (l1)), (2, .int (l2)), (3, .int (l3)), (4, .int (l4)), (5, .int (l5)), (6, .long (l6 + (x9 * x13))), (8, .int (l8 + (1 : Int32)))] [] m14 (QI Q)))))))) : At g M_RF_isNear (lv + 1) 27 [(0, va_rf (some t)), (1, .int (l1)), (2, .int (l2)), (3, .int (l3)), (4, .int (l4)), (5, .int (l5)), (6, .long (l6)), (8, .int (l8))] [.int (s1), .int (s0)] m (QI Q) := by
  refine at_icmp_gt (off := 35) 62 30 rfl (by decide +kernel) (by decide +kernel) (fun c1 => ?_) (fun c1 => ?_)
  · rw [if_pos c1] at h
    refine at_ldc2 (index := 422) (20 : Int64) 65 rfl (by decide +kernel) tw_1585 ?_
    refine at_lload (i := 6) 6 67 rfl (by decide +kernel) rfl ?_
    refine at_lmul 68 rfl (by decide +kernel) ?_
    refine at_aload_n (i := 0) 0 69 rfl (by decide +kernel) rfl ?_
    refine at_iload_n (i := 1) 1 70 rfl (by decide +kernel) rfl ?_
    refine at_iload_n (i := 2) 2 71 rfl (by decide +kernel) rfl ?_
    obtain ⟨k2, h⟩ := h
    refine at_callV mb_RF_ways tw_1583 tw_63 cok12 k2 (index := 418) tw_1581 [.int (l1), .int (l2)] [.long ((20 : Int64) * l6)] rfl rfl (by simp [va_rf_cat, cat_int, cat_long]) 74 rfl (by decide +kernel) (Call.toJ (CJ.monoE h (fun x3 m4 h y5 => ?_)))
    have k6 : mK m4 t = 13 := y5.k k2 (by decide)
    refine at_lif_lt (off := 7) 75 82 78 rfl rfl (by decide +kernel) (by decide +kernel) (by decide +kernel) (fun c7 => ?_) (fun c7 => ?_)
    · rw [if_pos c7] at h
      refine at_iconst (n := 0) (0 : Int32) 83 rfl (by decide +kernel) (by decide +kernel) ?_
      exact at_zret rfl (by decide +kernel) (Or.inl rfl) h
    · rw [if_neg c7] at h
      refine at_iconst (n := 1) (1 : Int32) 79 rfl (by decide +kernel) (by decide +kernel) ?_
      refine at_goto (off := 4) 83 (by decide +kernel) (by decide +kernel) ?_
      exact at_zret rfl (by decide +kernel) (Or.inr rfl) h
  · rw [if_neg c1] at h
    refine at_lload (i := 6) 6 32 rfl (by decide +kernel) rfl ?_
    refine at_aload_n (i := 0) 0 33 rfl (by decide +kernel) rfl ?_
    refine at_iload (i := 5) 5 35 rfl (by decide +kernel) rfl ?_
    refine at_iload (i := 8) 7 37 rfl (by decide +kernel) rfl ?_
    obtain ⟨k8, h⟩ := h
    refine at_callV mb_RF_ways tw_1583 tw_63 cok12 k8 (index := 418) tw_1581 [.int (l5), .int (l8)] [.long (l6)] rfl rfl (by simp [va_rf_cat, cat_int, cat_long]) 40 rfl (by decide +kernel) (Call.toJ (CJ.monoE h (fun x9 m10 h y11 => ?_)))
    have k12 : mK m10 t = 13 := y11.k k8 (by decide)
    refine at_aload_n (i := 0) 0 41 rfl (by decide +kernel) rfl ?_
    refine at_iload_n (i := 1) 1 42 rfl (by decide +kernel) rfl ?_
    refine at_iload (i := 5) 5 44 rfl (by decide +kernel) rfl ?_
    refine at_isub 45 rfl (by decide +kernel) ?_
    refine at_iload_n (i := 2) 2 46 rfl (by decide +kernel) rfl ?_
    refine at_iload (i := 8) 7 48 rfl (by decide +kernel) rfl ?_
    refine at_isub 49 rfl (by decide +kernel) ?_
    refine at_callV mb_RF_ways tw_1583 tw_63 cok12 k12 (index := 418) tw_1581 [.int (l1 - l5), .int (l2 - l8)] [.long (x9), .long (l6)] rfl rfl (by simp [va_rf_cat, cat_int, cat_long]) 52 rfl (by decide +kernel) (Call.toJ (CJ.monoE h (fun x13 m14 h y15 => ?_)))
    have k16 : mK m14 t = 13 := y15.k k12 (by decide)
    refine at_lmul 53 rfl (by decide +kernel) ?_
    refine at_ladd 54 rfl (by decide +kernel) ?_
    refine at_lstore (i := 6) (lc' := [(0, va_rf (some t)), (1, .int (l1)), (2, .int (l2)), (3, .int (l3)), (4, .int (l4)), (5, .int (l5)), (6, .long (l6 + (x9 * x13))), (8, .int (l8))]) [1, 2, 3, 4, 5, 6, 0, 7] 56 rfl (by decide +kernel) (by decide +kernel) rfl ?_
    refine at_iinc (i := 8) (n := 1) (lc' := [(0, va_rf (some t)), (1, .int (l1)), (2, .int (l2)), (3, .int (l3)), (4, .int (l4)), (5, .int (l5)), (6, .long (l6 + (x9 * x13))), (8, .int (l8 + (1 : Int32)))]) (l8 + (1 : Int32)) 7 [1, 2, 3, 4, 5, 6, 7, 0] 59 rfl (by decide +kernel) rfl (by rw [show Int32.ofInt 1 = (1 : Int32) from by decide +kernel]) (by decide +kernel) rfl ?_
    refine at_goto (off := (-44)) 15 (by decide +kernel) (by decide +kernel) ?_
    exact h
set_option maxRecDepth 20000 in
set_option maxHeartbeats 4000000 in
theorem bk_RF_isNear_15 (g : Gc) {lv : Nat} {t : Nat} {l1 : Int32} {l2 : Int32} {l3 : Int32} {l4 : Int32} {l5 : Int32} {l6 : Int64} {l8 : Int32} {m : Mm} {Q : Int32 → Mm → Prop} (h : if (l4) = 0 then (At g M_RF_isNear (lv + 1) 27 [(0, va_rf (some t)), (1, .int (l1)), (2, .int (l2)), (3, .int (l3)), (4, .int (l4)), (5, .int (l5)), (6, .long (l6)), (8, .int (l8))] [.int (l2), .int (l8)] m (QI Q)) else (At g M_RF_isNear (lv + 1) 27 [(0, va_rf (some t)), (1, .int (l1)), (2, .int (l2)), (3, .int (l3)), (4, .int (l4)), (5, .int (l5)), (6, .long (l6)), (8, .int (l8))] [.int (l3), .int (l8)] m (QI Q))) : At g M_RF_isNear (lv + 1) 15 [(0, va_rf (some t)), (1, .int (l1)), (2, .int (l2)), (3, .int (l3)), (4, .int (l4)), (5, .int (l5)), (6, .long (l6)), (8, .int (l8))] [] m (QI Q) := by
  refine at_iload (i := 8) 7 17 rfl (by decide +kernel) rfl ?_
  refine at_iload (i := 4) 4 19 rfl (by decide +kernel) rfl ?_
  refine at_if_ne (off := 7) 26 22 rfl (by decide +kernel) (by decide +kernel) (fun c1 => ?_) (fun c1 => ?_)
  · rw [if_neg c1] at h
    refine at_iload_n (i := 3) 3 27 rfl (by decide +kernel) rfl ?_
    exact h
  · rw [if_pos c1] at h
    refine at_iload_n (i := 2) 2 23 rfl (by decide +kernel) rfl ?_
    refine at_goto (off := 4) 27 (by decide +kernel) (by decide +kernel) ?_
    exact h
set_option maxRecDepth 20000 in
set_option maxHeartbeats 4000000 in
theorem en_RF_isNear (g : Gc) {lv : Nat} {t : Nat} {l1 : Int32} {l2 : Int32} {l3 : Int32} {l4 : Int32} {l5 : Int32} {m : Mm} {Q : Int32 → Mm → Prop} (h : if (l4) = 0 then (At g M_RF_isNear (lv + 1) 15 [(0, va_rf (some t)), (1, .int (l1)), (2, .int (l2)), (3, .int (l3)), (4, .int (l4)), (5, .int (l5)), (6, .long ((0 : Int64))), (8, .int (l3))] [] m (QI Q)) else (At g M_RF_isNear (lv + 1) 15 [(0, va_rf (some t)), (1, .int (l1)), (2, .int (l2)), (3, .int (l3)), (4, .int (l4)), (5, .int (l5)), (6, .long ((0 : Int64))), (8, .int ((0 : Int32)))] [] m (QI Q))) : CI g M_RF_isNear (lv + 1) [va_rf (some t), .int (l1), .int (l2), .int (l3), .int (l4), .int (l5)] m Q := by
  refine Call.of (by decide +kernel) (Nat.le_of_ble_eq_true rfl) ?_
  show At g M_RF_isNear (lv + 1) 0 [(0, va_rf (some t)), (1, .int (l1)), (2, .int (l2)), (3, .int (l3)), (4, .int (l4)), (5, .int (l5))] [] m (QI Q)
  refine at_lconst (n := 0) (0 : Int64) 1 rfl (by decide +kernel) (by decide +kernel) ?_
  refine at_lstore (i := 6) (lc' := [(0, va_rf (some t)), (1, .int (l1)), (2, .int (l2)), (3, .int (l3)), (4, .int (l4)), (5, .int (l5)), (6, .long ((0 : Int64)))]) [1, 2, 3, 4, 5, 6, 0] 3 rfl (by decide +kernel) (by decide +kernel) rfl ?_
  refine at_iload (i := 4) 4 5 rfl (by decide +kernel) rfl ?_
  refine at_if_ne (off := 7) 12 8 rfl (by decide +kernel) (by decide +kernel) (fun c1 => ?_) (fun c1 => ?_)
  · rw [if_neg c1] at h
    refine at_iconst (n := 0) (0 : Int32) 13 rfl (by decide +kernel) (by decide +kernel) ?_
    refine at_istore (i := 8) (lc' := [(0, va_rf (some t)), (1, .int (l1)), (2, .int (l2)), (3, .int (l3)), (4, .int (l4)), (5, .int (l5)), (6, .long ((0 : Int64))), (8, .int ((0 : Int32)))]) [1, 2, 3, 4, 5, 6, 7, 0] 15 rfl (by decide +kernel) (by decide +kernel) rfl ?_
    exact h
  · rw [if_pos c1] at h
    refine at_iload_n (i := 3) 3 9 rfl (by decide +kernel) rfl ?_
    refine at_goto (off := 4) 13 (by decide +kernel) (by decide +kernel) ?_
    refine at_istore (i := 8) (lc' := [(0, va_rf (some t)), (1, .int (l1)), (2, .int (l2)), (3, .int (l3)), (4, .int (l4)), (5, .int (l5)), (6, .long ((0 : Int64))), (8, .int (l3))]) [1, 2, 3, 4, 5, 6, 7, 0] 15 rfl (by decide +kernel) (by decide +kernel) rfl ?_
    exact h
set_option maxRecDepth 20000 in
set_option maxHeartbeats 4000000 in
theorem bk_RF_light_65 (g : Gc) {lv : Nat} {t : Nat} {l1 : Int32} {l2 : Int32} {l3 : Int32} {l4 : Int32} {l5 : Int32} {m : Mm} {Q : Int32 → Mm → Prop} (h : mK m t = 13 ∧ (CI g M_RF_isNear lv [va_rf (some t), .int (l1), .int (l2), .int (l3), .int (l4), .int (l5)] m (fun x2 m3 => (if (x2) = 0 then (if (l4) = 0 then (At g M_RF_light (lv + 1) 65 [(0, va_rf (some t)), (1, .int (l1)), (2, .int (l2)), (3, .int (l3)), (4, .int (l4)), (5, .int (l5 + (1 : Int32)))] [] m3 (QI Q)) else (At g M_RF_light (lv + 1) 65 [(0, va_rf (some t)), (1, .int (l1)), (2, .int (l2)), (3, .int (l3)), (4, .int (l4)), (5, .int (l5 + (-1 : Int32)))] [] m3 (QI Q))) else (Q l5 m3))))) : At g M_RF_light (lv + 1) 65 [(0, va_rf (some t)), (1, .int (l1)), (2, .int (l2)), (3, .int (l3)), (4, .int (l4)), (5, .int (l5))] [] m (QI Q) := by
  refine at_aload_n (i := 0) 0 66 rfl (by decide +kernel) rfl ?_
  refine at_iload_n (i := 1) 1 67 rfl (by decide +kernel) rfl ?_
  refine at_iload_n (i := 2) 2 68 rfl (by decide +kernel) rfl ?_
  refine at_iload_n (i := 3) 3 69 rfl (by decide +kernel) rfl ?_
  refine at_iload (i := 4) 4 71 rfl (by decide +kernel) rfl ?_
  refine at_iload (i := 5) 5 73 rfl (by decide +kernel) rfl ?_
  obtain ⟨k1, h⟩ := h
  refine at_callV mb_RF_isNear tw_1579 tw_62 cok12 k1 (index := 426) tw_1577 [.int (l1), .int (l2), .int (l3), .int (l4), .int (l5)] [] rfl rfl (by decide) 76 rfl (by decide +kernel) (Call.toI (CI.monoE h (fun x2 m3 h y4 => ?_)))
  have k5 : mK m3 t = 13 := y4.k k1 (by decide)
  refine at_if_ne (off := 21) 97 79 rfl (by decide +kernel) (by decide +kernel) (fun c6 => ?_) (fun c6 => ?_)
  · rw [if_neg c6] at h
    refine at_iload (i := 5) 5 99 rfl (by decide +kernel) rfl ?_
    exact at_iret rfl (by decide +kernel) h
  · rw [if_pos c6] at h
    refine at_iload (i := 5) 5 81 rfl (by decide +kernel) rfl ?_
    refine at_iload (i := 4) 4 83 rfl (by decide +kernel) rfl ?_
    refine at_if_ne (off := 7) 90 86 rfl (by decide +kernel) (by decide +kernel) (fun c7 => ?_) (fun c7 => ?_)
    · rw [if_neg c7] at h
      refine at_iconst (n := (-1)) (-1 : Int32) 91 rfl (by decide +kernel) (by decide +kernel) ?_
      refine at_iadd 92 rfl (by decide +kernel) ?_
      refine at_istore (i := 5) (lc' := [(0, va_rf (some t)), (1, .int (l1)), (2, .int (l2)), (3, .int (l3)), (4, .int (l4)), (5, .int (l5 + (-1 : Int32)))]) [1, 2, 3, 4, 5, 0] 94 rfl (by decide +kernel) (by decide +kernel) rfl ?_
      refine at_goto (off := (-29)) 65 (by decide +kernel) (by decide +kernel) ?_
      exact h
    · rw [if_pos c7] at h
      refine at_iconst (n := 1) (1 : Int32) 87 rfl (by decide +kernel) (by decide +kernel) ?_
      refine at_goto (off := 4) 91 (by decide +kernel) (by decide +kernel) ?_
      refine at_iadd 92 rfl (by decide +kernel) ?_
      refine at_istore (i := 5) (lc' := [(0, va_rf (some t)), (1, .int (l1)), (2, .int (l2)), (3, .int (l3)), (4, .int (l4)), (5, .int (l5 + (1 : Int32)))]) [1, 2, 3, 4, 5, 0] 94 rfl (by decide +kernel) (by decide +kernel) rfl ?_
      refine at_goto (off := (-29)) 65 (by decide +kernel) (by decide +kernel) ?_
      exact h
set_option maxRecDepth 20000 in
set_option maxHeartbeats 4000000 in
theorem en_RF_light (g : Gc) {lv : Nat} {t : Nat} {l1 : Int32} {l2 : Int32} {l3 : Int32} {l4 : Int32} {m : Mm} {Q : Int32 → Mm → Prop} (h : mK m t = 13 ∧ (∀ m2, m2 = sI m t 0 (0 : Int32) → (CI g M_RF_in lv [.long (l1.toInt64), .long ((1 : Int64)), .long ((60 : Int64))] m2 (fun x5 m6 => (if (x5) = 0 then (Q (-2 : Int32) m6) else (CI g M_RF_in lv [.long (l2.toInt64), .long ((0 : Int64)), .long (l1.toInt64)] m6 (fun x10 m11 => (if (x10) = 0 then (Q (-2 : Int32) m11) else (CI g M_RF_in lv [.long (l3.toInt64), .long ((0 : Int64)), .long (l2.toInt64)] m11 (fun x15 m16 => (if (x15) = 0 then (Q (-2 : Int32) m16) else (CI g M_RF_in lv [.long (l4.toInt64), .long ((0 : Int64)), .long ((1 : Int64))] m16 (fun x20 m21 => (if (x20) = 0 then (Q (-2 : Int32) m21) else (if (l4) = 0 then (At g M_RF_light (lv + 1) 65 [(0, va_rf (some t)), (1, .int (l1)), (2, .int (l2)), (3, .int (l3)), (4, .int (l4)), (5, .int ((0 : Int32)))] [] m21 (QI Q)) else (At g M_RF_light (lv + 1) 65 [(0, va_rf (some t)), (1, .int (l1)), (2, .int (l2)), (3, .int (l3)), (4, .int (l4)), (5, .int (l1))] [] m21 (QI Q))))))))))))))))) : CI g M_RF_light (lv + 1) [va_rf (some t), .int (l1), .int (l2), .int (l3), .int (l4)] m Q := by
  refine Call.of (by decide +kernel) (Nat.le_of_ble_eq_true rfl) ?_
  show At g M_RF_light (lv + 1) 0 [(0, va_rf (some t)), (1, .int (l1)), (2, .int (l2)), (3, .int (l3)), (4, .int (l4))] [] m (QI Q)
  refine at_aload_n (i := 0) 0 1 rfl (by decide +kernel) rfl ?_
  refine at_iconst (n := 0) (0 : Int32) 2 rfl (by decide +kernel) (by decide +kernel) ?_
  obtain ⟨k1, h⟩ := h
  refine at_putI (index := 149) cok12 0 5 rfl (by decide +kernel) k1 (by decide +kernel) tw_1085 rfl rfl rfl (fun m2 e3 => ?_)
  replace h := h m2 e3
  have k4 : mK m2 t = 13 := by rw [e3]; exact k1
  refine at_iload_n (i := 1) 1 6 rfl (by decide +kernel) rfl ?_
  refine at_i2l 7 rfl (by decide +kernel) ?_
  refine at_lconst (n := 1) (1 : Int64) 8 rfl (by decide +kernel) (by decide +kernel) ?_
  refine at_ldc2 (index := 424) (60 : Int64) 11 rfl (by decide +kernel) tw_1576 ?_
  refine at_callS mb_RF_in tw_1293 (index := 154) tw_1292 [.long (l1.toInt64), .long ((1 : Int64)), .long ((60 : Int64))] [] rfl rfl (by decide) 14 rfl (by decide +kernel) (Call.toI (CI.monoE h (fun x5 m6 h y7 => ?_)))
  have k8 : mK m6 t = 13 := y7.k k4 (by decide)
  refine at_if_eq (off := 36) 50 17 rfl (by decide +kernel) (by decide +kernel) (fun c9 => ?_) (fun c9 => ?_)
  · rw [if_pos c9] at h
    refine at_bipush (n := (-2)) (-2 : Int32) 52 rfl (by decide +kernel) (by decide +kernel) ?_
    exact at_iret rfl (by decide +kernel) h
  · rw [if_neg c9] at h
    refine at_iload_n (i := 2) 2 18 rfl (by decide +kernel) rfl ?_
    refine at_i2l 19 rfl (by decide +kernel) ?_
    refine at_lconst (n := 0) (0 : Int64) 20 rfl (by decide +kernel) (by decide +kernel) ?_
    refine at_iload_n (i := 1) 1 21 rfl (by decide +kernel) rfl ?_
    refine at_i2l 22 rfl (by decide +kernel) ?_
    refine at_callS mb_RF_in tw_1293 (index := 154) tw_1292 [.long (l2.toInt64), .long ((0 : Int64)), .long (l1.toInt64)] [] rfl rfl (by decide) 25 rfl (by decide +kernel) (Call.toI (CI.monoE h (fun x10 m11 h y12 => ?_)))
    have k13 : mK m11 t = 13 := y12.k k8 (by decide)
    refine at_if_eq (off := 25) 50 28 rfl (by decide +kernel) (by decide +kernel) (fun c14 => ?_) (fun c14 => ?_)
    · rw [if_pos c14] at h
      refine at_bipush (n := (-2)) (-2 : Int32) 52 rfl (by decide +kernel) (by decide +kernel) ?_
      exact at_iret rfl (by decide +kernel) h
    · rw [if_neg c14] at h
      refine at_iload_n (i := 3) 3 29 rfl (by decide +kernel) rfl ?_
      refine at_i2l 30 rfl (by decide +kernel) ?_
      refine at_lconst (n := 0) (0 : Int64) 31 rfl (by decide +kernel) (by decide +kernel) ?_
      refine at_iload_n (i := 2) 2 32 rfl (by decide +kernel) rfl ?_
      refine at_i2l 33 rfl (by decide +kernel) ?_
      refine at_callS mb_RF_in tw_1293 (index := 154) tw_1292 [.long (l3.toInt64), .long ((0 : Int64)), .long (l2.toInt64)] [] rfl rfl (by decide) 36 rfl (by decide +kernel) (Call.toI (CI.monoE h (fun x15 m16 h y17 => ?_)))
      have k18 : mK m16 t = 13 := y17.k k13 (by decide)
      refine at_if_eq (off := 14) 50 39 rfl (by decide +kernel) (by decide +kernel) (fun c19 => ?_) (fun c19 => ?_)
      · rw [if_pos c19] at h
        refine at_bipush (n := (-2)) (-2 : Int32) 52 rfl (by decide +kernel) (by decide +kernel) ?_
        exact at_iret rfl (by decide +kernel) h
      · rw [if_neg c19] at h
        refine at_iload (i := 4) 4 41 rfl (by decide +kernel) rfl ?_
        refine at_i2l 42 rfl (by decide +kernel) ?_
        refine at_lconst (n := 0) (0 : Int64) 43 rfl (by decide +kernel) (by decide +kernel) ?_
        refine at_lconst (n := 1) (1 : Int64) 44 rfl (by decide +kernel) (by decide +kernel) ?_
        refine at_callS mb_RF_in tw_1293 (index := 154) tw_1292 [.long (l4.toInt64), .long ((0 : Int64)), .long ((1 : Int64))] [] rfl rfl (by decide) 47 rfl (by decide +kernel) (Call.toI (CI.monoE h (fun x20 m21 h y22 => ?_)))
        have k23 : mK m21 t = 13 := y22.k k18 (by decide)
        refine at_if_ne (off := 6) 53 50 rfl (by decide +kernel) (by decide +kernel) (fun c24 => ?_) (fun c24 => ?_)
        · rw [if_neg c24] at h
          refine at_iload (i := 4) 4 55 rfl (by decide +kernel) rfl ?_
          refine at_if_ne (off := 7) 62 58 rfl (by decide +kernel) (by decide +kernel) (fun c25 => ?_) (fun c25 => ?_)
          · rw [if_neg c25] at h
            refine at_iload_n (i := 1) 1 63 rfl (by decide +kernel) rfl ?_
            refine at_istore (i := 5) (lc' := [(0, va_rf (some t)), (1, .int (l1)), (2, .int (l2)), (3, .int (l3)), (4, .int (l4)), (5, .int (l1))]) [1, 2, 3, 4, 5, 0] 65 rfl (by decide +kernel) (by decide +kernel) rfl ?_
            exact h
          · rw [if_pos c25] at h
            refine at_iconst (n := 0) (0 : Int32) 59 rfl (by decide +kernel) (by decide +kernel) ?_
            refine at_goto (off := 4) 63 (by decide +kernel) (by decide +kernel) ?_
            refine at_istore (i := 5) (lc' := [(0, va_rf (some t)), (1, .int (l1)), (2, .int (l2)), (3, .int (l3)), (4, .int (l4)), (5, .int ((0 : Int32)))]) [1, 2, 3, 4, 5, 0] 65 rfl (by decide +kernel) (by decide +kernel) rfl ?_
            exact h
        · rw [if_pos c24] at h
          refine at_bipush (n := (-2)) (-2 : Int32) 52 rfl (by decide +kernel) (by decide +kernel) ?_
          exact at_iret rfl (by decide +kernel) h
