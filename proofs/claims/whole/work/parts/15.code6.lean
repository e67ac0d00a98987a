set_option maxRecDepth 20000 in
set_option maxHeartbeats 4000000 in
theorem en_RF_receipt_IIII (g : Gc) {lv : Nat} {t : Nat} {l1 : Int32} {l2 : Int32} {l3 : Int32} {l4 : Int32} {m : Mm} {Q : Int32 → Mm → Prop} (h : mK m t = 13 ∧ (∃ b2, mR m t 33 = some b2 ∧ (mK m b2 = 15 ∧ (vp_in l1 (mN m b2) ∧ (∃ b6, mR m t 40 = some b6 ∧ (mK m b6 = 15 ∧ (vp_in (((400 : Int32) * l1) + (mI m b2 l1.toNatClampNeg)) (mN m b6) ∧ (∀ m10, m10 = sI m b6 (((400 : Int32) * l1) + (mI m b2 l1.toNatClampNeg)).toNatClampNeg l2 → (∃ b18, mR m10 t 41 = some b18 ∧ (mK m10 b18 = 15 ∧ (vp_in (((400 : Int32) * l1) + (mI m b2 l1.toNatClampNeg)) (mN m10 b18) ∧ (∀ m22, m22 = sI m10 b18 (((400 : Int32) * l1) + (mI m b2 l1.toNatClampNeg)).toNatClampNeg l3 → (∃ b32, mR m22 t 42 = some b32 ∧ (mK m22 b32 = 15 ∧ (vp_in (((400 : Int32) * l1) + (mI m b2 l1.toNatClampNeg)) (mN m22 b32) ∧ (∀ m36, m36 = sI m22 b32 (((400 : Int32) * l1) + (mI m b2 l1.toNatClampNeg)).toNatClampNeg l4 → (vp_in l1 (mN m36 b2) ∧ (vp_in l1 (mN m36 b2) ∧ (∀ m50, m50 = sI m36 b2 l1.toNatClampNeg ((mI m36 b2 l1.toNatClampNeg) + (1 : Int32)) → (if (l1) = 0 then (∃ b64, mR m50 t 44 = some b64 ∧ (mK m50 b64 = 15 ∧ (vp_in ((2 : Int32) * (((400 : Int32) * l1) + (mI m b2 l1.toNatClampNeg))) (mN m50 b64) ∧ (∀ m68, m68 = sI m50 b64 ((2 : Int32) * (((400 : Int32) * l1) + (mI m b2 l1.toNatClampNeg))).toNatClampNeg (-1 : Int32) → (vp_in (((2 : Int32) * (((400 : Int32) * l1) + (mI m b2 l1.toNatClampNeg))) + (1 : Int32)) (mN m68 b64) ∧ (∀ m83, m83 = sI m68 b64 (((2 : Int32) * (((400 : Int32) * l1) + (mI m b2 l1.toNatClampNeg))) + (1 : Int32)).toNatClampNeg (-1 : Int32) → (vp_in l1 (mN m83 b2) ∧ (Q ((mI m83 b2 l1.toNatClampNeg) - (1 : Int32)) m83)))))))) else (vp_in l1 (mN m50 b2) ∧ (Q ((mI m50 b2 l1.toNatClampNeg) - (1 : Int32)) m50)))))))))))))))))))))) : CI g M_RF_receipt_IIII (lv + 1) [va_rf (some t), .int (l1), .int (l2), .int (l3), .int (l4)] m Q := by
  refine Call.of (by decide +kernel) (Nat.le_of_ble_eq_true rfl) ?_
  show At g M_RF_receipt_IIII (lv + 1) 0 [(0, va_rf (some t)), (1, .int (l1)), (2, .int (l2)), (3, .int (l3)), (4, .int (l4))] [] m (QI Q)
  refine at_sipush (n := 400) (400 : Int32) 3 rfl (by decide +kernel) (by decide +kernel) ?_
  refine at_iload_n (i := 1) 1 4 rfl (by decide +kernel) rfl ?_
  refine at_imul 5 rfl (by decide +kernel) ?_
  refine at_aload_n (i := 0) 0 6 rfl (by decide +kernel) rfl ?_
  obtain ⟨k1, h⟩ := h
  refine at_get (index := 101) (v := va_rf (mR m t 33)) cok12 33 9 rfl (by decide +kernel) k1 (by decide +kernel) tw_1118 rfl ?_
  obtain ⟨b2, e3, h⟩ := h
  rw [e3]
  refine at_iload_n (i := 1) 1 10 rfl (by decide +kernel) rfl ?_
  obtain ⟨k4, h⟩ := h
  obtain ⟨v5, h⟩ := h
  refine at_iald 11 rfl (by decide +kernel) k4 v5 ?_
  refine at_iadd 12 rfl (by decide +kernel) ?_
  refine at_istore (i := 5) (lc' := [(0, va_rf (some t)), (1, .int (l1)), (2, .int (l2)), (3, .int (l3)), (4, .int (l4)), (5, .int (((400 : Int32) * l1) + (mI m b2 l1.toNatClampNeg)))]) [1, 2, 3, 4, 5, 0] 14 rfl (by decide +kernel) (by decide +kernel) rfl ?_
  refine at_aload_n (i := 0) 0 15 rfl (by decide +kernel) rfl ?_
  refine at_get (index := 122) (v := va_rf (mR m t 40)) cok12 40 18 rfl (by decide +kernel) k1 (by decide +kernel) tw_1125 rfl ?_
  obtain ⟨b6, e7, h⟩ := h
  rw [e7]
  refine at_iload (i := 5) 5 20 rfl (by decide +kernel) rfl ?_
  refine at_iload_n (i := 2) 2 21 rfl (by decide +kernel) rfl ?_
  obtain ⟨k8, h⟩ := h
  obtain ⟨v9, h⟩ := h
  refine at_iast 22 rfl (by decide +kernel) k8 v9 (fun m10 e11 => ?_)
  replace h := h m10 e11
  have x12 : Ext m m10 := by rw [e11]; exact Ext.sI _ _ _ _
  have k13 : mK m10 t = 13 := x12.k k1 (by decide)
  have k14 : mK m10 b2 = 15 := x12.k k4 (by decide)
  have k15 : mK m10 b6 = 15 := x12.k k8 (by decide)
  have e16 : mR m10 t 33 = some b2 := x12.r k1 (by decide) rfl e3
  have e17 : mR m10 t 40 = some b6 := x12.r k1 (by decide) rfl e7
  refine at_aload_n (i := 0) 0 23 rfl (by decide +kernel) rfl ?_
  refine at_get (index := 125) (v := va_rf (mR m10 t 41)) cok12 41 26 rfl (by decide +kernel) k13 (by decide +kernel) tw_1126 rfl ?_
  obtain ⟨b18, e19, h⟩ := h
  rw [e19]
  refine at_iload (i := 5) 5 28 rfl (by decide +kernel) rfl ?_
  refine at_iload_n (i := 3) 3 29 rfl (by decide +kernel) rfl ?_
  obtain ⟨k20, h⟩ := h
  obtain ⟨v21, h⟩ := h
  refine at_iast 30 rfl (by decide +kernel) k20 v21 (fun m22 e23 => ?_)
  replace h := h m22 e23
  have x24 : Ext m10 m22 := by rw [e23]; exact Ext.sI _ _ _ _
  have k25 : mK m22 t = 13 := x24.k k13 (by decide)
  have k26 : mK m22 b2 = 15 := x24.k k14 (by decide)
  have k27 : mK m22 b6 = 15 := x24.k k15 (by decide)
  have k28 : mK m22 b18 = 15 := x24.k k20 (by decide)
  have e29 : mR m22 t 33 = some b2 := x24.r k13 (by decide) rfl e16
  have e30 : mR m22 t 40 = some b6 := x24.r k13 (by decide) rfl e17
  have e31 : mR m22 t 41 = some b18 := x24.r k13 (by decide) rfl e19
  refine at_aload_n (i := 0) 0 31 rfl (by decide +kernel) rfl ?_
  refine at_get (index := 128) (v := va_rf (mR m22 t 42)) cok12 42 34 rfl (by decide +kernel) k25 (by decide +kernel) tw_1127 rfl ?_
  obtain ⟨b32, e33, h⟩ := h
  rw [e33]
  refine at_iload (i := 5) 5 36 rfl (by decide +kernel) rfl ?_
  refine at_iload (i := 4) 4 38 rfl (by decide +kernel) rfl ?_
  obtain ⟨k34, h⟩ := h
  obtain ⟨v35, h⟩ := h
  refine at_iast 39 rfl (by decide +kernel) k34 v35 (fun m36 e37 => ?_)
  replace h := h m36 e37
  have x38 : Ext m22 m36 := by rw [e37]; exact Ext.sI _ _ _ _
  have k39 : mK m36 t = 13 := x38.k k25 (by decide)
  have k40 : mK m36 b2 = 15 := x38.k k26 (by decide)
  have k41 : mK m36 b6 = 15 := x38.k k27 (by decide)
  have k42 : mK m36 b18 = 15 := x38.k k28 (by decide)
  have k43 : mK m36 b32 = 15 := x38.k k34 (by decide)
  have e44 : mR m36 t 33 = some b2 := x38.r k25 (by decide) rfl e29
  have e45 : mR m36 t 40 = some b6 := x38.r k25 (by decide) rfl e30
  have e46 : mR m36 t 41 = some b18 := x38.r k25 (by decide) rfl e31
  have e47 : mR m36 t 42 = some b32 := x38.r k25 (by decide) rfl e33
  refine at_aload_n (i := 0) 0 40 rfl (by decide +kernel) rfl ?_
  refine at_get (index := 101) (v := va_rf (mR m36 t 33)) cok12 33 43 rfl (by decide +kernel) k39 (by decide +kernel) tw_1118 rfl ?_
  rw [e44]
  refine at_iload_n (i := 1) 1 44 rfl (by decide +kernel) rfl ?_
  refine at_dup2_11 45 rfl (by decide +kernel) rfl (va_rf_cat _) ?_
  obtain ⟨v48, h⟩ := h
  refine at_iald 46 rfl (by decide +kernel) k40 v48 ?_
  refine at_iconst (n := 1) (1 : Int32) 47 rfl (by decide +kernel) (by decide +kernel) ?_
  refine at_iadd 48 rfl (by decide +kernel) ?_
  obtain ⟨v49, h⟩ := h
  refine at_iast 49 rfl (by decide +kernel) k40 v49 (fun m50 e51 => ?_)
  replace h := h m50 e51
  have x52 : Ext m36 m50 := by rw [e51]; exact Ext.sI _ _ _ _
  have k53 : mK m50 t = 13 := x52.k k39 (by decide)
  have k54 : mK m50 b2 = 15 := x52.k k40 (by decide)
  have k55 : mK m50 b6 = 15 := x52.k k41 (by decide)
  have k56 : mK m50 b18 = 15 := x52.k k42 (by decide)
  have k57 : mK m50 b32 = 15 := x52.k k43 (by decide)
  have e58 : mR m50 t 33 = some b2 := x52.r k39 (by decide) rfl e44
  have e59 : mR m50 t 40 = some b6 := x52.r k39 (by decide) rfl e45
  have e60 : mR m50 t 41 = some b18 := x52.r k39 (by decide) rfl e46
  have e61 : mR m50 t 42 = some b32 := x52.r k39 (by decide) rfl e47
  refine at_iload_n (i := 1) 1 50 rfl (by decide +kernel) rfl ?_
  refine at_if_ne (off := 25) 75 53 rfl (by decide +kernel) (by decide +kernel) (fun c62 => ?_) (fun c62 => ?_)
  · rw [if_neg c62] at h
    refine at_aload_n (i := 0) 0 76 rfl (by decide +kernel) rfl ?_
    refine at_get (index := 101) (v := va_rf (mR m50 t 33)) cok12 33 79 rfl (by decide +kernel) k53 (by decide +kernel) tw_1118 rfl ?_
    rw [e58]
    refine at_iload_n (i := 1) 1 80 rfl (by decide +kernel) rfl ?_
    obtain ⟨v63, h⟩ := h
    refine at_iald 81 rfl (by decide +kernel) k54 v63 ?_
    refine at_iconst (n := 1) (1 : Int32) 82 rfl (by decide +kernel) (by decide +kernel) ?_
    refine at_isub 83 rfl (by decide +kernel) ?_
    exact at_iret rfl (by decide +kernel) h
  · rw [if_pos c62] at h
    refine at_aload_n (i := 0) 0 54 rfl (by decide +kernel) rfl ?_
    refine at_get (index := 134) (v := va_rf (mR m50 t 44)) cok12 44 57 rfl (by decide +kernel) k53 (by decide +kernel) tw_1129 rfl ?_
    obtain ⟨b64, e65, h⟩ := h
    rw [e65]
    refine at_iconst (n := 2) (2 : Int32) 58 rfl (by decide +kernel) (by decide +kernel) ?_
    refine at_iload (i := 5) 5 60 rfl (by decide +kernel) rfl ?_
    refine at_imul 61 rfl (by decide +kernel) ?_
    refine at_iconst (n := (-1)) (-1 : Int32) 62 rfl (by decide +kernel) (by decide +kernel) ?_
    obtain ⟨k66, h⟩ := h
    obtain ⟨v67, h⟩ := h
    refine at_iast 63 rfl (by decide +kernel) k66 v67 (fun m68 e69 => ?_)
    replace h := h m68 e69
    have x70 : Ext m50 m68 := by rw [e69]; exact Ext.sI _ _ _ _
    have k71 : mK m68 t = 13 := x70.k k53 (by decide)
    have k72 : mK m68 b2 = 15 := x70.k k54 (by decide)
    have k73 : mK m68 b6 = 15 := x70.k k55 (by decide)
    have k74 : mK m68 b18 = 15 := x70.k k56 (by decide)
    have k75 : mK m68 b32 = 15 := x70.k k57 (by decide)
    have k76 : mK m68 b64 = 15 := x70.k k66 (by decide)
    have e77 : mR m68 t 33 = some b2 := x70.r k53 (by decide) rfl e58
    have e78 : mR m68 t 40 = some b6 := x70.r k53 (by decide) rfl e59
    have e79 : mR m68 t 41 = some b18 := x70.r k53 (by decide) rfl e60
    have e80 : mR m68 t 42 = some b32 := x70.r k53 (by decide) rfl e61
    have e81 : mR m68 t 44 = some b64 := x70.r k53 (by decide) rfl e65
    refine at_aload_n (i := 0) 0 64 rfl (by decide +kernel) rfl ?_
    refine at_get (index := 134) (v := va_rf (mR m68 t 44)) cok12 44 67 rfl (by decide +kernel) k71 (by decide +kernel) tw_1129 rfl ?_
    rw [e81]
    refine at_iconst (n := 2) (2 : Int32) 68 rfl (by decide +kernel) (by decide +kernel) ?_
    refine at_iload (i := 5) 5 70 rfl (by decide +kernel) rfl ?_
    refine at_imul 71 rfl (by decide +kernel) ?_
    refine at_iconst (n := 1) (1 : Int32) 72 rfl (by decide +kernel) (by decide +kernel) ?_
    refine at_iadd 73 rfl (by decide +kernel) ?_
    refine at_iconst (n := (-1)) (-1 : Int32) 74 rfl (by decide +kernel) (by decide +kernel) ?_
    obtain ⟨v82, h⟩ := h
    refine at_iast 75 rfl (by decide +kernel) k76 v82 (fun m83 e84 => ?_)
    replace h := h m83 e84
    have x85 : Ext m68 m83 := by rw [e84]; exact Ext.sI _ _ _ _
    have k86 : mK m83 t = 13 := x85.k k71 (by decide)
    have k87 : mK m83 b2 = 15 := x85.k k72 (by decide)
    have k88 : mK m83 b6 = 15 := x85.k k73 (by decide)
    have k89 : mK m83 b18 = 15 := x85.k k74 (by decide)
    have k90 : mK m83 b32 = 15 := x85.k k75 (by decide)
    have k91 : mK m83 b64 = 15 := x85.k k76 (by decide)
    have e92 : mR m83 t 33 = some b2 := x85.r k71 (by decide) rfl e77
    have e93 : mR m83 t 40 = some b6 := x85.r k71 (by decide) rfl e78
    have e94 : mR m83 t 41 = some b18 := x85.r k71 (by decide) rfl e79
    have e95 : mR m83 t 42 = some b32 := x85.r k71 (by decide) rfl e80
    have e96 : mR m83 t 44 = some b64 := x85.r k71 (by decide) rfl e81
    refine at_aload_n (i := 0) 0 76 rfl (by decide +kernel) rfl ?_
    refine at_get (index := 101) (v := va_rf (mR m83 t 33)) cok12 33 79 rfl (by decide +kernel) k86 (by decide +kernel) tw_1118 rfl ?_
    rw [e92]
    refine at_iload_n (i := 1) 1 80 rfl (by decide +kernel) rfl ?_
    obtain ⟨v97, h⟩ := h
    refine at_iald 81 rfl (by decide +kernel) k87 v97 ?_
    refine at_iconst (n := 1) (1 : Int32) 82 rfl (by decide +kernel) (by decide +kernel) ?_
    refine at_isub 83 rfl (by decide +kernel) ?_
    exact at_iret rfl (by decide +kernel) h
set_option maxRecDepth 20000 in
set_option maxHeartbeats 4000000 in
theorem en_RF_sold (g : Gc) {lv : Nat} {t : Nat} {l1 : Int32} {l2 : Int32} {l3 : Int32} {l4 : Int32} {l5 : Int32} {m : Mm} {Q : Mm → Prop} (h : mK m t = 13 ∧ (∃ b2, mR m t 41 = some b2 ∧ (mK m b2 = 15 ∧ (vp_in (((400 : Int32) * l1) + l2) (mN m b2) ∧ (vp_in (((400 : Int32) * l1) + l2) (mN m b2) ∧ (∀ m7, m7 = sI m b2 (((400 : Int32) * l1) + l2).toNatClampNeg ((mI m b2 (((400 : Int32) * l1) + l2).toNatClampNeg) - l3) → (∃ b13, mR m7 t 39 = some b13 ∧ (∃ b15, mR m7 t 40 = some b15 ∧ (mK m7 b15 = 15 ∧ (vp_in (((400 : Int32) * l1) + l2) (mN m7 b15) ∧ (mK m7 b13 = 16 ∧ (vp_in (((15 : Int32) * l1) + (mI m7 b15 (((400 : Int32) * l1) + l2).toNatClampNeg)) (mN m7 b13) ∧ (vp_in (((15 : Int32) * l1) + (mI m7 b15 (((400 : Int32) * l1) + l2).toNatClampNeg)) (mN m7 b13) ∧ (∀ m22, m22 = sL m7 b13 (((15 : Int32) * l1) + (mI m7 b15 (((400 : Int32) * l1) + l2).toNatClampNeg)).toNatClampNeg ((mL m7 b13 (((15 : Int32) * l1) + (mI m7 b15 (((400 : Int32) * l1) + l2).toNatClampNeg)).toNatClampNeg) + (l3.toInt64 * l4.toInt64)) → (∃ b32, mR m22 t 43 = some b32 ∧ (mK m22 b32 = 16 ∧ (vp_in (((8 : Int32) * l1) + l5) (mN m22 b32) ∧ (vp_in (((8 : Int32) * l1) + l5) (mN m22 b32) ∧ (∀ m37, m37 = sL m22 b32 (((8 : Int32) * l1) + l5).toNatClampNeg ((mL m22 b32 (((8 : Int32) * l1) + l5).toNatClampNeg) + l3.toInt64) → (Q m37)))))))))))))))))))) : CV g M_RF_sold (lv + 1) [va_rf (some t), .int (l1), .int (l2), .int (l3), .int (l4), .int (l5)] m Q := by
  refine Call.of (by decide +kernel) (Nat.le_of_ble_eq_true rfl) ?_
  show At g M_RF_sold (lv + 1) 0 [(0, va_rf (some t)), (1, .int (l1)), (2, .int (l2)), (3, .int (l3)), (4, .int (l4)), (5, .int (l5))] [] m (QV Q)
  refine at_sipush (n := 400) (400 : Int32) 3 rfl (by decide +kernel) (by decide +kernel) ?_
  refine at_iload_n (i := 1) 1 4 rfl (by decide +kernel) rfl ?_
  refine at_imul 5 rfl (by decide +kernel) ?_
  refine at_iload_n (i := 2) 2 6 rfl (by decide +kernel) rfl ?_
  refine at_iadd 7 rfl (by decide +kernel) ?_
  refine at_istore (i := 6) (lc' := [(0, va_rf (some t)), (1, .int (l1)), (3, .int (l3)), (4, .int (l4)), (5, .int (l5)), (6, .int (((400 : Int32) * l1) + l2))]) [1, 2, 4, 5, 6, 0] 9 rfl (by decide +kernel) (by decide +kernel) rfl ?_
  refine at_aload_n (i := 0) 0 10 rfl (by decide +kernel) rfl ?_
  obtain ⟨k1, h⟩ := h
  refine at_get (index := 125) (v := va_rf (mR m t 41)) cok12 41 13 rfl (by decide +kernel) k1 (by decide +kernel) tw_1126 rfl ?_
  obtain ⟨b2, e3, h⟩ := h
  rw [e3]
  refine at_iload (i := 6) 5 15 rfl (by decide +kernel) rfl ?_
  refine at_dup2_11 16 rfl (by decide +kernel) rfl (va_rf_cat _) ?_
  obtain ⟨k4, h⟩ := h
  obtain ⟨v5, h⟩ := h
  refine at_iald 17 rfl (by decide +kernel) k4 v5 ?_
  refine at_iload_n (i := 3) 2 18 rfl (by decide +kernel) rfl ?_
  refine at_isub 19 rfl (by decide +kernel) ?_
  obtain ⟨v6, h⟩ := h
  refine at_iast 20 rfl (by decide +kernel) k4 v6 (fun m7 e8 => ?_)
  replace h := h m7 e8
  have x9 : Ext m m7 := by rw [e8]; exact Ext.sI _ _ _ _
  have k10 : mK m7 t = 13 := x9.k k1 (by decide)
  have k11 : mK m7 b2 = 15 := x9.k k4 (by decide)
  have e12 : mR m7 t 41 = some b2 := x9.r k1 (by decide) rfl e3
  refine at_aload_n (i := 0) 0 21 rfl (by decide +kernel) rfl ?_
  refine at_get (index := 119) (v := va_rf (mR m7 t 39)) cok12 39 24 rfl (by decide +kernel) k10 (by decide +kernel) tw_1124 rfl ?_
  obtain ⟨b13, e14, h⟩ := h
  rw [e14]
  refine at_bipush (n := 15) (15 : Int32) 26 rfl (by decide +kernel) (by decide +kernel) ?_
  refine at_iload_n (i := 1) 1 27 rfl (by decide +kernel) rfl ?_
  refine at_imul 28 rfl (by decide +kernel) ?_
  refine at_aload_n (i := 0) 0 29 rfl (by decide +kernel) rfl ?_
  refine at_get (index := 122) (v := va_rf (mR m7 t 40)) cok12 40 32 rfl (by decide +kernel) k10 (by decide +kernel) tw_1125 rfl ?_
  obtain ⟨b15, e16, h⟩ := h
  rw [e16]
  refine at_iload (i := 6) 5 34 rfl (by decide +kernel) rfl ?_
  obtain ⟨k17, h⟩ := h
  obtain ⟨v18, h⟩ := h
  refine at_iald 35 rfl (by decide +kernel) k17 v18 ?_
  refine at_iadd 36 rfl (by decide +kernel) ?_
  refine at_dup2_11 37 rfl (by decide +kernel) rfl (va_rf_cat _) ?_
  obtain ⟨k19, h⟩ := h
  obtain ⟨v20, h⟩ := h
  refine at_lald 38 rfl (by decide +kernel) k19 v20 ?_
  refine at_iload_n (i := 3) 2 39 rfl (by decide +kernel) rfl ?_
  refine at_i2l 40 rfl (by decide +kernel) ?_
  refine at_iload (i := 4) 3 42 rfl (by decide +kernel) rfl ?_
  refine at_i2l 43 rfl (by decide +kernel) ?_
  refine at_lmul 44 rfl (by decide +kernel) ?_
  refine at_ladd 45 rfl (by decide +kernel) ?_
  obtain ⟨v21, h⟩ := h
  refine at_last 46 rfl (by decide +kernel) k19 v21 (fun m22 e23 => ?_)
  replace h := h m22 e23
  have x24 : Ext m7 m22 := by rw [e23]; exact Ext.sL _ _ _ _
  have k25 : mK m22 t = 13 := x24.k k10 (by decide)
  have k26 : mK m22 b2 = 15 := x24.k k11 (by decide)
  have k27 : mK m22 b15 = 15 := x24.k k17 (by decide)
  have k28 : mK m22 b13 = 16 := x24.k k19 (by decide)
  have e29 : mR m22 t 41 = some b2 := x24.r k10 (by decide) rfl e12
  have e30 : mR m22 t 39 = some b13 := x24.r k10 (by decide) rfl e14
  have e31 : mR m22 t 40 = some b15 := x24.r k10 (by decide) rfl e16
  refine at_aload_n (i := 0) 0 47 rfl (by decide +kernel) rfl ?_
  refine at_get (index := 131) (v := va_rf (mR m22 t 43)) cok12 43 50 rfl (by decide +kernel) k25 (by decide +kernel) tw_1128 rfl ?_
  obtain ⟨b32, e33, h⟩ := h
  rw [e33]
  refine at_bipush (n := 8) (8 : Int32) 52 rfl (by decide +kernel) (by decide +kernel) ?_
  refine at_iload_n (i := 1) 1 53 rfl (by decide +kernel) rfl ?_
  refine at_imul 54 rfl (by decide +kernel) ?_
  refine at_iload (i := 5) 4 56 rfl (by decide +kernel) rfl ?_
  refine at_iadd 57 rfl (by decide +kernel) ?_
  refine at_dup2_11 58 rfl (by decide +kernel) rfl (va_rf_cat _) ?_
  obtain ⟨k34, h⟩ := h
  obtain ⟨v35, h⟩ := h
  refine at_lald 59 rfl (by decide +kernel) k34 v35 ?_
  refine at_iload_n (i := 3) 2 60 rfl (by decide +kernel) rfl ?_
  refine at_i2l 61 rfl (by decide +kernel) ?_
  refine at_ladd 62 rfl (by decide +kernel) ?_
  obtain ⟨v36, h⟩ := h
  refine at_last 63 rfl (by decide +kernel) k34 v36 (fun m37 e38 => ?_)
  replace h := h m37 e38
  have x39 : Ext m22 m37 := by rw [e38]; exact Ext.sL _ _ _ _
  have k40 : mK m37 t = 13 := x39.k k25 (by decide)
  have k41 : mK m37 b2 = 15 := x39.k k26 (by decide)
  have k42 : mK m37 b15 = 15 := x39.k k27 (by decide)
  have k43 : mK m37 b13 = 16 := x39.k k28 (by decide)
  have k44 : mK m37 b32 = 16 := x39.k k34 (by decide)
  have e45 : mR m37 t 41 = some b2 := x39.r k25 (by decide) rfl e29
  have e46 : mR m37 t 39 = some b13 := x39.r k25 (by decide) rfl e30
  have e47 : mR m37 t 40 = some b15 := x39.r k25 (by decide) rfl e31
  have e48 : mR m37 t 43 = some b32 := x39.r k25 (by decide) rfl e33
  exact at_vret rfl (by decide +kernel) h
set_option maxRecDepth 20000 in
set_option maxHeartbeats 4000000 in
theorem bk_RF_passes_697 (g : Gc) {lv : Nat} {t : Nat} {l1 : Int32} {l12 : Int32} {l13 : Int32} {l15 : Int32} {l16 : Int32} {m : Mm} {Q : Int32 → Mm → Prop} (h : mK m t = 13 ∧ (∃ b2, mR m t 33 = some b2 ∧ (mK m b2 = 15 ∧ (vp_in l1 (mN m b2) ∧ (if (mI m b2 l1.toNatClampNeg) ≤ (l16) then (∃ b7, mR m t 32 = some b7 ∧ (mK m b7 = 15 ∧ (vp_in l1 (mN m b7) ∧ (∃ b11, mR m t 34 = some b11 ∧ (mK m b11 = 15 ∧ (vp_in l1 (mN m b11) ∧ (vp_in l1 (mN m b7) ∧ (∀ m16, m16 = sI m b7 l1.toNatClampNeg ((lmx (1 : Int64) (lmn (10000 : Int64) (((mI m b7 l1.toNatClampNeg).toInt64) + ((((((mI m b11 l1.toNatClampNeg).toInt64) - l15.toInt64) - l13.toInt64) * ((mI m t 7).toInt64)) / (1000 : Int64))))).toInt32) → (CV g M_RF_grows lv [va_rf (some t), .int (l1)] m16 (fun m26 => (Q l12 m26))))))))))) else (∃ b35, mR m t 41 = some b35 ∧ (mK m b35 = 15 ∧ (vp_in (((400 : Int32) * l1) + l16) (mN m b35) ∧ (vp_in (((400 : Int32) * l1) + l16) (mN m b35) ∧ (vp_in (((400 : Int32) * l1) + l16) (mN m b35) ∧ (∀ m41, m41 = sI m b35 (((400 : Int32) * l1) + l16).toNatClampNeg ((mI m b35 (((400 : Int32) * l1) + l16).toNatClampNeg) - (((((mI m b35 (((400 : Int32) * l1) + l16).toNatClampNeg).toInt64) * ((mI m t 11).toInt64)) / (1000 : Int64)).toInt32)) → (∃ b49, mR m41 t 43 = some b49 ∧ (mK m41 b49 = 16 ∧ (vp_in (((8 : Int32) * l1) + (6 : Int32)) (mN m41 b49) ∧ (vp_in (((8 : Int32) * l1) + (6 : Int32)) (mN m41 b49) ∧ (∀ m54, m54 = sL m41 b49 (((8 : Int32) * l1) + (6 : Int32)).toNatClampNeg ((mL m41 b49 (((8 : Int32) * l1) + (6 : Int32)).toNatClampNeg) + ((((((mI m b35 (((400 : Int32) * l1) + l16).toNatClampNeg).toInt64) * ((mI m t 11).toInt64)) / (1000 : Int64)).toInt32).toInt64)) → (At g M_RF_passes (lv + 1) 697 [(0, va_rf (some t)), (1, .int (l1)), (12, .int (l12)), (13, .int (l13)), (15, .int (l15)), (16, .int (l16 + (1 : Int32)))] [] m54 (QI Q)))))))))))))))))) : At g M_RF_passes (lv + 1) 697 [(0, va_rf (some t)), (1, .int (l1)), (12, .int (l12)), (13, .int (l13)), (15, .int (l15)), (16, .int (l16))] [] m (QI Q) := by
  refine at_iload (i := 16) 5 699 rfl (by decide +kernel) rfl ?_
  refine at_aload_n (i := 0) 0 700 rfl (by decide +kernel) rfl ?_
  obtain ⟨k1, h⟩ := h
  refine at_get (index := 101) (v := va_rf (mR m t 33)) cok12 33 703 rfl (by decide +kernel) k1 (by decide +kernel) tw_1118 rfl ?_
  obtain ⟨b2, e3, h⟩ := h
  rw [e3]
  refine at_iload_n (i := 1) 1 704 rfl (by decide +kernel) rfl ?_
  obtain ⟨k4, h⟩ := h
  obtain ⟨v5, h⟩ := h
  refine at_iald 705 rfl (by decide +kernel) k4 v5 ?_
  refine at_icmp_ge (off := 70) 775 708 rfl (by decide +kernel) (by decide +kernel) (fun c6 => ?_) (fun c6 => ?_)
  · rw [if_pos c6] at h
    refine at_aload_n (i := 0) 0 776 rfl (by decide +kernel) rfl ?_
    refine at_get (index := 98) (v := va_rf (mR m t 32)) cok12 32 779 rfl (by decide +kernel) k1 (by decide +kernel) tw_1117 rfl ?_
    obtain ⟨b7, e8, h⟩ := h
    rw [e8]
    refine at_iload_n (i := 1) 1 780 rfl (by decide +kernel) rfl ?_
    obtain ⟨k9, h⟩ := h
    obtain ⟨v10, h⟩ := h
    refine at_iald 781 rfl (by decide +kernel) k9 v10 ?_
    refine at_i2l 782 rfl (by decide +kernel) ?_
    refine at_aload_n (i := 0) 0 783 rfl (by decide +kernel) rfl ?_
    refine at_get (index := 104) (v := va_rf (mR m t 34)) cok12 34 786 rfl (by decide +kernel) k1 (by decide +kernel) tw_1119 rfl ?_
    obtain ⟨b11, e12, h⟩ := h
    rw [e12]
    refine at_iload_n (i := 1) 1 787 rfl (by decide +kernel) rfl ?_
    obtain ⟨k13, h⟩ := h
    obtain ⟨v14, h⟩ := h
    refine at_iald 788 rfl (by decide +kernel) k13 v14 ?_
    refine at_i2l 789 rfl (by decide +kernel) ?_
    refine at_iload (i := 15) 4 791 rfl (by decide +kernel) rfl ?_
    refine at_i2l 792 rfl (by decide +kernel) ?_
    refine at_lsub 793 rfl (by decide +kernel) ?_
    refine at_iload (i := 13) 3 795 rfl (by decide +kernel) rfl ?_
    refine at_i2l 796 rfl (by decide +kernel) ?_
    refine at_lsub 797 rfl (by decide +kernel) ?_
    refine at_aload_n (i := 0) 0 798 rfl (by decide +kernel) rfl ?_
    refine at_get (index := 30) (v := .int (mI m t 7)) cok12 7 801 rfl (by decide +kernel) k1 (by decide +kernel) tw_1092 rfl ?_
    refine at_i2l 802 rfl (by decide +kernel) ?_
    refine at_lmul 803 rfl (by decide +kernel) ?_
    refine at_ldc2 (index := 170) (1000 : Int64) 806 rfl (by decide +kernel) tw_1316 ?_
    refine at_ldiv 807 rfl (by decide +kernel) (by decide +kernel) ?_
    refine at_ladd 808 rfl (by decide +kernel) ?_
    refine at_lstore (i := 16) (lc' := [(0, va_rf (some t)), (1, .int (l1)), (12, .int (l12)), (16, .long (((mI m b7 l1.toNatClampNeg).toInt64) + ((((((mI m b11 l1.toNatClampNeg).toInt64) - l15.toInt64) - l13.toInt64) * ((mI m t 7).toInt64)) / (1000 : Int64))))]) [1, 2, 3, 0] 810 rfl (by decide +kernel) (by decide +kernel) rfl ?_
    refine at_aload_n (i := 0) 0 811 rfl (by decide +kernel) rfl ?_
    refine at_get (index := 98) (v := va_rf (mR m t 32)) cok12 32 814 rfl (by decide +kernel) k1 (by decide +kernel) tw_1117 rfl ?_
    rw [e8]
    refine at_iload_n (i := 1) 1 815 rfl (by decide +kernel) rfl ?_
    refine at_lconst (n := 1) (1 : Int64) 816 rfl (by decide +kernel) (by decide +kernel) ?_
    refine at_ldc2 (index := 172) (10000 : Int64) 819 rfl (by decide +kernel) tw_1317 ?_
    refine at_lload (i := 16) 3 821 rfl (by decide +kernel) rfl ?_
    refine at_lmn (index := 349) 824 rfl (by decide +kernel) tw_1454 (by simp [va_rf_cat, cat_int, cat_long]) ?_
    refine at_lmx (index := 341) 827 rfl (by decide +kernel) tw_1453 (by simp [va_rf_cat, cat_int, cat_long]) ?_
    refine at_l2i 828 rfl (by decide +kernel) ?_
    obtain ⟨v15, h⟩ := h
    refine at_iast 829 rfl (by decide +kernel) k9 v15 (fun m16 e17 => ?_)
    replace h := h m16 e17
    have x18 : Ext m m16 := by rw [e17]; exact Ext.sI _ _ _ _
    have k19 : mK m16 t = 13 := x18.k k1 (by decide)
    have k20 : mK m16 b2 = 15 := x18.k k4 (by decide)
    have k21 : mK m16 b7 = 15 := x18.k k9 (by decide)
    have k22 : mK m16 b11 = 15 := x18.k k13 (by decide)
    have e23 : mR m16 t 33 = some b2 := x18.r k1 (by decide) rfl e3
    have e24 : mR m16 t 32 = some b7 := x18.r k1 (by decide) rfl e8
    have e25 : mR m16 t 34 = some b11 := x18.r k1 (by decide) rfl e12
    refine at_aload_n (i := 0) 0 830 rfl (by decide +kernel) rfl ?_
    refine at_iload_n (i := 1) 1 831 rfl (by decide +kernel) rfl ?_
    refine at_callV mb_RF_grows tw_1481 tw_55 cok12 k19 (index := 369) tw_1479 [.int (l1)] [] rfl rfl (by decide) 834 rfl (by decide +kernel) (Call.toV (CV.monoE h (fun m26 h y27 => ?_)))
    have k28 : mK m26 t = 13 := y27.k k19 (by decide)
    have k29 : mK m26 b2 = 15 := y27.k k20 (by decide)
    have k30 : mK m26 b7 = 15 := y27.k k21 (by decide)
    have k31 : mK m26 b11 = 15 := y27.k k22 (by decide)
    have e32 : mR m26 t 33 = some b2 := y27.r k19 (by decide) rfl e23
    have e33 : mR m26 t 32 = some b7 := y27.r k19 (by decide) rfl e24
    have e34 : mR m26 t 34 = some b11 := y27.r k19 (by decide) rfl e25
    refine at_iload (i := 12) 2 836 rfl (by decide +kernel) rfl ?_
    exact at_iret rfl (by decide +kernel) h
  · rw [if_neg c6] at h
    refine at_sipush (n := 400) (400 : Int32) 711 rfl (by decide +kernel) (by decide +kernel) ?_
    refine at_iload_n (i := 1) 1 712 rfl (by decide +kernel) rfl ?_
    refine at_imul 713 rfl (by decide +kernel) ?_
    refine at_iload (i := 16) 5 715 rfl (by decide +kernel) rfl ?_
    refine at_iadd 716 rfl (by decide +kernel) ?_
    refine at_istore (i := 17) (lc' := [(0, va_rf (some t)), (1, .int (l1)), (12, .int (l12)), (13, .int (l13)), (15, .int (l15)), (16, .int (l16)), (17, .int (((400 : Int32) * l1) + l16))]) [1, 2, 3, 4, 5, 6, 0] 718 rfl (by decide +kernel) (by decide +kernel) rfl ?_
    refine at_aload_n (i := 0) 0 719 rfl (by decide +kernel) rfl ?_
    refine at_get (index := 125) (v := va_rf (mR m t 41)) cok12 41 722 rfl (by decide +kernel) k1 (by decide +kernel) tw_1126 rfl ?_
    obtain ⟨b35, e36, h⟩ := h
    rw [e36]
    refine at_iload (i := 17) 6 724 rfl (by decide +kernel) rfl ?_
    obtain ⟨k37, h⟩ := h
    obtain ⟨v38, h⟩ := h
    refine at_iald 725 rfl (by decide +kernel) k37 v38 ?_
    refine at_i2l 726 rfl (by decide +kernel) ?_
    refine at_aload_n (i := 0) 0 727 rfl (by decide +kernel) rfl ?_
    refine at_get (index := 178) (v := .int (mI m t 11)) cok12 11 730 rfl (by decide +kernel) k1 (by decide +kernel) tw_1096 rfl ?_
    refine at_i2l 731 rfl (by decide +kernel) ?_
    refine at_lmul 732 rfl (by decide +kernel) ?_
    refine at_ldc2 (index := 170) (1000 : Int64) 735 rfl (by decide +kernel) tw_1316 ?_
    refine at_ldiv 736 rfl (by decide +kernel) (by decide +kernel) ?_
    refine at_l2i 737 rfl (by decide +kernel) ?_
    refine at_istore (i := 18) (lc' := [(0, va_rf (some t)), (1, .int (l1)), (12, .int (l12)), (13, .int (l13)), (15, .int (l15)), (16, .int (l16)), (17, .int (((400 : Int32) * l1) + l16)), (18, .int (((((mI m b35 (((400 : Int32) * l1) + l16).toNatClampNeg).toInt64) * ((mI m t 11).toInt64)) / (1000 : Int64)).toInt32))]) [1, 2, 3, 4, 5, 6, 7, 0] 739 rfl (by decide +kernel) (by decide +kernel) rfl ?_
    refine at_aload_n (i := 0) 0 740 rfl (by decide +kernel) rfl ?_
    refine at_get (index := 125) (v := va_rf (mR m t 41)) cok12 41 743 rfl (by decide +kernel) k1 (by decide +kernel) tw_1126 rfl ?_
    rw [e36]
    refine at_iload (i := 17) 6 745 rfl (by decide +kernel) rfl ?_
    refine at_dup2_11 746 rfl (by decide +kernel) rfl (va_rf_cat _) ?_
    obtain ⟨v39, h⟩ := h
    refine at_iald 747 rfl (by decide +kernel) k37 v39 ?_
    refine at_iload (i := 18) 7 749 rfl (by decide +kernel) rfl ?_
    refine at_isub 750 rfl (by decide +kernel) ?_
    obtain ⟨v40, h⟩ := h
    refine at_iast 751 rfl (by decide +kernel) k37 v40 (fun m41 e42 => ?_)
    replace h := h m41 e42
    have x43 : Ext m m41 := by rw [e42]; exact Ext.sI _ _ _ _
    have k44 : mK m41 t = 13 := x43.k k1 (by decide)
    have k45 : mK m41 b2 = 15 := x43.k k4 (by decide)
    have k46 : mK m41 b35 = 15 := x43.k k37 (by decide)
    have e47 : mR m41 t 33 = some b2 := x43.r k1 (by decide) rfl e3
    have e48 : mR m41 t 41 = some b35 := x43.r k1 (by decide) rfl e36
    refine at_aload_n (i := 0) 0 752 rfl (by decide +kernel) rfl ?_
    refine at_get (index := 131) (v := va_rf (mR m41 t 43)) cok12 43 755 rfl (by decide +kernel) k44 (by decide +kernel) tw_1128 rfl ?_
    obtain ⟨b49, e50, h⟩ := h
    rw [e50]
    refine at_bipush (n := 8) (8 : Int32) 757 rfl (by decide +kernel) (by decide +kernel) ?_
    refine at_iload_n (i := 1) 1 758 rfl (by decide +kernel) rfl ?_
    refine at_imul 759 rfl (by decide +kernel) ?_
    refine at_bipush (n := 6) (6 : Int32) 761 rfl (by decide +kernel) (by decide +kernel) ?_
    refine at_iadd 762 rfl (by decide +kernel) ?_
    refine at_dup2_11 763 rfl (by decide +kernel) rfl (va_rf_cat _) ?_
    obtain ⟨k51, h⟩ := h
    obtain ⟨v52, h⟩ := h
    refine at_lald 764 rfl (by decide +kernel) k51 v52 ?_
    refine at_iload (i := 18) 7 766 rfl (by decide +kernel) rfl ?_
    refine at_i2l 767 rfl (by decide +kernel) ?_
    refine at_ladd 768 rfl (by decide +kernel) ?_
    obtain ⟨v53, h⟩ := h
    refine at_last 769 rfl (by decide +kernel) k51 v53 (fun m54 e55 => ?_)
    replace h := h m54 e55
    have x56 : Ext m41 m54 := by rw [e55]; exact Ext.sL _ _ _ _
    have k57 : mK m54 t = 13 := x56.k k44 (by decide)
    have k58 : mK m54 b2 = 15 := x56.k k45 (by decide)
    have k59 : mK m54 b35 = 15 := x56.k k46 (by decide)
    have k60 : mK m54 b49 = 16 := x56.k k51 (by decide)
    have e61 : mR m54 t 33 = some b2 := x56.r k44 (by decide) rfl e47
    have e62 : mR m54 t 41 = some b35 := x56.r k44 (by decide) rfl e48
    have e63 : mR m54 t 43 = some b49 := x56.r k44 (by decide) rfl e50
    refine at_iinc (i := 16) (n := 1) (lc' := [(0, va_rf (some t)), (1, .int (l1)), (12, .int (l12)), (13, .int (l13)), (15, .int (l15)), (16, .int (l16 + (1 : Int32)))]) (l16 + (1 : Int32)) 5 [1, 2, 3, 4, 5, 0] 772 rfl (by decide +kernel) rfl (by rw [show Int32.ofInt 1 = (1 : Int32) from by decide +kernel]) (by decide +kernel) rfl ?_
    refine at_goto (off := (-75)) 697 (by decide +kernel) (by decide +kernel) ?_
    exact h
set_option maxRecDepth 20000 in
set_option maxHeartbeats 4000000 in
theorem bk_RF_passes_580 (g : Gc) {lv : Nat} {t : Nat} {l1 : Int32} {l5 : Int32} {l12 : Int32} {l13 : Int32} {l15 : Int32} {m : Mm} {Q : Int32 → Mm → Prop} (h : mK m t = 13 ∧ (∃ b2, mR m t 33 = some b2 ∧ (mK m b2 = 15 ∧ (vp_in l1 (mN m b2) ∧ (if (mI m b2 l1.toNatClampNeg) ≤ (l15) then (CI g M_RF_frees lv [va_rf (some t), .int (l1)] m (fun x7 m8 => (∃ b13, mR m8 t 34 = some b13 ∧ (mK m8 b13 = 15 ∧ (vp_in l1 (mN m8 b13) ∧ (CV g M_RF_abroad lv [va_rf (some t), .int (l1), .int (x7), .int (imn x7 (imx (0 : Int32) ((mI m8 b13 l1.toNatClampNeg) - l13)))] m8 (fun m17 => (CV g M_RF_stills lv [va_rf (some t), .int (l1)] m17 (fun m24 => (At g M_RF_passes (lv + 1) 697 [(0, va_rf (some t)), (1, .int (l1)), (12, .int (l12)), (13, .int (l13)), (15, .int (x7)), (16, .int ((0 : Int32)))] [] m24 (QI Q))))))))))) else (if (mI m t 63) = ((-1 : Int32)) then (At g M_RF_passes (lv + 1) 580 [(0, va_rf (some t)), (1, .int (l1)), (5, .int (l5)), (12, .int (l12)), (13, .int (l13)), (15, .int (l15 + (1 : Int32)))] [] m (QI Q)) else (∃ b32, mR m t 42 = some b32 ∧ (mK m b32 = 15 ∧ (vp_in (((400 : Int32) * l1) + l15) (mN m b32) ∧ (if (l5 - (mI m b32 (((400 : Int32) * l1) + l15).toNatClampNeg)) ≤ (mI m t 63) then (At g M_RF_passes (lv + 1) 580 [(0, va_rf (some t)), (1, .int (l1)), (5, .int (l5)), (12, .int (l12)), (13, .int (l13)), (15, .int (l15 + (1 : Int32)))] [] m (QI Q)) else (∃ b37, mR m t 41 = some b37 ∧ (mK m b37 = 15 ∧ (vp_in (((400 : Int32) * l1) + l15) (mN m b37) ∧ (∃ b41, mR m t 32 = some b41 ∧ (mK m b41 = 15 ∧ (vp_in l1 (mN m b41) ∧ (CV g M_RF_sold lv [va_rf (some t), .int (l1), .int (l15), .int (mI m b37 (((400 : Int32) * l1) + l15).toNatClampNeg), .int ((mI m b41 l1.toNatClampNeg) / (4 : Int32)), .int ((5 : Int32))] m (fun m45 => (At g M_RF_passes (lv + 1) 580 [(0, va_rf (some t)), (1, .int (l1)), (5, .int (l5)), (12, .int (l12)), (13, .int (l13)), (15, .int (l15 + (1 : Int32)))] [] m45 (QI Q)))))))))))))))))))) : At g M_RF_passes (lv + 1) 580 [(0, va_rf (some t)), (1, .int (l1)), (5, .int (l5)), (12, .int (l12)), (13, .int (l13)), (15, .int (l15))] [] m (QI Q) := by
  refine at_iload (i := 15) 5 582 rfl (by decide +kernel) rfl ?_
  refine at_aload_n (i := 0) 0 583 rfl (by decide +kernel) rfl ?_
  obtain ⟨k1, h⟩ := h
  refine at_get (index := 101) (v := va_rf (mR m t 33)) cok12 33 586 rfl (by decide +kernel) k1 (by decide +kernel) tw_1118 rfl ?_
  obtain ⟨b2, e3, h⟩ := h
  rw [e3]
  refine at_iload_n (i := 1) 1 587 rfl (by decide +kernel) rfl ?_
  obtain ⟨k4, h⟩ := h
  obtain ⟨v5, h⟩ := h
  refine at_iald 588 rfl (by decide +kernel) k4 v5 ?_
  refine at_icmp_ge (off := 69) 657 591 rfl (by decide +kernel) (by decide +kernel) (fun c6 => ?_) (fun c6 => ?_)
  · rw [if_pos c6] at h
    refine at_aload_n (i := 0) 0 658 rfl (by decide +kernel) rfl ?_
    refine at_iload_n (i := 1) 1 659 rfl (by decide +kernel) rfl ?_
    refine at_callV mb_RF_frees tw_1465 tw_51 cok12 k1 (index := 359) tw_1463 [.int (l1)] [] rfl rfl (by decide) 662 rfl (by decide +kernel) (Call.toI (CI.monoE h (fun x7 m8 h y9 => ?_)))
    have k10 : mK m8 t = 13 := y9.k k1 (by decide)
    have k11 : mK m8 b2 = 15 := y9.k k4 (by decide)
    have e12 : mR m8 t 33 = some b2 := y9.r k1 (by decide) rfl e3
    refine at_istore (i := 15) (lc' := [(0, va_rf (some t)), (1, .int (l1)), (12, .int (l12)), (13, .int (l13)), (15, .int (x7))]) [1, 2, 4, 5, 0] 664 rfl (by decide +kernel) (by decide +kernel) rfl ?_
    refine at_aload_n (i := 0) 0 665 rfl (by decide +kernel) rfl ?_
    refine at_iload_n (i := 1) 1 666 rfl (by decide +kernel) rfl ?_
    refine at_iload (i := 15) 4 668 rfl (by decide +kernel) rfl ?_
    refine at_iload (i := 15) 4 670 rfl (by decide +kernel) rfl ?_
    refine at_iconst (n := 0) (0 : Int32) 671 rfl (by decide +kernel) (by decide +kernel) ?_
    refine at_aload_n (i := 0) 0 672 rfl (by decide +kernel) rfl ?_
    refine at_get (index := 104) (v := va_rf (mR m8 t 34)) cok12 34 675 rfl (by decide +kernel) k10 (by decide +kernel) tw_1119 rfl ?_
    obtain ⟨b13, e14, h⟩ := h
    rw [e14]
    refine at_iload_n (i := 1) 1 676 rfl (by decide +kernel) rfl ?_
    obtain ⟨k15, h⟩ := h
    obtain ⟨v16, h⟩ := h
    refine at_iald 677 rfl (by decide +kernel) k15 v16 ?_
    refine at_iload (i := 13) 3 679 rfl (by decide +kernel) rfl ?_
    refine at_isub 680 rfl (by decide +kernel) ?_
    refine at_imx (index := 297) 683 rfl (by decide +kernel) tw_1389 (by simp [va_rf_cat, cat_int, cat_long]) ?_
    refine at_imn (index := 305) 686 rfl (by decide +kernel) tw_1390 (by simp [va_rf_cat, cat_int, cat_long]) ?_
    refine at_callV mb_RF_abroad tw_1469 tw_52 cok12 k10 (index := 362) tw_1467 [.int (l1), .int (x7), .int (imn x7 (imx (0 : Int32) ((mI m8 b13 l1.toNatClampNeg) - l13)))] [] rfl rfl (by decide) 689 rfl (by decide +kernel) (Call.toV (CV.monoE h (fun m17 h y18 => ?_)))
    have k19 : mK m17 t = 13 := y18.k k10 (by decide)
    have k20 : mK m17 b2 = 15 := y18.k k11 (by decide)
    have k21 : mK m17 b13 = 15 := y18.k k15 (by decide)
    have e22 : mR m17 t 33 = some b2 := y18.r k10 (by decide) rfl e12
    have e23 : mR m17 t 34 = some b13 := y18.r k10 (by decide) rfl e14
    refine at_aload_n (i := 0) 0 690 rfl (by decide +kernel) rfl ?_
    refine at_iload_n (i := 1) 1 691 rfl (by decide +kernel) rfl ?_
    refine at_callV mb_RF_stills tw_1477 tw_54 cok12 k19 (index := 366) tw_1475 [.int (l1)] [] rfl rfl (by decide) 694 rfl (by decide +kernel) (Call.toV (CV.monoE h (fun m24 h y25 => ?_)))
    have k26 : mK m24 t = 13 := y25.k k19 (by decide)
    have k27 : mK m24 b2 = 15 := y25.k k20 (by decide)
    have k28 : mK m24 b13 = 15 := y25.k k21 (by decide)
    have e29 : mR m24 t 33 = some b2 := y25.r k19 (by decide) rfl e22
    have e30 : mR m24 t 34 = some b13 := y25.r k19 (by decide) rfl e23
    refine at_iconst (n := 0) (0 : Int32) 695 rfl (by decide +kernel) (by decide +kernel) ?_
    refine at_istore (i := 16) (lc' := [(0, va_rf (some t)), (1, .int (l1)), (12, .int (l12)), (13, .int (l13)), (15, .int (x7)), (16, .int ((0 : Int32)))]) [1, 2, 3, 4, 5, 0] 697 rfl (by decide +kernel) (by decide +kernel) rfl ?_
    exact h
  · rw [if_neg c6] at h
    refine at_aload_n (i := 0) 0 592 rfl (by decide +kernel) rfl ?_
    refine at_get (index := 303) (v := .int (mI m t 63)) cok12 63 595 rfl (by decide +kernel) k1 (by decide +kernel) tw_1148 rfl ?_
    refine at_iconst (n := (-1)) (-1 : Int32) 596 rfl (by decide +kernel) (by decide +kernel) ?_
    refine at_icmp_eq (off := 55) 651 599 rfl (by decide +kernel) (by decide +kernel) (fun c31 => ?_) (fun c31 => ?_)
    · rw [if_pos c31] at h
      refine at_iinc (i := 15) (n := 1) (lc' := [(0, va_rf (some t)), (1, .int (l1)), (5, .int (l5)), (12, .int (l12)), (13, .int (l13)), (15, .int (l15 + (1 : Int32)))]) (l15 + (1 : Int32)) 5 [1, 2, 3, 4, 5, 0] 654 rfl (by decide +kernel) rfl (by rw [show Int32.ofInt 1 = (1 : Int32) from by decide +kernel]) (by decide +kernel) rfl ?_
      refine at_goto (off := (-74)) 580 (by decide +kernel) (by decide +kernel) ?_
      exact h
    · rw [if_neg c31] at h
      refine at_iload (i := 5) 2 601 rfl (by decide +kernel) rfl ?_
      refine at_aload_n (i := 0) 0 602 rfl (by decide +kernel) rfl ?_
      refine at_get (index := 128) (v := va_rf (mR m t 42)) cok12 42 605 rfl (by decide +kernel) k1 (by decide +kernel) tw_1127 rfl ?_
      obtain ⟨b32, e33, h⟩ := h
      rw [e33]
      refine at_sipush (n := 400) (400 : Int32) 608 rfl (by decide +kernel) (by decide +kernel) ?_
      refine at_iload_n (i := 1) 1 609 rfl (by decide +kernel) rfl ?_
      refine at_imul 610 rfl (by decide +kernel) ?_
      refine at_iload (i := 15) 5 612 rfl (by decide +kernel) rfl ?_
      refine at_iadd 613 rfl (by decide +kernel) ?_
      obtain ⟨k34, h⟩ := h
      obtain ⟨v35, h⟩ := h
      refine at_iald 614 rfl (by decide +kernel) k34 v35 ?_
      refine at_isub 615 rfl (by decide +kernel) ?_
      refine at_aload_n (i := 0) 0 616 rfl (by decide +kernel) rfl ?_
      refine at_get (index := 303) (v := .int (mI m t 63)) cok12 63 619 rfl (by decide +kernel) k1 (by decide +kernel) tw_1148 rfl ?_
      refine at_icmp_le (off := 32) 651 622 rfl (by decide +kernel) (by decide +kernel) (fun c36 => ?_) (fun c36 => ?_)
      · rw [if_pos c36] at h
        refine at_iinc (i := 15) (n := 1) (lc' := [(0, va_rf (some t)), (1, .int (l1)), (5, .int (l5)), (12, .int (l12)), (13, .int (l13)), (15, .int (l15 + (1 : Int32)))]) (l15 + (1 : Int32)) 5 [1, 2, 3, 4, 5, 0] 654 rfl (by decide +kernel) rfl (by rw [show Int32.ofInt 1 = (1 : Int32) from by decide +kernel]) (by decide +kernel) rfl ?_
        refine at_goto (off := (-74)) 580 (by decide +kernel) (by decide +kernel) ?_
        exact h
      · rw [if_neg c36] at h
        refine at_aload_n (i := 0) 0 623 rfl (by decide +kernel) rfl ?_
        refine at_iload_n (i := 1) 1 624 rfl (by decide +kernel) rfl ?_
        refine at_iload (i := 15) 5 626 rfl (by decide +kernel) rfl ?_
        refine at_aload_n (i := 0) 0 627 rfl (by decide +kernel) rfl ?_
        refine at_get (index := 125) (v := va_rf (mR m t 41)) cok12 41 630 rfl (by decide +kernel) k1 (by decide +kernel) tw_1126 rfl ?_
        obtain ⟨b37, e38, h⟩ := h
        rw [e38]
        refine at_sipush (n := 400) (400 : Int32) 633 rfl (by decide +kernel) (by decide +kernel) ?_
        refine at_iload_n (i := 1) 1 634 rfl (by decide +kernel) rfl ?_
        refine at_imul 635 rfl (by decide +kernel) ?_
        refine at_iload (i := 15) 5 637 rfl (by decide +kernel) rfl ?_
        refine at_iadd 638 rfl (by decide +kernel) ?_
        obtain ⟨k39, h⟩ := h
        obtain ⟨v40, h⟩ := h
        refine at_iald 639 rfl (by decide +kernel) k39 v40 ?_
        refine at_aload_n (i := 0) 0 640 rfl (by decide +kernel) rfl ?_
        refine at_get (index := 98) (v := va_rf (mR m t 32)) cok12 32 643 rfl (by decide +kernel) k1 (by decide +kernel) tw_1117 rfl ?_
        obtain ⟨b41, e42, h⟩ := h
        rw [e42]
        refine at_iload_n (i := 1) 1 644 rfl (by decide +kernel) rfl ?_
        obtain ⟨k43, h⟩ := h
        obtain ⟨v44, h⟩ := h
        refine at_iald 645 rfl (by decide +kernel) k43 v44 ?_
        refine at_iconst (n := 4) (4 : Int32) 646 rfl (by decide +kernel) (by decide +kernel) ?_
        refine at_idiv 647 rfl (by decide +kernel) (by decide +kernel) ?_
        refine at_iconst (n := 5) (5 : Int32) 648 rfl (by decide +kernel) (by decide +kernel) ?_
        refine at_callV mb_RF_sold tw_1461 tw_50 cok12 k1 (index := 355) tw_1459 [.int (l1), .int (l15), .int (mI m b37 (((400 : Int32) * l1) + l15).toNatClampNeg), .int ((mI m b41 l1.toNatClampNeg) / (4 : Int32)), .int ((5 : Int32))] [] rfl rfl (by decide) 651 rfl (by decide +kernel) (Call.toV (CV.monoE h (fun m45 h y46 => ?_)))
        have k47 : mK m45 t = 13 := y46.k k1 (by decide)
        have k48 : mK m45 b2 = 15 := y46.k k4 (by decide)
        have k49 : mK m45 b32 = 15 := y46.k k34 (by decide)
        have k50 : mK m45 b37 = 15 := y46.k k39 (by decide)
        have k51 : mK m45 b41 = 15 := y46.k k43 (by decide)
        have e52 : mR m45 t 33 = some b2 := y46.r k1 (by decide) rfl e3
        have e53 : mR m45 t 42 = some b32 := y46.r k1 (by decide) rfl e33
        have e54 : mR m45 t 41 = some b37 := y46.r k1 (by decide) rfl e38
        have e55 : mR m45 t 32 = some b41 := y46.r k1 (by decide) rfl e42
        refine at_iinc (i := 15) (n := 1) (lc' := [(0, va_rf (some t)), (1, .int (l1)), (5, .int (l5)), (12, .int (l12)), (13, .int (l13)), (15, .int (l15 + (1 : Int32)))]) (l15 + (1 : Int32)) 5 [1, 2, 3, 4, 5, 0] 654 rfl (by decide +kernel) rfl (by rw [show Int32.ofInt 1 = (1 : Int32) from by decide +kernel]) (by decide +kernel) rfl ?_
        refine at_goto (off := (-74)) 580 (by decide +kernel) (by decide +kernel) ?_
        exact h
set_option maxRecDepth 20000 in
set_option maxHeartbeats 4000000 in
theorem bk_RF_passes_516 (g : Gc) {lv : Nat} {t : Nat} {l1 : Int32} {l5 : Int32} {l6 : Int32} {l12 : Int32} {l13 : Int32} {l14 : Int32} {l15 : Int32} {m : Mm} {Q : Int32 → Mm → Prop} (h : if (l6) ≤ (l15) then (At g M_RF_passes (lv + 1) 580 [(0, va_rf (some t)), (1, .int (l1)), (5, .int (l5)), (12, .int (l12)), (13, .int (l13)), (15, .int ((0 : Int32)))] [] m (QI Q)) else (if (l14) ≤ 0 then (At g M_RF_passes (lv + 1) 580 [(0, va_rf (some t)), (1, .int (l1)), (5, .int (l5)), (12, .int (l12)), (13, .int (l13)), (15, .int ((0 : Int32)))] [] m (QI Q)) else (mK m t = 13 ∧ (∃ b4, mR m t 41 = some b4 ∧ (mK m b4 = 15 ∧ (vp_in (((400 : Int32) * l1) + l15) (mN m b4) ∧ (∃ b8, mR m t 32 = some b8 ∧ (mK m b8 = 15 ∧ (vp_in l1 (mN m b8) ∧ (CV g M_RF_sold lv [va_rf (some t), .int (l1), .int (l15), .int (imn l14 (mI m b4 (((400 : Int32) * l1) + l15).toNatClampNeg)), .int (mI m b8 l1.toNatClampNeg), .int ((3 : Int32))] m (fun m12 => (At g M_RF_passes (lv + 1) 516 [(0, va_rf (some t)), (1, .int (l1)), (5, .int (l5)), (6, .int (l6)), (12, .int (l12)), (13, .int (l13)), (14, .int (l14 - (imn l14 (mI m b4 (((400 : Int32) * l1) + l15).toNatClampNeg)))), (15, .int (l15 + (1 : Int32)))] [] m12 (QI Q))))))))))))) : At g M_RF_passes (lv + 1) 516 [(0, va_rf (some t)), (1, .int (l1)), (5, .int (l5)), (6, .int (l6)), (12, .int (l12)), (13, .int (l13)), (14, .int (l14)), (15, .int (l15))] [] m (QI Q) := by
  refine at_iload (i := 15) 7 518 rfl (by decide +kernel) rfl ?_
  refine at_iload (i := 6) 3 520 rfl (by decide +kernel) rfl ?_
  refine at_icmp_ge (off := 57) 577 523 rfl (by decide +kernel) (by decide +kernel) (fun c1 => ?_) (fun c1 => ?_)
  · rw [if_pos c1] at h
    refine at_iconst (n := 0) (0 : Int32) 578 rfl (by decide +kernel) (by decide +kernel) ?_
    refine at_istore (i := 15) (lc' := [(0, va_rf (some t)), (1, .int (l1)), (5, .int (l5)), (12, .int (l12)), (13, .int (l13)), (15, .int ((0 : Int32)))]) [1, 2, 3, 5, 6, 0] 580 rfl (by decide +kernel) (by decide +kernel) rfl ?_
    exact h
  · rw [if_neg c1] at h
    refine at_iload (i := 14) 6 525 rfl (by decide +kernel) rfl ?_
    refine at_if_le (off := 52) 577 528 rfl (by decide +kernel) (by decide +kernel) (fun c2 => ?_) (fun c2 => ?_)
    · rw [if_pos c2] at h
      refine at_iconst (n := 0) (0 : Int32) 578 rfl (by decide +kernel) (by decide +kernel) ?_
      refine at_istore (i := 15) (lc' := [(0, va_rf (some t)), (1, .int (l1)), (5, .int (l5)), (12, .int (l12)), (13, .int (l13)), (15, .int ((0 : Int32)))]) [1, 2, 3, 5, 6, 0] 580 rfl (by decide +kernel) (by decide +kernel) rfl ?_
      exact h
    · rw [if_neg c2] at h
      refine at_iload (i := 14) 6 530 rfl (by decide +kernel) rfl ?_
      refine at_aload_n (i := 0) 0 531 rfl (by decide +kernel) rfl ?_
      obtain ⟨k3, h⟩ := h
      refine at_get (index := 125) (v := va_rf (mR m t 41)) cok12 41 534 rfl (by decide +kernel) k3 (by decide +kernel) tw_1126 rfl ?_
      obtain ⟨b4, e5, h⟩ := h
      rw [e5]
      refine at_sipush (n := 400) (400 : Int32) 537 rfl (by decide +kernel) (by decide +kernel) ?_
      refine at_iload_n (i := 1) 1 538 rfl (by decide +kernel) rfl ?_
      refine at_imul 539 rfl (by decide +kernel) ?_
      refine at_iload (i := 15) 7 541 rfl (by decide +kernel) rfl ?_
      refine at_iadd 542 rfl (by decide +kernel) ?_
      obtain ⟨k6, h⟩ := h
      obtain ⟨v7, h⟩ := h
      refine at_iald 543 rfl (by decide +kernel) k6 v7 ?_
      refine at_imn (index := 305) 546 rfl (by decide +kernel) tw_1390 (by decide) ?_
      refine at_istore (i := 16) (lc' := [(0, va_rf (some t)), (1, .int (l1)), (5, .int (l5)), (6, .int (l6)), (12, .int (l12)), (13, .int (l13)), (14, .int (l14)), (15, .int (l15)), (16, .int (imn l14 (mI m b4 (((400 : Int32) * l1) + l15).toNatClampNeg)))]) [1, 2, 3, 4, 5, 6, 7, 8, 0] 548 rfl (by decide +kernel) (by decide +kernel) rfl ?_
      refine at_aload_n (i := 0) 0 549 rfl (by decide +kernel) rfl ?_
      refine at_iload_n (i := 1) 1 550 rfl (by decide +kernel) rfl ?_
      refine at_iload (i := 15) 7 552 rfl (by decide +kernel) rfl ?_
      refine at_iload (i := 16) 8 554 rfl (by decide +kernel) rfl ?_
      refine at_aload_n (i := 0) 0 555 rfl (by decide +kernel) rfl ?_
      refine at_get (index := 98) (v := va_rf (mR m t 32)) cok12 32 558 rfl (by decide +kernel) k3 (by decide +kernel) tw_1117 rfl ?_
      obtain ⟨b8, e9, h⟩ := h
      rw [e9]
      refine at_iload_n (i := 1) 1 559 rfl (by decide +kernel) rfl ?_
      obtain ⟨k10, h⟩ := h
      obtain ⟨v11, h⟩ := h
      refine at_iald 560 rfl (by decide +kernel) k10 v11 ?_
      refine at_iconst (n := 3) (3 : Int32) 561 rfl (by decide +kernel) (by decide +kernel) ?_
      refine at_callV mb_RF_sold tw_1461 tw_50 cok12 k3 (index := 355) tw_1459 [.int (l1), .int (l15), .int (imn l14 (mI m b4 (((400 : Int32) * l1) + l15).toNatClampNeg)), .int (mI m b8 l1.toNatClampNeg), .int ((3 : Int32))] [] rfl rfl (by decide) 564 rfl (by decide +kernel) (Call.toV (CV.monoE h (fun m12 h y13 => ?_)))
      have k14 : mK m12 t = 13 := y13.k k3 (by decide)
      have k15 : mK m12 b4 = 15 := y13.k k6 (by decide)
      have k16 : mK m12 b8 = 15 := y13.k k10 (by decide)
      have e17 : mR m12 t 41 = some b4 := y13.r k3 (by decide) rfl e5
      have e18 : mR m12 t 32 = some b8 := y13.r k3 (by decide) rfl e9
      refine at_iload (i := 14) 6 566 rfl (by decide +kernel) rfl ?_
      refine at_iload (i := 16) 8 568 rfl (by decide +kernel) rfl ?_
      refine at_isub 569 rfl (by decide +kernel) ?_
      refine at_istore (i := 14) (lc' := [(0, va_rf (some t)), (1, .int (l1)), (5, .int (l5)), (6, .int (l6)), (12, .int (l12)), (13, .int (l13)), (14, .int (l14 - (imn l14 (mI m b4 (((400 : Int32) * l1) + l15).toNatClampNeg)))), (15, .int (l15))]) [1, 2, 3, 4, 5, 6, 0, 7] 571 rfl (by decide +kernel) (by decide +kernel) rfl ?_
      refine at_iinc (i := 15) (n := 1) (lc' := [(0, va_rf (some t)), (1, .int (l1)), (5, .int (l5)), (6, .int (l6)), (12, .int (l12)), (13, .int (l13)), (14, .int (l14 - (imn l14 (mI m b4 (((400 : Int32) * l1) + l15).toNatClampNeg)))), (15, .int (l15 + (1 : Int32)))]) (l15 + (1 : Int32)) 7 [1, 2, 3, 4, 5, 6, 7, 0] 574 rfl (by decide +kernel) rfl (by rw [show Int32.ofInt 1 = (1 : Int32) from by decide +kernel]) (by decide +kernel) rfl ?_
      refine at_goto (off := (-58)) 516 (by decide +kernel) (by decide +kernel) ?_
      exact h
set_option maxRecDepth 20000 in
set_option maxHeartbeats 4000000 in
theorem bk_RF_passes_490 (g : Gc) {lv : Nat} {t : Nat} {l1 : Int32} {l3 : Option Nat} {l4 : Int32} {l5 : Int32} {l6 : Int32} {l12 : Int32} {l13 : Int32} {l14 : Int32} {l19 : Int32} {m : Mm} {Q : Int32 → Mm → Prop} (h : mK m t = 13 ∧ (CI g M_RF_receipt_IIII lv [va_rf (some t), .int (l1), .int (l14), .int (l19), .int (l5)] m (fun x2 m3 => (At g M_RF_passes (lv + 1) 268 [(0, va_rf (some t)), (1, .int (l1)), (3, va_rf (l3)), (4, .int (l4)), (5, .int (l5)), (6, .int (l6)), (12, .int (l12)), (13, .int (l13)), (14, .int (l14 + (1 : Int32)))] [] m3 (QI Q))))) : At g M_RF_passes (lv + 1) 490 [(0, va_rf (some t)), (1, .int (l1)), (3, va_rf (l3)), (4, .int (l4)), (5, .int (l5)), (6, .int (l6)), (12, .int (l12)), (13, .int (l13)), (14, .int (l14)), (19, .int (l19))] [] m (QI Q) := by
  refine at_aload_n (i := 0) 0 491 rfl (by decide +kernel) rfl ?_
  refine at_iload_n (i := 1) 1 492 rfl (by decide +kernel) rfl ?_
  refine at_iload (i := 14) 8 494 rfl (by decide +kernel) rfl ?_
  refine at_iload (i := 19) 9 496 rfl (by decide +kernel) rfl ?_
  refine at_iload (i := 5) 4 498 rfl (by decide +kernel) rfl ?_
  obtain ⟨k1, h⟩ := h
  refine at_callV mb_RF_receipt_IIII tw_1457 tw_49 cok12 k1 (index := 351) tw_1455 [.int (l1), .int (l14), .int (l19), .int (l5)] [] rfl rfl (by decide) 501 rfl (by decide +kernel) (Call.toI (CI.monoE h (fun x2 m3 h y4 => ?_)))
  have k5 : mK m3 t = 13 := y4.k k1 (by decide)
  refine at_istore (i := 20) (lc' := [(0, va_rf (some t)), (1, .int (l1)), (3, va_rf (l3)), (4, .int (l4)), (5, .int (l5)), (6, .int (l6)), (12, .int (l12)), (13, .int (l13)), (14, .int (l14)), (20, .int (x2))]) [1, 2, 3, 4, 5, 6, 7, 8, 9, 0] 503 rfl (by decide +kernel) (by decide +kernel) rfl ?_
  refine at_iinc (i := 14) (n := 1) (lc' := [(0, va_rf (some t)), (1, .int (l1)), (3, va_rf (l3)), (4, .int (l4)), (5, .int (l5)), (6, .int (l6)), (12, .int (l12)), (13, .int (l13)), (14, .int (l14 + (1 : Int32)))]) (l14 + (1 : Int32)) 8 [1, 2, 3, 4, 5, 6, 7, 8, 0] 506 rfl (by decide +kernel) rfl (by rw [show Int32.ofInt 1 = (1 : Int32) from by decide +kernel]) (by decide +kernel) rfl ?_
  refine at_goto (off := (-238)) 268 (by decide +kernel) (by decide +kernel) ?_
  exact h
set_option maxRecDepth 20000 in
set_option maxHeartbeats 4000000 in
theorem bk_RF_passes_369 (g : Gc) {lv : Nat} {t : Nat} {l1 : Int32} {l3 : Option Nat} {l4 : Int32} {l5 : Int32} {l6 : Int32} {l12 : Int32} {l13 : Int32} {l14 : Int32} {l15 : Int32} {l16 : Int32} {m : Mm} {Q : Int32 → Mm → Prop} (h : if (l16) = 0 then (∃ b2, l3 = some b2 ∧ (mK m b2 = 15 ∧ (vp_in (l4 + l14) (mN m b2) ∧ (mK m t = 13 ∧ (∃ b7, mR m t 38 = some b7 ∧ (mK m b7 = 16 ∧ (vp_in l15 (mN m b7) ∧ (vp_in (l4 + l14) (mN m b2) ∧ (vp_in l15 (mN m b7) ∧ (∀ m13, m13 = sL m b7 l15.toNatClampNeg (((l12.toInt64 * ((mI m b2 (l4 + l14).toNatClampNeg).toInt64)) + (mL m b7 l15.toNatClampNeg)) - ((100 : Int64) * (((lmx (0 : Int64) (lmn ((mI m b2 (l4 + l14).toNatClampNeg).toInt64) (((l12.toInt64 * ((mI m b2 (l4 + l14).toNatClampNeg).toInt64)) + (mL m b7 l15.toNatClampNeg)) / (100 : Int64)))).toInt32).toInt64))) → (if ((lmx (0 : Int64) (lmn ((mI m b2 (l4 + l14).toNatClampNeg).toInt64) (((l12.toInt64 * ((mI m b2 (l4 + l14).toNatClampNeg).toInt64)) + (mL m b7 l15.toNatClampNeg)) / (100 : Int64)))).toInt32) = 0 then (At g M_RF_passes (lv + 1) 268 [(0, va_rf (some t)), (1, .int (l1)), (3, va_rf (some b2)), (4, .int (l4)), (5, .int (l5)), (6, .int (l6)), (12, .int (l12)), (13, .int (l13)), (14, .int (l14 + (1 : Int32)))] [] m13 (QI Q)) else (∃ b21, mR m13 t 37 = some b21 ∧ (mK m13 b21 = 15 ∧ (vp_in l15 (mN m13 b21) ∧ (vp_in l15 (mN m13 b21) ∧ (∀ m26, m26 = sI m13 b21 l15.toNatClampNeg ((mI m13 b21 l15.toNatClampNeg) - ((lmx (0 : Int64) (lmn ((mI m b2 (l4 + l14).toNatClampNeg).toInt64) (((l12.toInt64 * ((mI m b2 (l4 + l14).toNatClampNeg).toInt64)) + (mL m b7 l15.toNatClampNeg)) / (100 : Int64)))).toInt32)) → (∃ b35, mR m26 t 43 = some b35 ∧ (mK m26 b35 = 16 ∧ (vp_in (((8 : Int32) * l1) + (1 : Int32)) (mN m26 b35) ∧ (vp_in (((8 : Int32) * l1) + (1 : Int32)) (mN m26 b35) ∧ (∀ m40, m40 = sL m26 b35 (((8 : Int32) * l1) + (1 : Int32)).toNatClampNeg ((mL m26 b35 (((8 : Int32) * l1) + (1 : Int32)).toNatClampNeg) + (((lmx (0 : Int64) (lmn ((mI m b2 (l4 + l14).toNatClampNeg).toInt64) (((l12.toInt64 * ((mI m b2 (l4 + l14).toNatClampNeg).toInt64)) + (mL m b7 l15.toNatClampNeg)) / (100 : Int64)))).toInt32).toInt64)) → (if (l1) = 0 then (∃ b52, mR m40 t 30 = some b52 ∧ (mK m40 b52 = 15 ∧ (vp_in l14 (mN m40 b52) ∧ (∀ m56, m56 = sI m40 b52 l14.toNatClampNeg ((lmx (0 : Int64) (lmn ((mI m b2 (l4 + l14).toNatClampNeg).toInt64) (((l12.toInt64 * ((mI m b2 (l4 + l14).toNatClampNeg).toInt64)) + (mL m b7 l15.toNatClampNeg)) / (100 : Int64)))).toInt32) → (At g M_RF_passes (lv + 1) 490 [(0, va_rf (some t)), (1, .int (l1)), (3, va_rf (some b2)), (4, .int (l4)), (5, .int (l5)), (6, .int (l6)), (12, .int (l12)), (13, .int (l13)), (14, .int (l14)), (19, .int ((lmx (0 : Int64) (lmn ((mI m b2 (l4 + l14).toNatClampNeg).toInt64) (((l12.toInt64 * ((mI m b2 (l4 + l14).toNatClampNeg).toInt64)) + (mL m b7 l15.toNatClampNeg)) / (100 : Int64)))).toInt32))] [] m56 (QI Q)))))) else (At g M_RF_passes (lv + 1) 490 [(0, va_rf (some t)), (1, .int (l1)), (3, va_rf (some b2)), (4, .int (l4)), (5, .int (l5)), (6, .int (l6)), (12, .int (l12)), (13, .int (l13)), (14, .int (l14)), (19, .int ((lmx (0 : Int64) (lmn ((mI m b2 (l4 + l14).toNatClampNeg).toInt64) (((l12.toInt64 * ((mI m b2 (l4 + l14).toNatClampNeg).toInt64)) + (mL m b7 l15.toNatClampNeg)) / (100 : Int64)))).toInt32))] [] m40 (QI Q)))))))))))))))))))))))) else (At g M_RF_passes (lv + 1) 268 [(0, va_rf (some t)), (1, .int (l1)), (3, va_rf (l3)), (4, .int (l4)), (5, .int (l5)), (6, .int (l6)), (12, .int (l12)), (13, .int (l13)), (14, .int (l14 + (1 : Int32)))] [] m (QI Q))) : At g M_RF_passes (lv + 1) 369 [(0, va_rf (some t)), (1, .int (l1)), (3, va_rf (l3)), (4, .int (l4)), (5, .int (l5)), (6, .int (l6)), (12, .int (l12)), (13, .int (l13)), (14, .int (l14)), (15, .int (l15)), (16, .int (l16))] [] m (QI Q) := by
  refine at_iload (i := 16) 10 371 rfl (by decide +kernel) rfl ?_
  refine at_if_eq (off := 6) 377 374 rfl (by decide +kernel) (by decide +kernel) (fun c1 => ?_) (fun c1 => ?_)
  · rw [if_pos c1] at h
    refine at_iload (i := 12) 6 379 rfl (by decide +kernel) rfl ?_
    refine at_i2l 380 rfl (by decide +kernel) ?_
    refine at_aload_n (i := 3) 2 381 rfl (by decide +kernel) rfl ?_
    refine at_iload (i := 4) 3 383 rfl (by decide +kernel) rfl ?_
    refine at_iload (i := 14) 8 385 rfl (by decide +kernel) rfl ?_
    refine at_iadd 386 rfl (by decide +kernel) ?_
    obtain ⟨b2, e3, h⟩ := h
    rw [e3]
    obtain ⟨k4, h⟩ := h
    obtain ⟨v5, h⟩ := h
    refine at_iald 387 rfl (by decide +kernel) k4 v5 ?_
    refine at_i2l 388 rfl (by decide +kernel) ?_
    refine at_lmul 389 rfl (by decide +kernel) ?_
    refine at_aload_n (i := 0) 0 390 rfl (by decide +kernel) rfl ?_
    obtain ⟨k6, h⟩ := h
    refine at_get (index := 116) (v := va_rf (mR m t 38)) cok12 38 393 rfl (by decide +kernel) k6 (by decide +kernel) tw_1123 rfl ?_
    obtain ⟨b7, e8, h⟩ := h
    rw [e8]
    refine at_iload (i := 15) 9 395 rfl (by decide +kernel) rfl ?_
    obtain ⟨k9, h⟩ := h
    obtain ⟨v10, h⟩ := h
    refine at_lald 396 rfl (by decide +kernel) k9 v10 ?_
    refine at_ladd 397 rfl (by decide +kernel) ?_
    refine at_lstore (i := 17) (lc' := [(0, va_rf (some t)), (1, .int (l1)), (3, va_rf (some b2)), (4, .int (l4)), (5, .int (l5)), (6, .int (l6)), (12, .int (l12)), (13, .int (l13)), (14, .int (l14)), (15, .int (l15)), (17, .long ((l12.toInt64 * ((mI m b2 (l4 + l14).toNatClampNeg).toInt64)) + (mL m b7 l15.toNatClampNeg)))]) [1, 2, 3, 4, 5, 6, 7, 8, 9, 10, 0] 399 rfl (by decide +kernel) (by decide +kernel) rfl ?_
    refine at_lconst (n := 0) (0 : Int64) 400 rfl (by decide +kernel) (by decide +kernel) ?_
    refine at_aload_n (i := 3) 2 401 rfl (by decide +kernel) rfl ?_
    refine at_iload (i := 4) 3 403 rfl (by decide +kernel) rfl ?_
    refine at_iload (i := 14) 8 405 rfl (by decide +kernel) rfl ?_
    refine at_iadd 406 rfl (by decide +kernel) ?_
    obtain ⟨v11, h⟩ := h
    refine at_iald 407 rfl (by decide +kernel) k4 v11 ?_
    refine at_i2l 408 rfl (by decide +kernel) ?_
    refine at_lload (i := 17) 10 410 rfl (by decide +kernel) rfl ?_
    refine at_ldc2 (index := 174) (100 : Int64) 413 rfl (by decide +kernel) tw_1318 ?_
    refine at_ldiv 414 rfl (by decide +kernel) (by decide +kernel) ?_
    refine at_lmn (index := 349) 417 rfl (by decide +kernel) tw_1454 (by simp [va_rf_cat, cat_int, cat_long]) ?_
    refine at_lmx (index := 341) 420 rfl (by decide +kernel) tw_1453 (by decide) ?_
    refine at_l2i 421 rfl (by decide +kernel) ?_
    refine at_istore (i := 19) (lc' := [(0, va_rf (some t)), (1, .int (l1)), (3, va_rf (some b2)), (4, .int (l4)), (5, .int (l5)), (6, .int (l6)), (12, .int (l12)), (13, .int (l13)), (14, .int (l14)), (15, .int (l15)), (17, .long ((l12.toInt64 * ((mI m b2 (l4 + l14).toNatClampNeg).toInt64)) + (mL m b7 l15.toNatClampNeg))), (19, .int ((lmx (0 : Int64) (lmn ((mI m b2 (l4 + l14).toNatClampNeg).toInt64) (((l12.toInt64 * ((mI m b2 (l4 + l14).toNatClampNeg).toInt64)) + (mL m b7 l15.toNatClampNeg)) / (100 : Int64)))).toInt32))]) [1, 2, 3, 4, 5, 6, 7, 8, 9, 10, 11, 0] 423 rfl (by decide +kernel) (by decide +kernel) rfl ?_
    refine at_aload_n (i := 0) 0 424 rfl (by decide +kernel) rfl ?_
    refine at_get (index := 116) (v := va_rf (mR m t 38)) cok12 38 427 rfl (by decide +kernel) k6 (by decide +kernel) tw_1123 rfl ?_
    rw [e8]
    refine at_iload (i := 15) 9 429 rfl (by decide +kernel) rfl ?_
    refine at_lload (i := 17) 10 431 rfl (by decide +kernel) rfl ?_
    refine at_ldc2 (index := 174) (100 : Int64) 434 rfl (by decide +kernel) tw_1318 ?_
    refine at_iload (i := 19) 11 436 rfl (by decide +kernel) rfl ?_
    refine at_i2l 437 rfl (by decide +kernel) ?_
    refine at_lmul 438 rfl (by decide +kernel) ?_
    refine at_lsub 439 rfl (by decide +kernel) ?_
    obtain ⟨v12, h⟩ := h
    refine at_last 440 rfl (by decide +kernel) k9 v12 (fun m13 e14 => ?_)
    replace h := h m13 e14
    have x15 : Ext m m13 := by rw [e14]; exact Ext.sL _ _ _ _
    have k16 : mK m13 b2 = 15 := x15.k k4 (by decide)
    have k17 : mK m13 t = 13 := x15.k k6 (by decide)
    have k18 : mK m13 b7 = 16 := x15.k k9 (by decide)
    have e19 : mR m13 t 38 = some b7 := x15.r k6 (by decide) rfl e8
    refine at_iload (i := 19) 11 442 rfl (by decide +kernel) rfl ?_
    refine at_if_ne (off := 6) 448 445 rfl (by decide +kernel) (by decide +kernel) (fun c20 => ?_) (fun c20 => ?_)
    · rw [if_neg c20] at h
      refine at_aload_n (i := 0) 0 449 rfl (by decide +kernel) rfl ?_
      refine at_get (index := 113) (v := va_rf (mR m13 t 37)) cok12 37 452 rfl (by decide +kernel) k17 (by decide +kernel) tw_1122 rfl ?_
      obtain ⟨b21, e22, h⟩ := h
      rw [e22]
      refine at_iload (i := 15) 9 454 rfl (by decide +kernel) rfl ?_
      refine at_dup2_11 455 rfl (by decide +kernel) rfl (va_rf_cat _) ?_
      obtain ⟨k23, h⟩ := h
      obtain ⟨v24, h⟩ := h
      refine at_iald 456 rfl (by decide +kernel) k23 v24 ?_
      refine at_iload (i := 19) 11 458 rfl (by decide +kernel) rfl ?_
      refine at_isub 459 rfl (by decide +kernel) ?_
      obtain ⟨v25, h⟩ := h
      refine at_iast 460 rfl (by decide +kernel) k23 v25 (fun m26 e27 => ?_)
      replace h := h m26 e27
      have x28 : Ext m13 m26 := by rw [e27]; exact Ext.sI _ _ _ _
      have k29 : mK m26 b2 = 15 := x28.k k16 (by decide)
      have k30 : mK m26 t = 13 := x28.k k17 (by decide)
      have k31 : mK m26 b7 = 16 := x28.k k18 (by decide)
      have k32 : mK m26 b21 = 15 := x28.k k23 (by decide)
      have e33 : mR m26 t 38 = some b7 := x28.r k17 (by decide) rfl e19
      have e34 : mR m26 t 37 = some b21 := x28.r k17 (by decide) rfl e22
      refine at_aload_n (i := 0) 0 461 rfl (by decide +kernel) rfl ?_
      refine at_get (index := 131) (v := va_rf (mR m26 t 43)) cok12 43 464 rfl (by decide +kernel) k30 (by decide +kernel) tw_1128 rfl ?_
      obtain ⟨b35, e36, h⟩ := h
      rw [e36]
      refine at_bipush (n := 8) (8 : Int32) 466 rfl (by decide +kernel) (by decide +kernel) ?_
      refine at_iload_n (i := 1) 1 467 rfl (by decide +kernel) rfl ?_
      refine at_imul 468 rfl (by decide +kernel) ?_
      refine at_iconst (n := 1) (1 : Int32) 469 rfl (by decide +kernel) (by decide +kernel) ?_
      refine at_iadd 470 rfl (by decide +kernel) ?_
      refine at_dup2_11 471 rfl (by decide +kernel) rfl (va_rf_cat _) ?_
      obtain ⟨k37, h⟩ := h
      obtain ⟨v38, h⟩ := h
      refine at_lald 472 rfl (by decide +kernel) k37 v38 ?_
      refine at_iload (i := 19) 11 474 rfl (by decide +kernel) rfl ?_
      refine at_i2l 475 rfl (by decide +kernel) ?_
      refine at_ladd 476 rfl (by decide +kernel) ?_
      obtain ⟨v39, h⟩ := h
      refine at_last 477 rfl (by decide +kernel) k37 v39 (fun m40 e41 => ?_)
      replace h := h m40 e41
      have x42 : Ext m26 m40 := by rw [e41]; exact Ext.sL _ _ _ _
      have k43 : mK m40 b2 = 15 := x42.k k29 (by decide)
      have k44 : mK m40 t = 13 := x42.k k30 (by decide)
      have k45 : mK m40 b7 = 16 := x42.k k31 (by decide)
      have k46 : mK m40 b21 = 15 := x42.k k32 (by decide)
      have k47 : mK m40 b35 = 16 := x42.k k37 (by decide)
      have e48 : mR m40 t 38 = some b7 := x42.r k30 (by decide) rfl e33
      have e49 : mR m40 t 37 = some b21 := x42.r k30 (by decide) rfl e34
      have e50 : mR m40 t 43 = some b35 := x42.r k30 (by decide) rfl e36
      refine at_iload_n (i := 1) 1 478 rfl (by decide +kernel) rfl ?_
      refine at_if_ne (off := 12) 490 481 rfl (by decide +kernel) (by decide +kernel) (fun c51 => ?_) (fun c51 => ?_)
      · rw [if_neg c51] at h
        exact At.sub [0, 1, 2, 3, 4, 5, 6, 7, 8, 11] rfl h
      · rw [if_pos c51] at h
        refine at_aload_n (i := 0) 0 482 rfl (by decide +kernel) rfl ?_
        refine at_get (index := 92) (v := va_rf (mR m40 t 30)) cok12 30 485 rfl (by decide +kernel) k44 (by decide +kernel) tw_1115 rfl ?_
        obtain ⟨b52, e53, h⟩ := h
        rw [e53]
        refine at_iload (i := 14) 8 487 rfl (by decide +kernel) rfl ?_
        refine at_iload (i := 19) 11 489 rfl (by decide +kernel) rfl ?_
        obtain ⟨k54, h⟩ := h
        obtain ⟨v55, h⟩ := h
        refine at_iast 490 rfl (by decide +kernel) k54 v55 (fun m56 e57 => ?_)
        replace h := h m56 e57
        have x58 : Ext m40 m56 := by rw [e57]; exact Ext.sI _ _ _ _
        have k59 : mK m56 b2 = 15 := x58.k k43 (by decide)
        have k60 : mK m56 t = 13 := x58.k k44 (by decide)
        have k61 : mK m56 b7 = 16 := x58.k k45 (by decide)
        have k62 : mK m56 b21 = 15 := x58.k k46 (by decide)
        have k63 : mK m56 b35 = 16 := x58.k k47 (by decide)
        have k64 : mK m56 b52 = 15 := x58.k k54 (by decide)
        have e65 : mR m56 t 38 = some b7 := x58.r k44 (by decide) rfl e48
        have e66 : mR m56 t 37 = some b21 := x58.r k44 (by decide) rfl e49
        have e67 : mR m56 t 43 = some b35 := x58.r k44 (by decide) rfl e50
        have e68 : mR m56 t 30 = some b52 := x58.r k44 (by decide) rfl e53
        exact At.sub [0, 1, 2, 3, 4, 5, 6, 7, 8, 11] rfl h
    · rw [if_pos c20] at h
      refine at_goto (off := 58) 503 (by decide +kernel) (by decide +kernel) ?_
      refine at_iinc (i := 14) (n := 1) (lc' := [(0, va_rf (some t)), (1, .int (l1)), (3, va_rf (some b2)), (4, .int (l4)), (5, .int (l5)), (6, .int (l6)), (12, .int (l12)), (13, .int (l13)), (14, .int (l14 + (1 : Int32)))]) (l14 + (1 : Int32)) 8 [1, 2, 3, 4, 5, 6, 7, 8, 0] 506 rfl (by decide +kernel) rfl (by rw [show Int32.ofInt 1 = (1 : Int32) from by decide +kernel]) (by decide +kernel) rfl ?_
      refine at_goto (off := (-238)) 268 (by decide +kernel) (by decide +kernel) ?_
      exact h
  · rw [if_neg c1] at h
    refine at_goto (off := 129) 503 (by decide +kernel) (by decide +kernel) ?_
    refine at_iinc (i := 14) (n := 1) (lc' := [(0, va_rf (some t)), (1, .int (l1)), (3, va_rf (l3)), (4, .int (l4)), (5, .int (l5)), (6, .int (l6)), (12, .int (l12)), (13, .int (l13)), (14, .int (l14 + (1 : Int32)))]) (l14 + (1 : Int32)) 8 [1, 2, 3, 4, 5, 6, 7, 8, 0] 506 rfl (by decide +kernel) rfl (by rw [show Int32.ofInt 1 = (1 : Int32) from by decide +kernel]) (by decide +kernel) rfl ?_
    refine at_goto (off := (-238)) 268 (by decide +kernel) (by decide +kernel) ?_
    exact h
set_option maxRecDepth 20000 in
set_option maxHeartbeats 4000000 in
theorem bk_RF_passes_340 (g : Gc) {lv : Nat} {t : Nat} {l1 : Int32} {l3 : Option Nat} {l4 : Int32} {l5 : Int32} {l6 : Int32} {l12 : Int32} {l13 : Int32} {l14 : Int32} {l15 : Int32} {s0 : Int32} {m : Mm} {Q : Int32 → Mm → Prop} (h : if (l1) = 0 then (mK m t = 13 ∧ (∃ b3, mR m t 27 = some b3 ∧ (mK m b3 = 17 ∧ (vp_in (((12 : Int32) * l5) + l14) (mN m b3) ∧ (b01 s0 ∧ (∀ m8, m8 = sI m b3 (((12 : Int32) * l5) + l14).toNatClampNeg s0 → (∃ b14, mR m8 t 30 = some b14 ∧ (mK m8 b14 = 15 ∧ (vp_in l14 (mN m8 b14) ∧ (∀ m18, m18 = sI m8 b14 l14.toNatClampNeg (0 : Int32) → (At g M_RF_passes (lv + 1) 369 [(0, va_rf (some t)), (1, .int (l1)), (3, va_rf (l3)), (4, .int (l4)), (5, .int (l5)), (6, .int (l6)), (12, .int (l12)), (13, .int (l13)), (14, .int (l14)), (15, .int (l15)), (16, .int (s0))] [] m18 (QI Q)))))))))))) else (At g M_RF_passes (lv + 1) 369 [(0, va_rf (some t)), (1, .int (l1)), (3, va_rf (l3)), (4, .int (l4)), (5, .int (l5)), (6, .int (l6)), (12, .int (l12)), (13, .int (l13)), (14, .int (l14)), (15, .int (l15)), (16, .int (s0))] [] m (QI Q))) : At g M_RF_passes (lv + 1) 340 [(0, va_rf (some t)), (1, .int (l1)), (3, va_rf (l3)), (4, .int (l4)), (5, .int (l5)), (6, .int (l6)), (12, .int (l12)), (13, .int (l13)), (14, .int (l14)), (15, .int (l15))] [.int (s0)] m (QI Q) := by
  refine at_istore (i := 16) (lc' := [(0, va_rf (some t)), (1, .int (l1)), (3, va_rf (l3)), (4, .int (l4)), (5, .int (l5)), (6, .int (l6)), (12, .int (l12)), (13, .int (l13)), (14, .int (l14)), (15, .int (l15)), (16, .int (s0))]) [1, 2, 3, 4, 5, 6, 7, 8, 9, 10, 0] 342 rfl (by decide +kernel) (by decide +kernel) rfl ?_
  refine at_iload_n (i := 1) 1 343 rfl (by decide +kernel) rfl ?_
  refine at_if_ne (off := 26) 369 346 rfl (by decide +kernel) (by decide +kernel) (fun c1 => ?_) (fun c1 => ?_)
  · rw [if_neg c1] at h
    exact h
  · rw [if_pos c1] at h
    refine at_aload_n (i := 0) 0 347 rfl (by decide +kernel) rfl ?_
    obtain ⟨k2, h⟩ := h
    refine at_get (index := 82) (v := va_rf (mR m t 27)) cok12 27 350 rfl (by decide +kernel) k2 (by decide +kernel) tw_1112 rfl ?_
    obtain ⟨b3, e4, h⟩ := h
    rw [e4]
    refine at_bipush (n := 12) (12 : Int32) 352 rfl (by decide +kernel) (by decide +kernel) ?_
    refine at_iload (i := 5) 4 354 rfl (by decide +kernel) rfl ?_
    refine at_imul 355 rfl (by decide +kernel) ?_
    refine at_iload (i := 14) 8 357 rfl (by decide +kernel) rfl ?_
    refine at_iadd 358 rfl (by decide +kernel) ?_
    refine at_iload (i := 16) 10 360 rfl (by decide +kernel) rfl ?_
    obtain ⟨k5, h⟩ := h
    obtain ⟨v6, h⟩ := h
    obtain ⟨d7, h⟩ := h
    refine at_zast 361 rfl (by decide +kernel) k5 v6 d7 (fun m8 e9 => ?_)
    replace h := h m8 e9
    have x10 : Ext m m8 := by rw [e9]; exact Ext.sI _ _ _ _
    have k11 : mK m8 t = 13 := x10.k k2 (by decide)
    have k12 : mK m8 b3 = 17 := x10.k k5 (by decide)
    have e13 : mR m8 t 27 = some b3 := x10.r k2 (by decide) rfl e4
    refine at_aload_n (i := 0) 0 362 rfl (by decide +kernel) rfl ?_
    refine at_get (index := 92) (v := va_rf (mR m8 t 30)) cok12 30 365 rfl (by decide +kernel) k11 (by decide +kernel) tw_1115 rfl ?_
    obtain ⟨b14, e15, h⟩ := h
    rw [e15]
    refine at_iload (i := 14) 8 367 rfl (by decide +kernel) rfl ?_
    refine at_iconst (n := 0) (0 : Int32) 368 rfl (by decide +kernel) (by decide +kernel) ?_
    obtain ⟨k16, h⟩ := h
    obtain ⟨v17, h⟩ := h
    refine at_iast 369 rfl (by decide +kernel) k16 v17 (fun m18 e19 => ?_)
    replace h := h m18 e19
    have x20 : Ext m8 m18 := by rw [e19]; exact Ext.sI _ _ _ _
    have k21 : mK m18 t = 13 := x20.k k11 (by decide)
    have k22 : mK m18 b3 = 17 := x20.k k12 (by decide)
    have k23 : mK m18 b14 = 15 := x20.k k16 (by decide)
    have e24 : mR m18 t 27 = some b3 := x20.r k11 (by decide) rfl e13
    have e25 : mR m18 t 30 = some b14 := x20.r k11 (by decide) rfl e15
    exact h
set_option maxRecDepth 20000 in
set_option maxHeartbeats 4000000 in
theorem bk_RF_passes_335 (g : Gc) {lv : Nat} {t : Nat} {l1 : Int32} {l3 : Option Nat} {l4 : Int32} {l5 : Int32} {l6 : Int32} {l12 : Int32} {l13 : Int32} {l14 : Int32} {l15 : Int32} {m : Mm} {Q : Int32 → Mm → Prop} (h : At g M_RF_passes (lv + 1) 340 [(0, va_rf (some t)), (1, .int (l1)), (3, va_rf (l3)), (4, .int (l4)), (5, .int (l5)), (6, .int (l6)), (12, .int (l12)), (13, .int (l13)), (14, .int (l14)), (15, .int (l15))] [.int ((1 : Int32))] m (QI Q)) : At g M_RF_passes (lv + 1) 335 [(0, va_rf (some t)), (1, .int (l1)), (3, va_rf (l3)), (4, .int (l4)), (5, .int (l5)), (6, .int (l6)), (12, .int (l12)), (13, .int (l13)), (14, .int (l14)), (15, .int (l15))] [] m (QI Q) := by
  refine at_iconst (n := 1) (1 : Int32) 336 rfl (by decide +kernel) (by decide +kernel) ?_
  refine at_goto (off := 4) 340 (by decide +kernel) (by decide +kernel) ?_
  exact h
set_option maxRecDepth 20000 in
set_option maxHeartbeats 4000000 in
theorem bk_RF_passes_268 (g : Gc) {lv : Nat} {t : Nat} {l1 : Int32} {l3 : Option Nat} {l4 : Int32} {l5 : Int32} {l6 : Int32} {l12 : Int32} {l13 : Int32} {l14 : Int32} {m : Mm} {Q : Int32 → Mm → Prop} (h : mK m t = 13 ∧ (if (mI m t 19) ≤ (l14) then (At g M_RF_passes (lv + 1) 516 [(0, va_rf (some t)), (1, .int (l1)), (5, .int (l5)), (6, .int (l6)), (12, .int (l12)), (13, .int (l13)), (14, .int (l13)), (15, .int ((0 : Int32)))] [] m (QI Q)) else (∃ b3, mR m t 37 = some b3 ∧ (mK m b3 = 15 ∧ (vp_in (((12 : Int32) * l1) + l14) (mN m b3) ∧ (∃ b7, l3 = some b7 ∧ (mK m b7 = 15 ∧ (vp_in (l4 + l14) (mN m b7) ∧ (vp_in (((12 : Int32) * l1) + l14) (mN m b3) ∧ (∀ m12, m12 = sI m b3 (((12 : Int32) * l1) + l14).toNatClampNeg ((mI m b3 (((12 : Int32) * l1) + l14).toNatClampNeg) + (mI m b7 (l4 + l14).toNatClampNeg)) → (∃ b19, mR m12 t 20 = some b19 ∧ (mK m12 b19 = 15 ∧ (vp_in l14 (mN m12 b19) ∧ (if (((mI m12 t 61) >>> ((mI m12 b19 l14.toNatClampNeg) &&& 31)) &&& (1 : Int32)) = ((1 : Int32)) then (At g M_RF_passes (lv + 1) 335 [(0, va_rf (some t)), (1, .int (l1)), (3, va_rf (some b7)), (4, .int (l4)), (5, .int (l5)), (6, .int (l6)), (12, .int (l12)), (13, .int (l13)), (14, .int (l14)), (15, .int (((12 : Int32) * l1) + l14))] [] m12 (QI Q)) else (vp_in (l4 + l14) (mN m12 b7) ∧ (if (mI m12 t 62) ≤ (mI m12 b7 (l4 + l14).toNatClampNeg) then (At g M_RF_passes (lv + 1) 340 [(0, va_rf (some t)), (1, .int (l1)), (3, va_rf (some b7)), (4, .int (l4)), (5, .int (l5)), (6, .int (l6)), (12, .int (l12)), (13, .int (l13)), (14, .int (l14)), (15, .int (((12 : Int32) * l1) + l14))] [.int ((0 : Int32))] m12 (QI Q)) else (At g M_RF_passes (lv + 1) 335 [(0, va_rf (some t)), (1, .int (l1)), (3, va_rf (some b7)), (4, .int (l4)), (5, .int (l5)), (6, .int (l6)), (12, .int (l12)), (13, .int (l13)), (14, .int (l14)), (15, .int (((12 : Int32) * l1) + l14))] [] m12 (QI Q)))))))))))))))))) : At g M_RF_passes (lv + 1) 268 [(0, va_rf (some t)), (1, .int (l1)), (3, va_rf (l3)), (4, .int (l4)), (5, .int (l5)), (6, .int (l6)), (12, .int (l12)), (13, .int (l13)), (14, .int (l14))] [] m (QI Q) := by
  refine at_iload (i := 14) 8 270 rfl (by decide +kernel) rfl ?_
  refine at_aload_n (i := 0) 0 271 rfl (by decide +kernel) rfl ?_
  obtain ⟨k1, h⟩ := h
  refine at_get (index := 185) (v := .int (mI m t 19)) cok12 19 274 rfl (by decide +kernel) k1 (by decide +kernel) tw_1104 rfl ?_
  refine at_icmp_ge (off := 235) 509 277 rfl (by decide +kernel) (by decide +kernel) (fun c2 => ?_) (fun c2 => ?_)
  · rw [if_pos c2] at h
    refine at_iload (i := 13) 7 511 rfl (by decide +kernel) rfl ?_
    refine at_istore (i := 14) (lc' := [(0, va_rf (some t)), (1, .int (l1)), (5, .int (l5)), (6, .int (l6)), (12, .int (l12)), (13, .int (l13)), (14, .int (l13))]) [1, 2, 5, 6, 7, 8, 0] 513 rfl (by decide +kernel) (by decide +kernel) rfl ?_
    refine at_iconst (n := 0) (0 : Int32) 514 rfl (by decide +kernel) (by decide +kernel) ?_
    refine at_istore (i := 15) (lc' := [(0, va_rf (some t)), (1, .int (l1)), (5, .int (l5)), (6, .int (l6)), (12, .int (l12)), (13, .int (l13)), (14, .int (l13)), (15, .int ((0 : Int32)))]) [1, 2, 3, 4, 5, 6, 7, 0] 516 rfl (by decide +kernel) (by decide +kernel) rfl ?_
    exact h
  · rw [if_neg c2] at h
    refine at_bipush (n := 12) (12 : Int32) 279 rfl (by decide +kernel) (by decide +kernel) ?_
    refine at_iload_n (i := 1) 1 280 rfl (by decide +kernel) rfl ?_
    refine at_imul 281 rfl (by decide +kernel) ?_
    refine at_iload (i := 14) 8 283 rfl (by decide +kernel) rfl ?_
    refine at_iadd 284 rfl (by decide +kernel) ?_
    refine at_istore (i := 15) (lc' := [(0, va_rf (some t)), (1, .int (l1)), (3, va_rf (l3)), (4, .int (l4)), (5, .int (l5)), (6, .int (l6)), (12, .int (l12)), (13, .int (l13)), (14, .int (l14)), (15, .int (((12 : Int32) * l1) + l14))]) [1, 2, 3, 4, 5, 6, 7, 8, 9, 0] 286 rfl (by decide +kernel) (by decide +kernel) rfl ?_
    refine at_aload_n (i := 0) 0 287 rfl (by decide +kernel) rfl ?_
    refine at_get (index := 113) (v := va_rf (mR m t 37)) cok12 37 290 rfl (by decide +kernel) k1 (by decide +kernel) tw_1122 rfl ?_
    obtain ⟨b3, e4, h⟩ := h
    rw [e4]
    refine at_iload (i := 15) 9 292 rfl (by decide +kernel) rfl ?_
    refine at_dup2_11 293 rfl (by decide +kernel) rfl (va_rf_cat _) ?_
    obtain ⟨k5, h⟩ := h
    obtain ⟨v6, h⟩ := h
    refine at_iald 294 rfl (by decide +kernel) k5 v6 ?_
    refine at_aload_n (i := 3) 2 295 rfl (by decide +kernel) rfl ?_
    refine at_iload (i := 4) 3 297 rfl (by decide +kernel) rfl ?_
    refine at_iload (i := 14) 8 299 rfl (by decide +kernel) rfl ?_
    refine at_iadd 300 rfl (by decide +kernel) ?_
    obtain ⟨b7, e8, h⟩ := h
    rw [e8]
    obtain ⟨k9, h⟩ := h
    obtain ⟨v10, h⟩ := h
    refine at_iald 301 rfl (by decide +kernel) k9 v10 ?_
    refine at_iadd 302 rfl (by decide +kernel) ?_
    obtain ⟨v11, h⟩ := h
    refine at_iast 303 rfl (by decide +kernel) k5 v11 (fun m12 e13 => ?_)
    replace h := h m12 e13
    have x14 : Ext m m12 := by rw [e13]; exact Ext.sI _ _ _ _
    have k15 : mK m12 t = 13 := x14.k k1 (by decide)
    have k16 : mK m12 b3 = 15 := x14.k k5 (by decide)
    have k17 : mK m12 b7 = 15 := x14.k k9 (by decide)
    have e18 : mR m12 t 37 = some b3 := x14.r k1 (by decide) rfl e4
    refine at_aload_n (i := 0) 0 304 rfl (by decide +kernel) rfl ?_
    refine at_get (index := 292) (v := .int (mI m12 t 61)) cok12 61 307 rfl (by decide +kernel) k15 (by decide +kernel) tw_1146 rfl ?_
    refine at_aload_n (i := 0) 0 308 rfl (by decide +kernel) rfl ?_
    refine at_get (index := 61) (v := va_rf (mR m12 t 20)) cok12 20 311 rfl (by decide +kernel) k15 (by decide +kernel) tw_1105 rfl ?_
    obtain ⟨b19, e20, h⟩ := h
    rw [e20]
    refine at_iload (i := 14) 8 313 rfl (by decide +kernel) rfl ?_
    obtain ⟨k21, h⟩ := h
    obtain ⟨v22, h⟩ := h
    refine at_iald 314 rfl (by decide +kernel) k21 v22 ?_
    refine at_ishr 315 rfl (by decide +kernel) ?_
    refine at_iconst (n := 1) (1 : Int32) 316 rfl (by decide +kernel) (by decide +kernel) ?_
    refine at_iand 317 rfl (by decide +kernel) ?_
    refine at_iconst (n := 1) (1 : Int32) 318 rfl (by decide +kernel) (by decide +kernel) ?_
    refine at_icmp_eq (off := 17) 335 321 rfl (by decide +kernel) (by decide +kernel) (fun c23 => ?_) (fun c23 => ?_)
    · rw [if_pos c23] at h
      exact h
    · rw [if_neg c23] at h
      refine at_aload_n (i := 3) 2 322 rfl (by decide +kernel) rfl ?_
      refine at_iload (i := 4) 3 324 rfl (by decide +kernel) rfl ?_
      refine at_iload (i := 14) 8 326 rfl (by decide +kernel) rfl ?_
      refine at_iadd 327 rfl (by decide +kernel) ?_
      obtain ⟨v24, h⟩ := h
      refine at_iald 328 rfl (by decide +kernel) k17 v24 ?_
      refine at_aload_n (i := 0) 0 329 rfl (by decide +kernel) rfl ?_
      refine at_get (index := 295) (v := .int (mI m12 t 62)) cok12 62 332 rfl (by decide +kernel) k15 (by decide +kernel) tw_1147 rfl ?_
      refine at_icmp_ge (off := 7) 339 335 rfl (by decide +kernel) (by decide +kernel) (fun c25 => ?_) (fun c25 => ?_)
      · rw [if_pos c25] at h
        refine at_iconst (n := 0) (0 : Int32) 340 rfl (by decide +kernel) (by decide +kernel) ?_
        exact h
      · rw [if_neg c25] at h
        exact h
set_option maxRecDepth 20000 in
set_option maxHeartbeats 4000000 in
theorem bk_RF_passes_221 (g : Gc) {lv : Nat} {t : Nat} {l1 : Int32} {l3 : Option Nat} {l4 : Int32} {l5 : Int32} {l6 : Int32} {l7 : Int32} {l8 : Int64} {s0 : Int32} {m : Mm} {Q : Int32 → Mm → Prop} (h : mK m t = 13 ∧ (if (mI m t 60) = 0 then (∃ b3, mR m t 43 = some b3 ∧ (mK m b3 = 16 ∧ (vp_in ((8 : Int32) * l1) (mN m b3) ∧ (vp_in ((8 : Int32) * l1) (mN m b3) ∧ (∀ m8, m8 = sL m b3 ((8 : Int32) * l1).toNatClampNeg ((mL m b3 ((8 : Int32) * l1).toNatClampNeg) + l8) → (At g M_RF_passes (lv + 1) 268 [(0, va_rf (some t)), (1, .int (l1)), (3, va_rf (l3)), (4, .int (l4)), (5, .int (l5)), (6, .int (l6)), (12, .int (s0)), (13, .int ((0 : Int32))), (14, .int ((0 : Int32)))] [] m8 (QI Q))))))) else (∃ b14, mR m t 43 = some b14 ∧ (mK m b14 = 16 ∧ (vp_in ((8 : Int32) * l1) (mN m b14) ∧ (vp_in ((8 : Int32) * l1) (mN m b14) ∧ (∀ m19, m19 = sL m b14 ((8 : Int32) * l1).toNatClampNeg ((mL m b14 ((8 : Int32) * l1).toNatClampNeg) + l8) → (At g M_RF_passes (lv + 1) 268 [(0, va_rf (some t)), (1, .int (l1)), (3, va_rf (l3)), (4, .int (l4)), (5, .int (l5)), (6, .int (l6)), (12, .int (s0)), (13, .int ((lmx (0 : Int64) (lmn l7.toInt64 (mL m t 58))).toInt32)), (14, .int ((0 : Int32)))] [] m19 (QI Q))))))))) : At g M_RF_passes (lv + 1) 221 [(0, va_rf (some t)), (1, .int (l1)), (3, va_rf (l3)), (4, .int (l4)), (5, .int (l5)), (6, .int (l6)), (7, .int (l7)), (8, .long (l8))] [.int (s0)] m (QI Q) := by
  refine at_istore (i := 12) (lc' := [(0, va_rf (some t)), (1, .int (l1)), (3, va_rf (l3)), (4, .int (l4)), (5, .int (l5)), (6, .int (l6)), (7, .int (l7)), (8, .long (l8)), (12, .int (s0))]) [1, 2, 3, 4, 5, 6, 7, 8, 0] 223 rfl (by decide +kernel) (by decide +kernel) rfl ?_
  refine at_aload_n (i := 0) 0 224 rfl (by decide +kernel) rfl ?_
  obtain ⟨k1, h⟩ := h
  refine at_get (index := 320) (v := .int (mI m t 60)) cok12 60 227 rfl (by decide +kernel) k1 (by decide +kernel) tw_1145 rfl ?_
  refine at_if_eq (off := 21) 248 230 rfl (by decide +kernel) (by decide +kernel) (fun c2 => ?_) (fun c2 => ?_)
  · rw [if_pos c2] at h
    refine at_iconst (n := 0) (0 : Int32) 249 rfl (by decide +kernel) (by decide +kernel) ?_
    refine at_istore (i := 13) (lc' := [(0, va_rf (some t)), (1, .int (l1)), (3, va_rf (l3)), (4, .int (l4)), (5, .int (l5)), (6, .int (l6)), (8, .long (l8)), (12, .int (s0)), (13, .int ((0 : Int32)))]) [1, 2, 3, 4, 5, 6, 8, 9, 0] 251 rfl (by decide +kernel) (by decide +kernel) rfl ?_
    refine at_aload_n (i := 0) 0 252 rfl (by decide +kernel) rfl ?_
    refine at_get (index := 131) (v := va_rf (mR m t 43)) cok12 43 255 rfl (by decide +kernel) k1 (by decide +kernel) tw_1128 rfl ?_
    obtain ⟨b3, e4, h⟩ := h
    rw [e4]
    refine at_bipush (n := 8) (8 : Int32) 257 rfl (by decide +kernel) (by decide +kernel) ?_
    refine at_iload_n (i := 1) 1 258 rfl (by decide +kernel) rfl ?_
    refine at_imul 259 rfl (by decide +kernel) ?_
    refine at_dup2_11 260 rfl (by decide +kernel) rfl (va_rf_cat _) ?_
    obtain ⟨k5, h⟩ := h
    obtain ⟨v6, h⟩ := h
    refine at_lald 261 rfl (by decide +kernel) k5 v6 ?_
    refine at_lload (i := 8) 6 263 rfl (by decide +kernel) rfl ?_
    refine at_ladd 264 rfl (by decide +kernel) ?_
    obtain ⟨v7, h⟩ := h
    refine at_last 265 rfl (by decide +kernel) k5 v7 (fun m8 e9 => ?_)
    replace h := h m8 e9
    have x10 : Ext m m8 := by rw [e9]; exact Ext.sL _ _ _ _
    have k11 : mK m8 t = 13 := x10.k k1 (by decide)
    have k12 : mK m8 b3 = 16 := x10.k k5 (by decide)
    have e13 : mR m8 t 43 = some b3 := x10.r k1 (by decide) rfl e4
    refine at_iconst (n := 0) (0 : Int32) 266 rfl (by decide +kernel) (by decide +kernel) ?_
    refine at_istore (i := 14) (lc' := [(0, va_rf (some t)), (1, .int (l1)), (3, va_rf (l3)), (4, .int (l4)), (5, .int (l5)), (6, .int (l6)), (12, .int (s0)), (13, .int ((0 : Int32))), (14, .int ((0 : Int32)))]) [1, 2, 3, 4, 5, 6, 8, 9, 0] 268 rfl (by decide +kernel) (by decide +kernel) rfl ?_
    exact h
  · rw [if_neg c2] at h
    refine at_lconst (n := 0) (0 : Int64) 231 rfl (by decide +kernel) (by decide +kernel) ?_
    refine at_iload (i := 7) 6 233 rfl (by decide +kernel) rfl ?_
    refine at_i2l 234 rfl (by decide +kernel) ?_
    refine at_aload_n (i := 0) 0 235 rfl (by decide +kernel) rfl ?_
    refine at_get (index := 323) (v := .long (mL m t 58)) cok12 58 238 rfl (by decide +kernel) k1 (by decide +kernel) tw_1143 rfl ?_
    refine at_lmn (index := 349) 241 rfl (by decide +kernel) tw_1454 (by simp [va_rf_cat, cat_int, cat_long]) ?_
    refine at_lmx (index := 341) 244 rfl (by decide +kernel) tw_1453 (by decide) ?_
    refine at_l2i 245 rfl (by decide +kernel) ?_
    refine at_goto (off := 4) 249 (by decide +kernel) (by decide +kernel) ?_
    refine at_istore (i := 13) (lc' := [(0, va_rf (some t)), (1, .int (l1)), (3, va_rf (l3)), (4, .int (l4)), (5, .int (l5)), (6, .int (l6)), (8, .long (l8)), (12, .int (s0)), (13, .int ((lmx (0 : Int64) (lmn l7.toInt64 (mL m t 58))).toInt32))]) [1, 2, 3, 4, 5, 6, 8, 9, 0] 251 rfl (by decide +kernel) (by decide +kernel) rfl ?_
    refine at_aload_n (i := 0) 0 252 rfl (by decide +kernel) rfl ?_
    refine at_get (index := 131) (v := va_rf (mR m t 43)) cok12 43 255 rfl (by decide +kernel) k1 (by decide +kernel) tw_1128 rfl ?_
    obtain ⟨b14, e15, h⟩ := h
    rw [e15]
    refine at_bipush (n := 8) (8 : Int32) 257 rfl (by decide +kernel) (by decide +kernel) ?_
    refine at_iload_n (i := 1) 1 258 rfl (by decide +kernel) rfl ?_
    refine at_imul 259 rfl (by decide +kernel) ?_
    refine at_dup2_11 260 rfl (by decide +kernel) rfl (va_rf_cat _) ?_
    obtain ⟨k16, h⟩ := h
    obtain ⟨v17, h⟩ := h
    refine at_lald 261 rfl (by decide +kernel) k16 v17 ?_
    refine at_lload (i := 8) 6 263 rfl (by decide +kernel) rfl ?_
    refine at_ladd 264 rfl (by decide +kernel) ?_
    obtain ⟨v18, h⟩ := h
    refine at_last 265 rfl (by decide +kernel) k16 v18 (fun m19 e20 => ?_)
    replace h := h m19 e20
    have x21 : Ext m m19 := by rw [e20]; exact Ext.sL _ _ _ _
    have k22 : mK m19 t = 13 := x21.k k1 (by decide)
    have k23 : mK m19 b14 = 16 := x21.k k16 (by decide)
    have e24 : mR m19 t 43 = some b14 := x21.r k1 (by decide) rfl e15
    refine at_iconst (n := 0) (0 : Int32) 266 rfl (by decide +kernel) (by decide +kernel) ?_
    refine at_istore (i := 14) (lc' := [(0, va_rf (some t)), (1, .int (l1)), (3, va_rf (l3)), (4, .int (l4)), (5, .int (l5)), (6, .int (l6)), (12, .int (s0)), (13, .int ((lmx (0 : Int64) (lmn l7.toInt64 (mL m t 58))).toInt32)), (14, .int ((0 : Int32)))]) [1, 2, 3, 4, 5, 6, 8, 9, 0] 268 rfl (by decide +kernel) (by decide +kernel) rfl ?_
    exact h
set_option maxRecDepth 20000 in
set_option maxHeartbeats 4000000 in
theorem bk_RF_passes_63 (g : Gc) {lv : Nat} {t : Nat} {l1 : Int32} {l2 : Int32} {l3 : Option Nat} {l4 : Int32} {l5 : Int32} {l6 : Int32} {l7 : Int32} {l8 : Int64} {l10 : Int64} {l12 : Int32} {m : Mm} {Q : Int32 → Mm → Prop} (h : if (l6) ≤ (l12) then (mK m t = 13 ∧ (∃ b3, mR m t 34 = some b3 ∧ (CI g M_RF_wants lv [va_rf (some t), .int (l1)] m (fun x5 m6 => (mK m6 b3 = 15 ∧ (vp_in l1 (mN m6 b3) ∧ (∀ m12, m12 = sI m6 b3 l1.toNatClampNeg x5 → (∃ b18, mR m12 t 56 = some b18 ∧ (mK m12 b18 = 16 ∧ (vp_in (0 : Int32) (mN m12 b18) ∧ (∀ m22, m22 = sL m12 b18 (0 : Int32).toNatClampNeg l8 → (vp_in (1 : Int32) (mN m22 b18) ∧ (∀ m31, m31 = sL m22 b18 (1 : Int32).toNatClampNeg l7.toInt64 → (vp_in (2 : Int32) (mN m31 b18) ∧ (∀ m40, m40 = sL m31 b18 (2 : Int32).toNatClampNeg l10 → (∃ b48, mR m40 t 32 = some b48 ∧ (mK m40 b48 = 15 ∧ (vp_in l1 (mN m40 b48) ∧ (vp_in (3 : Int32) (mN m40 b18) ∧ (∀ m53, m53 = sL m40 b18 (3 : Int32).toNatClampNeg ((mI m40 b48 l1.toNatClampNeg).toInt64) → (vp_in l1 (mN m53 b3) ∧ (vp_in (4 : Int32) (mN m53 b18) ∧ (∀ m65, m65 = sL m53 b18 (4 : Int32).toNatClampNeg ((mI m53 b3 l1.toNatClampNeg).toInt64) → (vp_in (5 : Int32) (mN m65 b18) ∧ (∀ m76, m76 = sL m65 b18 (5 : Int32).toNatClampNeg l5.toInt64 → (CV g M_RF_reads lv [va_rf (some t), .int (l2)] m76 (fun m86 => (if (mI m86 t 59) = 0 then (At g M_RF_passes (lv + 1) 221 [(0, va_rf (some t)), (1, .int (l1)), (3, va_rf (l3)), (4, .int (l4)), (5, .int (l5)), (6, .int (l6)), (7, .int (l7)), (8, .long (l8))] [.int ((0 : Int32))] m86 (QI Q)) else (At g M_RF_passes (lv + 1) 221 [(0, va_rf (some t)), (1, .int (l1)), (3, va_rf (l3)), (4, .int (l4)), (5, .int (l5)), (6, .int (l6)), (7, .int (l7)), (8, .long (l8))] [.int ((lmx (0 : Int64) (lmn (100 : Int64) (mL m86 t 57))).toInt32)] m86 (QI Q)))))))))))))))))))))))))))))) else (mK m t = 13 ∧ (∃ b97, mR m t 42 = some b97 ∧ (mK m b97 = 15 ∧ (vp_in (((400 : Int32) * l1) + l12) (mN m b97) ∧ (if (l5 - (1 : Int32)) ≤ (mI m b97 (((400 : Int32) * l1) + l12).toNatClampNeg) then (At g M_RF_passes (lv + 1) 63 [(0, va_rf (some t)), (1, .int (l1)), (2, .int (l2)), (3, va_rf (l3)), (4, .int (l4)), (5, .int (l5)), (6, .int (l6)), (7, .int (l7)), (8, .long (l8)), (10, .long (l10 + (0 : Int64))), (12, .int (l12 + (1 : Int32)))] [] m (QI Q)) else (∃ b102, mR m t 41 = some b102 ∧ (mK m b102 = 15 ∧ (vp_in (((400 : Int32) * l1) + l12) (mN m b102) ∧ (At g M_RF_passes (lv + 1) 63 [(0, va_rf (some t)), (1, .int (l1)), (2, .int (l2)), (3, va_rf (l3)), (4, .int (l4)), (5, .int (l5)), (6, .int (l6)), (7, .int (l7)), (8, .long (l8)), (10, .long (l10 + ((mI m b102 (((400 : Int32) * l1) + l12).toNatClampNeg).toInt64))), (12, .int (l12 + (1 : Int32)))] [] m (QI Q))))))))))) : At g M_RF_passes (lv + 1) 63 [(0, va_rf (some t)), (1, .int (l1)), (2, .int (l2)), (3, va_rf (l3)), (4, .int (l4)), (5, .int (l5)), (6, .int (l6)), (7, .int (l7)), (8, .long (l8)), (10, .long (l10)), (12, .int (l12))] [] m (QI Q) := by
  refine at_iload (i := 12) 10 65 rfl (by decide +kernel) rfl ?_
  refine at_iload (i := 6) 6 67 rfl (by decide +kernel) rfl ?_
  refine at_icmp_ge (off := 52) 119 70 rfl (by decide +kernel) (by decide +kernel) (fun c1 => ?_) (fun c1 => ?_)
  · rw [if_pos c1] at h
    refine at_aload_n (i := 0) 0 120 rfl (by decide +kernel) rfl ?_
    obtain ⟨k2, h⟩ := h
    refine at_get (index := 104) (v := va_rf (mR m t 34)) cok12 34 123 rfl (by decide +kernel) k2 (by decide +kernel) tw_1119 rfl ?_
    obtain ⟨b3, e4, h⟩ := h
    rw [e4]
    refine at_iload_n (i := 1) 1 124 rfl (by decide +kernel) rfl ?_
    refine at_aload_n (i := 0) 0 125 rfl (by decide +kernel) rfl ?_
    refine at_iload_n (i := 1) 1 126 rfl (by decide +kernel) rfl ?_
    refine at_callV mb_RF_wants tw_1451 tw_48 cok12 k2 (index := 346) tw_1449 [.int (l1)] [.int (l1), va_rf (some b3)] rfl rfl (by simp [va_rf_cat, cat_int, cat_long]) 129 rfl (by decide +kernel) (Call.toI (CI.monoE h (fun x5 m6 h y7 => ?_)))
    have k8 : mK m6 t = 13 := y7.k k2 (by decide)
    have e9 : mR m6 t 34 = some b3 := y7.r k2 (by decide) rfl e4
    obtain ⟨k10, h⟩ := h
    obtain ⟨v11, h⟩ := h
    refine at_iast 130 rfl (by decide +kernel) k10 v11 (fun m12 e13 => ?_)
    replace h := h m12 e13
    have x14 : Ext m6 m12 := by rw [e13]; exact Ext.sI _ _ _ _
    have k15 : mK m12 t = 13 := x14.k k8 (by decide)
    have k16 : mK m12 b3 = 15 := x14.k k10 (by decide)
    have e17 : mR m12 t 34 = some b3 := x14.r k8 (by decide) rfl e9
    refine at_aload_n (i := 0) 0 131 rfl (by decide +kernel) rfl ?_
    refine at_get (index := 143) (v := va_rf (mR m12 t 56)) cok12 56 134 rfl (by decide +kernel) k15 (by decide +kernel) tw_1141 rfl ?_
    obtain ⟨b18, e19, h⟩ := h
    rw [e19]
    refine at_iconst (n := 0) (0 : Int32) 135 rfl (by decide +kernel) (by decide +kernel) ?_
    refine at_lload (i := 8) 8 137 rfl (by decide +kernel) rfl ?_
    obtain ⟨k20, h⟩ := h
    obtain ⟨v21, h⟩ := h
    refine at_last 138 rfl (by decide +kernel) k20 v21 (fun m22 e23 => ?_)
    replace h := h m22 e23
    have x24 : Ext m12 m22 := by rw [e23]; exact Ext.sL _ _ _ _
    have k25 : mK m22 t = 13 := x24.k k15 (by decide)
    have k26 : mK m22 b3 = 15 := x24.k k16 (by decide)
    have k27 : mK m22 b18 = 16 := x24.k k20 (by decide)
    have e28 : mR m22 t 34 = some b3 := x24.r k15 (by decide) rfl e17
    have e29 : mR m22 t 56 = some b18 := x24.r k15 (by decide) rfl e19
    refine at_aload_n (i := 0) 0 139 rfl (by decide +kernel) rfl ?_
    refine at_get (index := 143) (v := va_rf (mR m22 t 56)) cok12 56 142 rfl (by decide +kernel) k25 (by decide +kernel) tw_1141 rfl ?_
    rw [e29]
    refine at_iconst (n := 1) (1 : Int32) 143 rfl (by decide +kernel) (by decide +kernel) ?_
    refine at_iload (i := 7) 7 145 rfl (by decide +kernel) rfl ?_
    refine at_i2l 146 rfl (by decide +kernel) ?_
    obtain ⟨v30, h⟩ := h
    refine at_last 147 rfl (by decide +kernel) k27 v30 (fun m31 e32 => ?_)
    replace h := h m31 e32
    have x33 : Ext m22 m31 := by rw [e32]; exact Ext.sL _ _ _ _
    have k34 : mK m31 t = 13 := x33.k k25 (by decide)
    have k35 : mK m31 b3 = 15 := x33.k k26 (by decide)
    have k36 : mK m31 b18 = 16 := x33.k k27 (by decide)
    have e37 : mR m31 t 34 = some b3 := x33.r k25 (by decide) rfl e28
    have e38 : mR m31 t 56 = some b18 := x33.r k25 (by decide) rfl e29
    refine at_aload_n (i := 0) 0 148 rfl (by decide +kernel) rfl ?_
    refine at_get (index := 143) (v := va_rf (mR m31 t 56)) cok12 56 151 rfl (by decide +kernel) k34 (by decide +kernel) tw_1141 rfl ?_
    rw [e38]
    refine at_iconst (n := 2) (2 : Int32) 152 rfl (by decide +kernel) (by decide +kernel) ?_
    refine at_lload (i := 10) 9 154 rfl (by decide +kernel) rfl ?_
    obtain ⟨v39, h⟩ := h
    refine at_last 155 rfl (by decide +kernel) k36 v39 (fun m40 e41 => ?_)
    replace h := h m40 e41
    have x42 : Ext m31 m40 := by rw [e41]; exact Ext.sL _ _ _ _
    have k43 : mK m40 t = 13 := x42.k k34 (by decide)
    have k44 : mK m40 b3 = 15 := x42.k k35 (by decide)
    have k45 : mK m40 b18 = 16 := x42.k k36 (by decide)
    have e46 : mR m40 t 34 = some b3 := x42.r k34 (by decide) rfl e37
    have e47 : mR m40 t 56 = some b18 := x42.r k34 (by decide) rfl e38
    refine at_aload_n (i := 0) 0 156 rfl (by decide +kernel) rfl ?_
    refine at_get (index := 143) (v := va_rf (mR m40 t 56)) cok12 56 159 rfl (by decide +kernel) k43 (by decide +kernel) tw_1141 rfl ?_
    rw [e47]
    refine at_iconst (n := 3) (3 : Int32) 160 rfl (by decide +kernel) (by decide +kernel) ?_
    refine at_aload_n (i := 0) 0 161 rfl (by decide +kernel) rfl ?_
    refine at_get (index := 98) (v := va_rf (mR m40 t 32)) cok12 32 164 rfl (by decide +kernel) k43 (by decide +kernel) tw_1117 rfl ?_
    obtain ⟨b48, e49, h⟩ := h
    rw [e49]
    refine at_iload_n (i := 1) 1 165 rfl (by decide +kernel) rfl ?_
    obtain ⟨k50, h⟩ := h
    obtain ⟨v51, h⟩ := h
    refine at_iald 166 rfl (by decide +kernel) k50 v51 ?_
    refine at_i2l 167 rfl (by decide +kernel) ?_
    obtain ⟨v52, h⟩ := h
    refine at_last 168 rfl (by decide +kernel) k45 v52 (fun m53 e54 => ?_)
    replace h := h m53 e54
    have x55 : Ext m40 m53 := by rw [e54]; exact Ext.sL _ _ _ _
    have k56 : mK m53 t = 13 := x55.k k43 (by decide)
    have k57 : mK m53 b3 = 15 := x55.k k44 (by decide)
    have k58 : mK m53 b18 = 16 := x55.k k45 (by decide)
    have k59 : mK m53 b48 = 15 := x55.k k50 (by decide)
    have e60 : mR m53 t 34 = some b3 := x55.r k43 (by decide) rfl e46
    have e61 : mR m53 t 56 = some b18 := x55.r k43 (by decide) rfl e47
    have e62 : mR m53 t 32 = some b48 := x55.r k43 (by decide) rfl e49
    refine at_aload_n (i := 0) 0 169 rfl (by decide +kernel) rfl ?_
    refine at_get (index := 143) (v := va_rf (mR m53 t 56)) cok12 56 172 rfl (by decide +kernel) k56 (by decide +kernel) tw_1141 rfl ?_
    rw [e61]
    refine at_iconst (n := 4) (4 : Int32) 173 rfl (by decide +kernel) (by decide +kernel) ?_
    refine at_aload_n (i := 0) 0 174 rfl (by decide +kernel) rfl ?_
    refine at_get (index := 104) (v := va_rf (mR m53 t 34)) cok12 34 177 rfl (by decide +kernel) k56 (by decide +kernel) tw_1119 rfl ?_
    rw [e60]
    refine at_iload_n (i := 1) 1 178 rfl (by decide +kernel) rfl ?_
    obtain ⟨v63, h⟩ := h
    refine at_iald 179 rfl (by decide +kernel) k57 v63 ?_
    refine at_i2l 180 rfl (by decide +kernel) ?_
    obtain ⟨v64, h⟩ := h
    refine at_last 181 rfl (by decide +kernel) k58 v64 (fun m65 e66 => ?_)
    replace h := h m65 e66
    have x67 : Ext m53 m65 := by rw [e66]; exact Ext.sL _ _ _ _
    have k68 : mK m65 t = 13 := x67.k k56 (by decide)
    have k69 : mK m65 b3 = 15 := x67.k k57 (by decide)
    have k70 : mK m65 b18 = 16 := x67.k k58 (by decide)
    have k71 : mK m65 b48 = 15 := x67.k k59 (by decide)
    have e72 : mR m65 t 34 = some b3 := x67.r k56 (by decide) rfl e60
    have e73 : mR m65 t 56 = some b18 := x67.r k56 (by decide) rfl e61
    have e74 : mR m65 t 32 = some b48 := x67.r k56 (by decide) rfl e62
    refine at_aload_n (i := 0) 0 182 rfl (by decide +kernel) rfl ?_
    refine at_get (index := 143) (v := va_rf (mR m65 t 56)) cok12 56 185 rfl (by decide +kernel) k68 (by decide +kernel) tw_1141 rfl ?_
    rw [e73]
    refine at_iconst (n := 5) (5 : Int32) 186 rfl (by decide +kernel) (by decide +kernel) ?_
    refine at_iload (i := 5) 5 188 rfl (by decide +kernel) rfl ?_
    refine at_i2l 189 rfl (by decide +kernel) ?_
    obtain ⟨v75, h⟩ := h
    refine at_last 190 rfl (by decide +kernel) k70 v75 (fun m76 e77 => ?_)
    replace h := h m76 e77
    have x78 : Ext m65 m76 := by rw [e77]; exact Ext.sL _ _ _ _
    have k79 : mK m76 t = 13 := x78.k k68 (by decide)
    have k80 : mK m76 b3 = 15 := x78.k k69 (by decide)
    have k81 : mK m76 b18 = 16 := x78.k k70 (by decide)
    have k82 : mK m76 b48 = 15 := x78.k k71 (by decide)
    have e83 : mR m76 t 34 = some b3 := x78.r k68 (by decide) rfl e72
    have e84 : mR m76 t 56 = some b18 := x78.r k68 (by decide) rfl e73
    have e85 : mR m76 t 32 = some b48 := x78.r k68 (by decide) rfl e74
    refine at_aload_n (i := 0) 0 191 rfl (by decide +kernel) rfl ?_
    refine at_iload_n (i := 2) 2 192 rfl (by decide +kernel) rfl ?_
    refine at_callV mb_RF_reads tw_1348 tw_33 cok12 k79 (index := 329) tw_1346 [.int (l2)] [] rfl rfl (by decide) 195 rfl (by decide +kernel) (Call.toV (CV.monoE h (fun m86 h y87 => ?_)))
    have k88 : mK m86 t = 13 := y87.k k79 (by decide)
    have k89 : mK m86 b3 = 15 := y87.k k80 (by decide)
    have k90 : mK m86 b18 = 16 := y87.k k81 (by decide)
    have k91 : mK m86 b48 = 15 := y87.k k82 (by decide)
    have e92 : mR m86 t 34 = some b3 := y87.r k79 (by decide) rfl e83
    have e93 : mR m86 t 56 = some b18 := y87.r k79 (by decide) rfl e84
    have e94 : mR m86 t 32 = some b48 := y87.r k79 (by decide) rfl e85
    refine at_aload_n (i := 0) 0 196 rfl (by decide +kernel) rfl ?_
    refine at_get (index := 314) (v := .int (mI m86 t 59)) cok12 59 199 rfl (by decide +kernel) k88 (by decide +kernel) tw_1144 rfl ?_
    refine at_if_eq (off := 21) 220 202 rfl (by decide +kernel) (by decide +kernel) (fun c95 => ?_) (fun c95 => ?_)
    · rw [if_pos c95] at h
      refine at_iconst (n := 0) (0 : Int32) 221 rfl (by decide +kernel) (by decide +kernel) ?_
      exact At.sub [0, 1, 3, 4, 5, 6, 7, 8] rfl h
    · rw [if_neg c95] at h
      refine at_lconst (n := 0) (0 : Int64) 203 rfl (by decide +kernel) (by decide +kernel) ?_
      refine at_ldc2 (index := 174) (100 : Int64) 206 rfl (by decide +kernel) tw_1318 ?_
      refine at_aload_n (i := 0) 0 207 rfl (by decide +kernel) rfl ?_
      refine at_get (index := 317) (v := .long (mL m86 t 57)) cok12 57 210 rfl (by decide +kernel) k88 (by decide +kernel) tw_1142 rfl ?_
      refine at_lmn (index := 349) 213 rfl (by decide +kernel) tw_1454 (by simp [va_rf_cat, cat_int, cat_long]) ?_
      refine at_lmx (index := 341) 216 rfl (by decide +kernel) tw_1453 (by decide) ?_
      refine at_l2i 217 rfl (by decide +kernel) ?_
      refine at_goto (off := 4) 221 (by decide +kernel) (by decide +kernel) ?_
      exact At.sub [0, 1, 3, 4, 5, 6, 7, 8] rfl h
  · rw [if_neg c1] at h
    refine at_lload (i := 10) 9 72 rfl (by decide +kernel) rfl ?_
    refine at_aload_n (i := 0) 0 73 rfl (by decide +kernel) rfl ?_
    obtain ⟨k96, h⟩ := h
    refine at_get (index := 128) (v := va_rf (mR m t 42)) cok12 42 76 rfl (by decide +kernel) k96 (by decide +kernel) tw_1127 rfl ?_
    obtain ⟨b97, e98, h⟩ := h
    rw [e98]
    refine at_sipush (n := 400) (400 : Int32) 79 rfl (by decide +kernel) (by decide +kernel) ?_
    refine at_iload_n (i := 1) 1 80 rfl (by decide +kernel) rfl ?_
    refine at_imul 81 rfl (by decide +kernel) ?_
    refine at_iload (i := 12) 10 83 rfl (by decide +kernel) rfl ?_
    refine at_iadd 84 rfl (by decide +kernel) ?_
    obtain ⟨k99, h⟩ := h
    obtain ⟨v100, h⟩ := h
    refine at_iald 85 rfl (by decide +kernel) k99 v100 ?_
    refine at_iload (i := 5) 5 87 rfl (by decide +kernel) rfl ?_
    refine at_iconst (n := 1) (1 : Int32) 88 rfl (by decide +kernel) (by decide +kernel) ?_
    refine at_isub 89 rfl (by decide +kernel) ?_
    refine at_icmp_ge (off := 20) 109 92 rfl (by decide +kernel) (by decide +kernel) (fun c101 => ?_) (fun c101 => ?_)
    · rw [if_pos c101] at h
      refine at_lconst (n := 0) (0 : Int64) 110 rfl (by decide +kernel) (by decide +kernel) ?_
      refine at_ladd 111 rfl (by decide +kernel) ?_
      refine at_lstore (i := 10) (lc' := [(0, va_rf (some t)), (1, .int (l1)), (2, .int (l2)), (3, va_rf (l3)), (4, .int (l4)), (5, .int (l5)), (6, .int (l6)), (7, .int (l7)), (8, .long (l8)), (10, .long (l10 + (0 : Int64))), (12, .int (l12))]) [1, 2, 3, 4, 5, 6, 7, 8, 9, 0, 10] 113 rfl (by decide +kernel) (by decide +kernel) rfl ?_
      refine at_iinc (i := 12) (n := 1) (lc' := [(0, va_rf (some t)), (1, .int (l1)), (2, .int (l2)), (3, va_rf (l3)), (4, .int (l4)), (5, .int (l5)), (6, .int (l6)), (7, .int (l7)), (8, .long (l8)), (10, .long (l10 + (0 : Int64))), (12, .int (l12 + (1 : Int32)))]) (l12 + (1 : Int32)) 10 [1, 2, 3, 4, 5, 6, 7, 8, 9, 10, 0] 116 rfl (by decide +kernel) rfl (by rw [show Int32.ofInt 1 = (1 : Int32) from by decide +kernel]) (by decide +kernel) rfl ?_
      refine at_goto (off := (-53)) 63 (by decide +kernel) (by decide +kernel) ?_
      exact h
    · rw [if_neg c101] at h
      refine at_aload_n (i := 0) 0 93 rfl (by decide +kernel) rfl ?_
      refine at_get (index := 125) (v := va_rf (mR m t 41)) cok12 41 96 rfl (by decide +kernel) k96 (by decide +kernel) tw_1126 rfl ?_
      obtain ⟨b102, e103, h⟩ := h
      rw [e103]
      refine at_sipush (n := 400) (400 : Int32) 99 rfl (by decide +kernel) (by decide +kernel) ?_
      refine at_iload_n (i := 1) 1 100 rfl (by decide +kernel) rfl ?_
      refine at_imul 101 rfl (by decide +kernel) ?_
      refine at_iload (i := 12) 10 103 rfl (by decide +kernel) rfl ?_
      refine at_iadd 104 rfl (by decide +kernel) ?_
      obtain ⟨k104, h⟩ := h
      obtain ⟨v105, h⟩ := h
      refine at_iald 105 rfl (by decide +kernel) k104 v105 ?_
      refine at_i2l 106 rfl (by decide +kernel) ?_
      refine at_goto (off := 4) 110 (by decide +kernel) (by decide +kernel) ?_
      refine at_ladd 111 rfl (by decide +kernel) ?_
      refine at_lstore (i := 10) (lc' := [(0, va_rf (some t)), (1, .int (l1)), (2, .int (l2)), (3, va_rf (l3)), (4, .int (l4)), (5, .int (l5)), (6, .int (l6)), (7, .int (l7)), (8, .long (l8)), (10, .long (l10 + ((mI m b102 (((400 : Int32) * l1) + l12).toNatClampNeg).toInt64))), (12, .int (l12))]) [1, 2, 3, 4, 5, 6, 7, 8, 9, 0, 10] 113 rfl (by decide +kernel) (by decide +kernel) rfl ?_
      refine at_iinc (i := 12) (n := 1) (lc' := [(0, va_rf (some t)), (1, .int (l1)), (2, .int (l2)), (3, va_rf (l3)), (4, .int (l4)), (5, .int (l5)), (6, .int (l6)), (7, .int (l7)), (8, .long (l8)), (10, .long (l10 + ((mI m b102 (((400 : Int32) * l1) + l12).toNatClampNeg).toInt64))), (12, .int (l12 + (1 : Int32)))]) (l12 + (1 : Int32)) 10 [1, 2, 3, 4, 5, 6, 7, 8, 9, 10, 0] 116 rfl (by decide +kernel) rfl (by rw [show Int32.ofInt 1 = (1 : Int32) from by decide +kernel]) (by decide +kernel) rfl ?_
      refine at_goto (off := (-53)) 63 (by decide +kernel) (by decide +kernel) ?_
      exact h
set_option maxRecDepth 20000 in
set_option maxHeartbeats 4000000 in
theorem bk_RF_passes_29 (g : Gc) {lv : Nat} {t : Nat} {l1 : Int32} {l2 : Int32} {l3 : Option Nat} {l4 : Int32} {l5 : Int32} {l6 : Int32} {l7 : Int32} {l8 : Int64} {l10 : Int32} {m : Mm} {Q : Int32 → Mm → Prop} (h : mK m t = 13 ∧ (if (mI m t 19) ≤ (l10) then (At g M_RF_passes (lv + 1) 63 [(0, va_rf (some t)), (1, .int (l1)), (2, .int (l2)), (3, va_rf (l3)), (4, .int (l4)), (5, .int (l5)), (6, .int (l6)), (7, .int (l7)), (8, .long (l8)), (10, .long ((0 : Int64))), (12, .int ((0 : Int32)))] [] m (QI Q)) else (∃ b3, l3 = some b3 ∧ (mK m b3 = 15 ∧ (vp_in (l4 + l10) (mN m b3) ∧ (At g M_RF_passes (lv + 1) 29 [(0, va_rf (some t)), (1, .int (l1)), (2, .int (l2)), (3, va_rf (some b3)), (4, .int (l4)), (5, .int (l5)), (6, .int (l6)), (7, .int (l7)), (8, .long (l8 + ((mI m b3 (l4 + l10).toNatClampNeg).toInt64))), (10, .int (l10 + (1 : Int32)))] [] m (QI Q))))))) : At g M_RF_passes (lv + 1) 29 [(0, va_rf (some t)), (1, .int (l1)), (2, .int (l2)), (3, va_rf (l3)), (4, .int (l4)), (5, .int (l5)), (6, .int (l6)), (7, .int (l7)), (8, .long (l8)), (10, .int (l10))] [] m (QI Q) := by
  refine at_iload (i := 10) 9 31 rfl (by decide +kernel) rfl ?_
  refine at_aload_n (i := 0) 0 32 rfl (by decide +kernel) rfl ?_
  obtain ⟨k1, h⟩ := h
  refine at_get (index := 185) (v := .int (mI m t 19)) cok12 19 35 rfl (by decide +kernel) k1 (by decide +kernel) tw_1104 rfl ?_
  refine at_icmp_ge (off := 22) 57 38 rfl (by decide +kernel) (by decide +kernel) (fun c2 => ?_) (fun c2 => ?_)
  · rw [if_pos c2] at h
    refine at_lconst (n := 0) (0 : Int64) 58 rfl (by decide +kernel) (by decide +kernel) ?_
    refine at_lstore (i := 10) (lc' := [(0, va_rf (some t)), (1, .int (l1)), (2, .int (l2)), (3, va_rf (l3)), (4, .int (l4)), (5, .int (l5)), (6, .int (l6)), (7, .int (l7)), (8, .long (l8)), (10, .long ((0 : Int64)))]) [1, 2, 3, 4, 5, 6, 7, 8, 9, 0] 60 rfl (by decide +kernel) (by decide +kernel) rfl ?_
    refine at_iconst (n := 0) (0 : Int32) 61 rfl (by decide +kernel) (by decide +kernel) ?_
    refine at_istore (i := 12) (lc' := [(0, va_rf (some t)), (1, .int (l1)), (2, .int (l2)), (3, va_rf (l3)), (4, .int (l4)), (5, .int (l5)), (6, .int (l6)), (7, .int (l7)), (8, .long (l8)), (10, .long ((0 : Int64))), (12, .int ((0 : Int32)))]) [1, 2, 3, 4, 5, 6, 7, 8, 9, 10, 0] 63 rfl (by decide +kernel) (by decide +kernel) rfl ?_
    exact h
  · rw [if_neg c2] at h
    refine at_lload (i := 8) 8 40 rfl (by decide +kernel) rfl ?_
    refine at_aload_n (i := 3) 3 41 rfl (by decide +kernel) rfl ?_
    refine at_iload (i := 4) 4 43 rfl (by decide +kernel) rfl ?_
    refine at_iload (i := 10) 9 45 rfl (by decide +kernel) rfl ?_
    refine at_iadd 46 rfl (by decide +kernel) ?_
    obtain ⟨b3, e4, h⟩ := h
    rw [e4]
    obtain ⟨k5, h⟩ := h
    obtain ⟨v6, h⟩ := h
    refine at_iald 47 rfl (by decide +kernel) k5 v6 ?_
    refine at_i2l 48 rfl (by decide +kernel) ?_
    refine at_ladd 49 rfl (by decide +kernel) ?_
    refine at_lstore (i := 8) (lc' := [(0, va_rf (some t)), (1, .int (l1)), (2, .int (l2)), (3, va_rf (some b3)), (4, .int (l4)), (5, .int (l5)), (6, .int (l6)), (7, .int (l7)), (8, .long (l8 + ((mI m b3 (l4 + l10).toNatClampNeg).toInt64))), (10, .int (l10))]) [1, 2, 3, 4, 5, 6, 7, 8, 0, 9] 51 rfl (by decide +kernel) (by decide +kernel) rfl ?_
    refine at_iinc (i := 10) (n := 1) (lc' := [(0, va_rf (some t)), (1, .int (l1)), (2, .int (l2)), (3, va_rf (some b3)), (4, .int (l4)), (5, .int (l5)), (6, .int (l6)), (7, .int (l7)), (8, .long (l8 + ((mI m b3 (l4 + l10).toNatClampNeg).toInt64))), (10, .int (l10 + (1 : Int32)))]) (l10 + (1 : Int32)) 9 [1, 2, 3, 4, 5, 6, 7, 8, 9, 0] 54 rfl (by decide +kernel) rfl (by rw [show Int32.ofInt 1 = (1 : Int32) from by decide +kernel]) (by decide +kernel) rfl ?_
    refine at_goto (off := (-25)) 29 (by decide +kernel) (by decide +kernel) ?_
    exact h
set_option maxRecDepth 20000 in
set_option maxHeartbeats 4000000 in
theorem en_RF_passes (g : Gc) {lv : Nat} {t : Nat} {l1 : Int32} {l2 : Int32} {l3 : Option Nat} {l4 : Int32} {m : Mm} {Q : Int32 → Mm → Prop} (h : mK m t = 13 ∧ (∃ b2, mR m t 31 = some b2 ∧ (mK m b2 = 15 ∧ (vp_in l1 (mN m b2) ∧ (∃ b6, mR m t 33 = some b6 ∧ (mK m b6 = 15 ∧ (vp_in l1 (mN m b6) ∧ (CI g M_RF_store lv [va_rf (some t), .int (l1)] m (fun x10 m11 => (At g M_RF_passes (lv + 1) 29 [(0, va_rf (some t)), (1, .int (l1)), (2, .int (l2)), (3, va_rf (l3)), (4, .int (l4)), (5, .int (mI m b2 l1.toNatClampNeg)), (6, .int (mI m b6 l1.toNatClampNeg)), (7, .int (x10)), (8, .long ((0 : Int64))), (10, .int ((0 : Int32)))] [] m11 (QI Q))))))))))) : CI g M_RF_passes (lv + 1) [va_rf (some t), .int (l1), .int (l2), va_rf (l3), .int (l4)] m Q := by
  refine Call.of (by decide +kernel) (by simp [lg_sl, va_rf_cat, cat_int, cat_long, M_RF_passes]) ?_
  rw [show lv_args 0 [va_rf (some t), .int (l1), .int (l2), va_rf (l3), .int (l4)] = [(0, va_rf (some t)), (1, .int (l1)), (2, .int (l2)), (3, va_rf (l3)), (4, .int (l4))] from by simp [lv_args, va_rf_cat, cat_int, cat_long]]
  refine at_aload_n (i := 0) 0 1 rfl (by decide +kernel) rfl ?_
  obtain ⟨k1, h⟩ := h
  refine at_get (index := 95) (v := va_rf (mR m t 31)) cok12 31 4 rfl (by decide +kernel) k1 (by decide +kernel) tw_1116 rfl ?_
  obtain ⟨b2, e3, h⟩ := h
  rw [e3]
  refine at_iload_n (i := 1) 1 5 rfl (by decide +kernel) rfl ?_
  obtain ⟨k4, h⟩ := h
  obtain ⟨v5, h⟩ := h
  refine at_iald 6 rfl (by decide +kernel) k4 v5 ?_
  refine at_istore (i := 5) (lc' := [(0, va_rf (some t)), (1, .int (l1)), (2, .int (l2)), (3, va_rf (l3)), (4, .int (l4)), (5, .int (mI m b2 l1.toNatClampNeg))]) [1, 2, 3, 4, 5, 0] 8 rfl (by decide +kernel) (by decide +kernel) rfl ?_
  refine at_aload_n (i := 0) 0 9 rfl (by decide +kernel) rfl ?_
  refine at_get (index := 101) (v := va_rf (mR m t 33)) cok12 33 12 rfl (by decide +kernel) k1 (by decide +kernel) tw_1118 rfl ?_
  obtain ⟨b6, e7, h⟩ := h
  rw [e7]
  refine at_iload_n (i := 1) 1 13 rfl (by decide +kernel) rfl ?_
  obtain ⟨k8, h⟩ := h
  obtain ⟨v9, h⟩ := h
  refine at_iald 14 rfl (by decide +kernel) k8 v9 ?_
  refine at_istore (i := 6) (lc' := [(0, va_rf (some t)), (1, .int (l1)), (2, .int (l2)), (3, va_rf (l3)), (4, .int (l4)), (5, .int (mI m b2 l1.toNatClampNeg)), (6, .int (mI m b6 l1.toNatClampNeg))]) [1, 2, 3, 4, 5, 6, 0] 16 rfl (by decide +kernel) (by decide +kernel) rfl ?_
  refine at_aload_n (i := 0) 0 17 rfl (by decide +kernel) rfl ?_
  refine at_iload_n (i := 1) 1 18 rfl (by decide +kernel) rfl ?_
  refine at_callV mb_RF_store tw_1447 tw_47 cok12 k1 (index := 344) tw_1445 [.int (l1)] [] rfl rfl (by decide) 21 rfl (by decide +kernel) (Call.toI (CI.monoE h (fun x10 m11 h y12 => ?_)))
  have k13 : mK m11 t = 13 := y12.k k1 (by decide)
  have k14 : mK m11 b2 = 15 := y12.k k4 (by decide)
  have k15 : mK m11 b6 = 15 := y12.k k8 (by decide)
  have e16 : mR m11 t 31 = some b2 := y12.r k1 (by decide) rfl e3
  have e17 : mR m11 t 33 = some b6 := y12.r k1 (by decide) rfl e7
  refine at_istore (i := 7) (lc' := [(0, va_rf (some t)), (1, .int (l1)), (2, .int (l2)), (3, va_rf (l3)), (4, .int (l4)), (5, .int (mI m b2 l1.toNatClampNeg)), (6, .int (mI m b6 l1.toNatClampNeg)), (7, .int (x10))]) [1, 2, 3, 4, 5, 6, 7, 0] 23 rfl (by decide +kernel) (by decide +kernel) rfl ?_
  refine at_lconst (n := 0) (0 : Int64) 24 rfl (by decide +kernel) (by decide +kernel) ?_
  refine at_lstore (i := 8) (lc' := [(0, va_rf (some t)), (1, .int (l1)), (2, .int (l2)), (3, va_rf (l3)), (4, .int (l4)), (5, .int (mI m b2 l1.toNatClampNeg)), (6, .int (mI m b6 l1.toNatClampNeg)), (7, .int (x10)), (8, .long ((0 : Int64)))]) [1, 2, 3, 4, 5, 6, 7, 8, 0] 26 rfl (by decide +kernel) (by decide +kernel) rfl ?_
  refine at_iconst (n := 0) (0 : Int32) 27 rfl (by decide +kernel) (by decide +kernel) ?_
  refine at_istore (i := 10) (lc' := [(0, va_rf (some t)), (1, .int (l1)), (2, .int (l2)), (3, va_rf (l3)), (4, .int (l4)), (5, .int (mI m b2 l1.toNatClampNeg)), (6, .int (mI m b6 l1.toNatClampNeg)), (7, .int (x10)), (8, .long ((0 : Int64))), (10, .int ((0 : Int32)))]) [1, 2, 3, 4, 5, 6, 7, 8, 9, 0] 29 rfl (by decide +kernel) (by decide +kernel) rfl ?_
  exact h
set_option maxRecDepth 20000 in
set_option maxHeartbeats 4000000 in
theorem en_RF_sells (g : Gc) {lv : Nat} {t : Nat} {l1 : Int32} {l2 : Int32} {l3 : Int32} {l4 : Int32} {l5 : Int32} {m : Mm} {Q : Mm → Prop} (h : mK m t = 13 ∧ (∃ b2, mR m t 37 = some b2 ∧ (mK m b2 = 15 ∧ (vp_in (((12 : Int32) * l1) + l2) (mN m b2) ∧ (vp_in (((12 : Int32) * l1) + l2) (mN m b2) ∧ (∀ m7, m7 = sI m b2 (((12 : Int32) * l1) + l2).toNatClampNeg ((mI m b2 (((12 : Int32) * l1) + l2).toNatClampNeg) - l3) → (∃ b13, mR m7 t 39 = some b13 ∧ (mK m7 b13 = 16 ∧ (vp_in (((15 : Int32) * l1) + l2) (mN m7 b13) ∧ (vp_in (((15 : Int32) * l1) + l2) (mN m7 b13) ∧ (∀ m18, m18 = sL m7 b13 (((15 : Int32) * l1) + l2).toNatClampNeg ((mL m7 b13 (((15 : Int32) * l1) + l2).toNatClampNeg) + (l3.toInt64 * l4.toInt64)) → (∃ b26, mR m18 t 43 = some b26 ∧ (mK m18 b26 = 16 ∧ (vp_in (((8 : Int32) * l1) + l5) (mN m18 b26) ∧ (vp_in (((8 : Int32) * l1) + l5) (mN m18 b26) ∧ (∀ m31, m31 = sL m18 b26 (((8 : Int32) * l1) + l5).toNatClampNeg ((mL m18 b26 (((8 : Int32) * l1) + l5).toNatClampNeg) + l3.toInt64) → (Q m31))))))))))))))))) : CV g M_RF_sells (lv + 1) [va_rf (some t), .int (l1), .int (l2), .int (l3), .int (l4), .int (l5)] m Q := by
  refine Call.of (by decide +kernel) (Nat.le_of_ble_eq_true rfl) ?_
  show At g M_RF_sells (lv + 1) 0 [(0, va_rf (some t)), (1, .int (l1)), (2, .int (l2)), (3, .int (l3)), (4, .int (l4)), (5, .int (l5))] [] m (QV Q)
  refine at_aload_n (i := 0) 0 1 rfl (by decide +kernel) rfl ?_
  obtain ⟨k1, h⟩ := h
  refine at_get (index := 113) (v := va_rf (mR m t 37)) cok12 37 4 rfl (by decide +kernel) k1 (by decide +kernel) tw_1122 rfl ?_
  obtain ⟨b2, e3, h⟩ := h
  rw [e3]
  refine at_bipush (n := 12) (12 : Int32) 6 rfl (by decide +kernel) (by decide +kernel) ?_
  refine at_iload_n (i := 1) 1 7 rfl (by decide +kernel) rfl ?_
  refine at_imul 8 rfl (by decide +kernel) ?_
  refine at_iload_n (i := 2) 2 9 rfl (by decide +kernel) rfl ?_
  refine at_iadd 10 rfl (by decide +kernel) ?_
  refine at_dup2_11 11 rfl (by decide +kernel) rfl (va_rf_cat _) ?_
  obtain ⟨k4, h⟩ := h
  obtain ⟨v5, h⟩ := h
  refine at_iald 12 rfl (by decide +kernel) k4 v5 ?_
  refine at_iload_n (i := 3) 3 13 rfl (by decide +kernel) rfl ?_
  refine at_isub 14 rfl (by decide +kernel) ?_
  obtain ⟨v6, h⟩ := h
  refine at_iast 15 rfl (by decide +kernel) k4 v6 (fun m7 e8 => ?_)
  replace h := h m7 e8
  have x9 : Ext m m7 := by rw [e8]; exact Ext.sI _ _ _ _
  have k10 : mK m7 t = 13 := x9.k k1 (by decide)
  have k11 : mK m7 b2 = 15 := x9.k k4 (by decide)
  have e12 : mR m7 t 37 = some b2 := x9.r k1 (by decide) rfl e3
  refine at_aload_n (i := 0) 0 16 rfl (by decide +kernel) rfl ?_
  refine at_get (index := 119) (v := va_rf (mR m7 t 39)) cok12 39 19 rfl (by decide +kernel) k10 (by decide +kernel) tw_1124 rfl ?_
  obtain ⟨b13, e14, h⟩ := h
  rw [e14]
  refine at_bipush (n := 15) (15 : Int32) 21 rfl (by decide +kernel) (by decide +kernel) ?_
  refine at_iload_n (i := 1) 1 22 rfl (by decide +kernel) rfl ?_
  refine at_imul 23 rfl (by decide +kernel) ?_
  refine at_iload_n (i := 2) 2 24 rfl (by decide +kernel) rfl ?_
  refine at_iadd 25 rfl (by decide +kernel) ?_
  refine at_dup2_11 26 rfl (by decide +kernel) rfl (va_rf_cat _) ?_
  obtain ⟨k15, h⟩ := h
  obtain ⟨v16, h⟩ := h
  refine at_lald 27 rfl (by decide +kernel) k15 v16 ?_
  refine at_iload_n (i := 3) 3 28 rfl (by decide +kernel) rfl ?_
  refine at_i2l 29 rfl (by decide +kernel) ?_
  refine at_iload (i := 4) 4 31 rfl (by decide +kernel) rfl ?_
  refine at_i2l 32 rfl (by decide +kernel) ?_
  refine at_lmul 33 rfl (by decide +kernel) ?_
  refine at_ladd 34 rfl (by decide +kernel) ?_
  obtain ⟨v17, h⟩ := h
  refine at_last 35 rfl (by decide +kernel) k15 v17 (fun m18 e19 => ?_)
  replace h := h m18 e19
  have x20 : Ext m7 m18 := by rw [e19]; exact Ext.sL _ _ _ _
  have k21 : mK m18 t = 13 := x20.k k10 (by decide)
  have k22 : mK m18 b2 = 15 := x20.k k11 (by decide)
  have k23 : mK m18 b13 = 16 := x20.k k15 (by decide)
  have e24 : mR m18 t 37 = some b2 := x20.r k10 (by decide) rfl e12
  have e25 : mR m18 t 39 = some b13 := x20.r k10 (by decide) rfl e14
  refine at_aload_n (i := 0) 0 36 rfl (by decide +kernel) rfl ?_
  refine at_get (index := 131) (v := va_rf (mR m18 t 43)) cok12 43 39 rfl (by decide +kernel) k21 (by decide +kernel) tw_1128 rfl ?_
  obtain ⟨b26, e27, h⟩ := h
  rw [e27]
  refine at_bipush (n := 8) (8 : Int32) 41 rfl (by decide +kernel) (by decide +kernel) ?_
  refine at_iload_n (i := 1) 1 42 rfl (by decide +kernel) rfl ?_
  refine at_imul 43 rfl (by decide +kernel) ?_
  refine at_iload (i := 5) 5 45 rfl (by decide +kernel) rfl ?_
  refine at_iadd 46 rfl (by decide +kernel) ?_
  refine at_dup2_11 47 rfl (by decide +kernel) rfl (va_rf_cat _) ?_
  obtain ⟨k28, h⟩ := h
  obtain ⟨v29, h⟩ := h
  refine at_lald 48 rfl (by decide +kernel) k28 v29 ?_
  refine at_iload_n (i := 3) 3 49 rfl (by decide +kernel) rfl ?_
  refine at_i2l 50 rfl (by decide +kernel) ?_
  refine at_ladd 51 rfl (by decide +kernel) ?_
  obtain ⟨v30, h⟩ := h
  refine at_last 52 rfl (by decide +kernel) k28 v30 (fun m31 e32 => ?_)
  replace h := h m31 e32
  have x33 : Ext m18 m31 := by rw [e32]; exact Ext.sL _ _ _ _
  have k34 : mK m31 t = 13 := x33.k k21 (by decide)
  have k35 : mK m31 b2 = 15 := x33.k k22 (by decide)
  have k36 : mK m31 b13 = 16 := x33.k k23 (by decide)
  have k37 : mK m31 b26 = 16 := x33.k k28 (by decide)
  have e38 : mR m31 t 37 = some b2 := x33.r k21 (by decide) rfl e24
  have e39 : mR m31 t 39 = some b13 := x33.r k21 (by decide) rfl e25
  have e40 : mR m31 t 43 = some b26 := x33.r k21 (by decide) rfl e27
  exact at_vret rfl (by decide +kernel) h
set_option maxRecDepth 20000 in
set_option maxHeartbeats 4000000 in
theorem bk_RF_abroad_79 (g : Gc) {lv : Nat} {t : Nat} {l1 : Int32} {l4 : Int32} {l5 : Int32} {m : Mm} {Q : Mm → Prop} (h : mK m t = 13 ∧ (if (mI m t 19) ≤ (l5) then (At g M_RF_abroad (lv + 1) 71 [(0, va_rf (some t)), (1, .int (l1)), (4, .int (l4))] [] m (QV Q)) else (if (l4) ≤ 0 then (At g M_RF_abroad (lv + 1) 71 [(0, va_rf (some t)), (1, .int (l1)), (4, .int (l4))] [] m (QV Q)) else (∃ b4, mR m t 37 = some b4 ∧ (mK m b4 = 15 ∧ (vp_in (((12 : Int32) * l1) + l5) (mN m b4) ∧ (if (mI m b4 (((12 : Int32) * l1) + l5).toNatClampNeg) = 0 then (At g M_RF_abroad (lv + 1) 79 [(0, va_rf (some t)), (1, .int (l1)), (4, .int (l4)), (5, .int (l5 + (1 : Int32)))] [] m (QV Q)) else (∃ b9, mR m t 32 = some b9 ∧ (mK m b9 = 15 ∧ (vp_in l1 (mN m b9) ∧ (CV g M_RF_sells lv [va_rf (some t), .int (l1), .int (l5), .int ((1 : Int32)), .int (mI m b9 l1.toNatClampNeg), .int ((2 : Int32))] m (fun m13 => (At g M_RF_abroad (lv + 1) 79 [(0, va_rf (some t)), (1, .int (l1)), (4, .int (l4 + (-1 : Int32))), (5, .int (l5 + (1 : Int32)))] [] m13 (QV Q)))))))))))))) : At g M_RF_abroad (lv + 1) 79 [(0, va_rf (some t)), (1, .int (l1)), (4, .int (l4)), (5, .int (l5))] [] m (QV Q) := by
  refine at_iload (i := 5) 3 81 rfl (by decide +kernel) rfl ?_
  refine at_aload_n (i := 0) 0 82 rfl (by decide +kernel) rfl ?_
  obtain ⟨k1, h⟩ := h
  refine at_get (index := 185) (v := .int (mI m t 19)) cok12 19 85 rfl (by decide +kernel) k1 (by decide +kernel) tw_1104 rfl ?_
  refine at_icmp_ge (off := 50) 135 88 rfl (by decide +kernel) (by decide +kernel) (fun c2 => ?_) (fun c2 => ?_)
  · rw [if_pos c2] at h
    refine at_goto (off := (-64)) 71 (by decide +kernel) (by decide +kernel) ?_
    exact At.sub [0, 1, 2] rfl h
  · rw [if_neg c2] at h
    refine at_iload (i := 4) 2 90 rfl (by decide +kernel) rfl ?_
    refine at_if_le (off := 45) 135 93 rfl (by decide +kernel) (by decide +kernel) (fun c3 => ?_) (fun c3 => ?_)
    · rw [if_pos c3] at h
      refine at_goto (off := (-64)) 71 (by decide +kernel) (by decide +kernel) ?_
      exact At.sub [0, 1, 2] rfl h
    · rw [if_neg c3] at h
      refine at_aload_n (i := 0) 0 94 rfl (by decide +kernel) rfl ?_
      refine at_get (index := 113) (v := va_rf (mR m t 37)) cok12 37 97 rfl (by decide +kernel) k1 (by decide +kernel) tw_1122 rfl ?_
      obtain ⟨b4, e5, h⟩ := h
      rw [e5]
      refine at_bipush (n := 12) (12 : Int32) 99 rfl (by decide +kernel) (by decide +kernel) ?_
      refine at_iload_n (i := 1) 1 100 rfl (by decide +kernel) rfl ?_
      refine at_imul 101 rfl (by decide +kernel) ?_
      refine at_iload (i := 5) 3 103 rfl (by decide +kernel) rfl ?_
      refine at_iadd 104 rfl (by decide +kernel) ?_
      obtain ⟨k6, h⟩ := h
      obtain ⟨v7, h⟩ := h
      refine at_iald 105 rfl (by decide +kernel) k6 v7 ?_
      refine at_if_ne (off := 6) 111 108 rfl (by decide +kernel) (by decide +kernel) (fun c8 => ?_) (fun c8 => ?_)
      · rw [if_neg c8] at h
        refine at_aload_n (i := 0) 0 112 rfl (by decide +kernel) rfl ?_
        refine at_iload_n (i := 1) 1 113 rfl (by decide +kernel) rfl ?_
        refine at_iload (i := 5) 3 115 rfl (by decide +kernel) rfl ?_
        refine at_iconst (n := 1) (1 : Int32) 116 rfl (by decide +kernel) (by decide +kernel) ?_
        refine at_aload_n (i := 0) 0 117 rfl (by decide +kernel) rfl ?_
        refine at_get (index := 98) (v := va_rf (mR m t 32)) cok12 32 120 rfl (by decide +kernel) k1 (by decide +kernel) tw_1117 rfl ?_
        obtain ⟨b9, e10, h⟩ := h
        rw [e10]
        refine at_iload_n (i := 1) 1 121 rfl (by decide +kernel) rfl ?_
        obtain ⟨k11, h⟩ := h
        obtain ⟨v12, h⟩ := h
        refine at_iald 122 rfl (by decide +kernel) k11 v12 ?_
        refine at_iconst (n := 2) (2 : Int32) 123 rfl (by decide +kernel) (by decide +kernel) ?_
        refine at_callV mb_RF_sells tw_1473 tw_53 cok12 k1 (index := 372) tw_1471 [.int (l1), .int (l5), .int ((1 : Int32)), .int (mI m b9 l1.toNatClampNeg), .int ((2 : Int32))] [] rfl rfl (by decide) 126 rfl (by decide +kernel) (Call.toV (CV.monoE h (fun m13 h y14 => ?_)))
        have k15 : mK m13 t = 13 := y14.k k1 (by decide)
        have k16 : mK m13 b4 = 15 := y14.k k6 (by decide)
        have k17 : mK m13 b9 = 15 := y14.k k11 (by decide)
        have e18 : mR m13 t 37 = some b4 := y14.r k1 (by decide) rfl e5
        have e19 : mR m13 t 32 = some b9 := y14.r k1 (by decide) rfl e10
        refine at_iinc (i := 4) (n := (-1)) (lc' := [(0, va_rf (some t)), (1, .int (l1)), (4, .int (l4 + (-1 : Int32))), (5, .int (l5))]) (l4 + (-1 : Int32)) 2 [1, 2, 0, 3] 129 rfl (by decide +kernel) rfl (by rw [show Int32.ofInt (-1) = (-1 : Int32) from by decide +kernel]) (by decide +kernel) rfl ?_
        refine at_iinc (i := 5) (n := 1) (lc' := [(0, va_rf (some t)), (1, .int (l1)), (4, .int (l4 + (-1 : Int32))), (5, .int (l5 + (1 : Int32)))]) (l5 + (1 : Int32)) 3 [1, 2, 3, 0] 132 rfl (by decide +kernel) rfl (by rw [show Int32.ofInt 1 = (1 : Int32) from by decide +kernel]) (by decide +kernel) rfl ?_
        refine at_goto (off := (-53)) 79 (by decide +kernel) (by decide +kernel) ?_
        exact h
      · rw [if_pos c8] at h
        refine at_goto (off := 21) 129 (by decide +kernel) (by decide +kernel) ?_
        refine at_iinc (i := 5) (n := 1) (lc' := [(0, va_rf (some t)), (1, .int (l1)), (4, .int (l4)), (5, .int (l5 + (1 : Int32)))]) (l5 + (1 : Int32)) 3 [1, 2, 3, 0] 132 rfl (by decide +kernel) rfl (by rw [show Int32.ofInt 1 = (1 : Int32) from by decide +kernel]) (by decide +kernel) rfl ?_
        refine at_goto (off := (-53)) 79 (by decide +kernel) (by decide +kernel) ?_
        exact h
set_option maxRecDepth 20000 in
set_option maxHeartbeats 4000000 in
theorem bk_RF_abroad_71 (g : Gc) {lv : Nat} {t : Nat} {l1 : Int32} {l4 : Int32} {m : Mm} {Q : Mm → Prop} (h : if (l4) ≤ 0 then (Q m) else (At g M_RF_abroad (lv + 1) 79 [(0, va_rf (some t)), (1, .int (l1)), (4, .int (l4)), (5, .int ((0 : Int32)))] [] m (QV Q))) : At g M_RF_abroad (lv + 1) 71 [(0, va_rf (some t)), (1, .int (l1)), (4, .int (l4))] [] m (QV Q) := by
  refine at_iload (i := 4) 2 73 rfl (by decide +kernel) rfl ?_
  refine at_if_le (off := 65) 138 76 rfl (by decide +kernel) (by decide +kernel) (fun c1 => ?_) (fun c1 => ?_)
  · rw [if_pos c1] at h
    exact at_vret rfl (by decide +kernel) h
  · rw [if_neg c1] at h
    refine at_iconst (n := 0) (0 : Int32) 77 rfl (by decide +kernel) (by decide +kernel) ?_
    refine at_istore (i := 5) (lc' := [(0, va_rf (some t)), (1, .int (l1)), (4, .int (l4)), (5, .int ((0 : Int32)))]) [1, 2, 3, 0] 79 rfl (by decide +kernel) (by decide +kernel) rfl ?_
    exact h
set_option maxRecDepth 20000 in
set_option maxHeartbeats 4000000 in
theorem bk_RF_abroad_11 (g : Gc) {lv : Nat} {t : Nat} {l1 : Int32} {l2 : Int32} {l3 : Int32} {l4 : Int32} {l5 : Int32} {m : Mm} {Q : Mm → Prop} (h : mK m t = 13 ∧ (if (mI m t 19) ≤ (l5) then (At g M_RF_abroad (lv + 1) 71 [(0, va_rf (some t)), (1, .int (l1)), (4, .int (l4))] [] m (QV Q)) else (∃ b3, mR m t 37 = some b3 ∧ (mK m b3 = 15 ∧ (vp_in (((12 : Int32) * l1) + l5) (mN m b3) ∧ (¬ l2.toInt64 = 0 ∧ (∃ b8, mR m t 32 = some b8 ∧ (mK m b8 = 15 ∧ (vp_in l1 (mN m b8) ∧ (CV g M_RF_sells lv [va_rf (some t), .int (l1), .int (l5), .int (((((mI m b3 (((12 : Int32) * l1) + l5).toNatClampNeg).toInt64) * l3.toInt64) / l2.toInt64).toInt32), .int (mI m b8 l1.toNatClampNeg), .int ((2 : Int32))] m (fun m12 => (At g M_RF_abroad (lv + 1) 11 [(0, va_rf (some t)), (1, .int (l1)), (2, .int (l2)), (3, .int (l3)), (4, .int (l4 - (((((mI m b3 (((12 : Int32) * l1) + l5).toNatClampNeg).toInt64) * l3.toInt64) / l2.toInt64).toInt32))), (5, .int (l5 + (1 : Int32)))] [] m12 (QV Q))))))))))))) : At g M_RF_abroad (lv + 1) 11 [(0, va_rf (some t)), (1, .int (l1)), (2, .int (l2)), (3, .int (l3)), (4, .int (l4)), (5, .int (l5))] [] m (QV Q) := by
  refine at_iload (i := 5) 5 13 rfl (by decide +kernel) rfl ?_
  refine at_aload_n (i := 0) 0 14 rfl (by decide +kernel) rfl ?_
  obtain ⟨k1, h⟩ := h
  refine at_get (index := 185) (v := .int (mI m t 19)) cok12 19 17 rfl (by decide +kernel) k1 (by decide +kernel) tw_1104 rfl ?_
  refine at_icmp_ge (off := 54) 71 20 rfl (by decide +kernel) (by decide +kernel) (fun c2 => ?_) (fun c2 => ?_)
  · rw [if_pos c2] at h
    exact At.sub [0, 1, 4] rfl h
  · rw [if_neg c2] at h
    refine at_aload_n (i := 0) 0 21 rfl (by decide +kernel) rfl ?_
    refine at_get (index := 113) (v := va_rf (mR m t 37)) cok12 37 24 rfl (by decide +kernel) k1 (by decide +kernel) tw_1122 rfl ?_
    obtain ⟨b3, e4, h⟩ := h
    rw [e4]
    refine at_bipush (n := 12) (12 : Int32) 26 rfl (by decide +kernel) (by decide +kernel) ?_
    refine at_iload_n (i := 1) 1 27 rfl (by decide +kernel) rfl ?_
    refine at_imul 28 rfl (by decide +kernel) ?_
    refine at_iload (i := 5) 5 30 rfl (by decide +kernel) rfl ?_
    refine at_iadd 31 rfl (by decide +kernel) ?_
    obtain ⟨k5, h⟩ := h
    obtain ⟨v6, h⟩ := h
    refine at_iald 32 rfl (by decide +kernel) k5 v6 ?_
    refine at_i2l 33 rfl (by decide +kernel) ?_
    refine at_iload_n (i := 3) 3 34 rfl (by decide +kernel) rfl ?_
    refine at_i2l 35 rfl (by decide +kernel) ?_
    refine at_lmul 36 rfl (by decide +kernel) ?_
    refine at_iload_n (i := 2) 2 37 rfl (by decide +kernel) rfl ?_
    refine at_i2l 38 rfl (by decide +kernel) ?_
    obtain ⟨c7, h⟩ := h
    refine at_ldiv 39 rfl (by decide +kernel) c7 ?_
    refine at_l2i 40 rfl (by decide +kernel) ?_
    refine at_istore (i := 6) (lc' := [(0, va_rf (some t)), (1, .int (l1)), (2, .int (l2)), (3, .int (l3)), (4, .int (l4)), (5, .int (l5)), (6, .int (((((mI m b3 (((12 : Int32) * l1) + l5).toNatClampNeg).toInt64) * l3.toInt64) / l2.toInt64).toInt32))]) [1, 2, 3, 4, 5, 6, 0] 42 rfl (by decide +kernel) (by decide +kernel) rfl ?_
    refine at_aload_n (i := 0) 0 43 rfl (by decide +kernel) rfl ?_
    refine at_iload_n (i := 1) 1 44 rfl (by decide +kernel) rfl ?_
    refine at_iload (i := 5) 5 46 rfl (by decide +kernel) rfl ?_
    refine at_iload (i := 6) 6 48 rfl (by decide +kernel) rfl ?_
    refine at_aload_n (i := 0) 0 49 rfl (by decide +kernel) rfl ?_
    refine at_get (index := 98) (v := va_rf (mR m t 32)) cok12 32 52 rfl (by decide +kernel) k1 (by decide +kernel) tw_1117 rfl ?_
    obtain ⟨b8, e9, h⟩ := h
    rw [e9]
    refine at_iload_n (i := 1) 1 53 rfl (by decide +kernel) rfl ?_
    obtain ⟨k10, h⟩ := h
    obtain ⟨v11, h⟩ := h
    refine at_iald 54 rfl (by decide +kernel) k10 v11 ?_
    refine at_iconst (n := 2) (2 : Int32) 55 rfl (by decide +kernel) (by decide +kernel) ?_
    refine at_callV mb_RF_sells tw_1473 tw_53 cok12 k1 (index := 372) tw_1471 [.int (l1), .int (l5), .int (((((mI m b3 (((12 : Int32) * l1) + l5).toNatClampNeg).toInt64) * l3.toInt64) / l2.toInt64).toInt32), .int (mI m b8 l1.toNatClampNeg), .int ((2 : Int32))] [] rfl rfl (by decide) 58 rfl (by decide +kernel) (Call.toV (CV.monoE h (fun m12 h y13 => ?_)))
    have k14 : mK m12 t = 13 := y13.k k1 (by decide)
    have k15 : mK m12 b3 = 15 := y13.k k5 (by decide)
    have k16 : mK m12 b8 = 15 := y13.k k10 (by decide)
    have e17 : mR m12 t 37 = some b3 := y13.r k1 (by decide) rfl e4
    have e18 : mR m12 t 32 = some b8 := y13.r k1 (by decide) rfl e9
    refine at_iload (i := 4) 4 60 rfl (by decide +kernel) rfl ?_
    refine at_iload (i := 6) 6 62 rfl (by decide +kernel) rfl ?_
    refine at_isub 63 rfl (by decide +kernel) ?_
    refine at_istore (i := 4) (lc' := [(0, va_rf (some t)), (1, .int (l1)), (2, .int (l2)), (3, .int (l3)), (4, .int (l4 - (((((mI m b3 (((12 : Int32) * l1) + l5).toNatClampNeg).toInt64) * l3.toInt64) / l2.toInt64).toInt32))), (5, .int (l5))]) [1, 2, 3, 4, 0, 5] 65 rfl (by decide +kernel) (by decide +kernel) rfl ?_
    refine at_iinc (i := 5) (n := 1) (lc' := [(0, va_rf (some t)), (1, .int (l1)), (2, .int (l2)), (3, .int (l3)), (4, .int (l4 - (((((mI m b3 (((12 : Int32) * l1) + l5).toNatClampNeg).toInt64) * l3.toInt64) / l2.toInt64).toInt32))), (5, .int (l5 + (1 : Int32)))]) (l5 + (1 : Int32)) 5 [1, 2, 3, 4, 5, 0] 68 rfl (by decide +kernel) rfl (by rw [show Int32.ofInt 1 = (1 : Int32) from by decide +kernel]) (by decide +kernel) rfl ?_
    refine at_goto (off := (-57)) 11 (by decide +kernel) (by decide +kernel) ?_
    exact h
set_option maxRecDepth 20000 in
set_option maxHeartbeats 4000000 in
theorem en_RF_abroad (g : Gc) {lv : Nat} {t : Nat} {l1 : Int32} {l2 : Int32} {l3 : Int32} {m : Mm} {Q : Mm → Prop} (h : if (l3) = 0 then (Q m) else (At g M_RF_abroad (lv + 1) 11 [(0, va_rf (some t)), (1, .int (l1)), (2, .int (l2)), (3, .int (l3)), (4, .int (l3)), (5, .int ((0 : Int32)))] [] m (QV Q))) : CV g M_RF_abroad (lv + 1) [va_rf (some t), .int (l1), .int (l2), .int (l3)] m Q := by
  refine Call.of (by decide +kernel) (Nat.le_of_ble_eq_true rfl) ?_
  show At g M_RF_abroad (lv + 1) 0 [(0, va_rf (some t)), (1, .int (l1)), (2, .int (l2)), (3, .int (l3))] [] m (QV Q)
  refine at_iload_n (i := 3) 3 1 rfl (by decide +kernel) rfl ?_
  refine at_if_ne (off := 4) 5 4 rfl (by decide +kernel) (by decide +kernel) (fun c1 => ?_) (fun c1 => ?_)
  · rw [if_neg c1] at h
    refine at_iload_n (i := 3) 3 6 rfl (by decide +kernel) rfl ?_
    refine at_istore (i := 4) (lc' := [(0, va_rf (some t)), (1, .int (l1)), (2, .int (l2)), (3, .int (l3)), (4, .int (l3))]) [1, 2, 3, 4, 0] 8 rfl (by decide +kernel) (by decide +kernel) rfl ?_
    refine at_iconst (n := 0) (0 : Int32) 9 rfl (by decide +kernel) (by decide +kernel) ?_
    refine at_istore (i := 5) (lc' := [(0, va_rf (some t)), (1, .int (l1)), (2, .int (l2)), (3, .int (l3)), (4, .int (l3)), (5, .int ((0 : Int32)))]) [1, 2, 3, 4, 5, 0] 11 rfl (by decide +kernel) (by decide +kernel) rfl ?_
    exact h
  · rw [if_pos c1] at h
    exact at_vret rfl (by decide +kernel) h
set_option maxRecDepth 20000 in
set_option maxHeartbeats 4000000 in
theorem bk_RF_stills_7 (g : Gc) {lv : Nat} {t : Nat} {l1 : Int32} {l2 : Int32} {l3 : Int32} {m : Mm} {Q : Mm → Prop} (h : mK m t = 13 ∧ (if (mI m t 19) ≤ (l3) then (Q m) else (∃ b3, mR m t 37 = some b3 ∧ (mK m b3 = 15 ∧ (vp_in (((12 : Int32) * l1) + l3) (mN m b3) ∧ (∃ b7, mR m t 32 = some b7 ∧ (mK m b7 = 15 ∧ (vp_in l1 (mN m b7) ∧ (CV g M_RF_sells lv [va_rf (some t), .int (l1), .int (l3), .int (imn l2 (mI m b3 (((12 : Int32) * l1) + l3).toNatClampNeg)), .int ((mI m b7 l1.toNatClampNeg) / (4 : Int32)), .int ((4 : Int32))] m (fun m11 => (At g M_RF_stills (lv + 1) 7 [(0, va_rf (some t)), (1, .int (l1)), (2, .int (l2 - (imn l2 (mI m b3 (((12 : Int32) * l1) + l3).toNatClampNeg)))), (3, .int (l3 + (1 : Int32)))] [] m11 (QV Q)))))))))))) : At g M_RF_stills (lv + 1) 7 [(0, va_rf (some t)), (1, .int (l1)), (2, .int (l2)), (3, .int (l3))] [] m (QV Q) := by
  refine at_iload_n (i := 3) 3 8 rfl (by decide +kernel) rfl ?_
  refine at_aload_n (i := 0) 0 9 rfl (by decide +kernel) rfl ?_
  obtain ⟨k1, h⟩ := h
  refine at_get (index := 185) (v := .int (mI m t 19)) cok12 19 12 rfl (by decide +kernel) k1 (by decide +kernel) tw_1104 rfl ?_
  refine at_icmp_ge (off := 48) 60 15 rfl (by decide +kernel) (by decide +kernel) (fun c2 => ?_) (fun c2 => ?_)
  · rw [if_pos c2] at h
    exact at_vret rfl (by decide +kernel) h
  · rw [if_neg c2] at h
    refine at_iload_n (i := 2) 2 16 rfl (by decide +kernel) rfl ?_
    refine at_aload_n (i := 0) 0 17 rfl (by decide +kernel) rfl ?_
    refine at_get (index := 113) (v := va_rf (mR m t 37)) cok12 37 20 rfl (by decide +kernel) k1 (by decide +kernel) tw_1122 rfl ?_
    obtain ⟨b3, e4, h⟩ := h
    rw [e4]
    refine at_bipush (n := 12) (12 : Int32) 22 rfl (by decide +kernel) (by decide +kernel) ?_
    refine at_iload_n (i := 1) 1 23 rfl (by decide +kernel) rfl ?_
    refine at_imul 24 rfl (by decide +kernel) ?_
    refine at_iload_n (i := 3) 3 25 rfl (by decide +kernel) rfl ?_
    refine at_iadd 26 rfl (by decide +kernel) ?_
    obtain ⟨k5, h⟩ := h
    obtain ⟨v6, h⟩ := h
    refine at_iald 27 rfl (by decide +kernel) k5 v6 ?_
    refine at_imn (index := 305) 30 rfl (by decide +kernel) tw_1390 (by decide) ?_
    refine at_istore (i := 4) (lc' := [(0, va_rf (some t)), (1, .int (l1)), (2, .int (l2)), (3, .int (l3)), (4, .int (imn l2 (mI m b3 (((12 : Int32) * l1) + l3).toNatClampNeg)))]) [1, 2, 3, 4, 0] 32 rfl (by decide +kernel) (by decide +kernel) rfl ?_
    refine at_aload_n (i := 0) 0 33 rfl (by decide +kernel) rfl ?_
    refine at_iload_n (i := 1) 1 34 rfl (by decide +kernel) rfl ?_
    refine at_iload_n (i := 3) 3 35 rfl (by decide +kernel) rfl ?_
    refine at_iload (i := 4) 4 37 rfl (by decide +kernel) rfl ?_
    refine at_aload_n (i := 0) 0 38 rfl (by decide +kernel) rfl ?_
    refine at_get (index := 98) (v := va_rf (mR m t 32)) cok12 32 41 rfl (by decide +kernel) k1 (by decide +kernel) tw_1117 rfl ?_
    obtain ⟨b7, e8, h⟩ := h
    rw [e8]
    refine at_iload_n (i := 1) 1 42 rfl (by decide +kernel) rfl ?_
    obtain ⟨k9, h⟩ := h
    obtain ⟨v10, h⟩ := h
    refine at_iald 43 rfl (by decide +kernel) k9 v10 ?_
    refine at_iconst (n := 4) (4 : Int32) 44 rfl (by decide +kernel) (by decide +kernel) ?_
    refine at_idiv 45 rfl (by decide +kernel) (by decide +kernel) ?_
    refine at_iconst (n := 4) (4 : Int32) 46 rfl (by decide +kernel) (by decide +kernel) ?_
    refine at_callV mb_RF_sells tw_1473 tw_53 cok12 k1 (index := 372) tw_1471 [.int (l1), .int (l3), .int (imn l2 (mI m b3 (((12 : Int32) * l1) + l3).toNatClampNeg)), .int ((mI m b7 l1.toNatClampNeg) / (4 : Int32)), .int ((4 : Int32))] [] rfl rfl (by decide) 49 rfl (by decide +kernel) (Call.toV (CV.monoE h (fun m11 h y12 => ?_)))
    have k13 : mK m11 t = 13 := y12.k k1 (by decide)
    have k14 : mK m11 b3 = 15 := y12.k k5 (by decide)
    have k15 : mK m11 b7 = 15 := y12.k k9 (by decide)
    have e16 : mR m11 t 37 = some b3 := y12.r k1 (by decide) rfl e4
    have e17 : mR m11 t 32 = some b7 := y12.r k1 (by decide) rfl e8
    refine at_iload_n (i := 2) 2 50 rfl (by decide +kernel) rfl ?_
    refine at_iload (i := 4) 4 52 rfl (by decide +kernel) rfl ?_
    refine at_isub 53 rfl (by decide +kernel) ?_
    refine at_istore_n (i := 2) (lc' := [(0, va_rf (some t)), (1, .int (l1)), (2, .int (l2 - (imn l2 (mI m b3 (((12 : Int32) * l1) + l3).toNatClampNeg)))), (3, .int (l3))]) [1, 2, 0, 3] 54 rfl (by decide +kernel) (by decide +kernel) rfl ?_
    refine at_iinc (i := 3) (n := 1) (lc' := [(0, va_rf (some t)), (1, .int (l1)), (2, .int (l2 - (imn l2 (mI m b3 (((12 : Int32) * l1) + l3).toNatClampNeg)))), (3, .int (l3 + (1 : Int32)))]) (l3 + (1 : Int32)) 3 [1, 2, 3, 0] 57 rfl (by decide +kernel) rfl (by rw [show Int32.ofInt 1 = (1 : Int32) from by decide +kernel]) (by decide +kernel) rfl ?_
    refine at_goto (off := (-50)) 7 (by decide +kernel) (by decide +kernel) ?_
    exact h
set_option maxRecDepth 20000 in
set_option maxHeartbeats 4000000 in
theorem en_RF_stills (g : Gc) {lv : Nat} {t : Nat} {l1 : Int32} {m : Mm} {Q : Mm → Prop} (h : mK m t = 13 ∧ (At g M_RF_stills (lv + 1) 7 [(0, va_rf (some t)), (1, .int (l1)), (2, .int (mI m t 8)), (3, .int ((0 : Int32)))] [] m (QV Q))) : CV g M_RF_stills (lv + 1) [va_rf (some t), .int (l1)] m Q := by
  refine Call.of (by decide +kernel) (Nat.le_of_ble_eq_true rfl) ?_
  show At g M_RF_stills (lv + 1) 0 [(0, va_rf (some t)), (1, .int (l1))] [] m (QV Q)
  refine at_aload_n (i := 0) 0 1 rfl (by decide +kernel) rfl ?_
  obtain ⟨k1, h⟩ := h
  refine at_get (index := 33) (v := .int (mI m t 8)) cok12 8 4 rfl (by decide +kernel) k1 (by decide +kernel) tw_1093 rfl ?_
  refine at_istore_n (i := 2) (lc' := [(0, va_rf (some t)), (1, .int (l1)), (2, .int (mI m t 8))]) [1, 2, 0] 5 rfl (by decide +kernel) (by decide +kernel) rfl ?_
  refine at_iconst (n := 0) (0 : Int32) 6 rfl (by decide +kernel) (by decide +kernel) ?_
  refine at_istore_n (i := 3) (lc' := [(0, va_rf (some t)), (1, .int (l1)), (2, .int (mI m t 8)), (3, .int ((0 : Int32)))]) [1, 2, 3, 0] 7 rfl (by decide +kernel) (by decide +kernel) rfl ?_
  exact h
set_option maxRecDepth 20000 in
set_option maxHeartbeats 4000000 in
theorem bk_RF_grows_2 (g : Gc) {lv : Nat} {t : Nat} {l1 : Int32} {l2 : Int32} {m : Mm} {Q : Mm → Prop} (h : mK m t = 13 ∧ (if (mI m t 19) ≤ (l2) then (Q m) else (∃ b3, mR m t 35 = some b3 ∧ (mK m b3 = 15 ∧ (vp_in (((12 : Int32) * l1) + l2) (mN m b3) ∧ (∃ b7, mR m t 36 = some b7 ∧ (mK m b7 = 15 ∧ (vp_in (((3 : Int32) * (((12 : Int32) * l1) + l2)) + (2 : Int32)) (mN m b7) ∧ (vp_in (((12 : Int32) * l1) + l2) (mN m b3) ∧ (∀ m12, m12 = sI m b3 (((12 : Int32) * l1) + l2).toNatClampNeg ((mI m b3 (((12 : Int32) * l1) + l2).toNatClampNeg) + (mI m b7 (((3 : Int32) * (((12 : Int32) * l1) + l2)) + (2 : Int32)).toNatClampNeg)) → (vp_in (((3 : Int32) * (((12 : Int32) * l1) + l2)) + (1 : Int32)) (mN m12 b7) ∧ (vp_in (((3 : Int32) * (((12 : Int32) * l1) + l2)) + (2 : Int32)) (mN m12 b7) ∧ (∀ m22, m22 = sI m12 b7 (((3 : Int32) * (((12 : Int32) * l1) + l2)) + (2 : Int32)).toNatClampNeg (mI m12 b7 (((3 : Int32) * (((12 : Int32) * l1) + l2)) + (1 : Int32)).toNatClampNeg) → (vp_in ((3 : Int32) * (((12 : Int32) * l1) + l2)) (mN m22 b7) ∧ (vp_in (((3 : Int32) * (((12 : Int32) * l1) + l2)) + (1 : Int32)) (mN m22 b7) ∧ (∀ m32, m32 = sI m22 b7 (((3 : Int32) * (((12 : Int32) * l1) + l2)) + (1 : Int32)).toNatClampNeg (mI m22 b7 ((3 : Int32) * (((12 : Int32) * l1) + l2)).toNatClampNeg) → (vp_in ((3 : Int32) * (((12 : Int32) * l1) + l2)) (mN m32 b7) ∧ (∀ m41, m41 = sI m32 b7 ((3 : Int32) * (((12 : Int32) * l1) + l2)).toNatClampNeg (0 : Int32) → (∃ b49, mR m41 t 32 = some b49 ∧ (mK m41 b49 = 15 ∧ (vp_in l1 (mN m41 b49) ∧ (if (mI m41 b49 l1.toNatClampNeg) < (mI m41 t 9) then (At g M_RF_grows (lv + 1) 2 [(0, va_rf (some t)), (1, .int (l1)), (2, .int (l2 + (1 : Int32)))] [] m41 (QV Q)) else (∃ b54, mR m41 t 39 = some b54 ∧ (mK m41 b54 = 16 ∧ (vp_in (((15 : Int32) * l1) + l2) (mN m41 b54) ∧ (if ((0 : Int64)) ≤ (mL m41 b54 (((15 : Int32) * l1) + l2).toNatClampNeg) then (vp_in (((12 : Int32) * l1) + l2) (mN m41 b3) ∧ (vp_in (((3 : Int32) * (((12 : Int32) * l1) + l2)) + (1 : Int32)) (mN m41 b7) ∧ (vp_in (((3 : Int32) * (((12 : Int32) * l1) + l2)) + (2 : Int32)) (mN m41 b7) ∧ (vp_in (((12 : Int32) * l1) + l2) (mN m41 b3) ∧ (vp_in ((3 : Int32) * (((12 : Int32) * l1) + l2)) (mN m41 b7) ∧ (∀ m64, m64 = sI m41 b7 ((3 : Int32) * (((12 : Int32) * l1) + l2)).toNatClampNeg (imx (0 : Int32) (imn ((((5000 : Int32) - (mI m41 b3 (((12 : Int32) * l1) + l2).toNatClampNeg)) - (mI m41 b7 (((3 : Int32) * (((12 : Int32) * l1) + l2)) + (1 : Int32)).toNatClampNeg)) - (mI m41 b7 (((3 : Int32) * (((12 : Int32) * l1) + l2)) + (2 : Int32)).toNatClampNeg)) (((mI m41 b3 (((12 : Int32) * l1) + l2).toNatClampNeg) * (mI m41 t 10)) / (100 : Int32)))) → (At g M_RF_grows (lv + 1) 2 [(0, va_rf (some t)), (1, .int (l1)), (2, .int (l2 + (1 : Int32)))] [] m64 (QV Q)))))))) else (At g M_RF_grows (lv + 1) 2 [(0, va_rf (some t)), (1, .int (l1)), (2, .int (l2 + (1 : Int32)))] [] m41 (QV Q)))))))))))))))))))))))))))) : At g M_RF_grows (lv + 1) 2 [(0, va_rf (some t)), (1, .int (l1)), (2, .int (l2))] [] m (QV Q) := by
  refine at_iload_n (i := 2) 2 3 rfl (by decide +kernel) rfl ?_
  refine at_aload_n (i := 0) 0 4 rfl (by decide +kernel) rfl ?_
  obtain ⟨k1, h⟩ := h
  refine at_get (index := 185) (v := .int (mI m t 19)) cok12 19 7 rfl (by decide +kernel) k1 (by decide +kernel) tw_1104 rfl ?_
  refine at_icmp_ge (off := 179) 186 10 rfl (by decide +kernel) (by decide +kernel) (fun c2 => ?_) (fun c2 => ?_)
  · rw [if_pos c2] at h
    exact at_vret rfl (by decide +kernel) h
  · rw [if_neg c2] at h
    refine at_bipush (n := 12) (12 : Int32) 12 rfl (by decide +kernel) (by decide +kernel) ?_
    refine at_iload_n (i := 1) 1 13 rfl (by decide +kernel) rfl ?_
    refine at_imul 14 rfl (by decide +kernel) ?_
    refine at_iload_n (i := 2) 2 15 rfl (by decide +kernel) rfl ?_
    refine at_iadd 16 rfl (by decide +kernel) ?_
    refine at_istore_n (i := 3) (lc' := [(0, va_rf (some t)), (1, .int (l1)), (2, .int (l2)), (3, .int (((12 : Int32) * l1) + l2))]) [1, 2, 3, 0] 17 rfl (by decide +kernel) (by decide +kernel) rfl ?_
    refine at_aload_n (i := 0) 0 18 rfl (by decide +kernel) rfl ?_
    refine at_get (index := 107) (v := va_rf (mR m t 35)) cok12 35 21 rfl (by decide +kernel) k1 (by decide +kernel) tw_1120 rfl ?_
    obtain ⟨b3, e4, h⟩ := h
    rw [e4]
    refine at_iload_n (i := 3) 3 22 rfl (by decide +kernel) rfl ?_
    refine at_dup2_11 23 rfl (by decide +kernel) rfl (va_rf_cat _) ?_
    obtain ⟨k5, h⟩ := h
    obtain ⟨v6, h⟩ := h
    refine at_iald 24 rfl (by decide +kernel) k5 v6 ?_
    refine at_aload_n (i := 0) 0 25 rfl (by decide +kernel) rfl ?_
    refine at_get (index := 110) (v := va_rf (mR m t 36)) cok12 36 28 rfl (by decide +kernel) k1 (by decide +kernel) tw_1121 rfl ?_
    obtain ⟨b7, e8, h⟩ := h
    rw [e8]
    refine at_iconst (n := 3) (3 : Int32) 29 rfl (by decide +kernel) (by decide +kernel) ?_
    refine at_iload_n (i := 3) 3 30 rfl (by decide +kernel) rfl ?_
    refine at_imul 31 rfl (by decide +kernel) ?_
    refine at_iconst (n := 2) (2 : Int32) 32 rfl (by decide +kernel) (by decide +kernel) ?_
    refine at_iadd 33 rfl (by decide +kernel) ?_
    obtain ⟨k9, h⟩ := h
    obtain ⟨v10, h⟩ := h
    refine at_iald 34 rfl (by decide +kernel) k9 v10 ?_
    refine at_iadd 35 rfl (by decide +kernel) ?_
    obtain ⟨v11, h⟩ := h
    refine at_iast 36 rfl (by decide +kernel) k5 v11 (fun m12 e13 => ?_)
    replace h := h m12 e13
    have x14 : Ext m m12 := by rw [e13]; exact Ext.sI _ _ _ _
    have k15 : mK m12 t = 13 := x14.k k1 (by decide)
    have k16 : mK m12 b3 = 15 := x14.k k5 (by decide)
    have k17 : mK m12 b7 = 15 := x14.k k9 (by decide)
    have e18 : mR m12 t 35 = some b3 := x14.r k1 (by decide) rfl e4
    have e19 : mR m12 t 36 = some b7 := x14.r k1 (by decide) rfl e8
    refine at_aload_n (i := 0) 0 37 rfl (by decide +kernel) rfl ?_
    refine at_get (index := 110) (v := va_rf (mR m12 t 36)) cok12 36 40 rfl (by decide +kernel) k15 (by decide +kernel) tw_1121 rfl ?_
    rw [e19]
    refine at_iconst (n := 3) (3 : Int32) 41 rfl (by decide +kernel) (by decide +kernel) ?_
    refine at_iload_n (i := 3) 3 42 rfl (by decide +kernel) rfl ?_
    refine at_imul 43 rfl (by decide +kernel) ?_
    refine at_iconst (n := 2) (2 : Int32) 44 rfl (by decide +kernel) (by decide +kernel) ?_
    refine at_iadd 45 rfl (by decide +kernel) ?_
    refine at_aload_n (i := 0) 0 46 rfl (by decide +kernel) rfl ?_
    refine at_get (index := 110) (v := va_rf (mR m12 t 36)) cok12 36 49 rfl (by decide +kernel) k15 (by decide +kernel) tw_1121 rfl ?_
    rw [e19]
    refine at_iconst (n := 3) (3 : Int32) 50 rfl (by decide +kernel) (by decide +kernel) ?_
    refine at_iload_n (i := 3) 3 51 rfl (by decide +kernel) rfl ?_
    refine at_imul 52 rfl (by decide +kernel) ?_
    refine at_iconst (n := 1) (1 : Int32) 53 rfl (by decide +kernel) (by decide +kernel) ?_
    refine at_iadd 54 rfl (by decide +kernel) ?_
    obtain ⟨v20, h⟩ := h
    refine at_iald 55 rfl (by decide +kernel) k17 v20 ?_
    obtain ⟨v21, h⟩ := h
    refine at_iast 56 rfl (by decide +kernel) k17 v21 (fun m22 e23 => ?_)
    replace h := h m22 e23
    have x24 : Ext m12 m22 := by rw [e23]; exact Ext.sI _ _ _ _
    have k25 : mK m22 t = 13 := x24.k k15 (by decide)
    have k26 : mK m22 b3 = 15 := x24.k k16 (by decide)
    have k27 : mK m22 b7 = 15 := x24.k k17 (by decide)
    have e28 : mR m22 t 35 = some b3 := x24.r k15 (by decide) rfl e18
    have e29 : mR m22 t 36 = some b7 := x24.r k15 (by decide) rfl e19
    refine at_aload_n (i := 0) 0 57 rfl (by decide +kernel) rfl ?_
    refine at_get (index := 110) (v := va_rf (mR m22 t 36)) cok12 36 60 rfl (by decide +kernel) k25 (by decide +kernel) tw_1121 rfl ?_
    rw [e29]
    refine at_iconst (n := 3) (3 : Int32) 61 rfl (by decide +kernel) (by decide +kernel) ?_
    refine at_iload_n (i := 3) 3 62 rfl (by decide +kernel) rfl ?_
    refine at_imul 63 rfl (by decide +kernel) ?_
    refine at_iconst (n := 1) (1 : Int32) 64 rfl (by decide +kernel) (by decide +kernel) ?_
    refine at_iadd 65 rfl (by decide +kernel) ?_
    refine at_aload_n (i := 0) 0 66 rfl (by decide +kernel) rfl ?_
    refine at_get (index := 110) (v := va_rf (mR m22 t 36)) cok12 36 69 rfl (by decide +kernel) k25 (by decide +kernel) tw_1121 rfl ?_
    rw [e29]
    refine at_iconst (n := 3) (3 : Int32) 70 rfl (by decide +kernel) (by decide +kernel) ?_
    refine at_iload_n (i := 3) 3 71 rfl (by decide +kernel) rfl ?_
    refine at_imul 72 rfl (by decide +kernel) ?_
    obtain ⟨v30, h⟩ := h
    refine at_iald 73 rfl (by decide +kernel) k27 v30 ?_
    obtain ⟨v31, h⟩ := h
    refine at_iast 74 rfl (by decide +kernel) k27 v31 (fun m32 e33 => ?_)
    replace h := h m32 e33
    have x34 : Ext m22 m32 := by rw [e33]; exact Ext.sI _ _ _ _
    have k35 : mK m32 t = 13 := x34.k k25 (by decide)
    have k36 : mK m32 b3 = 15 := x34.k k26 (by decide)
    have k37 : mK m32 b7 = 15 := x34.k k27 (by decide)
    have e38 : mR m32 t 35 = some b3 := x34.r k25 (by decide) rfl e28
    have e39 : mR m32 t 36 = some b7 := x34.r k25 (by decide) rfl e29
    refine at_aload_n (i := 0) 0 75 rfl (by decide +kernel) rfl ?_
    refine at_get (index := 110) (v := va_rf (mR m32 t 36)) cok12 36 78 rfl (by decide +kernel) k35 (by decide +kernel) tw_1121 rfl ?_
    rw [e39]
    refine at_iconst (n := 3) (3 : Int32) 79 rfl (by decide +kernel) (by decide +kernel) ?_
    refine at_iload_n (i := 3) 3 80 rfl (by decide +kernel) rfl ?_
    refine at_imul 81 rfl (by decide +kernel) ?_
    refine at_iconst (n := 0) (0 : Int32) 82 rfl (by decide +kernel) (by decide +kernel) ?_
    obtain ⟨v40, h⟩ := h
    refine at_iast 83 rfl (by decide +kernel) k37 v40 (fun m41 e42 => ?_)
    replace h := h m41 e42
    have x43 : Ext m32 m41 := by rw [e42]; exact Ext.sI _ _ _ _
    have k44 : mK m41 t = 13 := x43.k k35 (by decide)
    have k45 : mK m41 b3 = 15 := x43.k k36 (by decide)
    have k46 : mK m41 b7 = 15 := x43.k k37 (by decide)
    have e47 : mR m41 t 35 = some b3 := x43.r k35 (by decide) rfl e38
    have e48 : mR m41 t 36 = some b7 := x43.r k35 (by decide) rfl e39
    refine at_aload_n (i := 0) 0 84 rfl (by decide +kernel) rfl ?_
    refine at_get (index := 98) (v := va_rf (mR m41 t 32)) cok12 32 87 rfl (by decide +kernel) k44 (by decide +kernel) tw_1117 rfl ?_
    obtain ⟨b49, e50, h⟩ := h
    rw [e50]
    refine at_iload_n (i := 1) 1 88 rfl (by decide +kernel) rfl ?_
    obtain ⟨k51, h⟩ := h
    obtain ⟨v52, h⟩ := h
    refine at_iald 89 rfl (by decide +kernel) k51 v52 ?_
    refine at_aload_n (i := 0) 0 90 rfl (by decide +kernel) rfl ?_
    refine at_get (index := 36) (v := .int (mI m41 t 9)) cok12 9 93 rfl (by decide +kernel) k44 (by decide +kernel) tw_1094 rfl ?_
    refine at_icmp_lt (off := 87) 180 96 rfl (by decide +kernel) (by decide +kernel) (fun c53 => ?_) (fun c53 => ?_)
    · rw [if_pos c53] at h
      refine at_iinc (i := 2) (n := 1) (lc' := [(0, va_rf (some t)), (1, .int (l1)), (2, .int (l2 + (1 : Int32)))]) (l2 + (1 : Int32)) 2 [1, 2, 0] 183 rfl (by decide +kernel) rfl (by rw [show Int32.ofInt 1 = (1 : Int32) from by decide +kernel]) (by decide +kernel) rfl ?_
      refine at_goto (off := (-181)) 2 (by decide +kernel) (by decide +kernel) ?_
      exact h
    · rw [if_neg c53] at h
      refine at_aload_n (i := 0) 0 97 rfl (by decide +kernel) rfl ?_
      refine at_get (index := 119) (v := va_rf (mR m41 t 39)) cok12 39 100 rfl (by decide +kernel) k44 (by decide +kernel) tw_1124 rfl ?_
      obtain ⟨b54, e55, h⟩ := h
      rw [e55]
      refine at_bipush (n := 15) (15 : Int32) 102 rfl (by decide +kernel) (by decide +kernel) ?_
      refine at_iload_n (i := 1) 1 103 rfl (by decide +kernel) rfl ?_
      refine at_imul 104 rfl (by decide +kernel) ?_
      refine at_iload_n (i := 2) 2 105 rfl (by decide +kernel) rfl ?_
      refine at_iadd 106 rfl (by decide +kernel) ?_
      obtain ⟨k56, h⟩ := h
      obtain ⟨v57, h⟩ := h
      refine at_lald 107 rfl (by decide +kernel) k56 v57 ?_
      refine at_lconst (n := 0) (0 : Int64) 108 rfl (by decide +kernel) (by decide +kernel) ?_
      refine at_lif_ge (off := 6) 109 115 112 rfl rfl (by decide +kernel) (by decide +kernel) (by decide +kernel) (fun c58 => ?_) (fun c58 => ?_)
      · rw [if_pos c58] at h
        refine at_sipush (n := 5000) (5000 : Int32) 118 rfl (by decide +kernel) (by decide +kernel) ?_
        refine at_aload_n (i := 0) 0 119 rfl (by decide +kernel) rfl ?_
        refine at_get (index := 107) (v := va_rf (mR m41 t 35)) cok12 35 122 rfl (by decide +kernel) k44 (by decide +kernel) tw_1120 rfl ?_
        rw [e47]
        refine at_iload_n (i := 3) 3 123 rfl (by decide +kernel) rfl ?_
        obtain ⟨v59, h⟩ := h
        refine at_iald 124 rfl (by decide +kernel) k45 v59 ?_
        refine at_isub 125 rfl (by decide +kernel) ?_
        refine at_aload_n (i := 0) 0 126 rfl (by decide +kernel) rfl ?_
        refine at_get (index := 110) (v := va_rf (mR m41 t 36)) cok12 36 129 rfl (by decide +kernel) k44 (by decide +kernel) tw_1121 rfl ?_
        rw [e48]
        refine at_iconst (n := 3) (3 : Int32) 130 rfl (by decide +kernel) (by decide +kernel) ?_
        refine at_iload_n (i := 3) 3 131 rfl (by decide +kernel) rfl ?_
        refine at_imul 132 rfl (by decide +kernel) ?_
        refine at_iconst (n := 1) (1 : Int32) 133 rfl (by decide +kernel) (by decide +kernel) ?_
        refine at_iadd 134 rfl (by decide +kernel) ?_
        obtain ⟨v60, h⟩ := h
        refine at_iald 135 rfl (by decide +kernel) k46 v60 ?_
        refine at_isub 136 rfl (by decide +kernel) ?_
        refine at_aload_n (i := 0) 0 137 rfl (by decide +kernel) rfl ?_
        refine at_get (index := 110) (v := va_rf (mR m41 t 36)) cok12 36 140 rfl (by decide +kernel) k44 (by decide +kernel) tw_1121 rfl ?_
        rw [e48]
        refine at_iconst (n := 3) (3 : Int32) 141 rfl (by decide +kernel) (by decide +kernel) ?_
        refine at_iload_n (i := 3) 3 142 rfl (by decide +kernel) rfl ?_
        refine at_imul 143 rfl (by decide +kernel) ?_
        refine at_iconst (n := 2) (2 : Int32) 144 rfl (by decide +kernel) (by decide +kernel) ?_
        refine at_iadd 145 rfl (by decide +kernel) ?_
        obtain ⟨v61, h⟩ := h
        refine at_iald 146 rfl (by decide +kernel) k46 v61 ?_
        refine at_isub 147 rfl (by decide +kernel) ?_
        refine at_istore (i := 4) (lc' := [(0, va_rf (some t)), (1, .int (l1)), (2, .int (l2)), (3, .int (((12 : Int32) * l1) + l2)), (4, .int ((((5000 : Int32) - (mI m41 b3 (((12 : Int32) * l1) + l2).toNatClampNeg)) - (mI m41 b7 (((3 : Int32) * (((12 : Int32) * l1) + l2)) + (1 : Int32)).toNatClampNeg)) - (mI m41 b7 (((3 : Int32) * (((12 : Int32) * l1) + l2)) + (2 : Int32)).toNatClampNeg)))]) [1, 2, 3, 4, 0] 149 rfl (by decide +kernel) (by decide +kernel) rfl ?_
        refine at_aload_n (i := 0) 0 150 rfl (by decide +kernel) rfl ?_
        refine at_get (index := 110) (v := va_rf (mR m41 t 36)) cok12 36 153 rfl (by decide +kernel) k44 (by decide +kernel) tw_1121 rfl ?_
        rw [e48]
        refine at_iconst (n := 3) (3 : Int32) 154 rfl (by decide +kernel) (by decide +kernel) ?_
        refine at_iload_n (i := 3) 3 155 rfl (by decide +kernel) rfl ?_
        refine at_imul 156 rfl (by decide +kernel) ?_
        refine at_iconst (n := 0) (0 : Int32) 157 rfl (by decide +kernel) (by decide +kernel) ?_
        refine at_iload (i := 4) 4 159 rfl (by decide +kernel) rfl ?_
        refine at_aload_n (i := 0) 0 160 rfl (by decide +kernel) rfl ?_
        refine at_get (index := 107) (v := va_rf (mR m41 t 35)) cok12 35 163 rfl (by decide +kernel) k44 (by decide +kernel) tw_1120 rfl ?_
        rw [e47]
        refine at_iload_n (i := 3) 3 164 rfl (by decide +kernel) rfl ?_
        obtain ⟨v62, h⟩ := h
        refine at_iald 165 rfl (by decide +kernel) k45 v62 ?_
        refine at_aload_n (i := 0) 0 166 rfl (by decide +kernel) rfl ?_
        refine at_get (index := 39) (v := .int (mI m41 t 10)) cok12 10 169 rfl (by decide +kernel) k44 (by decide +kernel) tw_1095 rfl ?_
        refine at_imul 170 rfl (by decide +kernel) ?_
        refine at_bipush (n := 100) (100 : Int32) 172 rfl (by decide +kernel) (by decide +kernel) ?_
        refine at_idiv 173 rfl (by decide +kernel) (by decide +kernel) ?_
        refine at_imn (index := 305) 176 rfl (by decide +kernel) tw_1390 (by simp [va_rf_cat, cat_int, cat_long]) ?_
        refine at_imx (index := 297) 179 rfl (by decide +kernel) tw_1389 (by simp [va_rf_cat, cat_int, cat_long]) ?_
        obtain ⟨v63, h⟩ := h
        refine at_iast 180 rfl (by decide +kernel) k46 v63 (fun m64 e65 => ?_)
        replace h := h m64 e65
        have x66 : Ext m41 m64 := by rw [e65]; exact Ext.sI _ _ _ _
        have k67 : mK m64 t = 13 := x66.k k44 (by decide)
        have k68 : mK m64 b3 = 15 := x66.k k45 (by decide)
        have k69 : mK m64 b7 = 15 := x66.k k46 (by decide)
        have k70 : mK m64 b49 = 15 := x66.k k51 (by decide)
        have k71 : mK m64 b54 = 16 := x66.k k56 (by decide)
        have e72 : mR m64 t 35 = some b3 := x66.r k44 (by decide) rfl e47
        have e73 : mR m64 t 36 = some b7 := x66.r k44 (by decide) rfl e48
        have e74 : mR m64 t 32 = some b49 := x66.r k44 (by decide) rfl e50
        have e75 : mR m64 t 39 = some b54 := x66.r k44 (by decide) rfl e55
        refine at_iinc (i := 2) (n := 1) (lc' := [(0, va_rf (some t)), (1, .int (l1)), (2, .int (l2 + (1 : Int32)))]) (l2 + (1 : Int32)) 2 [1, 2, 0] 183 rfl (by decide +kernel) rfl (by rw [show Int32.ofInt 1 = (1 : Int32) from by decide +kernel]) (by decide +kernel) rfl ?_
        refine at_goto (off := (-181)) 2 (by decide +kernel) (by decide +kernel) ?_
        exact h
      · rw [if_neg c58] at h
        refine at_goto (off := 68) 180 (by decide +kernel) (by decide +kernel) ?_
        refine at_iinc (i := 2) (n := 1) (lc' := [(0, va_rf (some t)), (1, .int (l1)), (2, .int (l2 + (1 : Int32)))]) (l2 + (1 : Int32)) 2 [1, 2, 0] 183 rfl (by decide +kernel) rfl (by rw [show Int32.ofInt 1 = (1 : Int32) from by decide +kernel]) (by decide +kernel) rfl ?_
        refine at_goto (off := (-181)) 2 (by decide +kernel) (by decide +kernel) ?_
        exact h
set_option maxRecDepth 20000 in
set_option maxHeartbeats 4000000 in
theorem en_RF_grows (g : Gc) {lv : Nat} {t : Nat} {l1 : Int32} {m : Mm} {Q : Mm → Prop} (h : At g M_RF_grows (lv + 1) 2 [(0, va_rf (some t)), (1, .int (l1)), (2, .int ((0 : Int32)))] [] m (QV Q)) : CV g M_RF_grows (lv + 1) [va_rf (some t), .int (l1)] m Q := by
  refine Call.of (by decide +kernel) (Nat.le_of_ble_eq_true rfl) ?_
  show At g M_RF_grows (lv + 1) 0 [(0, va_rf (some t)), (1, .int (l1))] [] m (QV Q)
  refine at_iconst (n := 0) (0 : Int32) 1 rfl (by decide +kernel) (by decide +kernel) ?_
  refine at_istore_n (i := 2) (lc' := [(0, va_rf (some t)), (1, .int (l1)), (2, .int ((0 : Int32)))]) [1, 2, 0] 2 rfl (by decide +kernel) (by decide +kernel) rfl ?_
  exact h
set_option maxRecDepth 20000 in
set_option maxHeartbeats 4000000 in
theorem bk_RF_go_189 (g : Gc) {lv : Nat} {t : Nat} {l2 : Int32} {l3 : Int32} {m : Mm} {Q : Int32 → Mm → Prop} (h : mK m t = 13 ∧ (∃ b2, mR m t 33 = some b2 ∧ (mK m b2 = 15 ∧ (vp_in (0 : Int32) (mN m b2) ∧ (if (mI m b2 (0 : Int32).toNatClampNeg) ≤ (l3) then (∃ b7, mR m t 31 = some b7 ∧ (mK m b7 = 15 ∧ (vp_in (0 : Int32) (mN m b7) ∧ (vp_in (0 : Int32) (mN m b7) ∧ (∀ m12, m12 = sI m b7 (0 : Int32).toNatClampNeg ((mI m b7 (0 : Int32).toNatClampNeg) + (1 : Int32)) → (vp_in (0 : Int32) (mN m12 b7) ∧ (Q (mI m12 b7 (0 : Int32).toNatClampNeg) m12))))))) else (CV g M_RF_dues lv [va_rf (some t), .int (l3), .int (l2)] m (fun m21 => (At g M_RF_go (lv + 1) 189 [(0, va_rf (some t)), (2, .int (l2)), (3, .int (l3 + (1 : Int32)))] [] m21 (QI Q))))))))) : At g M_RF_go (lv + 1) 189 [(0, va_rf (some t)), (2, .int (l2)), (3, .int (l3))] [] m (QI Q) := by
  refine at_iload_n (i := 3) 2 190 rfl (by decide +kernel) rfl ?_
  refine at_aload_n (i := 0) 0 191 rfl (by decide +kernel) rfl ?_
  obtain ⟨k1, h⟩ := h
  refine at_get (index := 101) (v := va_rf (mR m t 33)) cok12 33 194 rfl (by decide +kernel) k1 (by decide +kernel) tw_1118 rfl ?_
  obtain ⟨b2, e3, h⟩ := h
  rw [e3]
  refine at_iconst (n := 0) (0 : Int32) 195 rfl (by decide +kernel) (by decide +kernel) ?_
  obtain ⟨k4, h⟩ := h
  obtain ⟨v5, h⟩ := h
  refine at_iald 196 rfl (by decide +kernel) k4 v5 ?_
  refine at_icmp_ge (off := 15) 211 199 rfl (by decide +kernel) (by decide +kernel) (fun c6 => ?_) (fun c6 => ?_)
  · rw [if_pos c6] at h
    refine at_aload_n (i := 0) 0 212 rfl (by decide +kernel) rfl ?_
    refine at_get (index := 95) (v := va_rf (mR m t 31)) cok12 31 215 rfl (by decide +kernel) k1 (by decide +kernel) tw_1116 rfl ?_
    obtain ⟨b7, e8, h⟩ := h
    rw [e8]
    refine at_iconst (n := 0) (0 : Int32) 216 rfl (by decide +kernel) (by decide +kernel) ?_
    refine at_dup2_11 217 rfl (by decide +kernel) rfl (va_rf_cat _) ?_
    obtain ⟨k9, h⟩ := h
    obtain ⟨v10, h⟩ := h
    refine at_iald 218 rfl (by decide +kernel) k9 v10 ?_
    refine at_iconst (n := 1) (1 : Int32) 219 rfl (by decide +kernel) (by decide +kernel) ?_
    refine at_iadd 220 rfl (by decide +kernel) ?_
    obtain ⟨v11, h⟩ := h
    refine at_iast 221 rfl (by decide +kernel) k9 v11 (fun m12 e13 => ?_)
    replace h := h m12 e13
    have x14 : Ext m m12 := by rw [e13]; exact Ext.sI _ _ _ _
    have k15 : mK m12 t = 13 := x14.k k1 (by decide)
    have k16 : mK m12 b2 = 15 := x14.k k4 (by decide)
    have k17 : mK m12 b7 = 15 := x14.k k9 (by decide)
    have e18 : mR m12 t 33 = some b2 := x14.r k1 (by decide) rfl e3
    have e19 : mR m12 t 31 = some b7 := x14.r k1 (by decide) rfl e8
    refine at_aload_n (i := 0) 0 222 rfl (by decide +kernel) rfl ?_
    refine at_get (index := 95) (v := va_rf (mR m12 t 31)) cok12 31 225 rfl (by decide +kernel) k15 (by decide +kernel) tw_1116 rfl ?_
    rw [e19]
    refine at_iconst (n := 0) (0 : Int32) 226 rfl (by decide +kernel) (by decide +kernel) ?_
    obtain ⟨v20, h⟩ := h
    refine at_iald 227 rfl (by decide +kernel) k17 v20 ?_
    exact at_iret rfl (by decide +kernel) h
  · rw [if_neg c6] at h
    refine at_aload_n (i := 0) 0 200 rfl (by decide +kernel) rfl ?_
    refine at_iload_n (i := 3) 2 201 rfl (by decide +kernel) rfl ?_
    refine at_iload_n (i := 2) 1 202 rfl (by decide +kernel) rfl ?_
    refine at_callV mb_RF_dues tw_1485 tw_56 cok12 k1 (index := 378) tw_1483 [.int (l3), .int (l2)] [] rfl rfl (by decide) 205 rfl (by decide +kernel) (Call.toV (CV.monoE h (fun m21 h y22 => ?_)))
    have k23 : mK m21 t = 13 := y22.k k1 (by decide)
    have k24 : mK m21 b2 = 15 := y22.k k4 (by decide)
    have e25 : mR m21 t 33 = some b2 := y22.r k1 (by decide) rfl e3
    refine at_iinc (i := 3) (n := 1) (lc' := [(0, va_rf (some t)), (2, .int (l2)), (3, .int (l3 + (1 : Int32)))]) (l3 + (1 : Int32)) 2 [1, 2, 0] 208 rfl (by decide +kernel) rfl (by rw [show Int32.ofInt 1 = (1 : Int32) from by decide +kernel]) (by decide +kernel) rfl ?_
    refine at_goto (off := (-19)) 189 (by decide +kernel) (by decide +kernel) ?_
    exact h
set_option maxRecDepth 20000 in
set_option maxHeartbeats 4000000 in
theorem bk_RF_go_93 (g : Gc) {lv : Nat} {t : Nat} {l1 : Int32} {l2 : Int32} {l3 : Int32} {s0 : Int32} {m : Mm} {Q : Int32 → Mm → Prop} (h : mK m t = 13 ∧ (∃ b2, mR m t 23 = some b2 ∧ (mK m b2 = 15 ∧ (vp_in (((12 : Int32) * l2) + l3) (mN m b2) ∧ (∀ m6, m6 = sI m b2 (((12 : Int32) * l2) + l3).toNatClampNeg s0 → (∃ b12, mR m6 t 24 = some b12 ∧ (mK m6 b12 = 15 ∧ (vp_in (((12 : Int32) * l2) + l3) (mN m6 b12) ∧ (∀ m16, m16 = sI m6 b12 (((12 : Int32) * l2) + l3).toNatClampNeg s0 → (∃ b24, mR m16 t 28 = some b24 ∧ (∃ b26, mR m16 t 22 = some b26 ∧ (mK m16 b26 = 15 ∧ (vp_in l3 (mN m16 b26) ∧ (if (mI m16 b26 l3.toNatClampNeg) = ((-1 : Int32)) then (mK m16 b24 = 17 ∧ (vp_in (((12 : Int32) * l2) + l3) (mN m16 b24) ∧ (∀ m33, m33 = sI m16 b24 (((12 : Int32) * l2) + l3).toNatClampNeg (0 : Int32) → (vp_in l3 (mN m33 b26) ∧ (∀ m46, m46 = sI m33 b26 l3.toNatClampNeg (-1 : Int32) → (At g M_RF_go (lv + 1) 58 [(0, va_rf (some t)), (1, .int (l1)), (2, .int (l2)), (3, .int (l3 + (1 : Int32)))] [] m46 (QI Q))))))) else (mK m16 b24 = 17 ∧ (vp_in (((12 : Int32) * l2) + l3) (mN m16 b24) ∧ (∀ m60, m60 = sI m16 b24 (((12 : Int32) * l2) + l3).toNatClampNeg (1 : Int32) → (vp_in l3 (mN m60 b26) ∧ (∀ m73, m73 = sI m60 b26 l3.toNatClampNeg (-1 : Int32) → (At g M_RF_go (lv + 1) 58 [(0, va_rf (some t)), (1, .int (l1)), (2, .int (l2)), (3, .int (l3 + (1 : Int32)))] [] m73 (QI Q))))))))))))))))))))) : At g M_RF_go (lv + 1) 93 [(0, va_rf (some t)), (1, .int (l1)), (2, .int (l2)), (3, .int (l3))] [.int (s0)] m (QI Q) := by
  refine at_istore (i := 4) (lc' := [(0, va_rf (some t)), (1, .int (l1)), (2, .int (l2)), (3, .int (l3)), (4, .int (s0))]) [1, 2, 3, 4, 0] 95 rfl (by decide +kernel) (by decide +kernel) rfl ?_
  refine at_aload_n (i := 0) 0 96 rfl (by decide +kernel) rfl ?_
  obtain ⟨k1, h⟩ := h
  refine at_get (index := 70) (v := va_rf (mR m t 23)) cok12 23 99 rfl (by decide +kernel) k1 (by decide +kernel) tw_1108 rfl ?_
  obtain ⟨b2, e3, h⟩ := h
  rw [e3]
  refine at_bipush (n := 12) (12 : Int32) 101 rfl (by decide +kernel) (by decide +kernel) ?_
  refine at_iload_n (i := 2) 2 102 rfl (by decide +kernel) rfl ?_
  refine at_imul 103 rfl (by decide +kernel) ?_
  refine at_iload_n (i := 3) 3 104 rfl (by decide +kernel) rfl ?_
  refine at_iadd 105 rfl (by decide +kernel) ?_
  refine at_iload (i := 4) 4 107 rfl (by decide +kernel) rfl ?_
  obtain ⟨k4, h⟩ := h
  obtain ⟨v5, h⟩ := h
  refine at_iast 108 rfl (by decide +kernel) k4 v5 (fun m6 e7 => ?_)
  replace h := h m6 e7
  have x8 : Ext m m6 := by rw [e7]; exact Ext.sI _ _ _ _
  have k9 : mK m6 t = 13 := x8.k k1 (by decide)
  have k10 : mK m6 b2 = 15 := x8.k k4 (by decide)
  have e11 : mR m6 t 23 = some b2 := x8.r k1 (by decide) rfl e3
  refine at_aload_n (i := 0) 0 109 rfl (by decide +kernel) rfl ?_
  refine at_get (index := 73) (v := va_rf (mR m6 t 24)) cok12 24 112 rfl (by decide +kernel) k9 (by decide +kernel) tw_1109 rfl ?_
  obtain ⟨b12, e13, h⟩ := h
  rw [e13]
  refine at_bipush (n := 12) (12 : Int32) 114 rfl (by decide +kernel) (by decide +kernel) ?_
  refine at_iload_n (i := 2) 2 115 rfl (by decide +kernel) rfl ?_
  refine at_imul 116 rfl (by decide +kernel) ?_
  refine at_iload_n (i := 3) 3 117 rfl (by decide +kernel) rfl ?_
  refine at_iadd 118 rfl (by decide +kernel) ?_
  refine at_iload (i := 4) 4 120 rfl (by decide +kernel) rfl ?_
  obtain ⟨k14, h⟩ := h
  obtain ⟨v15, h⟩ := h
  refine at_iast 121 rfl (by decide +kernel) k14 v15 (fun m16 e17 => ?_)
  replace h := h m16 e17
  have x18 : Ext m6 m16 := by rw [e17]; exact Ext.sI _ _ _ _
  have k19 : mK m16 t = 13 := x18.k k9 (by decide)
  have k20 : mK m16 b2 = 15 := x18.k k10 (by decide)
  have k21 : mK m16 b12 = 15 := x18.k k14 (by decide)
  have e22 : mR m16 t 23 = some b2 := x18.r k9 (by decide) rfl e11
  have e23 : mR m16 t 24 = some b12 := x18.r k9 (by decide) rfl e13
  refine at_aload_n (i := 0) 0 122 rfl (by decide +kernel) rfl ?_
  refine at_get (index := 86) (v := va_rf (mR m16 t 28)) cok12 28 125 rfl (by decide +kernel) k19 (by decide +kernel) tw_1113 rfl ?_
  obtain ⟨b24, e25, h⟩ := h
  rw [e25]
  refine at_bipush (n := 12) (12 : Int32) 127 rfl (by decide +kernel) (by decide +kernel) ?_
  refine at_iload_n (i := 2) 2 128 rfl (by decide +kernel) rfl ?_
  refine at_imul 129 rfl (by decide +kernel) ?_
  refine at_iload_n (i := 3) 3 130 rfl (by decide +kernel) rfl ?_
  refine at_iadd 131 rfl (by decide +kernel) ?_
  refine at_aload_n (i := 0) 0 132 rfl (by decide +kernel) rfl ?_
  refine at_get (index := 67) (v := va_rf (mR m16 t 22)) cok12 22 135 rfl (by decide +kernel) k19 (by decide +kernel) tw_1107 rfl ?_
  obtain ⟨b26, e27, h⟩ := h
  rw [e27]
  refine at_iload_n (i := 3) 3 136 rfl (by decide +kernel) rfl ?_
  obtain ⟨k28, h⟩ := h
  obtain ⟨v29, h⟩ := h
  refine at_iald 137 rfl (by decide +kernel) k28 v29 ?_
  refine at_iconst (n := (-1)) (-1 : Int32) 138 rfl (by decide +kernel) (by decide +kernel) ?_
  refine at_icmp_eq (off := 7) 145 141 rfl (by decide +kernel) (by decide +kernel) (fun c30 => ?_) (fun c30 => ?_)
  · rw [if_pos c30] at h
    refine at_iconst (n := 0) (0 : Int32) 146 rfl (by decide +kernel) (by decide +kernel) ?_
    obtain ⟨k31, h⟩ := h
    obtain ⟨v32, h⟩ := h
    refine at_zast 147 rfl (by decide +kernel) k31 v32 (Or.inl rfl) (fun m33 e34 => ?_)
    replace h := h m33 e34
    have x35 : Ext m16 m33 := by rw [e34]; exact Ext.sI _ _ _ _
    have k36 : mK m33 t = 13 := x35.k k19 (by decide)
    have k37 : mK m33 b2 = 15 := x35.k k20 (by decide)
    have k38 : mK m33 b12 = 15 := x35.k k21 (by decide)
    have k39 : mK m33 b26 = 15 := x35.k k28 (by decide)
    have k40 : mK m33 b24 = 17 := x35.k k31 (by decide)
    have e41 : mR m33 t 23 = some b2 := x35.r k19 (by decide) rfl e22
    have e42 : mR m33 t 24 = some b12 := x35.r k19 (by decide) rfl e23
    have e43 : mR m33 t 28 = some b24 := x35.r k19 (by decide) rfl e25
    have e44 : mR m33 t 22 = some b26 := x35.r k19 (by decide) rfl e27
    refine at_aload_n (i := 0) 0 148 rfl (by decide +kernel) rfl ?_
    refine at_get (index := 67) (v := va_rf (mR m33 t 22)) cok12 22 151 rfl (by decide +kernel) k36 (by decide +kernel) tw_1107 rfl ?_
    rw [e44]
    refine at_iload_n (i := 3) 3 152 rfl (by decide +kernel) rfl ?_
    refine at_iconst (n := (-1)) (-1 : Int32) 153 rfl (by decide +kernel) (by decide +kernel) ?_
    obtain ⟨v45, h⟩ := h
    refine at_iast 154 rfl (by decide +kernel) k39 v45 (fun m46 e47 => ?_)
    replace h := h m46 e47
    have x48 : Ext m33 m46 := by rw [e47]; exact Ext.sI _ _ _ _
    have k49 : mK m46 t = 13 := x48.k k36 (by decide)
    have k50 : mK m46 b2 = 15 := x48.k k37 (by decide)
    have k51 : mK m46 b12 = 15 := x48.k k38 (by decide)
    have k52 : mK m46 b26 = 15 := x48.k k39 (by decide)
    have k53 : mK m46 b24 = 17 := x48.k k40 (by decide)
    have e54 : mR m46 t 23 = some b2 := x48.r k36 (by decide) rfl e41
    have e55 : mR m46 t 24 = some b12 := x48.r k36 (by decide) rfl e42
    have e56 : mR m46 t 28 = some b24 := x48.r k36 (by decide) rfl e43
    have e57 : mR m46 t 22 = some b26 := x48.r k36 (by decide) rfl e44
    refine at_iinc (i := 3) (n := 1) (lc' := [(0, va_rf (some t)), (1, .int (l1)), (2, .int (l2)), (3, .int (l3 + (1 : Int32)))]) (l3 + (1 : Int32)) 3 [1, 2, 3, 0] 157 rfl (by decide +kernel) rfl (by rw [show Int32.ofInt 1 = (1 : Int32) from by decide +kernel]) (by decide +kernel) rfl ?_
    refine at_goto (off := (-99)) 58 (by decide +kernel) (by decide +kernel) ?_
    exact h
  · rw [if_neg c30] at h
    refine at_iconst (n := 1) (1 : Int32) 142 rfl (by decide +kernel) (by decide +kernel) ?_
    refine at_goto (off := 4) 146 (by decide +kernel) (by decide +kernel) ?_
    obtain ⟨k58, h⟩ := h
    obtain ⟨v59, h⟩ := h
    refine at_zast 147 rfl (by decide +kernel) k58 v59 (Or.inr rfl) (fun m60 e61 => ?_)
    replace h := h m60 e61
    have x62 : Ext m16 m60 := by rw [e61]; exact Ext.sI _ _ _ _
    have k63 : mK m60 t = 13 := x62.k k19 (by decide)
    have k64 : mK m60 b2 = 15 := x62.k k20 (by decide)
    have k65 : mK m60 b12 = 15 := x62.k k21 (by decide)
    have k66 : mK m60 b26 = 15 := x62.k k28 (by decide)
    have k67 : mK m60 b24 = 17 := x62.k k58 (by decide)
    have e68 : mR m60 t 23 = some b2 := x62.r k19 (by decide) rfl e22
    have e69 : mR m60 t 24 = some b12 := x62.r k19 (by decide) rfl e23
    have e70 : mR m60 t 28 = some b24 := x62.r k19 (by decide) rfl e25
    have e71 : mR m60 t 22 = some b26 := x62.r k19 (by decide) rfl e27
    refine at_aload_n (i := 0) 0 148 rfl (by decide +kernel) rfl ?_
    refine at_get (index := 67) (v := va_rf (mR m60 t 22)) cok12 22 151 rfl (by decide +kernel) k63 (by decide +kernel) tw_1107 rfl ?_
    rw [e71]
    refine at_iload_n (i := 3) 3 152 rfl (by decide +kernel) rfl ?_
    refine at_iconst (n := (-1)) (-1 : Int32) 153 rfl (by decide +kernel) (by decide +kernel) ?_
    obtain ⟨v72, h⟩ := h
    refine at_iast 154 rfl (by decide +kernel) k66 v72 (fun m73 e74 => ?_)
    replace h := h m73 e74
    have x75 : Ext m60 m73 := by rw [e74]; exact Ext.sI _ _ _ _
    have k76 : mK m73 t = 13 := x75.k k63 (by decide)
    have k77 : mK m73 b2 = 15 := x75.k k64 (by decide)
    have k78 : mK m73 b12 = 15 := x75.k k65 (by decide)
    have k79 : mK m73 b26 = 15 := x75.k k66 (by decide)
    have k80 : mK m73 b24 = 17 := x75.k k67 (by decide)
    have e81 : mR m73 t 23 = some b2 := x75.r k63 (by decide) rfl e68
    have e82 : mR m73 t 24 = some b12 := x75.r k63 (by decide) rfl e69
    have e83 : mR m73 t 28 = some b24 := x75.r k63 (by decide) rfl e70
    have e84 : mR m73 t 22 = some b26 := x75.r k63 (by decide) rfl e71
    refine at_iinc (i := 3) (n := 1) (lc' := [(0, va_rf (some t)), (1, .int (l1)), (2, .int (l2)), (3, .int (l3 + (1 : Int32)))]) (l3 + (1 : Int32)) 3 [1, 2, 3, 0] 157 rfl (by decide +kernel) rfl (by rw [show Int32.ofInt 1 = (1 : Int32) from by decide +kernel]) (by decide +kernel) rfl ?_
    refine at_goto (off := (-99)) 58 (by decide +kernel) (by decide +kernel) ?_
    exact h
set_option maxRecDepth 20000 in
set_option maxHeartbeats 4000000 in
theorem bk_RF_go_58 (g : Gc) {lv : Nat} {t : Nat} {l1 : Int32} {l2 : Int32} {l3 : Int32} {m : Mm} {Q : Int32 → Mm → Prop} (h : mK m t = 13 ∧ (if (mI m t 19) ≤ (l3) then (∃ b3, mR m t 25 = some b3 ∧ (mK m b3 = 15 ∧ (vp_in l2 (mN m b3) ∧ (∀ m7, m7 = sI m b3 l2.toNatClampNeg l1 → (∃ b13, mR m7 t 26 = some b13 ∧ (∃ b15, mR m7 t 23 = some b15 ∧ (CI g M_RF_passes lv [va_rf (some t), .int ((0 : Int32)), .int (l2), va_rf (some b15), .int ((12 : Int32) * l2)] m7 (fun x17 m18 => (mK m18 b13 = 15 ∧ (vp_in l2 (mN m18 b13) ∧ (∀ m27, m27 = sI m18 b13 l2.toNatClampNeg x17 → (At g M_RF_go (lv + 1) 189 [(0, va_rf (some t)), (2, .int (l2)), (3, .int ((0 : Int32)))] [] m27 (QI Q))))))))))))) else (∃ b36, mR m t 22 = some b36 ∧ (mK m b36 = 15 ∧ (vp_in l3 (mN m b36) ∧ (if (mI m b36 l3.toNatClampNeg) = ((-1 : Int32)) then (∃ b41, mR m t 35 = some b41 ∧ (mK m b41 = 15 ∧ (vp_in l3 (mN m b41) ∧ (At g M_RF_go (lv + 1) 93 [(0, va_rf (some t)), (1, .int (l1)), (2, .int (l2)), (3, .int (l3))] [.int ((mI m b41 l3.toNatClampNeg) * l1)] m (QI Q))))) else (vp_in l3 (mN m b36) ∧ (At g M_RF_go (lv + 1) 93 [(0, va_rf (some t)), (1, .int (l1)), (2, .int (l2)), (3, .int (l3))] [.int (mI m b36 l3.toNatClampNeg)] m (QI Q))))))))) : At g M_RF_go (lv + 1) 58 [(0, va_rf (some t)), (1, .int (l1)), (2, .int (l2)), (3, .int (l3))] [] m (QI Q) := by
  refine at_iload_n (i := 3) 3 59 rfl (by decide +kernel) rfl ?_
  refine at_aload_n (i := 0) 0 60 rfl (by decide +kernel) rfl ?_
  obtain ⟨k1, h⟩ := h
  refine at_get (index := 185) (v := .int (mI m t 19)) cok12 19 63 rfl (by decide +kernel) k1 (by decide +kernel) tw_1104 rfl ?_
  refine at_icmp_ge (off := 97) 160 66 rfl (by decide +kernel) (by decide +kernel) (fun c2 => ?_) (fun c2 => ?_)
  · rw [if_pos c2] at h
    refine at_aload_n (i := 0) 0 161 rfl (by decide +kernel) rfl ?_
    refine at_get (index := 76) (v := va_rf (mR m t 25)) cok12 25 164 rfl (by decide +kernel) k1 (by decide +kernel) tw_1110 rfl ?_
    obtain ⟨b3, e4, h⟩ := h
    rw [e4]
    refine at_iload_n (i := 2) 2 165 rfl (by decide +kernel) rfl ?_
    refine at_iload_n (i := 1) 1 166 rfl (by decide +kernel) rfl ?_
    obtain ⟨k5, h⟩ := h
    obtain ⟨v6, h⟩ := h
    refine at_iast 167 rfl (by decide +kernel) k5 v6 (fun m7 e8 => ?_)
    replace h := h m7 e8
    have x9 : Ext m m7 := by rw [e8]; exact Ext.sI _ _ _ _
    have k10 : mK m7 t = 13 := x9.k k1 (by decide)
    have k11 : mK m7 b3 = 15 := x9.k k5 (by decide)
    have e12 : mR m7 t 25 = some b3 := x9.r k1 (by decide) rfl e4
    refine at_aload_n (i := 0) 0 168 rfl (by decide +kernel) rfl ?_
    refine at_get (index := 79) (v := va_rf (mR m7 t 26)) cok12 26 171 rfl (by decide +kernel) k10 (by decide +kernel) tw_1111 rfl ?_
    obtain ⟨b13, e14, h⟩ := h
    rw [e14]
    refine at_iload_n (i := 2) 2 172 rfl (by decide +kernel) rfl ?_
    refine at_aload_n (i := 0) 0 173 rfl (by decide +kernel) rfl ?_
    refine at_iconst (n := 0) (0 : Int32) 174 rfl (by decide +kernel) (by decide +kernel) ?_
    refine at_iload_n (i := 2) 2 175 rfl (by decide +kernel) rfl ?_
    refine at_aload_n (i := 0) 0 176 rfl (by decide +kernel) rfl ?_
    refine at_get (index := 70) (v := va_rf (mR m7 t 23)) cok12 23 179 rfl (by decide +kernel) k10 (by decide +kernel) tw_1108 rfl ?_
    obtain ⟨b15, e16, h⟩ := h
    rw [e16]
    refine at_bipush (n := 12) (12 : Int32) 181 rfl (by decide +kernel) (by decide +kernel) ?_
    refine at_iload_n (i := 2) 2 182 rfl (by decide +kernel) rfl ?_
    refine at_imul 183 rfl (by decide +kernel) ?_
    refine at_callV mb_RF_passes tw_1443 tw_46 cok12 k10 (index := 374) tw_1441 [.int ((0 : Int32)), .int (l2), va_rf (some b15), .int ((12 : Int32) * l2)] [.int (l2), va_rf (some b13)] rfl rfl (by simp [va_rf_cat, cat_int, cat_long]) 186 rfl (by decide +kernel) (Call.toI (CI.monoE h (fun x17 m18 h y19 => ?_)))
    have k20 : mK m18 t = 13 := y19.k k10 (by decide)
    have k21 : mK m18 b3 = 15 := y19.k k11 (by decide)
    have e22 : mR m18 t 25 = some b3 := y19.r k10 (by decide) rfl e12
    have e23 : mR m18 t 26 = some b13 := y19.r k10 (by decide) rfl e14
    have e24 : mR m18 t 23 = some b15 := y19.r k10 (by decide) rfl e16
    obtain ⟨k25, h⟩ := h
    obtain ⟨v26, h⟩ := h
    refine at_iast 187 rfl (by decide +kernel) k25 v26 (fun m27 e28 => ?_)
    replace h := h m27 e28
    have x29 : Ext m18 m27 := by rw [e28]; exact Ext.sI _ _ _ _
    have k30 : mK m27 t = 13 := x29.k k20 (by decide)
    have k31 : mK m27 b3 = 15 := x29.k k21 (by decide)
    have k32 : mK m27 b13 = 15 := x29.k k25 (by decide)
    have e33 : mR m27 t 25 = some b3 := x29.r k20 (by decide) rfl e22
    have e34 : mR m27 t 26 = some b13 := x29.r k20 (by decide) rfl e23
    have e35 : mR m27 t 23 = some b15 := x29.r k20 (by decide) rfl e24
    refine at_iconst (n := 0) (0 : Int32) 188 rfl (by decide +kernel) (by decide +kernel) ?_
    refine at_istore_n (i := 3) (lc' := [(0, va_rf (some t)), (2, .int (l2)), (3, .int ((0 : Int32)))]) [1, 3, 0] 189 rfl (by decide +kernel) (by decide +kernel) rfl ?_
    exact h
  · rw [if_neg c2] at h
    refine at_aload_n (i := 0) 0 67 rfl (by decide +kernel) rfl ?_
    refine at_get (index := 67) (v := va_rf (mR m t 22)) cok12 22 70 rfl (by decide +kernel) k1 (by decide +kernel) tw_1107 rfl ?_
    obtain ⟨b36, e37, h⟩ := h
    rw [e37]
    refine at_iload_n (i := 3) 3 71 rfl (by decide +kernel) rfl ?_
    obtain ⟨k38, h⟩ := h
    obtain ⟨v39, h⟩ := h
    refine at_iald 72 rfl (by decide +kernel) k38 v39 ?_
    refine at_iconst (n := (-1)) (-1 : Int32) 73 rfl (by decide +kernel) (by decide +kernel) ?_
    refine at_icmp_eq (off := 12) 85 76 rfl (by decide +kernel) (by decide +kernel) (fun c40 => ?_) (fun c40 => ?_)
    · rw [if_pos c40] at h
      refine at_aload_n (i := 0) 0 86 rfl (by decide +kernel) rfl ?_
      refine at_get (index := 107) (v := va_rf (mR m t 35)) cok12 35 89 rfl (by decide +kernel) k1 (by decide +kernel) tw_1120 rfl ?_
      obtain ⟨b41, e42, h⟩ := h
      rw [e42]
      refine at_iload_n (i := 3) 3 90 rfl (by decide +kernel) rfl ?_
      obtain ⟨k43, h⟩ := h
      obtain ⟨v44, h⟩ := h
      refine at_iald 91 rfl (by decide +kernel) k43 v44 ?_
      refine at_iload_n (i := 1) 1 92 rfl (by decide +kernel) rfl ?_
      refine at_imul 93 rfl (by decide +kernel) ?_
      exact h
    · rw [if_neg c40] at h
      refine at_aload_n (i := 0) 0 77 rfl (by decide +kernel) rfl ?_
      refine at_get (index := 67) (v := va_rf (mR m t 22)) cok12 22 80 rfl (by decide +kernel) k1 (by decide +kernel) tw_1107 rfl ?_
      rw [e37]
      refine at_iload_n (i := 3) 3 81 rfl (by decide +kernel) rfl ?_
      obtain ⟨v45, h⟩ := h
      refine at_iald 82 rfl (by decide +kernel) k38 v45 ?_
      refine at_goto (off := 11) 93 (by decide +kernel) (by decide +kernel) ?_
      exact h
set_option maxRecDepth 20000 in
set_option maxHeartbeats 4000000 in
theorem en_RF_go (g : Gc) {lv : Nat} {t : Nat} {l1 : Int32} {m : Mm} {Q : Int32 → Mm → Prop} (h : mK m t = 13 ∧ (∀ m2, m2 = sI m t 0 (0 : Int32) → (CI g M_RF_in lv [.long (l1.toInt64), .long ((0 : Int64)), .long ((100 : Int64))] m2 (fun x6 m7 => (if (x6) = 0 then (Q (-2 : Int32) m7) else (∃ b11, mR m7 t 31 = some b11 ∧ (mK m7 b11 = 15 ∧ (vp_in (0 : Int32) (mN m7 b11) ∧ (if (mI m7 b11 (0 : Int32).toNatClampNeg) = ((30 : Int32)) then (Q (-9 : Int32) m7) else (∃ b16, mR m7 t 33 = some b16 ∧ (mK m7 b16 = 15 ∧ (vp_in (0 : Int32) (mN m7 b16) ∧ (if (mI m7 t 19) ≤ ((400 : Int32) - (mI m7 b16 (0 : Int32).toNatClampNeg)) then (At g M_RF_go (lv + 1) 58 [(0, va_rf (some t)), (1, .int (l1)), (2, .int (mI m7 b11 (0 : Int32).toNatClampNeg)), (3, .int ((0 : Int32)))] [] m7 (QI Q)) else (Q (-3 : Int32) m7)))))))))))))) : CI g M_RF_go (lv + 1) [va_rf (some t), .int (l1)] m Q := by
  refine Call.of (by decide +kernel) (Nat.le_of_ble_eq_true rfl) ?_
  show At g M_RF_go (lv + 1) 0 [(0, va_rf (some t)), (1, .int (l1))] [] m (QI Q)
  refine at_aload_n (i := 0) 0 1 rfl (by decide +kernel) rfl ?_
  refine at_iconst (n := 0) (0 : Int32) 2 rfl (by decide +kernel) (by decide +kernel) ?_
  obtain ⟨k1, h⟩ := h
  refine at_putI (index := 149) cok12 0 5 rfl (by decide +kernel) k1 (by decide +kernel) tw_1085 rfl rfl rfl (fun m2 e3 => ?_)
  replace h := h m2 e3
  have x4 : Ext m m2 := by rw [e3]; exact Ext.sI _ _ _ _
  have k5 : mK m2 t = 13 := x4.k k1 (by decide)
  refine at_iload_n (i := 1) 1 6 rfl (by decide +kernel) rfl ?_
  refine at_i2l 7 rfl (by decide +kernel) ?_
  refine at_lconst (n := 0) (0 : Int64) 8 rfl (by decide +kernel) (by decide +kernel) ?_
  refine at_ldc2 (index := 174) (100 : Int64) 11 rfl (by decide +kernel) tw_1318 ?_
  refine at_callS mb_RF_in tw_1293 (index := 154) tw_1292 [.long (l1.toInt64), .long ((0 : Int64)), .long ((100 : Int64))] [] rfl rfl (by decide) 14 rfl (by decide +kernel) (Call.toI (CI.monoE h (fun x6 m7 h y8 => ?_)))
  have k9 : mK m7 t = 13 := y8.k k5 (by decide)
  refine at_if_ne (off := 6) 20 17 rfl (by decide +kernel) (by decide +kernel) (fun c10 => ?_) (fun c10 => ?_)
  · rw [if_neg c10] at h
    refine at_aload_n (i := 0) 0 21 rfl (by decide +kernel) rfl ?_
    refine at_get (index := 95) (v := va_rf (mR m7 t 31)) cok12 31 24 rfl (by decide +kernel) k9 (by decide +kernel) tw_1116 rfl ?_
    obtain ⟨b11, e12, h⟩ := h
    rw [e12]
    refine at_iconst (n := 0) (0 : Int32) 25 rfl (by decide +kernel) (by decide +kernel) ?_
    obtain ⟨k13, h⟩ := h
    obtain ⟨v14, h⟩ := h
    refine at_iald 26 rfl (by decide +kernel) k13 v14 ?_
    refine at_istore_n (i := 2) (lc' := [(0, va_rf (some t)), (1, .int (l1)), (2, .int (mI m7 b11 (0 : Int32).toNatClampNeg))]) [1, 2, 0] 27 rfl (by decide +kernel) (by decide +kernel) rfl ?_
    refine at_iload_n (i := 2) 2 28 rfl (by decide +kernel) rfl ?_
    refine at_bipush (n := 30) (30 : Int32) 30 rfl (by decide +kernel) (by decide +kernel) ?_
    refine at_icmp_ne (off := 6) 36 33 rfl (by decide +kernel) (by decide +kernel) (fun c15 => ?_) (fun c15 => ?_)
    · rw [if_neg c15] at h
      refine at_sipush (n := 400) (400 : Int32) 39 rfl (by decide +kernel) (by decide +kernel) ?_
      refine at_aload_n (i := 0) 0 40 rfl (by decide +kernel) rfl ?_
      refine at_get (index := 101) (v := va_rf (mR m7 t 33)) cok12 33 43 rfl (by decide +kernel) k9 (by decide +kernel) tw_1118 rfl ?_
      obtain ⟨b16, e17, h⟩ := h
      rw [e17]
      refine at_iconst (n := 0) (0 : Int32) 44 rfl (by decide +kernel) (by decide +kernel) ?_
      obtain ⟨k18, h⟩ := h
      obtain ⟨v19, h⟩ := h
      refine at_iald 45 rfl (by decide +kernel) k18 v19 ?_
      refine at_isub 46 rfl (by decide +kernel) ?_
      refine at_aload_n (i := 0) 0 47 rfl (by decide +kernel) rfl ?_
      refine at_get (index := 185) (v := .int (mI m7 t 19)) cok12 19 50 rfl (by decide +kernel) k9 (by decide +kernel) tw_1104 rfl ?_
      refine at_icmp_ge (off := 6) 56 53 rfl (by decide +kernel) (by decide +kernel) (fun c20 => ?_) (fun c20 => ?_)
      · rw [if_pos c20] at h
        refine at_iconst (n := 0) (0 : Int32) 57 rfl (by decide +kernel) (by decide +kernel) ?_
        refine at_istore_n (i := 3) (lc' := [(0, va_rf (some t)), (1, .int (l1)), (2, .int (mI m7 b11 (0 : Int32).toNatClampNeg)), (3, .int ((0 : Int32)))]) [1, 2, 3, 0] 58 rfl (by decide +kernel) (by decide +kernel) rfl ?_
        exact h
      · rw [if_neg c20] at h
        refine at_bipush (n := (-3)) (-3 : Int32) 55 rfl (by decide +kernel) (by decide +kernel) ?_
        exact at_iret rfl (by decide +kernel) h
    · rw [if_pos c15] at h
      refine at_bipush (n := (-9)) (-9 : Int32) 35 rfl (by decide +kernel) (by decide +kernel) ?_
      exact at_iret rfl (by decide +kernel) h
  · rw [if_pos c10] at h
    refine at_bipush (n := (-2)) (-2 : Int32) 19 rfl (by decide +kernel) (by decide +kernel) ?_
    exact at_iret rfl (by decide +kernel) h
set_option maxRecDepth 20000 in
set_option maxHeartbeats 4000000 in
theorem bk_RF_right_88 (g : Gc) {lv : Nat} {t : Nat} {l1 : Int32} {l3 : Int32} {l4 : Int32} {s0 : Int32} {m : Mm} {Q : Int32 → Mm → Prop} (h : mK m t = 13 ∧ (∃ b2, mR m t 24 = some b2 ∧ (mK m b2 = 15 ∧ (vp_in l4 (mN m b2) ∧ (∀ m6, m6 = sI m b2 l4.toNatClampNeg l3 → (∃ b12, mR m6 t 38 = some b12 ∧ (mK m6 b12 = 16 ∧ (vp_in l1 (mN m6 b12) ∧ (vp_in l1 (mN m6 b12) ∧ (∀ m17, m17 = sL m6 b12 l1.toNatClampNeg ((mL m6 b12 l1.toNatClampNeg) + ((100 : Int64) * s0.toInt64)) → (Q s0 m17))))))))))) : At g M_RF_right (lv + 1) 88 [(0, va_rf (some t)), (1, .int (l1)), (3, .int (l3)), (4, .int (l4))] [.int (s0)] m (QI Q) := by
  refine at_istore (i := 5) (lc' := [(0, va_rf (some t)), (1, .int (l1)), (3, .int (l3)), (4, .int (l4)), (5, .int (s0))]) [1, 2, 3, 4, 0] 90 rfl (by decide +kernel) (by decide +kernel) rfl ?_
  refine at_aload_n (i := 0) 0 91 rfl (by decide +kernel) rfl ?_
  obtain ⟨k1, h⟩ := h
  refine at_get (index := 73) (v := va_rf (mR m t 24)) cok12 24 94 rfl (by decide +kernel) k1 (by decide +kernel) tw_1109 rfl ?_
  obtain ⟨b2, e3, h⟩ := h
  rw [e3]
  refine at_iload (i := 4) 3 96 rfl (by decide +kernel) rfl ?_
  refine at_iload_n (i := 3) 2 97 rfl (by decide +kernel) rfl ?_
  obtain ⟨k4, h⟩ := h
  obtain ⟨v5, h⟩ := h
  refine at_iast 98 rfl (by decide +kernel) k4 v5 (fun m6 e7 => ?_)
  replace h := h m6 e7
  have x8 : Ext m m6 := by rw [e7]; exact Ext.sI _ _ _ _
  have k9 : mK m6 t = 13 := x8.k k1 (by decide)
  have k10 : mK m6 b2 = 15 := x8.k k4 (by decide)
  have e11 : mR m6 t 24 = some b2 := x8.r k1 (by decide) rfl e3
  refine at_aload_n (i := 0) 0 99 rfl (by decide +kernel) rfl ?_
  refine at_get (index := 116) (v := va_rf (mR m6 t 38)) cok12 38 102 rfl (by decide +kernel) k9 (by decide +kernel) tw_1123 rfl ?_
  obtain ⟨b12, e13, h⟩ := h
  rw [e13]
  refine at_iload_n (i := 1) 1 103 rfl (by decide +kernel) rfl ?_
  refine at_dup2_11 104 rfl (by decide +kernel) rfl (va_rf_cat _) ?_
  obtain ⟨k14, h⟩ := h
  obtain ⟨v15, h⟩ := h
  refine at_lald 105 rfl (by decide +kernel) k14 v15 ?_
  refine at_ldc2 (index := 174) (100 : Int64) 108 rfl (by decide +kernel) tw_1318 ?_
  refine at_iload (i := 5) 4 110 rfl (by decide +kernel) rfl ?_
  refine at_i2l 111 rfl (by decide +kernel) ?_
  refine at_lmul 112 rfl (by decide +kernel) ?_
  refine at_ladd 113 rfl (by decide +kernel) ?_
  obtain ⟨v16, h⟩ := h
  refine at_last 114 rfl (by decide +kernel) k14 v16 (fun m17 e18 => ?_)
  replace h := h m17 e18
  have x19 : Ext m6 m17 := by rw [e18]; exact Ext.sL _ _ _ _
  have k20 : mK m17 t = 13 := x19.k k9 (by decide)
  have k21 : mK m17 b2 = 15 := x19.k k10 (by decide)
  have k22 : mK m17 b12 = 16 := x19.k k14 (by decide)
  have e23 : mR m17 t 24 = some b2 := x19.r k9 (by decide) rfl e11
  have e24 : mR m17 t 38 = some b12 := x19.r k9 (by decide) rfl e13
  refine at_iload (i := 5) 4 116 rfl (by decide +kernel) rfl ?_
  exact at_iret rfl (by decide +kernel) h
set_option maxRecDepth 20000 in
set_option maxHeartbeats 4000000 in
theorem en_RF_right (g : Gc) {lv : Nat} {t : Nat} {l1 : Int32} {l2 : Int32} {l3 : Int32} {m : Mm} {Q : Int32 → Mm → Prop} (h : mK m t = 13 ∧ (∀ m2, m2 = sI m t 0 (0 : Int32) → (CI g M_RF_isGrower lv [va_rf (some t), .int (l1)] m2 (fun x6 m7 => (if (x6) = 0 then (Q (-1000000 : Int32) m7) else (∃ b11, mR m7 t 31 = some b11 ∧ (mK m7 b11 = 15 ∧ (vp_in (0 : Int32) (mN m7 b11) ∧ (CI g M_RF_in lv [.long (l2.toInt64), .long ((0 : Int64)), .long (((mI m7 b11 (0 : Int32).toNatClampNeg) - (1 : Int32)).toInt64)] m7 (fun x15 m16 => (if (x15) = 0 then (Q (-1000000 : Int32) m16) else (CI g M_RF_in lv [.long (l3.toInt64), .long ((0 : Int64)), .long ((500000 : Int64))] m16 (fun x22 m23 => (if (x22) = 0 then (Q (-1000000 : Int32) m23) else (∃ b29, mR m23 t 27 = some b29 ∧ (mK m23 b29 = 17 ∧ (vp_in (((12 : Int32) * l2) + l1) (mN m23 b29) ∧ (if (mI m23 b29 (((12 : Int32) * l2) + l1).toNatClampNeg) = 0 then (∃ b34, mR m23 t 26 = some b34 ∧ (mK m23 b34 = 15 ∧ (vp_in l2 (mN m23 b34) ∧ (∃ b38, mR m23 t 24 = some b38 ∧ (mK m23 b38 = 15 ∧ (vp_in (((12 : Int32) * l2) + l1) (mN m23 b38) ∧ (At g M_RF_right (lv + 1) 88 [(0, va_rf (some t)), (1, .int (l1)), (3, .int (l3)), (4, .int (((12 : Int32) * l2) + l1))] [.int (((mI m23 b34 l2.toNatClampNeg) * (l3 - (mI m23 b38 (((12 : Int32) * l2) + l1).toNatClampNeg))) / (100 : Int32))] m23 (QI Q)))))))) else (At g M_RF_right (lv + 1) 88 [(0, va_rf (some t)), (1, .int (l1)), (3, .int (l3)), (4, .int (((12 : Int32) * l2) + l1))] [.int ((0 : Int32))] m23 (QI Q)))))))))))))))))))) : CI g M_RF_right (lv + 1) [va_rf (some t), .int (l1), .int (l2), .int (l3)] m Q := by
  refine Call.of (by decide +kernel) (Nat.le_of_ble_eq_true rfl) ?_
  show At g M_RF_right (lv + 1) 0 [(0, va_rf (some t)), (1, .int (l1)), (2, .int (l2)), (3, .int (l3))] [] m (QI Q)
  refine at_aload_n (i := 0) 0 1 rfl (by decide +kernel) rfl ?_
  refine at_iconst (n := 0) (0 : Int32) 2 rfl (by decide +kernel) (by decide +kernel) ?_
  obtain ⟨k1, h⟩ := h
  refine at_putI (index := 149) cok12 0 5 rfl (by decide +kernel) k1 (by decide +kernel) tw_1085 rfl rfl rfl (fun m2 e3 => ?_)
  replace h := h m2 e3
  have x4 : Ext m m2 := by rw [e3]; exact Ext.sI _ _ _ _
  have k5 : mK m2 t = 13 := x4.k k1 (by decide)
  refine at_aload_n (i := 0) 0 6 rfl (by decide +kernel) rfl ?_
  refine at_iload_n (i := 1) 1 7 rfl (by decide +kernel) rfl ?_
  refine at_callV mb_RF_isGrower tw_1430 tw_45 cok12 k5 (index := 336) tw_1428 [.int (l1)] [] rfl rfl (by decide) 10 rfl (by decide +kernel) (Call.toI (CI.monoE h (fun x6 m7 h y8 => ?_)))
  have k9 : mK m7 t = 13 := y8.k k5 (by decide)
  refine at_if_eq (off := 33) 43 13 rfl (by decide +kernel) (by decide +kernel) (fun c10 => ?_) (fun c10 => ?_)
  · rw [if_pos c10] at h
    refine at_ldcw (index := 382) (-1000000 : Int32) 46 rfl (by decide +kernel) tw_1499 ?_
    exact at_iret rfl (by decide +kernel) h
  · rw [if_neg c10] at h
    refine at_iload_n (i := 2) 2 14 rfl (by decide +kernel) rfl ?_
    refine at_i2l 15 rfl (by decide +kernel) ?_
    refine at_lconst (n := 0) (0 : Int64) 16 rfl (by decide +kernel) (by decide +kernel) ?_
    refine at_aload_n (i := 0) 0 17 rfl (by decide +kernel) rfl ?_
    refine at_get (index := 95) (v := va_rf (mR m7 t 31)) cok12 31 20 rfl (by decide +kernel) k9 (by decide +kernel) tw_1116 rfl ?_
    obtain ⟨b11, e12, h⟩ := h
    rw [e12]
    refine at_iconst (n := 0) (0 : Int32) 21 rfl (by decide +kernel) (by decide +kernel) ?_
    obtain ⟨k13, h⟩ := h
    obtain ⟨v14, h⟩ := h
    refine at_iald 22 rfl (by decide +kernel) k13 v14 ?_
    refine at_iconst (n := 1) (1 : Int32) 23 rfl (by decide +kernel) (by decide +kernel) ?_
    refine at_isub 24 rfl (by decide +kernel) ?_
    refine at_i2l 25 rfl (by decide +kernel) ?_
    refine at_callS mb_RF_in tw_1293 (index := 154) tw_1292 [.long (l2.toInt64), .long ((0 : Int64)), .long (((mI m7 b11 (0 : Int32).toNatClampNeg) - (1 : Int32)).toInt64)] [] rfl rfl (by decide) 28 rfl (by decide +kernel) (Call.toI (CI.monoE h (fun x15 m16 h y17 => ?_)))
    have k18 : mK m16 t = 13 := y17.k k9 (by decide)
    have k19 : mK m16 b11 = 15 := y17.k k13 (by decide)
    have e20 : mR m16 t 31 = some b11 := y17.r k9 (by decide) rfl e12
    refine at_if_eq (off := 15) 43 31 rfl (by decide +kernel) (by decide +kernel) (fun c21 => ?_) (fun c21 => ?_)
    · rw [if_pos c21] at h
      refine at_ldcw (index := 382) (-1000000 : Int32) 46 rfl (by decide +kernel) tw_1499 ?_
      exact at_iret rfl (by decide +kernel) h
    · rw [if_neg c21] at h
      refine at_iload_n (i := 3) 3 32 rfl (by decide +kernel) rfl ?_
      refine at_i2l 33 rfl (by decide +kernel) ?_
      refine at_lconst (n := 0) (0 : Int64) 34 rfl (by decide +kernel) (by decide +kernel) ?_
      refine at_ldc2 (index := 339) (500000 : Int64) 37 rfl (by decide +kernel) tw_1432 ?_
      refine at_callS mb_RF_in tw_1293 (index := 154) tw_1292 [.long (l3.toInt64), .long ((0 : Int64)), .long ((500000 : Int64))] [] rfl rfl (by decide) 40 rfl (by decide +kernel) (Call.toI (CI.monoE h (fun x22 m23 h y24 => ?_)))
      have k25 : mK m23 t = 13 := y24.k k18 (by decide)
      have k26 : mK m23 b11 = 15 := y24.k k19 (by decide)
      have e27 : mR m23 t 31 = some b11 := y24.r k18 (by decide) rfl e20
      refine at_if_ne (off := 7) 47 43 rfl (by decide +kernel) (by decide +kernel) (fun c28 => ?_) (fun c28 => ?_)
      · rw [if_neg c28] at h
        refine at_bipush (n := 12) (12 : Int32) 49 rfl (by decide +kernel) (by decide +kernel) ?_
        refine at_iload_n (i := 2) 2 50 rfl (by decide +kernel) rfl ?_
        refine at_imul 51 rfl (by decide +kernel) ?_
        refine at_iload_n (i := 1) 1 52 rfl (by decide +kernel) rfl ?_
        refine at_iadd 53 rfl (by decide +kernel) ?_
        refine at_istore (i := 4) (lc' := [(0, va_rf (some t)), (1, .int (l1)), (2, .int (l2)), (3, .int (l3)), (4, .int (((12 : Int32) * l2) + l1))]) [1, 2, 3, 4, 0] 55 rfl (by decide +kernel) (by decide +kernel) rfl ?_
        refine at_aload_n (i := 0) 0 56 rfl (by decide +kernel) rfl ?_
        refine at_get (index := 82) (v := va_rf (mR m23 t 27)) cok12 27 59 rfl (by decide +kernel) k25 (by decide +kernel) tw_1112 rfl ?_
        obtain ⟨b29, e30, h⟩ := h
        rw [e30]
        refine at_iload (i := 4) 4 61 rfl (by decide +kernel) rfl ?_
        obtain ⟨k31, h⟩ := h
        obtain ⟨v32, h⟩ := h
        refine at_zald 62 rfl (by decide +kernel) k31 v32 ?_
        refine at_if_eq (off := 7) 69 65 rfl (by decide +kernel) (by decide +kernel) (fun c33 => ?_) (fun c33 => ?_)
        · rw [if_pos c33] at h
          refine at_aload_n (i := 0) 0 70 rfl (by decide +kernel) rfl ?_
          refine at_get (index := 79) (v := va_rf (mR m23 t 26)) cok12 26 73 rfl (by decide +kernel) k25 (by decide +kernel) tw_1111 rfl ?_
          obtain ⟨b34, e35, h⟩ := h
          rw [e35]
          refine at_iload_n (i := 2) 2 74 rfl (by decide +kernel) rfl ?_
          obtain ⟨k36, h⟩ := h
          obtain ⟨v37, h⟩ := h
          refine at_iald 75 rfl (by decide +kernel) k36 v37 ?_
          refine at_iload_n (i := 3) 3 76 rfl (by decide +kernel) rfl ?_
          refine at_aload_n (i := 0) 0 77 rfl (by decide +kernel) rfl ?_
          refine at_get (index := 73) (v := va_rf (mR m23 t 24)) cok12 24 80 rfl (by decide +kernel) k25 (by decide +kernel) tw_1109 rfl ?_
          obtain ⟨b38, e39, h⟩ := h
          rw [e39]
          refine at_iload (i := 4) 4 82 rfl (by decide +kernel) rfl ?_
          obtain ⟨k40, h⟩ := h
          obtain ⟨v41, h⟩ := h
          refine at_iald 83 rfl (by decide +kernel) k40 v41 ?_
          refine at_isub 84 rfl (by decide +kernel) ?_
          refine at_imul 85 rfl (by decide +kernel) ?_
          refine at_bipush (n := 100) (100 : Int32) 87 rfl (by decide +kernel) (by decide +kernel) ?_
          refine at_idiv 88 rfl (by decide +kernel) (by decide +kernel) ?_
          exact At.sub [0, 1, 3, 4] rfl h
        · rw [if_neg c33] at h
          refine at_iconst (n := 0) (0 : Int32) 66 rfl (by decide +kernel) (by decide +kernel) ?_
          refine at_goto (off := 22) 88 (by decide +kernel) (by decide +kernel) ?_
          exact At.sub [0, 1, 3, 4] rfl h
      · rw [if_pos c28] at h
        refine at_ldcw (index := 382) (-1000000 : Int32) 46 rfl (by decide +kernel) tw_1499 ?_
        exact at_iret rfl (by decide +kernel) h
set_option maxRecDepth 20000 in
set_option maxHeartbeats 4000000 in
theorem en_RF_isFull (g : Gc) {lv : Nat} {t : Nat} {l1 : Int32} {m : Mm} {Q : Int32 → Mm → Prop} (h : mK m t = 13 ∧ (∃ b2, mR m t 33 = some b2 ∧ (mK m b2 = 15 ∧ (vp_in (0 : Int32) (mN m b2) ∧ (CI g M_RF_in lv [.long (l1.toInt64), .long ((0 : Int64)), .long (((mI m b2 (0 : Int32).toNatClampNeg) - (1 : Int32)).toInt64)] m (fun x6 m7 => (if (x6) = 0 then (Q (0 : Int32) m7) else (∃ b13, mR m7 t 41 = some b13 ∧ (mK m7 b13 = 15 ∧ (vp_in l1 (mN m7 b13) ∧ (if (mI m7 b13 l1.toNatClampNeg) ≤ 0 then (Q (0 : Int32) m7) else (Q (1 : Int32) m7)))))))))))) : CI g M_RF_isFull (lv + 1) [va_rf (some t), .int (l1)] m Q := by
  refine Call.of (by decide +kernel) (Nat.le_of_ble_eq_true rfl) ?_
  show At g M_RF_isFull (lv + 1) 0 [(0, va_rf (some t)), (1, .int (l1))] [] m (QI Q)
  refine at_iload_n (i := 1) 1 1 rfl (by decide +kernel) rfl ?_
  refine at_i2l 2 rfl (by decide +kernel) ?_
  refine at_lconst (n := 0) (0 : Int64) 3 rfl (by decide +kernel) (by decide +kernel) ?_
  refine at_aload_n (i := 0) 0 4 rfl (by decide +kernel) rfl ?_
  obtain ⟨k1, h⟩ := h
  refine at_get (index := 101) (v := va_rf (mR m t 33)) cok12 33 7 rfl (by decide +kernel) k1 (by decide +kernel) tw_1118 rfl ?_
  obtain ⟨b2, e3, h⟩ := h
  rw [e3]
  refine at_iconst (n := 0) (0 : Int32) 8 rfl (by decide +kernel) (by decide +kernel) ?_
  obtain ⟨k4, h⟩ := h
  obtain ⟨v5, h⟩ := h
  refine at_iald 9 rfl (by decide +kernel) k4 v5 ?_
  refine at_iconst (n := 1) (1 : Int32) 10 rfl (by decide +kernel) (by decide +kernel) ?_
  refine at_isub 11 rfl (by decide +kernel) ?_
  refine at_i2l 12 rfl (by decide +kernel) ?_
  refine at_callS mb_RF_in tw_1293 (index := 154) tw_1292 [.long (l1.toInt64), .long ((0 : Int64)), .long (((mI m b2 (0 : Int32).toNatClampNeg) - (1 : Int32)).toInt64)] [] rfl rfl (by decide) 15 rfl (by decide +kernel) (Call.toI (CI.monoE h (fun x6 m7 h y8 => ?_)))
  have k9 : mK m7 t = 13 := y8.k k1 (by decide)
  have k10 : mK m7 b2 = 15 := y8.k k4 (by decide)
  have e11 : mR m7 t 33 = some b2 := y8.r k1 (by decide) rfl e3
  refine at_if_eq (off := 16) 31 18 rfl (by decide +kernel) (by decide +kernel) (fun c12 => ?_) (fun c12 => ?_)
  · rw [if_pos c12] at h
    refine at_iconst (n := 0) (0 : Int32) 32 rfl (by decide +kernel) (by decide +kernel) ?_
    exact at_zret rfl (by decide +kernel) (Or.inl rfl) h
  · rw [if_neg c12] at h
    refine at_aload_n (i := 0) 0 19 rfl (by decide +kernel) rfl ?_
    refine at_get (index := 125) (v := va_rf (mR m7 t 41)) cok12 41 22 rfl (by decide +kernel) k9 (by decide +kernel) tw_1126 rfl ?_
    obtain ⟨b13, e14, h⟩ := h
    rw [e14]
    refine at_iload_n (i := 1) 1 23 rfl (by decide +kernel) rfl ?_
    obtain ⟨k15, h⟩ := h
    obtain ⟨v16, h⟩ := h
    refine at_iald 24 rfl (by decide +kernel) k15 v16 ?_
    refine at_if_le (off := 7) 31 27 rfl (by decide +kernel) (by decide +kernel) (fun c17 => ?_) (fun c17 => ?_)
    · rw [if_pos c17] at h
      refine at_iconst (n := 0) (0 : Int32) 32 rfl (by decide +kernel) (by decide +kernel) ?_
      exact at_zret rfl (by decide +kernel) (Or.inl rfl) h
    · rw [if_neg c17] at h
      refine at_iconst (n := 1) (1 : Int32) 28 rfl (by decide +kernel) (by decide +kernel) ?_
      refine at_goto (off := 4) 32 (by decide +kernel) (by decide +kernel) ?_
      exact at_zret rfl (by decide +kernel) (Or.inr rfl) h
set_option maxRecDepth 20000 in
set_option maxHeartbeats 4000000 in
theorem en_RF_isPledged (g : Gc) {lv : Nat} {t : Nat} {l1 : Int32} {m : Mm} {Q : Int32 → Mm → Prop} (h : mK m t = 13 ∧ (∃ b2, mR m t 44 = some b2 ∧ (mK m b2 = 15 ∧ (vp_in ((2 : Int32) * l1) (mN m b2) ∧ (if (mI m b2 ((2 : Int32) * l1).toNatClampNeg) = ((-1 : Int32)) then (Q (0 : Int32) m) else (Q (1 : Int32) m)))))) : CI g M_RF_isPledged (lv + 1) [va_rf (some t), .int (l1)] m Q := by
  refine Call.of (by decide +kernel) (Nat.le_of_ble_eq_true rfl) ?_
  show At g M_RF_isPledged (lv + 1) 0 [(0, va_rf (some t)), (1, .int (l1))] [] m (QI Q)
  refine at_aload_n (i := 0) 0 1 rfl (by decide +kernel) rfl ?_
  obtain ⟨k1, h⟩ := h
  refine at_get (index := 134) (v := va_rf (mR m t 44)) cok12 44 4 rfl (by decide +kernel) k1 (by decide +kernel) tw_1129 rfl ?_
  obtain ⟨b2, e3, h⟩ := h
  rw [e3]
  refine at_iconst (n := 2) (2 : Int32) 5 rfl (by decide +kernel) (by decide +kernel) ?_
  refine at_iload_n (i := 1) 1 6 rfl (by decide +kernel) rfl ?_
  refine at_imul 7 rfl (by decide +kernel) ?_
  obtain ⟨k4, h⟩ := h
  obtain ⟨v5, h⟩ := h
  refine at_iald 8 rfl (by decide +kernel) k4 v5 ?_
  refine at_iconst (n := (-1)) (-1 : Int32) 9 rfl (by decide +kernel) (by decide +kernel) ?_
  refine at_icmp_eq (off := 7) 16 12 rfl (by decide +kernel) (by decide +kernel) (fun c6 => ?_) (fun c6 => ?_)
  · rw [if_pos c6] at h
    refine at_iconst (n := 0) (0 : Int32) 17 rfl (by decide +kernel) (by decide +kernel) ?_
    exact at_zret rfl (by decide +kernel) (Or.inl rfl) h
  · rw [if_neg c6] at h
    refine at_iconst (n := 1) (1 : Int32) 13 rfl (by decide +kernel) (by decide +kernel) ?_
    refine at_goto (off := 4) 17 (by decide +kernel) (by decide +kernel) ?_
    exact at_zret rfl (by decide +kernel) (Or.inr rfl) h
set_option maxRecDepth 20000 in
set_option maxHeartbeats 4000000 in
theorem en_RF_split (g : Gc) {lv : Nat} {t : Nat} {l1 : Int32} {l2 : Int32} {m : Mm} {Q : Int32 → Mm → Prop} (h : mK m t = 13 ∧ (∀ m2, m2 = sI m t 0 (0 : Int32) → (CI g M_RF_isFull lv [va_rf (some t), .int (l1)] m2 (fun x6 m7 => (if (x6) = 0 then (Q (-2 : Int32) m7) else (∃ b11, mR m7 t 41 = some b11 ∧ (mK m7 b11 = 15 ∧ (vp_in l1 (mN m7 b11) ∧ (CI g M_RF_in lv [.long (l2.toInt64), .long ((1 : Int64)), .long (((mI m7 b11 l1.toNatClampNeg) - (1 : Int32)).toInt64)] m7 (fun x15 m16 => (if (x15) = 0 then (Q (-2 : Int32) m16) else (∃ b22, mR m16 t 33 = some b22 ∧ (mK m16 b22 = 15 ∧ (vp_in (0 : Int32) (mN m16 b22) ∧ (if (mI m16 b22 (0 : Int32).toNatClampNeg) = ((400 : Int32)) then (Q (-3 : Int32) m16) else (CI g M_RF_isPledged lv [va_rf (some t), .int (l1)] m16 (fun x27 m28 => (if (x27) = 0 then (vp_in l1 (mN m28 b11) ∧ (vp_in l1 (mN m28 b11) ∧ (∀ m38, m38 = sI m28 b11 l1.toNatClampNeg ((mI m28 b11 l1.toNatClampNeg) - l2) → (∃ b46, mR m38 t 40 = some b46 ∧ (mK m38 b46 = 15 ∧ (vp_in l1 (mN m38 b46) ∧ (∃ b50, mR m38 t 42 = some b50 ∧ (mK m38 b50 = 15 ∧ (vp_in l1 (mN m38 b50) ∧ (CI g M_RF_receipt_IIII lv [va_rf (some t), .int ((0 : Int32)), .int (mI m38 b46 l1.toNatClampNeg), .int (l2), .int (mI m38 b50 l1.toNatClampNeg)] m38 (fun x54 m55 => (Q x54 m55)))))))))))) else (Q (-7 : Int32) m28))))))))))))))))))) : CI g M_RF_split (lv + 1) [va_rf (some t), .int (l1), .int (l2)] m Q := by
  refine Call.of (by decide +kernel) (Nat.le_of_ble_eq_true rfl) ?_
  show At g M_RF_split (lv + 1) 0 [(0, va_rf (some t)), (1, .int (l1)), (2, .int (l2))] [] m (QI Q)
  refine at_aload_n (i := 0) 0 1 rfl (by decide +kernel) rfl ?_
  refine at_iconst (n := 0) (0 : Int32) 2 rfl (by decide +kernel) (by decide +kernel) ?_
  obtain ⟨k1, h⟩ := h
  refine at_putI (index := 149) cok12 0 5 rfl (by decide +kernel) k1 (by decide +kernel) tw_1085 rfl rfl rfl (fun m2 e3 => ?_)
  replace h := h m2 e3
  have x4 : Ext m m2 := by rw [e3]; exact Ext.sI _ _ _ _
  have k5 : mK m2 t = 13 := x4.k k1 (by decide)
  refine at_aload_n (i := 0) 0 6 rfl (by decide +kernel) rfl ?_
  refine at_iload_n (i := 1) 1 7 rfl (by decide +kernel) rfl ?_
  refine at_callV mb_RF_isFull tw_1506 tw_59 cok12 k5 (index := 383) tw_1504 [.int (l1)] [] rfl rfl (by decide) 10 rfl (by decide +kernel) (Call.toI (CI.monoE h (fun x6 m7 h y8 => ?_)))
  have k9 : mK m7 t = 13 := y8.k k5 (by decide)
  refine at_if_eq (off := 21) 31 13 rfl (by decide +kernel) (by decide +kernel) (fun c10 => ?_) (fun c10 => ?_)
  · rw [if_pos c10] at h
    refine at_bipush (n := (-2)) (-2 : Int32) 33 rfl (by decide +kernel) (by decide +kernel) ?_
    exact at_iret rfl (by decide +kernel) h
  · rw [if_neg c10] at h
    refine at_iload_n (i := 2) 2 14 rfl (by decide +kernel) rfl ?_
    refine at_i2l 15 rfl (by decide +kernel) ?_
    refine at_lconst (n := 1) (1 : Int64) 16 rfl (by decide +kernel) (by decide +kernel) ?_
    refine at_aload_n (i := 0) 0 17 rfl (by decide +kernel) rfl ?_
    refine at_get (index := 125) (v := va_rf (mR m7 t 41)) cok12 41 20 rfl (by decide +kernel) k9 (by decide +kernel) tw_1126 rfl ?_
    obtain ⟨b11, e12, h⟩ := h
    rw [e12]
    refine at_iload_n (i := 1) 1 21 rfl (by decide +kernel) rfl ?_
    obtain ⟨k13, h⟩ := h
    obtain ⟨v14, h⟩ := h
    refine at_iald 22 rfl (by decide +kernel) k13 v14 ?_
    refine at_iconst (n := 1) (1 : Int32) 23 rfl (by decide +kernel) (by decide +kernel) ?_
    refine at_isub 24 rfl (by decide +kernel) ?_
    refine at_i2l 25 rfl (by decide +kernel) ?_
    refine at_callS mb_RF_in tw_1293 (index := 154) tw_1292 [.long (l2.toInt64), .long ((1 : Int64)), .long (((mI m7 b11 l1.toNatClampNeg) - (1 : Int32)).toInt64)] [] rfl rfl (by decide) 28 rfl (by decide +kernel) (Call.toI (CI.monoE h (fun x15 m16 h y17 => ?_)))
    have k18 : mK m16 t = 13 := y17.k k9 (by decide)
    have k19 : mK m16 b11 = 15 := y17.k k13 (by decide)
    have e20 : mR m16 t 41 = some b11 := y17.r k9 (by decide) rfl e12
    refine at_if_ne (off := 6) 34 31 rfl (by decide +kernel) (by decide +kernel) (fun c21 => ?_) (fun c21 => ?_)
    · rw [if_neg c21] at h
      refine at_aload_n (i := 0) 0 35 rfl (by decide +kernel) rfl ?_
      refine at_get (index := 101) (v := va_rf (mR m16 t 33)) cok12 33 38 rfl (by decide +kernel) k18 (by decide +kernel) tw_1118 rfl ?_
      obtain ⟨b22, e23, h⟩ := h
      rw [e23]
      refine at_iconst (n := 0) (0 : Int32) 39 rfl (by decide +kernel) (by decide +kernel) ?_
      obtain ⟨k24, h⟩ := h
      obtain ⟨v25, h⟩ := h
      refine at_iald 40 rfl (by decide +kernel) k24 v25 ?_
      refine at_sipush (n := 400) (400 : Int32) 43 rfl (by decide +kernel) (by decide +kernel) ?_
      refine at_icmp_ne (off := 6) 49 46 rfl (by decide +kernel) (by decide +kernel) (fun c26 => ?_) (fun c26 => ?_)
      · rw [if_neg c26] at h
        refine at_aload_n (i := 0) 0 50 rfl (by decide +kernel) rfl ?_
        refine at_iload_n (i := 1) 1 51 rfl (by decide +kernel) rfl ?_
        refine at_callV mb_RF_isPledged tw_1510 tw_60 cok12 k18 (index := 386) tw_1508 [.int (l1)] [] rfl rfl (by decide) 54 rfl (by decide +kernel) (Call.toI (CI.monoE h (fun x27 m28 h y29 => ?_)))
        have k30 : mK m28 t = 13 := y29.k k18 (by decide)
        have k31 : mK m28 b11 = 15 := y29.k k19 (by decide)
        have k32 : mK m28 b22 = 15 := y29.k k24 (by decide)
        have e33 : mR m28 t 41 = some b11 := y29.r k18 (by decide) rfl e20
        have e34 : mR m28 t 33 = some b22 := y29.r k18 (by decide) rfl e23
        refine at_if_eq (off := 6) 60 57 rfl (by decide +kernel) (by decide +kernel) (fun c35 => ?_) (fun c35 => ?_)
        · rw [if_pos c35] at h
          refine at_aload_n (i := 0) 0 61 rfl (by decide +kernel) rfl ?_
          refine at_get (index := 125) (v := va_rf (mR m28 t 41)) cok12 41 64 rfl (by decide +kernel) k30 (by decide +kernel) tw_1126 rfl ?_
          rw [e33]
          refine at_iload_n (i := 1) 1 65 rfl (by decide +kernel) rfl ?_
          refine at_dup2_11 66 rfl (by decide +kernel) rfl (va_rf_cat _) ?_
          obtain ⟨v36, h⟩ := h
          refine at_iald 67 rfl (by decide +kernel) k31 v36 ?_
          refine at_iload_n (i := 2) 2 68 rfl (by decide +kernel) rfl ?_
          refine at_isub 69 rfl (by decide +kernel) ?_
          obtain ⟨v37, h⟩ := h
          refine at_iast 70 rfl (by decide +kernel) k31 v37 (fun m38 e39 => ?_)
          replace h := h m38 e39
          have x40 : Ext m28 m38 := by rw [e39]; exact Ext.sI _ _ _ _
          have k41 : mK m38 t = 13 := x40.k k30 (by decide)
          have k42 : mK m38 b11 = 15 := x40.k k31 (by decide)
          have k43 : mK m38 b22 = 15 := x40.k k32 (by decide)
          have e44 : mR m38 t 41 = some b11 := x40.r k30 (by decide) rfl e33
          have e45 : mR m38 t 33 = some b22 := x40.r k30 (by decide) rfl e34
          refine at_aload_n (i := 0) 0 71 rfl (by decide +kernel) rfl ?_
          refine at_iconst (n := 0) (0 : Int32) 72 rfl (by decide +kernel) (by decide +kernel) ?_
          refine at_aload_n (i := 0) 0 73 rfl (by decide +kernel) rfl ?_
          refine at_get (index := 122) (v := va_rf (mR m38 t 40)) cok12 40 76 rfl (by decide +kernel) k41 (by decide +kernel) tw_1125 rfl ?_
          obtain ⟨b46, e47, h⟩ := h
          rw [e47]
          refine at_iload_n (i := 1) 1 77 rfl (by decide +kernel) rfl ?_
          obtain ⟨k48, h⟩ := h
          obtain ⟨v49, h⟩ := h
          refine at_iald 78 rfl (by decide +kernel) k48 v49 ?_
          refine at_iload_n (i := 2) 2 79 rfl (by decide +kernel) rfl ?_
          refine at_aload_n (i := 0) 0 80 rfl (by decide +kernel) rfl ?_
          refine at_get (index := 128) (v := va_rf (mR m38 t 42)) cok12 42 83 rfl (by decide +kernel) k41 (by decide +kernel) tw_1127 rfl ?_
          obtain ⟨b50, e51, h⟩ := h
          rw [e51]
          refine at_iload_n (i := 1) 1 84 rfl (by decide +kernel) rfl ?_
          obtain ⟨k52, h⟩ := h
          obtain ⟨v53, h⟩ := h
          refine at_iald 85 rfl (by decide +kernel) k52 v53 ?_
          refine at_callV mb_RF_receipt_IIII tw_1457 tw_49 cok12 k41 (index := 351) tw_1455 [.int ((0 : Int32)), .int (mI m38 b46 l1.toNatClampNeg), .int (l2), .int (mI m38 b50 l1.toNatClampNeg)] [] rfl rfl (by decide) 88 rfl (by decide +kernel) (Call.toI (CI.monoE h (fun x54 m55 h y56 => ?_)))
          have k57 : mK m55 t = 13 := y56.k k41 (by decide)
          have k58 : mK m55 b11 = 15 := y56.k k42 (by decide)
          have k59 : mK m55 b22 = 15 := y56.k k43 (by decide)
          have k60 : mK m55 b46 = 15 := y56.k k48 (by decide)
          have k61 : mK m55 b50 = 15 := y56.k k52 (by decide)
          have e62 : mR m55 t 41 = some b11 := y56.r k41 (by decide) rfl e44
          have e63 : mR m55 t 33 = some b22 := y56.r k41 (by decide) rfl e45
          have e64 : mR m55 t 40 = some b46 := y56.r k41 (by decide) rfl e47
          have e65 : mR m55 t 42 = some b50 := y56.r k41 (by decide) rfl e51
          exact at_iret rfl (by decide +kernel) h
        · rw [if_neg c35] at h
          refine at_bipush (n := (-7)) (-7 : Int32) 59 rfl (by decide +kernel) (by decide +kernel) ?_
          exact at_iret rfl (by decide +kernel) h
      · rw [if_pos c26] at h
        refine at_bipush (n := (-3)) (-3 : Int32) 48 rfl (by decide +kernel) (by decide +kernel) ?_
        exact at_iret rfl (by decide +kernel) h
    · rw [if_pos c21] at h
      refine at_bipush (n := (-2)) (-2 : Int32) 33 rfl (by decide +kernel) (by decide +kernel) ?_
      exact at_iret rfl (by decide +kernel) h
set_option maxRecDepth 20000 in
set_option maxHeartbeats 4000000 in
theorem en_RF_give (g : Gc) {lv : Nat} {t : Nat} {l1 : Int32} {l2 : Int32} {m : Mm} {Q : Int32 → Mm → Prop} (h : mK m t = 13 ∧ (∀ m2, m2 = sI m t 0 (0 : Int32) → (CI g M_RF_isFull lv [va_rf (some t), .int (l1)] m2 (fun x6 m7 => (if (x6) = 0 then (Q (-2 : Int32) m7) else (CI g M_RF_isGrower lv [va_rf (some t), .int (l2)] m7 (fun x11 m12 => (if (x11) = 0 then (Q (-2 : Int32) m12) else (CI g M_RF_isPledged lv [va_rf (some t), .int (l1)] m12 (fun x16 m17 => (if (x16) = 0 then (∃ b21, mR m17 t 40 = some b21 ∧ (mK m17 b21 = 15 ∧ (vp_in l1 (mN m17 b21) ∧ (∀ m25, m25 = sI m17 b21 l1.toNatClampNeg l2 → (Q (0 : Int32) m25))))) else (Q (-7 : Int32) m17)))))))))))) : CI g M_RF_give (lv + 1) [va_rf (some t), .int (l1), .int (l2)] m Q := by
  refine Call.of (by decide +kernel) (Nat.le_of_ble_eq_true rfl) ?_
  show At g M_RF_give (lv + 1) 0 [(0, va_rf (some t)), (1, .int (l1)), (2, .int (l2))] [] m (QI Q)
  refine at_aload_n (i := 0) 0 1 rfl (by decide +kernel) rfl ?_
  refine at_iconst (n := 0) (0 : Int32) 2 rfl (by decide +kernel) (by decide +kernel) ?_
  obtain ⟨k1, h⟩ := h
  refine at_putI (index := 149) cok12 0 5 rfl (by decide +kernel) k1 (by decide +kernel) tw_1085 rfl rfl rfl (fun m2 e3 => ?_)
  replace h := h m2 e3
  have x4 : Ext m m2 := by rw [e3]; exact Ext.sI _ _ _ _
  have k5 : mK m2 t = 13 := x4.k k1 (by decide)
  refine at_aload_n (i := 0) 0 6 rfl (by decide +kernel) rfl ?_
  refine at_iload_n (i := 1) 1 7 rfl (by decide +kernel) rfl ?_
  refine at_callV mb_RF_isFull tw_1506 tw_59 cok12 k5 (index := 383) tw_1504 [.int (l1)] [] rfl rfl (by decide) 10 rfl (by decide +kernel) (Call.toI (CI.monoE h (fun x6 m7 h y8 => ?_)))
  have k9 : mK m7 t = 13 := y8.k k5 (by decide)
  refine at_if_eq (off := 11) 21 13 rfl (by decide +kernel) (by decide +kernel) (fun c10 => ?_) (fun c10 => ?_)
  · rw [if_pos c10] at h
    refine at_bipush (n := (-2)) (-2 : Int32) 23 rfl (by decide +kernel) (by decide +kernel) ?_
    exact at_iret rfl (by decide +kernel) h
  · rw [if_neg c10] at h
    refine at_aload_n (i := 0) 0 14 rfl (by decide +kernel) rfl ?_
    refine at_iload_n (i := 2) 2 15 rfl (by decide +kernel) rfl ?_
    refine at_callV mb_RF_isGrower tw_1430 tw_45 cok12 k9 (index := 336) tw_1428 [.int (l2)] [] rfl rfl (by decide) 18 rfl (by decide +kernel) (Call.toI (CI.monoE h (fun x11 m12 h y13 => ?_)))
    have k14 : mK m12 t = 13 := y13.k k9 (by decide)
    refine at_if_ne (off := 6) 24 21 rfl (by decide +kernel) (by decide +kernel) (fun c15 => ?_) (fun c15 => ?_)
    · rw [if_neg c15] at h
      refine at_aload_n (i := 0) 0 25 rfl (by decide +kernel) rfl ?_
      refine at_iload_n (i := 1) 1 26 rfl (by decide +kernel) rfl ?_
      refine at_callV mb_RF_isPledged tw_1510 tw_60 cok12 k14 (index := 386) tw_1508 [.int (l1)] [] rfl rfl (by decide) 29 rfl (by decide +kernel) (Call.toI (CI.monoE h (fun x16 m17 h y18 => ?_)))
      have k19 : mK m17 t = 13 := y18.k k14 (by decide)
      refine at_if_eq (off := 6) 35 32 rfl (by decide +kernel) (by decide +kernel) (fun c20 => ?_) (fun c20 => ?_)
      · rw [if_pos c20] at h
        refine at_aload_n (i := 0) 0 36 rfl (by decide +kernel) rfl ?_
        refine at_get (index := 122) (v := va_rf (mR m17 t 40)) cok12 40 39 rfl (by decide +kernel) k19 (by decide +kernel) tw_1125 rfl ?_
        obtain ⟨b21, e22, h⟩ := h
        rw [e22]
        refine at_iload_n (i := 1) 1 40 rfl (by decide +kernel) rfl ?_
        refine at_iload_n (i := 2) 2 41 rfl (by decide +kernel) rfl ?_
        obtain ⟨k23, h⟩ := h
        obtain ⟨v24, h⟩ := h
        refine at_iast 42 rfl (by decide +kernel) k23 v24 (fun m25 e26 => ?_)
        replace h := h m25 e26
        have x27 : Ext m17 m25 := by rw [e26]; exact Ext.sI _ _ _ _
        have k28 : mK m25 t = 13 := x27.k k19 (by decide)
        have k29 : mK m25 b21 = 15 := x27.k k23 (by decide)
        have e30 : mR m25 t 40 = some b21 := x27.r k19 (by decide) rfl e22
        refine at_iconst (n := 0) (0 : Int32) 43 rfl (by decide +kernel) (by decide +kernel) ?_
        exact at_iret rfl (by decide +kernel) h
      · rw [if_neg c20] at h
        refine at_bipush (n := (-7)) (-7 : Int32) 34 rfl (by decide +kernel) (by decide +kernel) ?_
        exact at_iret rfl (by decide +kernel) h
    · rw [if_pos c15] at h
      refine at_bipush (n := (-2)) (-2 : Int32) 23 rfl (by decide +kernel) (by decide +kernel) ?_
      exact at_iret rfl (by decide +kernel) h
set_option maxRecDepth 20000 in
set_option maxHeartbeats 4000000 in
theorem bk_RF_pledge_146 (g : Gc) {lv : Nat} {t : Nat} {l1 : Int32} {l2 : Int32} {l3 : Int32} {l4 : Int32} {l5 : Int64} {m : Mm} {Q : Int64 → Mm → Prop} (h : if (l5) = ((0 : Int64)) then (Q (-8 : Int64) m) else (mK m t = 13 ∧ (∃ b3, mR m t 39 = some b3 ∧ (∃ b5, mR m t 40 = some b5 ∧ (mK m b5 = 15 ∧ (vp_in l1 (mN m b5) ∧ (mK m b3 = 16 ∧ (vp_in (mI m b5 l1.toNatClampNeg) (mN m b3) ∧ (vp_in (mI m b5 l1.toNatClampNeg) (mN m b3) ∧ (∀ m12, m12 = sL m b3 (mI m b5 l1.toNatClampNeg).toNatClampNeg ((mL m b3 (mI m b5 l1.toNatClampNeg).toNatClampNeg) + l5) → (vp_in ((12 : Int32) + l2) (mN m12 b3) ∧ (vp_in ((12 : Int32) + l2) (mN m12 b3) ∧ (∀ m22, m22 = sL m12 b3 ((12 : Int32) + l2).toNatClampNeg ((mL m12 b3 ((12 : Int32) + l2).toNatClampNeg) - l5) → (∃ b30, mR m22 t 44 = some b30 ∧ (mK m22 b30 = 15 ∧ (vp_in (((2 : Int32) * l1) + l4) (mN m22 b30) ∧ (∀ m34, m34 = sI m22 b30 (((2 : Int32) * l1) + l4).toNatClampNeg l2 → (∃ b44, mR m34 t 46 = some b44 ∧ (∃ b46, mR m34 t 13 = some b46 ∧ (mK m34 b46 = 15 ∧ (vp_in l2 (mN m34 b46) ∧ (mK m34 b44 = 16 ∧ (vp_in (((2 : Int32) * l1) + l4) (mN m34 b44) ∧ (∀ m52, m52 = sL m34 b44 (((2 : Int32) * l1) + l4).toNatClampNeg ((l5 * (((100 : Int32) + (mI m34 b46 l2.toNatClampNeg)).toInt64)) / (100 : Int64)) → (∃ b66, mR m52 t 45 = some b66 ∧ (∃ b68, mR m52 t 31 = some b68 ∧ (mK m52 b68 = 15 ∧ (vp_in (0 : Int32) (mN m52 b68) ∧ (mK m52 b66 = 15 ∧ (vp_in (((2 : Int32) * l1) + l4) (mN m52 b66) ∧ (∀ m74, m74 = sI m52 b66 (((2 : Int32) * l1) + l4).toNatClampNeg ((mI m52 b68 (0 : Int32).toNatClampNeg) + l3) → (Q l5 m74)))))))))))))))))))))))))))))))) : At g M_RF_pledge (lv + 1) 146 [(0, va_rf (some t)), (1, .int (l1)), (2, .int (l2)), (3, .int (l3)), (4, .int (l4)), (5, .long (l5))] [] m (QJ Q) := by
  refine at_lload (i := 5) 5 148 rfl (by decide +kernel) rfl ?_
  refine at_lconst (n := 0) (0 : Int64) 149 rfl (by decide +kernel) (by decide +kernel) ?_
  refine at_lif_ne (off := 7) 150 157 153 rfl rfl (by decide +kernel) (by decide +kernel) (by decide +kernel) (fun c1 => ?_) (fun c1 => ?_)
  · rw [if_neg c1] at h
    refine at_aload_n (i := 0) 0 158 rfl (by decide +kernel) rfl ?_
    obtain ⟨k2, h⟩ := h
    refine at_get (index := 119) (v := va_rf (mR m t 39)) cok12 39 161 rfl (by decide +kernel) k2 (by decide +kernel) tw_1124 rfl ?_
    obtain ⟨b3, e4, h⟩ := h
    rw [e4]
    refine at_aload_n (i := 0) 0 162 rfl (by decide +kernel) rfl ?_
    refine at_get (index := 122) (v := va_rf (mR m t 40)) cok12 40 165 rfl (by decide +kernel) k2 (by decide +kernel) tw_1125 rfl ?_
    obtain ⟨b5, e6, h⟩ := h
    rw [e6]
    refine at_iload_n (i := 1) 1 166 rfl (by decide +kernel) rfl ?_
    obtain ⟨k7, h⟩ := h
    obtain ⟨v8, h⟩ := h
    refine at_iald 167 rfl (by decide +kernel) k7 v8 ?_
    refine at_dup2_11 168 rfl (by decide +kernel) rfl (va_rf_cat _) ?_
    obtain ⟨k9, h⟩ := h
    obtain ⟨v10, h⟩ := h
    refine at_lald 169 rfl (by decide +kernel) k9 v10 ?_
    refine at_lload (i := 5) 5 171 rfl (by decide +kernel) rfl ?_
    refine at_ladd 172 rfl (by decide +kernel) ?_
    obtain ⟨v11, h⟩ := h
    refine at_last 173 rfl (by decide +kernel) k9 v11 (fun m12 e13 => ?_)
    replace h := h m12 e13
    have x14 : Ext m m12 := by rw [e13]; exact Ext.sL _ _ _ _
    have k15 : mK m12 t = 13 := x14.k k2 (by decide)
    have k16 : mK m12 b5 = 15 := x14.k k7 (by decide)
    have k17 : mK m12 b3 = 16 := x14.k k9 (by decide)
    have e18 : mR m12 t 39 = some b3 := x14.r k2 (by decide) rfl e4
    have e19 : mR m12 t 40 = some b5 := x14.r k2 (by decide) rfl e6
    refine at_aload_n (i := 0) 0 174 rfl (by decide +kernel) rfl ?_
    refine at_get (index := 119) (v := va_rf (mR m12 t 39)) cok12 39 177 rfl (by decide +kernel) k15 (by decide +kernel) tw_1124 rfl ?_
    rw [e18]
    refine at_bipush (n := 12) (12 : Int32) 179 rfl (by decide +kernel) (by decide +kernel) ?_
    refine at_iload_n (i := 2) 2 180 rfl (by decide +kernel) rfl ?_
    refine at_iadd 181 rfl (by decide +kernel) ?_
    refine at_dup2_11 182 rfl (by decide +kernel) rfl (va_rf_cat _) ?_
    obtain ⟨v20, h⟩ := h
    refine at_lald 183 rfl (by decide +kernel) k17 v20 ?_
    refine at_lload (i := 5) 5 185 rfl (by decide +kernel) rfl ?_
    refine at_lsub 186 rfl (by decide +kernel) ?_
    obtain ⟨v21, h⟩ := h
    refine at_last 187 rfl (by decide +kernel) k17 v21 (fun m22 e23 => ?_)
    replace h := h m22 e23
    have x24 : Ext m12 m22 := by rw [e23]; exact Ext.sL _ _ _ _
    have k25 : mK m22 t = 13 := x24.k k15 (by decide)
    have k26 : mK m22 b5 = 15 := x24.k k16 (by decide)
    have k27 : mK m22 b3 = 16 := x24.k k17 (by decide)
    have e28 : mR m22 t 39 = some b3 := x24.r k15 (by decide) rfl e18
    have e29 : mR m22 t 40 = some b5 := x24.r k15 (by decide) rfl e19
    refine at_aload_n (i := 0) 0 188 rfl (by decide +kernel) rfl ?_
    refine at_get (index := 134) (v := va_rf (mR m22 t 44)) cok12 44 191 rfl (by decide +kernel) k25 (by decide +kernel) tw_1129 rfl ?_
    obtain ⟨b30, e31, h⟩ := h
    rw [e31]
    refine at_iconst (n := 2) (2 : Int32) 192 rfl (by decide +kernel) (by decide +kernel) ?_
    refine at_iload_n (i := 1) 1 193 rfl (by decide +kernel) rfl ?_
    refine at_imul 194 rfl (by decide +kernel) ?_
    refine at_iload (i := 4) 4 196 rfl (by decide +kernel) rfl ?_
    refine at_iadd 197 rfl (by decide +kernel) ?_
    refine at_iload_n (i := 2) 2 198 rfl (by decide +kernel) rfl ?_
    obtain ⟨k32, h⟩ := h
    obtain ⟨v33, h⟩ := h
    refine at_iast 199 rfl (by decide +kernel) k32 v33 (fun m34 e35 => ?_)
    replace h := h m34 e35
    have x36 : Ext m22 m34 := by rw [e35]; exact Ext.sI _ _ _ _
    have k37 : mK m34 t = 13 := x36.k k25 (by decide)
    have k38 : mK m34 b5 = 15 := x36.k k26 (by decide)
    have k39 : mK m34 b3 = 16 := x36.k k27 (by decide)
    have k40 : mK m34 b30 = 15 := x36.k k32 (by decide)
    have e41 : mR m34 t 39 = some b3 := x36.r k25 (by decide) rfl e28
    have e42 : mR m34 t 40 = some b5 := x36.r k25 (by decide) rfl e29
    have e43 : mR m34 t 44 = some b30 := x36.r k25 (by decide) rfl e31
    refine at_aload_n (i := 0) 0 200 rfl (by decide +kernel) rfl ?_
    refine at_get (index := 140) (v := va_rf (mR m34 t 46)) cok12 46 203 rfl (by decide +kernel) k37 (by decide +kernel) tw_1131 rfl ?_
    obtain ⟨b44, e45, h⟩ := h
    rw [e45]
    refine at_iconst (n := 2) (2 : Int32) 204 rfl (by decide +kernel) (by decide +kernel) ?_
    refine at_iload_n (i := 1) 1 205 rfl (by decide +kernel) rfl ?_
    refine at_imul 206 rfl (by decide +kernel) ?_
    refine at_iload (i := 4) 4 208 rfl (by decide +kernel) rfl ?_
    refine at_iadd 209 rfl (by decide +kernel) ?_
    refine at_lload (i := 5) 5 211 rfl (by decide +kernel) rfl ?_
    refine at_bipush (n := 100) (100 : Int32) 213 rfl (by decide +kernel) (by decide +kernel) ?_
    refine at_aload_n (i := 0) 0 214 rfl (by decide +kernel) rfl ?_
    refine at_get (index := 45) (v := va_rf (mR m34 t 13)) cok12 13 217 rfl (by decide +kernel) k37 (by decide +kernel) tw_1098 rfl ?_
    obtain ⟨b46, e47, h⟩ := h
    rw [e47]
    refine at_iload_n (i := 2) 2 218 rfl (by decide +kernel) rfl ?_
    obtain ⟨k48, h⟩ := h
    obtain ⟨v49, h⟩ := h
    refine at_iald 219 rfl (by decide +kernel) k48 v49 ?_
    refine at_iadd 220 rfl (by decide +kernel) ?_
    refine at_i2l 221 rfl (by decide +kernel) ?_
    refine at_lmul 222 rfl (by decide +kernel) ?_
    refine at_ldc2 (index := 174) (100 : Int64) 225 rfl (by decide +kernel) tw_1318 ?_
    refine at_ldiv 226 rfl (by decide +kernel) (by decide +kernel) ?_
    obtain ⟨k50, h⟩ := h
    obtain ⟨v51, h⟩ := h
    refine at_last 227 rfl (by decide +kernel) k50 v51 (fun m52 e53 => ?_)
    replace h := h m52 e53
    have x54 : Ext m34 m52 := by rw [e53]; exact Ext.sL _ _ _ _
    have k55 : mK m52 t = 13 := x54.k k37 (by decide)
    have k56 : mK m52 b5 = 15 := x54.k k38 (by decide)
    have k57 : mK m52 b3 = 16 := x54.k k39 (by decide)
    have k58 : mK m52 b30 = 15 := x54.k k40 (by decide)
    have k59 : mK m52 b46 = 15 := x54.k k48 (by decide)
    have k60 : mK m52 b44 = 16 := x54.k k50 (by decide)
    have e61 : mR m52 t 39 = some b3 := x54.r k37 (by decide) rfl e41
    have e62 : mR m52 t 40 = some b5 := x54.r k37 (by decide) rfl e42
    have e63 : mR m52 t 44 = some b30 := x54.r k37 (by decide) rfl e43
    have e64 : mR m52 t 46 = some b44 := x54.r k37 (by decide) rfl e45
    have e65 : mR m52 t 13 = some b46 := x54.r k37 (by decide) rfl e47
    refine at_aload_n (i := 0) 0 228 rfl (by decide +kernel) rfl ?_
    refine at_get (index := 137) (v := va_rf (mR m52 t 45)) cok12 45 231 rfl (by decide +kernel) k55 (by decide +kernel) tw_1130 rfl ?_
    obtain ⟨b66, e67, h⟩ := h
    rw [e67]
    refine at_iconst (n := 2) (2 : Int32) 232 rfl (by decide +kernel) (by decide +kernel) ?_
    refine at_iload_n (i := 1) 1 233 rfl (by decide +kernel) rfl ?_
    refine at_imul 234 rfl (by decide +kernel) ?_
    refine at_iload (i := 4) 4 236 rfl (by decide +kernel) rfl ?_
    refine at_iadd 237 rfl (by decide +kernel) ?_
    refine at_aload_n (i := 0) 0 238 rfl (by decide +kernel) rfl ?_
    refine at_get (index := 95) (v := va_rf (mR m52 t 31)) cok12 31 241 rfl (by decide +kernel) k55 (by decide +kernel) tw_1116 rfl ?_
    obtain ⟨b68, e69, h⟩ := h
    rw [e69]
    refine at_iconst (n := 0) (0 : Int32) 242 rfl (by decide +kernel) (by decide +kernel) ?_
    obtain ⟨k70, h⟩ := h
    obtain ⟨v71, h⟩ := h
    refine at_iald 243 rfl (by decide +kernel) k70 v71 ?_
    refine at_iload_n (i := 3) 3 244 rfl (by decide +kernel) rfl ?_
    refine at_iadd 245 rfl (by decide +kernel) ?_
    obtain ⟨k72, h⟩ := h
    obtain ⟨v73, h⟩ := h
    refine at_iast 246 rfl (by decide +kernel) k72 v73 (fun m74 e75 => ?_)
    replace h := h m74 e75
    have x76 : Ext m52 m74 := by rw [e75]; exact Ext.sI _ _ _ _
    have k77 : mK m74 t = 13 := x76.k k55 (by decide)
    have k78 : mK m74 b5 = 15 := x76.k k56 (by decide)
    have k79 : mK m74 b3 = 16 := x76.k k57 (by decide)
    have k80 : mK m74 b30 = 15 := x76.k k58 (by decide)
    have k81 : mK m74 b46 = 15 := x76.k k59 (by decide)
    have k82 : mK m74 b44 = 16 := x76.k k60 (by decide)
    have k83 : mK m74 b68 = 15 := x76.k k70 (by decide)
    have k84 : mK m74 b66 = 15 := x76.k k72 (by decide)
    have e85 : mR m74 t 39 = some b3 := x76.r k55 (by decide) rfl e61
    have e86 : mR m74 t 40 = some b5 := x76.r k55 (by decide) rfl e62
    have e87 : mR m74 t 44 = some b30 := x76.r k55 (by decide) rfl e63
    have e88 : mR m74 t 46 = some b44 := x76.r k55 (by decide) rfl e64
    have e89 : mR m74 t 13 = some b46 := x76.r k55 (by decide) rfl e65
    have e90 : mR m74 t 45 = some b66 := x76.r k55 (by decide) rfl e67
    have e91 : mR m74 t 31 = some b68 := x76.r k55 (by decide) rfl e69
    refine at_lload (i := 5) 5 248 rfl (by decide +kernel) rfl ?_
    exact at_lret rfl (by decide +kernel) h
  · rw [if_pos c1] at h
    refine at_ldc2 (index := 395) (-8 : Int64) 156 rfl (by decide +kernel) tw_1523 ?_
    exact at_lret rfl (by decide +kernel) h
set_option maxRecDepth 20000 in
set_option maxHeartbeats 4000000 in
theorem bk_RF_pledge_103 (g : Gc) {lv : Nat} {t : Nat} {l1 : Int32} {l2 : Int32} {l3 : Int32} {l4 : Int32} {m : Mm} {Q : Int64 → Mm → Prop} (h : mK m t = 13 ∧ (∃ b2, mR m t 41 = some b2 ∧ (mK m b2 = 15 ∧ (vp_in l1 (mN m b2) ∧ (∃ b6, mR m t 32 = some b6 ∧ (mK m b6 = 15 ∧ (vp_in (0 : Int32) (mN m b6) ∧ (∃ b10, mR m t 12 = some b10 ∧ (mK m b10 = 15 ∧ (vp_in l2 (mN m b10) ∧ (if (l4) = ((1 : Int32)) then (At g M_RF_pledge (lv + 1) 146 [(0, va_rf (some t)), (1, .int (l1)), (2, .int (l2)), (3, .int (l3)), (4, .int (l4)), (5, .long ((((((mI m b2 l1.toNatClampNeg).toInt64) * ((mI m b6 (0 : Int32).toNatClampNeg).toInt64)) * ((mI m b10 l2.toNatClampNeg).toInt64)) / (100 : Int64)) / (2 : Int64)))] [] m (QJ Q)) else (At g M_RF_pledge (lv + 1) 146 [(0, va_rf (some t)), (1, .int (l1)), (2, .int (l2)), (3, .int (l3)), (4, .int (l4)), (5, .long (((((mI m b2 l1.toNatClampNeg).toInt64) * ((mI m b6 (0 : Int32).toNatClampNeg).toInt64)) * ((mI m b10 l2.toNatClampNeg).toInt64)) / (100 : Int64)))] [] m (QJ Q))))))))))))) : At g M_RF_pledge (lv + 1) 103 [(0, va_rf (some t)), (1, .int (l1)), (2, .int (l2)), (3, .int (l3)), (4, .int (l4))] [] m (QJ Q) := by
  refine at_aload_n (i := 0) 0 104 rfl (by decide +kernel) rfl ?_
  obtain ⟨k1, h⟩ := h
  refine at_get (index := 125) (v := va_rf (mR m t 41)) cok12 41 107 rfl (by decide +kernel) k1 (by decide +kernel) tw_1126 rfl ?_
  obtain ⟨b2, e3, h⟩ := h
  rw [e3]
  refine at_iload_n (i := 1) 1 108 rfl (by decide +kernel) rfl ?_
  obtain ⟨k4, h⟩ := h
  obtain ⟨v5, h⟩ := h
  refine at_iald 109 rfl (by decide +kernel) k4 v5 ?_
  refine at_i2l 110 rfl (by decide +kernel) ?_
  refine at_aload_n (i := 0) 0 111 rfl (by decide +kernel) rfl ?_
  refine at_get (index := 98) (v := va_rf (mR m t 32)) cok12 32 114 rfl (by decide +kernel) k1 (by decide +kernel) tw_1117 rfl ?_
  obtain ⟨b6, e7, h⟩ := h
  rw [e7]
  refine at_iconst (n := 0) (0 : Int32) 115 rfl (by decide +kernel) (by decide +kernel) ?_
  obtain ⟨k8, h⟩ := h
  obtain ⟨v9, h⟩ := h
  refine at_iald 116 rfl (by decide +kernel) k8 v9 ?_
  refine at_i2l 117 rfl (by decide +kernel) ?_
  refine at_lmul 118 rfl (by decide +kernel) ?_
  refine at_aload_n (i := 0) 0 119 rfl (by decide +kernel) rfl ?_
  refine at_get (index := 42) (v := va_rf (mR m t 12)) cok12 12 122 rfl (by decide +kernel) k1 (by decide +kernel) tw_1097 rfl ?_
  obtain ⟨b10, e11, h⟩ := h
  rw [e11]
  refine at_iload_n (i := 2) 2 123 rfl (by decide +kernel) rfl ?_
  obtain ⟨k12, h⟩ := h
  obtain ⟨v13, h⟩ := h
  refine at_iald 124 rfl (by decide +kernel) k12 v13 ?_
  refine at_i2l 125 rfl (by decide +kernel) ?_
  refine at_lmul 126 rfl (by decide +kernel) ?_
  refine at_ldc2 (index := 174) (100 : Int64) 129 rfl (by decide +kernel) tw_1318 ?_
  refine at_ldiv 130 rfl (by decide +kernel) (by decide +kernel) ?_
  refine at_lstore (i := 5) (lc' := [(0, va_rf (some t)), (1, .int (l1)), (2, .int (l2)), (3, .int (l3)), (4, .int (l4)), (5, .long (((((mI m b2 l1.toNatClampNeg).toInt64) * ((mI m b6 (0 : Int32).toNatClampNeg).toInt64)) * ((mI m b10 l2.toNatClampNeg).toInt64)) / (100 : Int64)))]) [1, 2, 3, 4, 5, 0] 132 rfl (by decide +kernel) (by decide +kernel) rfl ?_
  refine at_iload (i := 4) 4 134 rfl (by decide +kernel) rfl ?_
  refine at_iconst (n := 1) (1 : Int32) 135 rfl (by decide +kernel) (by decide +kernel) ?_
  refine at_icmp_ne (off := 11) 146 138 rfl (by decide +kernel) (by decide +kernel) (fun c14 => ?_) (fun c14 => ?_)
  · rw [if_neg c14] at h
    exact h
  · rw [if_pos c14] at h
    refine at_lload (i := 5) 5 140 rfl (by decide +kernel) rfl ?_
    refine at_ldc2 (index := 181) (2 : Int64) 143 rfl (by decide +kernel) tw_1324 ?_
    refine at_ldiv 144 rfl (by decide +kernel) (by decide +kernel) ?_
    refine at_lstore (i := 5) (lc' := [(0, va_rf (some t)), (1, .int (l1)), (2, .int (l2)), (3, .int (l3)), (4, .int (l4)), (5, .long ((((((mI m b2 l1.toNatClampNeg).toInt64) * ((mI m b6 (0 : Int32).toNatClampNeg).toInt64)) * ((mI m b10 l2.toNatClampNeg).toInt64)) / (100 : Int64)) / (2 : Int64)))]) [1, 2, 3, 4, 5, 0] 146 rfl (by decide +kernel) (by decide +kernel) rfl ?_
    exact h
set_option maxRecDepth 20000 in
set_option maxHeartbeats 4000000 in
theorem bk_RF_pledge_65 (g : Gc) {lv : Nat} {t : Nat} {l1 : Int32} {l2 : Int32} {l3 : Int32} {s0 : Int32} {m : Mm} {Q : Int64 → Mm → Prop} (h : mK m t = 13 ∧ (∃ b2, mR m t 44 = some b2 ∧ (mK m b2 = 15 ∧ (vp_in (((2 : Int32) * l1) + (1 : Int32)) (mN m b2) ∧ (if (mI m b2 (((2 : Int32) * l1) + (1 : Int32)).toNatClampNeg) = ((-1 : Int32)) then (if (s0) = ((1 : Int32)) then (vp_in ((2 : Int32) * l1) (mN m b2) ∧ (if (mI m b2 ((2 : Int32) * l1).toNatClampNeg) = (l2) then (Q (-7 : Int64) m) else (At g M_RF_pledge (lv + 1) 103 [(0, va_rf (some t)), (1, .int (l1)), (2, .int (l2)), (3, .int (l3)), (4, .int (s0))] [] m (QJ Q)))) else (At g M_RF_pledge (lv + 1) 103 [(0, va_rf (some t)), (1, .int (l1)), (2, .int (l2)), (3, .int (l3)), (4, .int (s0))] [] m (QJ Q))) else (Q (-7 : Int64) m)))))) : At g M_RF_pledge (lv + 1) 65 [(0, va_rf (some t)), (1, .int (l1)), (2, .int (l2)), (3, .int (l3))] [.int (s0)] m (QJ Q) := by
  refine at_istore (i := 4) (lc' := [(0, va_rf (some t)), (1, .int (l1)), (2, .int (l2)), (3, .int (l3)), (4, .int (s0))]) [1, 2, 3, 4, 0] 67 rfl (by decide +kernel) (by decide +kernel) rfl ?_
  refine at_aload_n (i := 0) 0 68 rfl (by decide +kernel) rfl ?_
  obtain ⟨k1, h⟩ := h
  refine at_get (index := 134) (v := va_rf (mR m t 44)) cok12 44 71 rfl (by decide +kernel) k1 (by decide +kernel) tw_1129 rfl ?_
  obtain ⟨b2, e3, h⟩ := h
  rw [e3]
  refine at_iconst (n := 2) (2 : Int32) 72 rfl (by decide +kernel) (by decide +kernel) ?_
  refine at_iload_n (i := 1) 1 73 rfl (by decide +kernel) rfl ?_
  refine at_imul 74 rfl (by decide +kernel) ?_
  refine at_iconst (n := 1) (1 : Int32) 75 rfl (by decide +kernel) (by decide +kernel) ?_
  refine at_iadd 76 rfl (by decide +kernel) ?_
  obtain ⟨k4, h⟩ := h
  obtain ⟨v5, h⟩ := h
  refine at_iald 77 rfl (by decide +kernel) k4 v5 ?_
  refine at_iconst (n := (-1)) (-1 : Int32) 78 rfl (by decide +kernel) (by decide +kernel) ?_
  refine at_icmp_ne (off := 21) 99 81 rfl (by decide +kernel) (by decide +kernel) (fun c6 => ?_) (fun c6 => ?_)
  · rw [if_neg c6] at h
    refine at_ldc2 (index := 393) (-7 : Int64) 102 rfl (by decide +kernel) tw_1522 ?_
    exact at_lret rfl (by decide +kernel) h
  · rw [if_pos c6] at h
    refine at_iload (i := 4) 4 83 rfl (by decide +kernel) rfl ?_
    refine at_iconst (n := 1) (1 : Int32) 84 rfl (by decide +kernel) (by decide +kernel) ?_
    refine at_icmp_ne (off := 19) 103 87 rfl (by decide +kernel) (by decide +kernel) (fun c7 => ?_) (fun c7 => ?_)
    · rw [if_neg c7] at h
      exact h
    · rw [if_pos c7] at h
      refine at_aload_n (i := 0) 0 88 rfl (by decide +kernel) rfl ?_
      refine at_get (index := 134) (v := va_rf (mR m t 44)) cok12 44 91 rfl (by decide +kernel) k1 (by decide +kernel) tw_1129 rfl ?_
      rw [e3]
      refine at_iconst (n := 2) (2 : Int32) 92 rfl (by decide +kernel) (by decide +kernel) ?_
      refine at_iload_n (i := 1) 1 93 rfl (by decide +kernel) rfl ?_
      refine at_imul 94 rfl (by decide +kernel) ?_
      obtain ⟨v8, h⟩ := h
      refine at_iald 95 rfl (by decide +kernel) k4 v8 ?_
      refine at_iload_n (i := 2) 2 96 rfl (by decide +kernel) rfl ?_
      refine at_icmp_ne (off := 7) 103 99 rfl (by decide +kernel) (by decide +kernel) (fun c9 => ?_) (fun c9 => ?_)
      · rw [if_neg c9] at h
        exact h
      · rw [if_pos c9] at h
        refine at_ldc2 (index := 393) (-7 : Int64) 102 rfl (by decide +kernel) tw_1522 ?_
        exact at_lret rfl (by decide +kernel) h
set_option maxRecDepth 20000 in
set_option maxHeartbeats 4000000 in
theorem en_RF_pledge (g : Gc) {lv : Nat} {t : Nat} {l1 : Int32} {l2 : Int32} {l3 : Int32} {m : Mm} {Q : Int64 → Mm → Prop} (h : mK m t = 13 ∧ (∀ m2, m2 = sI m t 0 (0 : Int32) → (CI g M_RF_isFull lv [va_rf (some t), .int (l1)] m2 (fun x6 m7 => (if (x6) = 0 then (Q (-2 : Int64) m7) else (CI g M_RF_in lv [.long (l2.toInt64), .long ((0 : Int64)), .long ((2 : Int64))] m7 (fun x11 m12 => (if (x11) = 0 then (Q (-2 : Int64) m12) else (∃ b16, mR m12 t 40 = some b16 ∧ (mK m12 b16 = 15 ∧ (vp_in l1 (mN m12 b16) ∧ (if ((12 : Int32)) ≤ (mI m12 b16 l1.toNatClampNeg) then (Q (-2 : Int64) m12) else (CI g M_RF_in lv [.long (l3.toInt64), .long ((1 : Int64)), .long ((9 : Int64))] m12 (fun x21 m22 => (if (x21) = 0 then (Q (-2 : Int64) m22) else (CI g M_RF_isPledged lv [va_rf (some t), .int (l1)] m22 (fun x28 m29 => (if (x28) = 0 then (At g M_RF_pledge (lv + 1) 65 [(0, va_rf (some t)), (1, .int (l1)), (2, .int (l2)), (3, .int (l3))] [.int ((0 : Int32))] m29 (QJ Q)) else (At g M_RF_pledge (lv + 1) 65 [(0, va_rf (some t)), (1, .int (l1)), (2, .int (l2)), (3, .int (l3))] [.int ((1 : Int32))] m29 (QJ Q)))))))))))))))))))) : CJ g M_RF_pledge (lv + 1) [va_rf (some t), .int (l1), .int (l2), .int (l3)] m Q := by
  refine Call.of (by decide +kernel) (Nat.le_of_ble_eq_true rfl) ?_
  show At g M_RF_pledge (lv + 1) 0 [(0, va_rf (some t)), (1, .int (l1)), (2, .int (l2)), (3, .int (l3))] [] m (QJ Q)
  refine at_aload_n (i := 0) 0 1 rfl (by decide +kernel) rfl ?_
  refine at_iconst (n := 0) (0 : Int32) 2 rfl (by decide +kernel) (by decide +kernel) ?_
  obtain ⟨k1, h⟩ := h
  refine at_putI (index := 149) cok12 0 5 rfl (by decide +kernel) k1 (by decide +kernel) tw_1085 rfl rfl rfl (fun m2 e3 => ?_)
  replace h := h m2 e3
  have x4 : Ext m m2 := by rw [e3]; exact Ext.sI _ _ _ _
  have k5 : mK m2 t = 13 := x4.k k1 (by decide)
  refine at_aload_n (i := 0) 0 6 rfl (by decide +kernel) rfl ?_
  refine at_iload_n (i := 1) 1 7 rfl (by decide +kernel) rfl ?_
  refine at_callV mb_RF_isFull tw_1506 tw_59 cok12 k5 (index := 383) tw_1504 [.int (l1)] [] rfl rfl (by decide) 10 rfl (by decide +kernel) (Call.toI (CI.monoE h (fun x6 m7 h y8 => ?_)))
  have k9 : mK m7 t = 13 := y8.k k5 (by decide)
  refine at_if_eq (off := 38) 48 13 rfl (by decide +kernel) (by decide +kernel) (fun c10 => ?_) (fun c10 => ?_)
  · rw [if_pos c10] at h
    refine at_ldc2 (index := 391) (-2 : Int64) 51 rfl (by decide +kernel) tw_1521 ?_
    exact at_lret rfl (by decide +kernel) h
  · rw [if_neg c10] at h
    refine at_iload_n (i := 2) 2 14 rfl (by decide +kernel) rfl ?_
    refine at_i2l 15 rfl (by decide +kernel) ?_
    refine at_lconst (n := 0) (0 : Int64) 16 rfl (by decide +kernel) (by decide +kernel) ?_
    refine at_ldc2 (index := 181) (2 : Int64) 19 rfl (by decide +kernel) tw_1324 ?_
    refine at_callS mb_RF_in tw_1293 (index := 154) tw_1292 [.long (l2.toInt64), .long ((0 : Int64)), .long ((2 : Int64))] [] rfl rfl (by decide) 22 rfl (by decide +kernel) (Call.toI (CI.monoE h (fun x11 m12 h y13 => ?_)))
    have k14 : mK m12 t = 13 := y13.k k9 (by decide)
    refine at_if_eq (off := 26) 48 25 rfl (by decide +kernel) (by decide +kernel) (fun c15 => ?_) (fun c15 => ?_)
    · rw [if_pos c15] at h
      refine at_ldc2 (index := 391) (-2 : Int64) 51 rfl (by decide +kernel) tw_1521 ?_
      exact at_lret rfl (by decide +kernel) h
    · rw [if_neg c15] at h
      refine at_aload_n (i := 0) 0 26 rfl (by decide +kernel) rfl ?_
      refine at_get (index := 122) (v := va_rf (mR m12 t 40)) cok12 40 29 rfl (by decide +kernel) k14 (by decide +kernel) tw_1125 rfl ?_
      obtain ⟨b16, e17, h⟩ := h
      rw [e17]
      refine at_iload_n (i := 1) 1 30 rfl (by decide +kernel) rfl ?_
      obtain ⟨k18, h⟩ := h
      obtain ⟨v19, h⟩ := h
      refine at_iald 31 rfl (by decide +kernel) k18 v19 ?_
      refine at_bipush (n := 12) (12 : Int32) 33 rfl (by decide +kernel) (by decide +kernel) ?_
      refine at_icmp_ge (off := 15) 48 36 rfl (by decide +kernel) (by decide +kernel) (fun c20 => ?_) (fun c20 => ?_)
      · rw [if_pos c20] at h
        refine at_ldc2 (index := 391) (-2 : Int64) 51 rfl (by decide +kernel) tw_1521 ?_
        exact at_lret rfl (by decide +kernel) h
      · rw [if_neg c20] at h
        refine at_iload_n (i := 3) 3 37 rfl (by decide +kernel) rfl ?_
        refine at_i2l 38 rfl (by decide +kernel) ?_
        refine at_lconst (n := 1) (1 : Int64) 39 rfl (by decide +kernel) (by decide +kernel) ?_
        refine at_ldc2 (index := 389) (9 : Int64) 42 rfl (by decide +kernel) tw_1520 ?_
        refine at_callS mb_RF_in tw_1293 (index := 154) tw_1292 [.long (l3.toInt64), .long ((1 : Int64)), .long ((9 : Int64))] [] rfl rfl (by decide) 45 rfl (by decide +kernel) (Call.toI (CI.monoE h (fun x21 m22 h y23 => ?_)))
        have k24 : mK m22 t = 13 := y23.k k14 (by decide)
        have k25 : mK m22 b16 = 15 := y23.k k18 (by decide)
        have e26 : mR m22 t 40 = some b16 := y23.r k14 (by decide) rfl e17
        refine at_if_ne (off := 7) 52 48 rfl (by decide +kernel) (by decide +kernel) (fun c27 => ?_) (fun c27 => ?_)
        · rw [if_neg c27] at h
          refine at_aload_n (i := 0) 0 53 rfl (by decide +kernel) rfl ?_
          refine at_iload_n (i := 1) 1 54 rfl (by decide +kernel) rfl ?_
          refine at_callV mb_RF_isPledged tw_1510 tw_60 cok12 k24 (index := 386) tw_1508 [.int (l1)] [] rfl rfl (by decide) 57 rfl (by decide +kernel) (Call.toI (CI.monoE h (fun x28 m29 h y30 => ?_)))
          have k31 : mK m29 t = 13 := y30.k k24 (by decide)
          have k32 : mK m29 b16 = 15 := y30.k k25 (by decide)
          have e33 : mR m29 t 40 = some b16 := y30.r k24 (by decide) rfl e26
          refine at_if_eq (off := 7) 64 60 rfl (by decide +kernel) (by decide +kernel) (fun c34 => ?_) (fun c34 => ?_)
          · rw [if_pos c34] at h
            refine at_iconst (n := 0) (0 : Int32) 65 rfl (by decide +kernel) (by decide +kernel) ?_
            exact h
          · rw [if_neg c34] at h
            refine at_iconst (n := 1) (1 : Int32) 61 rfl (by decide +kernel) (by decide +kernel) ?_
            refine at_goto (off := 4) 65 (by decide +kernel) (by decide +kernel) ?_
            exact h
        · rw [if_pos c27] at h
          refine at_ldc2 (index := 391) (-2 : Int64) 51 rfl (by decide +kernel) tw_1521 ?_
          exact at_lret rfl (by decide +kernel) h
set_option maxRecDepth 20000 in
set_option maxHeartbeats 4000000 in
theorem en_RF_isLoan (g : Gc) {lv : Nat} {t : Nat} {l1 : Int32} {l2 : Int32} {m : Mm} {Q : Int32 → Mm → Prop} (h : mK m t = 13 ∧ (∃ b2, mR m t 33 = some b2 ∧ (mK m b2 = 15 ∧ (vp_in (0 : Int32) (mN m b2) ∧ (CI g M_RF_in lv [.long (l1.toInt64), .long ((0 : Int64)), .long (((mI m b2 (0 : Int32).toNatClampNeg) - (1 : Int32)).toInt64)] m (fun x6 m7 => (if (x6) = 0 then (Q (0 : Int32) m7) else (CI g M_RF_in lv [.long (l2.toInt64), .long ((1 : Int64)), .long ((2 : Int64))] m7 (fun x13 m14 => (if (x13) = 0 then (Q (0 : Int32) m14) else (∃ b20, mR m14 t 44 = some b20 ∧ (mK m14 b20 = 15 ∧ (vp_in ((((2 : Int32) * l1) + l2) - (1 : Int32)) (mN m14 b20) ∧ (if (mI m14 b20 ((((2 : Int32) * l1) + l2) - (1 : Int32)).toNatClampNeg) = ((-1 : Int32)) then (Q (0 : Int32) m14) else (Q (1 : Int32) m14))))))))))))))) : CI g M_RF_isLoan (lv + 1) [va_rf (some t), .int (l1), .int (l2)] m Q := by
  refine Call.of (by decide +kernel) (Nat.le_of_ble_eq_true rfl) ?_
  show At g M_RF_isLoan (lv + 1) 0 [(0, va_rf (some t)), (1, .int (l1)), (2, .int (l2))] [] m (QI Q)
  refine at_iload_n (i := 1) 1 1 rfl (by decide +kernel) rfl ?_
  refine at_i2l 2 rfl (by decide +kernel) ?_
  refine at_lconst (n := 0) (0 : Int64) 3 rfl (by decide +kernel) (by decide +kernel) ?_
  refine at_aload_n (i := 0) 0 4 rfl (by decide +kernel) rfl ?_
  obtain ⟨k1, h⟩ := h
  refine at_get (index := 101) (v := va_rf (mR m t 33)) cok12 33 7 rfl (by decide +kernel) k1 (by decide +kernel) tw_1118 rfl ?_
  obtain ⟨b2, e3, h⟩ := h
  rw [e3]
  refine at_iconst (n := 0) (0 : Int32) 8 rfl (by decide +kernel) (by decide +kernel) ?_
  obtain ⟨k4, h⟩ := h
  obtain ⟨v5, h⟩ := h
  refine at_iald 9 rfl (by decide +kernel) k4 v5 ?_
  refine at_iconst (n := 1) (1 : Int32) 10 rfl (by decide +kernel) (by decide +kernel) ?_
  refine at_isub 11 rfl (by decide +kernel) ?_
  refine at_i2l 12 rfl (by decide +kernel) ?_
  refine at_callS mb_RF_in tw_1293 (index := 154) tw_1292 [.long (l1.toInt64), .long ((0 : Int64)), .long (((mI m b2 (0 : Int32).toNatClampNeg) - (1 : Int32)).toInt64)] [] rfl rfl (by decide) 15 rfl (by decide +kernel) (Call.toI (CI.monoE h (fun x6 m7 h y8 => ?_)))
  have k9 : mK m7 t = 13 := y8.k k1 (by decide)
  have k10 : mK m7 b2 = 15 := y8.k k4 (by decide)
  have e11 : mR m7 t 33 = some b2 := y8.r k1 (by decide) rfl e3
  refine at_if_eq (off := 35) 50 18 rfl (by decide +kernel) (by decide +kernel) (fun c12 => ?_) (fun c12 => ?_)
  · rw [if_pos c12] at h
    refine at_iconst (n := 0) (0 : Int32) 51 rfl (by decide +kernel) (by decide +kernel) ?_
    exact at_zret rfl (by decide +kernel) (Or.inl rfl) h
  · rw [if_neg c12] at h
    refine at_iload_n (i := 2) 2 19 rfl (by decide +kernel) rfl ?_
    refine at_i2l 20 rfl (by decide +kernel) ?_
    refine at_lconst (n := 1) (1 : Int64) 21 rfl (by decide +kernel) (by decide +kernel) ?_
    refine at_ldc2 (index := 181) (2 : Int64) 24 rfl (by decide +kernel) tw_1324 ?_
    refine at_callS mb_RF_in tw_1293 (index := 154) tw_1292 [.long (l2.toInt64), .long ((1 : Int64)), .long ((2 : Int64))] [] rfl rfl (by decide) 27 rfl (by decide +kernel) (Call.toI (CI.monoE h (fun x13 m14 h y15 => ?_)))
    have k16 : mK m14 t = 13 := y15.k k9 (by decide)
    have k17 : mK m14 b2 = 15 := y15.k k10 (by decide)
    have e18 : mR m14 t 33 = some b2 := y15.r k9 (by decide) rfl e11
    refine at_if_eq (off := 23) 50 30 rfl (by decide +kernel) (by decide +kernel) (fun c19 => ?_) (fun c19 => ?_)
    · rw [if_pos c19] at h
      refine at_iconst (n := 0) (0 : Int32) 51 rfl (by decide +kernel) (by decide +kernel) ?_
      exact at_zret rfl (by decide +kernel) (Or.inl rfl) h
    · rw [if_neg c19] at h
      refine at_aload_n (i := 0) 0 31 rfl (by decide +kernel) rfl ?_
      refine at_get (index := 134) (v := va_rf (mR m14 t 44)) cok12 44 34 rfl (by decide +kernel) k16 (by decide +kernel) tw_1129 rfl ?_
      obtain ⟨b20, e21, h⟩ := h
      rw [e21]
      refine at_iconst (n := 2) (2 : Int32) 35 rfl (by decide +kernel) (by decide +kernel) ?_
      refine at_iload_n (i := 1) 1 36 rfl (by decide +kernel) rfl ?_
      refine at_imul 37 rfl (by decide +kernel) ?_
      refine at_iload_n (i := 2) 2 38 rfl (by decide +kernel) rfl ?_
      refine at_iadd 39 rfl (by decide +kernel) ?_
      refine at_iconst (n := 1) (1 : Int32) 40 rfl (by decide +kernel) (by decide +kernel) ?_
      refine at_isub 41 rfl (by decide +kernel) ?_
      obtain ⟨k22, h⟩ := h
      obtain ⟨v23, h⟩ := h
      refine at_iald 42 rfl (by decide +kernel) k22 v23 ?_
      refine at_iconst (n := (-1)) (-1 : Int32) 43 rfl (by decide +kernel) (by decide +kernel) ?_
      refine at_icmp_eq (off := 7) 50 46 rfl (by decide +kernel) (by decide +kernel) (fun c24 => ?_) (fun c24 => ?_)
      · rw [if_pos c24] at h
        refine at_iconst (n := 0) (0 : Int32) 51 rfl (by decide +kernel) (by decide +kernel) ?_
        exact at_zret rfl (by decide +kernel) (Or.inl rfl) h
      · rw [if_neg c24] at h
        refine at_iconst (n := 1) (1 : Int32) 47 rfl (by decide +kernel) (by decide +kernel) ?_
        refine at_goto (off := 4) 51 (by decide +kernel) (by decide +kernel) ?_
        exact at_zret rfl (by decide +kernel) (Or.inr rfl) h
set_option maxRecDepth 20000 in
set_option maxHeartbeats 4000000 in
theorem en_RF_ends (g : Gc) {lv : Nat} {t : Nat} {l1 : Int32} {l2 : Int32} {m : Mm} {Q : Mm → Prop} (h : if (l2) = ((1 : Int32)) then (mK m t = 13 ∧ (∃ b14, mR m t 44 = some b14 ∧ (mK m b14 = 15 ∧ (vp_in (((2 : Int32) * l1) + (1 : Int32)) (mN m b14) ∧ (vp_in ((2 : Int32) * l1) (mN m b14) ∧ (∀ m19, m19 = sI m b14 ((2 : Int32) * l1).toNatClampNeg (mI m b14 (((2 : Int32) * l1) + (1 : Int32)).toNatClampNeg) → (∃ b25, mR m19 t 46 = some b25 ∧ (mK m19 b25 = 16 ∧ (vp_in (((2 : Int32) * l1) + (1 : Int32)) (mN m19 b25) ∧ (vp_in ((2 : Int32) * l1) (mN m19 b25) ∧ (∀ m30, m30 = sL m19 b25 ((2 : Int32) * l1).toNatClampNeg (mL m19 b25 (((2 : Int32) * l1) + (1 : Int32)).toNatClampNeg) → (∃ b38, mR m30 t 45 = some b38 ∧ (mK m30 b38 = 15 ∧ (vp_in (((2 : Int32) * l1) + (1 : Int32)) (mN m30 b38) ∧ (vp_in ((2 : Int32) * l1) (mN m30 b38) ∧ (∀ m43, m43 = sI m30 b38 ((2 : Int32) * l1).toNatClampNeg (mI m30 b38 (((2 : Int32) * l1) + (1 : Int32)).toNatClampNeg) → (vp_in (((2 : Int32) * l1) + (1 : Int32)) (mN m43 b14) ∧ (∀ m54, m54 = sI m43 b14 (((2 : Int32) * l1) + (1 : Int32)).toNatClampNeg (-1 : Int32) → (Q m54))))))))))))))))))) else (mK m t = 13 ∧ (∃ b3, mR m t 44 = some b3 ∧ (mK m b3 = 15 ∧ (vp_in (((2 : Int32) * l1) + (1 : Int32)) (mN m b3) ∧ (∀ m7, m7 = sI m b3 (((2 : Int32) * l1) + (1 : Int32)).toNatClampNeg (-1 : Int32) → (Q m7))))))) : CV g M_RF_ends (lv + 1) [va_rf (some t), .int (l1), .int (l2)] m Q := by
  refine Call.of (by decide +kernel) (Nat.le_of_ble_eq_true rfl) ?_
  show At g M_RF_ends (lv + 1) 0 [(0, va_rf (some t)), (1, .int (l1)), (2, .int (l2))] [] m (QV Q)
  refine at_iload_n (i := 2) 2 1 rfl (by decide +kernel) rfl ?_
  refine at_iconst (n := 1) (1 : Int32) 2 rfl (by decide +kernel) (by decide +kernel) ?_
  refine at_icmp_ne (off := 57) 59 5 rfl (by decide +kernel) (by decide +kernel) (fun c1 => ?_) (fun c1 => ?_)
  · rw [if_neg c1] at h
    refine at_aload_n (i := 0) 0 60 rfl (by decide +kernel) rfl ?_
    obtain ⟨k2, h⟩ := h
    refine at_get (index := 134) (v := va_rf (mR m t 44)) cok12 44 63 rfl (by decide +kernel) k2 (by decide +kernel) tw_1129 rfl ?_
    obtain ⟨b3, e4, h⟩ := h
    rw [e4]
    refine at_iconst (n := 2) (2 : Int32) 64 rfl (by decide +kernel) (by decide +kernel) ?_
    refine at_iload_n (i := 1) 1 65 rfl (by decide +kernel) rfl ?_
    refine at_imul 66 rfl (by decide +kernel) ?_
    refine at_iconst (n := 1) (1 : Int32) 67 rfl (by decide +kernel) (by decide +kernel) ?_
    refine at_iadd 68 rfl (by decide +kernel) ?_
    refine at_iconst (n := (-1)) (-1 : Int32) 69 rfl (by decide +kernel) (by decide +kernel) ?_
    obtain ⟨k5, h⟩ := h
    obtain ⟨v6, h⟩ := h
    refine at_iast 70 rfl (by decide +kernel) k5 v6 (fun m7 e8 => ?_)
    replace h := h m7 e8
    have x9 : Ext m m7 := by rw [e8]; exact Ext.sI _ _ _ _
    have k10 : mK m7 t = 13 := x9.k k2 (by decide)
    have k11 : mK m7 b3 = 15 := x9.k k5 (by decide)
    have e12 : mR m7 t 44 = some b3 := x9.r k2 (by decide) rfl e4
    exact at_vret rfl (by decide +kernel) h
  · rw [if_pos c1] at h
    refine at_aload_n (i := 0) 0 6 rfl (by decide +kernel) rfl ?_
    obtain ⟨k13, h⟩ := h
    refine at_get (index := 134) (v := va_rf (mR m t 44)) cok12 44 9 rfl (by decide +kernel) k13 (by decide +kernel) tw_1129 rfl ?_
    obtain ⟨b14, e15, h⟩ := h
    rw [e15]
    refine at_iconst (n := 2) (2 : Int32) 10 rfl (by decide +kernel) (by decide +kernel) ?_
    refine at_iload_n (i := 1) 1 11 rfl (by decide +kernel) rfl ?_
    refine at_imul 12 rfl (by decide +kernel) ?_
    refine at_aload_n (i := 0) 0 13 rfl (by decide +kernel) rfl ?_
    refine at_get (index := 134) (v := va_rf (mR m t 44)) cok12 44 16 rfl (by decide +kernel) k13 (by decide +kernel) tw_1129 rfl ?_
    rw [e15]
    refine at_iconst (n := 2) (2 : Int32) 17 rfl (by decide +kernel) (by decide +kernel) ?_
    refine at_iload_n (i := 1) 1 18 rfl (by decide +kernel) rfl ?_
    refine at_imul 19 rfl (by decide +kernel) ?_
    refine at_iconst (n := 1) (1 : Int32) 20 rfl (by decide +kernel) (by decide +kernel) ?_
    refine at_iadd 21 rfl (by decide +kernel) ?_
    obtain ⟨k16, h⟩ := h
    obtain ⟨v17, h⟩ := h
    refine at_iald 22 rfl (by decide +kernel) k16 v17 ?_
    obtain ⟨v18, h⟩ := h
    refine at_iast 23 rfl (by decide +kernel) k16 v18 (fun m19 e20 => ?_)
    replace h := h m19 e20
    have x21 : Ext m m19 := by rw [e20]; exact Ext.sI _ _ _ _
    have k22 : mK m19 t = 13 := x21.k k13 (by decide)
    have k23 : mK m19 b14 = 15 := x21.k k16 (by decide)
    have e24 : mR m19 t 44 = some b14 := x21.r k13 (by decide) rfl e15
    refine at_aload_n (i := 0) 0 24 rfl (by decide +kernel) rfl ?_
    refine at_get (index := 140) (v := va_rf (mR m19 t 46)) cok12 46 27 rfl (by decide +kernel) k22 (by decide +kernel) tw_1131 rfl ?_
    obtain ⟨b25, e26, h⟩ := h
    rw [e26]
    refine at_iconst (n := 2) (2 : Int32) 28 rfl (by decide +kernel) (by decide +kernel) ?_
    refine at_iload_n (i := 1) 1 29 rfl (by decide +kernel) rfl ?_
    refine at_imul 30 rfl (by decide +kernel) ?_
    refine at_aload_n (i := 0) 0 31 rfl (by decide +kernel) rfl ?_
    refine at_get (index := 140) (v := va_rf (mR m19 t 46)) cok12 46 34 rfl (by decide +kernel) k22 (by decide +kernel) tw_1131 rfl ?_
    rw [e26]
    refine at_iconst (n := 2) (2 : Int32) 35 rfl (by decide +kernel) (by decide +kernel) ?_
    refine at_iload_n (i := 1) 1 36 rfl (by decide +kernel) rfl ?_
    refine at_imul 37 rfl (by decide +kernel) ?_
    refine at_iconst (n := 1) (1 : Int32) 38 rfl (by decide +kernel) (by decide +kernel) ?_
    refine at_iadd 39 rfl (by decide +kernel) ?_
    obtain ⟨k27, h⟩ := h
    obtain ⟨v28, h⟩ := h
    refine at_lald 40 rfl (by decide +kernel) k27 v28 ?_
    obtain ⟨v29, h⟩ := h
    refine at_last 41 rfl (by decide +kernel) k27 v29 (fun m30 e31 => ?_)
    replace h := h m30 e31
    have x32 : Ext m19 m30 := by rw [e31]; exact Ext.sL _ _ _ _
    have k33 : mK m30 t = 13 := x32.k k22 (by decide)
    have k34 : mK m30 b14 = 15 := x32.k k23 (by decide)
    have k35 : mK m30 b25 = 16 := x32.k k27 (by decide)
    have e36 : mR m30 t 44 = some b14 := x32.r k22 (by decide) rfl e24
    have e37 : mR m30 t 46 = some b25 := x32.r k22 (by decide) rfl e26
    refine at_aload_n (i := 0) 0 42 rfl (by decide +kernel) rfl ?_
    refine at_get (index := 137) (v := va_rf (mR m30 t 45)) cok12 45 45 rfl (by decide +kernel) k33 (by decide +kernel) tw_1130 rfl ?_
    obtain ⟨b38, e39, h⟩ := h
    rw [e39]
    refine at_iconst (n := 2) (2 : Int32) 46 rfl (by decide +kernel) (by decide +kernel) ?_
    refine at_iload_n (i := 1) 1 47 rfl (by decide +kernel) rfl ?_
    refine at_imul 48 rfl (by decide +kernel) ?_
    refine at_aload_n (i := 0) 0 49 rfl (by decide +kernel) rfl ?_
    refine at_get (index := 137) (v := va_rf (mR m30 t 45)) cok12 45 52 rfl (by decide +kernel) k33 (by decide +kernel) tw_1130 rfl ?_
    rw [e39]
    refine at_iconst (n := 2) (2 : Int32) 53 rfl (by decide +kernel) (by decide +kernel) ?_
    refine at_iload_n (i := 1) 1 54 rfl (by decide +kernel) rfl ?_
    refine at_imul 55 rfl (by decide +kernel) ?_
    refine at_iconst (n := 1) (1 : Int32) 56 rfl (by decide +kernel) (by decide +kernel) ?_
    refine at_iadd 57 rfl (by decide +kernel) ?_
    obtain ⟨k40, h⟩ := h
    obtain ⟨v41, h⟩ := h
    refine at_iald 58 rfl (by decide +kernel) k40 v41 ?_
    obtain ⟨v42, h⟩ := h
    refine at_iast 59 rfl (by decide +kernel) k40 v42 (fun m43 e44 => ?_)
    replace h := h m43 e44
    have x45 : Ext m30 m43 := by rw [e44]; exact Ext.sI _ _ _ _
    have k46 : mK m43 t = 13 := x45.k k33 (by decide)
    have k47 : mK m43 b14 = 15 := x45.k k34 (by decide)
    have k48 : mK m43 b25 = 16 := x45.k k35 (by decide)
    have k49 : mK m43 b38 = 15 := x45.k k40 (by decide)
    have e50 : mR m43 t 44 = some b14 := x45.r k33 (by decide) rfl e36
    have e51 : mR m43 t 46 = some b25 := x45.r k33 (by decide) rfl e37
    have e52 : mR m43 t 45 = some b38 := x45.r k33 (by decide) rfl e39
    refine at_aload_n (i := 0) 0 60 rfl (by decide +kernel) rfl ?_
    refine at_get (index := 134) (v := va_rf (mR m43 t 44)) cok12 44 63 rfl (by decide +kernel) k46 (by decide +kernel) tw_1129 rfl ?_
    rw [e50]
    refine at_iconst (n := 2) (2 : Int32) 64 rfl (by decide +kernel) (by decide +kernel) ?_
    refine at_iload_n (i := 1) 1 65 rfl (by decide +kernel) rfl ?_
    refine at_imul 66 rfl (by decide +kernel) ?_
    refine at_iconst (n := 1) (1 : Int32) 67 rfl (by decide +kernel) (by decide +kernel) ?_
    refine at_iadd 68 rfl (by decide +kernel) ?_
    refine at_iconst (n := (-1)) (-1 : Int32) 69 rfl (by decide +kernel) (by decide +kernel) ?_
    obtain ⟨v53, h⟩ := h
    refine at_iast 70 rfl (by decide +kernel) k47 v53 (fun m54 e55 => ?_)
    replace h := h m54 e55
    have x56 : Ext m43 m54 := by rw [e55]; exact Ext.sI _ _ _ _
    have k57 : mK m54 t = 13 := x56.k k46 (by decide)
    have k58 : mK m54 b14 = 15 := x56.k k47 (by decide)
    have k59 : mK m54 b25 = 16 := x56.k k48 (by decide)
    have k60 : mK m54 b38 = 15 := x56.k k49 (by decide)
    have e61 : mR m54 t 44 = some b14 := x56.r k46 (by decide) rfl e50
    have e62 : mR m54 t 46 = some b25 := x56.r k46 (by decide) rfl e51
    have e63 : mR m54 t 45 = some b38 := x56.r k46 (by decide) rfl e52
    exact at_vret rfl (by decide +kernel) h
set_option maxRecDepth 20000 in
set_option maxHeartbeats 4000000 in
theorem en_RF_pays (g : Gc) {lv : Nat} {t : Nat} {l1 : Int32} {l2 : Int32} {m : Mm} {Q : Int32 → Mm → Prop} (h : mK m t = 13 ∧ (∃ b2, mR m t 39 = some b2 ∧ (∃ b4, mR m t 40 = some b4 ∧ (mK m b4 = 15 ∧ (vp_in l1 (mN m b4) ∧ (mK m b2 = 16 ∧ (vp_in (mI m b4 l1.toNatClampNeg) (mN m b2) ∧ (∃ b10, mR m t 46 = some b10 ∧ (mK m b10 = 16 ∧ (vp_in ((((2 : Int32) * l1) + l2) - (1 : Int32)) (mN m b10) ∧ (if (mL m b10 ((((2 : Int32) * l1) + l2) - (1 : Int32)).toNatClampNeg) ≤ (mL m b2 (mI m b4 l1.toNatClampNeg).toNatClampNeg) then (vp_in l1 (mN m b4) ∧ (vp_in (mI m b4 l1.toNatClampNeg) (mN m b2) ∧ (vp_in ((((2 : Int32) * l1) + l2) - (1 : Int32)) (mN m b10) ∧ (vp_in (mI m b4 l1.toNatClampNeg) (mN m b2) ∧ (∀ m19, m19 = sL m b2 (mI m b4 l1.toNatClampNeg).toNatClampNeg ((mL m b2 (mI m b4 l1.toNatClampNeg).toNatClampNeg) - (mL m b10 ((((2 : Int32) * l1) + l2) - (1 : Int32)).toNatClampNeg)) → (∃ b29, mR m19 t 44 = some b29 ∧ (mK m19 b29 = 15 ∧ (vp_in ((((2 : Int32) * l1) + l2) - (1 : Int32)) (mN m19 b29) ∧ (vp_in ((12 : Int32) + (mI m19 b29 ((((2 : Int32) * l1) + l2) - (1 : Int32)).toNatClampNeg)) (mN m19 b2) ∧ (vp_in ((((2 : Int32) * l1) + l2) - (1 : Int32)) (mN m19 b10) ∧ (vp_in ((12 : Int32) + (mI m19 b29 ((((2 : Int32) * l1) + l2) - (1 : Int32)).toNatClampNeg)) (mN m19 b2) ∧ (∀ m36, m36 = sL m19 b2 ((12 : Int32) + (mI m19 b29 ((((2 : Int32) * l1) + l2) - (1 : Int32)).toNatClampNeg)).toNatClampNeg ((mL m19 b2 ((12 : Int32) + (mI m19 b29 ((((2 : Int32) * l1) + l2) - (1 : Int32)).toNatClampNeg)).toNatClampNeg) + (mL m19 b10 ((((2 : Int32) * l1) + l2) - (1 : Int32)).toNatClampNeg)) → (CV g M_RF_ends lv [va_rf (some t), .int (l1), .int (l2)] m36 (fun m48 => (Q (1 : Int32) m48))))))))))))))) else (Q (0 : Int32) m)))))))))))) : CI g M_RF_pays (lv + 1) [va_rf (some t), .int (l1), .int (l2)] m Q := by
  refine Call.of (by decide +kernel) (Nat.le_of_ble_eq_true rfl) ?_
  show At g M_RF_pays (lv + 1) 0 [(0, va_rf (some t)), (1, .int (l1)), (2, .int (l2))] [] m (QI Q)
  refine at_iconst (n := 2) (2 : Int32) 1 rfl (by decide +kernel) (by decide +kernel) ?_
  refine at_iload_n (i := 1) 1 2 rfl (by decide +kernel) rfl ?_
  refine at_imul 3 rfl (by decide +kernel) ?_
  refine at_iload_n (i := 2) 2 4 rfl (by decide +kernel) rfl ?_
  refine at_iadd 5 rfl (by decide +kernel) ?_
  refine at_iconst (n := 1) (1 : Int32) 6 rfl (by decide +kernel) (by decide +kernel) ?_
  refine at_isub 7 rfl (by decide +kernel) ?_
  refine at_istore_n (i := 3) (lc' := [(0, va_rf (some t)), (1, .int (l1)), (2, .int (l2)), (3, .int ((((2 : Int32) * l1) + l2) - (1 : Int32)))]) [1, 2, 3, 0] 8 rfl (by decide +kernel) (by decide +kernel) rfl ?_
  refine at_aload_n (i := 0) 0 9 rfl (by decide +kernel) rfl ?_
  obtain ⟨k1, h⟩ := h
  refine at_get (index := 119) (v := va_rf (mR m t 39)) cok12 39 12 rfl (by decide +kernel) k1 (by decide +kernel) tw_1124 rfl ?_
  obtain ⟨b2, e3, h⟩ := h
  rw [e3]
  refine at_aload_n (i := 0) 0 13 rfl (by decide +kernel) rfl ?_
  refine at_get (index := 122) (v := va_rf (mR m t 40)) cok12 40 16 rfl (by decide +kernel) k1 (by decide +kernel) tw_1125 rfl ?_
  obtain ⟨b4, e5, h⟩ := h
  rw [e5]
  refine at_iload_n (i := 1) 1 17 rfl (by decide +kernel) rfl ?_
  obtain ⟨k6, h⟩ := h
  obtain ⟨v7, h⟩ := h
  refine at_iald 18 rfl (by decide +kernel) k6 v7 ?_
  obtain ⟨k8, h⟩ := h
  obtain ⟨v9, h⟩ := h
  refine at_lald 19 rfl (by decide +kernel) k8 v9 ?_
  refine at_aload_n (i := 0) 0 20 rfl (by decide +kernel) rfl ?_
  refine at_get (index := 140) (v := va_rf (mR m t 46)) cok12 46 23 rfl (by decide +kernel) k1 (by decide +kernel) tw_1131 rfl ?_
  obtain ⟨b10, e11, h⟩ := h
  rw [e11]
  refine at_iload_n (i := 3) 3 24 rfl (by decide +kernel) rfl ?_
  obtain ⟨k12, h⟩ := h
  obtain ⟨v13, h⟩ := h
  refine at_lald 25 rfl (by decide +kernel) k12 v13 ?_
  refine at_lif_ge (off := 5) 26 31 29 rfl rfl (by decide +kernel) (by decide +kernel) (by decide +kernel) (fun c14 => ?_) (fun c14 => ?_)
  · rw [if_pos c14] at h
    refine at_aload_n (i := 0) 0 32 rfl (by decide +kernel) rfl ?_
    refine at_get (index := 119) (v := va_rf (mR m t 39)) cok12 39 35 rfl (by decide +kernel) k1 (by decide +kernel) tw_1124 rfl ?_
    rw [e3]
    refine at_aload_n (i := 0) 0 36 rfl (by decide +kernel) rfl ?_
    refine at_get (index := 122) (v := va_rf (mR m t 40)) cok12 40 39 rfl (by decide +kernel) k1 (by decide +kernel) tw_1125 rfl ?_
    rw [e5]
    refine at_iload_n (i := 1) 1 40 rfl (by decide +kernel) rfl ?_
    obtain ⟨v15, h⟩ := h
    refine at_iald 41 rfl (by decide +kernel) k6 v15 ?_
    refine at_dup2_11 42 rfl (by decide +kernel) rfl (va_rf_cat _) ?_
    obtain ⟨v16, h⟩ := h
    refine at_lald 43 rfl (by decide +kernel) k8 v16 ?_
    refine at_aload_n (i := 0) 0 44 rfl (by decide +kernel) rfl ?_
    refine at_get (index := 140) (v := va_rf (mR m t 46)) cok12 46 47 rfl (by decide +kernel) k1 (by decide +kernel) tw_1131 rfl ?_
    rw [e11]
    refine at_iload_n (i := 3) 3 48 rfl (by decide +kernel) rfl ?_
    obtain ⟨v17, h⟩ := h
    refine at_lald 49 rfl (by decide +kernel) k12 v17 ?_
    refine at_lsub 50 rfl (by decide +kernel) ?_
    obtain ⟨v18, h⟩ := h
    refine at_last 51 rfl (by decide +kernel) k8 v18 (fun m19 e20 => ?_)
    replace h := h m19 e20
    have x21 : Ext m m19 := by rw [e20]; exact Ext.sL _ _ _ _
    have k22 : mK m19 t = 13 := x21.k k1 (by decide)
    have k23 : mK m19 b4 = 15 := x21.k k6 (by decide)
    have k24 : mK m19 b2 = 16 := x21.k k8 (by decide)
    have k25 : mK m19 b10 = 16 := x21.k k12 (by decide)
    have e26 : mR m19 t 39 = some b2 := x21.r k1 (by decide) rfl e3
    have e27 : mR m19 t 40 = some b4 := x21.r k1 (by decide) rfl e5
    have e28 : mR m19 t 46 = some b10 := x21.r k1 (by decide) rfl e11
    refine at_aload_n (i := 0) 0 52 rfl (by decide +kernel) rfl ?_
    refine at_get (index := 119) (v := va_rf (mR m19 t 39)) cok12 39 55 rfl (by decide +kernel) k22 (by decide +kernel) tw_1124 rfl ?_
    rw [e26]
    refine at_bipush (n := 12) (12 : Int32) 57 rfl (by decide +kernel) (by decide +kernel) ?_
    refine at_aload_n (i := 0) 0 58 rfl (by decide +kernel) rfl ?_
    refine at_get (index := 134) (v := va_rf (mR m19 t 44)) cok12 44 61 rfl (by decide +kernel) k22 (by decide +kernel) tw_1129 rfl ?_
    obtain ⟨b29, e30, h⟩ := h
    rw [e30]
    refine at_iload_n (i := 3) 3 62 rfl (by decide +kernel) rfl ?_
    obtain ⟨k31, h⟩ := h
    obtain ⟨v32, h⟩ := h
    refine at_iald 63 rfl (by decide +kernel) k31 v32 ?_
    refine at_iadd 64 rfl (by decide +kernel) ?_
    refine at_dup2_11 65 rfl (by decide +kernel) rfl (va_rf_cat _) ?_
    obtain ⟨v33, h⟩ := h
    refine at_lald 66 rfl (by decide +kernel) k24 v33 ?_
    refine at_aload_n (i := 0) 0 67 rfl (by decide +kernel) rfl ?_
    refine at_get (index := 140) (v := va_rf (mR m19 t 46)) cok12 46 70 rfl (by decide +kernel) k22 (by decide +kernel) tw_1131 rfl ?_
    rw [e28]
    refine at_iload_n (i := 3) 3 71 rfl (by decide +kernel) rfl ?_
    obtain ⟨v34, h⟩ := h
    refine at_lald 72 rfl (by decide +kernel) k25 v34 ?_
    refine at_ladd 73 rfl (by decide +kernel) ?_
    obtain ⟨v35, h⟩ := h
    refine at_last 74 rfl (by decide +kernel) k24 v35 (fun m36 e37 => ?_)
    replace h := h m36 e37
    have x38 : Ext m19 m36 := by rw [e37]; exact Ext.sL _ _ _ _
    have k39 : mK m36 t = 13 := x38.k k22 (by decide)
    have k40 : mK m36 b4 = 15 := x38.k k23 (by decide)
    have k41 : mK m36 b2 = 16 := x38.k k24 (by decide)
    have k42 : mK m36 b10 = 16 := x38.k k25 (by decide)
    have k43 : mK m36 b29 = 15 := x38.k k31 (by decide)
    have e44 : mR m36 t 39 = some b2 := x38.r k22 (by decide) rfl e26
    have e45 : mR m36 t 40 = some b4 := x38.r k22 (by decide) rfl e27
    have e46 : mR m36 t 46 = some b10 := x38.r k22 (by decide) rfl e28
    have e47 : mR m36 t 44 = some b29 := x38.r k22 (by decide) rfl e30
    refine at_aload_n (i := 0) 0 75 rfl (by decide +kernel) rfl ?_
    refine at_iload_n (i := 1) 1 76 rfl (by decide +kernel) rfl ?_
    refine at_iload_n (i := 2) 2 77 rfl (by decide +kernel) rfl ?_
    refine at_callV mb_RF_ends tw_1493 tw_58 cok12 k39 (index := 397) tw_1491 [.int (l1), .int (l2)] [] rfl rfl (by decide) 80 rfl (by decide +kernel) (Call.toV (CV.monoE h (fun m48 h y49 => ?_)))
    have k50 : mK m48 t = 13 := y49.k k39 (by decide)
    have k51 : mK m48 b4 = 15 := y49.k k40 (by decide)
    have k52 : mK m48 b2 = 16 := y49.k k41 (by decide)
    have k53 : mK m48 b10 = 16 := y49.k k42 (by decide)
    have k54 : mK m48 b29 = 15 := y49.k k43 (by decide)
    have e55 : mR m48 t 39 = some b2 := y49.r k39 (by decide) rfl e44
    have e56 : mR m48 t 40 = some b4 := y49.r k39 (by decide) rfl e45
    have e57 : mR m48 t 46 = some b10 := y49.r k39 (by decide) rfl e46
    have e58 : mR m48 t 44 = some b29 := y49.r k39 (by decide) rfl e47
    refine at_iconst (n := 1) (1 : Int32) 81 rfl (by decide +kernel) (by decide +kernel) ?_
    exact at_zret rfl (by decide +kernel) (Or.inr rfl) h
  · rw [if_neg c14] at h
    refine at_iconst (n := 0) (0 : Int32) 30 rfl (by decide +kernel) (by decide +kernel) ?_
    exact at_zret rfl (by decide +kernel) (Or.inl rfl) h
set_option maxRecDepth 20000 in
set_option maxHeartbeats 4000000 in
theorem en_RF_pay (g : Gc) {lv : Nat} {t : Nat} {l1 : Int32} {l2 : Int32} {m : Mm} {Q : Int64 → Mm → Prop} (h : mK m t = 13 ∧ (∀ m2, m2 = sI m t 0 (0 : Int32) → (CI g M_RF_isLoan lv [va_rf (some t), .int (l1), .int (l2)] m2 (fun x6 m7 => (if (x6) = 0 then (Q (-2 : Int64) m7) else (∃ b11, mR m7 t 46 = some b11 ∧ (mK m7 b11 = 16 ∧ (vp_in ((((2 : Int32) * l1) + l2) - (1 : Int32)) (mN m7 b11) ∧ (CI g M_RF_pays lv [va_rf (some t), .int (l1), .int (l2)] m7 (fun x15 m16 => (if (x15) = 0 then (Q (-7 : Int64) m16) else (Q (mL m7 b11 ((((2 : Int32) * l1) + l2) - (1 : Int32)).toNatClampNeg) m16)))))))))))) : CJ g M_RF_pay (lv + 1) [va_rf (some t), .int (l1), .int (l2)] m Q := by
  refine Call.of (by decide +kernel) (Nat.le_of_ble_eq_true rfl) ?_
  show At g M_RF_pay (lv + 1) 0 [(0, va_rf (some t)), (1, .int (l1)), (2, .int (l2))] [] m (QJ Q)
  refine at_aload_n (i := 0) 0 1 rfl (by decide +kernel) rfl ?_
  refine at_iconst (n := 0) (0 : Int32) 2 rfl (by decide +kernel) (by decide +kernel) ?_
  obtain ⟨k1, h⟩ := h
  refine at_putI (index := 149) cok12 0 5 rfl (by decide +kernel) k1 (by decide +kernel) tw_1085 rfl rfl rfl (fun m2 e3 => ?_)
  replace h := h m2 e3
  have x4 : Ext m m2 := by rw [e3]; exact Ext.sI _ _ _ _
  have k5 : mK m2 t = 13 := x4.k k1 (by decide)
  refine at_aload_n (i := 0) 0 6 rfl (by decide +kernel) rfl ?_
  refine at_iload_n (i := 1) 1 7 rfl (by decide +kernel) rfl ?_
  refine at_iload_n (i := 2) 2 8 rfl (by decide +kernel) rfl ?_
  refine at_callV mb_RF_isLoan tw_1530 tw_61 cok12 k5 (index := 400) tw_1528 [.int (l1), .int (l2)] [] rfl rfl (by decide) 11 rfl (by decide +kernel) (Call.toI (CI.monoE h (fun x6 m7 h y8 => ?_)))
  have k9 : mK m7 t = 13 := y8.k k5 (by decide)
  refine at_if_ne (off := 7) 18 14 rfl (by decide +kernel) (by decide +kernel) (fun c10 => ?_) (fun c10 => ?_)
  · rw [if_neg c10] at h
    refine at_aload_n (i := 0) 0 19 rfl (by decide +kernel) rfl ?_
    refine at_get (index := 140) (v := va_rf (mR m7 t 46)) cok12 46 22 rfl (by decide +kernel) k9 (by decide +kernel) tw_1131 rfl ?_
    obtain ⟨b11, e12, h⟩ := h
    rw [e12]
    refine at_iconst (n := 2) (2 : Int32) 23 rfl (by decide +kernel) (by decide +kernel) ?_
    refine at_iload_n (i := 1) 1 24 rfl (by decide +kernel) rfl ?_
    refine at_imul 25 rfl (by decide +kernel) ?_
    refine at_iload_n (i := 2) 2 26 rfl (by decide +kernel) rfl ?_
    refine at_iadd 27 rfl (by decide +kernel) ?_
    refine at_iconst (n := 1) (1 : Int32) 28 rfl (by decide +kernel) (by decide +kernel) ?_
    refine at_isub 29 rfl (by decide +kernel) ?_
    obtain ⟨k13, h⟩ := h
    obtain ⟨v14, h⟩ := h
    refine at_lald 30 rfl (by decide +kernel) k13 v14 ?_
    refine at_lstore_n (i := 3) (lc' := [(0, va_rf (some t)), (1, .int (l1)), (2, .int (l2)), (3, .long (mL m7 b11 ((((2 : Int32) * l1) + l2) - (1 : Int32)).toNatClampNeg))]) [1, 2, 3, 0] 31 rfl (by decide +kernel) (by decide +kernel) rfl ?_
    refine at_aload_n (i := 0) 0 32 rfl (by decide +kernel) rfl ?_
    refine at_iload_n (i := 1) 1 33 rfl (by decide +kernel) rfl ?_
    refine at_iload_n (i := 2) 2 34 rfl (by decide +kernel) rfl ?_
    refine at_callV mb_RF_pays tw_1489 tw_57 cok12 k9 (index := 404) tw_1487 [.int (l1), .int (l2)] [] rfl rfl (by decide) 37 rfl (by decide +kernel) (Call.toI (CI.monoE h (fun x15 m16 h y17 => ?_)))
    have k18 : mK m16 t = 13 := y17.k k9 (by decide)
    have k19 : mK m16 b11 = 16 := y17.k k13 (by decide)
    have e20 : mR m16 t 46 = some b11 := y17.r k9 (by decide) rfl e12
    refine at_if_eq (off := 7) 44 40 rfl (by decide +kernel) (by decide +kernel) (fun c21 => ?_) (fun c21 => ?_)
    · rw [if_pos c21] at h
      refine at_ldc2 (index := 393) (-7 : Int64) 47 rfl (by decide +kernel) tw_1522 ?_
      exact at_lret rfl (by decide +kernel) h
    · rw [if_neg c21] at h
      refine at_lload_n (i := 3) 3 41 rfl (by decide +kernel) rfl ?_
      refine at_goto (off := 6) 47 (by decide +kernel) (by decide +kernel) ?_
      exact at_lret rfl (by decide +kernel) h
  · rw [if_pos c10] at h
    refine at_ldc2 (index := 391) (-2 : Int64) 17 rfl (by decide +kernel) tw_1521 ?_
    exact at_lret rfl (by decide +kernel) h
set_option maxRecDepth 20000 in
set_option maxHeartbeats 4000000 in
theorem bk_RF_dues_127 (g : Gc) {lv : Nat} {t : Nat} {l1 : Int32} {l2 : Int32} {l3 : Int32} {l7 : Int32} {m : Mm} {Q : Mm → Prop} (h : mK m t = 13 ∧ (∃ b2, mR m t 40 = some b2 ∧ (mK m b2 = 15 ∧ (vp_in l1 (mN m b2) ∧ (∀ m6, m6 = sI m b2 l1.toNatClampNeg l7 → (∃ b12, mR m6 t 44 = some b12 ∧ (mK m6 b12 = 15 ∧ (vp_in ((2 : Int32) * l1) (mN m6 b12) ∧ (∀ m16, m16 = sI m6 b12 ((2 : Int32) * l1).toNatClampNeg (-1 : Int32) → (vp_in (((2 : Int32) * l1) + (1 : Int32)) (mN m16 b12) ∧ (∀ m25, m25 = sI m16 b12 (((2 : Int32) * l1) + (1 : Int32)).toNatClampNeg (-1 : Int32) → (At g M_RF_dues (lv + 1) 2 [(0, va_rf (some t)), (1, .int (l1)), (2, .int (l2)), (3, .int (l3))] [] m25 (QV Q))))))))))))) : At g M_RF_dues (lv + 1) 127 [(0, va_rf (some t)), (1, .int (l1)), (2, .int (l2)), (3, .int (l3)), (7, .int (l7))] [] m (QV Q) := by
  refine at_aload_n (i := 0) 0 128 rfl (by decide +kernel) rfl ?_
  obtain ⟨k1, h⟩ := h
  refine at_get (index := 122) (v := va_rf (mR m t 40)) cok12 40 131 rfl (by decide +kernel) k1 (by decide +kernel) tw_1125 rfl ?_
  obtain ⟨b2, e3, h⟩ := h
  rw [e3]
  refine at_iload_n (i := 1) 1 132 rfl (by decide +kernel) rfl ?_
  refine at_iload (i := 7) 4 134 rfl (by decide +kernel) rfl ?_
  obtain ⟨k4, h⟩ := h
  obtain ⟨v5, h⟩ := h
  refine at_iast 135 rfl (by decide +kernel) k4 v5 (fun m6 e7 => ?_)
  replace h := h m6 e7
  have x8 : Ext m m6 := by rw [e7]; exact Ext.sI _ _ _ _
  have k9 : mK m6 t = 13 := x8.k k1 (by decide)
  have k10 : mK m6 b2 = 15 := x8.k k4 (by decide)
  have e11 : mR m6 t 40 = some b2 := x8.r k1 (by decide) rfl e3
  refine at_aload_n (i := 0) 0 136 rfl (by decide +kernel) rfl ?_
  refine at_get (index := 134) (v := va_rf (mR m6 t 44)) cok12 44 139 rfl (by decide +kernel) k9 (by decide +kernel) tw_1129 rfl ?_
  obtain ⟨b12, e13, h⟩ := h
  rw [e13]
  refine at_iconst (n := 2) (2 : Int32) 140 rfl (by decide +kernel) (by decide +kernel) ?_
  refine at_iload_n (i := 1) 1 141 rfl (by decide +kernel) rfl ?_
  refine at_imul 142 rfl (by decide +kernel) ?_
  refine at_iconst (n := (-1)) (-1 : Int32) 143 rfl (by decide +kernel) (by decide +kernel) ?_
  obtain ⟨k14, h⟩ := h
  obtain ⟨v15, h⟩ := h
  refine at_iast 144 rfl (by decide +kernel) k14 v15 (fun m16 e17 => ?_)
  replace h := h m16 e17
  have x18 : Ext m6 m16 := by rw [e17]; exact Ext.sI _ _ _ _
  have k19 : mK m16 t = 13 := x18.k k9 (by decide)
  have k20 : mK m16 b2 = 15 := x18.k k10 (by decide)
  have k21 : mK m16 b12 = 15 := x18.k k14 (by decide)
  have e22 : mR m16 t 40 = some b2 := x18.r k9 (by decide) rfl e11
  have e23 : mR m16 t 44 = some b12 := x18.r k9 (by decide) rfl e13
  refine at_aload_n (i := 0) 0 145 rfl (by decide +kernel) rfl ?_
  refine at_get (index := 134) (v := va_rf (mR m16 t 44)) cok12 44 148 rfl (by decide +kernel) k19 (by decide +kernel) tw_1129 rfl ?_
  rw [e23]
  refine at_iconst (n := 2) (2 : Int32) 149 rfl (by decide +kernel) (by decide +kernel) ?_
  refine at_iload_n (i := 1) 1 150 rfl (by decide +kernel) rfl ?_
  refine at_imul 151 rfl (by decide +kernel) ?_
  refine at_iconst (n := 1) (1 : Int32) 152 rfl (by decide +kernel) (by decide +kernel) ?_
  refine at_iadd 153 rfl (by decide +kernel) ?_
  refine at_iconst (n := (-1)) (-1 : Int32) 154 rfl (by decide +kernel) (by decide +kernel) ?_
  obtain ⟨v24, h⟩ := h
  refine at_iast 155 rfl (by decide +kernel) k21 v24 (fun m25 e26 => ?_)
  replace h := h m25 e26
  have x27 : Ext m16 m25 := by rw [e26]; exact Ext.sI _ _ _ _
  have k28 : mK m25 t = 13 := x27.k k19 (by decide)
  have k29 : mK m25 b2 = 15 := x27.k k20 (by decide)
  have k30 : mK m25 b12 = 15 := x27.k k21 (by decide)
  have e31 : mR m25 t 40 = some b2 := x27.r k19 (by decide) rfl e22
  have e32 : mR m25 t 44 = some b12 := x27.r k19 (by decide) rfl e23
  refine at_goto (off := 39) 194 (by decide +kernel) (by decide +kernel) ?_
  refine at_goto (off := (-192)) 2 (by decide +kernel) (by decide +kernel) ?_
  exact At.sub [0, 1, 2, 3] rfl h
set_option maxRecDepth 20000 in
set_option maxHeartbeats 4000000 in
theorem bk_RF_dues_2 (g : Gc) {lv : Nat} {t : Nat} {l1 : Int32} {l2 : Int32} {l3 : Int32} {m : Mm} {Q : Mm → Prop} (h : if ((3 : Int32)) ≤ (l3) then (Q m) else (mK m t = 13 ∧ (∃ b3, mR m t 44 = some b3 ∧ (mK m b3 = 15 ∧ (vp_in ((((2 : Int32) * l1) + l3) - (1 : Int32)) (mN m b3) ∧ (if (mI m b3 ((((2 : Int32) * l1) + l3) - (1 : Int32)).toNatClampNeg) = ((-1 : Int32)) then (At g M_RF_dues (lv + 1) 2 [(0, va_rf (some t)), (1, .int (l1)), (2, .int (l2)), (3, .int (l3 + (1 : Int32)))] [] m (QV Q)) else (∃ b8, mR m t 45 = some b8 ∧ (mK m b8 = 15 ∧ (vp_in ((((2 : Int32) * l1) + l3) - (1 : Int32)) (mN m b8) ∧ (if (mI m b8 ((((2 : Int32) * l1) + l3) - (1 : Int32)).toNatClampNeg) ≤ (l2) then (CI g M_RF_pays lv [va_rf (some t), .int (l1), .int (l3)] m (fun x13 m14 => (if (x13) = 0 then (∀ m22, m22 = sI m14 t 47 ((mI m14 t 47) + (1 : Int32)) → (∃ b30, mR m22 t 46 = some b30 ∧ (mK m22 b30 = 16 ∧ (vp_in ((((2 : Int32) * l1) + l3) - (1 : Int32)) (mN m22 b30) ∧ (∃ b34, mR m22 t 32 = some b34 ∧ (mK m22 b34 = 15 ∧ (vp_in (0 : Int32) (mN m22 b34) ∧ (vp_in (0 : Int32) (mN m22 b34) ∧ (¬ ((mI m22 b34 (0 : Int32).toNatClampNeg).toInt64) = 0 ∧ (vp_in ((((2 : Int32) * l1) + l3) - (1 : Int32)) (mN m22 b3) ∧ (∃ b41, mR m22 t 41 = some b41 ∧ (mK m22 b41 = 15 ∧ (vp_in l1 (mN m22 b41) ∧ (if ((mI m22 b41 l1.toNatClampNeg).toInt64) ≤ ((((mL m22 b30 ((((2 : Int32) * l1) + l3) - (1 : Int32)).toNatClampNeg) + ((mI m22 b34 (0 : Int32).toNatClampNeg).toInt64)) - (1 : Int64)) / ((mI m22 b34 (0 : Int32).toNatClampNeg).toInt64)) then (At g M_RF_dues (lv + 1) 127 [(0, va_rf (some t)), (1, .int (l1)), (2, .int (l2)), (3, .int (l3)), (7, .int ((12 : Int32) + (mI m22 b3 ((((2 : Int32) * l1) + l3) - (1 : Int32)).toNatClampNeg)))] [] m22 (QV Q)) else (∃ b46, mR m22 t 33 = some b46 ∧ (mK m22 b46 = 15 ∧ (vp_in (0 : Int32) (mN m22 b46) ∧ (if (mI m22 b46 (0 : Int32).toNatClampNeg) = ((400 : Int32)) then (At g M_RF_dues (lv + 1) 127 [(0, va_rf (some t)), (1, .int (l1)), (2, .int (l2)), (3, .int (l3)), (7, .int ((12 : Int32) + (mI m22 b3 ((((2 : Int32) * l1) + l3) - (1 : Int32)).toNatClampNeg)))] [] m22 (QV Q)) else (vp_in l1 (mN m22 b41) ∧ (vp_in l1 (mN m22 b41) ∧ (∀ m53, m53 = sI m22 b41 l1.toNatClampNeg ((mI m22 b41 l1.toNatClampNeg) - (((((mL m22 b30 ((((2 : Int32) * l1) + l3) - (1 : Int32)).toNatClampNeg) + ((mI m22 b34 (0 : Int32).toNatClampNeg).toInt64)) - (1 : Int64)) / ((mI m22 b34 (0 : Int32).toNatClampNeg).toInt64)).toInt32)) → (∃ b69, mR m53 t 42 = some b69 ∧ (mK m53 b69 = 15 ∧ (vp_in l1 (mN m53 b69) ∧ (CI g M_RF_receipt_IIII lv [va_rf (some t), .int ((0 : Int32)), .int ((12 : Int32) + (mI m22 b3 ((((2 : Int32) * l1) + l3) - (1 : Int32)).toNatClampNeg)), .int (((((mL m22 b30 ((((2 : Int32) * l1) + l3) - (1 : Int32)).toNatClampNeg) + ((mI m22 b34 (0 : Int32).toNatClampNeg).toInt64)) - (1 : Int64)) / ((mI m22 b34 (0 : Int32).toNatClampNeg).toInt64)).toInt32), .int (mI m53 b69 l1.toNatClampNeg)] m53 (fun x73 m74 => (CV g M_RF_ends lv [va_rf (some t), .int (l1), .int (l3)] m74 (fun m91 => (At g M_RF_dues (lv + 1) 2 [(0, va_rf (some t)), (1, .int (l1)), (2, .int (l2)), (3, .int (l3))] [] m91 (QV Q)))))))))))))))))))))))))))))) else (At g M_RF_dues (lv + 1) 2 [(0, va_rf (some t)), (1, .int (l1)), (2, .int (l2)), (3, .int (l3))] [] m14 (QV Q))))) else (At g M_RF_dues (lv + 1) 2 [(0, va_rf (some t)), (1, .int (l1)), (2, .int (l2)), (3, .int (l3 + (1 : Int32)))] [] m (QV Q)))))))))))) : At g M_RF_dues (lv + 1) 2 [(0, va_rf (some t)), (1, .int (l1)), (2, .int (l2)), (3, .int (l3))] [] m (QV Q) := by
  refine at_iload_n (i := 3) 3 3 rfl (by decide +kernel) rfl ?_
  refine at_iconst (n := 3) (3 : Int32) 4 rfl (by decide +kernel) (by decide +kernel) ?_
  refine at_icmp_ge (off := 193) 197 7 rfl (by decide +kernel) (by decide +kernel) (fun c1 => ?_) (fun c1 => ?_)
  · rw [if_pos c1] at h
    exact at_vret rfl (by decide +kernel) h
  · rw [if_neg c1] at h
    refine at_iconst (n := 2) (2 : Int32) 8 rfl (by decide +kernel) (by decide +kernel) ?_
    refine at_iload_n (i := 1) 1 9 rfl (by decide +kernel) rfl ?_
    refine at_imul 10 rfl (by decide +kernel) ?_
    refine at_iload_n (i := 3) 3 11 rfl (by decide +kernel) rfl ?_
    refine at_iadd 12 rfl (by decide +kernel) ?_
    refine at_iconst (n := 1) (1 : Int32) 13 rfl (by decide +kernel) (by decide +kernel) ?_
    refine at_isub 14 rfl (by decide +kernel) ?_
    refine at_istore (i := 4) (lc' := [(0, va_rf (some t)), (1, .int (l1)), (2, .int (l2)), (3, .int (l3)), (4, .int ((((2 : Int32) * l1) + l3) - (1 : Int32)))]) [1, 2, 3, 4, 0] 16 rfl (by decide +kernel) (by decide +kernel) rfl ?_
    refine at_aload_n (i := 0) 0 17 rfl (by decide +kernel) rfl ?_
    obtain ⟨k2, h⟩ := h
    refine at_get (index := 134) (v := va_rf (mR m t 44)) cok12 44 20 rfl (by decide +kernel) k2 (by decide +kernel) tw_1129 rfl ?_
    obtain ⟨b3, e4, h⟩ := h
    rw [e4]
    refine at_iload (i := 4) 4 22 rfl (by decide +kernel) rfl ?_
    obtain ⟨k5, h⟩ := h
    obtain ⟨v6, h⟩ := h
    refine at_iald 23 rfl (by decide +kernel) k5 v6 ?_
    refine at_iconst (n := (-1)) (-1 : Int32) 24 rfl (by decide +kernel) (by decide +kernel) ?_
    refine at_icmp_eq (off := 14) 38 27 rfl (by decide +kernel) (by decide +kernel) (fun c7 => ?_) (fun c7 => ?_)
    · rw [if_pos c7] at h
      refine at_iinc (i := 3) (n := 1) (lc' := [(0, va_rf (some t)), (1, .int (l1)), (2, .int (l2)), (3, .int (l3 + (1 : Int32)))]) (l3 + (1 : Int32)) 3 [1, 2, 3, 0] 41 rfl (by decide +kernel) rfl (by rw [show Int32.ofInt 1 = (1 : Int32) from by decide +kernel]) (by decide +kernel) rfl ?_
      refine at_goto (off := 153) 194 (by decide +kernel) (by decide +kernel) ?_
      refine at_goto (off := (-192)) 2 (by decide +kernel) (by decide +kernel) ?_
      exact h
    · rw [if_neg c7] at h
      refine at_aload_n (i := 0) 0 28 rfl (by decide +kernel) rfl ?_
      refine at_get (index := 137) (v := va_rf (mR m t 45)) cok12 45 31 rfl (by decide +kernel) k2 (by decide +kernel) tw_1130 rfl ?_
      obtain ⟨b8, e9, h⟩ := h
      rw [e9]
      refine at_iload (i := 4) 4 33 rfl (by decide +kernel) rfl ?_
      obtain ⟨k10, h⟩ := h
      obtain ⟨v11, h⟩ := h
      refine at_iald 34 rfl (by decide +kernel) k10 v11 ?_
      refine at_iload_n (i := 2) 2 35 rfl (by decide +kernel) rfl ?_
      refine at_icmp_le (off := 9) 44 38 rfl (by decide +kernel) (by decide +kernel) (fun c12 => ?_) (fun c12 => ?_)
      · rw [if_pos c12] at h
        refine at_aload_n (i := 0) 0 45 rfl (by decide +kernel) rfl ?_
        refine at_iload_n (i := 1) 1 46 rfl (by decide +kernel) rfl ?_
        refine at_iload_n (i := 3) 3 47 rfl (by decide +kernel) rfl ?_
        refine at_callV mb_RF_pays tw_1489 tw_57 cok12 k2 (index := 404) tw_1487 [.int (l1), .int (l3)] [] rfl rfl (by decide) 50 rfl (by decide +kernel) (Call.toI (CI.monoE h (fun x13 m14 h y15 => ?_)))
        have k16 : mK m14 t = 13 := y15.k k2 (by decide)
        have k17 : mK m14 b3 = 15 := y15.k k5 (by decide)
        have k18 : mK m14 b8 = 15 := y15.k k10 (by decide)
        have e19 : mR m14 t 44 = some b3 := y15.r k2 (by decide) rfl e4
        have e20 : mR m14 t 45 = some b8 := y15.r k2 (by decide) rfl e9
        refine at_if_ne (off := 144) 194 53 rfl (by decide +kernel) (by decide +kernel) (fun c21 => ?_) (fun c21 => ?_)
        · rw [if_neg c21] at h
          refine at_goto (off := (-192)) 2 (by decide +kernel) (by decide +kernel) ?_
          exact At.sub [0, 1, 2, 3] rfl h
        · rw [if_pos c21] at h
          refine at_aload_n (i := 0) 0 54 rfl (by decide +kernel) rfl ?_
          refine at_dup 55 rfl (by decide +kernel) (va_rf_cat _) ?_
          refine at_get (index := 407) (v := .int (mI m14 t 47)) cok12 47 58 rfl (by decide +kernel) k16 (by decide +kernel) tw_1132 rfl ?_
          refine at_iconst (n := 1) (1 : Int32) 59 rfl (by decide +kernel) (by decide +kernel) ?_
          refine at_iadd 60 rfl (by decide +kernel) ?_
          refine at_putI (index := 407) cok12 47 63 rfl (by decide +kernel) k16 (by decide +kernel) tw_1132 rfl rfl rfl (fun m22 e23 => ?_)
          replace h := h m22 e23
          have x24 : Ext m14 m22 := by rw [e23]; exact Ext.sI _ _ _ _
          have k25 : mK m22 t = 13 := x24.k k16 (by decide)
          have k26 : mK m22 b3 = 15 := x24.k k17 (by decide)
          have k27 : mK m22 b8 = 15 := x24.k k18 (by decide)
          have e28 : mR m22 t 44 = some b3 := x24.r k16 (by decide) rfl e19
          have e29 : mR m22 t 45 = some b8 := x24.r k16 (by decide) rfl e20
          refine at_aload_n (i := 0) 0 64 rfl (by decide +kernel) rfl ?_
          refine at_get (index := 140) (v := va_rf (mR m22 t 46)) cok12 46 67 rfl (by decide +kernel) k25 (by decide +kernel) tw_1131 rfl ?_
          obtain ⟨b30, e31, h⟩ := h
          rw [e31]
          refine at_iload (i := 4) 4 69 rfl (by decide +kernel) rfl ?_
          obtain ⟨k32, h⟩ := h
          obtain ⟨v33, h⟩ := h
          refine at_lald 70 rfl (by decide +kernel) k32 v33 ?_
          refine at_aload_n (i := 0) 0 71 rfl (by decide +kernel) rfl ?_
          refine at_get (index := 98) (v := va_rf (mR m22 t 32)) cok12 32 74 rfl (by decide +kernel) k25 (by decide +kernel) tw_1117 rfl ?_
          obtain ⟨b34, e35, h⟩ := h
          rw [e35]
          refine at_iconst (n := 0) (0 : Int32) 75 rfl (by decide +kernel) (by decide +kernel) ?_
          obtain ⟨k36, h⟩ := h
          obtain ⟨v37, h⟩ := h
          refine at_iald 76 rfl (by decide +kernel) k36 v37 ?_
          refine at_i2l 77 rfl (by decide +kernel) ?_
          refine at_ladd 78 rfl (by decide +kernel) ?_
          refine at_lconst (n := 1) (1 : Int64) 79 rfl (by decide +kernel) (by decide +kernel) ?_
          refine at_lsub 80 rfl (by decide +kernel) ?_
          refine at_aload_n (i := 0) 0 81 rfl (by decide +kernel) rfl ?_
          refine at_get (index := 98) (v := va_rf (mR m22 t 32)) cok12 32 84 rfl (by decide +kernel) k25 (by decide +kernel) tw_1117 rfl ?_
          rw [e35]
          refine at_iconst (n := 0) (0 : Int32) 85 rfl (by decide +kernel) (by decide +kernel) ?_
          obtain ⟨v38, h⟩ := h
          refine at_iald 86 rfl (by decide +kernel) k36 v38 ?_
          refine at_i2l 87 rfl (by decide +kernel) ?_
          obtain ⟨c39, h⟩ := h
          refine at_ldiv 88 rfl (by decide +kernel) c39 ?_
          refine at_lstore (i := 5) (lc' := [(0, va_rf (some t)), (1, .int (l1)), (2, .int (l2)), (3, .int (l3)), (4, .int ((((2 : Int32) * l1) + l3) - (1 : Int32))), (5, .long ((((mL m22 b30 ((((2 : Int32) * l1) + l3) - (1 : Int32)).toNatClampNeg) + ((mI m22 b34 (0 : Int32).toNatClampNeg).toInt64)) - (1 : Int64)) / ((mI m22 b34 (0 : Int32).toNatClampNeg).toInt64)))]) [1, 2, 3, 4, 5, 0] 90 rfl (by decide +kernel) (by decide +kernel) rfl ?_
          refine at_bipush (n := 12) (12 : Int32) 92 rfl (by decide +kernel) (by decide +kernel) ?_
          refine at_aload_n (i := 0) 0 93 rfl (by decide +kernel) rfl ?_
          refine at_get (index := 134) (v := va_rf (mR m22 t 44)) cok12 44 96 rfl (by decide +kernel) k25 (by decide +kernel) tw_1129 rfl ?_
          rw [e28]
          refine at_iload (i := 4) 4 98 rfl (by decide +kernel) rfl ?_
          obtain ⟨v40, h⟩ := h
          refine at_iald 99 rfl (by decide +kernel) k26 v40 ?_
          refine at_iadd 100 rfl (by decide +kernel) ?_
          refine at_istore (i := 7) (lc' := [(0, va_rf (some t)), (1, .int (l1)), (2, .int (l2)), (3, .int (l3)), (5, .long ((((mL m22 b30 ((((2 : Int32) * l1) + l3) - (1 : Int32)).toNatClampNeg) + ((mI m22 b34 (0 : Int32).toNatClampNeg).toInt64)) - (1 : Int64)) / ((mI m22 b34 (0 : Int32).toNatClampNeg).toInt64))), (7, .int ((12 : Int32) + (mI m22 b3 ((((2 : Int32) * l1) + l3) - (1 : Int32)).toNatClampNeg)))]) [1, 2, 3, 4, 6, 0] 102 rfl (by decide +kernel) (by decide +kernel) rfl ?_
          refine at_lload (i := 5) 4 104 rfl (by decide +kernel) rfl ?_
          refine at_aload_n (i := 0) 0 105 rfl (by decide +kernel) rfl ?_
          refine at_get (index := 125) (v := va_rf (mR m22 t 41)) cok12 41 108 rfl (by decide +kernel) k25 (by decide +kernel) tw_1126 rfl ?_
          obtain ⟨b41, e42, h⟩ := h
          rw [e42]
          refine at_iload_n (i := 1) 1 109 rfl (by decide +kernel) rfl ?_
          obtain ⟨k43, h⟩ := h
          obtain ⟨v44, h⟩ := h
          refine at_iald 110 rfl (by decide +kernel) k43 v44 ?_
          refine at_i2l 111 rfl (by decide +kernel) ?_
          refine at_lif_ge (off := 15) 112 127 115 rfl rfl (by decide +kernel) (by decide +kernel) (by decide +kernel) (fun c45 => ?_) (fun c45 => ?_)
          · rw [if_pos c45] at h
            exact At.sub [0, 1, 2, 3, 5] rfl h
          · rw [if_neg c45] at h
            refine at_aload_n (i := 0) 0 116 rfl (by decide +kernel) rfl ?_
            refine at_get (index := 101) (v := va_rf (mR m22 t 33)) cok12 33 119 rfl (by decide +kernel) k25 (by decide +kernel) tw_1118 rfl ?_
            obtain ⟨b46, e47, h⟩ := h
            rw [e47]
            refine at_iconst (n := 0) (0 : Int32) 120 rfl (by decide +kernel) (by decide +kernel) ?_
            obtain ⟨k48, h⟩ := h
            obtain ⟨v49, h⟩ := h
            refine at_iald 121 rfl (by decide +kernel) k48 v49 ?_
            refine at_sipush (n := 400) (400 : Int32) 124 rfl (by decide +kernel) (by decide +kernel) ?_
            refine at_icmp_ne (off := 34) 158 127 rfl (by decide +kernel) (by decide +kernel) (fun c50 => ?_) (fun c50 => ?_)
            · rw [if_neg c50] at h
              refine at_aload_n (i := 0) 0 159 rfl (by decide +kernel) rfl ?_
              refine at_get (index := 125) (v := va_rf (mR m22 t 41)) cok12 41 162 rfl (by decide +kernel) k25 (by decide +kernel) tw_1126 rfl ?_
              rw [e42]
              refine at_iload_n (i := 1) 1 163 rfl (by decide +kernel) rfl ?_
              refine at_dup2_11 164 rfl (by decide +kernel) rfl (va_rf_cat _) ?_
              obtain ⟨v51, h⟩ := h
              refine at_iald 165 rfl (by decide +kernel) k43 v51 ?_
              refine at_lload (i := 5) 4 167 rfl (by decide +kernel) rfl ?_
              refine at_l2i 168 rfl (by decide +kernel) ?_
              refine at_isub 169 rfl (by decide +kernel) ?_
              obtain ⟨v52, h⟩ := h
              refine at_iast 170 rfl (by decide +kernel) k43 v52 (fun m53 e54 => ?_)
              replace h := h m53 e54
              have x55 : Ext m22 m53 := by rw [e54]; exact Ext.sI _ _ _ _
              have k56 : mK m53 t = 13 := x55.k k25 (by decide)
              have k57 : mK m53 b3 = 15 := x55.k k26 (by decide)
              have k58 : mK m53 b8 = 15 := x55.k k27 (by decide)
              have k59 : mK m53 b30 = 16 := x55.k k32 (by decide)
              have k60 : mK m53 b34 = 15 := x55.k k36 (by decide)
              have k61 : mK m53 b41 = 15 := x55.k k43 (by decide)
              have k62 : mK m53 b46 = 15 := x55.k k48 (by decide)
              have e63 : mR m53 t 44 = some b3 := x55.r k25 (by decide) rfl e28
              have e64 : mR m53 t 45 = some b8 := x55.r k25 (by decide) rfl e29
              have e65 : mR m53 t 46 = some b30 := x55.r k25 (by decide) rfl e31
              have e66 : mR m53 t 32 = some b34 := x55.r k25 (by decide) rfl e35
              have e67 : mR m53 t 41 = some b41 := x55.r k25 (by decide) rfl e42
              have e68 : mR m53 t 33 = some b46 := x55.r k25 (by decide) rfl e47
              refine at_aload_n (i := 0) 0 171 rfl (by decide +kernel) rfl ?_
              refine at_iconst (n := 0) (0 : Int32) 172 rfl (by decide +kernel) (by decide +kernel) ?_
              refine at_iload (i := 7) 5 174 rfl (by decide +kernel) rfl ?_
              refine at_lload (i := 5) 4 176 rfl (by decide +kernel) rfl ?_
              refine at_l2i 177 rfl (by decide +kernel) ?_
              refine at_aload_n (i := 0) 0 178 rfl (by decide +kernel) rfl ?_
              refine at_get (index := 128) (v := va_rf (mR m53 t 42)) cok12 42 181 rfl (by decide +kernel) k56 (by decide +kernel) tw_1127 rfl ?_
              obtain ⟨b69, e70, h⟩ := h
              rw [e70]
              refine at_iload_n (i := 1) 1 182 rfl (by decide +kernel) rfl ?_
              obtain ⟨k71, h⟩ := h
              obtain ⟨v72, h⟩ := h
              refine at_iald 183 rfl (by decide +kernel) k71 v72 ?_
              refine at_callV mb_RF_receipt_IIII tw_1457 tw_49 cok12 k56 (index := 351) tw_1455 [.int ((0 : Int32)), .int ((12 : Int32) + (mI m22 b3 ((((2 : Int32) * l1) + l3) - (1 : Int32)).toNatClampNeg)), .int (((((mL m22 b30 ((((2 : Int32) * l1) + l3) - (1 : Int32)).toNatClampNeg) + ((mI m22 b34 (0 : Int32).toNatClampNeg).toInt64)) - (1 : Int64)) / ((mI m22 b34 (0 : Int32).toNatClampNeg).toInt64)).toInt32), .int (mI m53 b69 l1.toNatClampNeg)] [] rfl rfl (by decide) 186 rfl (by decide +kernel) (Call.toI (CI.monoE h (fun x73 m74 h y75 => ?_)))
              have k76 : mK m74 t = 13 := y75.k k56 (by decide)
              have k77 : mK m74 b3 = 15 := y75.k k57 (by decide)
              have k78 : mK m74 b8 = 15 := y75.k k58 (by decide)
              have k79 : mK m74 b30 = 16 := y75.k k59 (by decide)
              have k80 : mK m74 b34 = 15 := y75.k k60 (by decide)
              have k81 : mK m74 b41 = 15 := y75.k k61 (by decide)
              have k82 : mK m74 b46 = 15 := y75.k k62 (by decide)
              have k83 : mK m74 b69 = 15 := y75.k k71 (by decide)
              have e84 : mR m74 t 44 = some b3 := y75.r k56 (by decide) rfl e63
              have e85 : mR m74 t 45 = some b8 := y75.r k56 (by decide) rfl e64
              have e86 : mR m74 t 46 = some b30 := y75.r k56 (by decide) rfl e65
              have e87 : mR m74 t 32 = some b34 := y75.r k56 (by decide) rfl e66
              have e88 : mR m74 t 41 = some b41 := y75.r k56 (by decide) rfl e67
              have e89 : mR m74 t 33 = some b46 := y75.r k56 (by decide) rfl e68
              have e90 : mR m74 t 42 = some b69 := y75.r k56 (by decide) rfl e70
              refine at_istore (i := 8) (lc' := [(0, va_rf (some t)), (1, .int (l1)), (2, .int (l2)), (3, .int (l3)), (8, .int (x73))]) [1, 2, 3, 4, 0] 188 rfl (by decide +kernel) (by decide +kernel) rfl ?_
              refine at_aload_n (i := 0) 0 189 rfl (by decide +kernel) rfl ?_
              refine at_iload_n (i := 1) 1 190 rfl (by decide +kernel) rfl ?_
              refine at_iload_n (i := 3) 3 191 rfl (by decide +kernel) rfl ?_
              refine at_callV mb_RF_ends tw_1493 tw_58 cok12 k76 (index := 397) tw_1491 [.int (l1), .int (l3)] [] rfl rfl (by decide) 194 rfl (by decide +kernel) (Call.toV (CV.monoE h (fun m91 h y92 => ?_)))
              have k93 : mK m91 t = 13 := y92.k k76 (by decide)
              have k94 : mK m91 b3 = 15 := y92.k k77 (by decide)
              have k95 : mK m91 b8 = 15 := y92.k k78 (by decide)
              have k96 : mK m91 b30 = 16 := y92.k k79 (by decide)
              have k97 : mK m91 b34 = 15 := y92.k k80 (by decide)
              have k98 : mK m91 b41 = 15 := y92.k k81 (by decide)
              have k99 : mK m91 b46 = 15 := y92.k k82 (by decide)
              have k100 : mK m91 b69 = 15 := y92.k k83 (by decide)
              have e101 : mR m91 t 44 = some b3 := y92.r k76 (by decide) rfl e84
              have e102 : mR m91 t 45 = some b8 := y92.r k76 (by decide) rfl e85
              have e103 : mR m91 t 46 = some b30 := y92.r k76 (by decide) rfl e86
              have e104 : mR m91 t 32 = some b34 := y92.r k76 (by decide) rfl e87
              have e105 : mR m91 t 41 = some b41 := y92.r k76 (by decide) rfl e88
              have e106 : mR m91 t 33 = some b46 := y92.r k76 (by decide) rfl e89
              have e107 : mR m91 t 42 = some b69 := y92.r k76 (by decide) rfl e90
              refine at_goto (off := (-192)) 2 (by decide +kernel) (by decide +kernel) ?_
              exact At.sub [0, 1, 2, 3] rfl h
            · rw [if_pos c50] at h
              exact At.sub [0, 1, 2, 3, 5] rfl h
      · rw [if_neg c12] at h
        refine at_iinc (i := 3) (n := 1) (lc' := [(0, va_rf (some t)), (1, .int (l1)), (2, .int (l2)), (3, .int (l3 + (1 : Int32)))]) (l3 + (1 : Int32)) 3 [1, 2, 3, 0] 41 rfl (by decide +kernel) rfl (by rw [show Int32.ofInt 1 = (1 : Int32) from by decide +kernel]) (by decide +kernel) rfl ?_
        refine at_goto (off := 153) 194 (by decide +kernel) (by decide +kernel) ?_
        refine at_goto (off := (-192)) 2 (by decide +kernel) (by decide +kernel) ?_
        exact h
set_option maxRecDepth 20000 in
set_option maxHeartbeats 4000000 in
theorem en_RF_dues (g : Gc) {lv : Nat} {t : Nat} {l1 : Int32} {l2 : Int32} {m : Mm} {Q : Mm → Prop} (h : At g M_RF_dues (lv + 1) 2 [(0, va_rf (some t)), (1, .int (l1)), (2, .int (l2)), (3, .int ((1 : Int32)))] [] m (QV Q)) : CV g M_RF_dues (lv + 1) [va_rf (some t), .int (l1), .int (l2)] m Q := by
  refine Call.of (by decide +kernel) (Nat.le_of_ble_eq_true rfl) ?_
  show At g M_RF_dues (lv + 1) 0 [(0, va_rf (some t)), (1, .int (l1)), (2, .int (l2))] [] m (QV Q)
  refine at_iconst (n := 1) (1 : Int32) 1 rfl (by decide +kernel) (by decide +kernel) ?_
  refine at_istore_n (i := 3) (lc' := [(0, va_rf (some t)), (1, .int (l1)), (2, .int (l2)), (3, .int ((1 : Int32)))]) [1, 2, 3, 0] 2 rfl (by decide +kernel) (by decide +kernel) rfl ?_
  exact h
set_option maxRecDepth 20000 in
set_option maxHeartbeats 4000000 in
theorem en_RF_redeem (g : Gc) {lv : Nat} {t : Nat} {l1 : Int32} {m : Mm} {Q : Int32 → Mm → Prop} (h : mK m t = 13 ∧ (∀ m2, m2 = sI m t 0 (0 : Int32) → (CI g M_RF_isFull lv [va_rf (some t), .int (l1)] m2 (fun x6 m7 => (if (x6) = 0 then (Q (-2 : Int32) m7) else (∃ b11, mR m7 t 40 = some b11 ∧ (mK m7 b11 = 15 ∧ (vp_in l1 (mN m7 b11) ∧ (if (mI m7 b11 l1.toNatClampNeg) < ((12 : Int32)) then (CI g M_RF_isPledged lv [va_rf (some t), .int (l1)] m7 (fun x16 m17 => (if (x16) = 0 then (∃ b23, mR m17 t 31 = some b23 ∧ (mK m17 b23 = 15 ∧ (vp_in (0 : Int32) (mN m17 b23) ∧ (∃ b27, mR m17 t 42 = some b27 ∧ (mK m17 b27 = 15 ∧ (vp_in l1 (mN m17 b27) ∧ (if ((3 : Int32)) ≤ ((mI m17 b23 (0 : Int32).toNatClampNeg) - (mI m17 b27 l1.toNatClampNeg)) then (∃ b32, mR m17 t 41 = some b32 ∧ (mK m17 b32 = 15 ∧ (vp_in l1 (mN m17 b32) ∧ (∃ b36, mR m17 t 37 = some b36 ∧ (vp_in l1 (mN m17 b11) ∧ (mK m17 b36 = 15 ∧ (vp_in (mI m17 b11 l1.toNatClampNeg) (mN m17 b36) ∧ (vp_in (mI m17 b11 l1.toNatClampNeg) (mN m17 b36) ∧ (∀ m42, m42 = sI m17 b36 (mI m17 b11 l1.toNatClampNeg).toNatClampNeg ((mI m17 b36 (mI m17 b11 l1.toNatClampNeg).toNatClampNeg) + (mI m17 b32 l1.toNatClampNeg)) → (vp_in l1 (mN m42 b32) ∧ (∀ m57, m57 = sI m42 b32 l1.toNatClampNeg (0 : Int32) → (∃ b71, mR m57 t 43 = some b71 ∧ (mK m57 b71 = 16 ∧ (vp_in (7 : Int32) (mN m57 b71) ∧ (vp_in (7 : Int32) (mN m57 b71) ∧ (∀ m76, m76 = sL m57 b71 (7 : Int32).toNatClampNeg ((mL m57 b71 (7 : Int32).toNatClampNeg) + ((mI m17 b32 l1.toNatClampNeg).toInt64)) → (Q (mI m17 b32 l1.toNatClampNeg) m76))))))))))))))))) else (Q (-9 : Int32) m17)))))))) else (Q (-7 : Int32) m17)))) else (Q (-2 : Int32) m7)))))))))) : CI g M_RF_redeem (lv + 1) [va_rf (some t), .int (l1)] m Q := by
  refine Call.of (by decide +kernel) (Nat.le_of_ble_eq_true rfl) ?_
  show At g M_RF_redeem (lv + 1) 0 [(0, va_rf (some t)), (1, .int (l1))] [] m (QI Q)
  refine at_aload_n (i := 0) 0 1 rfl (by decide +kernel) rfl ?_
  refine at_iconst (n := 0) (0 : Int32) 2 rfl (by decide +kernel) (by decide +kernel) ?_
  obtain ⟨k1, h⟩ := h
  refine at_putI (index := 149) cok12 0 5 rfl (by decide +kernel) k1 (by decide +kernel) tw_1085 rfl rfl rfl (fun m2 e3 => ?_)
  replace h := h m2 e3
  have x4 : Ext m m2 := by rw [e3]; exact Ext.sI _ _ _ _
  have k5 : mK m2 t = 13 := x4.k k1 (by decide)
  refine at_aload_n (i := 0) 0 6 rfl (by decide +kernel) rfl ?_
  refine at_iload_n (i := 1) 1 7 rfl (by decide +kernel) rfl ?_
  refine at_callV mb_RF_isFull tw_1506 tw_59 cok12 k5 (index := 383) tw_1504 [.int (l1)] [] rfl rfl (by decide) 10 rfl (by decide +kernel) (Call.toI (CI.monoE h (fun x6 m7 h y8 => ?_)))
  have k9 : mK m7 t = 13 := y8.k k5 (by decide)
  refine at_if_eq (off := 14) 24 13 rfl (by decide +kernel) (by decide +kernel) (fun c10 => ?_) (fun c10 => ?_)
  · rw [if_pos c10] at h
    refine at_bipush (n := (-2)) (-2 : Int32) 26 rfl (by decide +kernel) (by decide +kernel) ?_
    exact at_iret rfl (by decide +kernel) h
  · rw [if_neg c10] at h
    refine at_aload_n (i := 0) 0 14 rfl (by decide +kernel) rfl ?_
    refine at_get (index := 122) (v := va_rf (mR m7 t 40)) cok12 40 17 rfl (by decide +kernel) k9 (by decide +kernel) tw_1125 rfl ?_
    obtain ⟨b11, e12, h⟩ := h
    rw [e12]
    refine at_iload_n (i := 1) 1 18 rfl (by decide +kernel) rfl ?_
    obtain ⟨k13, h⟩ := h
    obtain ⟨v14, h⟩ := h
    refine at_iald 19 rfl (by decide +kernel) k13 v14 ?_
    refine at_bipush (n := 12) (12 : Int32) 21 rfl (by decide +kernel) (by decide +kernel) ?_
    refine at_icmp_lt (off := 6) 27 24 rfl (by decide +kernel) (by decide +kernel) (fun c15 => ?_) (fun c15 => ?_)
    · rw [if_pos c15] at h
      refine at_aload_n (i := 0) 0 28 rfl (by decide +kernel) rfl ?_
      refine at_iload_n (i := 1) 1 29 rfl (by decide +kernel) rfl ?_
      refine at_callV mb_RF_isPledged tw_1510 tw_60 cok12 k9 (index := 386) tw_1508 [.int (l1)] [] rfl rfl (by decide) 32 rfl (by decide +kernel) (Call.toI (CI.monoE h (fun x16 m17 h y18 => ?_)))
      have k19 : mK m17 t = 13 := y18.k k9 (by decide)
      have k20 : mK m17 b11 = 15 := y18.k k13 (by decide)
      have e21 : mR m17 t 40 = some b11 := y18.r k9 (by decide) rfl e12
      refine at_if_eq (off := 6) 38 35 rfl (by decide +kernel) (by decide +kernel) (fun c22 => ?_) (fun c22 => ?_)
      · rw [if_pos c22] at h
        refine at_aload_n (i := 0) 0 39 rfl (by decide +kernel) rfl ?_
        refine at_get (index := 95) (v := va_rf (mR m17 t 31)) cok12 31 42 rfl (by decide +kernel) k19 (by decide +kernel) tw_1116 rfl ?_
        obtain ⟨b23, e24, h⟩ := h
        rw [e24]
        refine at_iconst (n := 0) (0 : Int32) 43 rfl (by decide +kernel) (by decide +kernel) ?_
        obtain ⟨k25, h⟩ := h
        obtain ⟨v26, h⟩ := h
        refine at_iald 44 rfl (by decide +kernel) k25 v26 ?_
        refine at_aload_n (i := 0) 0 45 rfl (by decide +kernel) rfl ?_
        refine at_get (index := 128) (v := va_rf (mR m17 t 42)) cok12 42 48 rfl (by decide +kernel) k19 (by decide +kernel) tw_1127 rfl ?_
        obtain ⟨b27, e28, h⟩ := h
        rw [e28]
        refine at_iload_n (i := 1) 1 49 rfl (by decide +kernel) rfl ?_
        obtain ⟨k29, h⟩ := h
        obtain ⟨v30, h⟩ := h
        refine at_iald 50 rfl (by decide +kernel) k29 v30 ?_
        refine at_isub 51 rfl (by decide +kernel) ?_
        refine at_iconst (n := 3) (3 : Int32) 52 rfl (by decide +kernel) (by decide +kernel) ?_
        refine at_icmp_ge (off := 6) 58 55 rfl (by decide +kernel) (by decide +kernel) (fun c31 => ?_) (fun c31 => ?_)
        · rw [if_pos c31] at h
          refine at_aload_n (i := 0) 0 59 rfl (by decide +kernel) rfl ?_
          refine at_get (index := 125) (v := va_rf (mR m17 t 41)) cok12 41 62 rfl (by decide +kernel) k19 (by decide +kernel) tw_1126 rfl ?_
          obtain ⟨b32, e33, h⟩ := h
          rw [e33]
          refine at_iload_n (i := 1) 1 63 rfl (by decide +kernel) rfl ?_
          obtain ⟨k34, h⟩ := h
          obtain ⟨v35, h⟩ := h
          refine at_iald 64 rfl (by decide +kernel) k34 v35 ?_
          refine at_istore_n (i := 2) (lc' := [(0, va_rf (some t)), (1, .int (l1)), (2, .int (mI m17 b32 l1.toNatClampNeg))]) [1, 2, 0] 65 rfl (by decide +kernel) (by decide +kernel) rfl ?_
          refine at_aload_n (i := 0) 0 66 rfl (by decide +kernel) rfl ?_
          refine at_get (index := 113) (v := va_rf (mR m17 t 37)) cok12 37 69 rfl (by decide +kernel) k19 (by decide +kernel) tw_1122 rfl ?_
          obtain ⟨b36, e37, h⟩ := h
          rw [e37]
          refine at_aload_n (i := 0) 0 70 rfl (by decide +kernel) rfl ?_
          refine at_get (index := 122) (v := va_rf (mR m17 t 40)) cok12 40 73 rfl (by decide +kernel) k19 (by decide +kernel) tw_1125 rfl ?_
          rw [e21]
          refine at_iload_n (i := 1) 1 74 rfl (by decide +kernel) rfl ?_
          obtain ⟨v38, h⟩ := h
          refine at_iald 75 rfl (by decide +kernel) k20 v38 ?_
          refine at_dup2_11 76 rfl (by decide +kernel) rfl (va_rf_cat _) ?_
          obtain ⟨k39, h⟩ := h
          obtain ⟨v40, h⟩ := h
          refine at_iald 77 rfl (by decide +kernel) k39 v40 ?_
          refine at_iload_n (i := 2) 2 78 rfl (by decide +kernel) rfl ?_
          refine at_iadd 79 rfl (by decide +kernel) ?_
          obtain ⟨v41, h⟩ := h
          refine at_iast 80 rfl (by decide +kernel) k39 v41 (fun m42 e43 => ?_)
          replace h := h m42 e43
          have x44 : Ext m17 m42 := by rw [e43]; exact Ext.sI _ _ _ _
          have k45 : mK m42 t = 13 := x44.k k19 (by decide)
          have k46 : mK m42 b11 = 15 := x44.k k20 (by decide)
          have k47 : mK m42 b23 = 15 := x44.k k25 (by decide)
          have k48 : mK m42 b27 = 15 := x44.k k29 (by decide)
          have k49 : mK m42 b32 = 15 := x44.k k34 (by decide)
          have k50 : mK m42 b36 = 15 := x44.k k39 (by decide)
          have e51 : mR m42 t 40 = some b11 := x44.r k19 (by decide) rfl e21
          have e52 : mR m42 t 31 = some b23 := x44.r k19 (by decide) rfl e24
          have e53 : mR m42 t 42 = some b27 := x44.r k19 (by decide) rfl e28
          have e54 : mR m42 t 41 = some b32 := x44.r k19 (by decide) rfl e33
          have e55 : mR m42 t 37 = some b36 := x44.r k19 (by decide) rfl e37
          refine at_aload_n (i := 0) 0 81 rfl (by decide +kernel) rfl ?_
          refine at_get (index := 125) (v := va_rf (mR m42 t 41)) cok12 41 84 rfl (by decide +kernel) k45 (by decide +kernel) tw_1126 rfl ?_
          rw [e54]
          refine at_iload_n (i := 1) 1 85 rfl (by decide +kernel) rfl ?_
          refine at_iconst (n := 0) (0 : Int32) 86 rfl (by decide +kernel) (by decide +kernel) ?_
          obtain ⟨v56, h⟩ := h
          refine at_iast 87 rfl (by decide +kernel) k49 v56 (fun m57 e58 => ?_)
          replace h := h m57 e58
          have x59 : Ext m42 m57 := by rw [e58]; exact Ext.sI _ _ _ _
          have k60 : mK m57 t = 13 := x59.k k45 (by decide)
          have k61 : mK m57 b11 = 15 := x59.k k46 (by decide)
          have k62 : mK m57 b23 = 15 := x59.k k47 (by decide)
          have k63 : mK m57 b27 = 15 := x59.k k48 (by decide)
          have k64 : mK m57 b32 = 15 := x59.k k49 (by decide)
          have k65 : mK m57 b36 = 15 := x59.k k50 (by decide)
          have e66 : mR m57 t 40 = some b11 := x59.r k45 (by decide) rfl e51
          have e67 : mR m57 t 31 = some b23 := x59.r k45 (by decide) rfl e52
          have e68 : mR m57 t 42 = some b27 := x59.r k45 (by decide) rfl e53
          have e69 : mR m57 t 41 = some b32 := x59.r k45 (by decide) rfl e54
          have e70 : mR m57 t 37 = some b36 := x59.r k45 (by decide) rfl e55
          refine at_aload_n (i := 0) 0 88 rfl (by decide +kernel) rfl ?_
          refine at_get (index := 131) (v := va_rf (mR m57 t 43)) cok12 43 91 rfl (by decide +kernel) k60 (by decide +kernel) tw_1128 rfl ?_
          obtain ⟨b71, e72, h⟩ := h
          rw [e72]
          refine at_bipush (n := 7) (7 : Int32) 93 rfl (by decide +kernel) (by decide +kernel) ?_
          refine at_dup2_11 94 rfl (by decide +kernel) rfl (va_rf_cat _) ?_
          obtain ⟨k73, h⟩ := h
          obtain ⟨v74, h⟩ := h
          refine at_lald 95 rfl (by decide +kernel) k73 v74 ?_
          refine at_iload_n (i := 2) 2 96 rfl (by decide +kernel) rfl ?_
          refine at_i2l 97 rfl (by decide +kernel) ?_
          refine at_ladd 98 rfl (by decide +kernel) ?_
          obtain ⟨v75, h⟩ := h
          refine at_last 99 rfl (by decide +kernel) k73 v75 (fun m76 e77 => ?_)
          replace h := h m76 e77
          have x78 : Ext m57 m76 := by rw [e77]; exact Ext.sL _ _ _ _
          have k79 : mK m76 t = 13 := x78.k k60 (by decide)
          have k80 : mK m76 b11 = 15 := x78.k k61 (by decide)
          have k81 : mK m76 b23 = 15 := x78.k k62 (by decide)
          have k82 : mK m76 b27 = 15 := x78.k k63 (by decide)
          have k83 : mK m76 b32 = 15 := x78.k k64 (by decide)
          have k84 : mK m76 b36 = 15 := x78.k k65 (by decide)
          have k85 : mK m76 b71 = 16 := x78.k k73 (by decide)
          have e86 : mR m76 t 40 = some b11 := x78.r k60 (by decide) rfl e66
          have e87 : mR m76 t 31 = some b23 := x78.r k60 (by decide) rfl e67
          have e88 : mR m76 t 42 = some b27 := x78.r k60 (by decide) rfl e68
          have e89 : mR m76 t 41 = some b32 := x78.r k60 (by decide) rfl e69
          have e90 : mR m76 t 37 = some b36 := x78.r k60 (by decide) rfl e70
          have e91 : mR m76 t 43 = some b71 := x78.r k60 (by decide) rfl e72
          refine at_iload_n (i := 2) 2 100 rfl (by decide +kernel) rfl ?_
          exact at_iret rfl (by decide +kernel) h
        · rw [if_neg c31] at h
          refine at_bipush (n := (-9)) (-9 : Int32) 57 rfl (by decide +kernel) (by decide +kernel) ?_
          exact at_iret rfl (by decide +kernel) h
      · rw [if_neg c22] at h
        refine at_bipush (n := (-7)) (-7 : Int32) 37 rfl (by decide +kernel) (by decide +kernel) ?_
        exact at_iret rfl (by decide +kernel) h
    · rw [if_neg c15] at h
      refine at_bipush (n := (-2)) (-2 : Int32) 26 rfl (by decide +kernel) (by decide +kernel) ?_
      exact at_iret rfl (by decide +kernel) h
set_option maxRecDepth 20000 in
set_option maxHeartbeats 4000000 in
theorem en_RF_receipt_II (g : Gc) {lv : Nat} {t : Nat} {l1 : Int32} {l2 : Int32} {m : Mm} {Q : Int32 → Mm → Prop} (h : mK m t = 13 ∧ (∀ m2, m2 = sI m t 0 (0 : Int32) → (∃ b6, mR m2 t 33 = some b6 ∧ (mK m2 b6 = 15 ∧ (vp_in (0 : Int32) (mN m2 b6) ∧ (CI g M_RF_in lv [.long (l1.toInt64), .long ((0 : Int64)), .long (((mI m2 b6 (0 : Int32).toNatClampNeg) - (1 : Int32)).toInt64)] m2 (fun x10 m11 => (if (x10) = 0 then (Q (-2 : Int32) m11) else (if l2 = (0 : Int32) then (∃ b19, mR m11 t 40 = some b19 ∧ (mK m11 b19 = 15 ∧ (vp_in l1 (mN m11 b19) ∧ (Q (mI m11 b19 l1.toNatClampNeg) m11)))) else (if l2 = (1 : Int32) then (∃ b24, mR m11 t 41 = some b24 ∧ (mK m11 b24 = 15 ∧ (vp_in l1 (mN m11 b24) ∧ (Q (mI m11 b24 l1.toNatClampNeg) m11)))) else (if l2 = (2 : Int32) then (∃ b29, mR m11 t 42 = some b29 ∧ (mK m11 b29 = 15 ∧ (vp_in l1 (mN m11 b29) ∧ (Q (mI m11 b29 l1.toNatClampNeg) m11)))) else (if l2 = (3 : Int32) then (∃ b34, mR m11 t 44 = some b34 ∧ (mK m11 b34 = 15 ∧ (vp_in ((2 : Int32) * l1) (mN m11 b34) ∧ (Q (mI m11 b34 ((2 : Int32) * l1).toNatClampNeg) m11)))) else (if l2 = (4 : Int32) then (∃ b39, mR m11 t 44 = some b39 ∧ (mK m11 b39 = 15 ∧ (vp_in (((2 : Int32) * l1) + (1 : Int32)) (mN m11 b39) ∧ (Q (mI m11 b39 (((2 : Int32) * l1) + (1 : Int32)).toNatClampNeg) m11)))) else (if l2 = (5 : Int32) then (∃ b44, mR m11 t 44 = some b44 ∧ (mK m11 b44 = 15 ∧ (vp_in ((2 : Int32) * l1) (mN m11 b44) ∧ (if (mI m11 b44 ((2 : Int32) * l1).toNatClampNeg) = ((-1 : Int32)) then (Q (-1 : Int32) m11) else (∃ b49, mR m11 t 45 = some b49 ∧ (mK m11 b49 = 15 ∧ (vp_in ((2 : Int32) * l1) (mN m11 b49) ∧ (Q (mI m11 b49 ((2 : Int32) * l1).toNatClampNeg) m11)))))))) else (if l2 = (6 : Int32) then (∃ b54, mR m11 t 44 = some b54 ∧ (mK m11 b54 = 15 ∧ (vp_in (((2 : Int32) * l1) + (1 : Int32)) (mN m11 b54) ∧ (if (mI m11 b54 (((2 : Int32) * l1) + (1 : Int32)).toNatClampNeg) = ((-1 : Int32)) then (Q (-1 : Int32) m11) else (∃ b59, mR m11 t 45 = some b59 ∧ (mK m11 b59 = 15 ∧ (vp_in (((2 : Int32) * l1) + (1 : Int32)) (mN m11 b59) ∧ (Q (mI m11 b59 (((2 : Int32) * l1) + (1 : Int32)).toNatClampNeg) m11)))))))) else (Q (-2 : Int32) m11)))))))))))))))) : CI g M_RF_receipt_II (lv + 1) [va_rf (some t), .int (l1), .int (l2)] m Q := by
  refine Call.of (by decide +kernel) (Nat.le_of_ble_eq_true rfl) ?_
  show At g M_RF_receipt_II (lv + 1) 0 [(0, va_rf (some t)), (1, .int (l1)), (2, .int (l2))] [] m (QI Q)
  refine at_aload_n (i := 0) 0 1 rfl (by decide +kernel) rfl ?_
  refine at_iconst (n := 0) (0 : Int32) 2 rfl (by decide +kernel) (by decide +kernel) ?_
  obtain ⟨k1, h⟩ := h
  refine at_putI (index := 149) cok12 0 5 rfl (by decide +kernel) k1 (by decide +kernel) tw_1085 rfl rfl rfl (fun m2 e3 => ?_)
  replace h := h m2 e3
  have x4 : Ext m m2 := by rw [e3]; exact Ext.sI _ _ _ _
  have k5 : mK m2 t = 13 := x4.k k1 (by decide)
  refine at_iload_n (i := 1) 1 6 rfl (by decide +kernel) rfl ?_
  refine at_i2l 7 rfl (by decide +kernel) ?_
  refine at_lconst (n := 0) (0 : Int64) 8 rfl (by decide +kernel) (by decide +kernel) ?_
  refine at_aload_n (i := 0) 0 9 rfl (by decide +kernel) rfl ?_
  refine at_get (index := 101) (v := va_rf (mR m2 t 33)) cok12 33 12 rfl (by decide +kernel) k5 (by decide +kernel) tw_1118 rfl ?_
  obtain ⟨b6, e7, h⟩ := h
  rw [e7]
  refine at_iconst (n := 0) (0 : Int32) 13 rfl (by decide +kernel) (by decide +kernel) ?_
  obtain ⟨k8, h⟩ := h
  obtain ⟨v9, h⟩ := h
  refine at_iald 14 rfl (by decide +kernel) k8 v9 ?_
  refine at_iconst (n := 1) (1 : Int32) 15 rfl (by decide +kernel) (by decide +kernel) ?_
  refine at_isub 16 rfl (by decide +kernel) ?_
  refine at_i2l 17 rfl (by decide +kernel) ?_
  refine at_callS mb_RF_in tw_1293 (index := 154) tw_1292 [.long (l1.toInt64), .long ((0 : Int64)), .long (((mI m2 b6 (0 : Int32).toNatClampNeg) - (1 : Int32)).toInt64)] [] rfl rfl (by decide) 20 rfl (by decide +kernel) (Call.toI (CI.monoE h (fun x10 m11 h y12 => ?_)))
  have k13 : mK m11 t = 13 := y12.k k5 (by decide)
  have k14 : mK m11 b6 = 15 := y12.k k8 (by decide)
  have e15 : mR m11 t 33 = some b6 := y12.r k5 (by decide) rfl e7
  refine at_if_ne (off := 6) 26 23 rfl (by decide +kernel) (by decide +kernel) (fun c16 => ?_) (fun c16 => ?_)
  · rw [if_neg c16] at h
    refine at_iload_n (i := 2) 2 27 rfl (by decide +kernel) rfl ?_
    by_cases c18 : l2 = (0 : Int32)
    · rw [if_pos c18] at h
      have w17 : l2.toInt = 0 := by rw [c18]; decide +kernel
      refine at_tabIn (dflt := 136) (lo := 0) (hi := 6) (offs := #[41, 48, 55, 62, 71, 82, 107]) (len := 41) (off := 41) 68 (by decide +kernel) (by rw [w17]; decide) (by rw [w17]; decide) (by rw [w17]; decide +kernel) (by decide +kernel) ?_
      refine at_aload_n (i := 0) 0 69 rfl (by decide +kernel) rfl ?_
      refine at_get (index := 122) (v := va_rf (mR m11 t 40)) cok12 40 72 rfl (by decide +kernel) k13 (by decide +kernel) tw_1125 rfl ?_
      obtain ⟨b19, e20, h⟩ := h
      rw [e20]
      refine at_iload_n (i := 1) 1 73 rfl (by decide +kernel) rfl ?_
      obtain ⟨k21, h⟩ := h
      obtain ⟨v22, h⟩ := h
      refine at_iald 74 rfl (by decide +kernel) k21 v22 ?_
      exact at_iret rfl (by decide +kernel) h
    rw [if_neg c18] at h
    by_cases c23 : l2 = (1 : Int32)
    · rw [if_pos c23] at h
      have w17 : l2.toInt = 1 := by rw [c23]; decide +kernel
      refine at_tabIn (dflt := 136) (lo := 0) (hi := 6) (offs := #[41, 48, 55, 62, 71, 82, 107]) (len := 41) (off := 48) 75 (by decide +kernel) (by rw [w17]; decide) (by rw [w17]; decide) (by rw [w17]; decide +kernel) (by decide +kernel) ?_
      refine at_aload_n (i := 0) 0 76 rfl (by decide +kernel) rfl ?_
      refine at_get (index := 125) (v := va_rf (mR m11 t 41)) cok12 41 79 rfl (by decide +kernel) k13 (by decide +kernel) tw_1126 rfl ?_
      obtain ⟨b24, e25, h⟩ := h
      rw [e25]
      refine at_iload_n (i := 1) 1 80 rfl (by decide +kernel) rfl ?_
      obtain ⟨k26, h⟩ := h
      obtain ⟨v27, h⟩ := h
      refine at_iald 81 rfl (by decide +kernel) k26 v27 ?_
      exact at_iret rfl (by decide +kernel) h
    rw [if_neg c23] at h
    by_cases c28 : l2 = (2 : Int32)
    · rw [if_pos c28] at h
      have w17 : l2.toInt = 2 := by rw [c28]; decide +kernel
      refine at_tabIn (dflt := 136) (lo := 0) (hi := 6) (offs := #[41, 48, 55, 62, 71, 82, 107]) (len := 41) (off := 55) 82 (by decide +kernel) (by rw [w17]; decide) (by rw [w17]; decide) (by rw [w17]; decide +kernel) (by decide +kernel) ?_
      refine at_aload_n (i := 0) 0 83 rfl (by decide +kernel) rfl ?_
      refine at_get (index := 128) (v := va_rf (mR m11 t 42)) cok12 42 86 rfl (by decide +kernel) k13 (by decide +kernel) tw_1127 rfl ?_
      obtain ⟨b29, e30, h⟩ := h
      rw [e30]
      refine at_iload_n (i := 1) 1 87 rfl (by decide +kernel) rfl ?_
      obtain ⟨k31, h⟩ := h
      obtain ⟨v32, h⟩ := h
      refine at_iald 88 rfl (by decide +kernel) k31 v32 ?_
      exact at_iret rfl (by decide +kernel) h
    rw [if_neg c28] at h
    by_cases c33 : l2 = (3 : Int32)
    · rw [if_pos c33] at h
      have w17 : l2.toInt = 3 := by rw [c33]; decide +kernel
      refine at_tabIn (dflt := 136) (lo := 0) (hi := 6) (offs := #[41, 48, 55, 62, 71, 82, 107]) (len := 41) (off := 62) 89 (by decide +kernel) (by rw [w17]; decide) (by rw [w17]; decide) (by rw [w17]; decide +kernel) (by decide +kernel) ?_
      refine at_aload_n (i := 0) 0 90 rfl (by decide +kernel) rfl ?_
      refine at_get (index := 134) (v := va_rf (mR m11 t 44)) cok12 44 93 rfl (by decide +kernel) k13 (by decide +kernel) tw_1129 rfl ?_
      obtain ⟨b34, e35, h⟩ := h
      rw [e35]
      refine at_iconst (n := 2) (2 : Int32) 94 rfl (by decide +kernel) (by decide +kernel) ?_
      refine at_iload_n (i := 1) 1 95 rfl (by decide +kernel) rfl ?_
      refine at_imul 96 rfl (by decide +kernel) ?_
      obtain ⟨k36, h⟩ := h
      obtain ⟨v37, h⟩ := h
      refine at_iald 97 rfl (by decide +kernel) k36 v37 ?_
      exact at_iret rfl (by decide +kernel) h
    rw [if_neg c33] at h
    by_cases c38 : l2 = (4 : Int32)
    · rw [if_pos c38] at h
      have w17 : l2.toInt = 4 := by rw [c38]; decide +kernel
      refine at_tabIn (dflt := 136) (lo := 0) (hi := 6) (offs := #[41, 48, 55, 62, 71, 82, 107]) (len := 41) (off := 71) 98 (by decide +kernel) (by rw [w17]; decide) (by rw [w17]; decide) (by rw [w17]; decide +kernel) (by decide +kernel) ?_
      refine at_aload_n (i := 0) 0 99 rfl (by decide +kernel) rfl ?_
      refine at_get (index := 134) (v := va_rf (mR m11 t 44)) cok12 44 102 rfl (by decide +kernel) k13 (by decide +kernel) tw_1129 rfl ?_
      obtain ⟨b39, e40, h⟩ := h
      rw [e40]
      refine at_iconst (n := 2) (2 : Int32) 103 rfl (by decide +kernel) (by decide +kernel) ?_
      refine at_iload_n (i := 1) 1 104 rfl (by decide +kernel) rfl ?_
      refine at_imul 105 rfl (by decide +kernel) ?_
      refine at_iconst (n := 1) (1 : Int32) 106 rfl (by decide +kernel) (by decide +kernel) ?_
      refine at_iadd 107 rfl (by decide +kernel) ?_
      obtain ⟨k41, h⟩ := h
      obtain ⟨v42, h⟩ := h
      refine at_iald 108 rfl (by decide +kernel) k41 v42 ?_
      exact at_iret rfl (by decide +kernel) h
    rw [if_neg c38] at h
    by_cases c43 : l2 = (5 : Int32)
    · rw [if_pos c43] at h
      have w17 : l2.toInt = 5 := by rw [c43]; decide +kernel
      refine at_tabIn (dflt := 136) (lo := 0) (hi := 6) (offs := #[41, 48, 55, 62, 71, 82, 107]) (len := 41) (off := 82) 109 (by decide +kernel) (by rw [w17]; decide) (by rw [w17]; decide) (by rw [w17]; decide +kernel) (by decide +kernel) ?_
      refine at_aload_n (i := 0) 0 110 rfl (by decide +kernel) rfl ?_
      refine at_get (index := 134) (v := va_rf (mR m11 t 44)) cok12 44 113 rfl (by decide +kernel) k13 (by decide +kernel) tw_1129 rfl ?_
      obtain ⟨b44, e45, h⟩ := h
      rw [e45]
      refine at_iconst (n := 2) (2 : Int32) 114 rfl (by decide +kernel) (by decide +kernel) ?_
      refine at_iload_n (i := 1) 1 115 rfl (by decide +kernel) rfl ?_
      refine at_imul 116 rfl (by decide +kernel) ?_
      obtain ⟨k46, h⟩ := h
      obtain ⟨v47, h⟩ := h
      refine at_iald 117 rfl (by decide +kernel) k46 v47 ?_
      refine at_iconst (n := (-1)) (-1 : Int32) 118 rfl (by decide +kernel) (by decide +kernel) ?_
      refine at_icmp_ne (off := 7) 125 121 rfl (by decide +kernel) (by decide +kernel) (fun c48 => ?_) (fun c48 => ?_)
      · rw [if_neg c48] at h
        refine at_aload_n (i := 0) 0 126 rfl (by decide +kernel) rfl ?_
        refine at_get (index := 137) (v := va_rf (mR m11 t 45)) cok12 45 129 rfl (by decide +kernel) k13 (by decide +kernel) tw_1130 rfl ?_
        obtain ⟨b49, e50, h⟩ := h
        rw [e50]
        refine at_iconst (n := 2) (2 : Int32) 130 rfl (by decide +kernel) (by decide +kernel) ?_
        refine at_iload_n (i := 1) 1 131 rfl (by decide +kernel) rfl ?_
        refine at_imul 132 rfl (by decide +kernel) ?_
        obtain ⟨k51, h⟩ := h
        obtain ⟨v52, h⟩ := h
        refine at_iald 133 rfl (by decide +kernel) k51 v52 ?_
        exact at_iret rfl (by decide +kernel) h
      · rw [if_pos c48] at h
        refine at_iconst (n := (-1)) (-1 : Int32) 122 rfl (by decide +kernel) (by decide +kernel) ?_
        refine at_goto (off := 11) 133 (by decide +kernel) (by decide +kernel) ?_
        exact at_iret rfl (by decide +kernel) h
    rw [if_neg c43] at h
    by_cases c53 : l2 = (6 : Int32)
    · rw [if_pos c53] at h
      have w17 : l2.toInt = 6 := by rw [c53]; decide +kernel
      refine at_tabIn (dflt := 136) (lo := 0) (hi := 6) (offs := #[41, 48, 55, 62, 71, 82, 107]) (len := 41) (off := 107) 134 (by decide +kernel) (by rw [w17]; decide) (by rw [w17]; decide) (by rw [w17]; decide +kernel) (by decide +kernel) ?_
      refine at_aload_n (i := 0) 0 135 rfl (by decide +kernel) rfl ?_
      refine at_get (index := 134) (v := va_rf (mR m11 t 44)) cok12 44 138 rfl (by decide +kernel) k13 (by decide +kernel) tw_1129 rfl ?_
      obtain ⟨b54, e55, h⟩ := h
      rw [e55]
      refine at_iconst (n := 2) (2 : Int32) 139 rfl (by decide +kernel) (by decide +kernel) ?_
      refine at_iload_n (i := 1) 1 140 rfl (by decide +kernel) rfl ?_
      refine at_imul 141 rfl (by decide +kernel) ?_
      refine at_iconst (n := 1) (1 : Int32) 142 rfl (by decide +kernel) (by decide +kernel) ?_
      refine at_iadd 143 rfl (by decide +kernel) ?_
      obtain ⟨k56, h⟩ := h
      obtain ⟨v57, h⟩ := h
      refine at_iald 144 rfl (by decide +kernel) k56 v57 ?_
      refine at_iconst (n := (-1)) (-1 : Int32) 145 rfl (by decide +kernel) (by decide +kernel) ?_
      refine at_icmp_ne (off := 7) 152 148 rfl (by decide +kernel) (by decide +kernel) (fun c58 => ?_) (fun c58 => ?_)
      · rw [if_neg c58] at h
        refine at_aload_n (i := 0) 0 153 rfl (by decide +kernel) rfl ?_
        refine at_get (index := 137) (v := va_rf (mR m11 t 45)) cok12 45 156 rfl (by decide +kernel) k13 (by decide +kernel) tw_1130 rfl ?_
        obtain ⟨b59, e60, h⟩ := h
        rw [e60]
        refine at_iconst (n := 2) (2 : Int32) 157 rfl (by decide +kernel) (by decide +kernel) ?_
        refine at_iload_n (i := 1) 1 158 rfl (by decide +kernel) rfl ?_
        refine at_imul 159 rfl (by decide +kernel) ?_
        refine at_iconst (n := 1) (1 : Int32) 160 rfl (by decide +kernel) (by decide +kernel) ?_
        refine at_iadd 161 rfl (by decide +kernel) ?_
        obtain ⟨k61, h⟩ := h
        obtain ⟨v62, h⟩ := h
        refine at_iald 162 rfl (by decide +kernel) k61 v62 ?_
        exact at_iret rfl (by decide +kernel) h
      · rw [if_pos c58] at h
        refine at_iconst (n := (-1)) (-1 : Int32) 149 rfl (by decide +kernel) (by decide +kernel) ?_
        refine at_goto (off := 13) 162 (by decide +kernel) (by decide +kernel) ?_
        exact at_iret rfl (by decide +kernel) h
    rw [if_neg c53] at h
    have c18e : l2.toInt ≠ 0 := fun e => c18 (Int32.toInt_inj.mp (e.trans (by decide +kernel)))
    have c23e : l2.toInt ≠ 1 := fun e => c23 (Int32.toInt_inj.mp (e.trans (by decide +kernel)))
    have c28e : l2.toInt ≠ 2 := fun e => c28 (Int32.toInt_inj.mp (e.trans (by decide +kernel)))
    have c33e : l2.toInt ≠ 3 := fun e => c33 (Int32.toInt_inj.mp (e.trans (by decide +kernel)))
    have c38e : l2.toInt ≠ 4 := fun e => c38 (Int32.toInt_inj.mp (e.trans (by decide +kernel)))
    have c43e : l2.toInt ≠ 5 := fun e => c43 (Int32.toInt_inj.mp (e.trans (by decide +kernel)))
    have c53e : l2.toInt ≠ 6 := fun e => c53 (Int32.toInt_inj.mp (e.trans (by decide +kernel)))
    refine at_tabOut (dflt := 136) (lo := 0) (hi := 6) (offs := #[41, 48, 55, 62, 71, 82, 107]) (len := 41) 163 (by decide +kernel) (by omega) (by decide +kernel) ?_
    refine at_bipush (n := (-2)) (-2 : Int32) 165 rfl (by decide +kernel) (by decide +kernel) ?_
    exact at_iret rfl (by decide +kernel) h
  · rw [if_pos c16] at h
    refine at_bipush (n := (-2)) (-2 : Int32) 25 rfl (by decide +kernel) (by decide +kernel) ?_
    exact at_iret rfl (by decide +kernel) h
set_option maxRecDepth 20000 in
set_option maxHeartbeats 4000000 in
theorem en_RF_owed (g : Gc) {lv : Nat} {t : Nat} {l1 : Int32} {l2 : Int32} {m : Mm} {Q : Int64 → Mm → Prop} (h : mK m t = 13 ∧ (∀ m2, m2 = sI m t 0 (0 : Int32) → (CI g M_RF_isLoan lv [va_rf (some t), .int (l1), .int (l2)] m2 (fun x6 m7 => (if (x6) = 0 then (Q (0 : Int64) m7) else (∃ b11, mR m7 t 46 = some b11 ∧ (mK m7 b11 = 16 ∧ (vp_in ((((2 : Int32) * l1) + l2) - (1 : Int32)) (mN m7 b11) ∧ (Q (mL m7 b11 ((((2 : Int32) * l1) + l2) - (1 : Int32)).toNatClampNeg) m7))))))))) : CJ g M_RF_owed (lv + 1) [va_rf (some t), .int (l1), .int (l2)] m Q := by
  refine Call.of (by decide +kernel) (Nat.le_of_ble_eq_true rfl) ?_
  show At g M_RF_owed (lv + 1) 0 [(0, va_rf (some t)), (1, .int (l1)), (2, .int (l2))] [] m (QJ Q)
  refine at_aload_n (i := 0) 0 1 rfl (by decide +kernel) rfl ?_
  refine at_iconst (n := 0) (0 : Int32) 2 rfl (by decide +kernel) (by decide +kernel) ?_
  obtain ⟨k1, h⟩ := h
  refine at_putI (index := 149) cok12 0 5 rfl (by decide +kernel) k1 (by decide +kernel) tw_1085 rfl rfl rfl (fun m2 e3 => ?_)
  replace h := h m2 e3
  have x4 : Ext m m2 := by rw [e3]; exact Ext.sI _ _ _ _
  have k5 : mK m2 t = 13 := x4.k k1 (by decide)
  refine at_aload_n (i := 0) 0 6 rfl (by decide +kernel) rfl ?_
  refine at_iload_n (i := 1) 1 7 rfl (by decide +kernel) rfl ?_
  refine at_iload_n (i := 2) 2 8 rfl (by decide +kernel) rfl ?_
  refine at_callV mb_RF_isLoan tw_1530 tw_61 cok12 k5 (index := 400) tw_1528 [.int (l1), .int (l2)] [] rfl rfl (by decide) 11 rfl (by decide +kernel) (Call.toI (CI.monoE h (fun x6 m7 h y8 => ?_)))
  have k9 : mK m7 t = 13 := y8.k k5 (by decide)
  refine at_if_eq (off := 18) 29 14 rfl (by decide +kernel) (by decide +kernel) (fun c10 => ?_) (fun c10 => ?_)
  · rw [if_pos c10] at h
    refine at_lconst (n := 0) (0 : Int64) 30 rfl (by decide +kernel) (by decide +kernel) ?_
    exact at_lret rfl (by decide +kernel) h
  · rw [if_neg c10] at h
    refine at_aload_n (i := 0) 0 15 rfl (by decide +kernel) rfl ?_
    refine at_get (index := 140) (v := va_rf (mR m7 t 46)) cok12 46 18 rfl (by decide +kernel) k9 (by decide +kernel) tw_1131 rfl ?_
    obtain ⟨b11, e12, h⟩ := h
    rw [e12]
    refine at_iconst (n := 2) (2 : Int32) 19 rfl (by decide +kernel) (by decide +kernel) ?_
    refine at_iload_n (i := 1) 1 20 rfl (by decide +kernel) rfl ?_
    refine at_imul 21 rfl (by decide +kernel) ?_
    refine at_iload_n (i := 2) 2 22 rfl (by decide +kernel) rfl ?_
    refine at_iadd 23 rfl (by decide +kernel) ?_
    refine at_iconst (n := 1) (1 : Int32) 24 rfl (by decide +kernel) (by decide +kernel) ?_
    refine at_isub 25 rfl (by decide +kernel) ?_
    obtain ⟨k13, h⟩ := h
    obtain ⟨v14, h⟩ := h
    refine at_lald 26 rfl (by decide +kernel) k13 v14 ?_
    refine at_goto (off := 4) 30 (by decide +kernel) (by decide +kernel) ?_
    exact at_lret rfl (by decide +kernel) h
set_option maxRecDepth 20000 in
set_option maxHeartbeats 4000000 in
theorem en_RF_growerOf (g : Gc) {lv : Nat} {t : Nat} {l1 : Int32} {l2 : Int32} {m : Mm} {Q : Int32 → Mm → Prop} (h : mK m t = 13 ∧ (∀ m2, m2 = sI m t 0 (0 : Int32) → (CI g M_RF_isGrower lv [va_rf (some t), .int (l1)] m2 (fun x6 m7 => (if (x6) = 0 then (Q (-1000000 : Int32) m7) else (if l2 = (0 : Int32) then (∃ b13, mR m7 t 20 = some b13 ∧ (mK m7 b13 = 15 ∧ (vp_in l1 (mN m7 b13) ∧ (Q (mI m7 b13 l1.toNatClampNeg) m7)))) else (if l2 = (1 : Int32) then (∃ b18, mR m7 t 35 = some b18 ∧ (mK m7 b18 = 15 ∧ (vp_in l1 (mN m7 b18) ∧ (Q (mI m7 b18 l1.toNatClampNeg) m7)))) else (if l2 = (2 : Int32) then (∃ b23, mR m7 t 36 = some b23 ∧ (mK m7 b23 = 15 ∧ (vp_in ((3 : Int32) * l1) (mN m7 b23) ∧ (Q (mI m7 b23 ((3 : Int32) * l1).toNatClampNeg) m7)))) else (if l2 = (3 : Int32) then (∃ b28, mR m7 t 36 = some b28 ∧ (mK m7 b28 = 15 ∧ (vp_in (((3 : Int32) * l1) + (1 : Int32)) (mN m7 b28) ∧ (Q (mI m7 b28 (((3 : Int32) * l1) + (1 : Int32)).toNatClampNeg) m7)))) else (if l2 = (4 : Int32) then (∃ b33, mR m7 t 36 = some b33 ∧ (mK m7 b33 = 15 ∧ (vp_in (((3 : Int32) * l1) + (2 : Int32)) (mN m7 b33) ∧ (Q (mI m7 b33 (((3 : Int32) * l1) + (2 : Int32)).toNatClampNeg) m7)))) else (if l2 = (5 : Int32) then (∃ b38, mR m7 t 37 = some b38 ∧ (mK m7 b38 = 15 ∧ (vp_in l1 (mN m7 b38) ∧ (Q (mI m7 b38 l1.toNatClampNeg) m7)))) else (if l2 = (6 : Int32) then (∃ b43, mR m7 t 38 = some b43 ∧ (mK m7 b43 = 16 ∧ (vp_in l1 (mN m7 b43) ∧ (Q ((mL m7 b43 l1.toNatClampNeg).toInt32) m7)))) else (if l2 = (7 : Int32) then (∃ b48, mR m7 t 31 = some b48 ∧ (mK m7 b48 = 15 ∧ (vp_in (0 : Int32) (mN m7 b48) ∧ (if (mI m7 b48 (0 : Int32).toNatClampNeg) = 0 then (Q (-1 : Int32) m7) else (∃ b53, mR m7 t 24 = some b53 ∧ (vp_in (0 : Int32) (mN m7 b48) ∧ (mK m7 b53 = 15 ∧ (vp_in (((12 : Int32) * ((mI m7 b48 (0 : Int32).toNatClampNeg) - (1 : Int32))) + l1) (mN m7 b53) ∧ (Q (mI m7 b53 (((12 : Int32) * ((mI m7 b48 (0 : Int32).toNatClampNeg) - (1 : Int32))) + l1).toNatClampNeg) m7))))))))) else (if l2 = (8 : Int32) then (∃ b59, mR m7 t 31 = some b59 ∧ (mK m7 b59 = 15 ∧ (vp_in (0 : Int32) (mN m7 b59) ∧ (if (mI m7 b59 (0 : Int32).toNatClampNeg) = 0 then (Q (-1 : Int32) m7) else (∃ b64, mR m7 t 30 = some b64 ∧ (mK m7 b64 = 15 ∧ (vp_in l1 (mN m7 b64) ∧ (Q (mI m7 b64 l1.toNatClampNeg) m7)))))))) else (Q (-1000000 : Int32) m7))))))))))))))) : CI g M_RF_growerOf (lv + 1) [va_rf (some t), .int (l1), .int (l2)] m Q := by
  refine Call.of (by decide +kernel) (Nat.le_of_ble_eq_true rfl) ?_
  show At g M_RF_growerOf (lv + 1) 0 [(0, va_rf (some t)), (1, .int (l1)), (2, .int (l2))] [] m (QI Q)
  refine at_aload_n (i := 0) 0 1 rfl (by decide +kernel) rfl ?_
  refine at_iconst (n := 0) (0 : Int32) 2 rfl (by decide +kernel) (by decide +kernel) ?_
  obtain ⟨k1, h⟩ := h
  refine at_putI (index := 149) cok12 0 5 rfl (by decide +kernel) k1 (by decide +kernel) tw_1085 rfl rfl rfl (fun m2 e3 => ?_)
  replace h := h m2 e3
  have x4 : Ext m m2 := by rw [e3]; exact Ext.sI _ _ _ _
  have k5 : mK m2 t = 13 := x4.k k1 (by decide)
  refine at_aload_n (i := 0) 0 6 rfl (by decide +kernel) rfl ?_
  refine at_iload_n (i := 1) 1 7 rfl (by decide +kernel) rfl ?_
  refine at_callV mb_RF_isGrower tw_1430 tw_45 cok12 k5 (index := 336) tw_1428 [.int (l1)] [] rfl rfl (by decide) 10 rfl (by decide +kernel) (Call.toI (CI.monoE h (fun x6 m7 h y8 => ?_)))
  have k9 : mK m7 t = 13 := y8.k k5 (by decide)
  refine at_if_ne (off := 7) 17 13 rfl (by decide +kernel) (by decide +kernel) (fun c10 => ?_) (fun c10 => ?_)
  · rw [if_neg c10] at h
    refine at_iload_n (i := 2) 2 18 rfl (by decide +kernel) rfl ?_
    by_cases c12 : l2 = (0 : Int32)
    · rw [if_pos c12] at h
      have w11 : l2.toInt = 0 := by rw [c12]; decide +kernel
      refine at_tabIn (dflt := 162) (lo := 0) (hi := 8) (offs := #[50, 57, 64, 73, 84, 95, 102, 110, 142]) (len := 50) (off := 50) 68 (by decide +kernel) (by rw [w11]; decide) (by rw [w11]; decide) (by rw [w11]; decide +kernel) (by decide +kernel) ?_
      refine at_aload_n (i := 0) 0 69 rfl (by decide +kernel) rfl ?_
      refine at_get (index := 61) (v := va_rf (mR m7 t 20)) cok12 20 72 rfl (by decide +kernel) k9 (by decide +kernel) tw_1105 rfl ?_
      obtain ⟨b13, e14, h⟩ := h
      rw [e14]
      refine at_iload_n (i := 1) 1 73 rfl (by decide +kernel) rfl ?_
      obtain ⟨k15, h⟩ := h
      obtain ⟨v16, h⟩ := h
      refine at_iald 74 rfl (by decide +kernel) k15 v16 ?_
      exact at_iret rfl (by decide +kernel) h
    rw [if_neg c12] at h
    by_cases c17 : l2 = (1 : Int32)
    · rw [if_pos c17] at h
      have w11 : l2.toInt = 1 := by rw [c17]; decide +kernel
      refine at_tabIn (dflt := 162) (lo := 0) (hi := 8) (offs := #[50, 57, 64, 73, 84, 95, 102, 110, 142]) (len := 50) (off := 57) 75 (by decide +kernel) (by rw [w11]; decide) (by rw [w11]; decide) (by rw [w11]; decide +kernel) (by decide +kernel) ?_
      refine at_aload_n (i := 0) 0 76 rfl (by decide +kernel) rfl ?_
      refine at_get (index := 107) (v := va_rf (mR m7 t 35)) cok12 35 79 rfl (by decide +kernel) k9 (by decide +kernel) tw_1120 rfl ?_
      obtain ⟨b18, e19, h⟩ := h
      rw [e19]
      refine at_iload_n (i := 1) 1 80 rfl (by decide +kernel) rfl ?_
      obtain ⟨k20, h⟩ := h
      obtain ⟨v21, h⟩ := h
      refine at_iald 81 rfl (by decide +kernel) k20 v21 ?_
      exact at_iret rfl (by decide +kernel) h
    rw [if_neg c17] at h
    by_cases c22 : l2 = (2 : Int32)
    · rw [if_pos c22] at h
      have w11 : l2.toInt = 2 := by rw [c22]; decide +kernel
      refine at_tabIn (dflt := 162) (lo := 0) (hi := 8) (offs := #[50, 57, 64, 73, 84, 95, 102, 110, 142]) (len := 50) (off := 64) 82 (by decide +kernel) (by rw [w11]; decide) (by rw [w11]; decide) (by rw [w11]; decide +kernel) (by decide +kernel) ?_
      refine at_aload_n (i := 0) 0 83 rfl (by decide +kernel) rfl ?_
      refine at_get (index := 110) (v := va_rf (mR m7 t 36)) cok12 36 86 rfl (by decide +kernel) k9 (by decide +kernel) tw_1121 rfl ?_
      obtain ⟨b23, e24, h⟩ := h
      rw [e24]
      refine at_iconst (n := 3) (3 : Int32) 87 rfl (by decide +kernel) (by decide +kernel) ?_
      refine at_iload_n (i := 1) 1 88 rfl (by decide +kernel) rfl ?_
      refine at_imul 89 rfl (by decide +kernel) ?_
      obtain ⟨k25, h⟩ := h
      obtain ⟨v26, h⟩ := h
      refine at_iald 90 rfl (by decide +kernel) k25 v26 ?_
      exact at_iret rfl (by decide +kernel) h
    rw [if_neg c22] at h
    by_cases c27 : l2 = (3 : Int32)
    · rw [if_pos c27] at h
      have w11 : l2.toInt = 3 := by rw [c27]; decide +kernel
      refine at_tabIn (dflt := 162) (lo := 0) (hi := 8) (offs := #[50, 57, 64, 73, 84, 95, 102, 110, 142]) (len := 50) (off := 73) 91 (by decide +kernel) (by rw [w11]; decide) (by rw [w11]; decide) (by rw [w11]; decide +kernel) (by decide +kernel) ?_
      refine at_aload_n (i := 0) 0 92 rfl (by decide +kernel) rfl ?_
      refine at_get (index := 110) (v := va_rf (mR m7 t 36)) cok12 36 95 rfl (by decide +kernel) k9 (by decide +kernel) tw_1121 rfl ?_
      obtain ⟨b28, e29, h⟩ := h
      rw [e29]
      refine at_iconst (n := 3) (3 : Int32) 96 rfl (by decide +kernel) (by decide +kernel) ?_
      refine at_iload_n (i := 1) 1 97 rfl (by decide +kernel) rfl ?_
      refine at_imul 98 rfl (by decide +kernel) ?_
      refine at_iconst (n := 1) (1 : Int32) 99 rfl (by decide +kernel) (by decide +kernel) ?_
      refine at_iadd 100 rfl (by decide +kernel) ?_
      obtain ⟨k30, h⟩ := h
      obtain ⟨v31, h⟩ := h
      refine at_iald 101 rfl (by decide +kernel) k30 v31 ?_
      exact at_iret rfl (by decide +kernel) h
    rw [if_neg c27] at h
    by_cases c32 : l2 = (4 : Int32)
    · rw [if_pos c32] at h
      have w11 : l2.toInt = 4 := by rw [c32]; decide +kernel
      refine at_tabIn (dflt := 162) (lo := 0) (hi := 8) (offs := #[50, 57, 64, 73, 84, 95, 102, 110, 142]) (len := 50) (off := 84) 102 (by decide +kernel) (by rw [w11]; decide) (by rw [w11]; decide) (by rw [w11]; decide +kernel) (by decide +kernel) ?_
      refine at_aload_n (i := 0) 0 103 rfl (by decide +kernel) rfl ?_
      refine at_get (index := 110) (v := va_rf (mR m7 t 36)) cok12 36 106 rfl (by decide +kernel) k9 (by decide +kernel) tw_1121 rfl ?_
      obtain ⟨b33, e34, h⟩ := h
      rw [e34]
      refine at_iconst (n := 3) (3 : Int32) 107 rfl (by decide +kernel) (by decide +kernel) ?_
      refine at_iload_n (i := 1) 1 108 rfl (by decide +kernel) rfl ?_
      refine at_imul 109 rfl (by decide +kernel) ?_
      refine at_iconst (n := 2) (2 : Int32) 110 rfl (by decide +kernel) (by decide +kernel) ?_
      refine at_iadd 111 rfl (by decide +kernel) ?_
      obtain ⟨k35, h⟩ := h
      obtain ⟨v36, h⟩ := h
      refine at_iald 112 rfl (by decide +kernel) k35 v36 ?_
      exact at_iret rfl (by decide +kernel) h
    rw [if_neg c32] at h
    by_cases c37 : l2 = (5 : Int32)
    · rw [if_pos c37] at h
      have w11 : l2.toInt = 5 := by rw [c37]; decide +kernel
      refine at_tabIn (dflt := 162) (lo := 0) (hi := 8) (offs := #[50, 57, 64, 73, 84, 95, 102, 110, 142]) (len := 50) (off := 95) 113 (by decide +kernel) (by rw [w11]; decide) (by rw [w11]; decide) (by rw [w11]; decide +kernel) (by decide +kernel) ?_
      refine at_aload_n (i := 0) 0 114 rfl (by decide +kernel) rfl ?_
      refine at_get (index := 113) (v := va_rf (mR m7 t 37)) cok12 37 117 rfl (by decide +kernel) k9 (by decide +kernel) tw_1122 rfl ?_
      obtain ⟨b38, e39, h⟩ := h
      rw [e39]
      refine at_iload_n (i := 1) 1 118 rfl (by decide +kernel) rfl ?_
      obtain ⟨k40, h⟩ := h
      obtain ⟨v41, h⟩ := h
      refine at_iald 119 rfl (by decide +kernel) k40 v41 ?_
      exact at_iret rfl (by decide +kernel) h
    rw [if_neg c37] at h
    by_cases c42 : l2 = (6 : Int32)
    · rw [if_pos c42] at h
      have w11 : l2.toInt = 6 := by rw [c42]; decide +kernel
      refine at_tabIn (dflt := 162) (lo := 0) (hi := 8) (offs := #[50, 57, 64, 73, 84, 95, 102, 110, 142]) (len := 50) (off := 102) 120 (by decide +kernel) (by rw [w11]; decide) (by rw [w11]; decide) (by rw [w11]; decide +kernel) (by decide +kernel) ?_
      refine at_aload_n (i := 0) 0 121 rfl (by decide +kernel) rfl ?_
      refine at_get (index := 116) (v := va_rf (mR m7 t 38)) cok12 38 124 rfl (by decide +kernel) k9 (by decide +kernel) tw_1123 rfl ?_
      obtain ⟨b43, e44, h⟩ := h
      rw [e44]
      refine at_iload_n (i := 1) 1 125 rfl (by decide +kernel) rfl ?_
      obtain ⟨k45, h⟩ := h
      obtain ⟨v46, h⟩ := h
      refine at_lald 126 rfl (by decide +kernel) k45 v46 ?_
      refine at_l2i 127 rfl (by decide +kernel) ?_
      exact at_iret rfl (by decide +kernel) h
    rw [if_neg c42] at h
    by_cases c47 : l2 = (7 : Int32)
    · rw [if_pos c47] at h
      have w11 : l2.toInt = 7 := by rw [c47]; decide +kernel
      refine at_tabIn (dflt := 162) (lo := 0) (hi := 8) (offs := #[50, 57, 64, 73, 84, 95, 102, 110, 142]) (len := 50) (off := 110) 128 (by decide +kernel) (by rw [w11]; decide) (by rw [w11]; decide) (by rw [w11]; decide +kernel) (by decide +kernel) ?_
      refine at_aload_n (i := 0) 0 129 rfl (by decide +kernel) rfl ?_
      refine at_get (index := 95) (v := va_rf (mR m7 t 31)) cok12 31 132 rfl (by decide +kernel) k9 (by decide +kernel) tw_1116 rfl ?_
      obtain ⟨b48, e49, h⟩ := h
      rw [e49]
      refine at_iconst (n := 0) (0 : Int32) 133 rfl (by decide +kernel) (by decide +kernel) ?_
      obtain ⟨k50, h⟩ := h
      obtain ⟨v51, h⟩ := h
      refine at_iald 134 rfl (by decide +kernel) k50 v51 ?_
      refine at_if_ne (off := 7) 141 137 rfl (by decide +kernel) (by decide +kernel) (fun c52 => ?_) (fun c52 => ?_)
      · rw [if_neg c52] at h
        refine at_aload_n (i := 0) 0 142 rfl (by decide +kernel) rfl ?_
        refine at_get (index := 73) (v := va_rf (mR m7 t 24)) cok12 24 145 rfl (by decide +kernel) k9 (by decide +kernel) tw_1109 rfl ?_
        obtain ⟨b53, e54, h⟩ := h
        rw [e54]
        refine at_bipush (n := 12) (12 : Int32) 147 rfl (by decide +kernel) (by decide +kernel) ?_
        refine at_aload_n (i := 0) 0 148 rfl (by decide +kernel) rfl ?_
        refine at_get (index := 95) (v := va_rf (mR m7 t 31)) cok12 31 151 rfl (by decide +kernel) k9 (by decide +kernel) tw_1116 rfl ?_
        rw [e49]
        refine at_iconst (n := 0) (0 : Int32) 152 rfl (by decide +kernel) (by decide +kernel) ?_
        obtain ⟨v55, h⟩ := h
        refine at_iald 153 rfl (by decide +kernel) k50 v55 ?_
        refine at_iconst (n := 1) (1 : Int32) 154 rfl (by decide +kernel) (by decide +kernel) ?_
        refine at_isub 155 rfl (by decide +kernel) ?_
        refine at_imul 156 rfl (by decide +kernel) ?_
        refine at_iload_n (i := 1) 1 157 rfl (by decide +kernel) rfl ?_
        refine at_iadd 158 rfl (by decide +kernel) ?_
        obtain ⟨k56, h⟩ := h
        obtain ⟨v57, h⟩ := h
        refine at_iald 159 rfl (by decide +kernel) k56 v57 ?_
        exact at_iret rfl (by decide +kernel) h
      · rw [if_pos c52] at h
        refine at_iconst (n := (-1)) (-1 : Int32) 138 rfl (by decide +kernel) (by decide +kernel) ?_
        refine at_goto (off := 21) 159 (by decide +kernel) (by decide +kernel) ?_
        exact at_iret rfl (by decide +kernel) h
    rw [if_neg c47] at h
    by_cases c58 : l2 = (8 : Int32)
    · rw [if_pos c58] at h
      have w11 : l2.toInt = 8 := by rw [c58]; decide +kernel
      refine at_tabIn (dflt := 162) (lo := 0) (hi := 8) (offs := #[50, 57, 64, 73, 84, 95, 102, 110, 142]) (len := 50) (off := 142) 160 (by decide +kernel) (by rw [w11]; decide) (by rw [w11]; decide) (by rw [w11]; decide +kernel) (by decide +kernel) ?_
      refine at_aload_n (i := 0) 0 161 rfl (by decide +kernel) rfl ?_
      refine at_get (index := 95) (v := va_rf (mR m7 t 31)) cok12 31 164 rfl (by decide +kernel) k9 (by decide +kernel) tw_1116 rfl ?_
      obtain ⟨b59, e60, h⟩ := h
      rw [e60]
      refine at_iconst (n := 0) (0 : Int32) 165 rfl (by decide +kernel) (by decide +kernel) ?_
      obtain ⟨k61, h⟩ := h
      obtain ⟨v62, h⟩ := h
      refine at_iald 166 rfl (by decide +kernel) k61 v62 ?_
      refine at_if_ne (off := 7) 173 169 rfl (by decide +kernel) (by decide +kernel) (fun c63 => ?_) (fun c63 => ?_)
      · rw [if_neg c63] at h
        refine at_aload_n (i := 0) 0 174 rfl (by decide +kernel) rfl ?_
        refine at_get (index := 92) (v := va_rf (mR m7 t 30)) cok12 30 177 rfl (by decide +kernel) k9 (by decide +kernel) tw_1115 rfl ?_
        obtain ⟨b64, e65, h⟩ := h
        rw [e65]
        refine at_iload_n (i := 1) 1 178 rfl (by decide +kernel) rfl ?_
        obtain ⟨k66, h⟩ := h
        obtain ⟨v67, h⟩ := h
        refine at_iald 179 rfl (by decide +kernel) k66 v67 ?_
        exact at_iret rfl (by decide +kernel) h
      · rw [if_pos c63] at h
        refine at_iconst (n := (-1)) (-1 : Int32) 170 rfl (by decide +kernel) (by decide +kernel) ?_
        refine at_goto (off := 9) 179 (by decide +kernel) (by decide +kernel) ?_
        exact at_iret rfl (by decide +kernel) h
    rw [if_neg c58] at h
    have c12e : l2.toInt ≠ 0 := fun e => c12 (Int32.toInt_inj.mp (e.trans (by decide +kernel)))
    have c17e : l2.toInt ≠ 1 := fun e => c17 (Int32.toInt_inj.mp (e.trans (by decide +kernel)))
    have c22e : l2.toInt ≠ 2 := fun e => c22 (Int32.toInt_inj.mp (e.trans (by decide +kernel)))
    have c27e : l2.toInt ≠ 3 := fun e => c27 (Int32.toInt_inj.mp (e.trans (by decide +kernel)))
    have c32e : l2.toInt ≠ 4 := fun e => c32 (Int32.toInt_inj.mp (e.trans (by decide +kernel)))
    have c37e : l2.toInt ≠ 5 := fun e => c37 (Int32.toInt_inj.mp (e.trans (by decide +kernel)))
    have c42e : l2.toInt ≠ 6 := fun e => c42 (Int32.toInt_inj.mp (e.trans (by decide +kernel)))
    have c47e : l2.toInt ≠ 7 := fun e => c47 (Int32.toInt_inj.mp (e.trans (by decide +kernel)))
    have c58e : l2.toInt ≠ 8 := fun e => c58 (Int32.toInt_inj.mp (e.trans (by decide +kernel)))
    refine at_tabOut (dflt := 162) (lo := 0) (hi := 8) (offs := #[50, 57, 64, 73, 84, 95, 102, 110, 142]) (len := 50) 180 (by decide +kernel) (by omega) (by decide +kernel) ?_
    refine at_ldcw (index := 382) (-1000000 : Int32) 183 rfl (by decide +kernel) tw_1499 ?_
    exact at_iret rfl (by decide +kernel) h
  · rw [if_pos c10] at h
    refine at_ldcw (index := 382) (-1000000 : Int32) 16 rfl (by decide +kernel) tw_1499 ?_
    exact at_iret rfl (by decide +kernel) h
set_option maxRecDepth 20000 in
set_option maxHeartbeats 4000000 in
theorem en_RF_money (g : Gc) {lv : Nat} {t : Nat} {l1 : Int32} {m : Mm} {Q : Int64 → Mm → Prop} (h : mK m t = 13 ∧ (∀ m2, m2 = sI m t 0 (0 : Int32) → (CI g M_RF_isGrower lv [va_rf (some t), .int (l1)] m2 (fun x6 m7 => (if (x6) = 0 then (CI g M_RF_in lv [.long (l1.toInt64), .long ((12 : Int64)), .long ((14 : Int64))] m7 (fun x15 m16 => (if (x15) = 0 then (Q (0 : Int64) m16) else (∃ b20, mR m16 t 39 = some b20 ∧ (mK m16 b20 = 16 ∧ (vp_in l1 (mN m16 b20) ∧ (Q (mL m16 b20 l1.toNatClampNeg) m16))))))) else (∃ b11, mR m7 t 39 = some b11 ∧ (mK m7 b11 = 16 ∧ (vp_in l1 (mN m7 b11) ∧ (Q (mL m7 b11 l1.toNatClampNeg) m7))))))))) : CJ g M_RF_money (lv + 1) [va_rf (some t), .int (l1)] m Q := by
  refine Call.of (by decide +kernel) (Nat.le_of_ble_eq_true rfl) ?_
  show At g M_RF_money (lv + 1) 0 [(0, va_rf (some t)), (1, .int (l1))] [] m (QJ Q)
  refine at_aload_n (i := 0) 0 1 rfl (by decide +kernel) rfl ?_
  refine at_iconst (n := 0) (0 : Int32) 2 rfl (by decide +kernel) (by decide +kernel) ?_
  obtain ⟨k1, h⟩ := h
  refine at_putI (index := 149) cok12 0 5 rfl (by decide +kernel) k1 (by decide +kernel) tw_1085 rfl rfl rfl (fun m2 e3 => ?_)
  replace h := h m2 e3
  have x4 : Ext m m2 := by rw [e3]; exact Ext.sI _ _ _ _
  have k5 : mK m2 t = 13 := x4.k k1 (by decide)
  refine at_aload_n (i := 0) 0 6 rfl (by decide +kernel) rfl ?_
  refine at_iload_n (i := 1) 1 7 rfl (by decide +kernel) rfl ?_
  refine at_callV mb_RF_isGrower tw_1430 tw_45 cok12 k5 (index := 336) tw_1428 [.int (l1)] [] rfl rfl (by decide) 10 rfl (by decide +kernel) (Call.toI (CI.monoE h (fun x6 m7 h y8 => ?_)))
  have k9 : mK m7 t = 13 := y8.k k5 (by decide)
  refine at_if_ne (off := 17) 27 13 rfl (by decide +kernel) (by decide +kernel) (fun c10 => ?_) (fun c10 => ?_)
  · rw [if_neg c10] at h
    refine at_aload_n (i := 0) 0 28 rfl (by decide +kernel) rfl ?_
    refine at_get (index := 119) (v := va_rf (mR m7 t 39)) cok12 39 31 rfl (by decide +kernel) k9 (by decide +kernel) tw_1124 rfl ?_
    obtain ⟨b11, e12, h⟩ := h
    rw [e12]
    refine at_iload_n (i := 1) 1 32 rfl (by decide +kernel) rfl ?_
    obtain ⟨k13, h⟩ := h
    obtain ⟨v14, h⟩ := h
    refine at_lald 33 rfl (by decide +kernel) k13 v14 ?_
    refine at_goto (off := 4) 37 (by decide +kernel) (by decide +kernel) ?_
    exact at_lret rfl (by decide +kernel) h
  · rw [if_pos c10] at h
    refine at_iload_n (i := 1) 1 14 rfl (by decide +kernel) rfl ?_
    refine at_i2l 15 rfl (by decide +kernel) ?_
    refine at_ldc2 (index := 410) (12 : Int64) 18 rfl (by decide +kernel) tw_1552 ?_
    refine at_ldc2 (index := 412) (14 : Int64) 21 rfl (by decide +kernel) tw_1553 ?_
    refine at_callS mb_RF_in tw_1293 (index := 154) tw_1292 [.long (l1.toInt64), .long ((12 : Int64)), .long ((14 : Int64))] [] rfl rfl (by decide) 24 rfl (by decide +kernel) (Call.toI (CI.monoE h (fun x15 m16 h y17 => ?_)))
    have k18 : mK m16 t = 13 := y17.k k9 (by decide)
    refine at_if_eq (off := 12) 36 27 rfl (by decide +kernel) (by decide +kernel) (fun c19 => ?_) (fun c19 => ?_)
    · rw [if_pos c19] at h
      refine at_lconst (n := 0) (0 : Int64) 37 rfl (by decide +kernel) (by decide +kernel) ?_
      exact at_lret rfl (by decide +kernel) h
    · rw [if_neg c19] at h
      refine at_aload_n (i := 0) 0 28 rfl (by decide +kernel) rfl ?_
      refine at_get (index := 119) (v := va_rf (mR m16 t 39)) cok12 39 31 rfl (by decide +kernel) k18 (by decide +kernel) tw_1124 rfl ?_
      obtain ⟨b20, e21, h⟩ := h
      rw [e21]
      refine at_iload_n (i := 1) 1 32 rfl (by decide +kernel) rfl ?_
      obtain ⟨k22, h⟩ := h
      obtain ⟨v23, h⟩ := h
      refine at_lald 33 rfl (by decide +kernel) k22 v23 ?_
      refine at_goto (off := 4) 37 (by decide +kernel) (by decide +kernel) ?_
      exact at_lret rfl (by decide +kernel) h
set_option maxRecDepth 20000 in
set_option maxHeartbeats 4000000 in
theorem bk_RF_count_150 (g : Gc) {lv : Nat} {t : Nat} {l2 : Int32} {l3 : Int32} {m : Mm} {Q : Int32 → Mm → Prop} (h : if ((4 : Int32)) ≤ (l3) then (Q l2 m) else (mK m t = 13 ∧ (∃ b3, mR m t 1 = some b3 ∧ (mK m b3 = 15 ∧ (vp_in l3 (mN m b3) ∧ (if (mI m b3 l3.toNatClampNeg) < 0 then (At g M_RF_count (lv + 1) 150 [(0, va_rf (some t)), (2, .int (l2 + (0 : Int32))), (3, .int (l3 + (1 : Int32)))] [] m (QI Q)) else (At g M_RF_count (lv + 1) 150 [(0, va_rf (some t)), (2, .int (l2 + (1 : Int32))), (3, .int (l3 + (1 : Int32)))] [] m (QI Q)))))))) : At g M_RF_count (lv + 1) 150 [(0, va_rf (some t)), (2, .int (l2)), (3, .int (l3))] [] m (QI Q) := by
  refine at_iload_n (i := 3) 2 151 rfl (by decide +kernel) rfl ?_
  refine at_iconst (n := 4) (4 : Int32) 152 rfl (by decide +kernel) (by decide +kernel) ?_
  refine at_icmp_ge (off := 26) 178 155 rfl (by decide +kernel) (by decide +kernel) (fun c1 => ?_) (fun c1 => ?_)
  · rw [if_pos c1] at h
    refine at_iload_n (i := 2) 1 179 rfl (by decide +kernel) rfl ?_
    exact at_iret rfl (by decide +kernel) h
  · rw [if_neg c1] at h
    refine at_iload_n (i := 2) 1 156 rfl (by decide +kernel) rfl ?_
    refine at_aload_n (i := 0) 0 157 rfl (by decide +kernel) rfl ?_
    obtain ⟨k2, h⟩ := h
    refine at_get (index := 9) (v := va_rf (mR m t 1)) cok12 1 160 rfl (by decide +kernel) k2 (by decide +kernel) tw_1086 rfl ?_
    obtain ⟨b3, e4, h⟩ := h
    rw [e4]
    refine at_iload_n (i := 3) 2 161 rfl (by decide +kernel) rfl ?_
    obtain ⟨k5, h⟩ := h
    obtain ⟨v6, h⟩ := h
    refine at_iald 162 rfl (by decide +kernel) k5 v6 ?_
    refine at_if_lt (off := 7) 169 165 rfl (by decide +kernel) (by decide +kernel) (fun c7 => ?_) (fun c7 => ?_)
    · rw [if_pos c7] at h
      refine at_iconst (n := 0) (0 : Int32) 170 rfl (by decide +kernel) (by decide +kernel) ?_
      refine at_iadd 171 rfl (by decide +kernel) ?_
      refine at_istore_n (i := 2) (lc' := [(0, va_rf (some t)), (2, .int (l2 + (0 : Int32))), (3, .int (l3))]) [1, 0, 2] 172 rfl (by decide +kernel) (by decide +kernel) rfl ?_
      refine at_iinc (i := 3) (n := 1) (lc' := [(0, va_rf (some t)), (2, .int (l2 + (0 : Int32))), (3, .int (l3 + (1 : Int32)))]) (l3 + (1 : Int32)) 2 [1, 2, 0] 175 rfl (by decide +kernel) rfl (by rw [show Int32.ofInt 1 = (1 : Int32) from by decide +kernel]) (by decide +kernel) rfl ?_
      refine at_goto (off := (-25)) 150 (by decide +kernel) (by decide +kernel) ?_
      exact h
    · rw [if_neg c7] at h
      refine at_iconst (n := 1) (1 : Int32) 166 rfl (by decide +kernel) (by decide +kernel) ?_
      refine at_goto (off := 4) 170 (by decide +kernel) (by decide +kernel) ?_
      refine at_iadd 171 rfl (by decide +kernel) ?_
      refine at_istore_n (i := 2) (lc' := [(0, va_rf (some t)), (2, .int (l2 + (1 : Int32))), (3, .int (l3))]) [1, 0, 2] 172 rfl (by decide +kernel) (by decide +kernel) rfl ?_
      refine at_iinc (i := 3) (n := 1) (lc' := [(0, va_rf (some t)), (2, .int (l2 + (1 : Int32))), (3, .int (l3 + (1 : Int32)))]) (l3 + (1 : Int32)) 2 [1, 2, 0] 175 rfl (by decide +kernel) rfl (by rw [show Int32.ofInt 1 = (1 : Int32) from by decide +kernel]) (by decide +kernel) rfl ?_
      refine at_goto (off := (-25)) 150 (by decide +kernel) (by decide +kernel) ?_
      exact h
set_option maxRecDepth 20000 in
set_option maxHeartbeats 4000000 in
theorem en_RF_count (g : Gc) {lv : Nat} {t : Nat} {l1 : Int32} {m : Mm} {Q : Int32 → Mm → Prop} (h : mK m t = 13 ∧ (∀ m2, m2 = sI m t 0 (0 : Int32) → (if l1 = (0 : Int32) then (∃ b8, mR m2 t 31 = some b8 ∧ (mK m2 b8 = 15 ∧ (vp_in (0 : Int32) (mN m2 b8) ∧ (Q (mI m2 b8 (0 : Int32).toNatClampNeg) m2)))) else (if l1 = (1 : Int32) then (Q (mI m2 t 19) m2) else (if l1 = (2 : Int32) then (∃ b14, mR m2 t 33 = some b14 ∧ (mK m2 b14 = 15 ∧ (vp_in (0 : Int32) (mN m2 b14) ∧ (Q (mI m2 b14 (0 : Int32).toNatClampNeg) m2)))) else (if l1 = (3 : Int32) then (∃ b19, mR m2 t 32 = some b19 ∧ (mK m2 b19 = 15 ∧ (vp_in (0 : Int32) (mN m2 b19) ∧ (Q (mI m2 b19 (0 : Int32).toNatClampNeg) m2)))) else (if l1 = (4 : Int32) then (CI g M_RF_store lv [va_rf (some t), .int ((0 : Int32))] m2 (fun x24 m25 => (Q x24 m25))) else (if l1 = (5 : Int32) then (CI g M_RF_frees lv [va_rf (some t), .int ((0 : Int32))] m2 (fun x29 m30 => (Q x29 m30))) else (if l1 = (6 : Int32) then (∃ b34, mR m2 t 34 = some b34 ∧ (mK m2 b34 = 15 ∧ (vp_in (0 : Int32) (mN m2 b34) ∧ (Q (mI m2 b34 (0 : Int32).toNatClampNeg) m2)))) else (if l1 = (7 : Int32) then (∃ b39, mR m2 t 31 = some b39 ∧ (mK m2 b39 = 15 ∧ (vp_in (0 : Int32) (mN m2 b39) ∧ (if (mI m2 b39 (0 : Int32).toNatClampNeg) = 0 then (Q (0 : Int32) m2) else (∃ b44, mR m2 t 26 = some b44 ∧ (vp_in (0 : Int32) (mN m2 b39) ∧ (mK m2 b44 = 15 ∧ (vp_in ((mI m2 b39 (0 : Int32).toNatClampNeg) - (1 : Int32)) (mN m2 b44) ∧ (Q (mI m2 b44 ((mI m2 b39 (0 : Int32).toNatClampNeg) - (1 : Int32)).toNatClampNeg) m2))))))))) else (if l1 = (8 : Int32) then (Q (mI m2 t 15) m2) else (if l1 = (9 : Int32) then (Q (mI m2 t 47) m2) else (if l1 = (10 : Int32) then (At g M_RF_count (lv + 1) 150 [(0, va_rf (some t)), (2, .int ((0 : Int32))), (3, .int ((0 : Int32)))] [] m2 (QI Q)) else (Q (-1 : Int32) m2)))))))))))))) : CI g M_RF_count (lv + 1) [va_rf (some t), .int (l1)] m Q := by
  refine Call.of (by decide +kernel) (Nat.le_of_ble_eq_true rfl) ?_
  show At g M_RF_count (lv + 1) 0 [(0, va_rf (some t)), (1, .int (l1))] [] m (QI Q)
  refine at_aload_n (i := 0) 0 1 rfl (by decide +kernel) rfl ?_
  refine at_iconst (n := 0) (0 : Int32) 2 rfl (by decide +kernel) (by decide +kernel) ?_
  obtain ⟨k1, h⟩ := h
  refine at_putI (index := 149) cok12 0 5 rfl (by decide +kernel) k1 (by decide +kernel) tw_1085 rfl rfl rfl (fun m2 e3 => ?_)
  replace h := h m2 e3
  have x4 : Ext m m2 := by rw [e3]; exact Ext.sI _ _ _ _
  have k5 : mK m2 t = 13 := x4.k k1 (by decide)
  refine at_iload_n (i := 1) 1 6 rfl (by decide +kernel) rfl ?_
  by_cases c7 : l1 = (0 : Int32)
  · rw [if_pos c7] at h
    have w6 : l1.toInt = 0 := by rw [c7]; decide +kernel
    refine at_tabIn (dflt := 174) (lo := 0) (hi := 10) (offs := #[58, 65, 70, 77, 84, 90, 96, 103, 130, 135, 140]) (len := 58) (off := 58) 64 (by decide +kernel) (by rw [w6]; decide) (by rw [w6]; decide) (by rw [w6]; decide +kernel) (by decide +kernel) ?_
    refine at_aload_n (i := 0) 0 65 rfl (by decide +kernel) rfl ?_
    refine at_get (index := 95) (v := va_rf (mR m2 t 31)) cok12 31 68 rfl (by decide +kernel) k5 (by decide +kernel) tw_1116 rfl ?_
    obtain ⟨b8, e9, h⟩ := h
    rw [e9]
    refine at_iconst (n := 0) (0 : Int32) 69 rfl (by decide +kernel) (by decide +kernel) ?_
    obtain ⟨k10, h⟩ := h
    obtain ⟨v11, h⟩ := h
    refine at_iald 70 rfl (by decide +kernel) k10 v11 ?_
    exact at_iret rfl (by decide +kernel) h
  rw [if_neg c7] at h
  by_cases c12 : l1 = (1 : Int32)
  · rw [if_pos c12] at h
    have w6 : l1.toInt = 1 := by rw [c12]; decide +kernel
    refine at_tabIn (dflt := 174) (lo := 0) (hi := 10) (offs := #[58, 65, 70, 77, 84, 90, 96, 103, 130, 135, 140]) (len := 58) (off := 65) 71 (by decide +kernel) (by rw [w6]; decide) (by rw [w6]; decide) (by rw [w6]; decide +kernel) (by decide +kernel) ?_
    refine at_aload_n (i := 0) 0 72 rfl (by decide +kernel) rfl ?_
    refine at_get (index := 185) (v := .int (mI m2 t 19)) cok12 19 75 rfl (by decide +kernel) k5 (by decide +kernel) tw_1104 rfl ?_
    exact at_iret rfl (by decide +kernel) h
  rw [if_neg c12] at h
  by_cases c13 : l1 = (2 : Int32)
  · rw [if_pos c13] at h
    have w6 : l1.toInt = 2 := by rw [c13]; decide +kernel
    refine at_tabIn (dflt := 174) (lo := 0) (hi := 10) (offs := #[58, 65, 70, 77, 84, 90, 96, 103, 130, 135, 140]) (len := 58) (off := 70) 76 (by decide +kernel) (by rw [w6]; decide) (by rw [w6]; decide) (by rw [w6]; decide +kernel) (by decide +kernel) ?_
    refine at_aload_n (i := 0) 0 77 rfl (by decide +kernel) rfl ?_
    refine at_get (index := 101) (v := va_rf (mR m2 t 33)) cok12 33 80 rfl (by decide +kernel) k5 (by decide +kernel) tw_1118 rfl ?_
    obtain ⟨b14, e15, h⟩ := h
    rw [e15]
    refine at_iconst (n := 0) (0 : Int32) 81 rfl (by decide +kernel) (by decide +kernel) ?_
    obtain ⟨k16, h⟩ := h
    obtain ⟨v17, h⟩ := h
    refine at_iald 82 rfl (by decide +kernel) k16 v17 ?_
    exact at_iret rfl (by decide +kernel) h
  rw [if_neg c13] at h
  by_cases c18 : l1 = (3 : Int32)
  · rw [if_pos c18] at h
    have w6 : l1.toInt = 3 := by rw [c18]; decide +kernel
    refine at_tabIn (dflt := 174) (lo := 0) (hi := 10) (offs := #[58, 65, 70, 77, 84, 90, 96, 103, 130, 135, 140]) (len := 58) (off := 77) 83 (by decide +kernel) (by rw [w6]; decide) (by rw [w6]; decide) (by rw [w6]; decide +kernel) (by decide +kernel) ?_
    refine at_aload_n (i := 0) 0 84 rfl (by decide +kernel) rfl ?_
    refine at_get (index := 98) (v := va_rf (mR m2 t 32)) cok12 32 87 rfl (by decide +kernel) k5 (by decide +kernel) tw_1117 rfl ?_
    obtain ⟨b19, e20, h⟩ := h
    rw [e20]
    refine at_iconst (n := 0) (0 : Int32) 88 rfl (by decide +kernel) (by decide +kernel) ?_
    obtain ⟨k21, h⟩ := h
    obtain ⟨v22, h⟩ := h
    refine at_iald 89 rfl (by decide +kernel) k21 v22 ?_
    exact at_iret rfl (by decide +kernel) h
  rw [if_neg c18] at h
  by_cases c23 : l1 = (4 : Int32)
  · rw [if_pos c23] at h
    have w6 : l1.toInt = 4 := by rw [c23]; decide +kernel
    refine at_tabIn (dflt := 174) (lo := 0) (hi := 10) (offs := #[58, 65, 70, 77, 84, 90, 96, 103, 130, 135, 140]) (len := 58) (off := 84) 90 (by decide +kernel) (by rw [w6]; decide) (by rw [w6]; decide) (by rw [w6]; decide +kernel) (by decide +kernel) ?_
    refine at_aload_n (i := 0) 0 91 rfl (by decide +kernel) rfl ?_
    refine at_iconst (n := 0) (0 : Int32) 92 rfl (by decide +kernel) (by decide +kernel) ?_
    refine at_callV mb_RF_store tw_1447 tw_47 cok12 k5 (index := 344) tw_1445 [.int ((0 : Int32))] [] rfl rfl (by decide) 95 rfl (by decide +kernel) (Call.toI (CI.monoE h (fun x24 m25 h y26 => ?_)))
    have k27 : mK m25 t = 13 := y26.k k5 (by decide)
    exact at_iret rfl (by decide +kernel) h
  rw [if_neg c23] at h
  by_cases c28 : l1 = (5 : Int32)
  · rw [if_pos c28] at h
    have w6 : l1.toInt = 5 := by rw [c28]; decide +kernel
    refine at_tabIn (dflt := 174) (lo := 0) (hi := 10) (offs := #[58, 65, 70, 77, 84, 90, 96, 103, 130, 135, 140]) (len := 58) (off := 90) 96 (by decide +kernel) (by rw [w6]; decide) (by rw [w6]; decide) (by rw [w6]; decide +kernel) (by decide +kernel) ?_
    refine at_aload_n (i := 0) 0 97 rfl (by decide +kernel) rfl ?_
    refine at_iconst (n := 0) (0 : Int32) 98 rfl (by decide +kernel) (by decide +kernel) ?_
    refine at_callV mb_RF_frees tw_1465 tw_51 cok12 k5 (index := 359) tw_1463 [.int ((0 : Int32))] [] rfl rfl (by decide) 101 rfl (by decide +kernel) (Call.toI (CI.monoE h (fun x29 m30 h y31 => ?_)))
    have k32 : mK m30 t = 13 := y31.k k5 (by decide)
    exact at_iret rfl (by decide +kernel) h
  rw [if_neg c28] at h
  by_cases c33 : l1 = (6 : Int32)
  · rw [if_pos c33] at h
    have w6 : l1.toInt = 6 := by rw [c33]; decide +kernel
    refine at_tabIn (dflt := 174) (lo := 0) (hi := 10) (offs := #[58, 65, 70, 77, 84, 90, 96, 103, 130, 135, 140]) (len := 58) (off := 96) 102 (by decide +kernel) (by rw [w6]; decide) (by rw [w6]; decide) (by rw [w6]; decide +kernel) (by decide +kernel) ?_
    refine at_aload_n (i := 0) 0 103 rfl (by decide +kernel) rfl ?_
    refine at_get (index := 104) (v := va_rf (mR m2 t 34)) cok12 34 106 rfl (by decide +kernel) k5 (by decide +kernel) tw_1119 rfl ?_
    obtain ⟨b34, e35, h⟩ := h
    rw [e35]
    refine at_iconst (n := 0) (0 : Int32) 107 rfl (by decide +kernel) (by decide +kernel) ?_
    obtain ⟨k36, h⟩ := h
    obtain ⟨v37, h⟩ := h
    refine at_iald 108 rfl (by decide +kernel) k36 v37 ?_
    exact at_iret rfl (by decide +kernel) h
  rw [if_neg c33] at h
  by_cases c38 : l1 = (7 : Int32)
  · rw [if_pos c38] at h
    have w6 : l1.toInt = 7 := by rw [c38]; decide +kernel
    refine at_tabIn (dflt := 174) (lo := 0) (hi := 10) (offs := #[58, 65, 70, 77, 84, 90, 96, 103, 130, 135, 140]) (len := 58) (off := 103) 109 (by decide +kernel) (by rw [w6]; decide) (by rw [w6]; decide) (by rw [w6]; decide +kernel) (by decide +kernel) ?_
    refine at_aload_n (i := 0) 0 110 rfl (by decide +kernel) rfl ?_
    refine at_get (index := 95) (v := va_rf (mR m2 t 31)) cok12 31 113 rfl (by decide +kernel) k5 (by decide +kernel) tw_1116 rfl ?_
    obtain ⟨b39, e40, h⟩ := h
    rw [e40]
    refine at_iconst (n := 0) (0 : Int32) 114 rfl (by decide +kernel) (by decide +kernel) ?_
    obtain ⟨k41, h⟩ := h
    obtain ⟨v42, h⟩ := h
    refine at_iald 115 rfl (by decide +kernel) k41 v42 ?_
    refine at_if_ne (off := 7) 122 118 rfl (by decide +kernel) (by decide +kernel) (fun c43 => ?_) (fun c43 => ?_)
    · rw [if_neg c43] at h
      refine at_aload_n (i := 0) 0 123 rfl (by decide +kernel) rfl ?_
      refine at_get (index := 79) (v := va_rf (mR m2 t 26)) cok12 26 126 rfl (by decide +kernel) k5 (by decide +kernel) tw_1111 rfl ?_
      obtain ⟨b44, e45, h⟩ := h
      rw [e45]
      refine at_aload_n (i := 0) 0 127 rfl (by decide +kernel) rfl ?_
      refine at_get (index := 95) (v := va_rf (mR m2 t 31)) cok12 31 130 rfl (by decide +kernel) k5 (by decide +kernel) tw_1116 rfl ?_
      rw [e40]
      refine at_iconst (n := 0) (0 : Int32) 131 rfl (by decide +kernel) (by decide +kernel) ?_
      obtain ⟨v46, h⟩ := h
      refine at_iald 132 rfl (by decide +kernel) k41 v46 ?_
      refine at_iconst (n := 1) (1 : Int32) 133 rfl (by decide +kernel) (by decide +kernel) ?_
      refine at_isub 134 rfl (by decide +kernel) ?_
      obtain ⟨k47, h⟩ := h
      obtain ⟨v48, h⟩ := h
      refine at_iald 135 rfl (by decide +kernel) k47 v48 ?_
      exact at_iret rfl (by decide +kernel) h
    · rw [if_pos c43] at h
      refine at_iconst (n := 0) (0 : Int32) 119 rfl (by decide +kernel) (by decide +kernel) ?_
      refine at_goto (off := 16) 135 (by decide +kernel) (by decide +kernel) ?_
      exact at_iret rfl (by decide +kernel) h
  rw [if_neg c38] at h
  by_cases c49 : l1 = (8 : Int32)
  · rw [if_pos c49] at h
    have w6 : l1.toInt = 8 := by rw [c49]; decide +kernel
    refine at_tabIn (dflt := 174) (lo := 0) (hi := 10) (offs := #[58, 65, 70, 77, 84, 90, 96, 103, 130, 135, 140]) (len := 58) (off := 130) 136 (by decide +kernel) (by rw [w6]; decide) (by rw [w6]; decide) (by rw [w6]; decide +kernel) (by decide +kernel) ?_
    refine at_aload_n (i := 0) 0 137 rfl (by decide +kernel) rfl ?_
    refine at_get (index := 188) (v := .int (mI m2 t 15)) cok12 15 140 rfl (by decide +kernel) k5 (by decide +kernel) tw_1100 rfl ?_
    exact at_iret rfl (by decide +kernel) h
  rw [if_neg c49] at h
  by_cases c50 : l1 = (9 : Int32)
  · rw [if_pos c50] at h
    have w6 : l1.toInt = 9 := by rw [c50]; decide +kernel
    refine at_tabIn (dflt := 174) (lo := 0) (hi := 10) (offs := #[58, 65, 70, 77, 84, 90, 96, 103, 130, 135, 140]) (len := 58) (off := 135) 141 (by decide +kernel) (by rw [w6]; decide) (by rw [w6]; decide) (by rw [w6]; decide +kernel) (by decide +kernel) ?_
    refine at_aload_n (i := 0) 0 142 rfl (by decide +kernel) rfl ?_
    refine at_get (index := 407) (v := .int (mI m2 t 47)) cok12 47 145 rfl (by decide +kernel) k5 (by decide +kernel) tw_1132 rfl ?_
    exact at_iret rfl (by decide +kernel) h
  rw [if_neg c50] at h
  by_cases c51 : l1 = (10 : Int32)
  · rw [if_pos c51] at h
    have w6 : l1.toInt = 10 := by rw [c51]; decide +kernel
    refine at_tabIn (dflt := 174) (lo := 0) (hi := 10) (offs := #[58, 65, 70, 77, 84, 90, 96, 103, 130, 135, 140]) (len := 58) (off := 140) 146 (by decide +kernel) (by rw [w6]; decide) (by rw [w6]; decide) (by rw [w6]; decide +kernel) (by decide +kernel) ?_
    refine at_iconst (n := 0) (0 : Int32) 147 rfl (by decide +kernel) (by decide +kernel) ?_
    refine at_istore_n (i := 2) (lc' := [(0, va_rf (some t)), (2, .int ((0 : Int32)))]) [1, 0] 148 rfl (by decide +kernel) (by decide +kernel) rfl ?_
    refine at_iconst (n := 0) (0 : Int32) 149 rfl (by decide +kernel) (by decide +kernel) ?_
    refine at_istore_n (i := 3) (lc' := [(0, va_rf (some t)), (2, .int ((0 : Int32))), (3, .int ((0 : Int32)))]) [1, 2, 0] 150 rfl (by decide +kernel) (by decide +kernel) rfl ?_
    exact h
  rw [if_neg c51] at h
  have c7e : l1.toInt ≠ 0 := fun e => c7 (Int32.toInt_inj.mp (e.trans (by decide +kernel)))
  have c12e : l1.toInt ≠ 1 := fun e => c12 (Int32.toInt_inj.mp (e.trans (by decide +kernel)))
  have c13e : l1.toInt ≠ 2 := fun e => c13 (Int32.toInt_inj.mp (e.trans (by decide +kernel)))
  have c18e : l1.toInt ≠ 3 := fun e => c18 (Int32.toInt_inj.mp (e.trans (by decide +kernel)))
  have c23e : l1.toInt ≠ 4 := fun e => c23 (Int32.toInt_inj.mp (e.trans (by decide +kernel)))
  have c28e : l1.toInt ≠ 5 := fun e => c28 (Int32.toInt_inj.mp (e.trans (by decide +kernel)))
  have c33e : l1.toInt ≠ 6 := fun e => c33 (Int32.toInt_inj.mp (e.trans (by decide +kernel)))
  have c38e : l1.toInt ≠ 7 := fun e => c38 (Int32.toInt_inj.mp (e.trans (by decide +kernel)))
  have c49e : l1.toInt ≠ 8 := fun e => c49 (Int32.toInt_inj.mp (e.trans (by decide +kernel)))
  have c50e : l1.toInt ≠ 9 := fun e => c50 (Int32.toInt_inj.mp (e.trans (by decide +kernel)))
  have c51e : l1.toInt ≠ 10 := fun e => c51 (Int32.toInt_inj.mp (e.trans (by decide +kernel)))
  refine at_tabOut (dflt := 174) (lo := 0) (hi := 10) (offs := #[58, 65, 70, 77, 84, 90, 96, 103, 130, 135, 140]) (len := 58) 180 (by decide +kernel) (by omega) (by decide +kernel) ?_
  refine at_iconst (n := (-1)) (-1 : Int32) 181 rfl (by decide +kernel) (by decide +kernel) ?_
  exact at_iret rfl (by decide +kernel) h
set_option maxRecDepth 20000 in
set_option maxHeartbeats 4000000 in
theorem en_RF_sum_I (g : Gc) {lv : Nat} {t : Nat} {l1 : Int32} {m : Mm} {Q : Int64 → Mm → Prop} (h : mK m t = 13 ∧ (∀ m2, m2 = sI m t 0 (0 : Int32) → (CI g M_RF_in lv [.long (l1.toInt64), .long ((0 : Int64)), .long ((7 : Int64))] m2 (fun x6 m7 => (if (x6) = 0 then (Q (0 : Int64) m7) else (∃ b11, mR m7 t 43 = some b11 ∧ (mK m7 b11 = 16 ∧ (vp_in l1 (mN m7 b11) ∧ (Q (mL m7 b11 l1.toNatClampNeg) m7))))))))) : CJ g M_RF_sum_I (lv + 1) [va_rf (some t), .int (l1)] m Q := by
  refine Call.of (by decide +kernel) (Nat.le_of_ble_eq_true rfl) ?_
  show At g M_RF_sum_I (lv + 1) 0 [(0, va_rf (some t)), (1, .int (l1))] [] m (QJ Q)
  refine at_aload_n (i := 0) 0 1 rfl (by decide +kernel) rfl ?_
  refine at_iconst (n := 0) (0 : Int32) 2 rfl (by decide +kernel) (by decide +kernel) ?_
  obtain ⟨k1, h⟩ := h
  refine at_putI (index := 149) cok12 0 5 rfl (by decide +kernel) k1 (by decide +kernel) tw_1085 rfl rfl rfl (fun m2 e3 => ?_)
  replace h := h m2 e3
  have x4 : Ext m m2 := by rw [e3]; exact Ext.sI _ _ _ _
  have k5 : mK m2 t = 13 := x4.k k1 (by decide)
  refine at_iload_n (i := 1) 1 6 rfl (by decide +kernel) rfl ?_
  refine at_i2l 7 rfl (by decide +kernel) ?_
  refine at_lconst (n := 0) (0 : Int64) 8 rfl (by decide +kernel) (by decide +kernel) ?_
  refine at_ldc2 (index := 183) (7 : Int64) 11 rfl (by decide +kernel) tw_1329 ?_
  refine at_callS mb_RF_in tw_1293 (index := 154) tw_1292 [.long (l1.toInt64), .long ((0 : Int64)), .long ((7 : Int64))] [] rfl rfl (by decide) 14 rfl (by decide +kernel) (Call.toI (CI.monoE h (fun x6 m7 h y8 => ?_)))
  have k9 : mK m7 t = 13 := y8.k k5 (by decide)
  refine at_if_eq (off := 12) 26 17 rfl (by decide +kernel) (by decide +kernel) (fun c10 => ?_) (fun c10 => ?_)
  · rw [if_pos c10] at h
    refine at_lconst (n := 0) (0 : Int64) 27 rfl (by decide +kernel) (by decide +kernel) ?_
    exact at_lret rfl (by decide +kernel) h
  · rw [if_neg c10] at h
    refine at_aload_n (i := 0) 0 18 rfl (by decide +kernel) rfl ?_
    refine at_get (index := 131) (v := va_rf (mR m7 t 43)) cok12 43 21 rfl (by decide +kernel) k9 (by decide +kernel) tw_1128 rfl ?_
    obtain ⟨b11, e12, h⟩ := h
    rw [e12]
    refine at_iload_n (i := 1) 1 22 rfl (by decide +kernel) rfl ?_
    obtain ⟨k13, h⟩ := h
    obtain ⟨v14, h⟩ := h
    refine at_lald 23 rfl (by decide +kernel) k13 v14 ?_
    refine at_goto (off := 4) 27 (by decide +kernel) (by decide +kernel) ?_
    exact at_lret rfl (by decide +kernel) h
set_option maxRecDepth 20000 in
set_option maxHeartbeats 4000000 in
theorem bk_RF_gains_10 (g : Gc) {lv : Nat} {t : Nat} {l1 : Int32} {l2 : Int32} {l3 : Int64} {l5 : Int32} {m : Mm} {Q : Int64 → Mm → Prop} (h : mK m t = 13 ∧ (if (mI m t 19) ≤ (l5) then (Q l3 m) else (∃ b3, mR m t 35 = some b3 ∧ (mK m b3 = 15 ∧ (vp_in l5 (mN m b3) ∧ (CI g M_RF_in lv [.long ((mI m b3 l5.toNatClampNeg).toInt64), .long (l1.toInt64), .long (l2.toInt64)] m (fun x7 m8 => (if (x7) = 0 then (At g M_RF_gains (lv + 1) 10 [(0, va_rf (some t)), (1, .int (l1)), (2, .int (l2)), (3, .long (l3 + (0 : Int64))), (5, .int (l5 + (1 : Int32)))] [] m8 (QJ Q)) else (∃ b14, mR m8 t 39 = some b14 ∧ (mK m8 b14 = 16 ∧ (vp_in l5 (mN m8 b14) ∧ (At g M_RF_gains (lv + 1) 10 [(0, va_rf (some t)), (1, .int (l1)), (2, .int (l2)), (3, .long (l3 + (mL m8 b14 l5.toNatClampNeg))), (5, .int (l5 + (1 : Int32)))] [] m8 (QJ Q))))))))))))) : At g M_RF_gains (lv + 1) 10 [(0, va_rf (some t)), (1, .int (l1)), (2, .int (l2)), (3, .long (l3)), (5, .int (l5))] [] m (QJ Q) := by
  refine at_iload (i := 5) 4 12 rfl (by decide +kernel) rfl ?_
  refine at_aload_n (i := 0) 0 13 rfl (by decide +kernel) rfl ?_
  obtain ⟨k1, h⟩ := h
  refine at_get (index := 185) (v := .int (mI m t 19)) cok12 19 16 rfl (by decide +kernel) k1 (by decide +kernel) tw_1104 rfl ?_
  refine at_icmp_ge (off := 41) 57 19 rfl (by decide +kernel) (by decide +kernel) (fun c2 => ?_) (fun c2 => ?_)
  · rw [if_pos c2] at h
    refine at_lload_n (i := 3) 3 58 rfl (by decide +kernel) rfl ?_
    exact at_lret rfl (by decide +kernel) h
  · rw [if_neg c2] at h
    refine at_lload_n (i := 3) 3 20 rfl (by decide +kernel) rfl ?_
    refine at_aload_n (i := 0) 0 21 rfl (by decide +kernel) rfl ?_
    refine at_get (index := 107) (v := va_rf (mR m t 35)) cok12 35 24 rfl (by decide +kernel) k1 (by decide +kernel) tw_1120 rfl ?_
    obtain ⟨b3, e4, h⟩ := h
    rw [e4]
    refine at_iload (i := 5) 4 26 rfl (by decide +kernel) rfl ?_
    obtain ⟨k5, h⟩ := h
    obtain ⟨v6, h⟩ := h
    refine at_iald 27 rfl (by decide +kernel) k5 v6 ?_
    refine at_i2l 28 rfl (by decide +kernel) ?_
    refine at_iload_n (i := 1) 1 29 rfl (by decide +kernel) rfl ?_
    refine at_i2l 30 rfl (by decide +kernel) ?_
    refine at_iload_n (i := 2) 2 31 rfl (by decide +kernel) rfl ?_
    refine at_i2l 32 rfl (by decide +kernel) ?_
    refine at_callS mb_RF_in tw_1293 (index := 154) tw_1292 [.long ((mI m b3 l5.toNatClampNeg).toInt64), .long (l1.toInt64), .long (l2.toInt64)] [.long (l3)] rfl rfl (by simp [va_rf_cat, cat_int, cat_long]) 35 rfl (by decide +kernel) (Call.toI (CI.monoE h (fun x7 m8 h y9 => ?_)))
    have k10 : mK m8 t = 13 := y9.k k1 (by decide)
    have k11 : mK m8 b3 = 15 := y9.k k5 (by decide)
    have e12 : mR m8 t 35 = some b3 := y9.r k1 (by decide) rfl e4
    refine at_if_eq (off := 13) 48 38 rfl (by decide +kernel) (by decide +kernel) (fun c13 => ?_) (fun c13 => ?_)
    · rw [if_pos c13] at h
      refine at_lconst (n := 0) (0 : Int64) 49 rfl (by decide +kernel) (by decide +kernel) ?_
      refine at_ladd 50 rfl (by decide +kernel) ?_
      refine at_lstore_n (i := 3) (lc' := [(0, va_rf (some t)), (1, .int (l1)), (2, .int (l2)), (3, .long (l3 + (0 : Int64))), (5, .int (l5))]) [1, 2, 3, 0, 4] 51 rfl (by decide +kernel) (by decide +kernel) rfl ?_
      refine at_iinc (i := 5) (n := 1) (lc' := [(0, va_rf (some t)), (1, .int (l1)), (2, .int (l2)), (3, .long (l3 + (0 : Int64))), (5, .int (l5 + (1 : Int32)))]) (l5 + (1 : Int32)) 4 [1, 2, 3, 4, 0] 54 rfl (by decide +kernel) rfl (by rw [show Int32.ofInt 1 = (1 : Int32) from by decide +kernel]) (by decide +kernel) rfl ?_
      refine at_goto (off := (-44)) 10 (by decide +kernel) (by decide +kernel) ?_
      exact h
    · rw [if_neg c13] at h
      refine at_aload_n (i := 0) 0 39 rfl (by decide +kernel) rfl ?_
      refine at_get (index := 119) (v := va_rf (mR m8 t 39)) cok12 39 42 rfl (by decide +kernel) k10 (by decide +kernel) tw_1124 rfl ?_
      obtain ⟨b14, e15, h⟩ := h
      rw [e15]
      refine at_iload (i := 5) 4 44 rfl (by decide +kernel) rfl ?_
      obtain ⟨k16, h⟩ := h
      obtain ⟨v17, h⟩ := h
      refine at_lald 45 rfl (by decide +kernel) k16 v17 ?_
      refine at_goto (off := 4) 49 (by decide +kernel) (by decide +kernel) ?_
      refine at_ladd 50 rfl (by decide +kernel) ?_
      refine at_lstore_n (i := 3) (lc' := [(0, va_rf (some t)), (1, .int (l1)), (2, .int (l2)), (3, .long (l3 + (mL m8 b14 l5.toNatClampNeg))), (5, .int (l5))]) [1, 2, 3, 0, 4] 51 rfl (by decide +kernel) (by decide +kernel) rfl ?_
      refine at_iinc (i := 5) (n := 1) (lc' := [(0, va_rf (some t)), (1, .int (l1)), (2, .int (l2)), (3, .long (l3 + (mL m8 b14 l5.toNatClampNeg))), (5, .int (l5 + (1 : Int32)))]) (l5 + (1 : Int32)) 4 [1, 2, 3, 4, 0] 54 rfl (by decide +kernel) rfl (by rw [show Int32.ofInt 1 = (1 : Int32) from by decide +kernel]) (by decide +kernel) rfl ?_
      refine at_goto (off := (-44)) 10 (by decide +kernel) (by decide +kernel) ?_
      exact h
set_option maxRecDepth 20000 in
set_option maxHeartbeats 4000000 in
theorem en_RF_gains (g : Gc) {lv : Nat} {t : Nat} {l1 : Int32} {l2 : Int32} {m : Mm} {Q : Int64 → Mm → Prop} (h : mK m t = 13 ∧ (∀ m2, m2 = sI m t 0 (0 : Int32) → (At g M_RF_gains (lv + 1) 10 [(0, va_rf (some t)), (1, .int (l1)), (2, .int (l2)), (3, .long ((0 : Int64))), (5, .int ((0 : Int32)))] [] m2 (QJ Q)))) : CJ g M_RF_gains (lv + 1) [va_rf (some t), .int (l1), .int (l2)] m Q := by
  refine Call.of (by decide +kernel) (Nat.le_of_ble_eq_true rfl) ?_
  show At g M_RF_gains (lv + 1) 0 [(0, va_rf (some t)), (1, .int (l1)), (2, .int (l2))] [] m (QJ Q)
  refine at_aload_n (i := 0) 0 1 rfl (by decide +kernel) rfl ?_
  refine at_iconst (n := 0) (0 : Int32) 2 rfl (by decide +kernel) (by decide +kernel) ?_
  obtain ⟨k1, h⟩ := h
  refine at_putI (index := 149) cok12 0 5 rfl (by decide +kernel) k1 (by decide +kernel) tw_1085 rfl rfl rfl (fun m2 e3 => ?_)
  replace h := h m2 e3
  have x4 : Ext m m2 := by rw [e3]; exact Ext.sI _ _ _ _
  have k5 : mK m2 t = 13 := x4.k k1 (by decide)
  refine at_lconst (n := 0) (0 : Int64) 6 rfl (by decide +kernel) (by decide +kernel) ?_
  refine at_lstore_n (i := 3) (lc' := [(0, va_rf (some t)), (1, .int (l1)), (2, .int (l2)), (3, .long ((0 : Int64)))]) [1, 2, 3, 0] 7 rfl (by decide +kernel) (by decide +kernel) rfl ?_
  refine at_iconst (n := 0) (0 : Int32) 8 rfl (by decide +kernel) (by decide +kernel) ?_
  refine at_istore (i := 5) (lc' := [(0, va_rf (some t)), (1, .int (l1)), (2, .int (l2)), (3, .long ((0 : Int64))), (5, .int ((0 : Int32)))]) [1, 2, 3, 4, 0] 10 rfl (by decide +kernel) (by decide +kernel) rfl ?_
  exact h
set_option maxRecDepth 20000 in
set_option maxHeartbeats 4000000 in
theorem bk_RF_beside_335 (g : Gc) {lv : Nat} {t : Nat} {l2 : Int64} {l4 : Int32} {m : Mm} {Q : Int64 → Mm → Prop} (h : mK m t = 13 ∧ (if (mI m t 19) ≤ (l4) then (Q l2 m) else (∃ b3, mR m t 35 = some b3 ∧ (mK m b3 = 15 ∧ (vp_in ((12 : Int32) + l4) (mN m b3) ∧ (At g M_RF_beside (lv + 1) 335 [(0, va_rf (some t)), (2, .long (l2 + ((mI m b3 ((12 : Int32) + l4).toNatClampNeg).toInt64))), (4, .int (l4 + (1 : Int32)))] [] m (QJ Q))))))) : At g M_RF_beside (lv + 1) 335 [(0, va_rf (some t)), (2, .long (l2)), (4, .int (l4))] [] m (QJ Q) := by
  refine at_iload (i := 4) 2 337 rfl (by decide +kernel) rfl ?_
  refine at_aload_n (i := 0) 0 338 rfl (by decide +kernel) rfl ?_
  obtain ⟨k1, h⟩ := h
  refine at_get (index := 185) (v := .int (mI m t 19)) cok12 19 341 rfl (by decide +kernel) k1 (by decide +kernel) tw_1104 rfl ?_
  refine at_icmp_ge (off := 23) 364 344 rfl (by decide +kernel) (by decide +kernel) (fun c2 => ?_) (fun c2 => ?_)
  · rw [if_pos c2] at h
    refine at_lload_n (i := 2) 1 365 rfl (by decide +kernel) rfl ?_
    exact at_lret rfl (by decide +kernel) h
  · rw [if_neg c2] at h
    refine at_lload_n (i := 2) 1 345 rfl (by decide +kernel) rfl ?_
    refine at_aload_n (i := 0) 0 346 rfl (by decide +kernel) rfl ?_
    refine at_get (index := 107) (v := va_rf (mR m t 35)) cok12 35 349 rfl (by decide +kernel) k1 (by decide +kernel) tw_1120 rfl ?_
    obtain ⟨b3, e4, h⟩ := h
    rw [e4]
    refine at_bipush (n := 12) (12 : Int32) 351 rfl (by decide +kernel) (by decide +kernel) ?_
    refine at_iload (i := 4) 2 353 rfl (by decide +kernel) rfl ?_
    refine at_iadd 354 rfl (by decide +kernel) ?_
    obtain ⟨k5, h⟩ := h
    obtain ⟨v6, h⟩ := h
    refine at_iald 355 rfl (by decide +kernel) k5 v6 ?_
    refine at_i2l 356 rfl (by decide +kernel) ?_
    refine at_ladd 357 rfl (by decide +kernel) ?_
    refine at_lstore_n (i := 2) (lc' := [(0, va_rf (some t)), (2, .long (l2 + ((mI m b3 ((12 : Int32) + l4).toNatClampNeg).toInt64))), (4, .int (l4))]) [1, 0, 2] 358 rfl (by decide +kernel) (by decide +kernel) rfl ?_
    refine at_iinc (i := 4) (n := 1) (lc' := [(0, va_rf (some t)), (2, .long (l2 + ((mI m b3 ((12 : Int32) + l4).toNatClampNeg).toInt64))), (4, .int (l4 + (1 : Int32)))]) (l4 + (1 : Int32)) 2 [1, 2, 0] 361 rfl (by decide +kernel) rfl (by rw [show Int32.ofInt 1 = (1 : Int32) from by decide +kernel]) (by decide +kernel) rfl ?_
    refine at_goto (off := (-26)) 335 (by decide +kernel) (by decide +kernel) ?_
    exact h
set_option maxRecDepth 20000 in
set_option maxHeartbeats 4000000 in
theorem bk_RF_beside_302 (g : Gc) {lv : Nat} {t : Nat} {l2 : Int64} {l4 : Int32} {m : Mm} {Q : Int64 → Mm → Prop} (h : mK m t = 13 ∧ (if (mI m t 19) ≤ (l4) then (Q l2 m) else (∃ b3, mR m t 39 = some b3 ∧ (mK m b3 = 16 ∧ (vp_in ((15 : Int32) + l4) (mN m b3) ∧ (At g M_RF_beside (lv + 1) 302 [(0, va_rf (some t)), (2, .long (l2 + (mL m b3 ((15 : Int32) + l4).toNatClampNeg))), (4, .int (l4 + (1 : Int32)))] [] m (QJ Q))))))) : At g M_RF_beside (lv + 1) 302 [(0, va_rf (some t)), (2, .long (l2)), (4, .int (l4))] [] m (QJ Q) := by
  refine at_iload (i := 4) 2 304 rfl (by decide +kernel) rfl ?_
  refine at_aload_n (i := 0) 0 305 rfl (by decide +kernel) rfl ?_
  obtain ⟨k1, h⟩ := h
  refine at_get (index := 185) (v := .int (mI m t 19)) cok12 19 308 rfl (by decide +kernel) k1 (by decide +kernel) tw_1104 rfl ?_
  refine at_icmp_ge (off := 22) 330 311 rfl (by decide +kernel) (by decide +kernel) (fun c2 => ?_) (fun c2 => ?_)
  · rw [if_pos c2] at h
    refine at_lload_n (i := 2) 1 331 rfl (by decide +kernel) rfl ?_
    exact at_lret rfl (by decide +kernel) h
  · rw [if_neg c2] at h
    refine at_lload_n (i := 2) 1 312 rfl (by decide +kernel) rfl ?_
    refine at_aload_n (i := 0) 0 313 rfl (by decide +kernel) rfl ?_
    refine at_get (index := 119) (v := va_rf (mR m t 39)) cok12 39 316 rfl (by decide +kernel) k1 (by decide +kernel) tw_1124 rfl ?_
    obtain ⟨b3, e4, h⟩ := h
    rw [e4]
    refine at_bipush (n := 15) (15 : Int32) 318 rfl (by decide +kernel) (by decide +kernel) ?_
    refine at_iload (i := 4) 2 320 rfl (by decide +kernel) rfl ?_
    refine at_iadd 321 rfl (by decide +kernel) ?_
    obtain ⟨k5, h⟩ := h
    obtain ⟨v6, h⟩ := h
    refine at_lald 322 rfl (by decide +kernel) k5 v6 ?_
    refine at_ladd 323 rfl (by decide +kernel) ?_
    refine at_lstore_n (i := 2) (lc' := [(0, va_rf (some t)), (2, .long (l2 + (mL m b3 ((15 : Int32) + l4).toNatClampNeg))), (4, .int (l4))]) [1, 0, 2] 324 rfl (by decide +kernel) (by decide +kernel) rfl ?_
    refine at_iinc (i := 4) (n := 1) (lc' := [(0, va_rf (some t)), (2, .long (l2 + (mL m b3 ((15 : Int32) + l4).toNatClampNeg))), (4, .int (l4 + (1 : Int32)))]) (l4 + (1 : Int32)) 2 [1, 2, 0] 327 rfl (by decide +kernel) rfl (by rw [show Int32.ofInt 1 = (1 : Int32) from by decide +kernel]) (by decide +kernel) rfl ?_
    refine at_goto (off := (-25)) 302 (by decide +kernel) (by decide +kernel) ?_
    exact h
set_option maxRecDepth 20000 in
set_option maxHeartbeats 4000000 in
theorem bk_RF_beside_153 (g : Gc) {lv : Nat} {t : Nat} {l1 : Int32} {l2 : Int32} {m : Mm} {Q : Int64 → Mm → Prop} (h : mK m t = 13 ∧ (if (mI m t 19) ≤ (l2) then (∃ b3, mR m t 29 = some b3 ∧ (CI g M_RF_passes lv [va_rf (some t), .int ((1 : Int32)), .int ((30 : Int32)), va_rf (some b3), .int ((0 : Int32))] m (fun x5 m6 => (∃ b10, mR m6 t 31 = some b10 ∧ (mK m6 b10 = 15 ∧ (vp_in (1 : Int32) (mN m6 b10) ∧ (vp_in (1 : Int32) (mN m6 b10) ∧ (∀ m15, m15 = sI m6 b10 (1 : Int32).toNatClampNeg ((mI m6 b10 (1 : Int32).toNatClampNeg) + (1 : Int32)) → (At g M_RF_beside (lv + 1) 136 [(0, va_rf (some t)), (1, .int (l1))] [] m15 (QJ Q)))))))))) else (∃ b22, mR m t 31 = some b22 ∧ (mK m b22 = 15 ∧ (vp_in (1 : Int32) (mN m b22) ∧ (∃ b26, mR m t 29 = some b26 ∧ (∃ b28, mR m t 28 = some b28 ∧ (mK m b28 = 17 ∧ (vp_in (((12 : Int32) * (mI m b22 (1 : Int32).toNatClampNeg)) + l2) (mN m b28) ∧ (if (mI m b28 (((12 : Int32) * (mI m b22 (1 : Int32).toNatClampNeg)) + l2).toNatClampNeg) = 0 then (∃ b33, mR m t 35 = some b33 ∧ (mK m b33 = 15 ∧ (vp_in ((12 : Int32) + l2) (mN m b33) ∧ (∃ b37, mR m t 25 = some b37 ∧ (vp_in (1 : Int32) (mN m b22) ∧ (mK m b37 = 15 ∧ (vp_in (mI m b22 (1 : Int32).toNatClampNeg) (mN m b37) ∧ (mK m b26 = 15 ∧ (vp_in l2 (mN m b26) ∧ (∀ m44, m44 = sI m b26 l2.toNatClampNeg ((mI m b33 ((12 : Int32) + l2).toNatClampNeg) * (mI m b37 (mI m b22 (1 : Int32).toNatClampNeg).toNatClampNeg)) → (At g M_RF_beside (lv + 1) 153 [(0, va_rf (some t)), (1, .int (l1)), (2, .int (l2 + (1 : Int32)))] [] m44 (QJ Q)))))))))))) else (∃ b58, mR m t 23 = some b58 ∧ (mK m b58 = 15 ∧ (vp_in (((12 : Int32) * (mI m b22 (1 : Int32).toNatClampNeg)) + l2) (mN m b58) ∧ (mK m b26 = 15 ∧ (vp_in l2 (mN m b26) ∧ (∀ m64, m64 = sI m b26 l2.toNatClampNeg (mI m b58 (((12 : Int32) * (mI m b22 (1 : Int32).toNatClampNeg)) + l2).toNatClampNeg) → (At g M_RF_beside (lv + 1) 153 [(0, va_rf (some t)), (1, .int (l1)), (2, .int (l2 + (1 : Int32)))] [] m64 (QJ Q)))))))))))))))))) : At g M_RF_beside (lv + 1) 153 [(0, va_rf (some t)), (1, .int (l1)), (2, .int (l2))] [] m (QJ Q) := by
  refine at_iload_n (i := 2) 2 154 rfl (by decide +kernel) rfl ?_
  refine at_aload_n (i := 0) 0 155 rfl (by decide +kernel) rfl ?_
  obtain ⟨k1, h⟩ := h
  refine at_get (index := 185) (v := .int (mI m t 19)) cok12 19 158 rfl (by decide +kernel) k1 (by decide +kernel) tw_1104 rfl ?_
  refine at_icmp_ge (off := 66) 224 161 rfl (by decide +kernel) (by decide +kernel) (fun c2 => ?_) (fun c2 => ?_)
  · rw [if_pos c2] at h
    refine at_aload_n (i := 0) 0 225 rfl (by decide +kernel) rfl ?_
    refine at_iconst (n := 1) (1 : Int32) 226 rfl (by decide +kernel) (by decide +kernel) ?_
    refine at_bipush (n := 30) (30 : Int32) 228 rfl (by decide +kernel) (by decide +kernel) ?_
    refine at_aload_n (i := 0) 0 229 rfl (by decide +kernel) rfl ?_
    refine at_get (index := 89) (v := va_rf (mR m t 29)) cok12 29 232 rfl (by decide +kernel) k1 (by decide +kernel) tw_1114 rfl ?_
    obtain ⟨b3, e4, h⟩ := h
    rw [e4]
    refine at_iconst (n := 0) (0 : Int32) 233 rfl (by decide +kernel) (by decide +kernel) ?_
    refine at_callV mb_RF_passes tw_1443 tw_46 cok12 k1 (index := 374) tw_1441 [.int ((1 : Int32)), .int ((30 : Int32)), va_rf (some b3), .int ((0 : Int32))] [] rfl rfl (by decide) 236 rfl (by decide +kernel) (Call.toI (CI.monoE h (fun x5 m6 h y7 => ?_)))
    have k8 : mK m6 t = 13 := y7.k k1 (by decide)
    have e9 : mR m6 t 29 = some b3 := y7.r k1 (by decide) rfl e4
    refine at_istore_n (i := 2) (lc' := [(0, va_rf (some t)), (1, .int (l1)), (2, .int (x5))]) [1, 2, 0] 237 rfl (by decide +kernel) (by decide +kernel) rfl ?_
    refine at_aload_n (i := 0) 0 238 rfl (by decide +kernel) rfl ?_
    refine at_get (index := 95) (v := va_rf (mR m6 t 31)) cok12 31 241 rfl (by decide +kernel) k8 (by decide +kernel) tw_1116 rfl ?_
    obtain ⟨b10, e11, h⟩ := h
    rw [e11]
    refine at_iconst (n := 1) (1 : Int32) 242 rfl (by decide +kernel) (by decide +kernel) ?_
    refine at_dup2_11 243 rfl (by decide +kernel) rfl (va_rf_cat _) ?_
    obtain ⟨k12, h⟩ := h
    obtain ⟨v13, h⟩ := h
    refine at_iald 244 rfl (by decide +kernel) k12 v13 ?_
    refine at_iconst (n := 1) (1 : Int32) 245 rfl (by decide +kernel) (by decide +kernel) ?_
    refine at_iadd 246 rfl (by decide +kernel) ?_
    obtain ⟨v14, h⟩ := h
    refine at_iast 247 rfl (by decide +kernel) k12 v14 (fun m15 e16 => ?_)
    replace h := h m15 e16
    have x17 : Ext m6 m15 := by rw [e16]; exact Ext.sI _ _ _ _
    have k18 : mK m15 t = 13 := x17.k k8 (by decide)
    have k19 : mK m15 b10 = 15 := x17.k k12 (by decide)
    have e20 : mR m15 t 29 = some b3 := x17.r k8 (by decide) rfl e9
    have e21 : mR m15 t 31 = some b10 := x17.r k8 (by decide) rfl e11
    refine at_goto (off := (-111)) 136 (by decide +kernel) (by decide +kernel) ?_
    exact At.sub [0, 1] rfl h
  · rw [if_neg c2] at h
    refine at_bipush (n := 12) (12 : Int32) 163 rfl (by decide +kernel) (by decide +kernel) ?_
    refine at_aload_n (i := 0) 0 164 rfl (by decide +kernel) rfl ?_
    refine at_get (index := 95) (v := va_rf (mR m t 31)) cok12 31 167 rfl (by decide +kernel) k1 (by decide +kernel) tw_1116 rfl ?_
    obtain ⟨b22, e23, h⟩ := h
    rw [e23]
    refine at_iconst (n := 1) (1 : Int32) 168 rfl (by decide +kernel) (by decide +kernel) ?_
    obtain ⟨k24, h⟩ := h
    obtain ⟨v25, h⟩ := h
    refine at_iald 169 rfl (by decide +kernel) k24 v25 ?_
    refine at_imul 170 rfl (by decide +kernel) ?_
    refine at_iload_n (i := 2) 2 171 rfl (by decide +kernel) rfl ?_
    refine at_iadd 172 rfl (by decide +kernel) ?_
    refine at_istore_n (i := 3) (lc' := [(0, va_rf (some t)), (1, .int (l1)), (2, .int (l2)), (3, .int (((12 : Int32) * (mI m b22 (1 : Int32).toNatClampNeg)) + l2))]) [1, 2, 3, 0] 173 rfl (by decide +kernel) (by decide +kernel) rfl ?_
    refine at_aload_n (i := 0) 0 174 rfl (by decide +kernel) rfl ?_
    refine at_get (index := 89) (v := va_rf (mR m t 29)) cok12 29 177 rfl (by decide +kernel) k1 (by decide +kernel) tw_1114 rfl ?_
    obtain ⟨b26, e27, h⟩ := h
    rw [e27]
    refine at_iload_n (i := 2) 2 178 rfl (by decide +kernel) rfl ?_
    refine at_aload_n (i := 0) 0 179 rfl (by decide +kernel) rfl ?_
    refine at_get (index := 86) (v := va_rf (mR m t 28)) cok12 28 182 rfl (by decide +kernel) k1 (by decide +kernel) tw_1113 rfl ?_
    obtain ⟨b28, e29, h⟩ := h
    rw [e29]
    refine at_iload_n (i := 3) 3 183 rfl (by decide +kernel) rfl ?_
    obtain ⟨k30, h⟩ := h
    obtain ⟨v31, h⟩ := h
    refine at_zald 184 rfl (by decide +kernel) k30 v31 ?_
    refine at_if_eq (off := 12) 196 187 rfl (by decide +kernel) (by decide +kernel) (fun c32 => ?_) (fun c32 => ?_)
    · rw [if_pos c32] at h
      refine at_aload_n (i := 0) 0 197 rfl (by decide +kernel) rfl ?_
      refine at_get (index := 107) (v := va_rf (mR m t 35)) cok12 35 200 rfl (by decide +kernel) k1 (by decide +kernel) tw_1120 rfl ?_
      obtain ⟨b33, e34, h⟩ := h
      rw [e34]
      refine at_bipush (n := 12) (12 : Int32) 202 rfl (by decide +kernel) (by decide +kernel) ?_
      refine at_iload_n (i := 2) 2 203 rfl (by decide +kernel) rfl ?_
      refine at_iadd 204 rfl (by decide +kernel) ?_
      obtain ⟨k35, h⟩ := h
      obtain ⟨v36, h⟩ := h
      refine at_iald 205 rfl (by decide +kernel) k35 v36 ?_
      refine at_aload_n (i := 0) 0 206 rfl (by decide +kernel) rfl ?_
      refine at_get (index := 76) (v := va_rf (mR m t 25)) cok12 25 209 rfl (by decide +kernel) k1 (by decide +kernel) tw_1110 rfl ?_
      obtain ⟨b37, e38, h⟩ := h
      rw [e38]
      refine at_aload_n (i := 0) 0 210 rfl (by decide +kernel) rfl ?_
      refine at_get (index := 95) (v := va_rf (mR m t 31)) cok12 31 213 rfl (by decide +kernel) k1 (by decide +kernel) tw_1116 rfl ?_
      rw [e23]
      refine at_iconst (n := 1) (1 : Int32) 214 rfl (by decide +kernel) (by decide +kernel) ?_
      obtain ⟨v39, h⟩ := h
      refine at_iald 215 rfl (by decide +kernel) k24 v39 ?_
      obtain ⟨k40, h⟩ := h
      obtain ⟨v41, h⟩ := h
      refine at_iald 216 rfl (by decide +kernel) k40 v41 ?_
      refine at_imul 217 rfl (by decide +kernel) ?_
      obtain ⟨k42, h⟩ := h
      obtain ⟨v43, h⟩ := h
      refine at_iast 218 rfl (by decide +kernel) k42 v43 (fun m44 e45 => ?_)
      replace h := h m44 e45
      have x46 : Ext m m44 := by rw [e45]; exact Ext.sI _ _ _ _
      have k47 : mK m44 t = 13 := x46.k k1 (by decide)
      have k48 : mK m44 b22 = 15 := x46.k k24 (by decide)
      have k49 : mK m44 b28 = 17 := x46.k k30 (by decide)
      have k50 : mK m44 b33 = 15 := x46.k k35 (by decide)
      have k51 : mK m44 b37 = 15 := x46.k k40 (by decide)
      have k52 : mK m44 b26 = 15 := x46.k k42 (by decide)
      have e53 : mR m44 t 31 = some b22 := x46.r k1 (by decide) rfl e23
      have e54 : mR m44 t 29 = some b26 := x46.r k1 (by decide) rfl e27
      have e55 : mR m44 t 28 = some b28 := x46.r k1 (by decide) rfl e29
      have e56 : mR m44 t 35 = some b33 := x46.r k1 (by decide) rfl e34
      have e57 : mR m44 t 25 = some b37 := x46.r k1 (by decide) rfl e38
      refine at_iinc (i := 2) (n := 1) (lc' := [(0, va_rf (some t)), (1, .int (l1)), (2, .int (l2 + (1 : Int32)))]) (l2 + (1 : Int32)) 2 [1, 2, 0] 221 rfl (by decide +kernel) rfl (by rw [show Int32.ofInt 1 = (1 : Int32) from by decide +kernel]) (by decide +kernel) rfl ?_
      refine at_goto (off := (-68)) 153 (by decide +kernel) (by decide +kernel) ?_
      exact h
    · rw [if_neg c32] at h
      refine at_aload_n (i := 0) 0 188 rfl (by decide +kernel) rfl ?_
      refine at_get (index := 70) (v := va_rf (mR m t 23)) cok12 23 191 rfl (by decide +kernel) k1 (by decide +kernel) tw_1108 rfl ?_
      obtain ⟨b58, e59, h⟩ := h
      rw [e59]
      refine at_iload_n (i := 3) 3 192 rfl (by decide +kernel) rfl ?_
      obtain ⟨k60, h⟩ := h
      obtain ⟨v61, h⟩ := h
      refine at_iald 193 rfl (by decide +kernel) k60 v61 ?_
      refine at_goto (off := 24) 217 (by decide +kernel) (by decide +kernel) ?_
      obtain ⟨k62, h⟩ := h
      obtain ⟨v63, h⟩ := h
      refine at_iast 218 rfl (by decide +kernel) k62 v63 (fun m64 e65 => ?_)
      replace h := h m64 e65
      have x66 : Ext m m64 := by rw [e65]; exact Ext.sI _ _ _ _
      have k67 : mK m64 t = 13 := x66.k k1 (by decide)
      have k68 : mK m64 b22 = 15 := x66.k k24 (by decide)
      have k69 : mK m64 b28 = 17 := x66.k k30 (by decide)
      have k70 : mK m64 b58 = 15 := x66.k k60 (by decide)
      have k71 : mK m64 b26 = 15 := x66.k k62 (by decide)
      have e72 : mR m64 t 31 = some b22 := x66.r k1 (by decide) rfl e23
      have e73 : mR m64 t 29 = some b26 := x66.r k1 (by decide) rfl e27
      have e74 : mR m64 t 28 = some b28 := x66.r k1 (by decide) rfl e29
      have e75 : mR m64 t 23 = some b58 := x66.r k1 (by decide) rfl e59
      refine at_iinc (i := 2) (n := 1) (lc' := [(0, va_rf (some t)), (1, .int (l1)), (2, .int (l2 + (1 : Int32)))]) (l2 + (1 : Int32)) 2 [1, 2, 0] 221 rfl (by decide +kernel) rfl (by rw [show Int32.ofInt 1 = (1 : Int32) from by decide +kernel]) (by decide +kernel) rfl ?_
      refine at_goto (off := (-68)) 153 (by decide +kernel) (by decide +kernel) ?_
      exact h
set_option maxRecDepth 20000 in
set_option maxHeartbeats 4000000 in
theorem bk_RF_beside_136 (g : Gc) {lv : Nat} {t : Nat} {l1 : Int32} {m : Mm} {Q : Int64 → Mm → Prop} (h : mK m t = 13 ∧ (∃ b2, mR m t 31 = some b2 ∧ (mK m b2 = 15 ∧ (vp_in (1 : Int32) (mN m b2) ∧ (vp_in (0 : Int32) (mN m b2) ∧ (if (mI m b2 (0 : Int32).toNatClampNeg) ≤ (mI m b2 (1 : Int32).toNatClampNeg) then (if l1 = (0 : Int32) then (∃ b10, mR m t 32 = some b10 ∧ (mK m b10 = 15 ∧ (vp_in (1 : Int32) (mN m b10) ∧ (Q ((mI m b10 (1 : Int32).toNatClampNeg).toInt64) m)))) else (if l1 = (1 : Int32) then (CI g M_RF_store lv [va_rf (some t), .int ((1 : Int32))] m (fun x15 m16 => (Q x15.toInt64 m16))) else (if l1 = (2 : Int32) then (At g M_RF_beside (lv + 1) 302 [(0, va_rf (some t)), (2, .long ((0 : Int64))), (4, .int ((0 : Int32)))] [] m (QJ Q)) else (if l1 = (3 : Int32) then (At g M_RF_beside (lv + 1) 335 [(0, va_rf (some t)), (2, .long ((0 : Int64))), (4, .int ((0 : Int32)))] [] m (QJ Q)) else (CI g M_RF_frees lv [va_rf (some t), .int ((1 : Int32))] m (fun x23 m24 => (Q x23.toInt64 m24))))))) else (At g M_RF_beside (lv + 1) 153 [(0, va_rf (some t)), (1, .int (l1)), (2, .int ((0 : Int32)))] [] m (QJ Q)))))))) : At g M_RF_beside (lv + 1) 136 [(0, va_rf (some t)), (1, .int (l1))] [] m (QJ Q) := by
  refine at_aload_n (i := 0) 0 137 rfl (by decide +kernel) rfl ?_
  obtain ⟨k1, h⟩ := h
  refine at_get (index := 95) (v := va_rf (mR m t 31)) cok12 31 140 rfl (by decide +kernel) k1 (by decide +kernel) tw_1116 rfl ?_
  obtain ⟨b2, e3, h⟩ := h
  rw [e3]
  refine at_iconst (n := 1) (1 : Int32) 141 rfl (by decide +kernel) (by decide +kernel) ?_
  obtain ⟨k4, h⟩ := h
  obtain ⟨v5, h⟩ := h
  refine at_iald 142 rfl (by decide +kernel) k4 v5 ?_
  refine at_aload_n (i := 0) 0 143 rfl (by decide +kernel) rfl ?_
  refine at_get (index := 95) (v := va_rf (mR m t 31)) cok12 31 146 rfl (by decide +kernel) k1 (by decide +kernel) tw_1116 rfl ?_
  rw [e3]
  refine at_iconst (n := 0) (0 : Int32) 147 rfl (by decide +kernel) (by decide +kernel) ?_
  obtain ⟨v6, h⟩ := h
  refine at_iald 148 rfl (by decide +kernel) k4 v6 ?_
  refine at_icmp_ge (off := 102) 250 151 rfl (by decide +kernel) (by decide +kernel) (fun c7 => ?_) (fun c7 => ?_)
  · rw [if_pos c7] at h
    refine at_lconst (n := 0) (0 : Int64) 251 rfl (by decide +kernel) (by decide +kernel) ?_
    refine at_lstore_n (i := 2) (lc' := [(0, va_rf (some t)), (1, .int (l1)), (2, .long ((0 : Int64)))]) [1, 2, 0] 252 rfl (by decide +kernel) (by decide +kernel) rfl ?_
    refine at_iload_n (i := 1) 1 253 rfl (by decide +kernel) rfl ?_
    by_cases c9 : l1 = (0 : Int32)
    · rw [if_pos c9] at h
      have w8 : l1.toInt = 0 := by rw [c9]; decide +kernel
      refine at_tabIn (dflt := 113) (lo := 0) (hi := 3) (offs := #[31, 39, 46, 79]) (len := 31) (off := 31) 284 (by decide +kernel) (by rw [w8]; decide) (by rw [w8]; decide) (by rw [w8]; decide +kernel) (by decide +kernel) ?_
      refine at_aload_n (i := 0) 0 285 rfl (by decide +kernel) rfl ?_
      refine at_get (index := 98) (v := va_rf (mR m t 32)) cok12 32 288 rfl (by decide +kernel) k1 (by decide +kernel) tw_1117 rfl ?_
      obtain ⟨b10, e11, h⟩ := h
      rw [e11]
      refine at_iconst (n := 1) (1 : Int32) 289 rfl (by decide +kernel) (by decide +kernel) ?_
      obtain ⟨k12, h⟩ := h
      obtain ⟨v13, h⟩ := h
      refine at_iald 290 rfl (by decide +kernel) k12 v13 ?_
      refine at_i2l 291 rfl (by decide +kernel) ?_
      exact at_lret rfl (by decide +kernel) h
    rw [if_neg c9] at h
    by_cases c14 : l1 = (1 : Int32)
    · rw [if_pos c14] at h
      have w8 : l1.toInt = 1 := by rw [c14]; decide +kernel
      refine at_tabIn (dflt := 113) (lo := 0) (hi := 3) (offs := #[31, 39, 46, 79]) (len := 31) (off := 39) 292 (by decide +kernel) (by rw [w8]; decide) (by rw [w8]; decide) (by rw [w8]; decide +kernel) (by decide +kernel) ?_
      refine at_aload_n (i := 0) 0 293 rfl (by decide +kernel) rfl ?_
      refine at_iconst (n := 1) (1 : Int32) 294 rfl (by decide +kernel) (by decide +kernel) ?_
      refine at_callV mb_RF_store tw_1447 tw_47 cok12 k1 (index := 344) tw_1445 [.int ((1 : Int32))] [] rfl rfl (by decide) 297 rfl (by decide +kernel) (Call.toI (CI.monoE h (fun x15 m16 h y17 => ?_)))
      have k18 : mK m16 t = 13 := y17.k k1 (by decide)
      have k19 : mK m16 b2 = 15 := y17.k k4 (by decide)
      have e20 : mR m16 t 31 = some b2 := y17.r k1 (by decide) rfl e3
      refine at_i2l 298 rfl (by decide +kernel) ?_
      exact at_lret rfl (by decide +kernel) h
    rw [if_neg c14] at h
    by_cases c21 : l1 = (2 : Int32)
    · rw [if_pos c21] at h
      have w8 : l1.toInt = 2 := by rw [c21]; decide +kernel
      refine at_tabIn (dflt := 113) (lo := 0) (hi := 3) (offs := #[31, 39, 46, 79]) (len := 31) (off := 46) 299 (by decide +kernel) (by rw [w8]; decide) (by rw [w8]; decide) (by rw [w8]; decide +kernel) (by decide +kernel) ?_
      refine at_iconst (n := 0) (0 : Int32) 300 rfl (by decide +kernel) (by decide +kernel) ?_
      refine at_istore (i := 4) (lc' := [(0, va_rf (some t)), (2, .long ((0 : Int64))), (4, .int ((0 : Int32)))]) [1, 3, 0] 302 rfl (by decide +kernel) (by decide +kernel) rfl ?_
      exact h
    rw [if_neg c21] at h
    by_cases c22 : l1 = (3 : Int32)
    · rw [if_pos c22] at h
      have w8 : l1.toInt = 3 := by rw [c22]; decide +kernel
      refine at_tabIn (dflt := 113) (lo := 0) (hi := 3) (offs := #[31, 39, 46, 79]) (len := 31) (off := 79) 332 (by decide +kernel) (by rw [w8]; decide) (by rw [w8]; decide) (by rw [w8]; decide +kernel) (by decide +kernel) ?_
      refine at_iconst (n := 0) (0 : Int32) 333 rfl (by decide +kernel) (by decide +kernel) ?_
      refine at_istore (i := 4) (lc' := [(0, va_rf (some t)), (2, .long ((0 : Int64))), (4, .int ((0 : Int32)))]) [1, 3, 0] 335 rfl (by decide +kernel) (by decide +kernel) rfl ?_
      exact h
    rw [if_neg c22] at h
    have c9e : l1.toInt ≠ 0 := fun e => c9 (Int32.toInt_inj.mp (e.trans (by decide +kernel)))
    have c14e : l1.toInt ≠ 1 := fun e => c14 (Int32.toInt_inj.mp (e.trans (by decide +kernel)))
    have c21e : l1.toInt ≠ 2 := fun e => c21 (Int32.toInt_inj.mp (e.trans (by decide +kernel)))
    have c22e : l1.toInt ≠ 3 := fun e => c22 (Int32.toInt_inj.mp (e.trans (by decide +kernel)))
    refine at_tabOut (dflt := 113) (lo := 0) (hi := 3) (offs := #[31, 39, 46, 79]) (len := 31) 366 (by decide +kernel) (by omega) (by decide +kernel) ?_
    refine at_aload_n (i := 0) 0 367 rfl (by decide +kernel) rfl ?_
    refine at_iconst (n := 1) (1 : Int32) 368 rfl (by decide +kernel) (by decide +kernel) ?_
    refine at_callV mb_RF_frees tw_1465 tw_51 cok12 k1 (index := 359) tw_1463 [.int ((1 : Int32))] [] rfl rfl (by decide) 371 rfl (by decide +kernel) (Call.toI (CI.monoE h (fun x23 m24 h y25 => ?_)))
    have k26 : mK m24 t = 13 := y25.k k1 (by decide)
    have k27 : mK m24 b2 = 15 := y25.k k4 (by decide)
    have e28 : mR m24 t 31 = some b2 := y25.r k1 (by decide) rfl e3
    refine at_i2l 372 rfl (by decide +kernel) ?_
    exact at_lret rfl (by decide +kernel) h
  · rw [if_neg c7] at h
    refine at_iconst (n := 0) (0 : Int32) 152 rfl (by decide +kernel) (by decide +kernel) ?_
    refine at_istore_n (i := 2) (lc' := [(0, va_rf (some t)), (1, .int (l1)), (2, .int ((0 : Int32)))]) [1, 2, 0] 153 rfl (by decide +kernel) (by decide +kernel) rfl ?_
    exact h
set_option maxRecDepth 20000 in
set_option maxHeartbeats 4000000 in
theorem bk_RF_beside_82 (g : Gc) {lv : Nat} {t : Nat} {l1 : Int32} {l2 : Int32} {l3 : Int32} {l4 : Int32} {m : Mm} {Q : Int64 → Mm → Prop} (h : if ((3 : Int32)) ≤ (l4) then (mK m t = 13 ∧ (∃ b3, mR m t 37 = some b3 ∧ (mK m b3 = 15 ∧ (vp_in l3 (mN m b3) ∧ (∀ m7, m7 = sI m b3 l3.toNatClampNeg (0 : Int32) → (∃ b13, mR m7 t 38 = some b13 ∧ (mK m7 b13 = 16 ∧ (vp_in l3 (mN m7 b13) ∧ (∀ m17, m17 = sL m7 b13 l3.toNatClampNeg (0 : Int64) → (∃ b25, mR m17 t 39 = some b25 ∧ (mK m17 b25 = 16 ∧ (vp_in ((15 : Int32) + l2) (mN m17 b25) ∧ (∀ m29, m29 = sL m17 b25 ((15 : Int32) + l2).toNatClampNeg (0 : Int64) → (At g M_RF_beside (lv + 1) 56 [(0, va_rf (some t)), (1, .int (l1)), (2, .int (l2 + (1 : Int32)))] [] m29 (QJ Q))))))))))))))) else (mK m t = 13 ∧ (∃ b40, mR m t 36 = some b40 ∧ (mK m b40 = 15 ∧ (vp_in (((3 : Int32) * l3) + l4) (mN m b40) ∧ (∀ m44, m44 = sI m b40 (((3 : Int32) * l3) + l4).toNatClampNeg (0 : Int32) → (At g M_RF_beside (lv + 1) 82 [(0, va_rf (some t)), (1, .int (l1)), (2, .int (l2)), (3, .int (l3)), (4, .int (l4 + (1 : Int32)))] [] m44 (QJ Q)))))))) : At g M_RF_beside (lv + 1) 82 [(0, va_rf (some t)), (1, .int (l1)), (2, .int (l2)), (3, .int (l3)), (4, .int (l4))] [] m (QJ Q) := by
  refine at_iload (i := 4) 4 84 rfl (by decide +kernel) rfl ?_
  refine at_iconst (n := 3) (3 : Int32) 85 rfl (by decide +kernel) (by decide +kernel) ?_
  refine at_icmp_ge (off := 21) 106 88 rfl (by decide +kernel) (by decide +kernel) (fun c1 => ?_) (fun c1 => ?_)
  · rw [if_pos c1] at h
    refine at_aload_n (i := 0) 0 107 rfl (by decide +kernel) rfl ?_
    obtain ⟨k2, h⟩ := h
    refine at_get (index := 113) (v := va_rf (mR m t 37)) cok12 37 110 rfl (by decide +kernel) k2 (by decide +kernel) tw_1122 rfl ?_
    obtain ⟨b3, e4, h⟩ := h
    rw [e4]
    refine at_iload_n (i := 3) 3 111 rfl (by decide +kernel) rfl ?_
    refine at_iconst (n := 0) (0 : Int32) 112 rfl (by decide +kernel) (by decide +kernel) ?_
    obtain ⟨k5, h⟩ := h
    obtain ⟨v6, h⟩ := h
    refine at_iast 113 rfl (by decide +kernel) k5 v6 (fun m7 e8 => ?_)
    replace h := h m7 e8
    have x9 : Ext m m7 := by rw [e8]; exact Ext.sI _ _ _ _
    have k10 : mK m7 t = 13 := x9.k k2 (by decide)
    have k11 : mK m7 b3 = 15 := x9.k k5 (by decide)
    have e12 : mR m7 t 37 = some b3 := x9.r k2 (by decide) rfl e4
    refine at_aload_n (i := 0) 0 114 rfl (by decide +kernel) rfl ?_
    refine at_get (index := 116) (v := va_rf (mR m7 t 38)) cok12 38 117 rfl (by decide +kernel) k10 (by decide +kernel) tw_1123 rfl ?_
    obtain ⟨b13, e14, h⟩ := h
    rw [e14]
    refine at_iload_n (i := 3) 3 118 rfl (by decide +kernel) rfl ?_
    refine at_lconst (n := 0) (0 : Int64) 119 rfl (by decide +kernel) (by decide +kernel) ?_
    obtain ⟨k15, h⟩ := h
    obtain ⟨v16, h⟩ := h
    refine at_last 120 rfl (by decide +kernel) k15 v16 (fun m17 e18 => ?_)
    replace h := h m17 e18
    have x19 : Ext m7 m17 := by rw [e18]; exact Ext.sL _ _ _ _
    have k20 : mK m17 t = 13 := x19.k k10 (by decide)
    have k21 : mK m17 b3 = 15 := x19.k k11 (by decide)
    have k22 : mK m17 b13 = 16 := x19.k k15 (by decide)
    have e23 : mR m17 t 37 = some b3 := x19.r k10 (by decide) rfl e12
    have e24 : mR m17 t 38 = some b13 := x19.r k10 (by decide) rfl e14
    refine at_aload_n (i := 0) 0 121 rfl (by decide +kernel) rfl ?_
    refine at_get (index := 119) (v := va_rf (mR m17 t 39)) cok12 39 124 rfl (by decide +kernel) k20 (by decide +kernel) tw_1124 rfl ?_
    obtain ⟨b25, e26, h⟩ := h
    rw [e26]
    refine at_bipush (n := 15) (15 : Int32) 126 rfl (by decide +kernel) (by decide +kernel) ?_
    refine at_iload_n (i := 2) 2 127 rfl (by decide +kernel) rfl ?_
    refine at_iadd 128 rfl (by decide +kernel) ?_
    refine at_lconst (n := 0) (0 : Int64) 129 rfl (by decide +kernel) (by decide +kernel) ?_
    obtain ⟨k27, h⟩ := h
    obtain ⟨v28, h⟩ := h
    refine at_last 130 rfl (by decide +kernel) k27 v28 (fun m29 e30 => ?_)
    replace h := h m29 e30
    have x31 : Ext m17 m29 := by rw [e30]; exact Ext.sL _ _ _ _
    have k32 : mK m29 t = 13 := x31.k k20 (by decide)
    have k33 : mK m29 b3 = 15 := x31.k k21 (by decide)
    have k34 : mK m29 b13 = 16 := x31.k k22 (by decide)
    have k35 : mK m29 b25 = 16 := x31.k k27 (by decide)
    have e36 : mR m29 t 37 = some b3 := x31.r k20 (by decide) rfl e23
    have e37 : mR m29 t 38 = some b13 := x31.r k20 (by decide) rfl e24
    have e38 : mR m29 t 39 = some b25 := x31.r k20 (by decide) rfl e26
    refine at_iinc (i := 2) (n := 1) (lc' := [(0, va_rf (some t)), (1, .int (l1)), (2, .int (l2 + (1 : Int32)))]) (l2 + (1 : Int32)) 2 [1, 2, 0] 133 rfl (by decide +kernel) rfl (by rw [show Int32.ofInt 1 = (1 : Int32) from by decide +kernel]) (by decide +kernel) rfl ?_
    refine at_goto (off := (-77)) 56 (by decide +kernel) (by decide +kernel) ?_
    exact h
  · rw [if_neg c1] at h
    refine at_aload_n (i := 0) 0 89 rfl (by decide +kernel) rfl ?_
    obtain ⟨k39, h⟩ := h
    refine at_get (index := 110) (v := va_rf (mR m t 36)) cok12 36 92 rfl (by decide +kernel) k39 (by decide +kernel) tw_1121 rfl ?_
    obtain ⟨b40, e41, h⟩ := h
    rw [e41]
    refine at_iconst (n := 3) (3 : Int32) 93 rfl (by decide +kernel) (by decide +kernel) ?_
    refine at_iload_n (i := 3) 3 94 rfl (by decide +kernel) rfl ?_
    refine at_imul 95 rfl (by decide +kernel) ?_
    refine at_iload (i := 4) 4 97 rfl (by decide +kernel) rfl ?_
    refine at_iadd 98 rfl (by decide +kernel) ?_
    refine at_iconst (n := 0) (0 : Int32) 99 rfl (by decide +kernel) (by decide +kernel) ?_
    obtain ⟨k42, h⟩ := h
    obtain ⟨v43, h⟩ := h
    refine at_iast 100 rfl (by decide +kernel) k42 v43 (fun m44 e45 => ?_)
    replace h := h m44 e45
    have x46 : Ext m m44 := by rw [e45]; exact Ext.sI _ _ _ _
    have k47 : mK m44 t = 13 := x46.k k39 (by decide)
    have k48 : mK m44 b40 = 15 := x46.k k42 (by decide)
    have e49 : mR m44 t 36 = some b40 := x46.r k39 (by decide) rfl e41
    refine at_iinc (i := 4) (n := 1) (lc' := [(0, va_rf (some t)), (1, .int (l1)), (2, .int (l2)), (3, .int (l3)), (4, .int (l4 + (1 : Int32)))]) (l4 + (1 : Int32)) 4 [1, 2, 3, 4, 0] 103 rfl (by decide +kernel) rfl (by rw [show Int32.ofInt 1 = (1 : Int32) from by decide +kernel]) (by decide +kernel) rfl ?_
    refine at_goto (off := (-21)) 82 (by decide +kernel) (by decide +kernel) ?_
    exact h
set_option maxRecDepth 20000 in
set_option maxHeartbeats 4000000 in
theorem bk_RF_beside_56 (g : Gc) {lv : Nat} {t : Nat} {l1 : Int32} {l2 : Int32} {m : Mm} {Q : Int64 → Mm → Prop} (h : if ((12 : Int32)) ≤ (l2) then (At g M_RF_beside (lv + 1) 136 [(0, va_rf (some t)), (1, .int (l1))] [] m (QJ Q)) else (mK m t = 13 ∧ (∃ b3, mR m t 35 = some b3 ∧ (∃ b5, mR m t 21 = some b5 ∧ (mK m b5 = 15 ∧ (vp_in l2 (mN m b5) ∧ (mK m b3 = 15 ∧ (vp_in ((12 : Int32) + l2) (mN m b3) ∧ (∀ m11, m11 = sI m b3 ((12 : Int32) + l2).toNatClampNeg (mI m b5 l2.toNatClampNeg) → (At g M_RF_beside (lv + 1) 82 [(0, va_rf (some t)), (1, .int (l1)), (2, .int (l2)), (3, .int ((12 : Int32) + l2)), (4, .int ((0 : Int32)))] [] m11 (QJ Q))))))))))) : At g M_RF_beside (lv + 1) 56 [(0, va_rf (some t)), (1, .int (l1)), (2, .int (l2))] [] m (QJ Q) := by
  refine at_iload_n (i := 2) 2 57 rfl (by decide +kernel) rfl ?_
  refine at_bipush (n := 12) (12 : Int32) 59 rfl (by decide +kernel) (by decide +kernel) ?_
  refine at_icmp_ge (off := 77) 136 62 rfl (by decide +kernel) (by decide +kernel) (fun c1 => ?_) (fun c1 => ?_)
  · rw [if_pos c1] at h
    exact At.sub [0, 1] rfl h
  · rw [if_neg c1] at h
    refine at_bipush (n := 12) (12 : Int32) 64 rfl (by decide +kernel) (by decide +kernel) ?_
    refine at_iload_n (i := 2) 2 65 rfl (by decide +kernel) rfl ?_
    refine at_iadd 66 rfl (by decide +kernel) ?_
    refine at_istore_n (i := 3) (lc' := [(0, va_rf (some t)), (1, .int (l1)), (2, .int (l2)), (3, .int ((12 : Int32) + l2))]) [1, 2, 3, 0] 67 rfl (by decide +kernel) (by decide +kernel) rfl ?_
    refine at_aload_n (i := 0) 0 68 rfl (by decide +kernel) rfl ?_
    obtain ⟨k2, h⟩ := h
    refine at_get (index := 107) (v := va_rf (mR m t 35)) cok12 35 71 rfl (by decide +kernel) k2 (by decide +kernel) tw_1120 rfl ?_
    obtain ⟨b3, e4, h⟩ := h
    rw [e4]
    refine at_iload_n (i := 3) 3 72 rfl (by decide +kernel) rfl ?_
    refine at_aload_n (i := 0) 0 73 rfl (by decide +kernel) rfl ?_
    refine at_get (index := 64) (v := va_rf (mR m t 21)) cok12 21 76 rfl (by decide +kernel) k2 (by decide +kernel) tw_1106 rfl ?_
    obtain ⟨b5, e6, h⟩ := h
    rw [e6]
    refine at_iload_n (i := 2) 2 77 rfl (by decide +kernel) rfl ?_
    obtain ⟨k7, h⟩ := h
    obtain ⟨v8, h⟩ := h
    refine at_iald 78 rfl (by decide +kernel) k7 v8 ?_
    obtain ⟨k9, h⟩ := h
    obtain ⟨v10, h⟩ := h
    refine at_iast 79 rfl (by decide +kernel) k9 v10 (fun m11 e12 => ?_)
    replace h := h m11 e12
    have x13 : Ext m m11 := by rw [e12]; exact Ext.sI _ _ _ _
    have k14 : mK m11 t = 13 := x13.k k2 (by decide)
    have k15 : mK m11 b5 = 15 := x13.k k7 (by decide)
    have k16 : mK m11 b3 = 15 := x13.k k9 (by decide)
    have e17 : mR m11 t 35 = some b3 := x13.r k2 (by decide) rfl e4
    have e18 : mR m11 t 21 = some b5 := x13.r k2 (by decide) rfl e6
    refine at_iconst (n := 0) (0 : Int32) 80 rfl (by decide +kernel) (by decide +kernel) ?_
    refine at_istore (i := 4) (lc' := [(0, va_rf (some t)), (1, .int (l1)), (2, .int (l2)), (3, .int ((12 : Int32) + l2)), (4, .int ((0 : Int32)))]) [1, 2, 3, 4, 0] 82 rfl (by decide +kernel) (by decide +kernel) rfl ?_
    exact h
set_option maxRecDepth 20000 in
set_option maxHeartbeats 4000000 in
theorem en_RF_beside (g : Gc) {lv : Nat} {t : Nat} {l1 : Int32} {m : Mm} {Q : Int64 → Mm → Prop} (h : mK m t = 13 ∧ (∀ m2, m2 = sI m t 0 (0 : Int32) → (CI g M_RF_in lv [.long (l1.toInt64), .long ((0 : Int64)), .long ((4 : Int64))] m2 (fun x6 m7 => (if (x6) = 0 then (Q (-2 : Int64) m7) else (CI g M_RF_isLaw lv [va_rf (some t)] m7 (fun x11 m12 => (if (x11) = 0 then (Q (-4 : Int64) m12) else (∃ b16, mR m12 t 31 = some b16 ∧ (mK m12 b16 = 15 ∧ (vp_in (1 : Int32) (mN m12 b16) ∧ (∀ m20, m20 = sI m12 b16 (1 : Int32).toNatClampNeg (0 : Int32) → (∃ b26, mR m20 t 32 = some b26 ∧ (mK m20 b26 = 15 ∧ (vp_in (1 : Int32) (mN m20 b26) ∧ (∀ m30, m30 = sI m20 b26 (1 : Int32).toNatClampNeg (100 : Int32) → (∃ b38, mR m30 t 33 = some b38 ∧ (mK m30 b38 = 15 ∧ (vp_in (1 : Int32) (mN m30 b38) ∧ (∀ m42, m42 = sI m30 b38 (1 : Int32).toNatClampNeg (0 : Int32) → (At g M_RF_beside (lv + 1) 56 [(0, va_rf (some t)), (1, .int (l1)), (2, .int ((0 : Int32)))] [] m42 (QJ Q)))))))))))))))))))))) : CJ g M_RF_beside (lv + 1) [va_rf (some t), .int (l1)] m Q := by
  refine Call.of (by decide +kernel) (Nat.le_of_ble_eq_true rfl) ?_
  show At g M_RF_beside (lv + 1) 0 [(0, va_rf (some t)), (1, .int (l1))] [] m (QJ Q)
  refine at_aload_n (i := 0) 0 1 rfl (by decide +kernel) rfl ?_
  refine at_iconst (n := 0) (0 : Int32) 2 rfl (by decide +kernel) (by decide +kernel) ?_
  obtain ⟨k1, h⟩ := h
  refine at_putI (index := 149) cok12 0 5 rfl (by decide +kernel) k1 (by decide +kernel) tw_1085 rfl rfl rfl (fun m2 e3 => ?_)
  replace h := h m2 e3
  have x4 : Ext m m2 := by rw [e3]; exact Ext.sI _ _ _ _
  have k5 : mK m2 t = 13 := x4.k k1 (by decide)
  refine at_iload_n (i := 1) 1 6 rfl (by decide +kernel) rfl ?_
  refine at_i2l 7 rfl (by decide +kernel) ?_
  refine at_lconst (n := 0) (0 : Int64) 8 rfl (by decide +kernel) (by decide +kernel) ?_
  refine at_ldc2 (index := 414) (4 : Int64) 11 rfl (by decide +kernel) tw_1570 ?_
  refine at_callS mb_RF_in tw_1293 (index := 154) tw_1292 [.long (l1.toInt64), .long ((0 : Int64)), .long ((4 : Int64))] [] rfl rfl (by decide) 14 rfl (by decide +kernel) (Call.toI (CI.monoE h (fun x6 m7 h y8 => ?_)))
  have k9 : mK m7 t = 13 := y8.k k5 (by decide)
  refine at_if_ne (off := 7) 21 17 rfl (by decide +kernel) (by decide +kernel) (fun c10 => ?_) (fun c10 => ?_)
  · rw [if_neg c10] at h
    refine at_aload_n (i := 0) 0 22 rfl (by decide +kernel) rfl ?_
    refine at_callV mb_RF_isLaw tw_1344 tw_32 cok12 k9 (index := 333) tw_1342 [] [] rfl rfl (by decide) 25 rfl (by decide +kernel) (Call.toI (CI.monoE h (fun x11 m12 h y13 => ?_)))
    have k14 : mK m12 t = 13 := y13.k k9 (by decide)
    refine at_if_ne (off := 7) 32 28 rfl (by decide +kernel) (by decide +kernel) (fun c15 => ?_) (fun c15 => ?_)
    · rw [if_neg c15] at h
      refine at_aload_n (i := 0) 0 33 rfl (by decide +kernel) rfl ?_
      refine at_get (index := 95) (v := va_rf (mR m12 t 31)) cok12 31 36 rfl (by decide +kernel) k14 (by decide +kernel) tw_1116 rfl ?_
      obtain ⟨b16, e17, h⟩ := h
      rw [e17]
      refine at_iconst (n := 1) (1 : Int32) 37 rfl (by decide +kernel) (by decide +kernel) ?_
      refine at_iconst (n := 0) (0 : Int32) 38 rfl (by decide +kernel) (by decide +kernel) ?_
      obtain ⟨k18, h⟩ := h
      obtain ⟨v19, h⟩ := h
      refine at_iast 39 rfl (by decide +kernel) k18 v19 (fun m20 e21 => ?_)
      replace h := h m20 e21
      have x22 : Ext m12 m20 := by rw [e21]; exact Ext.sI _ _ _ _
      have k23 : mK m20 t = 13 := x22.k k14 (by decide)
      have k24 : mK m20 b16 = 15 := x22.k k18 (by decide)
      have e25 : mR m20 t 31 = some b16 := x22.r k14 (by decide) rfl e17
      refine at_aload_n (i := 0) 0 40 rfl (by decide +kernel) rfl ?_
      refine at_get (index := 98) (v := va_rf (mR m20 t 32)) cok12 32 43 rfl (by decide +kernel) k23 (by decide +kernel) tw_1117 rfl ?_
      obtain ⟨b26, e27, h⟩ := h
      rw [e27]
      refine at_iconst (n := 1) (1 : Int32) 44 rfl (by decide +kernel) (by decide +kernel) ?_
      refine at_bipush (n := 100) (100 : Int32) 46 rfl (by decide +kernel) (by decide +kernel) ?_
      obtain ⟨k28, h⟩ := h
      obtain ⟨v29, h⟩ := h
      refine at_iast 47 rfl (by decide +kernel) k28 v29 (fun m30 e31 => ?_)
      replace h := h m30 e31
      have x32 : Ext m20 m30 := by rw [e31]; exact Ext.sI _ _ _ _
      have k33 : mK m30 t = 13 := x32.k k23 (by decide)
      have k34 : mK m30 b16 = 15 := x32.k k24 (by decide)
      have k35 : mK m30 b26 = 15 := x32.k k28 (by decide)
      have e36 : mR m30 t 31 = some b16 := x32.r k23 (by decide) rfl e25
      have e37 : mR m30 t 32 = some b26 := x32.r k23 (by decide) rfl e27
      refine at_aload_n (i := 0) 0 48 rfl (by decide +kernel) rfl ?_
      refine at_get (index := 101) (v := va_rf (mR m30 t 33)) cok12 33 51 rfl (by decide +kernel) k33 (by decide +kernel) tw_1118 rfl ?_
      obtain ⟨b38, e39, h⟩ := h
      rw [e39]
      refine at_iconst (n := 1) (1 : Int32) 52 rfl (by decide +kernel) (by decide +kernel) ?_
      refine at_iconst (n := 0) (0 : Int32) 53 rfl (by decide +kernel) (by decide +kernel) ?_
      obtain ⟨k40, h⟩ := h
      obtain ⟨v41, h⟩ := h
      refine at_iast 54 rfl (by decide +kernel) k40 v41 (fun m42 e43 => ?_)
      replace h := h m42 e43
      have x44 : Ext m30 m42 := by rw [e43]; exact Ext.sI _ _ _ _
      have k45 : mK m42 t = 13 := x44.k k33 (by decide)
      have k46 : mK m42 b16 = 15 := x44.k k34 (by decide)
      have k47 : mK m42 b26 = 15 := x44.k k35 (by decide)
      have k48 : mK m42 b38 = 15 := x44.k k40 (by decide)
      have e49 : mR m42 t 31 = some b16 := x44.r k33 (by decide) rfl e36
      have e50 : mR m42 t 32 = some b26 := x44.r k33 (by decide) rfl e37
      have e51 : mR m42 t 33 = some b38 := x44.r k33 (by decide) rfl e39
      refine at_iconst (n := 0) (0 : Int32) 55 rfl (by decide +kernel) (by decide +kernel) ?_
      refine at_istore_n (i := 2) (lc' := [(0, va_rf (some t)), (1, .int (l1)), (2, .int ((0 : Int32)))]) [1, 2, 0] 56 rfl (by decide +kernel) (by decide +kernel) rfl ?_
      exact h
    · rw [if_pos c15] at h
      refine at_ldc2 (index := 416) (-4 : Int64) 31 rfl (by decide +kernel) tw_1571 ?_
      exact at_lret rfl (by decide +kernel) h
  · rw [if_pos c10] at h
    refine at_ldc2 (index := 391) (-2 : Int64) 20 rfl (by decide +kernel) tw_1521 ?_
    exact at_lret rfl (by decide +kernel) h
set_option maxRecDepth 20000 in
set_option maxHeartbeats 4000000 in
theorem bk_RF_ways_35 (g : Gc) {lv : Nat} {t : Nat} {l1 : Int32} {l2 : Int32} {l3 : Int32} {l4 : Int32} {m : Mm} {Q : Int64 → Mm → Prop} (h : if (l4) ≤ 0 then (At g M_RF_ways (lv + 1) 20 [(0, va_rf (some t)), (1, .int (l1)), (2, .int (l2)), (3, .int (l3 + (1 : Int32)))] [] m (QJ Q)) else (mK m t = 13 ∧ (∃ b3, mR m t 65 = some b3 ∧ (mK m b3 = 16 ∧ (vp_in l4 (mN m b3) ∧ (vp_in (l4 - (1 : Int32)) (mN m b3) ∧ (vp_in l4 (mN m b3) ∧ (∀ m9, m9 = sL m b3 l4.toNatClampNeg ((mL m b3 l4.toNatClampNeg) + (mL m b3 (l4 - (1 : Int32)).toNatClampNeg)) → (At g M_RF_ways (lv + 1) 35 [(0, va_rf (some t)), (1, .int (l1)), (2, .int (l2)), (3, .int (l3)), (4, .int (l4 + (-1 : Int32)))] [] m9 (QJ Q)))))))))) : At g M_RF_ways (lv + 1) 35 [(0, va_rf (some t)), (1, .int (l1)), (2, .int (l2)), (3, .int (l3)), (4, .int (l4))] [] m (QJ Q) := by
  refine at_iload (i := 4) 4 37 rfl (by decide +kernel) rfl ?_
  refine at_if_le (off := 28) 65 40 rfl (by decide +kernel) (by decide +kernel) (fun c1 => ?_) (fun c1 => ?_)
  · rw [if_pos c1] at h
    refine at_iinc (i := 3) (n := 1) (lc' := [(0, va_rf (some t)), (1, .int (l1)), (2, .int (l2)), (3, .int (l3 + (1 : Int32)))]) (l3 + (1 : Int32)) 3 [1, 2, 3, 0] 68 rfl (by decide +kernel) rfl (by rw [show Int32.ofInt 1 = (1 : Int32) from by decide +kernel]) (by decide +kernel) rfl ?_
    refine at_goto (off := (-48)) 20 (by decide +kernel) (by decide +kernel) ?_
    exact h
  · rw [if_neg c1] at h
    refine at_aload_n (i := 0) 0 41 rfl (by decide +kernel) rfl ?_
    obtain ⟨k2, h⟩ := h
    refine at_get (index := 146) (v := va_rf (mR m t 65)) cok12 65 44 rfl (by decide +kernel) k2 (by decide +kernel) tw_1150 rfl ?_
    obtain ⟨b3, e4, h⟩ := h
    rw [e4]
    refine at_iload (i := 4) 4 46 rfl (by decide +kernel) rfl ?_
    refine at_dup2_11 47 rfl (by decide +kernel) rfl (va_rf_cat _) ?_
    obtain ⟨k5, h⟩ := h
    obtain ⟨v6, h⟩ := h
    refine at_lald 48 rfl (by decide +kernel) k5 v6 ?_
    refine at_aload_n (i := 0) 0 49 rfl (by decide +kernel) rfl ?_
    refine at_get (index := 146) (v := va_rf (mR m t 65)) cok12 65 52 rfl (by decide +kernel) k2 (by decide +kernel) tw_1150 rfl ?_
    rw [e4]
    refine at_iload (i := 4) 4 54 rfl (by decide +kernel) rfl ?_
    refine at_iconst (n := 1) (1 : Int32) 55 rfl (by decide +kernel) (by decide +kernel) ?_
    refine at_isub 56 rfl (by decide +kernel) ?_
    obtain ⟨v7, h⟩ := h
    refine at_lald 57 rfl (by decide +kernel) k5 v7 ?_
    refine at_ladd 58 rfl (by decide +kernel) ?_
    obtain ⟨v8, h⟩ := h
    refine at_last 59 rfl (by decide +kernel) k5 v8 (fun m9 e10 => ?_)
    replace h := h m9 e10
    have x11 : Ext m m9 := by rw [e10]; exact Ext.sL _ _ _ _
    have k12 : mK m9 t = 13 := x11.k k2 (by decide)
    have k13 : mK m9 b3 = 16 := x11.k k5 (by decide)
    have e14 : mR m9 t 65 = some b3 := x11.r k2 (by decide) rfl e4
    refine at_iinc (i := 4) (n := (-1)) (lc' := [(0, va_rf (some t)), (1, .int (l1)), (2, .int (l2)), (3, .int (l3)), (4, .int (l4 + (-1 : Int32)))]) (l4 + (-1 : Int32)) 4 [1, 2, 3, 4, 0] 62 rfl (by decide +kernel) rfl (by rw [show Int32.ofInt (-1) = (-1 : Int32) from by decide +kernel]) (by decide +kernel) rfl ?_
    refine at_goto (off := (-27)) 35 (by decide +kernel) (by decide +kernel) ?_
    exact h
set_option maxRecDepth 20000 in
set_option maxHeartbeats 4000000 in
theorem bk_RF_ways_20 (g : Gc) {lv : Nat} {t : Nat} {l1 : Int32} {l2 : Int32} {l3 : Int32} {m : Mm} {Q : Int64 → Mm → Prop} (h : if (l1) < (l3) then (mK m t = 13 ∧ (∃ b3, mR m t 65 = some b3 ∧ (mK m b3 = 16 ∧ (vp_in l2 (mN m b3) ∧ (Q (mL m b3 l2.toNatClampNeg) m))))) else (mK m t = 13 ∧ (∃ b8, mR m t 65 = some b8 ∧ (mK m b8 = 16 ∧ (vp_in l3 (mN m b8) ∧ (∀ m12, m12 = sL m b8 l3.toNatClampNeg (0 : Int64) → (At g M_RF_ways (lv + 1) 35 [(0, va_rf (some t)), (1, .int (l1)), (2, .int (l2)), (3, .int (l3)), (4, .int (l3))] [] m12 (QJ Q)))))))) : At g M_RF_ways (lv + 1) 20 [(0, va_rf (some t)), (1, .int (l1)), (2, .int (l2)), (3, .int (l3))] [] m (QJ Q) := by
  refine at_iload_n (i := 3) 3 21 rfl (by decide +kernel) rfl ?_
  refine at_iload_n (i := 1) 1 22 rfl (by decide +kernel) rfl ?_
  refine at_icmp_gt (off := 49) 71 25 rfl (by decide +kernel) (by decide +kernel) (fun c1 => ?_) (fun c1 => ?_)
  · rw [if_pos c1] at h
    refine at_aload_n (i := 0) 0 72 rfl (by decide +kernel) rfl ?_
    obtain ⟨k2, h⟩ := h
    refine at_get (index := 146) (v := va_rf (mR m t 65)) cok12 65 75 rfl (by decide +kernel) k2 (by decide +kernel) tw_1150 rfl ?_
    obtain ⟨b3, e4, h⟩ := h
    rw [e4]
    refine at_iload_n (i := 2) 2 76 rfl (by decide +kernel) rfl ?_
    obtain ⟨k5, h⟩ := h
    obtain ⟨v6, h⟩ := h
    refine at_lald 77 rfl (by decide +kernel) k5 v6 ?_
    exact at_lret rfl (by decide +kernel) h
  · rw [if_neg c1] at h
    refine at_aload_n (i := 0) 0 26 rfl (by decide +kernel) rfl ?_
    obtain ⟨k7, h⟩ := h
    refine at_get (index := 146) (v := va_rf (mR m t 65)) cok12 65 29 rfl (by decide +kernel) k7 (by decide +kernel) tw_1150 rfl ?_
    obtain ⟨b8, e9, h⟩ := h
    rw [e9]
    refine at_iload_n (i := 3) 3 30 rfl (by decide +kernel) rfl ?_
    refine at_lconst (n := 0) (0 : Int64) 31 rfl (by decide +kernel) (by decide +kernel) ?_
    obtain ⟨k10, h⟩ := h
    obtain ⟨v11, h⟩ := h
    refine at_last 32 rfl (by decide +kernel) k10 v11 (fun m12 e13 => ?_)
    replace h := h m12 e13
    have x14 : Ext m m12 := by rw [e13]; exact Ext.sL _ _ _ _
    have k15 : mK m12 t = 13 := x14.k k7 (by decide)
    have k16 : mK m12 b8 = 16 := x14.k k10 (by decide)
    have e17 : mR m12 t 65 = some b8 := x14.r k7 (by decide) rfl e9
    refine at_iload_n (i := 3) 3 33 rfl (by decide +kernel) rfl ?_
    refine at_istore (i := 4) (lc' := [(0, va_rf (some t)), (1, .int (l1)), (2, .int (l2)), (3, .int (l3)), (4, .int (l3))]) [1, 2, 3, 4, 0] 35 rfl (by decide +kernel) (by decide +kernel) rfl ?_
    exact h
set_option maxRecDepth 20000 in
set_option maxHeartbeats 4000000 in
theorem en_RF_ways (g : Gc) {lv : Nat} {t : Nat} {l1 : Int32} {l2 : Int32} {m : Mm} {Q : Int64 → Mm → Prop} (h : if (l2) < 0 then (Q (0 : Int64) m) else (if (l2) ≤ (l1) then (mK m t = 13 ∧ (∃ b4, mR m t 65 = some b4 ∧ (mK m b4 = 16 ∧ (vp_in (0 : Int32) (mN m b4) ∧ (∀ m8, m8 = sL m b4 (0 : Int32).toNatClampNeg (1 : Int64) → (At g M_RF_ways (lv + 1) 20 [(0, va_rf (some t)), (1, .int (l1)), (2, .int (l2)), (3, .int ((1 : Int32)))] [] m8 (QJ Q))))))) else (Q (0 : Int64) m))) : CJ g M_RF_ways (lv + 1) [va_rf (some t), .int (l1), .int (l2)] m Q := by
  refine Call.of (by decide +kernel) (Nat.le_of_ble_eq_true rfl) ?_
  show At g M_RF_ways (lv + 1) 0 [(0, va_rf (some t)), (1, .int (l1)), (2, .int (l2))] [] m (QJ Q)
  refine at_iload_n (i := 2) 2 1 rfl (by decide +kernel) rfl ?_
  refine at_if_lt (off := 8) 9 4 rfl (by decide +kernel) (by decide +kernel) (fun c1 => ?_) (fun c1 => ?_)
  · rw [if_pos c1] at h
    refine at_lconst (n := 0) (0 : Int64) 10 rfl (by decide +kernel) (by decide +kernel) ?_
    exact at_lret rfl (by decide +kernel) h
  · rw [if_neg c1] at h
    refine at_iload_n (i := 2) 2 5 rfl (by decide +kernel) rfl ?_
    refine at_iload_n (i := 1) 1 6 rfl (by decide +kernel) rfl ?_
    refine at_icmp_le (off := 5) 11 9 rfl (by decide +kernel) (by decide +kernel) (fun c2 => ?_) (fun c2 => ?_)
    · rw [if_pos c2] at h
      refine at_aload_n (i := 0) 0 12 rfl (by decide +kernel) rfl ?_
      obtain ⟨k3, h⟩ := h
      refine at_get (index := 146) (v := va_rf (mR m t 65)) cok12 65 15 rfl (by decide +kernel) k3 (by decide +kernel) tw_1150 rfl ?_
      obtain ⟨b4, e5, h⟩ := h
      rw [e5]
      refine at_iconst (n := 0) (0 : Int32) 16 rfl (by decide +kernel) (by decide +kernel) ?_
      refine at_lconst (n := 1) (1 : Int64) 17 rfl (by decide +kernel) (by decide +kernel) ?_
      obtain ⟨k6, h⟩ := h
      obtain ⟨v7, h⟩ := h
      refine at_last 18 rfl (by decide +kernel) k6 v7 (fun m8 e9 => ?_)
      replace h := h m8 e9
      have x10 : Ext m m8 := by rw [e9]; exact Ext.sL _ _ _ _
      have k11 : mK m8 t = 13 := x10.k k3 (by decide)
      have k12 : mK m8 b4 = 16 := x10.k k6 (by decide)
      have e13 : mR m8 t 65 = some b4 := x10.r k3 (by decide) rfl e5
      refine at_iconst (n := 1) (1 : Int32) 19 rfl (by decide +kernel) (by decide +kernel) ?_
      refine at_istore_n (i := 3) (lc' := [(0, va_rf (some t)), (1, .int (l1)), (2, .int (l2)), (3, .int ((1 : Int32)))]) [1, 2, 3, 0] 20 rfl (by decide +kernel) (by decide +kernel) rfl ?_
      exact h
    · rw [if_neg c2] at h
      refine at_lconst (n := 0) (0 : Int64) 10 rfl (by decide +kernel) (by decide +kernel) ?_
      exact at_lret rfl (by decide +kernel) h
set_option maxRecDepth 20000 in
set_option maxHeartbeats 4000000 in
theorem bk_RF_isNear_27 (g : Gc) {lv : Nat} {t : Nat} {l1 : Int32} {l2 : Int32} {l3 : Int32} {l4 : Int32} {l5 : Int32} {l6 : Int64} {l8 : Int32} {s0 : Int32} {s1 : Int32} {m : Mm} {Q : Int32 → Mm → Prop} (h : if (s1) < (s0) then (mK m t = 13 ∧ (CJ g M_RF_ways lv [va_rf (some t), .int (l1), .int (l2)] m (fun x3 m4 => (if ((20 : Int64) * l6) < (x3) then (Q (0 : Int32) m4) else (Q (1 : Int32) m4))))) else (mK m t = 13 ∧ (CJ g M_RF_ways lv [va_rf (some t), .int (l5), .int (l8)] m (fun x9 m10 => (CJ g M_RF_ways lv [va_rf (some t), .int (l1 - l5), .int (l2 - l8)] m10 (fun x13 m14 => (At g M_RF_isNear (lv + 1) 15 [(0, va_rf (some t)), (1, .int (l1)), (2, .int (l2)), (3, .int (l3)), (4, .int (l4)), (5, .int (l5)), (6, .long (l6 + (x9 * x13))), (8, .int (l8 + (1 : Int32)))] [] m14 (QI Q)))))))) : At g M_RF_isNear (lv + 1) 27 [(0, va_rf (some t)), (1, .int (l1)), (2, .int (l2)), (3, .int (l3)), (4, .int (l4)), (5, .int (l5)), (6, .long (l6)), (8, .int (l8))] [.int (s1), .int (s0)] m (QI Q) := by
  refine at_icmp_gt (off := 35) 62 30 rfl (by decide +kernel) (by decide +kernel) (fun c1 => ?_) (fun c1 => ?_)
  · rw [if_pos c1] at h
    refine at_ldc2 (index := 422) (20 : Int64) 65 rfl (by decide +kernel) tw_1585 ?_
    refine at_lload (i := 6) 6 67 rfl (by decide +kernel) rfl ?_
    refine at_lmul 68 rfl (by decide +kernel) ?_
    refine at_aload_n (i := 0) 0 69 rfl (by decide +kernel) rfl ?_
    refine at_iload_n (i := 1) 1 70 rfl (by decide +kernel) rfl ?_
    refine at_iload_n (i := 2) 2 71 rfl (by decide +kernel) rfl ?_
    obtain ⟨k2, h⟩ := h
    refine at_callV mb_RF_ways tw_1583 tw_63 cok12 k2 (index := 418) tw_1581 [.int (l1), .int (l2)] [.long ((20 : Int64) * l6)] rfl rfl (by simp [va_rf_cat, cat_int, cat_long]) 74 rfl (by decide +kernel) (Call.toJ (CJ.monoE h (fun x3 m4 h y5 => ?_)))
    have k6 : mK m4 t = 13 := y5.k k2 (by decide)
    refine at_lif_lt (off := 7) 75 82 78 rfl rfl (by decide +kernel) (by decide +kernel) (by decide +kernel) (fun c7 => ?_) (fun c7 => ?_)
    · rw [if_pos c7] at h
      refine at_iconst (n := 0) (0 : Int32) 83 rfl (by decide +kernel) (by decide +kernel) ?_
      exact at_zret rfl (by decide +kernel) (Or.inl rfl) h
    · rw [if_neg c7] at h
      refine at_iconst (n := 1) (1 : Int32) 79 rfl (by decide +kernel) (by decide +kernel) ?_
      refine at_goto (off := 4) 83 (by decide +kernel) (by decide +kernel) ?_
      exact at_zret rfl (by decide +kernel) (Or.inr rfl) h
  · rw [if_neg c1] at h
    refine at_lload (i := 6) 6 32 rfl (by decide +kernel) rfl ?_
    refine at_aload_n (i := 0) 0 33 rfl (by decide +kernel) rfl ?_
    refine at_iload (i := 5) 5 35 rfl (by decide +kernel) rfl ?_
    refine at_iload (i := 8) 7 37 rfl (by decide +kernel) rfl ?_
    obtain ⟨k8, h⟩ := h
    refine at_callV mb_RF_ways tw_1583 tw_63 cok12 k8 (index := 418) tw_1581 [.int (l5), .int (l8)] [.long (l6)] rfl rfl (by simp [va_rf_cat, cat_int, cat_long]) 40 rfl (by decide +kernel) (Call.toJ (CJ.monoE h (fun x9 m10 h y11 => ?_)))
    have k12 : mK m10 t = 13 := y11.k k8 (by decide)
    refine at_aload_n (i := 0) 0 41 rfl (by decide +kernel) rfl ?_
    refine at_iload_n (i := 1) 1 42 rfl (by decide +kernel) rfl ?_
    refine at_iload (i := 5) 5 44 rfl (by decide +kernel) rfl ?_
    refine at_isub 45 rfl (by decide +kernel) ?_
    refine at_iload_n (i := 2) 2 46 rfl (by decide +kernel) rfl ?_
    refine at_iload (i := 8) 7 48 rfl (by decide +kernel) rfl ?_
    refine at_isub 49 rfl (by decide +kernel) ?_
    refine at_callV mb_RF_ways tw_1583 tw_63 cok12 k12 (index := 418) tw_1581 [.int (l1 - l5), .int (l2 - l8)] [.long (x9), .long (l6)] rfl rfl (by simp [va_rf_cat, cat_int, cat_long]) 52 rfl (by decide +kernel) (Call.toJ (CJ.monoE h (fun x13 m14 h y15 => ?_)))
    have k16 : mK m14 t = 13 := y15.k k12 (by decide)
    refine at_lmul 53 rfl (by decide +kernel) ?_
    refine at_ladd 54 rfl (by decide +kernel) ?_
    refine at_lstore (i := 6) (lc' := [(0, va_rf (some t)), (1, .int (l1)), (2, .int (l2)), (3, .int (l3)), (4, .int (l4)), (5, .int (l5)), (6, .long (l6 + (x9 * x13))), (8, .int (l8))]) [1, 2, 3, 4, 5, 6, 0, 7] 56 rfl (by decide +kernel) (by decide +kernel) rfl ?_
    refine at_iinc (i := 8) (n := 1) (lc' := [(0, va_rf (some t)), (1, .int (l1)), (2, .int (l2)), (3, .int (l3)), (4, .int (l4)), (5, .int (l5)), (6, .long (l6 + (x9 * x13))), (8, .int (l8 + (1 : Int32)))]) (l8 + (1 : Int32)) 7 [1, 2, 3, 4, 5, 6, 7, 0] 59 rfl (by decide +kernel) rfl (by rw [show Int32.ofInt 1 = (1 : Int32) from by decide +kernel]) (by decide +kernel) rfl ?_
    refine at_goto (off := (-44)) 15 (by decide +kernel) (by decide +kernel) ?_
    exact h
set_option maxRecDepth 20000 in
set_option maxHeartbeats 4000000 in
theorem bk_RF_isNear_15 (g : Gc) {lv : Nat} {t : Nat} {l1 : Int32} {l2 : Int32} {l3 : Int32} {l4 : Int32} {l5 : Int32} {l6 : Int64} {l8 : Int32} {m : Mm} {Q : Int32 → Mm → Prop} (h : if (l4) = 0 then (At g M_RF_isNear (lv + 1) 27 [(0, va_rf (some t)), (1, .int (l1)), (2, .int (l2)), (3, .int (l3)), (4, .int (l4)), (5, .int (l5)), (6, .long (l6)), (8, .int (l8))] [.int (l2), .int (l8)] m (QI Q)) else (At g M_RF_isNear (lv + 1) 27 [(0, va_rf (some t)), (1, .int (l1)), (2, .int (l2)), (3, .int (l3)), (4, .int (l4)), (5, .int (l5)), (6, .long (l6)), (8, .int (l8))] [.int (l3), .int (l8)] m (QI Q))) : At g M_RF_isNear (lv + 1) 15 [(0, va_rf (some t)), (1, .int (l1)), (2, .int (l2)), (3, .int (l3)), (4, .int (l4)), (5, .int (l5)), (6, .long (l6)), (8, .int (l8))] [] m (QI Q) := by
  refine at_iload (i := 8) 7 17 rfl (by decide +kernel) rfl ?_
  refine at_iload (i := 4) 4 19 rfl (by decide +kernel) rfl ?_
  refine at_if_ne (off := 7) 26 22 rfl (by decide +kernel) (by decide +kernel) (fun c1 => ?_) (fun c1 => ?_)
  · rw [if_neg c1] at h
    refine at_iload_n (i := 3) 3 27 rfl (by decide +kernel) rfl ?_
    exact h
  · rw [if_pos c1] at h
    refine at_iload_n (i := 2) 2 23 rfl (by decide +kernel) rfl ?_
    refine at_goto (off := 4) 27 (by decide +kernel) (by decide +kernel) ?_
    exact h
set_option maxRecDepth 20000 in
set_option maxHeartbeats 4000000 in
theorem en_RF_isNear (g : Gc) {lv : Nat} {t : Nat} {l1 : Int32} {l2 : Int32} {l3 : Int32} {l4 : Int32} {l5 : Int32} {m : Mm} {Q : Int32 → Mm → Prop} (h : if (l4) = 0 then (At g M_RF_isNear (lv + 1) 15 [(0, va_rf (some t)), (1, .int (l1)), (2, .int (l2)), (3, .int (l3)), (4, .int (l4)), (5, .int (l5)), (6, .long ((0 : Int64))), (8, .int (l3))] [] m (QI Q)) else (At g M_RF_isNear (lv + 1) 15 [(0, va_rf (some t)), (1, .int (l1)), (2, .int (l2)), (3, .int (l3)), (4, .int (l4)), (5, .int (l5)), (6, .long ((0 : Int64))), (8, .int ((0 : Int32)))] [] m (QI Q))) : CI g M_RF_isNear (lv + 1) [va_rf (some t), .int (l1), .int (l2), .int (l3), .int (l4), .int (l5)] m Q := by
  refine Call.of (by decide +kernel) (Nat.le_of_ble_eq_true rfl) ?_
  show At g M_RF_isNear (lv + 1) 0 [(0, va_rf (some t)), (1, .int (l1)), (2, .int (l2)), (3, .int (l3)), (4, .int (l4)), (5, .int (l5))] [] m (QI Q)
  refine at_lconst (n := 0) (0 : Int64) 1 rfl (by decide +kernel) (by decide +kernel) ?_
  refine at_lstore (i := 6) (lc' := [(0, va_rf (some t)), (1, .int (l1)), (2, .int (l2)), (3, .int (l3)), (4, .int (l4)), (5, .int (l5)), (6, .long ((0 : Int64)))]) [1, 2, 3, 4, 5, 6, 0] 3 rfl (by decide +kernel) (by decide +kernel) rfl ?_
  refine at_iload (i := 4) 4 5 rfl (by decide +kernel) rfl ?_
  refine at_if_ne (off := 7) 12 8 rfl (by decide +kernel) (by decide +kernel) (fun c1 => ?_) (fun c1 => ?_)
  · rw [if_neg c1] at h
    refine at_iconst (n := 0) (0 : Int32) 13 rfl (by decide +kernel) (by decide +kernel) ?_
    refine at_istore (i := 8) (lc' := [(0, va_rf (some t)), (1, .int (l1)), (2, .int (l2)), (3, .int (l3)), (4, .int (l4)), (5, .int (l5)), (6, .long ((0 : Int64))), (8, .int ((0 : Int32)))]) [1, 2, 3, 4, 5, 6, 7, 0] 15 rfl (by decide +kernel) (by decide +kernel) rfl ?_
    exact h
  · rw [if_pos c1] at h
    refine at_iload_n (i := 3) 3 9 rfl (by decide +kernel) rfl ?_
    refine at_goto (off := 4) 13 (by decide +kernel) (by decide +kernel) ?_
    refine at_istore (i := 8) (lc' := [(0, va_rf (some t)), (1, .int (l1)), (2, .int (l2)), (3, .int (l3)), (4, .int (l4)), (5, .int (l5)), (6, .long ((0 : Int64))), (8, .int (l3))]) [1, 2, 3, 4, 5, 6, 7, 0] 15 rfl (by decide +kernel) (by decide +kernel) rfl ?_
    exact h
set_option maxRecDepth 20000 in
set_option maxHeartbeats 4000000 in
theorem bk_RF_light_65 (g : Gc) {lv : Nat} {t : Nat} {l1 : Int32} {l2 : Int32} {l3 : Int32} {l4 : Int32} {l5 : Int32} {m : Mm} {Q : Int32 → Mm → Prop} (h : mK m t = 13 ∧ (CI g M_RF_isNear lv [va_rf (some t), .int (l1), .int (l2), .int (l3), .int (l4), .int (l5)] m (fun x2 m3 => (if (x2) = 0 then (if (l4) = 0 then (At g M_RF_light (lv + 1) 65 [(0, va_rf (some t)), (1, .int (l1)), (2, .int (l2)), (3, .int (l3)), (4, .int (l4)), (5, .int (l5 + (1 : Int32)))] [] m3 (QI Q)) else (At g M_RF_light (lv + 1) 65 [(0, va_rf (some t)), (1, .int (l1)), (2, .int (l2)), (3, .int (l3)), (4, .int (l4)), (5, .int (l5 + (-1 : Int32)))] [] m3 (QI Q))) else (Q l5 m3))))) : At g M_RF_light (lv + 1) 65 [(0, va_rf (some t)), (1, .int (l1)), (2, .int (l2)), (3, .int (l3)), (4, .int (l4)), (5, .int (l5))] [] m (QI Q) := by
  refine at_aload_n (i := 0) 0 66 rfl (by decide +kernel) rfl ?_
  refine at_iload_n (i := 1) 1 67 rfl (by decide +kernel) rfl ?_
  refine at_iload_n (i := 2) 2 68 rfl (by decide +kernel) rfl ?_
  refine at_iload_n (i := 3) 3 69 rfl (by decide +kernel) rfl ?_
  refine at_iload (i := 4) 4 71 rfl (by decide +kernel) rfl ?_
  refine at_iload (i := 5) 5 73 rfl (by decide +kernel) rfl ?_
  obtain ⟨k1, h⟩ := h
  refine at_callV mb_RF_isNear tw_1579 tw_62 cok12 k1 (index := 426) tw_1577 [.int (l1), .int (l2), .int (l3), .int (l4), .int (l5)] [] rfl rfl (by decide) 76 rfl (by decide +kernel) (Call.toI (CI.monoE h (fun x2 m3 h y4 => ?_)))
  have k5 : mK m3 t = 13 := y4.k k1 (by decide)
  refine at_if_ne (off := 21) 97 79 rfl (by decide +kernel) (by decide +kernel) (fun c6 => ?_) (fun c6 => ?_)
  · rw [if_neg c6] at h
    refine at_iload (i := 5) 5 99 rfl (by decide +kernel) rfl ?_
    exact at_iret rfl (by decide +kernel) h
  · rw [if_pos c6] at h
    refine at_iload (i := 5) 5 81 rfl (by decide +kernel) rfl ?_
    refine at_iload (i := 4) 4 83 rfl (by decide +kernel) rfl ?_
    refine at_if_ne (off := 7) 90 86 rfl (by decide +kernel) (by decide +kernel) (fun c7 => ?_) (fun c7 => ?_)
    · rw [if_neg c7] at h
      refine at_iconst (n := (-1)) (-1 : Int32) 91 rfl (by decide +kernel) (by decide +kernel) ?_
      refine at_iadd 92 rfl (by decide +kernel) ?_
      refine at_istore (i := 5) (lc' := [(0, va_rf (some t)), (1, .int (l1)), (2, .int (l2)), (3, .int (l3)), (4, .int (l4)), (5, .int (l5 + (-1 : Int32)))]) [1, 2, 3, 4, 5, 0] 94 rfl (by decide +kernel) (by decide +kernel) rfl ?_
      refine at_goto (off := (-29)) 65 (by decide +kernel) (by decide +kernel) ?_
      exact h
    · rw [if_pos c7] at h
      refine at_iconst (n := 1) (1 : Int32) 87 rfl (by decide +kernel) (by decide +kernel) ?_
      refine at_goto (off := 4) 91 (by decide +kernel) (by decide +kernel) ?_
      refine at_iadd 92 rfl (by decide +kernel) ?_
      refine at_istore (i := 5) (lc' := [(0, va_rf (some t)), (1, .int (l1)), (2, .int (l2)), (3, .int (l3)), (4, .int (l4)), (5, .int (l5 + (1 : Int32)))]) [1, 2, 3, 4, 5, 0] 94 rfl (by decide +kernel) (by decide +kernel) rfl ?_
      refine at_goto (off := (-29)) 65 (by decide +kernel) (by decide +kernel) ?_
      exact h
set_option maxRecDepth 20000 in
set_option maxHeartbeats 4000000 in
theorem en_RF_light (g : Gc) {lv : Nat} {t : Nat} {l1 : Int32} {l2 : Int32} {l3 : Int32} {l4 : Int32} {m : Mm} {Q : Int32 → Mm → Prop} (h : mK m t = 13 ∧ (∀ m2, m2 = sI m t 0 (0 : Int32) → (CI g M_RF_in lv [.long (l1.toInt64), .long ((1 : Int64)), .long ((60 : Int64))] m2 (fun x6 m7 => (if (x6) = 0 then (Q (-2 : Int32) m7) else (CI g M_RF_in lv [.long (l2.toInt64), .long ((0 : Int64)), .long (l1.toInt64)] m7 (fun x11 m12 => (if (x11) = 0 then (Q (-2 : Int32) m12) else (CI g M_RF_in lv [.long (l3.toInt64), .long ((0 : Int64)), .long (l2.toInt64)] m12 (fun x16 m17 => (if (x16) = 0 then (Q (-2 : Int32) m17) else (CI g M_RF_in lv [.long (l4.toInt64), .long ((0 : Int64)), .long ((1 : Int64))] m17 (fun x21 m22 => (if (x21) = 0 then (Q (-2 : Int32) m22) else (if (l4) = 0 then (At g M_RF_light (lv + 1) 65 [(0, va_rf (some t)), (1, .int (l1)), (2, .int (l2)), (3, .int (l3)), (4, .int (l4)), (5, .int ((0 : Int32)))] [] m22 (QI Q)) else (At g M_RF_light (lv + 1) 65 [(0, va_rf (some t)), (1, .int (l1)), (2, .int (l2)), (3, .int (l3)), (4, .int (l4)), (5, .int (l1))] [] m22 (QI Q))))))))))))))))) : CI g M_RF_light (lv + 1) [va_rf (some t), .int (l1), .int (l2), .int (l3), .int (l4)] m Q := by
  refine Call.of (by decide +kernel) (Nat.le_of_ble_eq_true rfl) ?_
  show At g M_RF_light (lv + 1) 0 [(0, va_rf (some t)), (1, .int (l1)), (2, .int (l2)), (3, .int (l3)), (4, .int (l4))] [] m (QI Q)
  refine at_aload_n (i := 0) 0 1 rfl (by decide +kernel) rfl ?_
  refine at_iconst (n := 0) (0 : Int32) 2 rfl (by decide +kernel) (by decide +kernel) ?_
  obtain ⟨k1, h⟩ := h
  refine at_putI (index := 149) cok12 0 5 rfl (by decide +kernel) k1 (by decide +kernel) tw_1085 rfl rfl rfl (fun m2 e3 => ?_)
  replace h := h m2 e3
  have x4 : Ext m m2 := by rw [e3]; exact Ext.sI _ _ _ _
  have k5 : mK m2 t = 13 := x4.k k1 (by decide)
  refine at_iload_n (i := 1) 1 6 rfl (by decide +kernel) rfl ?_
  refine at_i2l 7 rfl (by decide +kernel) ?_
  refine at_lconst (n := 1) (1 : Int64) 8 rfl (by decide +kernel) (by decide +kernel) ?_
  refine at_ldc2 (index := 424) (60 : Int64) 11 rfl (by decide +kernel) tw_1576 ?_
  refine at_callS mb_RF_in tw_1293 (index := 154) tw_1292 [.long (l1.toInt64), .long ((1 : Int64)), .long ((60 : Int64))] [] rfl rfl (by decide) 14 rfl (by decide +kernel) (Call.toI (CI.monoE h (fun x6 m7 h y8 => ?_)))
  have k9 : mK m7 t = 13 := y8.k k5 (by decide)
  refine at_if_eq (off := 36) 50 17 rfl (by decide +kernel) (by decide +kernel) (fun c10 => ?_) (fun c10 => ?_)
  · rw [if_pos c10] at h
    refine at_bipush (n := (-2)) (-2 : Int32) 52 rfl (by decide +kernel) (by decide +kernel) ?_
    exact at_iret rfl (by decide +kernel) h
  · rw [if_neg c10] at h
    refine at_iload_n (i := 2) 2 18 rfl (by decide +kernel) rfl ?_
    refine at_i2l 19 rfl (by decide +kernel) ?_
    refine at_lconst (n := 0) (0 : Int64) 20 rfl (by decide +kernel) (by decide +kernel) ?_
    refine at_iload_n (i := 1) 1 21 rfl (by decide +kernel) rfl ?_
    refine at_i2l 22 rfl (by decide +kernel) ?_
    refine at_callS mb_RF_in tw_1293 (index := 154) tw_1292 [.long (l2.toInt64), .long ((0 : Int64)), .long (l1.toInt64)] [] rfl rfl (by decide) 25 rfl (by decide +kernel) (Call.toI (CI.monoE h (fun x11 m12 h y13 => ?_)))
    have k14 : mK m12 t = 13 := y13.k k9 (by decide)
    refine at_if_eq (off := 25) 50 28 rfl (by decide +kernel) (by decide +kernel) (fun c15 => ?_) (fun c15 => ?_)
    · rw [if_pos c15] at h
      refine at_bipush (n := (-2)) (-2 : Int32) 52 rfl (by decide +kernel) (by decide +kernel) ?_
      exact at_iret rfl (by decide +kernel) h
    · rw [if_neg c15] at h
      refine at_iload_n (i := 3) 3 29 rfl (by decide +kernel) rfl ?_
      refine at_i2l 30 rfl (by decide +kernel) ?_
      refine at_lconst (n := 0) (0 : Int64) 31 rfl (by decide +kernel) (by decide +kernel) ?_
      refine at_iload_n (i := 2) 2 32 rfl (by decide +kernel) rfl ?_
      refine at_i2l 33 rfl (by decide +kernel) ?_
      refine at_callS mb_RF_in tw_1293 (index := 154) tw_1292 [.long (l3.toInt64), .long ((0 : Int64)), .long (l2.toInt64)] [] rfl rfl (by decide) 36 rfl (by decide +kernel) (Call.toI (CI.monoE h (fun x16 m17 h y18 => ?_)))
      have k19 : mK m17 t = 13 := y18.k k14 (by decide)
      refine at_if_eq (off := 14) 50 39 rfl (by decide +kernel) (by decide +kernel) (fun c20 => ?_) (fun c20 => ?_)
      · rw [if_pos c20] at h
        refine at_bipush (n := (-2)) (-2 : Int32) 52 rfl (by decide +kernel) (by decide +kernel) ?_
        exact at_iret rfl (by decide +kernel) h
      · rw [if_neg c20] at h
        refine at_iload (i := 4) 4 41 rfl (by decide +kernel) rfl ?_
        refine at_i2l 42 rfl (by decide +kernel) ?_
        refine at_lconst (n := 0) (0 : Int64) 43 rfl (by decide +kernel) (by decide +kernel) ?_
        refine at_lconst (n := 1) (1 : Int64) 44 rfl (by decide +kernel) (by decide +kernel) ?_
        refine at_callS mb_RF_in tw_1293 (index := 154) tw_1292 [.long (l4.toInt64), .long ((0 : Int64)), .long ((1 : Int64))] [] rfl rfl (by decide) 47 rfl (by decide +kernel) (Call.toI (CI.monoE h (fun x21 m22 h y23 => ?_)))
        have k24 : mK m22 t = 13 := y23.k k19 (by decide)
        refine at_if_ne (off := 6) 53 50 rfl (by decide +kernel) (by decide +kernel) (fun c25 => ?_) (fun c25 => ?_)
        · rw [if_neg c25] at h
          refine at_iload (i := 4) 4 55 rfl (by decide +kernel) rfl ?_
          refine at_if_ne (off := 7) 62 58 rfl (by decide +kernel) (by decide +kernel) (fun c26 => ?_) (fun c26 => ?_)
          · rw [if_neg c26] at h
            refine at_iload_n (i := 1) 1 63 rfl (by decide +kernel) rfl ?_
            refine at_istore (i := 5) (lc' := [(0, va_rf (some t)), (1, .int (l1)), (2, .int (l2)), (3, .int (l3)), (4, .int (l4)), (5, .int (l1))]) [1, 2, 3, 4, 5, 0] 65 rfl (by decide +kernel) (by decide +kernel) rfl ?_
            exact h
          · rw [if_pos c26] at h
            refine at_iconst (n := 0) (0 : Int32) 59 rfl (by decide +kernel) (by decide +kernel) ?_
            refine at_goto (off := 4) 63 (by decide +kernel) (by decide +kernel) ?_
            refine at_istore (i := 5) (lc' := [(0, va_rf (some t)), (1, .int (l1)), (2, .int (l2)), (3, .int (l3)), (4, .int (l4)), (5, .int ((0 : Int32)))]) [1, 2, 3, 4, 5, 0] 65 rfl (by decide +kernel) (by decide +kernel) rfl ?_
            exact h
        · rw [if_pos c25] at h
          refine at_bipush (n := (-2)) (-2 : Int32) 52 rfl (by decide +kernel) (by decide +kernel) ?_
          exact at_iret rfl (by decide +kernel) h
