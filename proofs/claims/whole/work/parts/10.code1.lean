set_option maxRecDepth 20000 in
set_option maxHeartbeats 4000000 in
theorem en_SL_isWithin (g : Gc) {lv : Nat} {l0 : Int32} {l1 : Int32} {l2 : Int32} {m : Mm} {Q : Int32 → Mm → Prop} (h : if (l0) < (l1) then (Q (0 : Int32) m) else (if (l2) < (l0) then (Q (0 : Int32) m) else (Q (1 : Int32) m))) : CI g M_SL_isWithin (lv + 1) [.int (l0), .int (l1), .int (l2)] m Q := by
  refine Call.of (by decide +kernel) (Nat.le_of_ble_eq_true rfl) ?_
  show At g M_SL_isWithin (lv + 1) 0 [(0, .int (l0)), (1, .int (l1)), (2, .int (l2))] [] m (QI Q)
  refine at_iload_n (i := 0) 0 1 rfl (by decide +kernel) rfl ?_
  refine at_iload_n (i := 1) 1 2 rfl (by decide +kernel) rfl ?_
  refine at_icmp_lt (off := 12) 14 5 rfl (by decide +kernel) (by decide +kernel) (fun c1 => ?_) (fun c1 => ?_)
  · rw [if_pos c1] at h
    refine at_iconst (n := 0) (0 : Int32) 15 rfl (by decide +kernel) (by decide +kernel) ?_
    exact at_zret rfl (by decide +kernel) (Or.inl rfl) h
  · rw [if_neg c1] at h
    refine at_iload_n (i := 0) 0 6 rfl (by decide +kernel) rfl ?_
    refine at_iload_n (i := 2) 2 7 rfl (by decide +kernel) rfl ?_
    refine at_icmp_gt (off := 7) 14 10 rfl (by decide +kernel) (by decide +kernel) (fun c2 => ?_) (fun c2 => ?_)
    · rw [if_pos c2] at h
      refine at_iconst (n := 0) (0 : Int32) 15 rfl (by decide +kernel) (by decide +kernel) ?_
      exact at_zret rfl (by decide +kernel) (Or.inl rfl) h
    · rw [if_neg c2] at h
      refine at_iconst (n := 1) (1 : Int32) 11 rfl (by decide +kernel) (by decide +kernel) ?_
      refine at_goto (off := 4) 15 (by decide +kernel) (by decide +kernel) ?_
      exact at_zret rfl (by decide +kernel) (Or.inr rfl) h
set_option maxRecDepth 20000 in
set_option maxHeartbeats 4000000 in
theorem en_SL_cutTo (g : Gc) {lv : Nat} {l0 : Int64} {l2 : Int64} {l4 : Int64} {m : Mm} {Q : Int64 → Mm → Prop} (h : Q (lmx l2 (lmn l4 l0)) m) : CJ g M_SL_cutTo (lv + 1) [.long (l0), .long (l2), .long (l4)] m Q := by
  refine Call.of (by decide +kernel) (Nat.le_of_ble_eq_true rfl) ?_
  show At g M_SL_cutTo (lv + 1) 0 [(0, .long (l0)), (2, .long (l2)), (4, .long (l4))] [] m (QJ Q)
  refine at_lload_n (i := 2) 1 1 rfl (by decide +kernel) rfl ?_
  refine at_lload (i := 4) 2 3 rfl (by decide +kernel) rfl ?_
  refine at_lload_n (i := 0) 0 4 rfl (by decide +kernel) rfl ?_
  refine at_lmn (index := 346) 7 rfl (by decide +kernel) tw_743 (by simp [va_rf_cat, cat_int, cat_long]) ?_
  refine at_lmx (index := 350) 10 rfl (by decide +kernel) tw_746 (by decide) ?_
  exact at_lret rfl (by decide +kernel) h
set_option maxRecDepth 20000 in
set_option maxHeartbeats 4000000 in
theorem bk_Arrays_fill_5 (g : Gc) {lv : Nat} {l0 : Option Nat} {l1 : Int32} {l2 : Int32} {l3 : Int32} {m : Mm} {Q : Mm → Prop} (h : if (l3) ≤ (l2) then (Q m) else (∃ b2, l0 = some b2 ∧ (mK m b2 = 15 ∧ (vp_in l2 (mN m b2) ∧ (∀ m6, m6 = sI m b2 l2.toNatClampNeg l1 → (At g M_Arrays_fill (lv + 1) 5 [(0, va_rf (some b2)), (1, .int (l1)), (2, .int (l2 + (1 : Int32))), (3, .int (l3))] [] m6 (QV Q))))))) : At g M_Arrays_fill (lv + 1) 5 [(0, va_rf (l0)), (1, .int (l1)), (2, .int (l2)), (3, .int (l3))] [] m (QV Q) := by
  refine at_iload_n (i := 2) 2 6 rfl (by decide +kernel) rfl ?_
  refine at_iload_n (i := 3) 3 7 rfl (by decide +kernel) rfl ?_
  refine at_icmp_ge (off := 13) 20 10 rfl (by decide +kernel) (by decide +kernel) (fun c1 => ?_) (fun c1 => ?_)
  · rw [if_pos c1] at h
    exact at_vret rfl (by decide +kernel) h
  · rw [if_neg c1] at h
    refine at_aload_n (i := 0) 0 11 rfl (by decide +kernel) rfl ?_
    refine at_iload_n (i := 2) 2 12 rfl (by decide +kernel) rfl ?_
    refine at_iload_n (i := 1) 1 13 rfl (by decide +kernel) rfl ?_
    obtain ⟨b2, e3, h⟩ := h
    rw [e3]
    obtain ⟨k4, h⟩ := h
    obtain ⟨v5, h⟩ := h
    refine at_iast 14 rfl (by decide +kernel) k4 v5 (fun m6 e7 => ?_)
    replace h := h m6 e7
    have k8 : mK m6 b2 = 15 := by rw [e7]; exact k4
    refine at_iinc (i := 2) (n := 1) (lc' := [(0, va_rf (some b2)), (1, .int (l1)), (2, .int (l2 + (1 : Int32))), (3, .int (l3))]) (l2 + (1 : Int32)) 2 [1, 2, 0, 3] 17 rfl (by decide +kernel) rfl (by rw [show Int32.ofInt 1 = (1 : Int32) from by decide +kernel]) (by decide +kernel) rfl ?_
    refine at_goto (off := (-12)) 5 (by decide +kernel) (by decide +kernel) ?_
    exact h
set_option maxRecDepth 20000 in
set_option maxHeartbeats 4000000 in
theorem en_Arrays_fill (g : Gc) {lv : Nat} {l0 : Option Nat} {l1 : Int32} {m : Mm} {Q : Mm → Prop} (h : ∃ b1, l0 = some b1 ∧ (mK m b1 = 15 ∧ (At g M_Arrays_fill (lv + 1) 5 [(0, va_rf (some b1)), (1, .int (l1)), (2, .int ((0 : Int32))), (3, .int (nI (mN m b1)))] [] m (QV Q)))) : CV g M_Arrays_fill (lv + 1) [va_rf (l0), .int (l1)] m Q := by
  refine Call.of (by decide +kernel) (by simp [lg_sl, va_rf_cat, cat_int, cat_long, M_Arrays_fill]) ?_
  rw [show lv_args 0 [va_rf (l0), .int (l1)] = [(0, va_rf (l0)), (1, .int (l1))] from by simp [lv_args, va_rf_cat, cat_int, cat_long]]
  refine at_iconst (n := 0) (0 : Int32) 1 rfl (by decide +kernel) (by decide +kernel) ?_
  refine at_istore_n (i := 2) (lc' := [(0, va_rf (l0)), (1, .int (l1)), (2, .int ((0 : Int32)))]) [1, 2, 0] 2 rfl (by decide +kernel) (by decide +kernel) rfl ?_
  refine at_aload_n (i := 0) 0 3 rfl (by decide +kernel) rfl ?_
  obtain ⟨b1, e2, h⟩ := h
  rw [e2]
  obtain ⟨k3, h⟩ := h
  refine at_alen 4 rfl (by decide +kernel) k3 (by decide) ?_
  refine at_istore_n (i := 3) (lc' := [(0, va_rf (some b1)), (1, .int (l1)), (2, .int ((0 : Int32))), (3, .int (nI (mN m b1)))]) [1, 2, 3, 0] 5 rfl (by decide +kernel) (by decide +kernel) rfl ?_
  exact h
set_option maxRecDepth 20000 in
set_option maxHeartbeats 4000000 in
theorem en_Bank_init (g : Gc) {lv : Nat} {t : Nat} {m : Mm} {Q : Mm → Prop} (h : mK m t = 1 ∧ (∀ m2, m2 = sI m t 0 (50 : Int32) → (∀ m5, m5 = sI m2 t 1 (10 : Int32) → (Q m5)))) : CV g M_Bank_init (lv + 1) [va_rf (some t)] m Q := by
  refine Call.of (by decide +kernel) (Nat.le_of_ble_eq_true rfl) ?_
  show At g M_Bank_init (lv + 1) 0 [(0, va_rf (some t))] [] m (QV Q)
  refine at_aload_n (i := 0) 0 1 rfl (by decide +kernel) rfl ?_
  refine at_objInit 4 rfl (by decide +kernel) tw_270 tw_91 tw_92 (by decide) ?_
  refine at_aload_n (i := 0) 0 5 rfl (by decide +kernel) rfl ?_
  refine at_bipush (n := 50) (50 : Int32) 7 rfl (by decide +kernel) (by decide +kernel) ?_
  obtain ⟨k1, h⟩ := h
  refine at_putI (index := 7) cok0 0 10 rfl (by decide +kernel) k1 (by decide +kernel) tw_271 rfl rfl rfl (fun m2 e3 => ?_)
  replace h := h m2 e3
  have k4 : mK m2 t = 1 := by rw [e3]; exact k1
  refine at_aload_n (i := 0) 0 11 rfl (by decide +kernel) rfl ?_
  refine at_bipush (n := 10) (10 : Int32) 13 rfl (by decide +kernel) (by decide +kernel) ?_
  refine at_putI (index := 13) cok0 1 16 rfl (by decide +kernel) k4 (by decide +kernel) tw_274 rfl rfl rfl (fun m5 e6 => ?_)
  replace h := h m5 e6
  have k7 : mK m5 t = 1 := by rw [e6]; exact k4
  exact at_vret rfl (by decide +kernel) h
set_option maxRecDepth 20000 in
set_option maxHeartbeats 4000000 in
theorem en_Grower_init (g : Gc) {lv : Nat} {t : Nat} {m : Mm} {Q : Mm → Prop} (h : mK m (gz g + mC m) = 0 ∧ (∀ q2 m3, q2 = gz g + mC m → m3 = nw m q2 15 ((30 : Int32).toNatClampNeg) ((30 : Int32).toNatClampNeg) → (mK m3 t = 2 ∧ (∀ m9, m9 = sR m3 t 0 (some q2) → (mK m9 (gz g + mC m9) = 0 ∧ (∀ q14 m15, q14 = gz g + mC m9 → m15 = nw m9 q14 15 ((30 : Int32).toNatClampNeg) ((30 : Int32).toNatClampNeg) → (∀ m22, m22 = sR m15 t 1 (some q14) → (mK m22 (gz g + mC m22) = 0 ∧ (∀ q28 m29, q28 = gz g + mC m22 → m29 = nw m22 q28 17 ((30 : Int32).toNatClampNeg) ((30 : Int32).toNatClampNeg) → (∀ m37, m37 = sR m29 t 2 (some q28) → (Q m37))))))))))) : CV g M_Grower_init (lv + 1) [va_rf (some t)] m Q := by
  refine Call.of (by decide +kernel) (Nat.le_of_ble_eq_true rfl) ?_
  show At g M_Grower_init (lv + 1) 0 [(0, va_rf (some t))] [] m (QV Q)
  refine at_aload_n (i := 0) 0 1 rfl (by decide +kernel) rfl ?_
  refine at_objInit 4 rfl (by decide +kernel) tw_205 tw_91 tw_92 (by decide) ?_
  refine at_aload_n (i := 0) 0 5 rfl (by decide +kernel) rfl ?_
  refine at_bipush (n := 30) (30 : Int32) 7 rfl (by decide +kernel) (by decide +kernel) ?_
  obtain ⟨z1, h⟩ := h
  refine at_newaI 9 rfl z1 (by decide +kernel) tw_265 (by decide +kernel) (by decide +kernel) (fun q2 m3 e4 e5 => ?_)
  replace h := h q2 m3 e4 e5
  have x6 : Ext m m3 := by rw [e5, e4]; exact Ext.nw z1 _ _ _
  have k7 : mK m3 q2 = 15 := by rw [e5]; exact if_pos rfl
  obtain ⟨k8, h⟩ := h
  refine at_putRF (index := 9) cok1 0 12 rfl (by decide +kernel) k8 (by decide +kernel) tw_206 rfl rfl rfl rfl (Or.inr ⟨_, rfl⟩) (fun m9 e10 => ?_)
  replace h := h m9 e10
  have k11 : mK m9 q2 = 15 := by rw [e10]; exact k7
  have k12 : mK m9 t = 2 := by rw [e10]; exact k8
  refine at_aload_n (i := 0) 0 13 rfl (by decide +kernel) rfl ?_
  refine at_bipush (n := 30) (30 : Int32) 15 rfl (by decide +kernel) (by decide +kernel) ?_
  obtain ⟨z13, h⟩ := h
  refine at_newaI 17 rfl z13 (by decide +kernel) tw_265 (by decide +kernel) (by decide +kernel) (fun q14 m15 e16 e17 => ?_)
  replace h := h q14 m15 e16 e17
  have x18 : Ext m9 m15 := by rw [e17, e16]; exact Ext.nw z13 _ _ _
  have k19 : mK m15 q2 = 15 := x18.k k11 (by decide)
  have k20 : mK m15 t = 2 := x18.k k12 (by decide)
  have k21 : mK m15 q14 = 15 := by rw [e17]; exact if_pos rfl
  refine at_putRF (index := 15) cok1 1 20 rfl (by decide +kernel) k20 (by decide +kernel) tw_208 rfl rfl rfl rfl (Or.inr ⟨_, rfl⟩) (fun m22 e23 => ?_)
  replace h := h m22 e23
  have k24 : mK m22 q2 = 15 := by rw [e23]; exact k19
  have k25 : mK m22 t = 2 := by rw [e23]; exact k20
  have k26 : mK m22 q14 = 15 := by rw [e23]; exact k21
  refine at_aload_n (i := 0) 0 21 rfl (by decide +kernel) rfl ?_
  refine at_bipush (n := 30) (30 : Int32) 23 rfl (by decide +kernel) (by decide +kernel) ?_
  obtain ⟨z27, h⟩ := h
  refine at_newaZ 25 rfl z27 (by decide +kernel) tw_200 (by decide +kernel) (by decide +kernel) (fun q28 m29 e30 e31 => ?_)
  replace h := h q28 m29 e30 e31
  have x32 : Ext m22 m29 := by rw [e31, e30]; exact Ext.nw z27 _ _ _
  have k33 : mK m29 q2 = 15 := x32.k k24 (by decide)
  have k34 : mK m29 t = 2 := x32.k k25 (by decide)
  have k35 : mK m29 q14 = 15 := x32.k k26 (by decide)
  have k36 : mK m29 q28 = 17 := by rw [e31]; exact if_pos rfl
  refine at_putRF (index := 18) cok1 2 28 rfl (by decide +kernel) k34 (by decide +kernel) tw_210 rfl rfl rfl rfl (Or.inr ⟨_, rfl⟩) (fun m37 e38 => ?_)
  replace h := h m37 e38
  have k39 : mK m37 q2 = 15 := by rw [e38]; exact k33
  have k40 : mK m37 t = 2 := by rw [e38]; exact k34
  have k41 : mK m37 q14 = 15 := by rw [e38]; exact k35
  have k42 : mK m37 q28 = 17 := by rw [e38]; exact k36
  exact at_vret rfl (by decide +kernel) h
set_option maxRecDepth 20000 in
set_option maxHeartbeats 4000000 in
theorem en_Grower_arrive (g : Gc) {lv : Nat} {t : Nat} {l1 : Int32} {l2 : Int32} {m : Mm} {Q : Mm → Prop} (h : mK m t = 2 ∧ (∀ m2, m2 = sI m t 3 l1 → (∀ m5, m5 = sI m2 t 4 l2 → (∀ m8, m8 = sI m5 t 5 l2 → (∀ m11, m11 = sI m8 t 6 (0 : Int32) → (∀ m14, m14 = sI m11 t 7 (0 : Int32) → (∀ m17, m17 = sI m14 t 8 (0 : Int32) → (∀ m20, m20 = sI m17 t 9 (0 : Int32) → (∀ m23, m23 = sI m20 t 10 (0 : Int32) → (∀ m26, m26 = sL m23 t 11 (0 : Int64) → (∀ m29, m29 = sL m26 t 12 (0 : Int64) → (CV g M_Arrays_fill lv [va_rf (mR m29 t 0), .int ((-1 : Int32))] m29 (fun m32 => (Q m32)))))))))))))) : CV g M_Grower_arrive (lv + 1) [va_rf (some t), .int (l1), .int (l2)] m Q := by
  refine Call.of (by decide +kernel) (Nat.le_of_ble_eq_true rfl) ?_
  show At g M_Grower_arrive (lv + 1) 0 [(0, va_rf (some t)), (1, .int (l1)), (2, .int (l2))] [] m (QV Q)
  refine at_aload_n (i := 0) 0 1 rfl (by decide +kernel) rfl ?_
  refine at_iload_n (i := 1) 1 2 rfl (by decide +kernel) rfl ?_
  obtain ⟨k1, h⟩ := h
  refine at_putI (index := 22) cok1 3 5 rfl (by decide +kernel) k1 (by decide +kernel) tw_212 rfl rfl rfl (fun m2 e3 => ?_)
  replace h := h m2 e3
  have k4 : mK m2 t = 2 := by rw [e3]; exact k1
  refine at_aload_n (i := 0) 0 6 rfl (by decide +kernel) rfl ?_
  refine at_iload_n (i := 2) 2 7 rfl (by decide +kernel) rfl ?_
  refine at_putI (index := 26) cok1 4 10 rfl (by decide +kernel) k4 (by decide +kernel) tw_215 rfl rfl rfl (fun m5 e6 => ?_)
  replace h := h m5 e6
  have k7 : mK m5 t = 2 := by rw [e6]; exact k4
  refine at_aload_n (i := 0) 0 11 rfl (by decide +kernel) rfl ?_
  refine at_iload_n (i := 2) 2 12 rfl (by decide +kernel) rfl ?_
  refine at_putI (index := 29) cok1 5 15 rfl (by decide +kernel) k7 (by decide +kernel) tw_217 rfl rfl rfl (fun m8 e9 => ?_)
  replace h := h m8 e9
  have k10 : mK m8 t = 2 := by rw [e9]; exact k7
  refine at_aload_n (i := 0) 0 16 rfl (by decide +kernel) rfl ?_
  refine at_iconst (n := 0) (0 : Int32) 17 rfl (by decide +kernel) (by decide +kernel) ?_
  refine at_putI (index := 32) cok1 6 20 rfl (by decide +kernel) k10 (by decide +kernel) tw_220 rfl rfl rfl (fun m11 e12 => ?_)
  replace h := h m11 e12
  have k13 : mK m11 t = 2 := by rw [e12]; exact k10
  refine at_aload_n (i := 0) 0 21 rfl (by decide +kernel) rfl ?_
  refine at_iconst (n := 0) (0 : Int32) 22 rfl (by decide +kernel) (by decide +kernel) ?_
  refine at_putI (index := 35) cok1 7 25 rfl (by decide +kernel) k13 (by decide +kernel) tw_222 rfl rfl rfl (fun m14 e15 => ?_)
  replace h := h m14 e15
  have k16 : mK m14 t = 2 := by rw [e15]; exact k13
  refine at_aload_n (i := 0) 0 26 rfl (by decide +kernel) rfl ?_
  refine at_iconst (n := 0) (0 : Int32) 27 rfl (by decide +kernel) (by decide +kernel) ?_
  refine at_putI (index := 38) cok1 8 30 rfl (by decide +kernel) k16 (by decide +kernel) tw_224 rfl rfl rfl (fun m17 e18 => ?_)
  replace h := h m17 e18
  have k19 : mK m17 t = 2 := by rw [e18]; exact k16
  refine at_aload_n (i := 0) 0 31 rfl (by decide +kernel) rfl ?_
  refine at_iconst (n := 0) (0 : Int32) 32 rfl (by decide +kernel) (by decide +kernel) ?_
  refine at_putI (index := 41) cok1 9 35 rfl (by decide +kernel) k19 (by decide +kernel) tw_226 rfl rfl rfl (fun m20 e21 => ?_)
  replace h := h m20 e21
  have k22 : mK m20 t = 2 := by rw [e21]; exact k19
  refine at_aload_n (i := 0) 0 36 rfl (by decide +kernel) rfl ?_
  refine at_iconst (n := 0) (0 : Int32) 37 rfl (by decide +kernel) (by decide +kernel) ?_
  refine at_putI (index := 44) cok1 10 40 rfl (by decide +kernel) k22 (by decide +kernel) tw_229 rfl rfl rfl (fun m23 e24 => ?_)
  replace h := h m23 e24
  have k25 : mK m23 t = 2 := by rw [e24]; exact k22
  refine at_aload_n (i := 0) 0 41 rfl (by decide +kernel) rfl ?_
  refine at_lconst (n := 0) (0 : Int64) 42 rfl (by decide +kernel) (by decide +kernel) ?_
  refine at_putJ (index := 47) cok1 11 45 rfl (by decide +kernel) k25 (by decide +kernel) tw_232 rfl rfl rfl (fun m26 e27 => ?_)
  replace h := h m26 e27
  have k28 : mK m26 t = 2 := by rw [e27]; exact k25
  refine at_aload_n (i := 0) 0 46 rfl (by decide +kernel) rfl ?_
  refine at_lconst (n := 0) (0 : Int64) 47 rfl (by decide +kernel) (by decide +kernel) ?_
  refine at_putJ (index := 51) cok1 12 50 rfl (by decide +kernel) k28 (by decide +kernel) tw_235 rfl rfl rfl (fun m29 e30 => ?_)
  replace h := h m29 e30
  have k31 : mK m29 t = 2 := by rw [e30]; exact k28
  refine at_aload_n (i := 0) 0 51 rfl (by decide +kernel) rfl ?_
  refine at_get (index := 9) (v := va_rf (mR m29 t 0)) cok1 0 54 rfl (by decide +kernel) k31 (by decide +kernel) tw_206 rfl ?_
  refine at_iconst (n := (-1)) (-1 : Int32) 55 rfl (by decide +kernel) (by decide +kernel) ?_
  refine at_callS mb_Arrays_fill tw_423 (index := 54) tw_490 [va_rf (mR m29 t 0), .int ((-1 : Int32))] [] rfl rfl (by decide) 58 rfl (by decide +kernel) (Call.toV (CV.monoE h (fun m32 h y33 => ?_)))
  have k34 : mK m32 t = 2 := y33.k k31 (by decide)
  exact at_vret rfl (by decide +kernel) h
set_option maxRecDepth 20000 in
set_option maxHeartbeats 4000000 in
theorem en_Grower_cropOf (g : Gc) {lv : Nat} {t : Nat} {l1 : Int32} {m : Mm} {Q : Int32 → Mm → Prop} (h : CI g M_SL_isWithin lv [.int (l1), .int ((0 : Int32)), .int ((29 : Int32))] m (fun x1 m2 => (if (x1) = 0 then (Q (-1 : Int32) m2) else (mK m2 t = 2 ∧ (∃ b6, mR m2 t 1 = some b6 ∧ (mK m2 b6 = 15 ∧ (vp_in l1 (mN m2 b6) ∧ (Q (mI m2 b6 l1.toNatClampNeg) m2)))))))) : CI g M_Grower_cropOf (lv + 1) [va_rf (some t), .int (l1)] m Q := by
  refine Call.of (by decide +kernel) (Nat.le_of_ble_eq_true rfl) ?_
  show At g M_Grower_cropOf (lv + 1) 0 [(0, va_rf (some t)), (1, .int (l1))] [] m (QI Q)
  refine at_iload_n (i := 1) 1 1 rfl (by decide +kernel) rfl ?_
  refine at_iconst (n := 0) (0 : Int32) 2 rfl (by decide +kernel) (by decide +kernel) ?_
  refine at_bipush (n := 29) (29 : Int32) 4 rfl (by decide +kernel) (by decide +kernel) ?_
  refine at_callSN mb_SL_isWithin tw_471 (index := 60) (host := "SurplusLand") (by decide +kernel) [.int (l1), .int ((0 : Int32)), .int ((29 : Int32))] [] rfl rfl (by decide) 7 rfl (by decide +kernel) (Call.toI (CI.monoE h (fun x1 m2 h y3 => ?_)))
  refine at_if_eq (off := 12) 19 10 rfl (by decide +kernel) (by decide +kernel) (fun c4 => ?_) (fun c4 => ?_)
  · rw [if_pos c4] at h
    refine at_iconst (n := (-1)) (-1 : Int32) 20 rfl (by decide +kernel) (by decide +kernel) ?_
    exact at_iret rfl (by decide +kernel) h
  · rw [if_neg c4] at h
    refine at_aload_n (i := 0) 0 11 rfl (by decide +kernel) rfl ?_
    obtain ⟨k5, h⟩ := h
    refine at_get (index := 15) (v := va_rf (mR m2 t 1)) cok1 1 14 rfl (by decide +kernel) k5 (by decide +kernel) tw_208 rfl ?_
    refine at_iload_n (i := 1) 1 15 rfl (by decide +kernel) rfl ?_
    obtain ⟨b6, e7, h⟩ := h
    rw [e7]
    obtain ⟨k8, h⟩ := h
    obtain ⟨v9, h⟩ := h
    refine at_iald 16 rfl (by decide +kernel) k8 v9 ?_
    refine at_goto (off := 4) 20 (by decide +kernel) (by decide +kernel) ?_
    exact at_iret rfl (by decide +kernel) h
set_option maxRecDepth 20000 in
set_option maxHeartbeats 4000000 in
theorem en_Grower_sell (g : Gc) {lv : Nat} {t : Nat} {l1 : Int32} {l2 : Int32} {m : Mm} {Q : Mm → Prop} (h : mK m t = 2 ∧ (∀ m2, m2 = sI m t 9 ((mI m t 9) - l1) → (∀ m5, m5 = sL m2 t 11 ((mL m2 t 11) + (l1.toInt64 * l2.toInt64)) → (Q m5)))) : CV g M_Grower_sell (lv + 1) [va_rf (some t), .int (l1), .int (l2)] m Q := by
  refine Call.of (by decide +kernel) (Nat.le_of_ble_eq_true rfl) ?_
  show At g M_Grower_sell (lv + 1) 0 [(0, va_rf (some t)), (1, .int (l1)), (2, .int (l2))] [] m (QV Q)
  refine at_aload_n (i := 0) 0 1 rfl (by decide +kernel) rfl ?_
  refine at_dup 2 rfl (by decide +kernel) (va_rf_cat _) ?_
  obtain ⟨k1, h⟩ := h
  refine at_get (index := 41) (v := .int (mI m t 9)) cok1 9 5 rfl (by decide +kernel) k1 (by decide +kernel) tw_226 rfl ?_
  refine at_iload_n (i := 1) 1 6 rfl (by decide +kernel) rfl ?_
  refine at_isub 7 rfl (by decide +kernel) ?_
  refine at_putI (index := 41) cok1 9 10 rfl (by decide +kernel) k1 (by decide +kernel) tw_226 rfl rfl rfl (fun m2 e3 => ?_)
  replace h := h m2 e3
  have k4 : mK m2 t = 2 := by rw [e3]; exact k1
  refine at_aload_n (i := 0) 0 11 rfl (by decide +kernel) rfl ?_
  refine at_dup 12 rfl (by decide +kernel) (va_rf_cat _) ?_
  refine at_get (index := 47) (v := .long (mL m2 t 11)) cok1 11 15 rfl (by decide +kernel) k4 (by decide +kernel) tw_232 rfl ?_
  refine at_iload_n (i := 1) 1 16 rfl (by decide +kernel) rfl ?_
  refine at_i2l 17 rfl (by decide +kernel) ?_
  refine at_iload_n (i := 2) 2 18 rfl (by decide +kernel) rfl ?_
  refine at_i2l 19 rfl (by decide +kernel) ?_
  refine at_lmul 20 rfl (by decide +kernel) ?_
  refine at_ladd 21 rfl (by decide +kernel) ?_
  refine at_putJ (index := 47) cok1 11 24 rfl (by decide +kernel) k4 (by decide +kernel) tw_232 rfl rfl rfl (fun m5 e6 => ?_)
  replace h := h m5 e6
  have k7 : mK m5 t = 2 := by rw [e6]; exact k4
  exact at_vret rfl (by decide +kernel) h
set_option maxRecDepth 20000 in
set_option maxHeartbeats 4000000 in
theorem en_Grower_growOlder (g : Gc) {lv : Nat} {t : Nat} {m : Mm} {Q : Mm → Prop} (h : mK m t = 2 ∧ (∀ m2, m2 = sI m t 5 ((mI m t 5) + (mI m t 8)) → (∀ m5, m5 = sI m2 t 8 (mI m2 t 7) → (∀ m8, m8 = sI m5 t 7 (mI m5 t 6) → (∀ m11, m11 = sI m8 t 6 (0 : Int32) → (Q m11)))))) : CV g M_Grower_growOlder (lv + 1) [va_rf (some t)] m Q := by
  refine Call.of (by decide +kernel) (Nat.le_of_ble_eq_true rfl) ?_
  show At g M_Grower_growOlder (lv + 1) 0 [(0, va_rf (some t))] [] m (QV Q)
  refine at_aload_n (i := 0) 0 1 rfl (by decide +kernel) rfl ?_
  refine at_dup 2 rfl (by decide +kernel) (va_rf_cat _) ?_
  obtain ⟨k1, h⟩ := h
  refine at_get (index := 29) (v := .int (mI m t 5)) cok1 5 5 rfl (by decide +kernel) k1 (by decide +kernel) tw_217 rfl ?_
  refine at_aload_n (i := 0) 0 6 rfl (by decide +kernel) rfl ?_
  refine at_get (index := 38) (v := .int (mI m t 8)) cok1 8 9 rfl (by decide +kernel) k1 (by decide +kernel) tw_224 rfl ?_
  refine at_iadd 10 rfl (by decide +kernel) ?_
  refine at_putI (index := 29) cok1 5 13 rfl (by decide +kernel) k1 (by decide +kernel) tw_217 rfl rfl rfl (fun m2 e3 => ?_)
  replace h := h m2 e3
  have k4 : mK m2 t = 2 := by rw [e3]; exact k1
  refine at_aload_n (i := 0) 0 14 rfl (by decide +kernel) rfl ?_
  refine at_aload_n (i := 0) 0 15 rfl (by decide +kernel) rfl ?_
  refine at_get (index := 35) (v := .int (mI m2 t 7)) cok1 7 18 rfl (by decide +kernel) k4 (by decide +kernel) tw_222 rfl ?_
  refine at_putI (index := 38) cok1 8 21 rfl (by decide +kernel) k4 (by decide +kernel) tw_224 rfl rfl rfl (fun m5 e6 => ?_)
  replace h := h m5 e6
  have k7 : mK m5 t = 2 := by rw [e6]; exact k4
  refine at_aload_n (i := 0) 0 22 rfl (by decide +kernel) rfl ?_
  refine at_aload_n (i := 0) 0 23 rfl (by decide +kernel) rfl ?_
  refine at_get (index := 32) (v := .int (mI m5 t 6)) cok1 6 26 rfl (by decide +kernel) k7 (by decide +kernel) tw_220 rfl ?_
  refine at_putI (index := 35) cok1 7 29 rfl (by decide +kernel) k7 (by decide +kernel) tw_222 rfl rfl rfl (fun m8 e9 => ?_)
  replace h := h m8 e9
  have k10 : mK m8 t = 2 := by rw [e9]; exact k7
  refine at_aload_n (i := 0) 0 30 rfl (by decide +kernel) rfl ?_
  refine at_iconst (n := 0) (0 : Int32) 31 rfl (by decide +kernel) (by decide +kernel) ?_
  refine at_putI (index := 32) cok1 6 34 rfl (by decide +kernel) k10 (by decide +kernel) tw_220 rfl rfl rfl (fun m11 e12 => ?_)
  replace h := h m11 e12
  have k13 : mK m11 t = 2 := by rw [e12]; exact k10
  exact at_vret rfl (by decide +kernel) h
set_option maxRecDepth 20000 in
set_option maxHeartbeats 4000000 in
theorem en_Grower_plant (g : Gc) {lv : Nat} {t : Nat} {l1 : Int32} {m : Mm} {Q : Mm → Prop} (h : mK m t = 2 ∧ (∀ m2, m2 = sI m t 6 (imx (0 : Int32) (imn ((((5000 : Int32) - (mI m t 5)) - (mI m t 7)) - (mI m t 8)) (((mI m t 5) * l1) / (100 : Int32)))) → (Q m2))) : CV g M_Grower_plant (lv + 1) [va_rf (some t), .int (l1)] m Q := by
  refine Call.of (by decide +kernel) (Nat.le_of_ble_eq_true rfl) ?_
  show At g M_Grower_plant (lv + 1) 0 [(0, va_rf (some t)), (1, .int (l1))] [] m (QV Q)
  refine at_sipush (n := 5000) (5000 : Int32) 3 rfl (by decide +kernel) (by decide +kernel) ?_
  refine at_aload_n (i := 0) 0 4 rfl (by decide +kernel) rfl ?_
  obtain ⟨k1, h⟩ := h
  refine at_get (index := 29) (v := .int (mI m t 5)) cok1 5 7 rfl (by decide +kernel) k1 (by decide +kernel) tw_217 rfl ?_
  refine at_isub 8 rfl (by decide +kernel) ?_
  refine at_aload_n (i := 0) 0 9 rfl (by decide +kernel) rfl ?_
  refine at_get (index := 35) (v := .int (mI m t 7)) cok1 7 12 rfl (by decide +kernel) k1 (by decide +kernel) tw_222 rfl ?_
  refine at_isub 13 rfl (by decide +kernel) ?_
  refine at_aload_n (i := 0) 0 14 rfl (by decide +kernel) rfl ?_
  refine at_get (index := 38) (v := .int (mI m t 8)) cok1 8 17 rfl (by decide +kernel) k1 (by decide +kernel) tw_224 rfl ?_
  refine at_isub 18 rfl (by decide +kernel) ?_
  refine at_istore_n (i := 2) (lc' := [(0, va_rf (some t)), (1, .int (l1)), (2, .int ((((5000 : Int32) - (mI m t 5)) - (mI m t 7)) - (mI m t 8)))]) [1, 2, 0] 19 rfl (by decide +kernel) (by decide +kernel) rfl ?_
  refine at_aload_n (i := 0) 0 20 rfl (by decide +kernel) rfl ?_
  refine at_iconst (n := 0) (0 : Int32) 21 rfl (by decide +kernel) (by decide +kernel) ?_
  refine at_iload_n (i := 2) 2 22 rfl (by decide +kernel) rfl ?_
  refine at_aload_n (i := 0) 0 23 rfl (by decide +kernel) rfl ?_
  refine at_get (index := 29) (v := .int (mI m t 5)) cok1 5 26 rfl (by decide +kernel) k1 (by decide +kernel) tw_217 rfl ?_
  refine at_iload_n (i := 1) 1 27 rfl (by decide +kernel) rfl ?_
  refine at_imul 28 rfl (by decide +kernel) ?_
  refine at_bipush (n := 100) (100 : Int32) 30 rfl (by decide +kernel) (by decide +kernel) ?_
  refine at_idiv 31 rfl (by decide +kernel) (by decide +kernel) ?_
  refine at_imn (index := 64) 34 rfl (by decide +kernel) tw_858 (by simp [va_rf_cat, cat_int, cat_long]) ?_
  refine at_imx (index := 70) 37 rfl (by decide +kernel) tw_859 (by simp [va_rf_cat, cat_int, cat_long]) ?_
  refine at_putI (index := 32) cok1 6 40 rfl (by decide +kernel) k1 (by decide +kernel) tw_220 rfl rfl rfl (fun m2 e3 => ?_)
  replace h := h m2 e3
  have k4 : mK m2 t = 2 := by rw [e3]; exact k1
  exact at_vret rfl (by decide +kernel) h
set_option maxRecDepth 20000 in
set_option maxHeartbeats 4000000 in
theorem en_Law_init (g : Gc) {lv : Nat} {t : Nat} {l1 : Int32} {l2 : Int32} {m : Mm} {Q : Mm → Prop} (h : mK m (gz g + mC m) = 0 ∧ (¬ (imx (0 : Int32) l1) < 0 ∧ (imx (0 : Int32) l1).toNatClampNeg ≤ 10000 ∧ (∀ q2 m3, q2 = gz g + mC m → m3 = nw m q2 15 ((imx (0 : Int32) l1).toNatClampNeg) ((imx (0 : Int32) l1).toNatClampNeg) → (mK m3 t = 5 ∧ (∀ m11, m11 = sR m3 t 0 (some q2) → (∃ b15, mR m11 t 0 = some b15 ∧ (mK m11 b15 = 15 ∧ (mK m11 (gz g + mC m11) = 0 ∧ (¬ (nI (mN m11 b15)) < 0 ∧ (nI (mN m11 b15)).toNatClampNeg ≤ 10000 ∧ (∀ q19 m20, q19 = gz g + mC m11 → m20 = nw m11 q19 15 ((nI (mN m11 b15)).toNatClampNeg) ((nI (mN m11 b15)).toNatClampNeg) → (∀ m30, m30 = sR m20 t 1 (some q19) → (∃ b36, mR m30 t 0 = some b36 ∧ (mK m30 b36 = 15 ∧ (mK m30 (gz g + mC m30) = 0 ∧ (¬ (nI (mN m30 b36)) < 0 ∧ (nI (mN m30 b36)).toNatClampNeg ≤ 10000 ∧ (∀ q40 m41, q40 = gz g + mC m30 → m41 = nw m30 q40 15 ((nI (mN m30 b36)).toNatClampNeg) ((nI (mN m30 b36)).toNatClampNeg) → (∀ m53, m53 = sR m41 t 2 (some q40) → (∃ b61, mR m53 t 0 = some b61 ∧ (mK m53 b61 = 15 ∧ (mK m53 (gz g + mC m53) = 0 ∧ (¬ (nI (mN m53 b61)) < 0 ∧ (nI (mN m53 b61)).toNatClampNeg ≤ 10000 ∧ (∀ q65 m66, q65 = gz g + mC m53 → m66 = nw m53 q65 15 ((nI (mN m53 b61)).toNatClampNeg) ((nI (mN m53 b61)).toNatClampNeg) → (∀ m80, m80 = sR m66 t 3 (some q65) → (mK m80 (gz g + mC m80) = 0 ∧ (¬ (imx (0 : Int32) l2) < 0 ∧ (imx (0 : Int32) l2).toNatClampNeg ≤ 10000 ∧ (∀ q91 m92, q91 = gz g + mC m80 → m92 = nw m80 q91 15 ((imx (0 : Int32) l2).toNatClampNeg) ((imx (0 : Int32) l2).toNatClampNeg) → (∀ m107, m107 = sR m92 t 4 (some q91) → (Q m107)))))))))))))))))))))))))))) : CV g M_Law_init (lv + 1) [va_rf (some t), .int (l1), .int (l2)] m Q := by
  refine Call.of (by decide +kernel) (Nat.le_of_ble_eq_true rfl) ?_
  show At g M_Law_init (lv + 1) 0 [(0, va_rf (some t)), (1, .int (l1)), (2, .int (l2))] [] m (QV Q)
  refine at_aload_n (i := 0) 0 1 rfl (by decide +kernel) rfl ?_
  refine at_objInit 4 rfl (by decide +kernel) tw_380 tw_91 tw_92 (by decide) ?_
  refine at_aload_n (i := 0) 0 5 rfl (by decide +kernel) rfl ?_
  refine at_iconst (n := 0) (0 : Int32) 6 rfl (by decide +kernel) (by decide +kernel) ?_
  refine at_iload_n (i := 1) 1 7 rfl (by decide +kernel) rfl ?_
  refine at_imx (index := 7) 10 rfl (by decide +kernel) tw_381 (by simp [va_rf_cat, cat_int, cat_long]) ?_
  obtain ⟨z1, h⟩ := h
  obtain ⟨c6, c7, h⟩ := h
  refine at_newaI 12 rfl z1 (by decide +kernel) tw_265 c6 c7 (fun q2 m3 e4 e5 => ?_)
  replace h := h q2 m3 e4 e5
  have x8 : Ext m m3 := by rw [e5, e4]; exact Ext.nw z1 _ _ _
  have k9 : mK m3 q2 = 15 := by rw [e5]; exact if_pos rfl
  obtain ⟨k10, h⟩ := h
  refine at_putRF (index := 13) cok4 0 15 rfl (by decide +kernel) k10 (by decide +kernel) tw_384 rfl rfl rfl rfl (Or.inr ⟨_, rfl⟩) (fun m11 e12 => ?_)
  replace h := h m11 e12
  have k13 : mK m11 q2 = 15 := by rw [e12]; exact k9
  have k14 : mK m11 t = 5 := by rw [e12]; exact k10
  refine at_aload_n (i := 0) 0 16 rfl (by decide +kernel) rfl ?_
  refine at_aload_n (i := 0) 0 17 rfl (by decide +kernel) rfl ?_
  refine at_get (index := 13) (v := va_rf (mR m11 t 0)) cok4 0 20 rfl (by decide +kernel) k14 (by decide +kernel) tw_384 rfl ?_
  obtain ⟨b15, e16, h⟩ := h
  rw [e16]
  obtain ⟨k17, h⟩ := h
  refine at_alen 21 rfl (by decide +kernel) k17 (by decide) ?_
  obtain ⟨z18, h⟩ := h
  obtain ⟨c23, c24, h⟩ := h
  refine at_newaI 23 rfl z18 (by decide +kernel) tw_265 c23 c24 (fun q19 m20 e21 e22 => ?_)
  replace h := h q19 m20 e21 e22
  have x25 : Ext m11 m20 := by rw [e22, e21]; exact Ext.nw z18 _ _ _
  have k26 : mK m20 q2 = 15 := x25.k k13 (by decide)
  have k27 : mK m20 t = 5 := x25.k k14 (by decide)
  have k28 : mK m20 b15 = 15 := x25.k k17 (by decide)
  have k29 : mK m20 q19 = 15 := by rw [e22]; exact if_pos rfl
  refine at_putRF (index := 19) cok4 1 26 rfl (by decide +kernel) k27 (by decide +kernel) tw_386 rfl rfl rfl rfl (Or.inr ⟨_, rfl⟩) (fun m30 e31 => ?_)
  replace h := h m30 e31
  have k32 : mK m30 q2 = 15 := by rw [e31]; exact k26
  have k33 : mK m30 t = 5 := by rw [e31]; exact k27
  have k34 : mK m30 b15 = 15 := by rw [e31]; exact k28
  have k35 : mK m30 q19 = 15 := by rw [e31]; exact k29
  refine at_aload_n (i := 0) 0 27 rfl (by decide +kernel) rfl ?_
  refine at_aload_n (i := 0) 0 28 rfl (by decide +kernel) rfl ?_
  refine at_get (index := 13) (v := va_rf (mR m30 t 0)) cok4 0 31 rfl (by decide +kernel) k33 (by decide +kernel) tw_384 rfl ?_
  obtain ⟨b36, e37, h⟩ := h
  rw [e37]
  obtain ⟨k38, h⟩ := h
  refine at_alen 32 rfl (by decide +kernel) k38 (by decide) ?_
  obtain ⟨z39, h⟩ := h
  obtain ⟨c44, c45, h⟩ := h
  refine at_newaI 34 rfl z39 (by decide +kernel) tw_265 c44 c45 (fun q40 m41 e42 e43 => ?_)
  replace h := h q40 m41 e42 e43
  have x46 : Ext m30 m41 := by rw [e43, e42]; exact Ext.nw z39 _ _ _
  have k47 : mK m41 q2 = 15 := x46.k k32 (by decide)
  have k48 : mK m41 t = 5 := x46.k k33 (by decide)
  have k49 : mK m41 b15 = 15 := x46.k k34 (by decide)
  have k50 : mK m41 q19 = 15 := x46.k k35 (by decide)
  have k51 : mK m41 b36 = 15 := x46.k k38 (by decide)
  have k52 : mK m41 q40 = 15 := by rw [e43]; exact if_pos rfl
  refine at_putRF (index := 22) cok4 2 37 rfl (by decide +kernel) k48 (by decide +kernel) tw_388 rfl rfl rfl rfl (Or.inr ⟨_, rfl⟩) (fun m53 e54 => ?_)
  replace h := h m53 e54
  have k55 : mK m53 q2 = 15 := by rw [e54]; exact k47
  have k56 : mK m53 t = 5 := by rw [e54]; exact k48
  have k57 : mK m53 b15 = 15 := by rw [e54]; exact k49
  have k58 : mK m53 q19 = 15 := by rw [e54]; exact k50
  have k59 : mK m53 b36 = 15 := by rw [e54]; exact k51
  have k60 : mK m53 q40 = 15 := by rw [e54]; exact k52
  refine at_aload_n (i := 0) 0 38 rfl (by decide +kernel) rfl ?_
  refine at_aload_n (i := 0) 0 39 rfl (by decide +kernel) rfl ?_
  refine at_get (index := 13) (v := va_rf (mR m53 t 0)) cok4 0 42 rfl (by decide +kernel) k56 (by decide +kernel) tw_384 rfl ?_
  obtain ⟨b61, e62, h⟩ := h
  rw [e62]
  obtain ⟨k63, h⟩ := h
  refine at_alen 43 rfl (by decide +kernel) k63 (by decide) ?_
  obtain ⟨z64, h⟩ := h
  obtain ⟨c69, c70, h⟩ := h
  refine at_newaI 45 rfl z64 (by decide +kernel) tw_265 c69 c70 (fun q65 m66 e67 e68 => ?_)
  replace h := h q65 m66 e67 e68
  have x71 : Ext m53 m66 := by rw [e68, e67]; exact Ext.nw z64 _ _ _
  have k72 : mK m66 q2 = 15 := x71.k k55 (by decide)
  have k73 : mK m66 t = 5 := x71.k k56 (by decide)
  have k74 : mK m66 b15 = 15 := x71.k k57 (by decide)
  have k75 : mK m66 q19 = 15 := x71.k k58 (by decide)
  have k76 : mK m66 b36 = 15 := x71.k k59 (by decide)
  have k77 : mK m66 q40 = 15 := x71.k k60 (by decide)
  have k78 : mK m66 b61 = 15 := x71.k k63 (by decide)
  have k79 : mK m66 q65 = 15 := by rw [e68]; exact if_pos rfl
  refine at_putRF (index := 25) cok4 3 48 rfl (by decide +kernel) k73 (by decide +kernel) tw_390 rfl rfl rfl rfl (Or.inr ⟨_, rfl⟩) (fun m80 e81 => ?_)
  replace h := h m80 e81
  have k82 : mK m80 q2 = 15 := by rw [e81]; exact k72
  have k83 : mK m80 t = 5 := by rw [e81]; exact k73
  have k84 : mK m80 b15 = 15 := by rw [e81]; exact k74
  have k85 : mK m80 q19 = 15 := by rw [e81]; exact k75
  have k86 : mK m80 b36 = 15 := by rw [e81]; exact k76
  have k87 : mK m80 q40 = 15 := by rw [e81]; exact k77
  have k88 : mK m80 b61 = 15 := by rw [e81]; exact k78
  have k89 : mK m80 q65 = 15 := by rw [e81]; exact k79
  refine at_aload_n (i := 0) 0 49 rfl (by decide +kernel) rfl ?_
  refine at_iconst (n := 0) (0 : Int32) 50 rfl (by decide +kernel) (by decide +kernel) ?_
  refine at_iload_n (i := 2) 2 51 rfl (by decide +kernel) rfl ?_
  refine at_imx (index := 7) 54 rfl (by decide +kernel) tw_381 (by simp [va_rf_cat, cat_int, cat_long]) ?_
  obtain ⟨z90, h⟩ := h
  obtain ⟨c95, c96, h⟩ := h
  refine at_newaI 56 rfl z90 (by decide +kernel) tw_265 c95 c96 (fun q91 m92 e93 e94 => ?_)
  replace h := h q91 m92 e93 e94
  have x97 : Ext m80 m92 := by rw [e94, e93]; exact Ext.nw z90 _ _ _
  have k98 : mK m92 q2 = 15 := x97.k k82 (by decide)
  have k99 : mK m92 t = 5 := x97.k k83 (by decide)
  have k100 : mK m92 b15 = 15 := x97.k k84 (by decide)
  have k101 : mK m92 q19 = 15 := x97.k k85 (by decide)
  have k102 : mK m92 b36 = 15 := x97.k k86 (by decide)
  have k103 : mK m92 q40 = 15 := x97.k k87 (by decide)
  have k104 : mK m92 b61 = 15 := x97.k k88 (by decide)
  have k105 : mK m92 q65 = 15 := x97.k k89 (by decide)
  have k106 : mK m92 q91 = 15 := by rw [e94]; exact if_pos rfl
  refine at_putRF (index := 28) cok4 4 59 rfl (by decide +kernel) k99 (by decide +kernel) tw_392 rfl rfl rfl rfl (Or.inr ⟨_, rfl⟩) (fun m107 e108 => ?_)
  replace h := h m107 e108
  have k109 : mK m107 q2 = 15 := by rw [e108]; exact k98
  have k110 : mK m107 t = 5 := by rw [e108]; exact k99
  have k111 : mK m107 b15 = 15 := by rw [e108]; exact k100
  have k112 : mK m107 q19 = 15 := by rw [e108]; exact k101
  have k113 : mK m107 b36 = 15 := by rw [e108]; exact k102
  have k114 : mK m107 q40 = 15 := by rw [e108]; exact k103
  have k115 : mK m107 b61 = 15 := by rw [e108]; exact k104
  have k116 : mK m107 q65 = 15 := by rw [e108]; exact k105
  have k117 : mK m107 q91 = 15 := by rw [e108]; exact k106
  exact at_vret rfl (by decide +kernel) h
set_option maxRecDepth 20000 in
set_option maxHeartbeats 4000000 in
theorem en_Law_copy (g : Gc) {lv : Nat} {t : Nat} {m : Mm} {Q : Option Nat → Mm → Prop} (h : mK m (gz g + mC m) = 0 ∧ (∀ q2 m3, q2 = gz g + mC m → m3 = nw m q2 5 0 7 → (mK m3 t = 5 ∧ (CV g M_Law_init lv [va_rf (some q2), .int (mI m3 t 5), .int (mI m3 t 6)] m3 (fun m9 => (∀ m13, m13 = sI m9 q2 5 (mI m9 t 5) → (∀ m17, m17 = sI m13 q2 6 (mI m13 t 6) → (∃ b21, mR m17 t 0 = some b21 ∧ (mK m17 b21 = 15 ∧ (∃ b24, mR m17 q2 0 = some b24 ∧ (mK m17 b24 = 15 ∧ (¬ (0 : Int32) < 0 ∧ ¬ (0 : Int32) < 0 ∧ ¬ (mI m17 t 5) < 0 ∧ (0 : Int32).toNatClampNeg + (mI m17 t 5).toNatClampNeg ≤ mN m17 b21 ∧ (0 : Int32).toNatClampNeg + (mI m17 t 5).toNatClampNeg ≤ mN m17 b24 ∧ (∀ m32, m32 = rI m17 b24 (va_cpy (mI m17 b21) (mI m17 b24) (0 : Int32).toNatClampNeg (0 : Int32).toNatClampNeg (mI m17 t 5).toNatClampNeg) → (∃ b38, mR m32 t 1 = some b38 ∧ (mK m32 b38 = 15 ∧ (∃ b41, mR m32 q2 1 = some b41 ∧ (mK m32 b41 = 15 ∧ (¬ (0 : Int32) < 0 ∧ ¬ (0 : Int32) < 0 ∧ ¬ (mI m32 t 5) < 0 ∧ (0 : Int32).toNatClampNeg + (mI m32 t 5).toNatClampNeg ≤ mN m32 b38 ∧ (0 : Int32).toNatClampNeg + (mI m32 t 5).toNatClampNeg ≤ mN m32 b41 ∧ (∀ m49, m49 = rI m32 b41 (va_cpy (mI m32 b38) (mI m32 b41) (0 : Int32).toNatClampNeg (0 : Int32).toNatClampNeg (mI m32 t 5).toNatClampNeg) → (∃ b57, mR m49 t 2 = some b57 ∧ (mK m49 b57 = 15 ∧ (∃ b60, mR m49 q2 2 = some b60 ∧ (mK m49 b60 = 15 ∧ (¬ (0 : Int32) < 0 ∧ ¬ (0 : Int32) < 0 ∧ ¬ (mI m49 t 5) < 0 ∧ (0 : Int32).toNatClampNeg + (mI m49 t 5).toNatClampNeg ≤ mN m49 b57 ∧ (0 : Int32).toNatClampNeg + (mI m49 t 5).toNatClampNeg ≤ mN m49 b60 ∧ (∀ m68, m68 = rI m49 b60 (va_cpy (mI m49 b57) (mI m49 b60) (0 : Int32).toNatClampNeg (0 : Int32).toNatClampNeg (mI m49 t 5).toNatClampNeg) → (∃ b78, mR m68 t 3 = some b78 ∧ (mK m68 b78 = 15 ∧ (∃ b81, mR m68 q2 3 = some b81 ∧ (mK m68 b81 = 15 ∧ (¬ (0 : Int32) < 0 ∧ ¬ (0 : Int32) < 0 ∧ ¬ (mI m68 t 5) < 0 ∧ (0 : Int32).toNatClampNeg + (mI m68 t 5).toNatClampNeg ≤ mN m68 b78 ∧ (0 : Int32).toNatClampNeg + (mI m68 t 5).toNatClampNeg ≤ mN m68 b81 ∧ (∀ m89, m89 = rI m68 b81 (va_cpy (mI m68 b78) (mI m68 b81) (0 : Int32).toNatClampNeg (0 : Int32).toNatClampNeg (mI m68 t 5).toNatClampNeg) → (∃ b101, mR m89 t 4 = some b101 ∧ (mK m89 b101 = 15 ∧ (∃ b104, mR m89 q2 4 = some b104 ∧ (mK m89 b104 = 15 ∧ (¬ (0 : Int32) < 0 ∧ ¬ (0 : Int32) < 0 ∧ ¬ (mI m89 t 6) < 0 ∧ (0 : Int32).toNatClampNeg + (mI m89 t 6).toNatClampNeg ≤ mN m89 b101 ∧ (0 : Int32).toNatClampNeg + (mI m89 t 6).toNatClampNeg ≤ mN m89 b104 ∧ (∀ m112, m112 = rI m89 b104 (va_cpy (mI m89 b101) (mI m89 b104) (0 : Int32).toNatClampNeg (0 : Int32).toNatClampNeg (mI m89 t 6).toNatClampNeg) → (Q (some q2) m112)))))))))))))))))))))))))))))))))))))) : CR g M_Law_copy (lv + 1) [va_rf (some t)] m Q := by
  refine Call.of (by decide +kernel) (Nat.le_of_ble_eq_true rfl) ?_
  show At g M_Law_copy (lv + 1) 0 [(0, va_rf (some t))] [] m (QR Q)
  obtain ⟨z1, h⟩ := h
  refine at_new (index := 14) cok4 3 rfl z1 (by decide +kernel) tw_651 tw_376 tw_73 (fun q2 m3 e4 e5 => ?_)
  replace h := h q2 m3 e4 e5
  have x6 : Ext m m3 := by rw [e5, e4]; exact Ext.nw z1 _ _ _
  have k7 : mK m3 q2 = 5 := by rw [e5]; exact if_pos rfl
  refine at_dup 4 rfl (by decide +kernel) (va_rf_cat _) ?_
  refine at_aload_n (i := 0) 0 5 rfl (by decide +kernel) rfl ?_
  obtain ⟨k8, h⟩ := h
  refine at_get (index := 31) (v := .int (mI m3 t 5)) cok4 5 8 rfl (by decide +kernel) k8 (by decide +kernel) tw_394 rfl ?_
  refine at_aload_n (i := 0) 0 9 rfl (by decide +kernel) rfl ?_
  refine at_get (index := 35) (v := .int (mI m3 t 6)) cok4 6 12 rfl (by decide +kernel) k8 (by decide +kernel) tw_398 rfl ?_
  refine at_callI mb_Law_init tw_378 rfl rfl (index := 38) tw_652 [.int (mI m3 t 5), .int (mI m3 t 6)] [va_rf (some q2)] rfl rfl (by simp [va_rf_cat, cat_int, cat_long]) 15 rfl (by decide +kernel) (Call.toV (CV.monoE h (fun m9 h y10 => ?_)))
  have k11 : mK m9 q2 = 5 := y10.k k7 (by decide)
  have k12 : mK m9 t = 5 := y10.k k8 (by decide)
  refine at_astore_n (i := 1) (lc' := [(0, va_rf (some t)), (1, va_rf (some q2))]) [1, 0] 16 rfl (by decide +kernel) (by decide +kernel) rfl ?_
  refine at_aload_n (i := 1) 1 17 rfl (by decide +kernel) rfl ?_
  refine at_aload_n (i := 0) 0 18 rfl (by decide +kernel) rfl ?_
  refine at_get (index := 31) (v := .int (mI m9 t 5)) cok4 5 21 rfl (by decide +kernel) k12 (by decide +kernel) tw_394 rfl ?_
  refine at_putI (index := 31) cok4 5 24 rfl (by decide +kernel) k11 (by decide +kernel) tw_394 rfl rfl rfl (fun m13 e14 => ?_)
  replace h := h m13 e14
  have k15 : mK m13 q2 = 5 := by rw [e14]; exact k11
  have k16 : mK m13 t = 5 := by rw [e14]; exact k12
  refine at_aload_n (i := 1) 1 25 rfl (by decide +kernel) rfl ?_
  refine at_aload_n (i := 0) 0 26 rfl (by decide +kernel) rfl ?_
  refine at_get (index := 35) (v := .int (mI m13 t 6)) cok4 6 29 rfl (by decide +kernel) k16 (by decide +kernel) tw_398 rfl ?_
  refine at_putI (index := 35) cok4 6 32 rfl (by decide +kernel) k15 (by decide +kernel) tw_398 rfl rfl rfl (fun m17 e18 => ?_)
  replace h := h m17 e18
  have k19 : mK m17 q2 = 5 := by rw [e18]; exact k15
  have k20 : mK m17 t = 5 := by rw [e18]; exact k16
  refine at_aload_n (i := 0) 0 33 rfl (by decide +kernel) rfl ?_
  refine at_get (index := 13) (v := va_rf (mR m17 t 0)) cok4 0 36 rfl (by decide +kernel) k20 (by decide +kernel) tw_384 rfl ?_
  refine at_iconst (n := 0) (0 : Int32) 37 rfl (by decide +kernel) (by decide +kernel) ?_
  refine at_aload_n (i := 1) 1 38 rfl (by decide +kernel) rfl ?_
  refine at_get (index := 13) (v := va_rf (mR m17 q2 0)) cok4 0 41 rfl (by decide +kernel) k19 (by decide +kernel) tw_384 rfl ?_
  refine at_iconst (n := 0) (0 : Int32) 42 rfl (by decide +kernel) (by decide +kernel) ?_
  refine at_aload_n (i := 0) 0 43 rfl (by decide +kernel) rfl ?_
  refine at_get (index := 31) (v := .int (mI m17 t 5)) cok4 5 46 rfl (by decide +kernel) k20 (by decide +kernel) tw_394 rfl ?_
  obtain ⟨b21, e22, h⟩ := h
  rw [e22]
  obtain ⟨k23, h⟩ := h
  obtain ⟨b24, e25, h⟩ := h
  rw [e25]
  obtain ⟨k26, h⟩ := h
  obtain ⟨c27, c28, c29, c30, c31, h⟩ := h
  refine at_copyI 49 rfl (by decide +kernel) tw_653 tw_655 tw_654 tw_82 k23 k26 c27 c28 c29 c30 c31 (by decide) (fun m32 e33 => ?_)
  replace h := h m32 e33
  have k34 : mK m32 q2 = 5 := by rw [e33]; exact k19
  have k35 : mK m32 t = 5 := by rw [e33]; exact k20
  have k36 : mK m32 b21 = 15 := by rw [e33]; exact k23
  have k37 : mK m32 b24 = 15 := by rw [e33]; exact k26
  refine at_aload_n (i := 0) 0 50 rfl (by decide +kernel) rfl ?_
  refine at_get (index := 19) (v := va_rf (mR m32 t 1)) cok4 1 53 rfl (by decide +kernel) k35 (by decide +kernel) tw_386 rfl ?_
  refine at_iconst (n := 0) (0 : Int32) 54 rfl (by decide +kernel) (by decide +kernel) ?_
  refine at_aload_n (i := 1) 1 55 rfl (by decide +kernel) rfl ?_
  refine at_get (index := 19) (v := va_rf (mR m32 q2 1)) cok4 1 58 rfl (by decide +kernel) k34 (by decide +kernel) tw_386 rfl ?_
  refine at_iconst (n := 0) (0 : Int32) 59 rfl (by decide +kernel) (by decide +kernel) ?_
  refine at_aload_n (i := 0) 0 60 rfl (by decide +kernel) rfl ?_
  refine at_get (index := 31) (v := .int (mI m32 t 5)) cok4 5 63 rfl (by decide +kernel) k35 (by decide +kernel) tw_394 rfl ?_
  obtain ⟨b38, e39, h⟩ := h
  rw [e39]
  obtain ⟨k40, h⟩ := h
  obtain ⟨b41, e42, h⟩ := h
  rw [e42]
  obtain ⟨k43, h⟩ := h
  obtain ⟨c44, c45, c46, c47, c48, h⟩ := h
  refine at_copyI 66 rfl (by decide +kernel) tw_653 tw_655 tw_654 tw_82 k40 k43 c44 c45 c46 c47 c48 (by decide) (fun m49 e50 => ?_)
  replace h := h m49 e50
  have k51 : mK m49 q2 = 5 := by rw [e50]; exact k34
  have k52 : mK m49 t = 5 := by rw [e50]; exact k35
  have k53 : mK m49 b21 = 15 := by rw [e50]; exact k36
  have k54 : mK m49 b24 = 15 := by rw [e50]; exact k37
  have k55 : mK m49 b38 = 15 := by rw [e50]; exact k40
  have k56 : mK m49 b41 = 15 := by rw [e50]; exact k43
  refine at_aload_n (i := 0) 0 67 rfl (by decide +kernel) rfl ?_
  refine at_get (index := 22) (v := va_rf (mR m49 t 2)) cok4 2 70 rfl (by decide +kernel) k52 (by decide +kernel) tw_388 rfl ?_
  refine at_iconst (n := 0) (0 : Int32) 71 rfl (by decide +kernel) (by decide +kernel) ?_
  refine at_aload_n (i := 1) 1 72 rfl (by decide +kernel) rfl ?_
  refine at_get (index := 22) (v := va_rf (mR m49 q2 2)) cok4 2 75 rfl (by decide +kernel) k51 (by decide +kernel) tw_388 rfl ?_
  refine at_iconst (n := 0) (0 : Int32) 76 rfl (by decide +kernel) (by decide +kernel) ?_
  refine at_aload_n (i := 0) 0 77 rfl (by decide +kernel) rfl ?_
  refine at_get (index := 31) (v := .int (mI m49 t 5)) cok4 5 80 rfl (by decide +kernel) k52 (by decide +kernel) tw_394 rfl ?_
  obtain ⟨b57, e58, h⟩ := h
  rw [e58]
  obtain ⟨k59, h⟩ := h
  obtain ⟨b60, e61, h⟩ := h
  rw [e61]
  obtain ⟨k62, h⟩ := h
  obtain ⟨c63, c64, c65, c66, c67, h⟩ := h
  refine at_copyI 83 rfl (by decide +kernel) tw_653 tw_655 tw_654 tw_82 k59 k62 c63 c64 c65 c66 c67 (by decide) (fun m68 e69 => ?_)
  replace h := h m68 e69
  have k70 : mK m68 q2 = 5 := by rw [e69]; exact k51
  have k71 : mK m68 t = 5 := by rw [e69]; exact k52
  have k72 : mK m68 b21 = 15 := by rw [e69]; exact k53
  have k73 : mK m68 b24 = 15 := by rw [e69]; exact k54
  have k74 : mK m68 b38 = 15 := by rw [e69]; exact k55
  have k75 : mK m68 b41 = 15 := by rw [e69]; exact k56
  have k76 : mK m68 b57 = 15 := by rw [e69]; exact k59
  have k77 : mK m68 b60 = 15 := by rw [e69]; exact k62
  refine at_aload_n (i := 0) 0 84 rfl (by decide +kernel) rfl ?_
  refine at_get (index := 25) (v := va_rf (mR m68 t 3)) cok4 3 87 rfl (by decide +kernel) k71 (by decide +kernel) tw_390 rfl ?_
  refine at_iconst (n := 0) (0 : Int32) 88 rfl (by decide +kernel) (by decide +kernel) ?_
  refine at_aload_n (i := 1) 1 89 rfl (by decide +kernel) rfl ?_
  refine at_get (index := 25) (v := va_rf (mR m68 q2 3)) cok4 3 92 rfl (by decide +kernel) k70 (by decide +kernel) tw_390 rfl ?_
  refine at_iconst (n := 0) (0 : Int32) 93 rfl (by decide +kernel) (by decide +kernel) ?_
  refine at_aload_n (i := 0) 0 94 rfl (by decide +kernel) rfl ?_
  refine at_get (index := 31) (v := .int (mI m68 t 5)) cok4 5 97 rfl (by decide +kernel) k71 (by decide +kernel) tw_394 rfl ?_
  obtain ⟨b78, e79, h⟩ := h
  rw [e79]
  obtain ⟨k80, h⟩ := h
  obtain ⟨b81, e82, h⟩ := h
  rw [e82]
  obtain ⟨k83, h⟩ := h
  obtain ⟨c84, c85, c86, c87, c88, h⟩ := h
  refine at_copyI 100 rfl (by decide +kernel) tw_653 tw_655 tw_654 tw_82 k80 k83 c84 c85 c86 c87 c88 (by decide) (fun m89 e90 => ?_)
  replace h := h m89 e90
  have k91 : mK m89 q2 = 5 := by rw [e90]; exact k70
  have k92 : mK m89 t = 5 := by rw [e90]; exact k71
  have k93 : mK m89 b21 = 15 := by rw [e90]; exact k72
  have k94 : mK m89 b24 = 15 := by rw [e90]; exact k73
  have k95 : mK m89 b38 = 15 := by rw [e90]; exact k74
  have k96 : mK m89 b41 = 15 := by rw [e90]; exact k75
  have k97 : mK m89 b57 = 15 := by rw [e90]; exact k76
  have k98 : mK m89 b60 = 15 := by rw [e90]; exact k77
  have k99 : mK m89 b78 = 15 := by rw [e90]; exact k80
  have k100 : mK m89 b81 = 15 := by rw [e90]; exact k83
  refine at_aload_n (i := 0) 0 101 rfl (by decide +kernel) rfl ?_
  refine at_get (index := 28) (v := va_rf (mR m89 t 4)) cok4 4 104 rfl (by decide +kernel) k92 (by decide +kernel) tw_392 rfl ?_
  refine at_iconst (n := 0) (0 : Int32) 105 rfl (by decide +kernel) (by decide +kernel) ?_
  refine at_aload_n (i := 1) 1 106 rfl (by decide +kernel) rfl ?_
  refine at_get (index := 28) (v := va_rf (mR m89 q2 4)) cok4 4 109 rfl (by decide +kernel) k91 (by decide +kernel) tw_392 rfl ?_
  refine at_iconst (n := 0) (0 : Int32) 110 rfl (by decide +kernel) (by decide +kernel) ?_
  refine at_aload_n (i := 0) 0 111 rfl (by decide +kernel) rfl ?_
  refine at_get (index := 35) (v := .int (mI m89 t 6)) cok4 6 114 rfl (by decide +kernel) k92 (by decide +kernel) tw_398 rfl ?_
  obtain ⟨b101, e102, h⟩ := h
  rw [e102]
  obtain ⟨k103, h⟩ := h
  obtain ⟨b104, e105, h⟩ := h
  rw [e105]
  obtain ⟨k106, h⟩ := h
  obtain ⟨c107, c108, c109, c110, c111, h⟩ := h
  refine at_copyI 117 rfl (by decide +kernel) tw_653 tw_655 tw_654 tw_82 k103 k106 c107 c108 c109 c110 c111 (by decide) (fun m112 e113 => ?_)
  replace h := h m112 e113
  have k114 : mK m112 q2 = 5 := by rw [e113]; exact k91
  have k115 : mK m112 t = 5 := by rw [e113]; exact k92
  have k116 : mK m112 b21 = 15 := by rw [e113]; exact k93
  have k117 : mK m112 b24 = 15 := by rw [e113]; exact k94
  have k118 : mK m112 b38 = 15 := by rw [e113]; exact k95
  have k119 : mK m112 b41 = 15 := by rw [e113]; exact k96
  have k120 : mK m112 b57 = 15 := by rw [e113]; exact k97
  have k121 : mK m112 b60 = 15 := by rw [e113]; exact k98
  have k122 : mK m112 b78 = 15 := by rw [e113]; exact k99
  have k123 : mK m112 b81 = 15 := by rw [e113]; exact k100
  have k124 : mK m112 b101 = 15 := by rw [e113]; exact k103
  have k125 : mK m112 b104 = 15 := by rw [e113]; exact k106
  refine at_aload_n (i := 1) 1 118 rfl (by decide +kernel) rfl ?_
  exact at_aret rfl (Or.inl ⟨_, rfl⟩) (by decide +kernel) h
set_option maxRecDepth 20000 in
set_option maxHeartbeats 4000000 in
theorem en_Law_emit (g : Gc) {lv : Nat} {t : Nat} {l1 : Int32} {m : Mm} {Q : Mm → Prop} (h : mK m t = 5 ∧ (∃ b2, mR m t 4 = some b2 ∧ (mK m b2 = 15 ∧ (if (nI (mN m b2)) ≤ (mI m t 6) then (Q m) else (vp_in (mI m t 6) (mN m b2) ∧ (∀ m7, m7 = sI m b2 (mI m t 6).toNatClampNeg l1 → (∀ m11, m11 = sI m7 t 6 ((mI m7 t 6) + (1 : Int32)) → (Q m11)))))))) : CV g M_Law_emit (lv + 1) [va_rf (some t), .int (l1)] m Q := by
  refine Call.of (by decide +kernel) (Nat.le_of_ble_eq_true rfl) ?_
  show At g M_Law_emit (lv + 1) 0 [(0, va_rf (some t)), (1, .int (l1))] [] m (QV Q)
  refine at_aload_n (i := 0) 0 1 rfl (by decide +kernel) rfl ?_
  obtain ⟨k1, h⟩ := h
  refine at_get (index := 35) (v := .int (mI m t 6)) cok4 6 4 rfl (by decide +kernel) k1 (by decide +kernel) tw_398 rfl ?_
  refine at_aload_n (i := 0) 0 5 rfl (by decide +kernel) rfl ?_
  refine at_get (index := 28) (v := va_rf (mR m t 4)) cok4 4 8 rfl (by decide +kernel) k1 (by decide +kernel) tw_392 rfl ?_
  obtain ⟨b2, e3, h⟩ := h
  rw [e3]
  obtain ⟨k4, h⟩ := h
  refine at_alen 9 rfl (by decide +kernel) k4 (by decide) ?_
  refine at_icmp_ge (off := 23) 32 12 rfl (by decide +kernel) (by decide +kernel) (fun c5 => ?_) (fun c5 => ?_)
  · rw [if_pos c5] at h
    exact at_vret rfl (by decide +kernel) h
  · rw [if_neg c5] at h
    refine at_aload_n (i := 0) 0 13 rfl (by decide +kernel) rfl ?_
    refine at_get (index := 28) (v := va_rf (mR m t 4)) cok4 4 16 rfl (by decide +kernel) k1 (by decide +kernel) tw_392 rfl ?_
    rw [e3]
    refine at_aload_n (i := 0) 0 17 rfl (by decide +kernel) rfl ?_
    refine at_get (index := 35) (v := .int (mI m t 6)) cok4 6 20 rfl (by decide +kernel) k1 (by decide +kernel) tw_398 rfl ?_
    refine at_iload_n (i := 1) 1 21 rfl (by decide +kernel) rfl ?_
    obtain ⟨v6, h⟩ := h
    refine at_iast 22 rfl (by decide +kernel) k4 v6 (fun m7 e8 => ?_)
    replace h := h m7 e8
    have k9 : mK m7 t = 5 := by rw [e8]; exact k1
    have k10 : mK m7 b2 = 15 := by rw [e8]; exact k4
    refine at_aload_n (i := 0) 0 23 rfl (by decide +kernel) rfl ?_
    refine at_dup 24 rfl (by decide +kernel) (va_rf_cat _) ?_
    refine at_get (index := 35) (v := .int (mI m7 t 6)) cok4 6 27 rfl (by decide +kernel) k9 (by decide +kernel) tw_398 rfl ?_
    refine at_iconst (n := 1) (1 : Int32) 28 rfl (by decide +kernel) (by decide +kernel) ?_
    refine at_iadd 29 rfl (by decide +kernel) ?_
    refine at_putI (index := 35) cok4 6 32 rfl (by decide +kernel) k9 (by decide +kernel) tw_398 rfl rfl rfl (fun m11 e12 => ?_)
    replace h := h m11 e12
    have k13 : mK m11 t = 5 := by rw [e12]; exact k9
    have k14 : mK m11 b2 = 15 := by rw [e12]; exact k10
    exact at_vret rfl (by decide +kernel) h
set_option maxRecDepth 20000 in
set_option maxHeartbeats 4000000 in
theorem en_Law_addClause (g : Gc) {lv : Nat} {t : Nat} {l1 : Int32} {l2 : Int32} {l3 : Int32} {m : Mm} {Q : Mm → Prop} (h : mK m t = 5 ∧ (∃ b2, mR m t 0 = some b2 ∧ (mK m b2 = 15 ∧ (if (nI (mN m b2)) ≤ (mI m t 5) then (Q m) else (vp_in (mI m t 5) (mN m b2) ∧ (∀ m7, m7 = sI m b2 (mI m t 5).toNatClampNeg l1 → (∃ b11, mR m7 t 1 = some b11 ∧ (mK m7 b11 = 15 ∧ (vp_in (mI m7 t 5) (mN m7 b11) ∧ (∀ m15, m15 = sI m7 b11 (mI m7 t 5).toNatClampNeg l2 → (∃ b20, mR m15 t 2 = some b20 ∧ (mK m15 b20 = 15 ∧ (vp_in (mI m15 t 5) (mN m15 b20) ∧ (∀ m24, m24 = sI m15 b20 (mI m15 t 5).toNatClampNeg l3 → (∃ b30, mR m24 t 3 = some b30 ∧ (mK m24 b30 = 15 ∧ (vp_in (mI m24 t 5) (mN m24 b30) ∧ (∀ m34, m34 = sI m24 b30 (mI m24 t 5).toNatClampNeg (mI m24 t 6) → (∀ m41, m41 = sI m34 t 5 ((mI m34 t 5) + (1 : Int32)) → (Q m41)))))))))))))))))))) : CV g M_Law_addClause (lv + 1) [va_rf (some t), .int (l1), .int (l2), .int (l3)] m Q := by
  refine Call.of (by decide +kernel) (Nat.le_of_ble_eq_true rfl) ?_
  show At g M_Law_addClause (lv + 1) 0 [(0, va_rf (some t)), (1, .int (l1)), (2, .int (l2)), (3, .int (l3))] [] m (QV Q)
  refine at_aload_n (i := 0) 0 1 rfl (by decide +kernel) rfl ?_
  obtain ⟨k1, h⟩ := h
  refine at_get (index := 31) (v := .int (mI m t 5)) cok4 5 4 rfl (by decide +kernel) k1 (by decide +kernel) tw_394 rfl ?_
  refine at_aload_n (i := 0) 0 5 rfl (by decide +kernel) rfl ?_
  refine at_get (index := 13) (v := va_rf (mR m t 0)) cok4 0 8 rfl (by decide +kernel) k1 (by decide +kernel) tw_384 rfl ?_
  obtain ⟨b2, e3, h⟩ := h
  rw [e3]
  obtain ⟨k4, h⟩ := h
  refine at_alen 9 rfl (by decide +kernel) k4 (by decide) ?_
  refine at_icmp_ge (off := 56) 65 12 rfl (by decide +kernel) (by decide +kernel) (fun c5 => ?_) (fun c5 => ?_)
  · rw [if_pos c5] at h
    exact at_vret rfl (by decide +kernel) h
  · rw [if_neg c5] at h
    refine at_aload_n (i := 0) 0 13 rfl (by decide +kernel) rfl ?_
    refine at_get (index := 13) (v := va_rf (mR m t 0)) cok4 0 16 rfl (by decide +kernel) k1 (by decide +kernel) tw_384 rfl ?_
    rw [e3]
    refine at_aload_n (i := 0) 0 17 rfl (by decide +kernel) rfl ?_
    refine at_get (index := 31) (v := .int (mI m t 5)) cok4 5 20 rfl (by decide +kernel) k1 (by decide +kernel) tw_394 rfl ?_
    refine at_iload_n (i := 1) 1 21 rfl (by decide +kernel) rfl ?_
    obtain ⟨v6, h⟩ := h
    refine at_iast 22 rfl (by decide +kernel) k4 v6 (fun m7 e8 => ?_)
    replace h := h m7 e8
    have k9 : mK m7 t = 5 := by rw [e8]; exact k1
    have k10 : mK m7 b2 = 15 := by rw [e8]; exact k4
    refine at_aload_n (i := 0) 0 23 rfl (by decide +kernel) rfl ?_
    refine at_get (index := 19) (v := va_rf (mR m7 t 1)) cok4 1 26 rfl (by decide +kernel) k9 (by decide +kernel) tw_386 rfl ?_
    refine at_aload_n (i := 0) 0 27 rfl (by decide +kernel) rfl ?_
    refine at_get (index := 31) (v := .int (mI m7 t 5)) cok4 5 30 rfl (by decide +kernel) k9 (by decide +kernel) tw_394 rfl ?_
    refine at_iload_n (i := 2) 2 31 rfl (by decide +kernel) rfl ?_
    obtain ⟨b11, e12, h⟩ := h
    rw [e12]
    obtain ⟨k13, h⟩ := h
    obtain ⟨v14, h⟩ := h
    refine at_iast 32 rfl (by decide +kernel) k13 v14 (fun m15 e16 => ?_)
    replace h := h m15 e16
    have k17 : mK m15 t = 5 := by rw [e16]; exact k9
    have k18 : mK m15 b2 = 15 := by rw [e16]; exact k10
    have k19 : mK m15 b11 = 15 := by rw [e16]; exact k13
    refine at_aload_n (i := 0) 0 33 rfl (by decide +kernel) rfl ?_
    refine at_get (index := 22) (v := va_rf (mR m15 t 2)) cok4 2 36 rfl (by decide +kernel) k17 (by decide +kernel) tw_388 rfl ?_
    refine at_aload_n (i := 0) 0 37 rfl (by decide +kernel) rfl ?_
    refine at_get (index := 31) (v := .int (mI m15 t 5)) cok4 5 40 rfl (by decide +kernel) k17 (by decide +kernel) tw_394 rfl ?_
    refine at_iload_n (i := 3) 3 41 rfl (by decide +kernel) rfl ?_
    obtain ⟨b20, e21, h⟩ := h
    rw [e21]
    obtain ⟨k22, h⟩ := h
    obtain ⟨v23, h⟩ := h
    refine at_iast 42 rfl (by decide +kernel) k22 v23 (fun m24 e25 => ?_)
    replace h := h m24 e25
    have k26 : mK m24 t = 5 := by rw [e25]; exact k17
    have k27 : mK m24 b2 = 15 := by rw [e25]; exact k18
    have k28 : mK m24 b11 = 15 := by rw [e25]; exact k19
    have k29 : mK m24 b20 = 15 := by rw [e25]; exact k22
    refine at_aload_n (i := 0) 0 43 rfl (by decide +kernel) rfl ?_
    refine at_get (index := 25) (v := va_rf (mR m24 t 3)) cok4 3 46 rfl (by decide +kernel) k26 (by decide +kernel) tw_390 rfl ?_
    refine at_aload_n (i := 0) 0 47 rfl (by decide +kernel) rfl ?_
    refine at_get (index := 31) (v := .int (mI m24 t 5)) cok4 5 50 rfl (by decide +kernel) k26 (by decide +kernel) tw_394 rfl ?_
    refine at_aload_n (i := 0) 0 51 rfl (by decide +kernel) rfl ?_
    refine at_get (index := 35) (v := .int (mI m24 t 6)) cok4 6 54 rfl (by decide +kernel) k26 (by decide +kernel) tw_398 rfl ?_
    obtain ⟨b30, e31, h⟩ := h
    rw [e31]
    obtain ⟨k32, h⟩ := h
    obtain ⟨v33, h⟩ := h
    refine at_iast 55 rfl (by decide +kernel) k32 v33 (fun m34 e35 => ?_)
    replace h := h m34 e35
    have k36 : mK m34 t = 5 := by rw [e35]; exact k26
    have k37 : mK m34 b2 = 15 := by rw [e35]; exact k27
    have k38 : mK m34 b11 = 15 := by rw [e35]; exact k28
    have k39 : mK m34 b20 = 15 := by rw [e35]; exact k29
    have k40 : mK m34 b30 = 15 := by rw [e35]; exact k32
    refine at_aload_n (i := 0) 0 56 rfl (by decide +kernel) rfl ?_
    refine at_dup 57 rfl (by decide +kernel) (va_rf_cat _) ?_
    refine at_get (index := 31) (v := .int (mI m34 t 5)) cok4 5 60 rfl (by decide +kernel) k36 (by decide +kernel) tw_394 rfl ?_
    refine at_iconst (n := 1) (1 : Int32) 61 rfl (by decide +kernel) (by decide +kernel) ?_
    refine at_iadd 62 rfl (by decide +kernel) ?_
    refine at_putI (index := 31) cok4 5 65 rfl (by decide +kernel) k36 (by decide +kernel) tw_394 rfl rfl rfl (fun m41 e42 => ?_)
    replace h := h m41 e42
    have k43 : mK m41 t = 5 := by rw [e42]; exact k36
    have k44 : mK m41 b2 = 15 := by rw [e42]; exact k37
    have k45 : mK m41 b11 = 15 := by rw [e42]; exact k38
    have k46 : mK m41 b20 = 15 := by rw [e42]; exact k39
    have k47 : mK m41 b30 = 15 := by rw [e42]; exact k40
    exact at_vret rfl (by decide +kernel) h
set_option maxRecDepth 20000 in
set_option maxHeartbeats 4000000 in
theorem en_Loan_init (g : Gc) {lv : Nat} {t : Nat} {l1 : Int32} {l2 : Int32} {l3 : Int64} {m : Mm} {Q : Mm → Prop} (h : mK m t = 6 ∧ (∀ m2, m2 = sI m t 0 l1 → (∀ m5, m5 = sI m2 t 1 l2 → (∀ m8, m8 = sL m5 t 2 l3 → (Q m8))))) : CV g M_Loan_init (lv + 1) [va_rf (some t), .int (l1), .int (l2), .long (l3)] m Q := by
  refine Call.of (by decide +kernel) (Nat.le_of_ble_eq_true rfl) ?_
  show At g M_Loan_init (lv + 1) 0 [(0, va_rf (some t)), (1, .int (l1)), (2, .int (l2)), (3, .long (l3))] [] m (QV Q)
  refine at_aload_n (i := 0) 0 1 rfl (by decide +kernel) rfl ?_
  refine at_objInit 4 rfl (by decide +kernel) tw_939 tw_91 tw_92 (by decide) ?_
  refine at_aload_n (i := 0) 0 5 rfl (by decide +kernel) rfl ?_
  refine at_iload_n (i := 1) 1 6 rfl (by decide +kernel) rfl ?_
  obtain ⟨k1, h⟩ := h
  refine at_putIF (index := 7) cok5 0 9 rfl (by decide +kernel) k1 (by decide +kernel) tw_940 rfl rfl rfl rfl rfl (fun m2 e3 => ?_)
  replace h := h m2 e3
  have k4 : mK m2 t = 6 := by rw [e3]; exact k1
  refine at_aload_n (i := 0) 0 10 rfl (by decide +kernel) rfl ?_
  refine at_iload_n (i := 2) 2 11 rfl (by decide +kernel) rfl ?_
  refine at_putIF (index := 13) cok5 1 14 rfl (by decide +kernel) k4 (by decide +kernel) tw_943 rfl rfl rfl rfl rfl (fun m5 e6 => ?_)
  replace h := h m5 e6
  have k7 : mK m5 t = 6 := by rw [e6]; exact k4
  refine at_aload_n (i := 0) 0 15 rfl (by decide +kernel) rfl ?_
  refine at_lload_n (i := 3) 3 16 rfl (by decide +kernel) rfl ?_
  refine at_putJF (index := 16) cok5 2 19 rfl (by decide +kernel) k7 (by decide +kernel) tw_946 rfl rfl rfl rfl rfl (fun m8 e9 => ?_)
  replace h := h m8 e9
  have k10 : mK m8 t = 6 := by rw [e9]; exact k7
  exact at_vret rfl (by decide +kernel) h
set_option maxRecDepth 20000 in
set_option maxHeartbeats 4000000 in
theorem en_Receipt_init (g : Gc) {lv : Nat} {t : Nat} {m : Mm} {Q : Mm → Prop} (h : Q m) : CV g M_Receipt_init (lv + 1) [va_rf (some t)] m Q := by
  refine Call.of (by decide +kernel) (Nat.le_of_ble_eq_true rfl) ?_
  show At g M_Receipt_init (lv + 1) 0 [(0, va_rf (some t))] [] m (QV Q)
  refine at_aload_n (i := 0) 0 1 rfl (by decide +kernel) rfl ?_
  refine at_objInit 4 rfl (by decide +kernel) tw_772 tw_91 tw_92 (by decide) ?_
  exact at_vret rfl (by decide +kernel) h
set_option maxRecDepth 20000 in
set_option maxHeartbeats 4000000 in
theorem en_Receipt_isPledged (g : Gc) {lv : Nat} {t : Nat} {m : Mm} {Q : Int32 → Mm → Prop} (h : mK m t = 7 ∧ (if (mR m t 3 : Option Nat) = none then (Q (0 : Int32) m) else (Q (1 : Int32) m))) : CI g M_Receipt_isPledged (lv + 1) [va_rf (some t)] m Q := by
  refine Call.of (by decide +kernel) (Nat.le_of_ble_eq_true rfl) ?_
  show At g M_Receipt_isPledged (lv + 1) 0 [(0, va_rf (some t))] [] m (QI Q)
  refine at_aload_n (i := 0) 0 1 rfl (by decide +kernel) rfl ?_
  obtain ⟨k1, h⟩ := h
  refine at_get (index := 7) (v := va_rf (mR m t 3)) cok6 3 4 rfl (by decide +kernel) k1 (by decide +kernel) tw_782 rfl ?_
  refine at_ifnull (off := 7) 11 7 rfl (by decide +kernel) (by decide +kernel) (fun c2 => ?_) (fun c2 => ?_)
  · rw [if_pos c2] at h
    refine at_iconst (n := 0) (0 : Int32) 12 rfl (by decide +kernel) (by decide +kernel) ?_
    exact at_zret rfl (by decide +kernel) (Or.inl rfl) h
  · rw [if_neg c2] at h
    refine at_iconst (n := 1) (1 : Int32) 8 rfl (by decide +kernel) (by decide +kernel) ?_
    refine at_goto (off := 4) 12 (by decide +kernel) (by decide +kernel) ?_
    exact at_zret rfl (by decide +kernel) (Or.inr rfl) h
set_option maxRecDepth 20000 in
set_option maxHeartbeats 4000000 in
theorem en_Receipt_loanOf (g : Gc) {lv : Nat} {t : Nat} {l1 : Int32} {m : Mm} {Q : Option Nat → Mm → Prop} (h : if (l1) = ((1 : Int32)) then (mK m t = 7 ∧ (Q (mR m t 3) m)) else (if (l1) = ((2 : Int32)) then (mK m t = 7 ∧ (Q (mR m t 4) m)) else (Q none m))) : CR g M_Receipt_loanOf (lv + 1) [va_rf (some t), .int (l1)] m Q := by
  refine Call.of (by decide +kernel) (Nat.le_of_ble_eq_true rfl) ?_
  show At g M_Receipt_loanOf (lv + 1) 0 [(0, va_rf (some t)), (1, .int (l1))] [] m (QR Q)
  refine at_iload_n (i := 1) 1 1 rfl (by decide +kernel) rfl ?_
  refine at_iconst (n := 1) (1 : Int32) 2 rfl (by decide +kernel) (by decide +kernel) ?_
  refine at_icmp_ne (off := 8) 10 5 rfl (by decide +kernel) (by decide +kernel) (fun c1 => ?_) (fun c1 => ?_)
  · rw [if_neg c1] at h
    refine at_iload_n (i := 1) 1 11 rfl (by decide +kernel) rfl ?_
    refine at_iconst (n := 2) (2 : Int32) 12 rfl (by decide +kernel) (by decide +kernel) ?_
    refine at_icmp_ne (off := 10) 22 15 rfl (by decide +kernel) (by decide +kernel) (fun c2 => ?_) (fun c2 => ?_)
    · rw [if_neg c2] at h
      refine at_null 23 rfl (by decide +kernel) ?_
      exact at_aret rfl (Or.inl ⟨_, rfl⟩) (by decide +kernel) h
    · rw [if_pos c2] at h
      refine at_aload_n (i := 0) 0 16 rfl (by decide +kernel) rfl ?_
      obtain ⟨k3, h⟩ := h
      refine at_get (index := 13) (v := va_rf (mR m t 4)) cok6 4 19 rfl (by decide +kernel) k3 (by decide +kernel) tw_786 rfl ?_
      refine at_goto (off := 4) 23 (by decide +kernel) (by decide +kernel) ?_
      exact at_aret rfl (Or.inl ⟨_, rfl⟩) (by decide +kernel) h
  · rw [if_pos c1] at h
    refine at_aload_n (i := 0) 0 6 rfl (by decide +kernel) rfl ?_
    obtain ⟨k4, h⟩ := h
    refine at_get (index := 7) (v := va_rf (mR m t 3)) cok6 3 9 rfl (by decide +kernel) k4 (by decide +kernel) tw_782 rfl ?_
    exact at_aret rfl (Or.inl ⟨_, rfl⟩) (by decide +kernel) h
set_option maxRecDepth 20000 in
set_option maxHeartbeats 4000000 in
theorem en_Receipt_bears (g : Gc) {lv : Nat} {t : Nat} {l1 : Option Nat} {m : Mm} {Q : Int32 → Mm → Prop} (h : if (l1 : Option Nat) = none then (Q (0 : Int32) m) else (mK m t = 7 ∧ (if (mR m t 3) = (l1) then (Q (1 : Int32) m) else (if (mR m t 4) = (l1) then (Q (1 : Int32) m) else (Q (0 : Int32) m))))) : CI g M_Receipt_bears (lv + 1) [va_rf (some t), va_rf (l1)] m Q := by
  refine Call.of (by decide +kernel) (by simp [lg_sl, va_rf_cat, cat_int, cat_long, M_Receipt_bears]) ?_
  rw [show lv_args 0 [va_rf (some t), va_rf (l1)] = [(0, va_rf (some t)), (1, va_rf (l1))] from by simp [lv_args, va_rf_cat, cat_int, cat_long]]
  refine at_aload_n (i := 1) 1 1 rfl (by decide +kernel) rfl ?_
  refine at_ifnull (off := 23) 24 4 rfl (by decide +kernel) (by decide +kernel) (fun c1 => ?_) (fun c1 => ?_)
  · rw [if_pos c1] at h
    refine at_iconst (n := 0) (0 : Int32) 25 rfl (by decide +kernel) (by decide +kernel) ?_
    exact at_zret rfl (by decide +kernel) (Or.inl rfl) h
  · rw [if_neg c1] at h
    refine at_aload_n (i := 0) 0 5 rfl (by decide +kernel) rfl ?_
    obtain ⟨k2, h⟩ := h
    refine at_get (index := 7) (v := va_rf (mR m t 3)) cok6 3 8 rfl (by decide +kernel) k2 (by decide +kernel) tw_782 rfl ?_
    refine at_aload_n (i := 1) 1 9 rfl (by decide +kernel) rfl ?_
    refine at_acmp_eq (off := 11) 20 12 rfl (by decide +kernel) (by decide +kernel) (fun c3 => ?_) (fun c3 => ?_)
    · rw [if_pos c3] at h
      refine at_iconst (n := 1) (1 : Int32) 21 rfl (by decide +kernel) (by decide +kernel) ?_
      refine at_goto (off := 4) 25 (by decide +kernel) (by decide +kernel) ?_
      exact at_zret rfl (by decide +kernel) (Or.inr rfl) h
    · rw [if_neg c3] at h
      refine at_aload_n (i := 0) 0 13 rfl (by decide +kernel) rfl ?_
      refine at_get (index := 13) (v := va_rf (mR m t 4)) cok6 4 16 rfl (by decide +kernel) k2 (by decide +kernel) tw_786 rfl ?_
      refine at_aload_n (i := 1) 1 17 rfl (by decide +kernel) rfl ?_
      refine at_acmp_ne (off := 7) 24 20 rfl (by decide +kernel) (by decide +kernel) (fun c4 => ?_) (fun c4 => ?_)
      · rw [if_neg c4] at h
        refine at_iconst (n := 0) (0 : Int32) 25 rfl (by decide +kernel) (by decide +kernel) ?_
        exact at_zret rfl (by decide +kernel) (Or.inl rfl) h
      · rw [if_pos c4] at h
        refine at_iconst (n := 1) (1 : Int32) 21 rfl (by decide +kernel) (by decide +kernel) ?_
        refine at_goto (off := 4) 25 (by decide +kernel) (by decide +kernel) ?_
        exact at_zret rfl (by decide +kernel) (Or.inr rfl) h
set_option maxRecDepth 20000 in
set_option maxHeartbeats 4000000 in
theorem en_Receipt_bear (g : Gc) {lv : Nat} {t : Nat} {l1 : Option Nat} {m : Mm} {Q : Mm → Prop} (h : mK m t = 7 ∧ (if (mR m t 3 : Option Nat) = none then (∀ m6, m6 = sR m t 3 l1 → (Q m6)) else (∀ m3, m3 = sR m t 4 l1 → (Q m3)))) : CV g M_Receipt_bear (lv + 1) [va_rf (some t), va_rf (l1)] m Q := by
  refine Call.of (by decide +kernel) (by simp [lg_sl, va_rf_cat, cat_int, cat_long, M_Receipt_bear]) ?_
  rw [show lv_args 0 [va_rf (some t), va_rf (l1)] = [(0, va_rf (some t)), (1, va_rf (l1))] from by simp [lv_args, va_rf_cat, cat_int, cat_long]]
  refine at_aload_n (i := 0) 0 1 rfl (by decide +kernel) rfl ?_
  obtain ⟨k1, h⟩ := h
  refine at_get (index := 7) (v := va_rf (mR m t 3)) cok6 3 4 rfl (by decide +kernel) k1 (by decide +kernel) tw_782 rfl ?_
  refine at_ifnonnull (off := 11) 15 7 rfl (by decide +kernel) (by decide +kernel) (fun c2 => ?_) (fun c2 => ?_)
  · rw [if_neg c2] at h
    refine at_aload_n (i := 0) 0 16 rfl (by decide +kernel) rfl ?_
    refine at_aload_n (i := 1) 1 17 rfl (by decide +kernel) rfl ?_
    refine at_putR (index := 13) cok6 4 20 rfl (by decide +kernel) k1 (by decide +kernel) tw_786 rfl rfl (Or.inl ⟨_, rfl⟩) (fun m3 e4 => ?_)
    replace h := h m3 e4
    have k5 : mK m3 t = 7 := by rw [e4]; exact k1
    exact at_vret rfl (by decide +kernel) h
  · rw [if_pos c2] at h
    refine at_aload_n (i := 0) 0 8 rfl (by decide +kernel) rfl ?_
    refine at_aload_n (i := 1) 1 9 rfl (by decide +kernel) rfl ?_
    refine at_putR (index := 7) cok6 3 12 rfl (by decide +kernel) k1 (by decide +kernel) tw_782 rfl rfl (Or.inl ⟨_, rfl⟩) (fun m6 e7 => ?_)
    replace h := h m6 e7
    have k8 : mK m6 t = 7 := by rw [e7]; exact k1
    refine at_goto (off := 8) 20 (by decide +kernel) (by decide +kernel) ?_
    exact at_vret rfl (by decide +kernel) h
set_option maxRecDepth 20000 in
set_option maxHeartbeats 4000000 in
theorem en_Receipt_drop (g : Gc) {lv : Nat} {t : Nat} {l1 : Option Nat} {m : Mm} {Q : Mm → Prop} (h : mK m t = 7 ∧ (if (mR m t 3) = (l1) then (∀ m7, m7 = sR m t 3 (mR m t 4) → (∀ m10, m10 = sR m7 t 4 none → (Q m10))) else (if (mR m t 4) = (l1) then (∀ m4, m4 = sR m t 4 none → (Q m4)) else (Q m)))) : CV g M_Receipt_drop (lv + 1) [va_rf (some t), va_rf (l1)] m Q := by
  refine Call.of (by decide +kernel) (by simp [lg_sl, va_rf_cat, cat_int, cat_long, M_Receipt_drop]) ?_
  rw [show lv_args 0 [va_rf (some t), va_rf (l1)] = [(0, va_rf (some t)), (1, va_rf (l1))] from by simp [lv_args, va_rf_cat, cat_int, cat_long]]
  refine at_aload_n (i := 0) 0 1 rfl (by decide +kernel) rfl ?_
  obtain ⟨k1, h⟩ := h
  refine at_get (index := 7) (v := va_rf (mR m t 3)) cok6 3 4 rfl (by decide +kernel) k1 (by decide +kernel) tw_782 rfl ?_
  refine at_aload_n (i := 1) 1 5 rfl (by decide +kernel) rfl ?_
  refine at_acmp_ne (off := 19) 24 8 rfl (by decide +kernel) (by decide +kernel) (fun c2 => ?_) (fun c2 => ?_)
  · rw [if_neg c2] at h
    refine at_aload_n (i := 0) 0 25 rfl (by decide +kernel) rfl ?_
    refine at_get (index := 13) (v := va_rf (mR m t 4)) cok6 4 28 rfl (by decide +kernel) k1 (by decide +kernel) tw_786 rfl ?_
    refine at_aload_n (i := 1) 1 29 rfl (by decide +kernel) rfl ?_
    refine at_acmp_ne (off := 8) 37 32 rfl (by decide +kernel) (by decide +kernel) (fun c3 => ?_) (fun c3 => ?_)
    · rw [if_neg c3] at h
      exact at_vret rfl (by decide +kernel) h
    · rw [if_pos c3] at h
      refine at_aload_n (i := 0) 0 33 rfl (by decide +kernel) rfl ?_
      refine at_null 34 rfl (by decide +kernel) ?_
      refine at_putR (index := 13) cok6 4 37 rfl (by decide +kernel) k1 (by decide +kernel) tw_786 rfl rfl (Or.inl ⟨_, rfl⟩) (fun m4 e5 => ?_)
      replace h := h m4 e5
      have k6 : mK m4 t = 7 := by rw [e5]; exact k1
      exact at_vret rfl (by decide +kernel) h
  · rw [if_pos c2] at h
    refine at_aload_n (i := 0) 0 9 rfl (by decide +kernel) rfl ?_
    refine at_aload_n (i := 0) 0 10 rfl (by decide +kernel) rfl ?_
    refine at_get (index := 13) (v := va_rf (mR m t 4)) cok6 4 13 rfl (by decide +kernel) k1 (by decide +kernel) tw_786 rfl ?_
    refine at_putR (index := 7) cok6 3 16 rfl (by decide +kernel) k1 (by decide +kernel) tw_782 rfl rfl (Or.inl ⟨_, rfl⟩) (fun m7 e8 => ?_)
    replace h := h m7 e8
    have k9 : mK m7 t = 7 := by rw [e8]; exact k1
    refine at_aload_n (i := 0) 0 17 rfl (by decide +kernel) rfl ?_
    refine at_null 18 rfl (by decide +kernel) ?_
    refine at_putR (index := 13) cok6 4 21 rfl (by decide +kernel) k9 (by decide +kernel) tw_786 rfl rfl (Or.inl ⟨_, rfl⟩) (fun m10 e11 => ?_)
    replace h := h m10 e11
    have k12 : mK m10 t = 7 := by rw [e11]; exact k9
    refine at_goto (off := 16) 37 (by decide +kernel) (by decide +kernel) ?_
    exact at_vret rfl (by decide +kernel) h
set_option maxRecDepth 20000 in
set_option maxHeartbeats 4000000 in
theorem en_Rows_init (g : Gc) {lv : Nat} {t : Nat} {m : Mm} {Q : Mm → Prop} (h : mK m (gz g + mC m) = 0 ∧ (∀ q2 m3, q2 = gz g + mC m → m3 = nw m q2 16 ((240 : Int32).toNatClampNeg) ((240 : Int32).toNatClampNeg) → (mK m3 t = 8 ∧ (∀ m9, m9 = sR m3 t 0 (some q2) → (mK m9 (gz g + mC m9) = 0 ∧ (∀ q14 m15, q14 = gz g + mC m9 → m15 = nw m9 q14 15 ((4 : Int32).toNatClampNeg) ((4 : Int32).toNatClampNeg) → (∀ m22, m22 = sR m15 t 1 (some q14) → (mK m22 (gz g + mC m22) = 0 ∧ (∀ q28 m29, q28 = gz g + mC m22 → m29 = nw m22 q28 15 ((4 : Int32).toNatClampNeg) ((4 : Int32).toNatClampNeg) → (∀ m37, m37 = sR m29 t 2 (some q28) → (CV g M_Arrays_fill lv [va_rf (mR m37 t 2), .int ((-1 : Int32))] m37 (fun m43 => (Q m43))))))))))))) : CV g M_Rows_init (lv + 1) [va_rf (some t)] m Q := by
  refine Call.of (by decide +kernel) (Nat.le_of_ble_eq_true rfl) ?_
  show At g M_Rows_init (lv + 1) 0 [(0, va_rf (some t))] [] m (QV Q)
  refine at_aload_n (i := 0) 0 1 rfl (by decide +kernel) rfl ?_
  refine at_objInit 4 rfl (by decide +kernel) tw_421 tw_91 tw_92 (by decide) ?_
  refine at_aload_n (i := 0) 0 5 rfl (by decide +kernel) rfl ?_
  refine at_sipush (n := 240) (240 : Int32) 8 rfl (by decide +kernel) (by decide +kernel) ?_
  obtain ⟨z1, h⟩ := h
  refine at_newaJ 10 rfl z1 (by decide +kernel) tw_199 (by decide +kernel) (by decide +kernel) (fun q2 m3 e4 e5 => ?_)
  replace h := h q2 m3 e4 e5
  have x6 : Ext m m3 := by rw [e5, e4]; exact Ext.nw z1 _ _ _
  have k7 : mK m3 q2 = 16 := by rw [e5]; exact if_pos rfl
  obtain ⟨k8, h⟩ := h
  refine at_putRF (index := 9) cok7 0 13 rfl (by decide +kernel) k8 (by decide +kernel) tw_425 rfl rfl rfl rfl (Or.inr ⟨_, rfl⟩) (fun m9 e10 => ?_)
  replace h := h m9 e10
  have k11 : mK m9 q2 = 16 := by rw [e10]; exact k7
  have k12 : mK m9 t = 8 := by rw [e10]; exact k8
  refine at_aload_n (i := 0) 0 14 rfl (by decide +kernel) rfl ?_
  refine at_iconst (n := 4) (4 : Int32) 15 rfl (by decide +kernel) (by decide +kernel) ?_
  obtain ⟨z13, h⟩ := h
  refine at_newaI 17 rfl z13 (by decide +kernel) tw_265 (by decide +kernel) (by decide +kernel) (fun q14 m15 e16 e17 => ?_)
  replace h := h q14 m15 e16 e17
  have x18 : Ext m9 m15 := by rw [e17, e16]; exact Ext.nw z13 _ _ _
  have k19 : mK m15 q2 = 16 := x18.k k11 (by decide)
  have k20 : mK m15 t = 8 := x18.k k12 (by decide)
  have k21 : mK m15 q14 = 15 := by rw [e17]; exact if_pos rfl
  refine at_putRF (index := 15) cok7 1 20 rfl (by decide +kernel) k20 (by decide +kernel) tw_426 rfl rfl rfl rfl (Or.inr ⟨_, rfl⟩) (fun m22 e23 => ?_)
  replace h := h m22 e23
  have k24 : mK m22 q2 = 16 := by rw [e23]; exact k19
  have k25 : mK m22 t = 8 := by rw [e23]; exact k20
  have k26 : mK m22 q14 = 15 := by rw [e23]; exact k21
  refine at_aload_n (i := 0) 0 21 rfl (by decide +kernel) rfl ?_
  refine at_iconst (n := 4) (4 : Int32) 22 rfl (by decide +kernel) (by decide +kernel) ?_
  obtain ⟨z27, h⟩ := h
  refine at_newaI 24 rfl z27 (by decide +kernel) tw_265 (by decide +kernel) (by decide +kernel) (fun q28 m29 e30 e31 => ?_)
  replace h := h q28 m29 e30 e31
  have x32 : Ext m22 m29 := by rw [e31, e30]; exact Ext.nw z27 _ _ _
  have k33 : mK m29 q2 = 16 := x32.k k24 (by decide)
  have k34 : mK m29 t = 8 := x32.k k25 (by decide)
  have k35 : mK m29 q14 = 15 := x32.k k26 (by decide)
  have k36 : mK m29 q28 = 15 := by rw [e31]; exact if_pos rfl
  refine at_putRF (index := 19) cok7 2 27 rfl (by decide +kernel) k34 (by decide +kernel) tw_428 rfl rfl rfl rfl (Or.inr ⟨_, rfl⟩) (fun m37 e38 => ?_)
  replace h := h m37 e38
  have k39 : mK m37 q2 = 16 := by rw [e38]; exact k33
  have k40 : mK m37 t = 8 := by rw [e38]; exact k34
  have k41 : mK m37 q14 = 15 := by rw [e38]; exact k35
  have k42 : mK m37 q28 = 15 := by rw [e38]; exact k36
  refine at_aload_n (i := 0) 0 28 rfl (by decide +kernel) rfl ?_
  refine at_get (index := 19) (v := va_rf (mR m37 t 2)) cok7 2 31 rfl (by decide +kernel) k40 (by decide +kernel) tw_428 rfl ?_
  refine at_iconst (n := (-1)) (-1 : Int32) 32 rfl (by decide +kernel) (by decide +kernel) ?_
  refine at_callS mb_Arrays_fill tw_423 (index := 22) tw_422 [va_rf (mR m37 t 2), .int ((-1 : Int32))] [] rfl rfl (by decide) 35 rfl (by decide +kernel) (Call.toV (CV.monoE h (fun m43 h y44 => ?_)))
  have k45 : mK m43 q2 = 16 := y44.k k39 (by decide)
  have k46 : mK m43 t = 8 := y44.k k40 (by decide)
  have k47 : mK m43 q14 = 15 := y44.k k41 (by decide)
  have k48 : mK m43 q28 = 15 := y44.k k42 (by decide)
  exact at_vret rfl (by decide +kernel) h
set_option maxRecDepth 20000 in
set_option maxHeartbeats 4000000 in
theorem en_Rows_hasRow (g : Gc) {lv : Nat} {t : Nat} {l1 : Int32} {m : Mm} {Q : Int32 → Mm → Prop} (h : CI g M_SL_isWithin lv [.int (l1), .int ((0 : Int32)), .int ((3 : Int32))] m (fun x1 m2 => (if (x1) = 0 then (Q (0 : Int32) m2) else (mK m2 t = 8 ∧ (∃ b6, mR m2 t 2 = some b6 ∧ (mK m2 b6 = 15 ∧ (vp_in l1 (mN m2 b6) ∧ (if (mI m2 b6 l1.toNatClampNeg) = ((-1 : Int32)) then (Q (0 : Int32) m2) else (Q (1 : Int32) m2))))))))) : CI g M_Rows_hasRow (lv + 1) [va_rf (some t), .int (l1)] m Q := by
  refine Call.of (by decide +kernel) (Nat.le_of_ble_eq_true rfl) ?_
  show At g M_Rows_hasRow (lv + 1) 0 [(0, va_rf (some t)), (1, .int (l1))] [] m (QI Q)
  refine at_iload_n (i := 1) 1 1 rfl (by decide +kernel) rfl ?_
  refine at_iconst (n := 0) (0 : Int32) 2 rfl (by decide +kernel) (by decide +kernel) ?_
  refine at_iconst (n := 3) (3 : Int32) 3 rfl (by decide +kernel) (by decide +kernel) ?_
  refine at_callSN mb_SL_isWithin tw_471 (index := 28) (host := "SurplusLand") (by decide +kernel) [.int (l1), .int ((0 : Int32)), .int ((3 : Int32))] [] rfl rfl (by decide) 6 rfl (by decide +kernel) (Call.toI (CI.monoE h (fun x1 m2 h y3 => ?_)))
  refine at_if_eq (off := 17) 23 9 rfl (by decide +kernel) (by decide +kernel) (fun c4 => ?_) (fun c4 => ?_)
  · rw [if_pos c4] at h
    refine at_iconst (n := 0) (0 : Int32) 24 rfl (by decide +kernel) (by decide +kernel) ?_
    exact at_zret rfl (by decide +kernel) (Or.inl rfl) h
  · rw [if_neg c4] at h
    refine at_aload_n (i := 0) 0 10 rfl (by decide +kernel) rfl ?_
    obtain ⟨k5, h⟩ := h
    refine at_get (index := 19) (v := va_rf (mR m2 t 2)) cok7 2 13 rfl (by decide +kernel) k5 (by decide +kernel) tw_428 rfl ?_
    refine at_iload_n (i := 1) 1 14 rfl (by decide +kernel) rfl ?_
    obtain ⟨b6, e7, h⟩ := h
    rw [e7]
    obtain ⟨k8, h⟩ := h
    obtain ⟨v9, h⟩ := h
    refine at_iald 15 rfl (by decide +kernel) k8 v9 ?_
    refine at_iconst (n := (-1)) (-1 : Int32) 16 rfl (by decide +kernel) (by decide +kernel) ?_
    refine at_icmp_eq (off := 7) 23 19 rfl (by decide +kernel) (by decide +kernel) (fun c10 => ?_) (fun c10 => ?_)
    · rw [if_pos c10] at h
      refine at_iconst (n := 0) (0 : Int32) 24 rfl (by decide +kernel) (by decide +kernel) ?_
      exact at_zret rfl (by decide +kernel) (Or.inl rfl) h
    · rw [if_neg c10] at h
      refine at_iconst (n := 1) (1 : Int32) 20 rfl (by decide +kernel) (by decide +kernel) ?_
      refine at_goto (off := 4) 24 (by decide +kernel) (by decide +kernel) ?_
      exact at_zret rfl (by decide +kernel) (Or.inr rfl) h
set_option maxRecDepth 20000 in
set_option maxHeartbeats 4000000 in
theorem en_Rows_holds (g : Gc) {lv : Nat} {t : Nat} {l1 : Int32} {l2 : Int32} {l3 : Int32} {m : Mm} {Q : Int32 → Mm → Prop} (h : if (l2) < 0 then (Q (0 : Int32) m) else (if (l3) < 0 then (Q (0 : Int32) m) else (mK m t = 8 ∧ (∃ b4, mR m t 2 = some b4 ∧ (mK m b4 = 15 ∧ (vp_in l1 (mN m b4) ∧ (if ((mI m b4 l1.toNatClampNeg).toInt64) < (l2.toInt64 + l3.toInt64) then (Q (0 : Int32) m) else (Q (1 : Int32) m)))))))) : CI g M_Rows_holds (lv + 1) [va_rf (some t), .int (l1), .int (l2), .int (l3)] m Q := by
  refine Call.of (by decide +kernel) (Nat.le_of_ble_eq_true rfl) ?_
  show At g M_Rows_holds (lv + 1) 0 [(0, va_rf (some t)), (1, .int (l1)), (2, .int (l2)), (3, .int (l3))] [] m (QI Q)
  refine at_iload_n (i := 2) 2 1 rfl (by decide +kernel) rfl ?_
  refine at_if_lt (off := 27) 28 4 rfl (by decide +kernel) (by decide +kernel) (fun c1 => ?_) (fun c1 => ?_)
  · rw [if_pos c1] at h
    refine at_iconst (n := 0) (0 : Int32) 29 rfl (by decide +kernel) (by decide +kernel) ?_
    exact at_zret rfl (by decide +kernel) (Or.inl rfl) h
  · rw [if_neg c1] at h
    refine at_iload_n (i := 3) 3 5 rfl (by decide +kernel) rfl ?_
    refine at_if_lt (off := 23) 28 8 rfl (by decide +kernel) (by decide +kernel) (fun c2 => ?_) (fun c2 => ?_)
    · rw [if_pos c2] at h
      refine at_iconst (n := 0) (0 : Int32) 29 rfl (by decide +kernel) (by decide +kernel) ?_
      exact at_zret rfl (by decide +kernel) (Or.inl rfl) h
    · rw [if_neg c2] at h
      refine at_iload_n (i := 2) 2 9 rfl (by decide +kernel) rfl ?_
      refine at_i2l 10 rfl (by decide +kernel) ?_
      refine at_iload_n (i := 3) 3 11 rfl (by decide +kernel) rfl ?_
      refine at_i2l 12 rfl (by decide +kernel) ?_
      refine at_ladd 13 rfl (by decide +kernel) ?_
      refine at_aload_n (i := 0) 0 14 rfl (by decide +kernel) rfl ?_
      obtain ⟨k3, h⟩ := h
      refine at_get (index := 19) (v := va_rf (mR m t 2)) cok7 2 17 rfl (by decide +kernel) k3 (by decide +kernel) tw_428 rfl ?_
      refine at_iload_n (i := 1) 1 18 rfl (by decide +kernel) rfl ?_
      obtain ⟨b4, e5, h⟩ := h
      rw [e5]
      obtain ⟨k6, h⟩ := h
      obtain ⟨v7, h⟩ := h
      refine at_iald 19 rfl (by decide +kernel) k6 v7 ?_
      refine at_i2l 20 rfl (by decide +kernel) ?_
      refine at_lif_gt (off := 7) 21 28 24 rfl rfl (by decide +kernel) (by decide +kernel) (by decide +kernel) (fun c8 => ?_) (fun c8 => ?_)
      · rw [if_pos c8] at h
        refine at_iconst (n := 0) (0 : Int32) 29 rfl (by decide +kernel) (by decide +kernel) ?_
        exact at_zret rfl (by decide +kernel) (Or.inl rfl) h
      · rw [if_neg c8] at h
        refine at_iconst (n := 1) (1 : Int32) 25 rfl (by decide +kernel) (by decide +kernel) ?_
        refine at_goto (off := 4) 29 (by decide +kernel) (by decide +kernel) ?_
        exact at_zret rfl (by decide +kernel) (Or.inr rfl) h
set_option maxRecDepth 20000 in
set_option maxHeartbeats 4000000 in
theorem bk_Rows_filledSlots_4 (g : Gc) {lv : Nat} {t : Nat} {l1 : Int32} {l2 : Int32} {m : Mm} {Q : Int32 → Mm → Prop} (h : if ((4 : Int32)) ≤ (l2) then (Q l1 m) else (mK m t = 8 ∧ (∃ b3, mR m t 2 = some b3 ∧ (mK m b3 = 15 ∧ (vp_in l2 (mN m b3) ∧ (if (mI m b3 l2.toNatClampNeg) = ((-1 : Int32)) then (At g M_Rows_filledSlots (lv + 1) 4 [(0, va_rf (some t)), (1, .int (l1)), (2, .int (l2 + (1 : Int32)))] [] m (QI Q)) else (At g M_Rows_filledSlots (lv + 1) 4 [(0, va_rf (some t)), (1, .int (l1 + (1 : Int32))), (2, .int (l2 + (1 : Int32)))] [] m (QI Q)))))))) : At g M_Rows_filledSlots (lv + 1) 4 [(0, va_rf (some t)), (1, .int (l1)), (2, .int (l2))] [] m (QI Q) := by
  refine at_iload_n (i := 2) 2 5 rfl (by decide +kernel) rfl ?_
  refine at_iconst (n := 4) (4 : Int32) 6 rfl (by decide +kernel) (by decide +kernel) ?_
  refine at_icmp_ge (off := 22) 28 9 rfl (by decide +kernel) (by decide +kernel) (fun c1 => ?_) (fun c1 => ?_)
  · rw [if_pos c1] at h
    refine at_iload_n (i := 1) 1 29 rfl (by decide +kernel) rfl ?_
    exact at_iret rfl (by decide +kernel) h
  · rw [if_neg c1] at h
    refine at_aload_n (i := 0) 0 10 rfl (by decide +kernel) rfl ?_
    obtain ⟨k2, h⟩ := h
    refine at_get (index := 19) (v := va_rf (mR m t 2)) cok7 2 13 rfl (by decide +kernel) k2 (by decide +kernel) tw_428 rfl ?_
    refine at_iload_n (i := 2) 2 14 rfl (by decide +kernel) rfl ?_
    obtain ⟨b3, e4, h⟩ := h
    rw [e4]
    obtain ⟨k5, h⟩ := h
    obtain ⟨v6, h⟩ := h
    refine at_iald 15 rfl (by decide +kernel) k5 v6 ?_
    refine at_iconst (n := (-1)) (-1 : Int32) 16 rfl (by decide +kernel) (by decide +kernel) ?_
    refine at_icmp_eq (off := 6) 22 19 rfl (by decide +kernel) (by decide +kernel) (fun c7 => ?_) (fun c7 => ?_)
    · rw [if_pos c7] at h
      refine at_iinc (i := 2) (n := 1) (lc' := [(0, va_rf (some t)), (1, .int (l1)), (2, .int (l2 + (1 : Int32)))]) (l2 + (1 : Int32)) 2 [1, 2, 0] 25 rfl (by decide +kernel) rfl (by rw [show Int32.ofInt 1 = (1 : Int32) from by decide +kernel]) (by decide +kernel) rfl ?_
      refine at_goto (off := (-21)) 4 (by decide +kernel) (by decide +kernel) ?_
      exact h
    · rw [if_neg c7] at h
      refine at_iinc (i := 1) (n := 1) (lc' := [(0, va_rf (some t)), (1, .int (l1 + (1 : Int32))), (2, .int (l2))]) (l1 + (1 : Int32)) 1 [1, 0, 2] 22 rfl (by decide +kernel) rfl (by rw [show Int32.ofInt 1 = (1 : Int32) from by decide +kernel]) (by decide +kernel) rfl ?_
      refine at_iinc (i := 2) (n := 1) (lc' := [(0, va_rf (some t)), (1, .int (l1 + (1 : Int32))), (2, .int (l2 + (1 : Int32)))]) (l2 + (1 : Int32)) 2 [1, 2, 0] 25 rfl (by decide +kernel) rfl (by rw [show Int32.ofInt 1 = (1 : Int32) from by decide +kernel]) (by decide +kernel) rfl ?_
      refine at_goto (off := (-21)) 4 (by decide +kernel) (by decide +kernel) ?_
      exact h
set_option maxRecDepth 20000 in
set_option maxHeartbeats 4000000 in
theorem en_Rows_filledSlots (g : Gc) {lv : Nat} {t : Nat} {m : Mm} {Q : Int32 → Mm → Prop} (h : At g M_Rows_filledSlots (lv + 1) 4 [(0, va_rf (some t)), (1, .int ((0 : Int32))), (2, .int ((0 : Int32)))] [] m (QI Q)) : CI g M_Rows_filledSlots (lv + 1) [va_rf (some t)] m Q := by
  refine Call.of (by decide +kernel) (Nat.le_of_ble_eq_true rfl) ?_
  show At g M_Rows_filledSlots (lv + 1) 0 [(0, va_rf (some t))] [] m (QI Q)
  refine at_iconst (n := 0) (0 : Int32) 1 rfl (by decide +kernel) (by decide +kernel) ?_
  refine at_istore_n (i := 1) (lc' := [(0, va_rf (some t)), (1, .int ((0 : Int32)))]) [1, 0] 2 rfl (by decide +kernel) (by decide +kernel) rfl ?_
  refine at_iconst (n := 0) (0 : Int32) 3 rfl (by decide +kernel) (by decide +kernel) ?_
  refine at_istore_n (i := 2) (lc' := [(0, va_rf (some t)), (1, .int ((0 : Int32))), (2, .int ((0 : Int32)))]) [1, 2, 0] 4 rfl (by decide +kernel) (by decide +kernel) rfl ?_
  exact h
set_option maxRecDepth 20000 in
set_option maxHeartbeats 4000000 in
theorem bk_Rows_lay_17 (g : Gc) {lv : Nat} {t : Nat} {l1 : Int32} {l3 : Int32} {l4 : Int32} {m : Mm} {Q : Mm → Prop} (h : if (l3) ≤ (l4) then (Q m) else (if ((60 : Int32)) ≤ (l4) then (Q m) else (mK m t = 8 ∧ (∃ b4, mR m t 0 = some b4 ∧ (mK m b4 = 16 ∧ (vp_in ((l1 * (60 : Int32)) + l4) (mN m b4) ∧ (∀ m8, m8 = sL m b4 ((l1 * (60 : Int32)) + l4).toNatClampNeg (0 : Int64) → (At g M_Rows_lay (lv + 1) 17 [(0, va_rf (some t)), (1, .int (l1)), (3, .int (l3)), (4, .int (l4 + (1 : Int32)))] [] m8 (QV Q))))))))) : At g M_Rows_lay (lv + 1) 17 [(0, va_rf (some t)), (1, .int (l1)), (3, .int (l3)), (4, .int (l4))] [] m (QV Q) := by
  refine at_iload (i := 4) 3 19 rfl (by decide +kernel) rfl ?_
  refine at_iload_n (i := 3) 2 20 rfl (by decide +kernel) rfl ?_
  refine at_icmp_ge (off := 29) 49 23 rfl (by decide +kernel) (by decide +kernel) (fun c1 => ?_) (fun c1 => ?_)
  · rw [if_pos c1] at h
    exact at_vret rfl (by decide +kernel) h
  · rw [if_neg c1] at h
    refine at_iload (i := 4) 3 25 rfl (by decide +kernel) rfl ?_
    refine at_bipush (n := 60) (60 : Int32) 27 rfl (by decide +kernel) (by decide +kernel) ?_
    refine at_icmp_ge (off := 22) 49 30 rfl (by decide +kernel) (by decide +kernel) (fun c2 => ?_) (fun c2 => ?_)
    · rw [if_pos c2] at h
      exact at_vret rfl (by decide +kernel) h
    · rw [if_neg c2] at h
      refine at_aload_n (i := 0) 0 31 rfl (by decide +kernel) rfl ?_
      obtain ⟨k3, h⟩ := h
      refine at_get (index := 9) (v := va_rf (mR m t 0)) cok7 0 34 rfl (by decide +kernel) k3 (by decide +kernel) tw_425 rfl ?_
      refine at_iload_n (i := 1) 1 35 rfl (by decide +kernel) rfl ?_
      refine at_bipush (n := 60) (60 : Int32) 37 rfl (by decide +kernel) (by decide +kernel) ?_
      refine at_imul 38 rfl (by decide +kernel) ?_
      refine at_iload (i := 4) 3 40 rfl (by decide +kernel) rfl ?_
      refine at_iadd 41 rfl (by decide +kernel) ?_
      refine at_lconst (n := 0) (0 : Int64) 42 rfl (by decide +kernel) (by decide +kernel) ?_
      obtain ⟨b4, e5, h⟩ := h
      rw [e5]
      obtain ⟨k6, h⟩ := h
      obtain ⟨v7, h⟩ := h
      refine at_last 43 rfl (by decide +kernel) k6 v7 (fun m8 e9 => ?_)
      replace h := h m8 e9
      have k10 : mK m8 t = 8 := by rw [e9]; exact k3
      have k11 : mK m8 b4 = 16 := by rw [e9]; exact k6
      refine at_iinc (i := 4) (n := 1) (lc' := [(0, va_rf (some t)), (1, .int (l1)), (3, .int (l3)), (4, .int (l4 + (1 : Int32)))]) (l4 + (1 : Int32)) 3 [1, 2, 3, 0] 46 rfl (by decide +kernel) rfl (by rw [show Int32.ofInt 1 = (1 : Int32) from by decide +kernel]) (by decide +kernel) rfl ?_
      refine at_goto (off := (-29)) 17 (by decide +kernel) (by decide +kernel) ?_
      exact h
set_option maxRecDepth 20000 in
set_option maxHeartbeats 4000000 in
theorem en_Rows_lay (g : Gc) {lv : Nat} {t : Nat} {l1 : Int32} {l2 : Int32} {l3 : Int32} {m : Mm} {Q : Mm → Prop} (h : mK m t = 8 ∧ (∃ b2, mR m t 1 = some b2 ∧ (mK m b2 = 15 ∧ (vp_in l1 (mN m b2) ∧ (∀ m6, m6 = sI m b2 l1.toNatClampNeg l2 → (∃ b10, mR m6 t 2 = some b10 ∧ (mK m6 b10 = 15 ∧ (vp_in l1 (mN m6 b10) ∧ (∀ m14, m14 = sI m6 b10 l1.toNatClampNeg l3 → (At g M_Rows_lay (lv + 1) 17 [(0, va_rf (some t)), (1, .int (l1)), (3, .int (l3)), (4, .int ((0 : Int32)))] [] m14 (QV Q))))))))))) : CV g M_Rows_lay (lv + 1) [va_rf (some t), .int (l1), .int (l2), .int (l3)] m Q := by
  refine Call.of (by decide +kernel) (Nat.le_of_ble_eq_true rfl) ?_
  show At g M_Rows_lay (lv + 1) 0 [(0, va_rf (some t)), (1, .int (l1)), (2, .int (l2)), (3, .int (l3))] [] m (QV Q)
  refine at_aload_n (i := 0) 0 1 rfl (by decide +kernel) rfl ?_
  obtain ⟨k1, h⟩ := h
  refine at_get (index := 15) (v := va_rf (mR m t 1)) cok7 1 4 rfl (by decide +kernel) k1 (by decide +kernel) tw_426 rfl ?_
  refine at_iload_n (i := 1) 1 5 rfl (by decide +kernel) rfl ?_
  refine at_iload_n (i := 2) 2 6 rfl (by decide +kernel) rfl ?_
  obtain ⟨b2, e3, h⟩ := h
  rw [e3]
  obtain ⟨k4, h⟩ := h
  obtain ⟨v5, h⟩ := h
  refine at_iast 7 rfl (by decide +kernel) k4 v5 (fun m6 e7 => ?_)
  replace h := h m6 e7
  have k8 : mK m6 t = 8 := by rw [e7]; exact k1
  have k9 : mK m6 b2 = 15 := by rw [e7]; exact k4
  refine at_aload_n (i := 0) 0 8 rfl (by decide +kernel) rfl ?_
  refine at_get (index := 19) (v := va_rf (mR m6 t 2)) cok7 2 11 rfl (by decide +kernel) k8 (by decide +kernel) tw_428 rfl ?_
  refine at_iload_n (i := 1) 1 12 rfl (by decide +kernel) rfl ?_
  refine at_iload_n (i := 3) 3 13 rfl (by decide +kernel) rfl ?_
  obtain ⟨b10, e11, h⟩ := h
  rw [e11]
  obtain ⟨k12, h⟩ := h
  obtain ⟨v13, h⟩ := h
  refine at_iast 14 rfl (by decide +kernel) k12 v13 (fun m14 e15 => ?_)
  replace h := h m14 e15
  have k16 : mK m14 t = 8 := by rw [e15]; exact k8
  have k17 : mK m14 b2 = 15 := by rw [e15]; exact k9
  have k18 : mK m14 b10 = 15 := by rw [e15]; exact k12
  refine at_iconst (n := 0) (0 : Int32) 15 rfl (by decide +kernel) (by decide +kernel) ?_
  refine at_istore (i := 4) (lc' := [(0, va_rf (some t)), (1, .int (l1)), (3, .int (l3)), (4, .int ((0 : Int32)))]) [1, 2, 4, 0] 17 rfl (by decide +kernel) (by decide +kernel) rfl ?_
  exact h
set_option maxRecDepth 20000 in
set_option maxHeartbeats 4000000 in
theorem en_Rows_numberAt (g : Gc) {lv : Nat} {t : Nat} {l1 : Int32} {l2 : Int32} {m : Mm} {Q : Int64 → Mm → Prop} (h : mK m t = 8 ∧ (∃ b2, mR m t 0 = some b2 ∧ (mK m b2 = 16 ∧ (vp_in ((l1 * (60 : Int32)) + l2) (mN m b2) ∧ (Q (mL m b2 ((l1 * (60 : Int32)) + l2).toNatClampNeg) m))))) : CJ g M_Rows_numberAt (lv + 1) [va_rf (some t), .int (l1), .int (l2)] m Q := by
  refine Call.of (by decide +kernel) (Nat.le_of_ble_eq_true rfl) ?_
  show At g M_Rows_numberAt (lv + 1) 0 [(0, va_rf (some t)), (1, .int (l1)), (2, .int (l2))] [] m (QJ Q)
  refine at_aload_n (i := 0) 0 1 rfl (by decide +kernel) rfl ?_
  obtain ⟨k1, h⟩ := h
  refine at_get (index := 9) (v := va_rf (mR m t 0)) cok7 0 4 rfl (by decide +kernel) k1 (by decide +kernel) tw_425 rfl ?_
  refine at_iload_n (i := 1) 1 5 rfl (by decide +kernel) rfl ?_
  refine at_bipush (n := 60) (60 : Int32) 7 rfl (by decide +kernel) (by decide +kernel) ?_
  refine at_imul 8 rfl (by decide +kernel) ?_
  refine at_iload_n (i := 2) 2 9 rfl (by decide +kernel) rfl ?_
  refine at_iadd 10 rfl (by decide +kernel) ?_
  obtain ⟨b2, e3, h⟩ := h
  rw [e3]
  obtain ⟨k4, h⟩ := h
  obtain ⟨v5, h⟩ := h
  refine at_lald 11 rfl (by decide +kernel) k4 v5 ?_
  exact at_lret rfl (by decide +kernel) h
set_option maxRecDepth 20000 in
set_option maxHeartbeats 4000000 in
theorem en_Rows_set (g : Gc) {lv : Nat} {t : Nat} {l1 : Int32} {l2 : Int32} {l3 : Int64} {m : Mm} {Q : Mm → Prop} (h : mK m t = 8 ∧ (∃ b2, mR m t 1 = some b2 ∧ (mK m b2 = 15 ∧ (vp_in l1 (mN m b2) ∧ (if (mI m b2 l1.toNatClampNeg) = (0 : Int32) then (∃ b8, mR m t 0 = some b8 ∧ (mK m b8 = 16 ∧ (vp_in ((l1 * (60 : Int32)) + l2) (mN m b8) ∧ (∀ m12, m12 = sL m b8 ((l1 * (60 : Int32)) + l2).toNatClampNeg l3.toInt32.toInt8.toInt32.toInt64 → (Q m12))))) else (if (mI m b2 l1.toNatClampNeg) = (1 : Int32) then (∃ b18, mR m t 0 = some b18 ∧ (mK m b18 = 16 ∧ (vp_in ((l1 * (60 : Int32)) + l2) (mN m b18) ∧ (∀ m22, m22 = sL m b18 ((l1 * (60 : Int32)) + l2).toNatClampNeg l3.toInt32.toInt16.toInt32.toInt64 → (Q m22))))) else (if (mI m b2 l1.toNatClampNeg) = (2 : Int32) then (∃ b28, mR m t 0 = some b28 ∧ (mK m b28 = 16 ∧ (vp_in ((l1 * (60 : Int32)) + l2) (mN m b28) ∧ (∀ m32, m32 = sL m b28 ((l1 * (60 : Int32)) + l2).toNatClampNeg l3.toInt32.toInt64 → (Q m32))))) else (∃ b37, mR m t 0 = some b37 ∧ (mK m b37 = 16 ∧ (vp_in ((l1 * (60 : Int32)) + l2) (mN m b37) ∧ (∀ m41, m41 = sL m b37 ((l1 * (60 : Int32)) + l2).toNatClampNeg l3 → (Q m41)))))))))))) : CV g M_Rows_set (lv + 1) [va_rf (some t), .int (l1), .int (l2), .long (l3)] m Q := by
  refine Call.of (by decide +kernel) (Nat.le_of_ble_eq_true rfl) ?_
  show At g M_Rows_set (lv + 1) 0 [(0, va_rf (some t)), (1, .int (l1)), (2, .int (l2)), (3, .long (l3))] [] m (QV Q)
  refine at_iload_n (i := 1) 1 1 rfl (by decide +kernel) rfl ?_
  refine at_bipush (n := 60) (60 : Int32) 3 rfl (by decide +kernel) (by decide +kernel) ?_
  refine at_imul 4 rfl (by decide +kernel) ?_
  refine at_iload_n (i := 2) 2 5 rfl (by decide +kernel) rfl ?_
  refine at_iadd 6 rfl (by decide +kernel) ?_
  refine at_istore (i := 5) (lc' := [(0, va_rf (some t)), (1, .int (l1)), (3, .long (l3)), (5, .int ((l1 * (60 : Int32)) + l2))]) [1, 2, 4, 0] 8 rfl (by decide +kernel) (by decide +kernel) rfl ?_
  refine at_aload_n (i := 0) 0 9 rfl (by decide +kernel) rfl ?_
  obtain ⟨k1, h⟩ := h
  refine at_get (index := 15) (v := va_rf (mR m t 1)) cok7 1 12 rfl (by decide +kernel) k1 (by decide +kernel) tw_426 rfl ?_
  refine at_iload_n (i := 1) 1 13 rfl (by decide +kernel) rfl ?_
  obtain ⟨b2, e3, h⟩ := h
  rw [e3]
  obtain ⟨k4, h⟩ := h
  obtain ⟨v5, h⟩ := h
  refine at_iald 14 rfl (by decide +kernel) k4 v5 ?_
  by_cases c7 : (mI m b2 l1.toNatClampNeg) = (0 : Int32)
  · rw [if_pos c7] at h
    have w6 : (mI m b2 l1.toNatClampNeg).toInt = 0 := by rw [c7]; decide +kernel
    refine at_tabIn (dflt := 67) (lo := 0) (hi := 2) (offs := #[26, 40, 54]) (len := 26) (off := 26) 40 (by decide +kernel) (by rw [w6]; decide) (by rw [w6]; decide) (by rw [w6]; decide +kernel) (by decide +kernel) ?_
    refine at_aload_n (i := 0) 0 41 rfl (by decide +kernel) rfl ?_
    refine at_get (index := 9) (v := va_rf (mR m t 0)) cok7 0 44 rfl (by decide +kernel) k1 (by decide +kernel) tw_425 rfl ?_
    refine at_iload (i := 5) 3 46 rfl (by decide +kernel) rfl ?_
    refine at_lload_n (i := 3) 2 47 rfl (by decide +kernel) rfl ?_
    refine at_l2i 48 rfl (by decide +kernel) ?_
    refine at_i2b 49 rfl (by decide +kernel) ?_
    refine at_i2l 50 rfl (by decide +kernel) ?_
    obtain ⟨b8, e9, h⟩ := h
    rw [e9]
    obtain ⟨k10, h⟩ := h
    obtain ⟨v11, h⟩ := h
    refine at_last 51 rfl (by decide +kernel) k10 v11 (fun m12 e13 => ?_)
    replace h := h m12 e13
    have k14 : mK m12 t = 8 := by rw [e13]; exact k1
    have k15 : mK m12 b2 = 15 := by rw [e13]; exact k4
    have k16 : mK m12 b8 = 16 := by rw [e13]; exact k10
    refine at_goto (off := 38) 89 (by decide +kernel) (by decide +kernel) ?_
    exact at_vret rfl (by decide +kernel) h
  rw [if_neg c7] at h
  by_cases c17 : (mI m b2 l1.toNatClampNeg) = (1 : Int32)
  · rw [if_pos c17] at h
    have w6 : (mI m b2 l1.toNatClampNeg).toInt = 1 := by rw [c17]; decide +kernel
    refine at_tabIn (dflt := 67) (lo := 0) (hi := 2) (offs := #[26, 40, 54]) (len := 26) (off := 40) 54 (by decide +kernel) (by rw [w6]; decide) (by rw [w6]; decide) (by rw [w6]; decide +kernel) (by decide +kernel) ?_
    refine at_aload_n (i := 0) 0 55 rfl (by decide +kernel) rfl ?_
    refine at_get (index := 9) (v := va_rf (mR m t 0)) cok7 0 58 rfl (by decide +kernel) k1 (by decide +kernel) tw_425 rfl ?_
    refine at_iload (i := 5) 3 60 rfl (by decide +kernel) rfl ?_
    refine at_lload_n (i := 3) 2 61 rfl (by decide +kernel) rfl ?_
    refine at_l2i 62 rfl (by decide +kernel) ?_
    refine at_i2s 63 rfl (by decide +kernel) ?_
    refine at_i2l 64 rfl (by decide +kernel) ?_
    obtain ⟨b18, e19, h⟩ := h
    rw [e19]
    obtain ⟨k20, h⟩ := h
    obtain ⟨v21, h⟩ := h
    refine at_last 65 rfl (by decide +kernel) k20 v21 (fun m22 e23 => ?_)
    replace h := h m22 e23
    have k24 : mK m22 t = 8 := by rw [e23]; exact k1
    have k25 : mK m22 b2 = 15 := by rw [e23]; exact k4
    have k26 : mK m22 b18 = 16 := by rw [e23]; exact k20
    refine at_goto (off := 24) 89 (by decide +kernel) (by decide +kernel) ?_
    exact at_vret rfl (by decide +kernel) h
  rw [if_neg c17] at h
  by_cases c27 : (mI m b2 l1.toNatClampNeg) = (2 : Int32)
  · rw [if_pos c27] at h
    have w6 : (mI m b2 l1.toNatClampNeg).toInt = 2 := by rw [c27]; decide +kernel
    refine at_tabIn (dflt := 67) (lo := 0) (hi := 2) (offs := #[26, 40, 54]) (len := 26) (off := 54) 68 (by decide +kernel) (by rw [w6]; decide) (by rw [w6]; decide) (by rw [w6]; decide +kernel) (by decide +kernel) ?_
    refine at_aload_n (i := 0) 0 69 rfl (by decide +kernel) rfl ?_
    refine at_get (index := 9) (v := va_rf (mR m t 0)) cok7 0 72 rfl (by decide +kernel) k1 (by decide +kernel) tw_425 rfl ?_
    refine at_iload (i := 5) 3 74 rfl (by decide +kernel) rfl ?_
    refine at_lload_n (i := 3) 2 75 rfl (by decide +kernel) rfl ?_
    refine at_l2i 76 rfl (by decide +kernel) ?_
    refine at_i2l 77 rfl (by decide +kernel) ?_
    obtain ⟨b28, e29, h⟩ := h
    rw [e29]
    obtain ⟨k30, h⟩ := h
    obtain ⟨v31, h⟩ := h
    refine at_last 78 rfl (by decide +kernel) k30 v31 (fun m32 e33 => ?_)
    replace h := h m32 e33
    have k34 : mK m32 t = 8 := by rw [e33]; exact k1
    have k35 : mK m32 b2 = 15 := by rw [e33]; exact k4
    have k36 : mK m32 b28 = 16 := by rw [e33]; exact k30
    refine at_goto (off := 11) 89 (by decide +kernel) (by decide +kernel) ?_
    exact at_vret rfl (by decide +kernel) h
  rw [if_neg c27] at h
  have c7e : (mI m b2 l1.toNatClampNeg).toInt ≠ 0 := fun e => c7 (Int32.toInt_inj.mp (e.trans (by decide +kernel)))
  have c17e : (mI m b2 l1.toNatClampNeg).toInt ≠ 1 := fun e => c17 (Int32.toInt_inj.mp (e.trans (by decide +kernel)))
  have c27e : (mI m b2 l1.toNatClampNeg).toInt ≠ 2 := fun e => c27 (Int32.toInt_inj.mp (e.trans (by decide +kernel)))
  refine at_tabOut (dflt := 67) (lo := 0) (hi := 2) (offs := #[26, 40, 54]) (len := 26) 81 (by decide +kernel) (by omega) (by decide +kernel) ?_
  refine at_aload_n (i := 0) 0 82 rfl (by decide +kernel) rfl ?_
  refine at_get (index := 9) (v := va_rf (mR m t 0)) cok7 0 85 rfl (by decide +kernel) k1 (by decide +kernel) tw_425 rfl ?_
  refine at_iload (i := 5) 3 87 rfl (by decide +kernel) rfl ?_
  refine at_lload_n (i := 3) 2 88 rfl (by decide +kernel) rfl ?_
  obtain ⟨b37, e38, h⟩ := h
  rw [e38]
  obtain ⟨k39, h⟩ := h
  obtain ⟨v40, h⟩ := h
  refine at_last 89 rfl (by decide +kernel) k39 v40 (fun m41 e42 => ?_)
  replace h := h m41 e42
  have k43 : mK m41 t = 8 := by rw [e42]; exact k1
  have k44 : mK m41 b2 = 15 := by rw [e42]; exact k4
  have k45 : mK m41 b37 = 16 := by rw [e42]; exact k39
  exact at_vret rfl (by decide +kernel) h
set_option maxRecDepth 20000 in
set_option maxHeartbeats 4000000 in
theorem en_Rows_carry (g : Gc) {lv : Nat} {t : Nat} {l1 : Int32} {l2 : Int32} {l3 : Int32} {l4 : Int32} {l5 : Int32} {m : Mm} {Q : Mm → Prop} (h : mK m t = 8 ∧ (∃ b2, mR m t 0 = some b2 ∧ (mK m b2 = 16 ∧ (¬ ((l1 * (60 : Int32)) + l2) < 0 ∧ ¬ ((l3 * (60 : Int32)) + l4) < 0 ∧ ¬ l5 < 0 ∧ ((l1 * (60 : Int32)) + l2).toNatClampNeg + l5.toNatClampNeg ≤ mN m b2 ∧ ((l3 * (60 : Int32)) + l4).toNatClampNeg + l5.toNatClampNeg ≤ mN m b2 ∧ (∀ m10, m10 = rL m b2 (va_cpy (mL m b2) (mL m b2) ((l1 * (60 : Int32)) + l2).toNatClampNeg ((l3 * (60 : Int32)) + l4).toNatClampNeg l5.toNatClampNeg) → (Q m10)))))) : CV g M_Rows_carry (lv + 1) [va_rf (some t), .int (l1), .int (l2), .int (l3), .int (l4), .int (l5)] m Q := by
  refine Call.of (by decide +kernel) (Nat.le_of_ble_eq_true rfl) ?_
  show At g M_Rows_carry (lv + 1) 0 [(0, va_rf (some t)), (1, .int (l1)), (2, .int (l2)), (3, .int (l3)), (4, .int (l4)), (5, .int (l5))] [] m (QV Q)
  refine at_aload_n (i := 0) 0 1 rfl (by decide +kernel) rfl ?_
  obtain ⟨k1, h⟩ := h
  refine at_get (index := 9) (v := va_rf (mR m t 0)) cok7 0 4 rfl (by decide +kernel) k1 (by decide +kernel) tw_425 rfl ?_
  refine at_iload_n (i := 1) 1 5 rfl (by decide +kernel) rfl ?_
  refine at_bipush (n := 60) (60 : Int32) 7 rfl (by decide +kernel) (by decide +kernel) ?_
  refine at_imul 8 rfl (by decide +kernel) ?_
  refine at_iload_n (i := 2) 2 9 rfl (by decide +kernel) rfl ?_
  refine at_iadd 10 rfl (by decide +kernel) ?_
  refine at_aload_n (i := 0) 0 11 rfl (by decide +kernel) rfl ?_
  refine at_get (index := 9) (v := va_rf (mR m t 0)) cok7 0 14 rfl (by decide +kernel) k1 (by decide +kernel) tw_425 rfl ?_
  refine at_iload_n (i := 3) 3 15 rfl (by decide +kernel) rfl ?_
  refine at_bipush (n := 60) (60 : Int32) 17 rfl (by decide +kernel) (by decide +kernel) ?_
  refine at_imul 18 rfl (by decide +kernel) ?_
  refine at_iload (i := 4) 4 20 rfl (by decide +kernel) rfl ?_
  refine at_iadd 21 rfl (by decide +kernel) ?_
  refine at_iload (i := 5) 5 23 rfl (by decide +kernel) rfl ?_
  obtain ⟨b2, e3, h⟩ := h
  rw [e3]
  obtain ⟨k4, h⟩ := h
  obtain ⟨c5, c6, c7, c8, c9, h⟩ := h
  refine at_copyL 26 rfl (by decide +kernel) tw_1078 tw_655 tw_654 tw_82 k4 k4 c5 c6 c7 c8 c9 (by decide) (fun m10 e11 => ?_)
  replace h := h m10 e11
  have k12 : mK m10 t = 8 := by rw [e11]; exact k1
  have k13 : mK m10 b2 = 16 := by rw [e11]; exact k4
  exact at_vret rfl (by decide +kernel) h
set_option maxRecDepth 20000 in
set_option maxHeartbeats 4000000 in
theorem en_Store_init (g : Gc) {lv : Nat} {t : Nat} {m : Mm} {Q : Mm → Prop} (h : mK m (gz g + mC m) = 0 ∧ (∀ q2 m3, q2 = gz g + mC m → m3 = nw m q2 21 ((400 : Int32).toNatClampNeg) ((400 : Int32).toNatClampNeg) → (mK m3 t = 9 ∧ (∀ m9, m9 = sR m3 t 0 (some q2) → (Q m9))))) : CV g M_Store_init (lv + 1) [va_rf (some t)] m Q := by
  refine Call.of (by decide +kernel) (Nat.le_of_ble_eq_true rfl) ?_
  show At g M_Store_init (lv + 1) 0 [(0, va_rf (some t))] [] m (QV Q)
  refine at_aload_n (i := 0) 0 1 rfl (by decide +kernel) rfl ?_
  refine at_objInit 4 rfl (by decide +kernel) tw_148 tw_91 tw_92 (by decide) ?_
  refine at_aload_n (i := 0) 0 5 rfl (by decide +kernel) rfl ?_
  refine at_sipush (n := 400) (400 : Int32) 8 rfl (by decide +kernel) (by decide +kernel) ?_
  obtain ⟨z1, h⟩ := h
  refine at_anewReceipt (index := 9) 11 rfl z1 (by decide +kernel) tw_149 (by decide +kernel) (by decide +kernel) (fun q2 m3 e4 e5 => ?_)
  replace h := h q2 m3 e4 e5
  have x6 : Ext m m3 := by rw [e5, e4]; exact Ext.nw z1 _ _ _
  have k7 : mK m3 q2 = 21 := by rw [e5]; exact if_pos rfl
  obtain ⟨k8, h⟩ := h
  refine at_putRF (index := 11) cok8 0 14 rfl (by decide +kernel) k8 (by decide +kernel) tw_151 rfl rfl rfl rfl (Or.inr ⟨_, rfl⟩) (fun m9 e10 => ?_)
  replace h := h m9 e10
  have k11 : mK m9 q2 = 21 := by rw [e10]; exact k7
  have k12 : mK m9 t = 9 := by rw [e10]; exact k8
  exact at_vret rfl (by decide +kernel) h
set_option maxRecDepth 20000 in
set_option maxHeartbeats 4000000 in
theorem en_Store_find (g : Gc) {lv : Nat} {t : Nat} {l1 : Int32} {m : Mm} {Q : Option Nat → Mm → Prop} (h : mK m t = 9 ∧ (CI g M_SL_isWithin lv [.int (l1), .int ((0 : Int32)), .int ((mI m t 1) - (1 : Int32))] m (fun x2 m3 => (if (x2) = 0 then (Q none m3) else (∃ b7, mR m3 t 0 = some b7 ∧ (mK m3 b7 = 21 ∧ (vp_in l1 (mN m3 b7) ∧ (Q (mR m3 b7 l1.toNatClampNeg) m3)))))))) : CR g M_Store_find (lv + 1) [va_rf (some t), .int (l1)] m Q := by
  refine Call.of (by decide +kernel) (Nat.le_of_ble_eq_true rfl) ?_
  show At g M_Store_find (lv + 1) 0 [(0, va_rf (some t)), (1, .int (l1))] [] m (QR Q)
  refine at_iload_n (i := 1) 1 1 rfl (by decide +kernel) rfl ?_
  refine at_iconst (n := 0) (0 : Int32) 2 rfl (by decide +kernel) (by decide +kernel) ?_
  refine at_aload_n (i := 0) 0 3 rfl (by decide +kernel) rfl ?_
  obtain ⟨k1, h⟩ := h
  refine at_get (index := 17) (v := .int (mI m t 1)) cok8 1 6 rfl (by decide +kernel) k1 (by decide +kernel) tw_153 rfl ?_
  refine at_iconst (n := 1) (1 : Int32) 7 rfl (by decide +kernel) (by decide +kernel) ?_
  refine at_isub 8 rfl (by decide +kernel) ?_
  refine at_callSN mb_SL_isWithin tw_471 (index := 21) (host := "SurplusLand") (by decide +kernel) [.int (l1), .int ((0 : Int32)), .int ((mI m t 1) - (1 : Int32))] [] rfl rfl (by decide) 11 rfl (by decide +kernel) (Call.toI (CI.monoE h (fun x2 m3 h y4 => ?_)))
  have k5 : mK m3 t = 9 := y4.k k1 (by decide)
  refine at_if_eq (off := 12) 23 14 rfl (by decide +kernel) (by decide +kernel) (fun c6 => ?_) (fun c6 => ?_)
  · rw [if_pos c6] at h
    refine at_null 24 rfl (by decide +kernel) ?_
    exact at_aret rfl (Or.inl ⟨_, rfl⟩) (by decide +kernel) h
  · rw [if_neg c6] at h
    refine at_aload_n (i := 0) 0 15 rfl (by decide +kernel) rfl ?_
    refine at_get (index := 11) (v := va_rf (mR m3 t 0)) cok8 0 18 rfl (by decide +kernel) k5 (by decide +kernel) tw_151 rfl ?_
    refine at_iload_n (i := 1) 1 19 rfl (by decide +kernel) rfl ?_
    obtain ⟨b7, e8, h⟩ := h
    rw [e8]
    obtain ⟨k9, h⟩ := h
    obtain ⟨v10, h⟩ := h
    refine at_aaldReceipt 20 rfl (by decide +kernel) k9 v10 ?_
    refine at_goto (off := 4) 24 (by decide +kernel) (by decide +kernel) ?_
    exact at_aret rfl (Or.inl ⟨_, rfl⟩) (by decide +kernel) h
set_option maxRecDepth 20000 in
set_option maxHeartbeats 4000000 in
theorem en_Store_isFull (g : Gc) {lv : Nat} {t : Nat} {m : Mm} {Q : Int32 → Mm → Prop} (h : mK m t = 9 ∧ (if (mI m t 1) < ((400 : Int32)) then (Q (0 : Int32) m) else (Q (1 : Int32) m))) : CI g M_Store_isFull (lv + 1) [va_rf (some t)] m Q := by
  refine Call.of (by decide +kernel) (Nat.le_of_ble_eq_true rfl) ?_
  show At g M_Store_isFull (lv + 1) 0 [(0, va_rf (some t))] [] m (QI Q)
  refine at_aload_n (i := 0) 0 1 rfl (by decide +kernel) rfl ?_
  obtain ⟨k1, h⟩ := h
  refine at_get (index := 17) (v := .int (mI m t 1)) cok8 1 4 rfl (by decide +kernel) k1 (by decide +kernel) tw_153 rfl ?_
  refine at_sipush (n := 400) (400 : Int32) 7 rfl (by decide +kernel) (by decide +kernel) ?_
  refine at_icmp_lt (off := 7) 14 10 rfl (by decide +kernel) (by decide +kernel) (fun c2 => ?_) (fun c2 => ?_)
  · rw [if_pos c2] at h
    refine at_iconst (n := 0) (0 : Int32) 15 rfl (by decide +kernel) (by decide +kernel) ?_
    exact at_zret rfl (by decide +kernel) (Or.inl rfl) h
  · rw [if_neg c2] at h
    refine at_iconst (n := 1) (1 : Int32) 11 rfl (by decide +kernel) (by decide +kernel) ?_
    refine at_goto (off := 4) 15 (by decide +kernel) (by decide +kernel) ?_
    exact at_zret rfl (by decide +kernel) (Or.inr rfl) h
set_option maxRecDepth 20000 in
set_option maxHeartbeats 4000000 in
theorem bk_Store_issue_37 (g : Gc) {lv : Nat} {t : Nat} {l1 : Int32} {l2 : Int32} {l3 : Int32} {m : Mm} {Q : Int32 → Mm → Prop} (h : mK m t = 9 ∧ (∃ b2, mR m t 0 = some b2 ∧ (mK m b2 = 21 ∧ (vp_in (mI m t 1) (mN m b2) ∧ (∃ b6, mR m b2 (mI m t 1).toNatClampNeg = some b6 ∧ (mK m b6 = 7 ∧ (∀ m9, m9 = sI m b6 0 l1 → (∀ m14, m14 = sI m9 b6 1 l2 → (∀ m19, m19 = sI m14 b6 2 l3 → (∀ m24, m24 = sR m19 b6 3 none → (∀ m29, m29 = sR m24 b6 4 none → (∀ m34, m34 = sI m29 t 1 ((mI m29 t 1) + (1 : Int32)) → (Q ((mI m34 t 1) - (1 : Int32)) m34))))))))))))) : At g M_Store_issue (lv + 1) 37 [(0, va_rf (some t)), (1, .int (l1)), (2, .int (l2)), (3, .int (l3))] [] m (QI Q) := by
  refine at_aload_n (i := 0) 0 38 rfl (by decide +kernel) rfl ?_
  obtain ⟨k1, h⟩ := h
  refine at_get (index := 11) (v := va_rf (mR m t 0)) cok8 0 41 rfl (by decide +kernel) k1 (by decide +kernel) tw_151 rfl ?_
  refine at_aload_n (i := 0) 0 42 rfl (by decide +kernel) rfl ?_
  refine at_get (index := 17) (v := .int (mI m t 1)) cok8 1 45 rfl (by decide +kernel) k1 (by decide +kernel) tw_153 rfl ?_
  obtain ⟨b2, e3, h⟩ := h
  rw [e3]
  obtain ⟨k4, h⟩ := h
  obtain ⟨v5, h⟩ := h
  refine at_aaldReceipt 46 rfl (by decide +kernel) k4 v5 ?_
  refine at_astore (i := 4) (lc' := [(0, va_rf (some t)), (1, .int (l1)), (2, .int (l2)), (3, .int (l3)), (4, va_rf (mR m b2 (mI m t 1).toNatClampNeg))]) [1, 2, 3, 4, 0] 48 rfl (by decide +kernel) (by decide +kernel) rfl ?_
  refine at_aload (i := 4) 4 50 rfl (by decide +kernel) rfl ?_
  refine at_iload_n (i := 1) 1 51 rfl (by decide +kernel) rfl ?_
  obtain ⟨b6, e7, h⟩ := h
  rw [e7]
  obtain ⟨k8, h⟩ := h
  refine at_putI (index := 30) cok6 0 54 rfl (by decide +kernel) k8 (by decide +kernel) tw_773 rfl rfl rfl (fun m9 e10 => ?_)
  replace h := h m9 e10
  have k11 : mK m9 t = 9 := by rw [e10]; exact k1
  have k12 : mK m9 b2 = 21 := by rw [e10]; exact k4
  have k13 : mK m9 b6 = 7 := by rw [e10]; exact k8
  refine at_aload (i := 4) 4 56 rfl (by decide +kernel) rfl ?_
  refine at_iload_n (i := 2) 2 57 rfl (by decide +kernel) rfl ?_
  refine at_putI (index := 33) cok6 1 60 rfl (by decide +kernel) k13 (by decide +kernel) tw_776 rfl rfl rfl (fun m14 e15 => ?_)
  replace h := h m14 e15
  have k16 : mK m14 t = 9 := by rw [e15]; exact k11
  have k17 : mK m14 b2 = 21 := by rw [e15]; exact k12
  have k18 : mK m14 b6 = 7 := by rw [e15]; exact k13
  refine at_aload (i := 4) 4 62 rfl (by decide +kernel) rfl ?_
  refine at_iload_n (i := 3) 3 63 rfl (by decide +kernel) rfl ?_
  refine at_putI (index := 36) cok6 2 66 rfl (by decide +kernel) k18 (by decide +kernel) tw_779 rfl rfl rfl (fun m19 e20 => ?_)
  replace h := h m19 e20
  have k21 : mK m19 t = 9 := by rw [e20]; exact k16
  have k22 : mK m19 b2 = 21 := by rw [e20]; exact k17
  have k23 : mK m19 b6 = 7 := by rw [e20]; exact k18
  refine at_aload (i := 4) 4 68 rfl (by decide +kernel) rfl ?_
  refine at_null 69 rfl (by decide +kernel) ?_
  refine at_putR (index := 39) cok6 3 72 rfl (by decide +kernel) k23 (by decide +kernel) tw_783 rfl rfl (Or.inl ⟨_, rfl⟩) (fun m24 e25 => ?_)
  replace h := h m24 e25
  have k26 : mK m24 t = 9 := by rw [e25]; exact k21
  have k27 : mK m24 b2 = 21 := by rw [e25]; exact k22
  have k28 : mK m24 b6 = 7 := by rw [e25]; exact k23
  refine at_aload (i := 4) 4 74 rfl (by decide +kernel) rfl ?_
  refine at_null 75 rfl (by decide +kernel) ?_
  refine at_putR (index := 43) cok6 4 78 rfl (by decide +kernel) k28 (by decide +kernel) tw_787 rfl rfl (Or.inl ⟨_, rfl⟩) (fun m29 e30 => ?_)
  replace h := h m29 e30
  have k31 : mK m29 t = 9 := by rw [e30]; exact k26
  have k32 : mK m29 b2 = 21 := by rw [e30]; exact k27
  have k33 : mK m29 b6 = 7 := by rw [e30]; exact k28
  refine at_aload_n (i := 0) 0 79 rfl (by decide +kernel) rfl ?_
  refine at_dup 80 rfl (by decide +kernel) (va_rf_cat _) ?_
  refine at_get (index := 17) (v := .int (mI m29 t 1)) cok8 1 83 rfl (by decide +kernel) k31 (by decide +kernel) tw_153 rfl ?_
  refine at_iconst (n := 1) (1 : Int32) 84 rfl (by decide +kernel) (by decide +kernel) ?_
  refine at_iadd 85 rfl (by decide +kernel) ?_
  refine at_putI (index := 17) cok8 1 88 rfl (by decide +kernel) k31 (by decide +kernel) tw_153 rfl rfl rfl (fun m34 e35 => ?_)
  replace h := h m34 e35
  have k36 : mK m34 t = 9 := by rw [e35]; exact k31
  have k37 : mK m34 b2 = 21 := by rw [e35]; exact k32
  have k38 : mK m34 b6 = 7 := by rw [e35]; exact k33
  refine at_aload_n (i := 0) 0 89 rfl (by decide +kernel) rfl ?_
  refine at_get (index := 17) (v := .int (mI m34 t 1)) cok8 1 92 rfl (by decide +kernel) k36 (by decide +kernel) tw_153 rfl ?_
  refine at_iconst (n := 1) (1 : Int32) 93 rfl (by decide +kernel) (by decide +kernel) ?_
  refine at_isub 94 rfl (by decide +kernel) ?_
  exact at_iret rfl (by decide +kernel) h
set_option maxRecDepth 20000 in
set_option maxHeartbeats 4000000 in
theorem en_Store_issue (g : Gc) {lv : Nat} {t : Nat} {l1 : Int32} {l2 : Int32} {l3 : Int32} {m : Mm} {Q : Int32 → Mm → Prop} (h : mK m t = 9 ∧ (CI g M_Store_isFull lv [va_rf (some t)] m (fun x2 m3 => (if (x2) = 0 then (∃ b7, mR m3 t 0 = some b7 ∧ (mK m3 b7 = 21 ∧ (vp_in (mI m3 t 1) (mN m3 b7) ∧ (if (mR m3 b7 (mI m3 t 1).toNatClampNeg : Option Nat) = none then (mK m3 (gz g + mC m3) = 0 ∧ (∀ q13 m14, q13 = gz g + mC m3 → m14 = nw m3 q13 7 0 5 → (CV g M_Receipt_init lv [va_rf (some q13)] m14 (fun m21 => (vp_in (mI m3 t 1) (mN m21 b7) ∧ (∀ m27, m27 = sR m21 b7 (mI m3 t 1).toNatClampNeg (some q13) → (At g M_Store_issue (lv + 1) 37 [(0, va_rf (some t)), (1, .int (l1)), (2, .int (l2)), (3, .int (l3))] [] m27 (QI Q)))))))) else (At g M_Store_issue (lv + 1) 37 [(0, va_rf (some t)), (1, .int (l1)), (2, .int (l2)), (3, .int (l3))] [] m3 (QI Q)))))) else (Q (-1 : Int32) m3))))) : CI g M_Store_issue (lv + 1) [va_rf (some t), .int (l1), .int (l2), .int (l3)] m Q := by
  refine Call.of (by decide +kernel) (Nat.le_of_ble_eq_true rfl) ?_
  show At g M_Store_issue (lv + 1) 0 [(0, va_rf (some t)), (1, .int (l1)), (2, .int (l2)), (3, .int (l3))] [] m (QI Q)
  refine at_aload_n (i := 0) 0 1 rfl (by decide +kernel) rfl ?_
  obtain ⟨k1, h⟩ := h
  refine at_callV mb_Store_isFull tw_765 tw_766 cok8 k1 (index := 25) tw_764 [] [] rfl rfl (by decide) 4 rfl (by decide +kernel) (Call.toI (CI.monoE h (fun x2 m3 h y4 => ?_)))
  have k5 : mK m3 t = 9 := y4.k k1 (by decide)
  refine at_if_eq (off := 5) 9 7 rfl (by decide +kernel) (by decide +kernel) (fun c6 => ?_) (fun c6 => ?_)
  · rw [if_pos c6] at h
    refine at_aload_n (i := 0) 0 10 rfl (by decide +kernel) rfl ?_
    refine at_get (index := 11) (v := va_rf (mR m3 t 0)) cok8 0 13 rfl (by decide +kernel) k5 (by decide +kernel) tw_151 rfl ?_
    refine at_aload_n (i := 0) 0 14 rfl (by decide +kernel) rfl ?_
    refine at_get (index := 17) (v := .int (mI m3 t 1)) cok8 1 17 rfl (by decide +kernel) k5 (by decide +kernel) tw_153 rfl ?_
    obtain ⟨b7, e8, h⟩ := h
    rw [e8]
    obtain ⟨k9, h⟩ := h
    obtain ⟨v10, h⟩ := h
    refine at_aaldReceipt 18 rfl (by decide +kernel) k9 v10 ?_
    refine at_ifnonnull (off := 19) 37 21 rfl (by decide +kernel) (by decide +kernel) (fun c11 => ?_) (fun c11 => ?_)
    · rw [if_neg c11] at h
      exact h
    · rw [if_pos c11] at h
      refine at_aload_n (i := 0) 0 22 rfl (by decide +kernel) rfl ?_
      refine at_get (index := 11) (v := va_rf (mR m3 t 0)) cok8 0 25 rfl (by decide +kernel) k5 (by decide +kernel) tw_151 rfl ?_
      rw [e8]
      refine at_aload_n (i := 0) 0 26 rfl (by decide +kernel) rfl ?_
      refine at_get (index := 17) (v := .int (mI m3 t 1)) cok8 1 29 rfl (by decide +kernel) k5 (by decide +kernel) tw_153 rfl ?_
      obtain ⟨z12, h⟩ := h
      refine at_new (index := 9) cok6 32 rfl z12 (by decide +kernel) tw_149 tw_768 tw_83 (fun q13 m14 e15 e16 => ?_)
      replace h := h q13 m14 e15 e16
      have x17 : Ext m3 m14 := by rw [e16, e15]; exact Ext.nw z12 _ _ _
      have k18 : mK m14 t = 9 := x17.k k5 (by decide)
      have k19 : mK m14 b7 = 21 := x17.k k9 (by decide)
      have k20 : mK m14 q13 = 7 := by rw [e16]; exact if_pos rfl
      refine at_dup 33 rfl (by decide +kernel) (va_rf_cat _) ?_
      refine at_callIN mb_Receipt_init tw_770 rfl rfl (index := 29) (host := "SurplusLand") (by decide +kernel) [] [va_rf (some q13), .int (mI m3 t 1), va_rf (some b7)] rfl rfl (by simp [va_rf_cat, cat_int, cat_long]) 36 rfl (by decide +kernel) (Call.toV (CV.monoE h (fun m21 h y22 => ?_)))
      have k23 : mK m21 t = 9 := y22.k k18 (by decide)
      have k24 : mK m21 b7 = 21 := y22.k k19 (by decide)
      have k25 : mK m21 q13 = 7 := y22.k k20 (by decide)
      obtain ⟨v26, h⟩ := h
      refine at_aastReceipt 37 rfl (by decide +kernel) k24 v26 k25 (fun m27 e28 => ?_)
      replace h := h m27 e28
      have k29 : mK m27 t = 9 := by rw [e28]; exact k23
      have k30 : mK m27 b7 = 21 := by rw [e28]; exact k24
      have k31 : mK m27 q13 = 7 := by rw [e28]; exact k25
      exact h
  · rw [if_neg c6] at h
    refine at_iconst (n := (-1)) (-1 : Int32) 8 rfl (by decide +kernel) (by decide +kernel) ?_
    exact at_iret rfl (by decide +kernel) h
set_option maxRecDepth 20000 in
set_option maxHeartbeats 4000000 in
theorem en_Store_sacksInAll (g : Gc) {lv : Nat} {t : Nat} {m : Mm} {Q : Int64 → Mm → Prop} (h : mK m t = 9 ∧ (CJ g M_Store_sacksBefore lv [va_rf (some t), .int ((30 : Int32))] m (fun x2 m3 => (Q x2 m3)))) : CJ g M_Store_sacksInAll (lv + 1) [va_rf (some t)] m Q := by
  refine Call.of (by decide +kernel) (Nat.le_of_ble_eq_true rfl) ?_
  show At g M_Store_sacksInAll (lv + 1) 0 [(0, va_rf (some t))] [] m (QJ Q)
  refine at_aload_n (i := 0) 0 1 rfl (by decide +kernel) rfl ?_
  refine at_bipush (n := 30) (30 : Int32) 3 rfl (by decide +kernel) (by decide +kernel) ?_
  obtain ⟨k1, h⟩ := h
  refine at_callV mb_Store_sacksBefore tw_719 tw_720 cok8 k1 (index := 46) tw_718 [.int ((30 : Int32))] [] rfl rfl (by decide) 6 rfl (by decide +kernel) (Call.toJ (CJ.monoE h (fun x2 m3 h y4 => ?_)))
  have k5 : mK m3 t = 9 := y4.k k1 (by decide)
  exact at_lret rfl (by decide +kernel) h
set_option maxRecDepth 20000 in
set_option maxHeartbeats 4000000 in
theorem bk_Store_sacksBefore_5 (g : Gc) {lv : Nat} {t : Nat} {l1 : Int32} {l2 : Int64} {l4 : Int32} {m : Mm} {Q : Int64 → Mm → Prop} (h : mK m t = 9 ∧ (if (mI m t 1) ≤ (l4) then (Q l2 m) else (∃ b3, mR m t 0 = some b3 ∧ (mK m b3 = 21 ∧ (vp_in l4 (mN m b3) ∧ (∃ b7, mR m b3 l4.toNatClampNeg = some b7 ∧ (mK m b7 = 7 ∧ (if (l1) ≤ (mI m b7 2) then (At g M_Store_sacksBefore (lv + 1) 5 [(0, va_rf (some t)), (1, .int (l1)), (2, .long (l2)), (4, .int (l4 + (1 : Int32)))] [] m (QJ Q)) else (vp_in l4 (mN m b3) ∧ (At g M_Store_sacksBefore (lv + 1) 5 [(0, va_rf (some t)), (1, .int (l1)), (2, .long (l2 + ((mI m b7 1).toInt64))), (4, .int (l4 + (1 : Int32)))] [] m (QJ Q))))))))))) : At g M_Store_sacksBefore (lv + 1) 5 [(0, va_rf (some t)), (1, .int (l1)), (2, .long (l2)), (4, .int (l4))] [] m (QJ Q) := by
  refine at_iload (i := 4) 3 7 rfl (by decide +kernel) rfl ?_
  refine at_aload_n (i := 0) 0 8 rfl (by decide +kernel) rfl ?_
  obtain ⟨k1, h⟩ := h
  refine at_get (index := 17) (v := .int (mI m t 1)) cok8 1 11 rfl (by decide +kernel) k1 (by decide +kernel) tw_153 rfl ?_
  refine at_icmp_ge (off := 37) 48 14 rfl (by decide +kernel) (by decide +kernel) (fun c2 => ?_) (fun c2 => ?_)
  · rw [if_pos c2] at h
    refine at_lload_n (i := 2) 2 49 rfl (by decide +kernel) rfl ?_
    exact at_lret rfl (by decide +kernel) h
  · rw [if_neg c2] at h
    refine at_aload_n (i := 0) 0 15 rfl (by decide +kernel) rfl ?_
    refine at_get (index := 11) (v := va_rf (mR m t 0)) cok8 0 18 rfl (by decide +kernel) k1 (by decide +kernel) tw_151 rfl ?_
    refine at_iload (i := 4) 3 20 rfl (by decide +kernel) rfl ?_
    obtain ⟨b3, e4, h⟩ := h
    rw [e4]
    obtain ⟨k5, h⟩ := h
    obtain ⟨v6, h⟩ := h
    refine at_aaldReceipt 21 rfl (by decide +kernel) k5 v6 ?_
    obtain ⟨b7, e8, h⟩ := h
    rw [e8]
    obtain ⟨k9, h⟩ := h
    refine at_get (index := 36) (v := .int (mI m b7 2)) cok6 2 24 rfl (by decide +kernel) k9 (by decide +kernel) tw_779 rfl ?_
    refine at_iload_n (i := 1) 1 25 rfl (by decide +kernel) rfl ?_
    refine at_icmp_ge (off := 17) 42 28 rfl (by decide +kernel) (by decide +kernel) (fun c10 => ?_) (fun c10 => ?_)
    · rw [if_pos c10] at h
      refine at_iinc (i := 4) (n := 1) (lc' := [(0, va_rf (some t)), (1, .int (l1)), (2, .long (l2)), (4, .int (l4 + (1 : Int32)))]) (l4 + (1 : Int32)) 3 [1, 2, 3, 0] 45 rfl (by decide +kernel) rfl (by rw [show Int32.ofInt 1 = (1 : Int32) from by decide +kernel]) (by decide +kernel) rfl ?_
      refine at_goto (off := (-40)) 5 (by decide +kernel) (by decide +kernel) ?_
      exact h
    · rw [if_neg c10] at h
      refine at_lload_n (i := 2) 2 29 rfl (by decide +kernel) rfl ?_
      refine at_aload_n (i := 0) 0 30 rfl (by decide +kernel) rfl ?_
      refine at_get (index := 11) (v := va_rf (mR m t 0)) cok8 0 33 rfl (by decide +kernel) k1 (by decide +kernel) tw_151 rfl ?_
      rw [e4]
      refine at_iload (i := 4) 3 35 rfl (by decide +kernel) rfl ?_
      obtain ⟨v11, h⟩ := h
      refine at_aaldReceipt 36 rfl (by decide +kernel) k5 v11 ?_
      rw [e8]
      refine at_get (index := 33) (v := .int (mI m b7 1)) cok6 1 39 rfl (by decide +kernel) k9 (by decide +kernel) tw_776 rfl ?_
      refine at_i2l 40 rfl (by decide +kernel) ?_
      refine at_ladd 41 rfl (by decide +kernel) ?_
      refine at_lstore_n (i := 2) (lc' := [(0, va_rf (some t)), (1, .int (l1)), (2, .long (l2 + ((mI m b7 1).toInt64))), (4, .int (l4))]) [1, 2, 0, 3] 42 rfl (by decide +kernel) (by decide +kernel) rfl ?_
      refine at_iinc (i := 4) (n := 1) (lc' := [(0, va_rf (some t)), (1, .int (l1)), (2, .long (l2 + ((mI m b7 1).toInt64))), (4, .int (l4 + (1 : Int32)))]) (l4 + (1 : Int32)) 3 [1, 2, 3, 0] 45 rfl (by decide +kernel) rfl (by rw [show Int32.ofInt 1 = (1 : Int32) from by decide +kernel]) (by decide +kernel) rfl ?_
      refine at_goto (off := (-40)) 5 (by decide +kernel) (by decide +kernel) ?_
      exact h
set_option maxRecDepth 20000 in
set_option maxHeartbeats 4000000 in
theorem en_Store_sacksBefore (g : Gc) {lv : Nat} {t : Nat} {l1 : Int32} {m : Mm} {Q : Int64 → Mm → Prop} (h : At g M_Store_sacksBefore (lv + 1) 5 [(0, va_rf (some t)), (1, .int (l1)), (2, .long ((0 : Int64))), (4, .int ((0 : Int32)))] [] m (QJ Q)) : CJ g M_Store_sacksBefore (lv + 1) [va_rf (some t), .int (l1)] m Q := by
  refine Call.of (by decide +kernel) (Nat.le_of_ble_eq_true rfl) ?_
  show At g M_Store_sacksBefore (lv + 1) 0 [(0, va_rf (some t)), (1, .int (l1))] [] m (QJ Q)
  refine at_lconst (n := 0) (0 : Int64) 1 rfl (by decide +kernel) (by decide +kernel) ?_
  refine at_lstore_n (i := 2) (lc' := [(0, va_rf (some t)), (1, .int (l1)), (2, .long ((0 : Int64)))]) [1, 2, 0] 2 rfl (by decide +kernel) (by decide +kernel) rfl ?_
  refine at_iconst (n := 0) (0 : Int32) 3 rfl (by decide +kernel) (by decide +kernel) ?_
  refine at_istore (i := 4) (lc' := [(0, va_rf (some t)), (1, .int (l1)), (2, .long ((0 : Int64))), (4, .int ((0 : Int32)))]) [1, 2, 3, 0] 5 rfl (by decide +kernel) (by decide +kernel) rfl ?_
  exact h
set_option maxRecDepth 20000 in
set_option maxHeartbeats 4000000 in
theorem bk_Store_rot_5 (g : Gc) {lv : Nat} {t : Nat} {l1 : Int32} {l2 : Int64} {l4 : Int32} {m : Mm} {Q : Int64 → Mm → Prop} (h : mK m t = 9 ∧ (if (mI m t 1) ≤ (l4) then (Q l2 m) else (∃ b3, mR m t 0 = some b3 ∧ (mK m b3 = 21 ∧ (vp_in l4 (mN m b3) ∧ (∃ b7, mR m b3 l4.toNatClampNeg = some b7 ∧ (mK m b7 = 7 ∧ (vp_in l4 (mN m b3) ∧ (∀ m11, m11 = sI m b7 1 ((mI m b7 1) - (((((mI m b7 1).toInt64) * l1.toInt64) / (1000 : Int64)).toInt32)) → (At g M_Store_rot (lv + 1) 5 [(0, va_rf (some t)), (1, .int (l1)), (2, .long (l2 + ((((((mI m b7 1).toInt64) * l1.toInt64) / (1000 : Int64)).toInt32).toInt64))), (4, .int (l4 + (1 : Int32)))] [] m11 (QJ Q))))))))))) : At g M_Store_rot (lv + 1) 5 [(0, va_rf (some t)), (1, .int (l1)), (2, .long (l2)), (4, .int (l4))] [] m (QJ Q) := by
  refine at_iload (i := 4) 3 7 rfl (by decide +kernel) rfl ?_
  refine at_aload_n (i := 0) 0 8 rfl (by decide +kernel) rfl ?_
  obtain ⟨k1, h⟩ := h
  refine at_get (index := 17) (v := .int (mI m t 1)) cok8 1 11 rfl (by decide +kernel) k1 (by decide +kernel) tw_153 rfl ?_
  refine at_icmp_ge (off := 53) 64 14 rfl (by decide +kernel) (by decide +kernel) (fun c2 => ?_) (fun c2 => ?_)
  · rw [if_pos c2] at h
    refine at_lload_n (i := 2) 2 65 rfl (by decide +kernel) rfl ?_
    exact at_lret rfl (by decide +kernel) h
  · rw [if_neg c2] at h
    refine at_aload_n (i := 0) 0 15 rfl (by decide +kernel) rfl ?_
    refine at_get (index := 11) (v := va_rf (mR m t 0)) cok8 0 18 rfl (by decide +kernel) k1 (by decide +kernel) tw_151 rfl ?_
    refine at_iload (i := 4) 3 20 rfl (by decide +kernel) rfl ?_
    obtain ⟨b3, e4, h⟩ := h
    rw [e4]
    obtain ⟨k5, h⟩ := h
    obtain ⟨v6, h⟩ := h
    refine at_aaldReceipt 21 rfl (by decide +kernel) k5 v6 ?_
    obtain ⟨b7, e8, h⟩ := h
    rw [e8]
    obtain ⟨k9, h⟩ := h
    refine at_get (index := 33) (v := .int (mI m b7 1)) cok6 1 24 rfl (by decide +kernel) k9 (by decide +kernel) tw_776 rfl ?_
    refine at_i2l 25 rfl (by decide +kernel) ?_
    refine at_iload_n (i := 1) 1 26 rfl (by decide +kernel) rfl ?_
    refine at_i2l 27 rfl (by decide +kernel) ?_
    refine at_lmul 28 rfl (by decide +kernel) ?_
    refine at_ldc2 (index := 50) (1000 : Int64) 31 rfl (by decide +kernel) tw_839 ?_
    refine at_ldiv 32 rfl (by decide +kernel) (by decide +kernel) ?_
    refine at_l2i 33 rfl (by decide +kernel) ?_
    refine at_istore (i := 5) (lc' := [(0, va_rf (some t)), (1, .int (l1)), (2, .long (l2)), (4, .int (l4)), (5, .int (((((mI m b7 1).toInt64) * l1.toInt64) / (1000 : Int64)).toInt32))]) [1, 2, 3, 4, 0] 35 rfl (by decide +kernel) (by decide +kernel) rfl ?_
    refine at_aload_n (i := 0) 0 36 rfl (by decide +kernel) rfl ?_
    refine at_get (index := 11) (v := va_rf (mR m t 0)) cok8 0 39 rfl (by decide +kernel) k1 (by decide +kernel) tw_151 rfl ?_
    rw [e4]
    refine at_iload (i := 4) 3 41 rfl (by decide +kernel) rfl ?_
    obtain ⟨v10, h⟩ := h
    refine at_aaldReceipt 42 rfl (by decide +kernel) k5 v10 ?_
    rw [e8]
    refine at_dup 43 rfl (by decide +kernel) (va_rf_cat _) ?_
    refine at_get (index := 33) (v := .int (mI m b7 1)) cok6 1 46 rfl (by decide +kernel) k9 (by decide +kernel) tw_776 rfl ?_
    refine at_iload (i := 5) 4 48 rfl (by decide +kernel) rfl ?_
    refine at_isub 49 rfl (by decide +kernel) ?_
    refine at_putI (index := 33) cok6 1 52 rfl (by decide +kernel) k9 (by decide +kernel) tw_776 rfl rfl rfl (fun m11 e12 => ?_)
    replace h := h m11 e12
    have k13 : mK m11 t = 9 := by rw [e12]; exact k1
    have k14 : mK m11 b3 = 21 := by rw [e12]; exact k5
    have k15 : mK m11 b7 = 7 := by rw [e12]; exact k9
    refine at_lload_n (i := 2) 2 53 rfl (by decide +kernel) rfl ?_
    refine at_iload (i := 5) 4 55 rfl (by decide +kernel) rfl ?_
    refine at_i2l 56 rfl (by decide +kernel) ?_
    refine at_ladd 57 rfl (by decide +kernel) ?_
    refine at_lstore_n (i := 2) (lc' := [(0, va_rf (some t)), (1, .int (l1)), (2, .long (l2 + ((((((mI m b7 1).toInt64) * l1.toInt64) / (1000 : Int64)).toInt32).toInt64))), (4, .int (l4))]) [1, 2, 0, 3] 58 rfl (by decide +kernel) (by decide +kernel) rfl ?_
    refine at_iinc (i := 4) (n := 1) (lc' := [(0, va_rf (some t)), (1, .int (l1)), (2, .long (l2 + ((((((mI m b7 1).toInt64) * l1.toInt64) / (1000 : Int64)).toInt32).toInt64))), (4, .int (l4 + (1 : Int32)))]) (l4 + (1 : Int32)) 3 [1, 2, 3, 0] 61 rfl (by decide +kernel) rfl (by rw [show Int32.ofInt 1 = (1 : Int32) from by decide +kernel]) (by decide +kernel) rfl ?_
    refine at_goto (off := (-56)) 5 (by decide +kernel) (by decide +kernel) ?_
    exact h
set_option maxRecDepth 20000 in
set_option maxHeartbeats 4000000 in
theorem en_Store_rot (g : Gc) {lv : Nat} {t : Nat} {l1 : Int32} {m : Mm} {Q : Int64 → Mm → Prop} (h : At g M_Store_rot (lv + 1) 5 [(0, va_rf (some t)), (1, .int (l1)), (2, .long ((0 : Int64))), (4, .int ((0 : Int32)))] [] m (QJ Q)) : CJ g M_Store_rot (lv + 1) [va_rf (some t), .int (l1)] m Q := by
  refine Call.of (by decide +kernel) (Nat.le_of_ble_eq_true rfl) ?_
  show At g M_Store_rot (lv + 1) 0 [(0, va_rf (some t)), (1, .int (l1))] [] m (QJ Q)
  refine at_lconst (n := 0) (0 : Int64) 1 rfl (by decide +kernel) (by decide +kernel) ?_
  refine at_lstore_n (i := 2) (lc' := [(0, va_rf (some t)), (1, .int (l1)), (2, .long ((0 : Int64)))]) [1, 2, 0] 2 rfl (by decide +kernel) (by decide +kernel) rfl ?_
  refine at_iconst (n := 0) (0 : Int32) 3 rfl (by decide +kernel) (by decide +kernel) ?_
  refine at_istore (i := 4) (lc' := [(0, va_rf (some t)), (1, .int (l1)), (2, .long ((0 : Int64))), (4, .int ((0 : Int32)))]) [1, 2, 3, 0] 5 rfl (by decide +kernel) (by decide +kernel) rfl ?_
  exact h
set_option maxRecDepth 20000 in
set_option maxHeartbeats 4000000 in
theorem en_Terms_init (g : Gc) {lv : Nat} {t : Nat} {m : Mm} {Q : Mm → Prop} (h : mK m t = 11 ∧ (∀ m2, m2 = sI m t 0 (1000 : Int32) → (∀ m5, m5 = sI m2 t 1 (100 : Int32) → (∀ m8, m8 = sI m5 t 2 (100 : Int32) → (∀ m11, m11 = sI m8 t 3 (100 : Int32) → (∀ m14, m14 = sI m11 t 4 (120 : Int32) → (∀ m17, m17 = sI m14 t 5 (10 : Int32) → (∀ m20, m20 = sI m17 t 6 (0 : Int32) → (Q m20))))))))) : CV g M_Terms_init (lv + 1) [va_rf (some t)] m Q := by
  refine Call.of (by decide +kernel) (Nat.le_of_ble_eq_true rfl) ?_
  show At g M_Terms_init (lv + 1) 0 [(0, va_rf (some t))] [] m (QV Q)
  refine at_aload_n (i := 0) 0 1 rfl (by decide +kernel) rfl ?_
  refine at_objInit 4 rfl (by decide +kernel) tw_98 tw_91 tw_92 (by decide) ?_
  refine at_aload_n (i := 0) 0 5 rfl (by decide +kernel) rfl ?_
  refine at_sipush (n := 1000) (1000 : Int32) 8 rfl (by decide +kernel) (by decide +kernel) ?_
  obtain ⟨k1, h⟩ := h
  refine at_putI (index := 7) cok10 0 11 rfl (by decide +kernel) k1 (by decide +kernel) tw_99 rfl rfl rfl (fun m2 e3 => ?_)
  replace h := h m2 e3
  have k4 : mK m2 t = 11 := by rw [e3]; exact k1
  refine at_aload_n (i := 0) 0 12 rfl (by decide +kernel) rfl ?_
  refine at_bipush (n := 100) (100 : Int32) 14 rfl (by decide +kernel) (by decide +kernel) ?_
  refine at_putI (index := 13) cok10 1 17 rfl (by decide +kernel) k4 (by decide +kernel) tw_101 rfl rfl rfl (fun m5 e6 => ?_)
  replace h := h m5 e6
  have k7 : mK m5 t = 11 := by rw [e6]; exact k4
  refine at_aload_n (i := 0) 0 18 rfl (by decide +kernel) rfl ?_
  refine at_bipush (n := 100) (100 : Int32) 20 rfl (by decide +kernel) (by decide +kernel) ?_
  refine at_putI (index := 16) cok10 2 23 rfl (by decide +kernel) k7 (by decide +kernel) tw_103 rfl rfl rfl (fun m8 e9 => ?_)
  replace h := h m8 e9
  have k10 : mK m8 t = 11 := by rw [e9]; exact k7
  refine at_aload_n (i := 0) 0 24 rfl (by decide +kernel) rfl ?_
  refine at_bipush (n := 100) (100 : Int32) 26 rfl (by decide +kernel) (by decide +kernel) ?_
  refine at_putI (index := 19) cok10 3 29 rfl (by decide +kernel) k10 (by decide +kernel) tw_106 rfl rfl rfl (fun m11 e12 => ?_)
  replace h := h m11 e12
  have k13 : mK m11 t = 11 := by rw [e12]; exact k10
  refine at_aload_n (i := 0) 0 30 rfl (by decide +kernel) rfl ?_
  refine at_bipush (n := 120) (120 : Int32) 32 rfl (by decide +kernel) (by decide +kernel) ?_
  refine at_putI (index := 22) cok10 4 35 rfl (by decide +kernel) k13 (by decide +kernel) tw_109 rfl rfl rfl (fun m14 e15 => ?_)
  replace h := h m14 e15
  have k16 : mK m14 t = 11 := by rw [e15]; exact k13
  refine at_aload_n (i := 0) 0 36 rfl (by decide +kernel) rfl ?_
  refine at_bipush (n := 10) (10 : Int32) 38 rfl (by decide +kernel) (by decide +kernel) ?_
  refine at_putI (index := 25) cok10 5 41 rfl (by decide +kernel) k16 (by decide +kernel) tw_112 rfl rfl rfl (fun m17 e18 => ?_)
  replace h := h m17 e18
  have k19 : mK m17 t = 11 := by rw [e18]; exact k16
  refine at_aload_n (i := 0) 0 42 rfl (by decide +kernel) rfl ?_
  refine at_iconst (n := 0) (0 : Int32) 43 rfl (by decide +kernel) (by decide +kernel) ?_
  refine at_putI (index := 28) cok10 6 46 rfl (by decide +kernel) k19 (by decide +kernel) tw_115 rfl rfl rfl (fun m20 e21 => ?_)
  replace h := h m20 e21
  have k22 : mK m20 t = 11 := by rw [e21]; exact k19
  exact at_vret rfl (by decide +kernel) h
set_option maxRecDepth 20000 in
set_option maxHeartbeats 4000000 in
theorem en_Terms_wantedAt (g : Gc) {lv : Nat} {t : Nat} {l1 : Int32} {m : Mm} {Q : Int32 → Mm → Prop} (h : mK m t = 11 ∧ (Q ((lmx (0 : Int64) (((mI m t 0).toInt64) - ((((mI m t 1).toInt64) * l1.toInt64) / (100 : Int64)))).toInt32) m)) : CI g M_Terms_wantedAt (lv + 1) [va_rf (some t), .int (l1)] m Q := by
  refine Call.of (by decide +kernel) (Nat.le_of_ble_eq_true rfl) ?_
  show At g M_Terms_wantedAt (lv + 1) 0 [(0, va_rf (some t)), (1, .int (l1))] [] m (QI Q)
  refine at_aload_n (i := 0) 0 1 rfl (by decide +kernel) rfl ?_
  obtain ⟨k1, h⟩ := h
  refine at_get (index := 13) (v := .int (mI m t 1)) cok10 1 4 rfl (by decide +kernel) k1 (by decide +kernel) tw_101 rfl ?_
  refine at_i2l 5 rfl (by decide +kernel) ?_
  refine at_iload_n (i := 1) 1 6 rfl (by decide +kernel) rfl ?_
  refine at_i2l 7 rfl (by decide +kernel) ?_
  refine at_lmul 8 rfl (by decide +kernel) ?_
  refine at_ldc2 (index := 31) (100 : Int64) 11 rfl (by decide +kernel) tw_702 ?_
  refine at_ldiv 12 rfl (by decide +kernel) (by decide +kernel) ?_
  refine at_lstore_n (i := 2) (lc' := [(0, va_rf (some t)), (2, .long ((((mI m t 1).toInt64) * l1.toInt64) / (100 : Int64)))]) [1, 0] 13 rfl (by decide +kernel) (by decide +kernel) rfl ?_
  refine at_lconst (n := 0) (0 : Int64) 14 rfl (by decide +kernel) (by decide +kernel) ?_
  refine at_aload_n (i := 0) 0 15 rfl (by decide +kernel) rfl ?_
  refine at_get (index := 7) (v := .int (mI m t 0)) cok10 0 18 rfl (by decide +kernel) k1 (by decide +kernel) tw_99 rfl ?_
  refine at_i2l 19 rfl (by decide +kernel) ?_
  refine at_lload_n (i := 2) 1 20 rfl (by decide +kernel) rfl ?_
  refine at_lsub 21 rfl (by decide +kernel) ?_
  refine at_lmx (index := 33) 24 rfl (by decide +kernel) tw_703 (by decide) ?_
  refine at_l2i 25 rfl (by decide +kernel) ?_
  exact at_iret rfl (by decide +kernel) h
