set_option maxRecDepth 20000 in
set_option maxHeartbeats 4000000 in
theorem en_SL_isWithin (g : Gc) {lv : Nat} {l0 : Int32} {l1 : Int32} {l2 : Int32} {m : Mm} {Q : Int32 → Mm → Prop} (h : if (l0) < (l1) then (Q (0 : Int32) m) else (if (l2) < (l0) then (Q (0 : Int32) m) else (Q (1 : Int32) m))) : CI g M_SL_isWithin (lv + 1) [.int (l0), .int (l1), .int (l2)] m Q := by
  refine Call.of (by decide +kernel) (Nat.le_of_ble_eq_true rfl) ?_
  show At g M_SL_isWithin (lv + 1) 0 [(0, .int (l0)), (1, .int (l1)), (2, .int (l2))] [] m (QI Q)
  refine at_iload_n (i := 0) 0 1 rfl (by decide +kernel) rfl ?_
  refine at_iload_n (i := 1) 1 2 rfl (by decide +kernel) rfl ?_
  refine at_icmp_lt (off := 12) 14 5 rfl (by decide +kernel) (by decide +kernel) (fun c1 => ?_) (fun c1 => ?_)
  · rw [if_pos c1] at h
    refine at_iconst (n := 0) (0 : Int32) 15 rfl (by decide +kernel) (by decide +kernel) ?_
    exact at_zret rfl (by decide +kernel) (Or.inl rfl) h
  · rw [if_neg c1] at h
    refine at_iload_n (i := 0) 0 6 rfl (by decide +kernel) rfl ?_
    refine at_iload_n (i := 2) 2 7 rfl (by decide +kernel) rfl ?_
    refine at_icmp_gt (off := 7) 14 10 rfl (by decide +kernel) (by decide +kernel) (fun c2 => ?_) (fun c2 => ?_)
    · rw [if_pos c2] at h
      refine at_iconst (n := 0) (0 : Int32) 15 rfl (by decide +kernel) (by decide +kernel) ?_
      exact at_zret rfl (by decide +kernel) (Or.inl rfl) h
    · rw [if_neg c2] at h
      refine at_iconst (n := 1) (1 : Int32) 11 rfl (by decide +kernel) (by decide +kernel) ?_
      refine at_goto (off := 4) 15 (by decide +kernel) (by decide +kernel) ?_
      exact at_zret rfl (by decide +kernel) (Or.inr rfl) h
set_option maxRecDepth 20000 in
set_option maxHeartbeats 4000000 in
theorem en_SL_cutTo (g : Gc) {lv : Nat} {l0 : Int64} {l2 : Int64} {l4 : Int64} {m : Mm} {Q : Int64 → Mm → Prop} (h : Q (lmx l2 (lmn l4 l0)) m) : CJ g M_SL_cutTo (lv + 1) [.long (l0), .long (l2), .long (l4)] m Q := by
  refine Call.of (by decide +kernel) (Nat.le_of_ble_eq_true rfl) ?_
  show At g M_SL_cutTo (lv + 1) 0 [(0, .long (l0)), (2, .long (l2)), (4, .long (l4))] [] m (QJ Q)
  refine at_lload_n (i := 2) 1 1 rfl (by decide +kernel) rfl ?_
  refine at_lload (i := 4) 2 3 rfl (by decide +kernel) rfl ?_
  refine at_lload_n (i := 0) 0 4 rfl (by decide +kernel) rfl ?_
  refine at_lmn (index := 346) 7 rfl (by decide +kernel) tw_743 (by simp [va_rf_cat, cat_int, cat_long]) ?_
  refine at_lmx (index := 350) 10 rfl (by decide +kernel) tw_746 (by decide) ?_
  exact at_lret rfl (by decide +kernel) h
set_option maxRecDepth 20000 in
set_option maxHeartbeats 4000000 in
theorem bk_Arrays_fill_5 (g : Gc) {lv : Nat} {l0 : Option Nat} {l1 : Int32} {l2 : Int32} {l3 : Int32} {m : Mm} {Q : Mm → Prop} (h : if (l3) ≤ (l2) then (Q m) else (∃ b2, l0 = some b2 ∧ (mK m b2 = 15 ∧ (vp_in l2 (mN m b2) ∧ (∀ m6, m6 = sI m b2 l2.toNatClampNeg l1 → (At g M_Arrays_fill (lv + 1) 5 [(0, va_rf (some b2)), (1, .int (l1)), (2, .int (l2 + (1 : Int32))), (3, .int (l3))] [] m6 (QV Q))))))) : At g M_Arrays_fill (lv + 1) 5 [(0, va_rf (l0)), (1, .int (l1)), (2, .int (l2)), (3, .int (l3))] [] m (QV Q) := by
  refine at_iload_n (i := 2) 2 6 rfl (by decide +kernel) rfl ?_
  refine at_iload_n (i := 3) 3 7 rfl (by decide +kernel) rfl ?_
  refine at_icmp_ge (off := 13) 20 10 rfl (by decide +kernel) (by decide +kernel) (fun c1 => ?_) (fun c1 => ?_)
  · rw [if_pos c1] at h
    exact at_vret rfl (by decide +kernel) h
  · rw [if_neg c1] at h
    refine at_aload_n (i := 0) 0 11 rfl (by decide +kernel) rfl ?_
    refine at_iload_n (i := 2) 2 12 rfl (by decide +kernel) rfl ?_
    refine at_iload_n (i := 1) 1 13 rfl (by decide +kernel) rfl ?_
    obtain ⟨b2, e3, h⟩ := h
    rw [e3]
    obtain ⟨k4, h⟩ := h
    obtain ⟨v5, h⟩ := h
    refine at_iast 14 rfl (by decide +kernel) k4 v5 (fun m6 e7 => ?_)
    replace h := h m6 e7
    have x8 : Ext m m6 := by rw [e7]; exact Ext.sI _ _ _ _
    have k9 : mK m6 b2 = 15 := x8.k k4 (by decide)
    refine at_iinc (i := 2) (n := 1) (lc' := [(0, va_rf (some b2)), (1, .int (l1)), (2, .int (l2 + (1 : Int32))), (3, .int (l3))]) (l2 + (1 : Int32)) 2 [1, 2, 0, 3] 17 rfl (by decide +kernel) rfl (by rw [show Int32.ofInt 1 = (1 : Int32) from by decide +kernel]) (by decide +kernel) rfl ?_
    refine at_goto (off := (-12)) 5 (by decide +kernel) (by decide +kernel) ?_
    exact h
set_option maxRecDepth 20000 in
set_option maxHeartbeats 4000000 in
theorem en_Arrays_fill (g : Gc) {lv : Nat} {l0 : Option Nat} {l1 : Int32} {m : Mm} {Q : Mm → Prop} (h : ∃ b1, l0 = some b1 ∧ (mK m b1 = 15 ∧ (At g M_Arrays_fill (lv + 1) 5 [(0, va_rf (some b1)), (1, .int (l1)), (2, .int ((0 : Int32))), (3, .int (nI (mN m b1)))] [] m (QV Q)))) : CV g M_Arrays_fill (lv + 1) [va_rf (l0), .int (l1)] m Q := by
  refine Call.of (by decide +kernel) (by simp [lg_sl, va_rf_cat, cat_int, cat_long, M_Arrays_fill]) ?_
  rw [show lv_args 0 [va_rf (l0), .int (l1)] = [(0, va_rf (l0)), (1, .int (l1))] from by simp [lv_args, va_rf_cat, cat_int, cat_long]]
  refine at_iconst (n := 0) (0 : Int32) 1 rfl (by decide +kernel) (by decide +kernel) ?_
  refine at_istore_n (i := 2) (lc' := [(0, va_rf (l0)), (1, .int (l1)), (2, .int ((0 : Int32)))]) [1, 2, 0] 2 rfl (by decide +kernel) (by decide +kernel) rfl ?_
  refine at_aload_n (i := 0) 0 3 rfl (by decide +kernel) rfl ?_
  obtain ⟨b1, e2, h⟩ := h
  rw [e2]
  obtain ⟨k3, h⟩ := h
  refine at_alen 4 rfl (by decide +kernel) k3 (by decide) ?_
  refine at_istore_n (i := 3) (lc' := [(0, va_rf (some b1)), (1, .int (l1)), (2, .int ((0 : Int32))), (3, .int (nI (mN m b1)))]) [1, 2, 3, 0] 5 rfl (by decide +kernel) (by decide +kernel) rfl ?_
  exact h
set_option maxRecDepth 20000 in
set_option maxHeartbeats 4000000 in
theorem en_Bank_init (g : Gc) {lv : Nat} {t : Nat} {m : Mm} {Q : Mm → Prop} (h : mK m t = 1 ∧ (∀ m2, m2 = sI m t 0 (50 : Int32) → (∀ m6, m6 = sI m2 t 1 (10 : Int32) → (Q m6)))) : CV g M_Bank_init (lv + 1) [va_rf (some t)] m Q := by
  refine Call.of (by decide +kernel) (Nat.le_of_ble_eq_true rfl) ?_
  show At g M_Bank_init (lv + 1) 0 [(0, va_rf (some t))] [] m (QV Q)
  refine at_aload_n (i := 0) 0 1 rfl (by decide +kernel) rfl ?_
  refine at_objInit 4 rfl (by decide +kernel) tw_270 tw_91 tw_92 (by decide) ?_
  refine at_aload_n (i := 0) 0 5 rfl (by decide +kernel) rfl ?_
  refine at_bipush (n := 50) (50 : Int32) 7 rfl (by decide +kernel) (by decide +kernel) ?_
  obtain ⟨k1, h⟩ := h
  refine at_putI (index := 7) cok0 0 10 rfl (by decide +kernel) k1 (by decide +kernel) tw_271 rfl rfl rfl (fun m2 e3 => ?_)
  replace h := h m2 e3
  have x4 : Ext m m2 := by rw [e3]; exact Ext.sI _ _ _ _
  have k5 : mK m2 t = 1 := x4.k k1 (by decide)
  refine at_aload_n (i := 0) 0 11 rfl (by decide +kernel) rfl ?_
  refine at_bipush (n := 10) (10 : Int32) 13 rfl (by decide +kernel) (by decide +kernel) ?_
  refine at_putI (index := 13) cok0 1 16 rfl (by decide +kernel) k5 (by decide +kernel) tw_274 rfl rfl rfl (fun m6 e7 => ?_)
  replace h := h m6 e7
  have x8 : Ext m2 m6 := by rw [e7]; exact Ext.sI _ _ _ _
  have k9 : mK m6 t = 1 := x8.k k5 (by decide)
  exact at_vret rfl (by decide +kernel) h
set_option maxRecDepth 20000 in
set_option maxHeartbeats 4000000 in
theorem en_Grower_init (g : Gc) {lv : Nat} {t : Nat} {m : Mm} {Q : Mm → Prop} (h : mK m (gz g + mC m) = 0 ∧ (∀ q2 m3, q2 = gz g + mC m → m3 = nw m q2 15 ((30 : Int32).toNatClampNeg) ((30 : Int32).toNatClampNeg) → (mK m3 t = 2 ∧ (mR m3 t 0 = none ∧ (∀ m10, m10 = sR m3 t 0 (some q2) → (mK m10 (gz g + mC m10) = 0 ∧ (∀ q17 m18, q17 = gz g + mC m10 → m18 = nw m10 q17 15 ((30 : Int32).toNatClampNeg) ((30 : Int32).toNatClampNeg) → (mR m18 t 1 = none ∧ (∀ m27, m27 = sR m18 t 1 (some q17) → (mK m27 (gz g + mC m27) = 0 ∧ (∀ q36 m37, q36 = gz g + mC m27 → m37 = nw m27 q36 17 ((30 : Int32).toNatClampNeg) ((30 : Int32).toNatClampNeg) → (mR m37 t 2 = none ∧ (∀ m48, m48 = sR m37 t 2 (some q36) → (Q m48)))))))))))))) : CV g M_Grower_init (lv + 1) [va_rf (some t)] m Q := by
  refine Call.of (by decide +kernel) (Nat.le_of_ble_eq_true rfl) ?_
  show At g M_Grower_init (lv + 1) 0 [(0, va_rf (some t))] [] m (QV Q)
  refine at_aload_n (i := 0) 0 1 rfl (by decide +kernel) rfl ?_
  refine at_objInit 4 rfl (by decide +kernel) tw_205 tw_91 tw_92 (by decide) ?_
  refine at_aload_n (i := 0) 0 5 rfl (by decide +kernel) rfl ?_
  refine at_bipush (n := 30) (30 : Int32) 7 rfl (by decide +kernel) (by decide +kernel) ?_
  obtain ⟨z1, h⟩ := h
  refine at_newaI 9 rfl z1 (by decide +kernel) tw_265 (by decide +kernel) (by decide +kernel) (fun q2 m3 e4 e5 => ?_)
  replace h := h q2 m3 e4 e5
  have x6 : Ext m m3 := by rw [e5, e4]; exact Ext.nw z1 _ _ _
  have k7 : mK m3 q2 = 15 := by rw [e5]; exact if_pos rfl
  obtain ⟨k8, h⟩ := h
  obtain ⟨n9, h⟩ := h
  refine at_putRF (index := 9) cok1 0 12 rfl (by decide +kernel) k8 n9 (by decide +kernel) tw_206 rfl rfl rfl rfl (Or.inr ⟨_, rfl⟩) (fun m10 e11 => ?_)
  replace h := h m10 e11
  have x12 : Ext m3 m10 := by rw [e11]; exact Ext.sR _ (Or.inr n9)
  have k13 : mK m10 q2 = 15 := x12.k k7 (by decide)
  have k14 : mK m10 t = 2 := x12.k k8 (by decide)
  have e15 : mR m10 t 0 = some q2 := by rw [e11]; simp [mR, sR, up2]
  refine at_aload_n (i := 0) 0 13 rfl (by decide +kernel) rfl ?_
  refine at_bipush (n := 30) (30 : Int32) 15 rfl (by decide +kernel) (by decide +kernel) ?_
  obtain ⟨z16, h⟩ := h
  refine at_newaI 17 rfl z16 (by decide +kernel) tw_265 (by decide +kernel) (by decide +kernel) (fun q17 m18 e19 e20 => ?_)
  replace h := h q17 m18 e19 e20
  have x21 : Ext m10 m18 := by rw [e20, e19]; exact Ext.nw z16 _ _ _
  have k22 : mK m18 q2 = 15 := x21.k k13 (by decide)
  have k23 : mK m18 t = 2 := x21.k k14 (by decide)
  have e24 : mR m18 t 0 = some q2 := x21.r k14 (by decide) rfl e15
  have k25 : mK m18 q17 = 15 := by rw [e20]; exact if_pos rfl
  obtain ⟨n26, h⟩ := h
  refine at_putRF (index := 15) cok1 1 20 rfl (by decide +kernel) k23 n26 (by decide +kernel) tw_208 rfl rfl rfl rfl (Or.inr ⟨_, rfl⟩) (fun m27 e28 => ?_)
  replace h := h m27 e28
  have x29 : Ext m18 m27 := by rw [e28]; exact Ext.sR _ (Or.inr n26)
  have k30 : mK m27 q2 = 15 := x29.k k22 (by decide)
  have k31 : mK m27 t = 2 := x29.k k23 (by decide)
  have k32 : mK m27 q17 = 15 := x29.k k25 (by decide)
  have e33 : mR m27 t 0 = some q2 := x29.r k23 (by decide) rfl e24
  have e34 : mR m27 t 1 = some q17 := by rw [e28]; simp [mR, sR, up2]
  refine at_aload_n (i := 0) 0 21 rfl (by decide +kernel) rfl ?_
  refine at_bipush (n := 30) (30 : Int32) 23 rfl (by decide +kernel) (by decide +kernel) ?_
  obtain ⟨z35, h⟩ := h
  refine at_newaZ 25 rfl z35 (by decide +kernel) tw_200 (by decide +kernel) (by decide +kernel) (fun q36 m37 e38 e39 => ?_)
  replace h := h q36 m37 e38 e39
  have x40 : Ext m27 m37 := by rw [e39, e38]; exact Ext.nw z35 _ _ _
  have k41 : mK m37 q2 = 15 := x40.k k30 (by decide)
  have k42 : mK m37 t = 2 := x40.k k31 (by decide)
  have k43 : mK m37 q17 = 15 := x40.k k32 (by decide)
  have e44 : mR m37 t 0 = some q2 := x40.r k31 (by decide) rfl e33
  have e45 : mR m37 t 1 = some q17 := x40.r k31 (by decide) rfl e34
  have k46 : mK m37 q36 = 17 := by rw [e39]; exact if_pos rfl
  obtain ⟨n47, h⟩ := h
  refine at_putRF (index := 18) cok1 2 28 rfl (by decide +kernel) k42 n47 (by decide +kernel) tw_210 rfl rfl rfl rfl (Or.inr ⟨_, rfl⟩) (fun m48 e49 => ?_)
  replace h := h m48 e49
  have x50 : Ext m37 m48 := by rw [e49]; exact Ext.sR _ (Or.inr n47)
  have k51 : mK m48 q2 = 15 := x50.k k41 (by decide)
  have k52 : mK m48 t = 2 := x50.k k42 (by decide)
  have k53 : mK m48 q17 = 15 := x50.k k43 (by decide)
  have k54 : mK m48 q36 = 17 := x50.k k46 (by decide)
  have e55 : mR m48 t 0 = some q2 := x50.r k42 (by decide) rfl e44
  have e56 : mR m48 t 1 = some q17 := x50.r k42 (by decide) rfl e45
  have e57 : mR m48 t 2 = some q36 := by rw [e49]; simp [mR, sR, up2]
  exact at_vret rfl (by decide +kernel) h
set_option maxRecDepth 20000 in
set_option maxHeartbeats 4000000 in
theorem en_Grower_arrive (g : Gc) {lv : Nat} {t : Nat} {l1 : Int32} {l2 : Int32} {m : Mm} {Q : Mm → Prop} (h : mK m t = 2 ∧ (∀ m2, m2 = sI m t 3 l1 → (∀ m6, m6 = sI m2 t 4 l2 → (∀ m10, m10 = sI m6 t 5 l2 → (∀ m14, m14 = sI m10 t 6 (0 : Int32) → (∀ m18, m18 = sI m14 t 7 (0 : Int32) → (∀ m22, m22 = sI m18 t 8 (0 : Int32) → (∀ m26, m26 = sI m22 t 9 (0 : Int32) → (∀ m30, m30 = sI m26 t 10 (0 : Int32) → (∀ m34, m34 = sL m30 t 11 (0 : Int64) → (∀ m38, m38 = sL m34 t 12 (0 : Int64) → (∃ b42, mR m38 t 0 = some b42 ∧ (CV g M_Arrays_fill lv [va_rf (some b42), .int ((-1 : Int32))] m38 (fun m44 => (Q m44))))))))))))))) : CV g M_Grower_arrive (lv + 1) [va_rf (some t), .int (l1), .int (l2)] m Q := by
  refine Call.of (by decide +kernel) (Nat.le_of_ble_eq_true rfl) ?_
  show At g M_Grower_arrive (lv + 1) 0 [(0, va_rf (some t)), (1, .int (l1)), (2, .int (l2))] [] m (QV Q)
  refine at_aload_n (i := 0) 0 1 rfl (by decide +kernel) rfl ?_
  refine at_iload_n (i := 1) 1 2 rfl (by decide +kernel) rfl ?_
  obtain ⟨k1, h⟩ := h
  refine at_putI (index := 22) cok1 3 5 rfl (by decide +kernel) k1 (by decide +kernel) tw_212 rfl rfl rfl (fun m2 e3 => ?_)
  replace h := h m2 e3
  have x4 : Ext m m2 := by rw [e3]; exact Ext.sI _ _ _ _
  have k5 : mK m2 t = 2 := x4.k k1 (by decide)
  refine at_aload_n (i := 0) 0 6 rfl (by decide +kernel) rfl ?_
  refine at_iload_n (i := 2) 2 7 rfl (by decide +kernel) rfl ?_
  refine at_putI (index := 26) cok1 4 10 rfl (by decide +kernel) k5 (by decide +kernel) tw_215 rfl rfl rfl (fun m6 e7 => ?_)
  replace h := h m6 e7
  have x8 : Ext m2 m6 := by rw [e7]; exact Ext.sI _ _ _ _
  have k9 : mK m6 t = 2 := x8.k k5 (by decide)
  refine at_aload_n (i := 0) 0 11 rfl (by decide +kernel) rfl ?_
  refine at_iload_n (i := 2) 2 12 rfl (by decide +kernel) rfl ?_
  refine at_putI (index := 29) cok1 5 15 rfl (by decide +kernel) k9 (by decide +kernel) tw_217 rfl rfl rfl (fun m10 e11 => ?_)
  replace h := h m10 e11
  have x12 : Ext m6 m10 := by rw [e11]; exact Ext.sI _ _ _ _
  have k13 : mK m10 t = 2 := x12.k k9 (by decide)
  refine at_aload_n (i := 0) 0 16 rfl (by decide +kernel) rfl ?_
  refine at_iconst (n := 0) (0 : Int32) 17 rfl (by decide +kernel) (by decide +kernel) ?_
  refine at_putI (index := 32) cok1 6 20 rfl (by decide +kernel) k13 (by decide +kernel) tw_220 rfl rfl rfl (fun m14 e15 => ?_)
  replace h := h m14 e15
  have x16 : Ext m10 m14 := by rw [e15]; exact Ext.sI _ _ _ _
  have k17 : mK m14 t = 2 := x16.k k13 (by decide)
  refine at_aload_n (i := 0) 0 21 rfl (by decide +kernel) rfl ?_
  refine at_iconst (n := 0) (0 : Int32) 22 rfl (by decide +kernel) (by decide +kernel) ?_
  refine at_putI (index := 35) cok1 7 25 rfl (by decide +kernel) k17 (by decide +kernel) tw_222 rfl rfl rfl (fun m18 e19 => ?_)
  replace h := h m18 e19
  have x20 : Ext m14 m18 := by rw [e19]; exact Ext.sI _ _ _ _
  have k21 : mK m18 t = 2 := x20.k k17 (by decide)
  refine at_aload_n (i := 0) 0 26 rfl (by decide +kernel) rfl ?_
  refine at_iconst (n := 0) (0 : Int32) 27 rfl (by decide +kernel) (by decide +kernel) ?_
  refine at_putI (index := 38) cok1 8 30 rfl (by decide +kernel) k21 (by decide +kernel) tw_224 rfl rfl rfl (fun m22 e23 => ?_)
  replace h := h m22 e23
  have x24 : Ext m18 m22 := by rw [e23]; exact Ext.sI _ _ _ _
  have k25 : mK m22 t = 2 := x24.k k21 (by decide)
  refine at_aload_n (i := 0) 0 31 rfl (by decide +kernel) rfl ?_
  refine at_iconst (n := 0) (0 : Int32) 32 rfl (by decide +kernel) (by decide +kernel) ?_
  refine at_putI (index := 41) cok1 9 35 rfl (by decide +kernel) k25 (by decide +kernel) tw_226 rfl rfl rfl (fun m26 e27 => ?_)
  replace h := h m26 e27
  have x28 : Ext m22 m26 := by rw [e27]; exact Ext.sI _ _ _ _
  have k29 : mK m26 t = 2 := x28.k k25 (by decide)
  refine at_aload_n (i := 0) 0 36 rfl (by decide +kernel) rfl ?_
  refine at_iconst (n := 0) (0 : Int32) 37 rfl (by decide +kernel) (by decide +kernel) ?_
  refine at_putI (index := 44) cok1 10 40 rfl (by decide +kernel) k29 (by decide +kernel) tw_229 rfl rfl rfl (fun m30 e31 => ?_)
  replace h := h m30 e31
  have x32 : Ext m26 m30 := by rw [e31]; exact Ext.sI _ _ _ _
  have k33 : mK m30 t = 2 := x32.k k29 (by decide)
  refine at_aload_n (i := 0) 0 41 rfl (by decide +kernel) rfl ?_
  refine at_lconst (n := 0) (0 : Int64) 42 rfl (by decide +kernel) (by decide +kernel) ?_
  refine at_putJ (index := 47) cok1 11 45 rfl (by decide +kernel) k33 (by decide +kernel) tw_232 rfl rfl rfl (fun m34 e35 => ?_)
  replace h := h m34 e35
  have x36 : Ext m30 m34 := by rw [e35]; exact Ext.sL _ _ _ _
  have k37 : mK m34 t = 2 := x36.k k33 (by decide)
  refine at_aload_n (i := 0) 0 46 rfl (by decide +kernel) rfl ?_
  refine at_lconst (n := 0) (0 : Int64) 47 rfl (by decide +kernel) (by decide +kernel) ?_
  refine at_putJ (index := 51) cok1 12 50 rfl (by decide +kernel) k37 (by decide +kernel) tw_235 rfl rfl rfl (fun m38 e39 => ?_)
  replace h := h m38 e39
  have x40 : Ext m34 m38 := by rw [e39]; exact Ext.sL _ _ _ _
  have k41 : mK m38 t = 2 := x40.k k37 (by decide)
  refine at_aload_n (i := 0) 0 51 rfl (by decide +kernel) rfl ?_
  refine at_get (index := 9) (v := va_rf (mR m38 t 0)) cok1 0 54 rfl (by decide +kernel) k41 (by decide +kernel) tw_206 rfl ?_
  obtain ⟨b42, e43, h⟩ := h
  rw [e43]
  refine at_iconst (n := (-1)) (-1 : Int32) 55 rfl (by decide +kernel) (by decide +kernel) ?_
  refine at_callS mb_Arrays_fill tw_423 (index := 54) tw_490 [va_rf (some b42), .int ((-1 : Int32))] [] rfl rfl (by decide) 58 rfl (by decide +kernel) (Call.toV (CV.monoE h (fun m44 h y45 => ?_)))
  have k46 : mK m44 t = 2 := y45.k k41 (by decide)
  have e47 : mR m44 t 0 = some b42 := y45.r k41 (by decide) rfl e43
  exact at_vret rfl (by decide +kernel) h
set_option maxRecDepth 20000 in
set_option maxHeartbeats 4000000 in
theorem en_Grower_cropOf (g : Gc) {lv : Nat} {t : Nat} {l1 : Int32} {m : Mm} {Q : Int32 → Mm → Prop} (h : CI g M_SL_isWithin lv [.int (l1), .int ((0 : Int32)), .int ((29 : Int32))] m (fun x1 m2 => (if (x1) = 0 then (Q (-1 : Int32) m2) else (mK m2 t = 2 ∧ (∃ b6, mR m2 t 1 = some b6 ∧ (mK m2 b6 = 15 ∧ (vp_in l1 (mN m2 b6) ∧ (Q (mI m2 b6 l1.toNatClampNeg) m2)))))))) : CI g M_Grower_cropOf (lv + 1) [va_rf (some t), .int (l1)] m Q := by
  refine Call.of (by decide +kernel) (Nat.le_of_ble_eq_true rfl) ?_
  show At g M_Grower_cropOf (lv + 1) 0 [(0, va_rf (some t)), (1, .int (l1))] [] m (QI Q)
  refine at_iload_n (i := 1) 1 1 rfl (by decide +kernel) rfl ?_
  refine at_iconst (n := 0) (0 : Int32) 2 rfl (by decide +kernel) (by decide +kernel) ?_
  refine at_bipush (n := 29) (29 : Int32) 4 rfl (by decide +kernel) (by decide +kernel) ?_
  refine at_callSN mb_SL_isWithin tw_471 (index := 60) (host := "SurplusLand") (by decide +kernel) [.int (l1), .int ((0 : Int32)), .int ((29 : Int32))] [] rfl rfl (by decide) 7 rfl (by decide +kernel) (Call.toI (CI.monoE h (fun x1 m2 h y3 => ?_)))
  refine at_if_eq (off := 12) 19 10 rfl (by decide +kernel) (by decide +kernel) (fun c4 => ?_) (fun c4 => ?_)
  · rw [if_pos c4] at h
    refine at_iconst (n := (-1)) (-1 : Int32) 20 rfl (by decide +kernel) (by decide +kernel) ?_
    exact at_iret rfl (by decide +kernel) h
  · rw [if_neg c4] at h
    refine at_aload_n (i := 0) 0 11 rfl (by decide +kernel) rfl ?_
    obtain ⟨k5, h⟩ := h
    refine at_get (index := 15) (v := va_rf (mR m2 t 1)) cok1 1 14 rfl (by decide +kernel) k5 (by decide +kernel) tw_208 rfl ?_
    obtain ⟨b6, e7, h⟩ := h
    rw [e7]
    refine at_iload_n (i := 1) 1 15 rfl (by decide +kernel) rfl ?_
    obtain ⟨k8, h⟩ := h
    obtain ⟨v9, h⟩ := h
    refine at_iald 16 rfl (by decide +kernel) k8 v9 ?_
    refine at_goto (off := 4) 20 (by decide +kernel) (by decide +kernel) ?_
    exact at_iret rfl (by decide +kernel) h
set_option maxRecDepth 20000 in
set_option maxHeartbeats 4000000 in
theorem en_Grower_sell (g : Gc) {lv : Nat} {t : Nat} {l1 : Int32} {l2 : Int32} {m : Mm} {Q : Mm → Prop} (h : mK m t = 2 ∧ (∀ m2, m2 = sI m t 9 ((mI m t 9) - l1) → (∀ m6, m6 = sL m2 t 11 ((mL m2 t 11) + (l1.toInt64 * l2.toInt64)) → (Q m6)))) : CV g M_Grower_sell (lv + 1) [va_rf (some t), .int (l1), .int (l2)] m Q := by
  refine Call.of (by decide +kernel) (Nat.le_of_ble_eq_true rfl) ?_
  show At g M_Grower_sell (lv + 1) 0 [(0, va_rf (some t)), (1, .int (l1)), (2, .int (l2))] [] m (QV Q)
  refine at_aload_n (i := 0) 0 1 rfl (by decide +kernel) rfl ?_
  refine at_dup 2 rfl (by decide +kernel) (va_rf_cat _) ?_
  obtain ⟨k1, h⟩ := h
  refine at_get (index := 41) (v := .int (mI m t 9)) cok1 9 5 rfl (by decide +kernel) k1 (by decide +kernel) tw_226 rfl ?_
  refine at_iload_n (i := 1) 1 6 rfl (by decide +kernel) rfl ?_
  refine at_isub 7 rfl (by decide +kernel) ?_
  refine at_putI (index := 41) cok1 9 10 rfl (by decide +kernel) k1 (by decide +kernel) tw_226 rfl rfl rfl (fun m2 e3 => ?_)
  replace h := h m2 e3
  have x4 : Ext m m2 := by rw [e3]; exact Ext.sI _ _ _ _
  have k5 : mK m2 t = 2 := x4.k k1 (by decide)
  refine at_aload_n (i := 0) 0 11 rfl (by decide +kernel) rfl ?_
  refine at_dup 12 rfl (by decide +kernel) (va_rf_cat _) ?_
  refine at_get (index := 47) (v := .long (mL m2 t 11)) cok1 11 15 rfl (by decide +kernel) k5 (by decide +kernel) tw_232 rfl ?_
  refine at_iload_n (i := 1) 1 16 rfl (by decide +kernel) rfl ?_
  refine at_i2l 17 rfl (by decide +kernel) ?_
  refine at_iload_n (i := 2) 2 18 rfl (by decide +kernel) rfl ?_
  refine at_i2l 19 rfl (by decide +kernel) ?_
  refine at_lmul 20 rfl (by decide +kernel) ?_
  refine at_ladd 21 rfl (by decide +kernel) ?_
  refine at_putJ (index := 47) cok1 11 24 rfl (by decide +kernel) k5 (by decide +kernel) tw_232 rfl rfl rfl (fun m6 e7 => ?_)
  replace h := h m6 e7
  have x8 : Ext m2 m6 := by rw [e7]; exact Ext.sL _ _ _ _
  have k9 : mK m6 t = 2 := x8.k k5 (by decide)
  exact at_vret rfl (by decide +kernel) h
set_option maxRecDepth 20000 in
set_option maxHeartbeats 4000000 in
theorem en_Grower_growOlder (g : Gc) {lv : Nat} {t : Nat} {m : Mm} {Q : Mm → Prop} (h : mK m t = 2 ∧ (∀ m2, m2 = sI m t 5 ((mI m t 5) + (mI m t 8)) → (∀ m6, m6 = sI m2 t 8 (mI m2 t 7) → (∀ m10, m10 = sI m6 t 7 (mI m6 t 6) → (∀ m14, m14 = sI m10 t 6 (0 : Int32) → (Q m14)))))) : CV g M_Grower_growOlder (lv + 1) [va_rf (some t)] m Q := by
  refine Call.of (by decide +kernel) (Nat.le_of_ble_eq_true rfl) ?_
  show At g M_Grower_growOlder (lv + 1) 0 [(0, va_rf (some t))] [] m (QV Q)
  refine at_aload_n (i := 0) 0 1 rfl (by decide +kernel) rfl ?_
  refine at_dup 2 rfl (by decide +kernel) (va_rf_cat _) ?_
  obtain ⟨k1, h⟩ := h
  refine at_get (index := 29) (v := .int (mI m t 5)) cok1 5 5 rfl (by decide +kernel) k1 (by decide +kernel) tw_217 rfl ?_
  refine at_aload_n (i := 0) 0 6 rfl (by decide +kernel) rfl ?_
  refine at_get (index := 38) (v := .int (mI m t 8)) cok1 8 9 rfl (by decide +kernel) k1 (by decide +kernel) tw_224 rfl ?_
  refine at_iadd 10 rfl (by decide +kernel) ?_
  refine at_putI (index := 29) cok1 5 13 rfl (by decide +kernel) k1 (by decide +kernel) tw_217 rfl rfl rfl (fun m2 e3 => ?_)
  replace h := h m2 e3
  have x4 : Ext m m2 := by rw [e3]; exact Ext.sI _ _ _ _
  have k5 : mK m2 t = 2 := x4.k k1 (by decide)
  refine at_aload_n (i := 0) 0 14 rfl (by decide +kernel) rfl ?_
  refine at_aload_n (i := 0) 0 15 rfl (by decide +kernel) rfl ?_
  refine at_get (index := 35) (v := .int (mI m2 t 7)) cok1 7 18 rfl (by decide +kernel) k5 (by decide +kernel) tw_222 rfl ?_
  refine at_putI (index := 38) cok1 8 21 rfl (by decide +kernel) k5 (by decide +kernel) tw_224 rfl rfl rfl (fun m6 e7 => ?_)
  replace h := h m6 e7
  have x8 : Ext m2 m6 := by rw [e7]; exact Ext.sI _ _ _ _
  have k9 : mK m6 t = 2 := x8.k k5 (by decide)
  refine at_aload_n (i := 0) 0 22 rfl (by decide +kernel) rfl ?_
  refine at_aload_n (i := 0) 0 23 rfl (by decide +kernel) rfl ?_
  refine at_get (index := 32) (v := .int (mI m6 t 6)) cok1 6 26 rfl (by decide +kernel) k9 (by decide +kernel) tw_220 rfl ?_
  refine at_putI (index := 35) cok1 7 29 rfl (by decide +kernel) k9 (by decide +kernel) tw_222 rfl rfl rfl (fun m10 e11 => ?_)
  replace h := h m10 e11
  have x12 : Ext m6 m10 := by rw [e11]; exact Ext.sI _ _ _ _
  have k13 : mK m10 t = 2 := x12.k k9 (by decide)
  refine at_aload_n (i := 0) 0 30 rfl (by decide +kernel) rfl ?_
  refine at_iconst (n := 0) (0 : Int32) 31 rfl (by decide +kernel) (by decide +kernel) ?_
  refine at_putI (index := 32) cok1 6 34 rfl (by decide +kernel) k13 (by decide +kernel) tw_220 rfl rfl rfl (fun m14 e15 => ?_)
  replace h := h m14 e15
  have x16 : Ext m10 m14 := by rw [e15]; exact Ext.sI _ _ _ _
  have k17 : mK m14 t = 2 := x16.k k13 (by decide)
  exact at_vret rfl (by decide +kernel) h
set_option maxRecDepth 20000 in
set_option maxHeartbeats 4000000 in
theorem en_Grower_plant (g : Gc) {lv : Nat} {t : Nat} {l1 : Int32} {m : Mm} {Q : Mm → Prop} (h : mK m t = 2 ∧ (∀ m2, m2 = sI m t 6 (imx (0 : Int32) (imn ((((5000 : Int32) - (mI m t 5)) - (mI m t 7)) - (mI m t 8)) (((mI m t 5) * l1) / (100 : Int32)))) → (Q m2))) : CV g M_Grower_plant (lv + 1) [va_rf (some t), .int (l1)] m Q := by
  refine Call.of (by decide +kernel) (Nat.le_of_ble_eq_true rfl) ?_
  show At g M_Grower_plant (lv + 1) 0 [(0, va_rf (some t)), (1, .int (l1))] [] m (QV Q)
  refine at_sipush (n := 5000) (5000 : Int32) 3 rfl (by decide +kernel) (by decide +kernel) ?_
  refine at_aload_n (i := 0) 0 4 rfl (by decide +kernel) rfl ?_
  obtain ⟨k1, h⟩ := h
  refine at_get (index := 29) (v := .int (mI m t 5)) cok1 5 7 rfl (by decide +kernel) k1 (by decide +kernel) tw_217 rfl ?_
  refine at_isub 8 rfl (by decide +kernel) ?_
  refine at_aload_n (i := 0) 0 9 rfl (by decide +kernel) rfl ?_
  refine at_get (index := 35) (v := .int (mI m t 7)) cok1 7 12 rfl (by decide +kernel) k1 (by decide +kernel) tw_222 rfl ?_
  refine at_isub 13 rfl (by decide +kernel) ?_
  refine at_aload_n (i := 0) 0 14 rfl (by decide +kernel) rfl ?_
  refine at_get (index := 38) (v := .int (mI m t 8)) cok1 8 17 rfl (by decide +kernel) k1 (by decide +kernel) tw_224 rfl ?_
  refine at_isub 18 rfl (by decide +kernel) ?_
  refine at_istore_n (i := 2) (lc' := [(0, va_rf (some t)), (1, .int (l1)), (2, .int ((((5000 : Int32) - (mI m t 5)) - (mI m t 7)) - (mI m t 8)))]) [1, 2, 0] 19 rfl (by decide +kernel) (by decide +kernel) rfl ?_
  refine at_aload_n (i := 0) 0 20 rfl (by decide +kernel) rfl ?_
  refine at_iconst (n := 0) (0 : Int32) 21 rfl (by decide +kernel) (by decide +kernel) ?_
  refine at_iload_n (i := 2) 2 22 rfl (by decide +kernel) rfl ?_
  refine at_aload_n (i := 0) 0 23 rfl (by decide +kernel) rfl ?_
  refine at_get (index := 29) (v := .int (mI m t 5)) cok1 5 26 rfl (by decide +kernel) k1 (by decide +kernel) tw_217 rfl ?_
  refine at_iload_n (i := 1) 1 27 rfl (by decide +kernel) rfl ?_
  refine at_imul 28 rfl (by decide +kernel) ?_
  refine at_bipush (n := 100) (100 : Int32) 30 rfl (by decide +kernel) (by decide +kernel) ?_
  refine at_idiv 31 rfl (by decide +kernel) (by decide +kernel) ?_
  refine at_imn (index := 64) 34 rfl (by decide +kernel) tw_858 (by simp [va_rf_cat, cat_int, cat_long]) ?_
  refine at_imx (index := 70) 37 rfl (by decide +kernel) tw_859 (by simp [va_rf_cat, cat_int, cat_long]) ?_
  refine at_putI (index := 32) cok1 6 40 rfl (by decide +kernel) k1 (by decide +kernel) tw_220 rfl rfl rfl (fun m2 e3 => ?_)
  replace h := h m2 e3
  have x4 : Ext m m2 := by rw [e3]; exact Ext.sI _ _ _ _
  have k5 : mK m2 t = 2 := x4.k k1 (by decide)
  exact at_vret rfl (by decide +kernel) h
set_option maxRecDepth 20000 in
set_option maxHeartbeats 4000000 in
theorem en_Law_init (g : Gc) {lv : Nat} {t : Nat} {l1 : Int32} {l2 : Int32} {m : Mm} {Q : Mm → Prop} (h : mK m (gz g + mC m) = 0 ∧ (¬ (imx (0 : Int32) l1) < 0 ∧ (imx (0 : Int32) l1).toNatClampNeg ≤ 10000 ∧ (∀ q2 m3, q2 = gz g + mC m → m3 = nw m q2 15 ((imx (0 : Int32) l1).toNatClampNeg) ((imx (0 : Int32) l1).toNatClampNeg) → (mK m3 t = 5 ∧ (mR m3 t 0 = none ∧ (∀ m12, m12 = sR m3 t 0 (some q2) → (mK m12 (gz g + mC m12) = 0 ∧ (¬ (nI (mN m12 q2)) < 0 ∧ (nI (mN m12 q2)).toNatClampNeg ≤ 10000 ∧ (∀ q19 m20, q19 = gz g + mC m12 → m20 = nw m12 q19 15 ((nI (mN m12 q2)).toNatClampNeg) ((nI (mN m12 q2)).toNatClampNeg) → (mR m20 t 1 = none ∧ (∀ m31, m31 = sR m20 t 1 (some q19) → (mK m31 (gz g + mC m31) = 0 ∧ (¬ (nI (mN m31 q2)) < 0 ∧ (nI (mN m31 q2)).toNatClampNeg ≤ 10000 ∧ (∀ q40 m41, q40 = gz g + mC m31 → m41 = nw m31 q40 15 ((nI (mN m31 q2)).toNatClampNeg) ((nI (mN m31 q2)).toNatClampNeg) → (mR m41 t 2 = none ∧ (∀ m54, m54 = sR m41 t 2 (some q40) → (mK m54 (gz g + mC m54) = 0 ∧ (¬ (nI (mN m54 q2)) < 0 ∧ (nI (mN m54 q2)).toNatClampNeg ≤ 10000 ∧ (∀ q65 m66, q65 = gz g + mC m54 → m66 = nw m54 q65 15 ((nI (mN m54 q2)).toNatClampNeg) ((nI (mN m54 q2)).toNatClampNeg) → (mR m66 t 3 = none ∧ (∀ m81, m81 = sR m66 t 3 (some q65) → (mK m81 (gz g + mC m81) = 0 ∧ (¬ (imx (0 : Int32) l2) < 0 ∧ (imx (0 : Int32) l2).toNatClampNeg ≤ 10000 ∧ (∀ q94 m95, q94 = gz g + mC m81 → m95 = nw m81 q94 15 ((imx (0 : Int32) l2).toNatClampNeg) ((imx (0 : Int32) l2).toNatClampNeg) → (mR m95 t 4 = none ∧ (∀ m112, m112 = sR m95 t 4 (some q94) → (Q m112))))))))))))))))))))))))))) : CV g M_Law_init (lv + 1) [va_rf (some t), .int (l1), .int (l2)] m Q := by
  refine Call.of (by decide +kernel) (Nat.le_of_ble_eq_true rfl) ?_
  show At g M_Law_init (lv + 1) 0 [(0, va_rf (some t)), (1, .int (l1)), (2, .int (l2))] [] m (QV Q)
  refine at_aload_n (i := 0) 0 1 rfl (by decide +kernel) rfl ?_
  refine at_objInit 4 rfl (by decide +kernel) tw_380 tw_91 tw_92 (by decide) ?_
  refine at_aload_n (i := 0) 0 5 rfl (by decide +kernel) rfl ?_
  refine at_iconst (n := 0) (0 : Int32) 6 rfl (by decide +kernel) (by decide +kernel) ?_
  refine at_iload_n (i := 1) 1 7 rfl (by decide +kernel) rfl ?_
  refine at_imx (index := 7) 10 rfl (by decide +kernel) tw_381 (by simp [va_rf_cat, cat_int, cat_long]) ?_
  obtain ⟨z1, h⟩ := h
  obtain ⟨c6, c7, h⟩ := h
  refine at_newaI 12 rfl z1 (by decide +kernel) tw_265 c6 c7 (fun q2 m3 e4 e5 => ?_)
  replace h := h q2 m3 e4 e5
  have x8 : Ext m m3 := by rw [e5, e4]; exact Ext.nw z1 _ _ _
  have k9 : mK m3 q2 = 15 := by rw [e5]; exact if_pos rfl
  obtain ⟨k10, h⟩ := h
  obtain ⟨n11, h⟩ := h
  refine at_putRF (index := 13) cok4 0 15 rfl (by decide +kernel) k10 n11 (by decide +kernel) tw_384 rfl rfl rfl rfl (Or.inr ⟨_, rfl⟩) (fun m12 e13 => ?_)
  replace h := h m12 e13
  have x14 : Ext m3 m12 := by rw [e13]; exact Ext.sR _ (Or.inr n11)
  have k15 : mK m12 q2 = 15 := x14.k k9 (by decide)
  have k16 : mK m12 t = 5 := x14.k k10 (by decide)
  have e17 : mR m12 t 0 = some q2 := by rw [e13]; simp [mR, sR, up2]
  refine at_aload_n (i := 0) 0 16 rfl (by decide +kernel) rfl ?_
  refine at_aload_n (i := 0) 0 17 rfl (by decide +kernel) rfl ?_
  refine at_get (index := 13) (v := va_rf (mR m12 t 0)) cok4 0 20 rfl (by decide +kernel) k16 (by decide +kernel) tw_384 rfl ?_
  rw [e17]
  refine at_alen 21 rfl (by decide +kernel) k15 (by decide) ?_
  obtain ⟨z18, h⟩ := h
  obtain ⟨c23, c24, h⟩ := h
  refine at_newaI 23 rfl z18 (by decide +kernel) tw_265 c23 c24 (fun q19 m20 e21 e22 => ?_)
  replace h := h q19 m20 e21 e22
  have x25 : Ext m12 m20 := by rw [e22, e21]; exact Ext.nw z18 _ _ _
  have k26 : mK m20 q2 = 15 := x25.k k15 (by decide)
  have k27 : mK m20 t = 5 := x25.k k16 (by decide)
  have e28 : mR m20 t 0 = some q2 := x25.r k16 (by decide) rfl e17
  have k29 : mK m20 q19 = 15 := by rw [e22]; exact if_pos rfl
  obtain ⟨n30, h⟩ := h
  refine at_putRF (index := 19) cok4 1 26 rfl (by decide +kernel) k27 n30 (by decide +kernel) tw_386 rfl rfl rfl rfl (Or.inr ⟨_, rfl⟩) (fun m31 e32 => ?_)
  replace h := h m31 e32
  have x33 : Ext m20 m31 := by rw [e32]; exact Ext.sR _ (Or.inr n30)
  have k34 : mK m31 q2 = 15 := x33.k k26 (by decide)
  have k35 : mK m31 t = 5 := x33.k k27 (by decide)
  have k36 : mK m31 q19 = 15 := x33.k k29 (by decide)
  have e37 : mR m31 t 0 = some q2 := x33.r k27 (by decide) rfl e28
  have e38 : mR m31 t 1 = some q19 := by rw [e32]; simp [mR, sR, up2]
  refine at_aload_n (i := 0) 0 27 rfl (by decide +kernel) rfl ?_
  refine at_aload_n (i := 0) 0 28 rfl (by decide +kernel) rfl ?_
  refine at_get (index := 13) (v := va_rf (mR m31 t 0)) cok4 0 31 rfl (by decide +kernel) k35 (by decide +kernel) tw_384 rfl ?_
  rw [e37]
  refine at_alen 32 rfl (by decide +kernel) k34 (by decide) ?_
  obtain ⟨z39, h⟩ := h
  obtain ⟨c44, c45, h⟩ := h
  refine at_newaI 34 rfl z39 (by decide +kernel) tw_265 c44 c45 (fun q40 m41 e42 e43 => ?_)
  replace h := h q40 m41 e42 e43
  have x46 : Ext m31 m41 := by rw [e43, e42]; exact Ext.nw z39 _ _ _
  have k47 : mK m41 q2 = 15 := x46.k k34 (by decide)
  have k48 : mK m41 t = 5 := x46.k k35 (by decide)
  have k49 : mK m41 q19 = 15 := x46.k k36 (by decide)
  have e50 : mR m41 t 0 = some q2 := x46.r k35 (by decide) rfl e37
  have e51 : mR m41 t 1 = some q19 := x46.r k35 (by decide) rfl e38
  have k52 : mK m41 q40 = 15 := by rw [e43]; exact if_pos rfl
  obtain ⟨n53, h⟩ := h
  refine at_putRF (index := 22) cok4 2 37 rfl (by decide +kernel) k48 n53 (by decide +kernel) tw_388 rfl rfl rfl rfl (Or.inr ⟨_, rfl⟩) (fun m54 e55 => ?_)
  replace h := h m54 e55
  have x56 : Ext m41 m54 := by rw [e55]; exact Ext.sR _ (Or.inr n53)
  have k57 : mK m54 q2 = 15 := x56.k k47 (by decide)
  have k58 : mK m54 t = 5 := x56.k k48 (by decide)
  have k59 : mK m54 q19 = 15 := x56.k k49 (by decide)
  have k60 : mK m54 q40 = 15 := x56.k k52 (by decide)
  have e61 : mR m54 t 0 = some q2 := x56.r k48 (by decide) rfl e50
  have e62 : mR m54 t 1 = some q19 := x56.r k48 (by decide) rfl e51
  have e63 : mR m54 t 2 = some q40 := by rw [e55]; simp [mR, sR, up2]
  refine at_aload_n (i := 0) 0 38 rfl (by decide +kernel) rfl ?_
  refine at_aload_n (i := 0) 0 39 rfl (by decide +kernel) rfl ?_
  refine at_get (index := 13) (v := va_rf (mR m54 t 0)) cok4 0 42 rfl (by decide +kernel) k58 (by decide +kernel) tw_384 rfl ?_
  rw [e61]
  refine at_alen 43 rfl (by decide +kernel) k57 (by decide) ?_
  obtain ⟨z64, h⟩ := h
  obtain ⟨c69, c70, h⟩ := h
  refine at_newaI 45 rfl z64 (by decide +kernel) tw_265 c69 c70 (fun q65 m66 e67 e68 => ?_)
  replace h := h q65 m66 e67 e68
  have x71 : Ext m54 m66 := by rw [e68, e67]; exact Ext.nw z64 _ _ _
  have k72 : mK m66 q2 = 15 := x71.k k57 (by decide)
  have k73 : mK m66 t = 5 := x71.k k58 (by decide)
  have k74 : mK m66 q19 = 15 := x71.k k59 (by decide)
  have k75 : mK m66 q40 = 15 := x71.k k60 (by decide)
  have e76 : mR m66 t 0 = some q2 := x71.r k58 (by decide) rfl e61
  have e77 : mR m66 t 1 = some q19 := x71.r k58 (by decide) rfl e62
  have e78 : mR m66 t 2 = some q40 := x71.r k58 (by decide) rfl e63
  have k79 : mK m66 q65 = 15 := by rw [e68]; exact if_pos rfl
  obtain ⟨n80, h⟩ := h
  refine at_putRF (index := 25) cok4 3 48 rfl (by decide +kernel) k73 n80 (by decide +kernel) tw_390 rfl rfl rfl rfl (Or.inr ⟨_, rfl⟩) (fun m81 e82 => ?_)
  replace h := h m81 e82
  have x83 : Ext m66 m81 := by rw [e82]; exact Ext.sR _ (Or.inr n80)
  have k84 : mK m81 q2 = 15 := x83.k k72 (by decide)
  have k85 : mK m81 t = 5 := x83.k k73 (by decide)
  have k86 : mK m81 q19 = 15 := x83.k k74 (by decide)
  have k87 : mK m81 q40 = 15 := x83.k k75 (by decide)
  have k88 : mK m81 q65 = 15 := x83.k k79 (by decide)
  have e89 : mR m81 t 0 = some q2 := x83.r k73 (by decide) rfl e76
  have e90 : mR m81 t 1 = some q19 := x83.r k73 (by decide) rfl e77
  have e91 : mR m81 t 2 = some q40 := x83.r k73 (by decide) rfl e78
  have e92 : mR m81 t 3 = some q65 := by rw [e82]; simp [mR, sR, up2]
  refine at_aload_n (i := 0) 0 49 rfl (by decide +kernel) rfl ?_
  refine at_iconst (n := 0) (0 : Int32) 50 rfl (by decide +kernel) (by decide +kernel) ?_
  refine at_iload_n (i := 2) 2 51 rfl (by decide +kernel) rfl ?_
  refine at_imx (index := 7) 54 rfl (by decide +kernel) tw_381 (by simp [va_rf_cat, cat_int, cat_long]) ?_
  obtain ⟨z93, h⟩ := h
  obtain ⟨c98, c99, h⟩ := h
  refine at_newaI 56 rfl z93 (by decide +kernel) tw_265 c98 c99 (fun q94 m95 e96 e97 => ?_)
  replace h := h q94 m95 e96 e97
  have x100 : Ext m81 m95 := by rw [e97, e96]; exact Ext.nw z93 _ _ _
  have k101 : mK m95 q2 = 15 := x100.k k84 (by decide)
  have k102 : mK m95 t = 5 := x100.k k85 (by decide)
  have k103 : mK m95 q19 = 15 := x100.k k86 (by decide)
  have k104 : mK m95 q40 = 15 := x100.k k87 (by decide)
  have k105 : mK m95 q65 = 15 := x100.k k88 (by decide)
  have e106 : mR m95 t 0 = some q2 := x100.r k85 (by decide) rfl e89
  have e107 : mR m95 t 1 = some q19 := x100.r k85 (by decide) rfl e90
  have e108 : mR m95 t 2 = some q40 := x100.r k85 (by decide) rfl e91
  have e109 : mR m95 t 3 = some q65 := x100.r k85 (by decide) rfl e92
  have k110 : mK m95 q94 = 15 := by rw [e97]; exact if_pos rfl
  obtain ⟨n111, h⟩ := h
  refine at_putRF (index := 28) cok4 4 59 rfl (by decide +kernel) k102 n111 (by decide +kernel) tw_392 rfl rfl rfl rfl (Or.inr ⟨_, rfl⟩) (fun m112 e113 => ?_)
  replace h := h m112 e113
  have x114 : Ext m95 m112 := by rw [e113]; exact Ext.sR _ (Or.inr n111)
  have k115 : mK m112 q2 = 15 := x114.k k101 (by decide)
  have k116 : mK m112 t = 5 := x114.k k102 (by decide)
  have k117 : mK m112 q19 = 15 := x114.k k103 (by decide)
  have k118 : mK m112 q40 = 15 := x114.k k104 (by decide)
  have k119 : mK m112 q65 = 15 := x114.k k105 (by decide)
  have k120 : mK m112 q94 = 15 := x114.k k110 (by decide)
  have e121 : mR m112 t 0 = some q2 := x114.r k102 (by decide) rfl e106
  have e122 : mR m112 t 1 = some q19 := x114.r k102 (by decide) rfl e107
  have e123 : mR m112 t 2 = some q40 := x114.r k102 (by decide) rfl e108
  have e124 : mR m112 t 3 = some q65 := x114.r k102 (by decide) rfl e109
  have e125 : mR m112 t 4 = some q94 := by rw [e113]; simp [mR, sR, up2]
  exact at_vret rfl (by decide +kernel) h
set_option maxRecDepth 20000 in
set_option maxHeartbeats 4000000 in
theorem en_Law_copy (g : Gc) {lv : Nat} {t : Nat} {m : Mm} {Q : Option Nat → Mm → Prop} (h : mK m (gz g + mC m) = 0 ∧ (∀ q2 m3, q2 = gz g + mC m → m3 = nw m q2 5 0 7 → (mK m3 t = 5 ∧ (CV g M_Law_init lv [va_rf (some q2), .int (mI m3 t 5), .int (mI m3 t 6)] m3 (fun m9 => (∀ m13, m13 = sI m9 q2 5 (mI m9 t 5) → (∀ m18, m18 = sI m13 q2 6 (mI m13 t 6) → (∃ b23, mR m18 t 0 = some b23 ∧ (∃ b25, mR m18 q2 0 = some b25 ∧ (mK m18 b23 = 15 ∧ (mK m18 b25 = 15 ∧ (¬ (0 : Int32) < 0 ∧ ¬ (0 : Int32) < 0 ∧ ¬ (mI m18 t 5) < 0 ∧ (0 : Int32).toNatClampNeg + (mI m18 t 5).toNatClampNeg ≤ mN m18 b23 ∧ (0 : Int32).toNatClampNeg + (mI m18 t 5).toNatClampNeg ≤ mN m18 b25 ∧ (∀ m34, m34 = rI m18 b25 (va_cpy (mI m18 b23) (mI m18 b25) (0 : Int32).toNatClampNeg (0 : Int32).toNatClampNeg (mI m18 t 5).toNatClampNeg) → (∃ b43, mR m34 t 1 = some b43 ∧ (∃ b45, mR m34 q2 1 = some b45 ∧ (mK m34 b43 = 15 ∧ (mK m34 b45 = 15 ∧ (¬ (0 : Int32) < 0 ∧ ¬ (0 : Int32) < 0 ∧ ¬ (mI m34 t 5) < 0 ∧ (0 : Int32).toNatClampNeg + (mI m34 t 5).toNatClampNeg ≤ mN m34 b43 ∧ (0 : Int32).toNatClampNeg + (mI m34 t 5).toNatClampNeg ≤ mN m34 b45 ∧ (∀ m54, m54 = rI m34 b45 (va_cpy (mI m34 b43) (mI m34 b45) (0 : Int32).toNatClampNeg (0 : Int32).toNatClampNeg (mI m34 t 5).toNatClampNeg) → (∃ b67, mR m54 t 2 = some b67 ∧ (∃ b69, mR m54 q2 2 = some b69 ∧ (mK m54 b67 = 15 ∧ (mK m54 b69 = 15 ∧ (¬ (0 : Int32) < 0 ∧ ¬ (0 : Int32) < 0 ∧ ¬ (mI m54 t 5) < 0 ∧ (0 : Int32).toNatClampNeg + (mI m54 t 5).toNatClampNeg ≤ mN m54 b67 ∧ (0 : Int32).toNatClampNeg + (mI m54 t 5).toNatClampNeg ≤ mN m54 b69 ∧ (∀ m78, m78 = rI m54 b69 (va_cpy (mI m54 b67) (mI m54 b69) (0 : Int32).toNatClampNeg (0 : Int32).toNatClampNeg (mI m54 t 5).toNatClampNeg) → (∃ b95, mR m78 t 3 = some b95 ∧ (∃ b97, mR m78 q2 3 = some b97 ∧ (mK m78 b95 = 15 ∧ (mK m78 b97 = 15 ∧ (¬ (0 : Int32) < 0 ∧ ¬ (0 : Int32) < 0 ∧ ¬ (mI m78 t 5) < 0 ∧ (0 : Int32).toNatClampNeg + (mI m78 t 5).toNatClampNeg ≤ mN m78 b95 ∧ (0 : Int32).toNatClampNeg + (mI m78 t 5).toNatClampNeg ≤ mN m78 b97 ∧ (∀ m106, m106 = rI m78 b97 (va_cpy (mI m78 b95) (mI m78 b97) (0 : Int32).toNatClampNeg (0 : Int32).toNatClampNeg (mI m78 t 5).toNatClampNeg) → (∃ b127, mR m106 t 4 = some b127 ∧ (∃ b129, mR m106 q2 4 = some b129 ∧ (mK m106 b127 = 15 ∧ (mK m106 b129 = 15 ∧ (¬ (0 : Int32) < 0 ∧ ¬ (0 : Int32) < 0 ∧ ¬ (mI m106 t 6) < 0 ∧ (0 : Int32).toNatClampNeg + (mI m106 t 6).toNatClampNeg ≤ mN m106 b127 ∧ (0 : Int32).toNatClampNeg + (mI m106 t 6).toNatClampNeg ≤ mN m106 b129 ∧ (∀ m138, m138 = rI m106 b129 (va_cpy (mI m106 b127) (mI m106 b129) (0 : Int32).toNatClampNeg (0 : Int32).toNatClampNeg (mI m106 t 6).toNatClampNeg) → (Q (some q2) m138)))))))))))))))))))))))))))))))))))))) : CR g M_Law_copy (lv + 1) [va_rf (some t)] m Q := by
  refine Call.of (by decide +kernel) (Nat.le_of_ble_eq_true rfl) ?_
  show At g M_Law_copy (lv + 1) 0 [(0, va_rf (some t))] [] m (QR Q)
  obtain ⟨z1, h⟩ := h
  refine at_new (index := 14) cok4 3 rfl z1 (by decide +kernel) tw_651 tw_376 tw_73 (fun q2 m3 e4 e5 => ?_)
  replace h := h q2 m3 e4 e5
  have x6 : Ext m m3 := by rw [e5, e4]; exact Ext.nw z1 _ _ _
  have k7 : mK m3 q2 = 5 := by rw [e5]; exact if_pos rfl
  refine at_dup 4 rfl (by decide +kernel) (va_rf_cat _) ?_
  refine at_aload_n (i := 0) 0 5 rfl (by decide +kernel) rfl ?_
  obtain ⟨k8, h⟩ := h
  refine at_get (index := 31) (v := .int (mI m3 t 5)) cok4 5 8 rfl (by decide +kernel) k8 (by decide +kernel) tw_394 rfl ?_
  refine at_aload_n (i := 0) 0 9 rfl (by decide +kernel) rfl ?_
  refine at_get (index := 35) (v := .int (mI m3 t 6)) cok4 6 12 rfl (by decide +kernel) k8 (by decide +kernel) tw_398 rfl ?_
  refine at_callI mb_Law_init tw_378 rfl rfl (index := 38) tw_652 [.int (mI m3 t 5), .int (mI m3 t 6)] [va_rf (some q2)] rfl rfl (by simp [va_rf_cat, cat_int, cat_long]) 15 rfl (by decide +kernel) (Call.toV (CV.monoE h (fun m9 h y10 => ?_)))
  have k11 : mK m9 q2 = 5 := y10.k k7 (by decide)
  have k12 : mK m9 t = 5 := y10.k k8 (by decide)
  refine at_astore_n (i := 1) (lc' := [(0, va_rf (some t)), (1, va_rf (some q2))]) [1, 0] 16 rfl (by decide +kernel) (by decide +kernel) rfl ?_
  refine at_aload_n (i := 1) 1 17 rfl (by decide +kernel) rfl ?_
  refine at_aload_n (i := 0) 0 18 rfl (by decide +kernel) rfl ?_
  refine at_get (index := 31) (v := .int (mI m9 t 5)) cok4 5 21 rfl (by decide +kernel) k12 (by decide +kernel) tw_394 rfl ?_
  refine at_putI (index := 31) cok4 5 24 rfl (by decide +kernel) k11 (by decide +kernel) tw_394 rfl rfl rfl (fun m13 e14 => ?_)
  replace h := h m13 e14
  have x15 : Ext m9 m13 := by rw [e14]; exact Ext.sI _ _ _ _
  have k16 : mK m13 q2 = 5 := x15.k k11 (by decide)
  have k17 : mK m13 t = 5 := x15.k k12 (by decide)
  refine at_aload_n (i := 1) 1 25 rfl (by decide +kernel) rfl ?_
  refine at_aload_n (i := 0) 0 26 rfl (by decide +kernel) rfl ?_
  refine at_get (index := 35) (v := .int (mI m13 t 6)) cok4 6 29 rfl (by decide +kernel) k17 (by decide +kernel) tw_398 rfl ?_
  refine at_putI (index := 35) cok4 6 32 rfl (by decide +kernel) k16 (by decide +kernel) tw_398 rfl rfl rfl (fun m18 e19 => ?_)
  replace h := h m18 e19
  have x20 : Ext m13 m18 := by rw [e19]; exact Ext.sI _ _ _ _
  have k21 : mK m18 q2 = 5 := x20.k k16 (by decide)
  have k22 : mK m18 t = 5 := x20.k k17 (by decide)
  refine at_aload_n (i := 0) 0 33 rfl (by decide +kernel) rfl ?_
  refine at_get (index := 13) (v := va_rf (mR m18 t 0)) cok4 0 36 rfl (by decide +kernel) k22 (by decide +kernel) tw_384 rfl ?_
  obtain ⟨b23, e24, h⟩ := h
  rw [e24]
  refine at_iconst (n := 0) (0 : Int32) 37 rfl (by decide +kernel) (by decide +kernel) ?_
  refine at_aload_n (i := 1) 1 38 rfl (by decide +kernel) rfl ?_
  refine at_get (index := 13) (v := va_rf (mR m18 q2 0)) cok4 0 41 rfl (by decide +kernel) k21 (by decide +kernel) tw_384 rfl ?_
  obtain ⟨b25, e26, h⟩ := h
  rw [e26]
  refine at_iconst (n := 0) (0 : Int32) 42 rfl (by decide +kernel) (by decide +kernel) ?_
  refine at_aload_n (i := 0) 0 43 rfl (by decide +kernel) rfl ?_
  refine at_get (index := 31) (v := .int (mI m18 t 5)) cok4 5 46 rfl (by decide +kernel) k22 (by decide +kernel) tw_394 rfl ?_
  obtain ⟨k27, h⟩ := h
  obtain ⟨k28, h⟩ := h
  obtain ⟨c29, c30, c31, c32, c33, h⟩ := h
  refine at_copyI 49 rfl (by decide +kernel) tw_653 tw_655 tw_654 tw_82 k27 k28 c29 c30 c31 c32 c33 (by decide) (fun m34 e35 => ?_)
  replace h := h m34 e35
  have x36 : Ext m18 m34 := by rw [e35]; exact Ext.rI _ _ _
  have k37 : mK m34 q2 = 5 := x36.k k21 (by decide)
  have k38 : mK m34 t = 5 := x36.k k22 (by decide)
  have k39 : mK m34 b23 = 15 := x36.k k27 (by decide)
  have k40 : mK m34 b25 = 15 := x36.k k28 (by decide)
  have e41 : mR m34 t 0 = some b23 := x36.r k22 (by decide) rfl e24
  have e42 : mR m34 q2 0 = some b25 := x36.r k21 (by decide) rfl e26
  refine at_aload_n (i := 0) 0 50 rfl (by decide +kernel) rfl ?_
  refine at_get (index := 19) (v := va_rf (mR m34 t 1)) cok4 1 53 rfl (by decide +kernel) k38 (by decide +kernel) tw_386 rfl ?_
  obtain ⟨b43, e44, h⟩ := h
  rw [e44]
  refine at_iconst (n := 0) (0 : Int32) 54 rfl (by decide +kernel) (by decide +kernel) ?_
  refine at_aload_n (i := 1) 1 55 rfl (by decide +kernel) rfl ?_
  refine at_get (index := 19) (v := va_rf (mR m34 q2 1)) cok4 1 58 rfl (by decide +kernel) k37 (by decide +kernel) tw_386 rfl ?_
  obtain ⟨b45, e46, h⟩ := h
  rw [e46]
  refine at_iconst (n := 0) (0 : Int32) 59 rfl (by decide +kernel) (by decide +kernel) ?_
  refine at_aload_n (i := 0) 0 60 rfl (by decide +kernel) rfl ?_
  refine at_get (index := 31) (v := .int (mI m34 t 5)) cok4 5 63 rfl (by decide +kernel) k38 (by decide +kernel) tw_394 rfl ?_
  obtain ⟨k47, h⟩ := h
  obtain ⟨k48, h⟩ := h
  obtain ⟨c49, c50, c51, c52, c53, h⟩ := h
  refine at_copyI 66 rfl (by decide +kernel) tw_653 tw_655 tw_654 tw_82 k47 k48 c49 c50 c51 c52 c53 (by decide) (fun m54 e55 => ?_)
  replace h := h m54 e55
  have x56 : Ext m34 m54 := by rw [e55]; exact Ext.rI _ _ _
  have k57 : mK m54 q2 = 5 := x56.k k37 (by decide)
  have k58 : mK m54 t = 5 := x56.k k38 (by decide)
  have k59 : mK m54 b23 = 15 := x56.k k39 (by decide)
  have k60 : mK m54 b25 = 15 := x56.k k40 (by decide)
  have k61 : mK m54 b43 = 15 := x56.k k47 (by decide)
  have k62 : mK m54 b45 = 15 := x56.k k48 (by decide)
  have e63 : mR m54 t 0 = some b23 := x56.r k38 (by decide) rfl e41
  have e64 : mR m54 q2 0 = some b25 := x56.r k37 (by decide) rfl e42
  have e65 : mR m54 t 1 = some b43 := x56.r k38 (by decide) rfl e44
  have e66 : mR m54 q2 1 = some b45 := x56.r k37 (by decide) rfl e46
  refine at_aload_n (i := 0) 0 67 rfl (by decide +kernel) rfl ?_
  refine at_get (index := 22) (v := va_rf (mR m54 t 2)) cok4 2 70 rfl (by decide +kernel) k58 (by decide +kernel) tw_388 rfl ?_
  obtain ⟨b67, e68, h⟩ := h
  rw [e68]
  refine at_iconst (n := 0) (0 : Int32) 71 rfl (by decide +kernel) (by decide +kernel) ?_
  refine at_aload_n (i := 1) 1 72 rfl (by decide +kernel) rfl ?_
  refine at_get (index := 22) (v := va_rf (mR m54 q2 2)) cok4 2 75 rfl (by decide +kernel) k57 (by decide +kernel) tw_388 rfl ?_
  obtain ⟨b69, e70, h⟩ := h
  rw [e70]
  refine at_iconst (n := 0) (0 : Int32) 76 rfl (by decide +kernel) (by decide +kernel) ?_
  refine at_aload_n (i := 0) 0 77 rfl (by decide +kernel) rfl ?_
  refine at_get (index := 31) (v := .int (mI m54 t 5)) cok4 5 80 rfl (by decide +kernel) k58 (by decide +kernel) tw_394 rfl ?_
  obtain ⟨k71, h⟩ := h
  obtain ⟨k72, h⟩ := h
  obtain ⟨c73, c74, c75, c76, c77, h⟩ := h
  refine at_copyI 83 rfl (by decide +kernel) tw_653 tw_655 tw_654 tw_82 k71 k72 c73 c74 c75 c76 c77 (by decide) (fun m78 e79 => ?_)
  replace h := h m78 e79
  have x80 : Ext m54 m78 := by rw [e79]; exact Ext.rI _ _ _
  have k81 : mK m78 q2 = 5 := x80.k k57 (by decide)
  have k82 : mK m78 t = 5 := x80.k k58 (by decide)
  have k83 : mK m78 b23 = 15 := x80.k k59 (by decide)
  have k84 : mK m78 b25 = 15 := x80.k k60 (by decide)
  have k85 : mK m78 b43 = 15 := x80.k k61 (by decide)
  have k86 : mK m78 b45 = 15 := x80.k k62 (by decide)
  have k87 : mK m78 b67 = 15 := x80.k k71 (by decide)
  have k88 : mK m78 b69 = 15 := x80.k k72 (by decide)
  have e89 : mR m78 t 0 = some b23 := x80.r k58 (by decide) rfl e63
  have e90 : mR m78 q2 0 = some b25 := x80.r k57 (by decide) rfl e64
  have e91 : mR m78 t 1 = some b43 := x80.r k58 (by decide) rfl e65
  have e92 : mR m78 q2 1 = some b45 := x80.r k57 (by decide) rfl e66
  have e93 : mR m78 t 2 = some b67 := x80.r k58 (by decide) rfl e68
  have e94 : mR m78 q2 2 = some b69 := x80.r k57 (by decide) rfl e70
  refine at_aload_n (i := 0) 0 84 rfl (by decide +kernel) rfl ?_
  refine at_get (index := 25) (v := va_rf (mR m78 t 3)) cok4 3 87 rfl (by decide +kernel) k82 (by decide +kernel) tw_390 rfl ?_
  obtain ⟨b95, e96, h⟩ := h
  rw [e96]
  refine at_iconst (n := 0) (0 : Int32) 88 rfl (by decide +kernel) (by decide +kernel) ?_
  refine at_aload_n (i := 1) 1 89 rfl (by decide +kernel) rfl ?_
  refine at_get (index := 25) (v := va_rf (mR m78 q2 3)) cok4 3 92 rfl (by decide +kernel) k81 (by decide +kernel) tw_390 rfl ?_
  obtain ⟨b97, e98, h⟩ := h
  rw [e98]
  refine at_iconst (n := 0) (0 : Int32) 93 rfl (by decide +kernel) (by decide +kernel) ?_
  refine at_aload_n (i := 0) 0 94 rfl (by decide +kernel) rfl ?_
  refine at_get (index := 31) (v := .int (mI m78 t 5)) cok4 5 97 rfl (by decide +kernel) k82 (by decide +kernel) tw_394 rfl ?_
  obtain ⟨k99, h⟩ := h
  obtain ⟨k100, h⟩ := h
  obtain ⟨c101, c102, c103, c104, c105, h⟩ := h
  refine at_copyI 100 rfl (by decide +kernel) tw_653 tw_655 tw_654 tw_82 k99 k100 c101 c102 c103 c104 c105 (by decide) (fun m106 e107 => ?_)
  replace h := h m106 e107
  have x108 : Ext m78 m106 := by rw [e107]; exact Ext.rI _ _ _
  have k109 : mK m106 q2 = 5 := x108.k k81 (by decide)
  have k110 : mK m106 t = 5 := x108.k k82 (by decide)
  have k111 : mK m106 b23 = 15 := x108.k k83 (by decide)
  have k112 : mK m106 b25 = 15 := x108.k k84 (by decide)
  have k113 : mK m106 b43 = 15 := x108.k k85 (by decide)
  have k114 : mK m106 b45 = 15 := x108.k k86 (by decide)
  have k115 : mK m106 b67 = 15 := x108.k k87 (by decide)
  have k116 : mK m106 b69 = 15 := x108.k k88 (by decide)
  have k117 : mK m106 b95 = 15 := x108.k k99 (by decide)
  have k118 : mK m106 b97 = 15 := x108.k k100 (by decide)
  have e119 : mR m106 t 0 = some b23 := x108.r k82 (by decide) rfl e89
  have e120 : mR m106 q2 0 = some b25 := x108.r k81 (by decide) rfl e90
  have e121 : mR m106 t 1 = some b43 := x108.r k82 (by decide) rfl e91
  have e122 : mR m106 q2 1 = some b45 := x108.r k81 (by decide) rfl e92
  have e123 : mR m106 t 2 = some b67 := x108.r k82 (by decide) rfl e93
  have e124 : mR m106 q2 2 = some b69 := x108.r k81 (by decide) rfl e94
  have e125 : mR m106 t 3 = some b95 := x108.r k82 (by decide) rfl e96
  have e126 : mR m106 q2 3 = some b97 := x108.r k81 (by decide) rfl e98
  refine at_aload_n (i := 0) 0 101 rfl (by decide +kernel) rfl ?_
  refine at_get (index := 28) (v := va_rf (mR m106 t 4)) cok4 4 104 rfl (by decide +kernel) k110 (by decide +kernel) tw_392 rfl ?_
  obtain ⟨b127, e128, h⟩ := h
  rw [e128]
  refine at_iconst (n := 0) (0 : Int32) 105 rfl (by decide +kernel) (by decide +kernel) ?_
  refine at_aload_n (i := 1) 1 106 rfl (by decide +kernel) rfl ?_
  refine at_get (index := 28) (v := va_rf (mR m106 q2 4)) cok4 4 109 rfl (by decide +kernel) k109 (by decide +kernel) tw_392 rfl ?_
  obtain ⟨b129, e130, h⟩ := h
  rw [e130]
  refine at_iconst (n := 0) (0 : Int32) 110 rfl (by decide +kernel) (by decide +kernel) ?_
  refine at_aload_n (i := 0) 0 111 rfl (by decide +kernel) rfl ?_
  refine at_get (index := 35) (v := .int (mI m106 t 6)) cok4 6 114 rfl (by decide +kernel) k110 (by decide +kernel) tw_398 rfl ?_
  obtain ⟨k131, h⟩ := h
  obtain ⟨k132, h⟩ := h
  obtain ⟨c133, c134, c135, c136, c137, h⟩ := h
  refine at_copyI 117 rfl (by decide +kernel) tw_653 tw_655 tw_654 tw_82 k131 k132 c133 c134 c135 c136 c137 (by decide) (fun m138 e139 => ?_)
  replace h := h m138 e139
  have x140 : Ext m106 m138 := by rw [e139]; exact Ext.rI _ _ _
  have k141 : mK m138 q2 = 5 := x140.k k109 (by decide)
  have k142 : mK m138 t = 5 := x140.k k110 (by decide)
  have k143 : mK m138 b23 = 15 := x140.k k111 (by decide)
  have k144 : mK m138 b25 = 15 := x140.k k112 (by decide)
  have k145 : mK m138 b43 = 15 := x140.k k113 (by decide)
  have k146 : mK m138 b45 = 15 := x140.k k114 (by decide)
  have k147 : mK m138 b67 = 15 := x140.k k115 (by decide)
  have k148 : mK m138 b69 = 15 := x140.k k116 (by decide)
  have k149 : mK m138 b95 = 15 := x140.k k117 (by decide)
  have k150 : mK m138 b97 = 15 := x140.k k118 (by decide)
  have k151 : mK m138 b127 = 15 := x140.k k131 (by decide)
  have k152 : mK m138 b129 = 15 := x140.k k132 (by decide)
  have e153 : mR m138 t 0 = some b23 := x140.r k110 (by decide) rfl e119
  have e154 : mR m138 q2 0 = some b25 := x140.r k109 (by decide) rfl e120
  have e155 : mR m138 t 1 = some b43 := x140.r k110 (by decide) rfl e121
  have e156 : mR m138 q2 1 = some b45 := x140.r k109 (by decide) rfl e122
  have e157 : mR m138 t 2 = some b67 := x140.r k110 (by decide) rfl e123
  have e158 : mR m138 q2 2 = some b69 := x140.r k109 (by decide) rfl e124
  have e159 : mR m138 t 3 = some b95 := x140.r k110 (by decide) rfl e125
  have e160 : mR m138 q2 3 = some b97 := x140.r k109 (by decide) rfl e126
  have e161 : mR m138 t 4 = some b127 := x140.r k110 (by decide) rfl e128
  have e162 : mR m138 q2 4 = some b129 := x140.r k109 (by decide) rfl e130
  refine at_aload_n (i := 1) 1 118 rfl (by decide +kernel) rfl ?_
  exact at_aret rfl (Or.inl ⟨_, rfl⟩) (by decide +kernel) h
set_option maxRecDepth 20000 in
set_option maxHeartbeats 4000000 in
theorem en_Law_emit (g : Gc) {lv : Nat} {t : Nat} {l1 : Int32} {m : Mm} {Q : Mm → Prop} (h : mK m t = 5 ∧ (∃ b2, mR m t 4 = some b2 ∧ (mK m b2 = 15 ∧ (if (nI (mN m b2)) ≤ (mI m t 6) then (Q m) else (vp_in (mI m t 6) (mN m b2) ∧ (∀ m7, m7 = sI m b2 (mI m t 6).toNatClampNeg l1 → (∀ m13, m13 = sI m7 t 6 ((mI m7 t 6) + (1 : Int32)) → (Q m13)))))))) : CV g M_Law_emit (lv + 1) [va_rf (some t), .int (l1)] m Q := by
  refine Call.of (by decide +kernel) (Nat.le_of_ble_eq_true rfl) ?_
  show At g M_Law_emit (lv + 1) 0 [(0, va_rf (some t)), (1, .int (l1))] [] m (QV Q)
  refine at_aload_n (i := 0) 0 1 rfl (by decide +kernel) rfl ?_
  obtain ⟨k1, h⟩ := h
  refine at_get (index := 35) (v := .int (mI m t 6)) cok4 6 4 rfl (by decide +kernel) k1 (by decide +kernel) tw_398 rfl ?_
  refine at_aload_n (i := 0) 0 5 rfl (by decide +kernel) rfl ?_
  refine at_get (index := 28) (v := va_rf (mR m t 4)) cok4 4 8 rfl (by decide +kernel) k1 (by decide +kernel) tw_392 rfl ?_
  obtain ⟨b2, e3, h⟩ := h
  rw [e3]
  obtain ⟨k4, h⟩ := h
  refine at_alen 9 rfl (by decide +kernel) k4 (by decide) ?_
  refine at_icmp_ge (off := 23) 32 12 rfl (by decide +kernel) (by decide +kernel) (fun c5 => ?_) (fun c5 => ?_)
  · rw [if_pos c5] at h
    exact at_vret rfl (by decide +kernel) h
  · rw [if_neg c5] at h
    refine at_aload_n (i := 0) 0 13 rfl (by decide +kernel) rfl ?_
    refine at_get (index := 28) (v := va_rf (mR m t 4)) cok4 4 16 rfl (by decide +kernel) k1 (by decide +kernel) tw_392 rfl ?_
    rw [e3]
    refine at_aload_n (i := 0) 0 17 rfl (by decide +kernel) rfl ?_
    refine at_get (index := 35) (v := .int (mI m t 6)) cok4 6 20 rfl (by decide +kernel) k1 (by decide +kernel) tw_398 rfl ?_
    refine at_iload_n (i := 1) 1 21 rfl (by decide +kernel) rfl ?_
    obtain ⟨v6, h⟩ := h
    refine at_iast 22 rfl (by decide +kernel) k4 v6 (fun m7 e8 => ?_)
    replace h := h m7 e8
    have x9 : Ext m m7 := by rw [e8]; exact Ext.sI _ _ _ _
    have k10 : mK m7 t = 5 := x9.k k1 (by decide)
    have k11 : mK m7 b2 = 15 := x9.k k4 (by decide)
    have e12 : mR m7 t 4 = some b2 := x9.r k1 (by decide) rfl e3
    refine at_aload_n (i := 0) 0 23 rfl (by decide +kernel) rfl ?_
    refine at_dup 24 rfl (by decide +kernel) (va_rf_cat _) ?_
    refine at_get (index := 35) (v := .int (mI m7 t 6)) cok4 6 27 rfl (by decide +kernel) k10 (by decide +kernel) tw_398 rfl ?_
    refine at_iconst (n := 1) (1 : Int32) 28 rfl (by decide +kernel) (by decide +kernel) ?_
    refine at_iadd 29 rfl (by decide +kernel) ?_
    refine at_putI (index := 35) cok4 6 32 rfl (by decide +kernel) k10 (by decide +kernel) tw_398 rfl rfl rfl (fun m13 e14 => ?_)
    replace h := h m13 e14
    have x15 : Ext m7 m13 := by rw [e14]; exact Ext.sI _ _ _ _
    have k16 : mK m13 t = 5 := x15.k k10 (by decide)
    have k17 : mK m13 b2 = 15 := x15.k k11 (by decide)
    have e18 : mR m13 t 4 = some b2 := x15.r k10 (by decide) rfl e12
    exact at_vret rfl (by decide +kernel) h
set_option maxRecDepth 20000 in
set_option maxHeartbeats 4000000 in
theorem en_Law_addClause (g : Gc) {lv : Nat} {t : Nat} {l1 : Int32} {l2 : Int32} {l3 : Int32} {m : Mm} {Q : Mm → Prop} (h : mK m t = 5 ∧ (∃ b2, mR m t 0 = some b2 ∧ (mK m b2 = 15 ∧ (if (nI (mN m b2)) ≤ (mI m t 5) then (Q m) else (vp_in (mI m t 5) (mN m b2) ∧ (∀ m7, m7 = sI m b2 (mI m t 5).toNatClampNeg l1 → (∃ b13, mR m7 t 1 = some b13 ∧ (mK m7 b13 = 15 ∧ (vp_in (mI m7 t 5) (mN m7 b13) ∧ (∀ m17, m17 = sI m7 b13 (mI m7 t 5).toNatClampNeg l2 → (∃ b25, mR m17 t 2 = some b25 ∧ (mK m17 b25 = 15 ∧ (vp_in (mI m17 t 5) (mN m17 b25) ∧ (∀ m29, m29 = sI m17 b25 (mI m17 t 5).toNatClampNeg l3 → (∃ b39, mR m29 t 3 = some b39 ∧ (mK m29 b39 = 15 ∧ (vp_in (mI m29 t 5) (mN m29 b39) ∧ (∀ m43, m43 = sI m29 b39 (mI m29 t 5).toNatClampNeg (mI m29 t 6) → (∀ m55, m55 = sI m43 t 5 ((mI m43 t 5) + (1 : Int32)) → (Q m55)))))))))))))))))))) : CV g M_Law_addClause (lv + 1) [va_rf (some t), .int (l1), .int (l2), .int (l3)] m Q := by
  refine Call.of (by decide +kernel) (Nat.le_of_ble_eq_true rfl) ?_
  show At g M_Law_addClause (lv + 1) 0 [(0, va_rf (some t)), (1, .int (l1)), (2, .int (l2)), (3, .int (l3))] [] m (QV Q)
  refine at_aload_n (i := 0) 0 1 rfl (by decide +kernel) rfl ?_
  obtain ⟨k1, h⟩ := h
  refine at_get (index := 31) (v := .int (mI m t 5)) cok4 5 4 rfl (by decide +kernel) k1 (by decide +kernel) tw_394 rfl ?_
  refine at_aload_n (i := 0) 0 5 rfl (by decide +kernel) rfl ?_
  refine at_get (index := 13) (v := va_rf (mR m t 0)) cok4 0 8 rfl (by decide +kernel) k1 (by decide +kernel) tw_384 rfl ?_
  obtain ⟨b2, e3, h⟩ := h
  rw [e3]
  obtain ⟨k4, h⟩ := h
  refine at_alen 9 rfl (by decide +kernel) k4 (by decide) ?_
  refine at_icmp_ge (off := 56) 65 12 rfl (by decide +kernel) (by decide +kernel) (fun c5 => ?_) (fun c5 => ?_)
  · rw [if_pos c5] at h
    exact at_vret rfl (by decide +kernel) h
  · rw [if_neg c5] at h
    refine at_aload_n (i := 0) 0 13 rfl (by decide +kernel) rfl ?_
    refine at_get (index := 13) (v := va_rf (mR m t 0)) cok4 0 16 rfl (by decide +kernel) k1 (by decide +kernel) tw_384 rfl ?_
    rw [e3]
    refine at_aload_n (i := 0) 0 17 rfl (by decide +kernel) rfl ?_
    refine at_get (index := 31) (v := .int (mI m t 5)) cok4 5 20 rfl (by decide +kernel) k1 (by decide +kernel) tw_394 rfl ?_
    refine at_iload_n (i := 1) 1 21 rfl (by decide +kernel) rfl ?_
    obtain ⟨v6, h⟩ := h
    refine at_iast 22 rfl (by decide +kernel) k4 v6 (fun m7 e8 => ?_)
    replace h := h m7 e8
    have x9 : Ext m m7 := by rw [e8]; exact Ext.sI _ _ _ _
    have k10 : mK m7 t = 5 := x9.k k1 (by decide)
    have k11 : mK m7 b2 = 15 := x9.k k4 (by decide)
    have e12 : mR m7 t 0 = some b2 := x9.r k1 (by decide) rfl e3
    refine at_aload_n (i := 0) 0 23 rfl (by decide +kernel) rfl ?_
    refine at_get (index := 19) (v := va_rf (mR m7 t 1)) cok4 1 26 rfl (by decide +kernel) k10 (by decide +kernel) tw_386 rfl ?_
    obtain ⟨b13, e14, h⟩ := h
    rw [e14]
    refine at_aload_n (i := 0) 0 27 rfl (by decide +kernel) rfl ?_
    refine at_get (index := 31) (v := .int (mI m7 t 5)) cok4 5 30 rfl (by decide +kernel) k10 (by decide +kernel) tw_394 rfl ?_
    refine at_iload_n (i := 2) 2 31 rfl (by decide +kernel) rfl ?_
    obtain ⟨k15, h⟩ := h
    obtain ⟨v16, h⟩ := h
    refine at_iast 32 rfl (by decide +kernel) k15 v16 (fun m17 e18 => ?_)
    replace h := h m17 e18
    have x19 : Ext m7 m17 := by rw [e18]; exact Ext.sI _ _ _ _
    have k20 : mK m17 t = 5 := x19.k k10 (by decide)
    have k21 : mK m17 b2 = 15 := x19.k k11 (by decide)
    have k22 : mK m17 b13 = 15 := x19.k k15 (by decide)
    have e23 : mR m17 t 0 = some b2 := x19.r k10 (by decide) rfl e12
    have e24 : mR m17 t 1 = some b13 := x19.r k10 (by decide) rfl e14
    refine at_aload_n (i := 0) 0 33 rfl (by decide +kernel) rfl ?_
    refine at_get (index := 22) (v := va_rf (mR m17 t 2)) cok4 2 36 rfl (by decide +kernel) k20 (by decide +kernel) tw_388 rfl ?_
    obtain ⟨b25, e26, h⟩ := h
    rw [e26]
    refine at_aload_n (i := 0) 0 37 rfl (by decide +kernel) rfl ?_
    refine at_get (index := 31) (v := .int (mI m17 t 5)) cok4 5 40 rfl (by decide +kernel) k20 (by decide +kernel) tw_394 rfl ?_
    refine at_iload_n (i := 3) 3 41 rfl (by decide +kernel) rfl ?_
    obtain ⟨k27, h⟩ := h
    obtain ⟨v28, h⟩ := h
    refine at_iast 42 rfl (by decide +kernel) k27 v28 (fun m29 e30 => ?_)
    replace h := h m29 e30
    have x31 : Ext m17 m29 := by rw [e30]; exact Ext.sI _ _ _ _
    have k32 : mK m29 t = 5 := x31.k k20 (by decide)
    have k33 : mK m29 b2 = 15 := x31.k k21 (by decide)
    have k34 : mK m29 b13 = 15 := x31.k k22 (by decide)
    have k35 : mK m29 b25 = 15 := x31.k k27 (by decide)
    have e36 : mR m29 t 0 = some b2 := x31.r k20 (by decide) rfl e23
    have e37 : mR m29 t 1 = some b13 := x31.r k20 (by decide) rfl e24
    have e38 : mR m29 t 2 = some b25 := x31.r k20 (by decide) rfl e26
    refine at_aload_n (i := 0) 0 43 rfl (by decide +kernel) rfl ?_
    refine at_get (index := 25) (v := va_rf (mR m29 t 3)) cok4 3 46 rfl (by decide +kernel) k32 (by decide +kernel) tw_390 rfl ?_
    obtain ⟨b39, e40, h⟩ := h
    rw [e40]
    refine at_aload_n (i := 0) 0 47 rfl (by decide +kernel) rfl ?_
    refine at_get (index := 31) (v := .int (mI m29 t 5)) cok4 5 50 rfl (by decide +kernel) k32 (by decide +kernel) tw_394 rfl ?_
    refine at_aload_n (i := 0) 0 51 rfl (by decide +kernel) rfl ?_
    refine at_get (index := 35) (v := .int (mI m29 t 6)) cok4 6 54 rfl (by decide +kernel) k32 (by decide +kernel) tw_398 rfl ?_
    obtain ⟨k41, h⟩ := h
    obtain ⟨v42, h⟩ := h
    refine at_iast 55 rfl (by decide +kernel) k41 v42 (fun m43 e44 => ?_)
    replace h := h m43 e44
    have x45 : Ext m29 m43 := by rw [e44]; exact Ext.sI _ _ _ _
    have k46 : mK m43 t = 5 := x45.k k32 (by decide)
    have k47 : mK m43 b2 = 15 := x45.k k33 (by decide)
    have k48 : mK m43 b13 = 15 := x45.k k34 (by decide)
    have k49 : mK m43 b25 = 15 := x45.k k35 (by decide)
    have k50 : mK m43 b39 = 15 := x45.k k41 (by decide)
    have e51 : mR m43 t 0 = some b2 := x45.r k32 (by decide) rfl e36
    have e52 : mR m43 t 1 = some b13 := x45.r k32 (by decide) rfl e37
    have e53 : mR m43 t 2 = some b25 := x45.r k32 (by decide) rfl e38
    have e54 : mR m43 t 3 = some b39 := x45.r k32 (by decide) rfl e40
    refine at_aload_n (i := 0) 0 56 rfl (by decide +kernel) rfl ?_
    refine at_dup 57 rfl (by decide +kernel) (va_rf_cat _) ?_
    refine at_get (index := 31) (v := .int (mI m43 t 5)) cok4 5 60 rfl (by decide +kernel) k46 (by decide +kernel) tw_394 rfl ?_
    refine at_iconst (n := 1) (1 : Int32) 61 rfl (by decide +kernel) (by decide +kernel) ?_
    refine at_iadd 62 rfl (by decide +kernel) ?_
    refine at_putI (index := 31) cok4 5 65 rfl (by decide +kernel) k46 (by decide +kernel) tw_394 rfl rfl rfl (fun m55 e56 => ?_)
    replace h := h m55 e56
    have x57 : Ext m43 m55 := by rw [e56]; exact Ext.sI _ _ _ _
    have k58 : mK m55 t = 5 := x57.k k46 (by decide)
    have k59 : mK m55 b2 = 15 := x57.k k47 (by decide)
    have k60 : mK m55 b13 = 15 := x57.k k48 (by decide)
    have k61 : mK m55 b25 = 15 := x57.k k49 (by decide)
    have k62 : mK m55 b39 = 15 := x57.k k50 (by decide)
    have e63 : mR m55 t 0 = some b2 := x57.r k46 (by decide) rfl e51
    have e64 : mR m55 t 1 = some b13 := x57.r k46 (by decide) rfl e52
    have e65 : mR m55 t 2 = some b25 := x57.r k46 (by decide) rfl e53
    have e66 : mR m55 t 3 = some b39 := x57.r k46 (by decide) rfl e54
    exact at_vret rfl (by decide +kernel) h
set_option maxRecDepth 20000 in
set_option maxHeartbeats 4000000 in
theorem en_Loan_init (g : Gc) {lv : Nat} {t : Nat} {l1 : Int32} {l2 : Int32} {l3 : Int64} {m : Mm} {Q : Mm → Prop} (h : mK m t = 6 ∧ (∀ m2, m2 = sI m t 0 l1 → (∀ m6, m6 = sI m2 t 1 l2 → (∀ m10, m10 = sL m6 t 2 l3 → (Q m10))))) : CV g M_Loan_init (lv + 1) [va_rf (some t), .int (l1), .int (l2), .long (l3)] m Q := by
  refine Call.of (by decide +kernel) (Nat.le_of_ble_eq_true rfl) ?_
  show At g M_Loan_init (lv + 1) 0 [(0, va_rf (some t)), (1, .int (l1)), (2, .int (l2)), (3, .long (l3))] [] m (QV Q)
  refine at_aload_n (i := 0) 0 1 rfl (by decide +kernel) rfl ?_
  refine at_objInit 4 rfl (by decide +kernel) tw_939 tw_91 tw_92 (by decide) ?_
  refine at_aload_n (i := 0) 0 5 rfl (by decide +kernel) rfl ?_
  refine at_iload_n (i := 1) 1 6 rfl (by decide +kernel) rfl ?_
  obtain ⟨k1, h⟩ := h
  refine at_putIF (index := 7) cok5 0 9 rfl (by decide +kernel) k1 (by decide +kernel) tw_940 rfl rfl rfl rfl rfl (fun m2 e3 => ?_)
  replace h := h m2 e3
  have x4 : Ext m m2 := by rw [e3]; exact Ext.sI _ _ _ _
  have k5 : mK m2 t = 6 := x4.k k1 (by decide)
  refine at_aload_n (i := 0) 0 10 rfl (by decide +kernel) rfl ?_
  refine at_iload_n (i := 2) 2 11 rfl (by decide +kernel) rfl ?_
  refine at_putIF (index := 13) cok5 1 14 rfl (by decide +kernel) k5 (by decide +kernel) tw_943 rfl rfl rfl rfl rfl (fun m6 e7 => ?_)
  replace h := h m6 e7
  have x8 : Ext m2 m6 := by rw [e7]; exact Ext.sI _ _ _ _
  have k9 : mK m6 t = 6 := x8.k k5 (by decide)
  refine at_aload_n (i := 0) 0 15 rfl (by decide +kernel) rfl ?_
  refine at_lload_n (i := 3) 3 16 rfl (by decide +kernel) rfl ?_
  refine at_putJF (index := 16) cok5 2 19 rfl (by decide +kernel) k9 (by decide +kernel) tw_946 rfl rfl rfl rfl rfl (fun m10 e11 => ?_)
  replace h := h m10 e11
  have x12 : Ext m6 m10 := by rw [e11]; exact Ext.sL _ _ _ _
  have k13 : mK m10 t = 6 := x12.k k9 (by decide)
  exact at_vret rfl (by decide +kernel) h
set_option maxRecDepth 20000 in
set_option maxHeartbeats 4000000 in
theorem en_Receipt_init (g : Gc) {lv : Nat} {t : Nat} {m : Mm} {Q : Mm → Prop} (h : Q m) : CV g M_Receipt_init (lv + 1) [va_rf (some t)] m Q := by
  refine Call.of (by decide +kernel) (Nat.le_of_ble_eq_true rfl) ?_
  show At g M_Receipt_init (lv + 1) 0 [(0, va_rf (some t))] [] m (QV Q)
  refine at_aload_n (i := 0) 0 1 rfl (by decide +kernel) rfl ?_
  refine at_objInit 4 rfl (by decide +kernel) tw_772 tw_91 tw_92 (by decide) ?_
  exact at_vret rfl (by decide +kernel) h
set_option maxRecDepth 20000 in
set_option maxHeartbeats 4000000 in
theorem en_Receipt_isPledged (g : Gc) {lv : Nat} {t : Nat} {m : Mm} {Q : Int32 → Mm → Prop} (h : mK m t = 7 ∧ (if (mR m t 3 : Option Nat) = none then (Q (0 : Int32) m) else (Q (1 : Int32) m))) : CI g M_Receipt_isPledged (lv + 1) [va_rf (some t)] m Q := by
  refine Call.of (by decide +kernel) (Nat.le_of_ble_eq_true rfl) ?_
  show At g M_Receipt_isPledged (lv + 1) 0 [(0, va_rf (some t))] [] m (QI Q)
  refine at_aload_n (i := 0) 0 1 rfl (by decide +kernel) rfl ?_
  obtain ⟨k1, h⟩ := h
  refine at_get (index := 7) (v := va_rf (mR m t 3)) cok6 3 4 rfl (by decide +kernel) k1 (by decide +kernel) tw_782 rfl ?_
  refine at_ifnull (off := 7) 11 7 rfl (by decide +kernel) (by decide +kernel) (fun c2 => ?_) (fun c2 => ?_)
  · rw [if_pos c2] at h
    refine at_iconst (n := 0) (0 : Int32) 12 rfl (by decide +kernel) (by decide +kernel) ?_
    exact at_zret rfl (by decide +kernel) (Or.inl rfl) h
  · rw [if_neg c2] at h
    refine at_iconst (n := 1) (1 : Int32) 8 rfl (by decide +kernel) (by decide +kernel) ?_
    refine at_goto (off := 4) 12 (by decide +kernel) (by decide +kernel) ?_
    exact at_zret rfl (by decide +kernel) (Or.inr rfl) h
set_option maxRecDepth 20000 in
set_option maxHeartbeats 4000000 in
theorem en_Receipt_loanOf (g : Gc) {lv : Nat} {t : Nat} {l1 : Int32} {m : Mm} {Q : Option Nat → Mm → Prop} (h : if (l1) = ((1 : Int32)) then (mK m t = 7 ∧ (Q (mR m t 3) m)) else (if (l1) = ((2 : Int32)) then (mK m t = 7 ∧ (Q (mR m t 4) m)) else (Q none m))) : CR g M_Receipt_loanOf (lv + 1) [va_rf (some t), .int (l1)] m Q := by
  refine Call.of (by decide +kernel) (Nat.le_of_ble_eq_true rfl) ?_
  show At g M_Receipt_loanOf (lv + 1) 0 [(0, va_rf (some t)), (1, .int (l1))] [] m (QR Q)
  refine at_iload_n (i := 1) 1 1 rfl (by decide +kernel) rfl ?_
  refine at_iconst (n := 1) (1 : Int32) 2 rfl (by decide +kernel) (by decide +kernel) ?_
  refine at_icmp_ne (off := 8) 10 5 rfl (by decide +kernel) (by decide +kernel) (fun c1 => ?_) (fun c1 => ?_)
  · rw [if_neg c1] at h
    refine at_iload_n (i := 1) 1 11 rfl (by decide +kernel) rfl ?_
    refine at_iconst (n := 2) (2 : Int32) 12 rfl (by decide +kernel) (by decide +kernel) ?_
    refine at_icmp_ne (off := 10) 22 15 rfl (by decide +kernel) (by decide +kernel) (fun c2 => ?_) (fun c2 => ?_)
    · rw [if_neg c2] at h
      refine at_null 23 rfl (by decide +kernel) ?_
      exact at_aret rfl (Or.inl ⟨_, rfl⟩) (by decide +kernel) h
    · rw [if_pos c2] at h
      refine at_aload_n (i := 0) 0 16 rfl (by decide +kernel) rfl ?_
      obtain ⟨k3, h⟩ := h
      refine at_get (index := 13) (v := va_rf (mR m t 4)) cok6 4 19 rfl (by decide +kernel) k3 (by decide +kernel) tw_786 rfl ?_
      refine at_goto (off := 4) 23 (by decide +kernel) (by decide +kernel) ?_
      exact at_aret rfl (Or.inl ⟨_, rfl⟩) (by decide +kernel) h
  · rw [if_pos c1] at h
    refine at_aload_n (i := 0) 0 6 rfl (by decide +kernel) rfl ?_
    obtain ⟨k4, h⟩ := h
    refine at_get (index := 7) (v := va_rf (mR m t 3)) cok6 3 9 rfl (by decide +kernel) k4 (by decide +kernel) tw_782 rfl ?_
    exact at_aret rfl (Or.inl ⟨_, rfl⟩) (by decide +kernel) h
set_option maxRecDepth 20000 in
set_option maxHeartbeats 4000000 in
theorem en_Receipt_bears (g : Gc) {lv : Nat} {t : Nat} {l1 : Option Nat} {m : Mm} {Q : Int32 → Mm → Prop} (h : if (l1 : Option Nat) = none then (Q (0 : Int32) m) else (mK m t = 7 ∧ (if (mR m t 3) = (l1) then (Q (1 : Int32) m) else (if (mR m t 4) = (l1) then (Q (1 : Int32) m) else (Q (0 : Int32) m))))) : CI g M_Receipt_bears (lv + 1) [va_rf (some t), va_rf (l1)] m Q := by
  refine Call.of (by decide +kernel) (by simp [lg_sl, va_rf_cat, cat_int, cat_long, M_Receipt_bears]) ?_
  rw [show lv_args 0 [va_rf (some t), va_rf (l1)] = [(0, va_rf (some t)), (1, va_rf (l1))] from by simp [lv_args, va_rf_cat, cat_int, cat_long]]
  refine at_aload_n (i := 1) 1 1 rfl (by decide +kernel) rfl ?_
  refine at_ifnull (off := 23) 24 4 rfl (by decide +kernel) (by decide +kernel) (fun c1 => ?_) (fun c1 => ?_)
  · rw [if_pos c1] at h
    refine at_iconst (n := 0) (0 : Int32) 25 rfl (by decide +kernel) (by decide +kernel) ?_
    exact at_zret rfl (by decide +kernel) (Or.inl rfl) h
  · rw [if_neg c1] at h
    refine at_aload_n (i := 0) 0 5 rfl (by decide +kernel) rfl ?_
    obtain ⟨k2, h⟩ := h
    refine at_get (index := 7) (v := va_rf (mR m t 3)) cok6 3 8 rfl (by decide +kernel) k2 (by decide +kernel) tw_782 rfl ?_
    refine at_aload_n (i := 1) 1 9 rfl (by decide +kernel) rfl ?_
    refine at_acmp_eq (off := 11) 20 12 rfl (by decide +kernel) (by decide +kernel) (fun c3 => ?_) (fun c3 => ?_)
    · rw [if_pos c3] at h
      refine at_iconst (n := 1) (1 : Int32) 21 rfl (by decide +kernel) (by decide +kernel) ?_
      refine at_goto (off := 4) 25 (by decide +kernel) (by decide +kernel) ?_
      exact at_zret rfl (by decide +kernel) (Or.inr rfl) h
    · rw [if_neg c3] at h
      refine at_aload_n (i := 0) 0 13 rfl (by decide +kernel) rfl ?_
      refine at_get (index := 13) (v := va_rf (mR m t 4)) cok6 4 16 rfl (by decide +kernel) k2 (by decide +kernel) tw_786 rfl ?_
      refine at_aload_n (i := 1) 1 17 rfl (by decide +kernel) rfl ?_
      refine at_acmp_ne (off := 7) 24 20 rfl (by decide +kernel) (by decide +kernel) (fun c4 => ?_) (fun c4 => ?_)
      · rw [if_neg c4] at h
        refine at_iconst (n := 0) (0 : Int32) 25 rfl (by decide +kernel) (by decide +kernel) ?_
        exact at_zret rfl (by decide +kernel) (Or.inl rfl) h
      · rw [if_pos c4] at h
        refine at_iconst (n := 1) (1 : Int32) 21 rfl (by decide +kernel) (by decide +kernel) ?_
        refine at_goto (off := 4) 25 (by decide +kernel) (by decide +kernel) ?_
        exact at_zret rfl (by decide +kernel) (Or.inr rfl) h
set_option maxRecDepth 20000 in
set_option maxHeartbeats 4000000 in
theorem en_Receipt_bear (g : Gc) {lv : Nat} {t : Nat} {l1 : Option Nat} {m : Mm} {Q : Mm → Prop} (h : mK m t = 7 ∧ (if (mR m t 3 : Option Nat) = none then (∀ m7, m7 = sR m t 3 l1 → (Q m7)) else (∀ m3, m3 = sR m t 4 l1 → (Q m3)))) : CV g M_Receipt_bear (lv + 1) [va_rf (some t), va_rf (l1)] m Q := by
  refine Call.of (by decide +kernel) (by simp [lg_sl, va_rf_cat, cat_int, cat_long, M_Receipt_bear]) ?_
  rw [show lv_args 0 [va_rf (some t), va_rf (l1)] = [(0, va_rf (some t)), (1, va_rf (l1))] from by simp [lv_args, va_rf_cat, cat_int, cat_long]]
  refine at_aload_n (i := 0) 0 1 rfl (by decide +kernel) rfl ?_
  obtain ⟨k1, h⟩ := h
  refine at_get (index := 7) (v := va_rf (mR m t 3)) cok6 3 4 rfl (by decide +kernel) k1 (by decide +kernel) tw_782 rfl ?_
  refine at_ifnonnull (off := 11) 15 7 rfl (by decide +kernel) (by decide +kernel) (fun c2 => ?_) (fun c2 => ?_)
  · rw [if_neg c2] at h
    refine at_aload_n (i := 0) 0 16 rfl (by decide +kernel) rfl ?_
    refine at_aload_n (i := 1) 1 17 rfl (by decide +kernel) rfl ?_
    refine at_putR (index := 13) cok6 4 20 rfl (by decide +kernel) k1 rfl (by decide +kernel) tw_786 rfl rfl (Or.inl ⟨_, rfl⟩) (fun m3 e4 => ?_)
    replace h := h m3 e4
    have x5 : Ext m m3 := by rw [e4]; exact Ext.sR _ (Or.inl (by rw [k1]; rfl))
    have k6 : mK m3 t = 7 := x5.k k1 (by decide)
    exact at_vret rfl (by decide +kernel) h
  · rw [if_pos c2] at h
    refine at_aload_n (i := 0) 0 8 rfl (by decide +kernel) rfl ?_
    refine at_aload_n (i := 1) 1 9 rfl (by decide +kernel) rfl ?_
    refine at_putR (index := 7) cok6 3 12 rfl (by decide +kernel) k1 rfl (by decide +kernel) tw_782 rfl rfl (Or.inl ⟨_, rfl⟩) (fun m7 e8 => ?_)
    replace h := h m7 e8
    have x9 : Ext m m7 := by rw [e8]; exact Ext.sR _ (Or.inl (by rw [k1]; rfl))
    have k10 : mK m7 t = 7 := x9.k k1 (by decide)
    refine at_goto (off := 8) 20 (by decide +kernel) (by decide +kernel) ?_
    exact at_vret rfl (by decide +kernel) h
set_option maxRecDepth 20000 in
set_option maxHeartbeats 4000000 in
theorem en_Receipt_drop (g : Gc) {lv : Nat} {t : Nat} {l1 : Option Nat} {m : Mm} {Q : Mm → Prop} (h : mK m t = 7 ∧ (if (mR m t 3) = (l1) then (∀ m8, m8 = sR m t 3 (mR m t 4) → (∀ m12, m12 = sR m8 t 4 none → (Q m12))) else (if (mR m t 4) = (l1) then (∀ m4, m4 = sR m t 4 none → (Q m4)) else (Q m)))) : CV g M_Receipt_drop (lv + 1) [va_rf (some t), va_rf (l1)] m Q := by
  refine Call.of (by decide +kernel) (by simp [lg_sl, va_rf_cat, cat_int, cat_long, M_Receipt_drop]) ?_
  rw [show lv_args 0 [va_rf (some t), va_rf (l1)] = [(0, va_rf (some t)), (1, va_rf (l1))] from by simp [lv_args, va_rf_cat, cat_int, cat_long]]
  refine at_aload_n (i := 0) 0 1 rfl (by decide +kernel) rfl ?_
  obtain ⟨k1, h⟩ := h
  refine at_get (index := 7) (v := va_rf (mR m t 3)) cok6 3 4 rfl (by decide +kernel) k1 (by decide +kernel) tw_782 rfl ?_
  refine at_aload_n (i := 1) 1 5 rfl (by decide +kernel) rfl ?_
  refine at_acmp_ne (off := 19) 24 8 rfl (by decide +kernel) (by decide +kernel) (fun c2 => ?_) (fun c2 => ?_)
  · rw [if_neg c2] at h
    refine at_aload_n (i := 0) 0 25 rfl (by decide +kernel) rfl ?_
    refine at_get (index := 13) (v := va_rf (mR m t 4)) cok6 4 28 rfl (by decide +kernel) k1 (by decide +kernel) tw_786 rfl ?_
    refine at_aload_n (i := 1) 1 29 rfl (by decide +kernel) rfl ?_
    refine at_acmp_ne (off := 8) 37 32 rfl (by decide +kernel) (by decide +kernel) (fun c3 => ?_) (fun c3 => ?_)
    · rw [if_neg c3] at h
      exact at_vret rfl (by decide +kernel) h
    · rw [if_pos c3] at h
      refine at_aload_n (i := 0) 0 33 rfl (by decide +kernel) rfl ?_
      refine at_null 34 rfl (by decide +kernel) ?_
      refine at_putR (index := 13) cok6 4 37 rfl (by decide +kernel) k1 rfl (by decide +kernel) tw_786 rfl rfl (Or.inl ⟨_, rfl⟩) (fun m4 e5 => ?_)
      replace h := h m4 e5
      have x6 : Ext m m4 := by rw [e5]; exact Ext.sR _ (Or.inl (by rw [k1]; rfl))
      have k7 : mK m4 t = 7 := x6.k k1 (by decide)
      exact at_vret rfl (by decide +kernel) h
  · rw [if_pos c2] at h
    refine at_aload_n (i := 0) 0 9 rfl (by decide +kernel) rfl ?_
    refine at_aload_n (i := 0) 0 10 rfl (by decide +kernel) rfl ?_
    refine at_get (index := 13) (v := va_rf (mR m t 4)) cok6 4 13 rfl (by decide +kernel) k1 (by decide +kernel) tw_786 rfl ?_
    refine at_putR (index := 7) cok6 3 16 rfl (by decide +kernel) k1 rfl (by decide +kernel) tw_782 rfl rfl (Or.inl ⟨_, rfl⟩) (fun m8 e9 => ?_)
    replace h := h m8 e9
    have x10 : Ext m m8 := by rw [e9]; exact Ext.sR _ (Or.inl (by rw [k1]; rfl))
    have k11 : mK m8 t = 7 := x10.k k1 (by decide)
    refine at_aload_n (i := 0) 0 17 rfl (by decide +kernel) rfl ?_
    refine at_null 18 rfl (by decide +kernel) ?_
    refine at_putR (index := 13) cok6 4 21 rfl (by decide +kernel) k11 rfl (by decide +kernel) tw_786 rfl rfl (Or.inl ⟨_, rfl⟩) (fun m12 e13 => ?_)
    replace h := h m12 e13
    have x14 : Ext m8 m12 := by rw [e13]; exact Ext.sR _ (Or.inl (by rw [k11]; rfl))
    have k15 : mK m12 t = 7 := x14.k k11 (by decide)
    refine at_goto (off := 16) 37 (by decide +kernel) (by decide +kernel) ?_
    exact at_vret rfl (by decide +kernel) h
set_option maxRecDepth 20000 in
set_option maxHeartbeats 4000000 in
theorem en_Rows_init (g : Gc) {lv : Nat} {t : Nat} {m : Mm} {Q : Mm → Prop} (h : mK m (gz g + mC m) = 0 ∧ (∀ q2 m3, q2 = gz g + mC m → m3 = nw m q2 16 ((240 : Int32).toNatClampNeg) ((240 : Int32).toNatClampNeg) → (mK m3 t = 8 ∧ (mR m3 t 0 = none ∧ (∀ m10, m10 = sR m3 t 0 (some q2) → (mK m10 (gz g + mC m10) = 0 ∧ (∀ q17 m18, q17 = gz g + mC m10 → m18 = nw m10 q17 15 ((4 : Int32).toNatClampNeg) ((4 : Int32).toNatClampNeg) → (mR m18 t 1 = none ∧ (∀ m27, m27 = sR m18 t 1 (some q17) → (mK m27 (gz g + mC m27) = 0 ∧ (∀ q36 m37, q36 = gz g + mC m27 → m37 = nw m27 q36 15 ((4 : Int32).toNatClampNeg) ((4 : Int32).toNatClampNeg) → (mR m37 t 2 = none ∧ (∀ m48, m48 = sR m37 t 2 (some q36) → (CV g M_Arrays_fill lv [va_rf (some q36), .int ((-1 : Int32))] m48 (fun m58 => (Q m58)))))))))))))))) : CV g M_Rows_init (lv + 1) [va_rf (some t)] m Q := by
  refine Call.of (by decide +kernel) (Nat.le_of_ble_eq_true rfl) ?_
  show At g M_Rows_init (lv + 1) 0 [(0, va_rf (some t))] [] m (QV Q)
  refine at_aload_n (i := 0) 0 1 rfl (by decide +kernel) rfl ?_
  refine at_objInit 4 rfl (by decide +kernel) tw_421 tw_91 tw_92 (by decide) ?_
  refine at_aload_n (i := 0) 0 5 rfl (by decide +kernel) rfl ?_
  refine at_sipush (n := 240) (240 : Int32) 8 rfl (by decide +kernel) (by decide +kernel) ?_
  obtain ⟨z1, h⟩ := h
  refine at_newaJ 10 rfl z1 (by decide +kernel) tw_199 (by decide +kernel) (by decide +kernel) (fun q2 m3 e4 e5 => ?_)
  replace h := h q2 m3 e4 e5
  have x6 : Ext m m3 := by rw [e5, e4]; exact Ext.nw z1 _ _ _
  have k7 : mK m3 q2 = 16 := by rw [e5]; exact if_pos rfl
  obtain ⟨k8, h⟩ := h
  obtain ⟨n9, h⟩ := h
  refine at_putRF (index := 9) cok7 0 13 rfl (by decide +kernel) k8 n9 (by decide +kernel) tw_425 rfl rfl rfl rfl (Or.inr ⟨_, rfl⟩) (fun m10 e11 => ?_)
  replace h := h m10 e11
  have x12 : Ext m3 m10 := by rw [e11]; exact Ext.sR _ (Or.inr n9)
  have k13 : mK m10 q2 = 16 := x12.k k7 (by decide)
  have k14 : mK m10 t = 8 := x12.k k8 (by decide)
  have e15 : mR m10 t 0 = some q2 := by rw [e11]; simp [mR, sR, up2]
  refine at_aload_n (i := 0) 0 14 rfl (by decide +kernel) rfl ?_
  refine at_iconst (n := 4) (4 : Int32) 15 rfl (by decide +kernel) (by decide +kernel) ?_
  obtain ⟨z16, h⟩ := h
  refine at_newaI 17 rfl z16 (by decide +kernel) tw_265 (by decide +kernel) (by decide +kernel) (fun q17 m18 e19 e20 => ?_)
  replace h := h q17 m18 e19 e20
  have x21 : Ext m10 m18 := by rw [e20, e19]; exact Ext.nw z16 _ _ _
  have k22 : mK m18 q2 = 16 := x21.k k13 (by decide)
  have k23 : mK m18 t = 8 := x21.k k14 (by decide)
  have e24 : mR m18 t 0 = some q2 := x21.r k14 (by decide) rfl e15
  have k25 : mK m18 q17 = 15 := by rw [e20]; exact if_pos rfl
  obtain ⟨n26, h⟩ := h
  refine at_putRF (index := 15) cok7 1 20 rfl (by decide +kernel) k23 n26 (by decide +kernel) tw_426 rfl rfl rfl rfl (Or.inr ⟨_, rfl⟩) (fun m27 e28 => ?_)
  replace h := h m27 e28
  have x29 : Ext m18 m27 := by rw [e28]; exact Ext.sR _ (Or.inr n26)
  have k30 : mK m27 q2 = 16 := x29.k k22 (by decide)
  have k31 : mK m27 t = 8 := x29.k k23 (by decide)
  have k32 : mK m27 q17 = 15 := x29.k k25 (by decide)
  have e33 : mR m27 t 0 = some q2 := x29.r k23 (by decide) rfl e24
  have e34 : mR m27 t 1 = some q17 := by rw [e28]; simp [mR, sR, up2]
  refine at_aload_n (i := 0) 0 21 rfl (by decide +kernel) rfl ?_
  refine at_iconst (n := 4) (4 : Int32) 22 rfl (by decide +kernel) (by decide +kernel) ?_
  obtain ⟨z35, h⟩ := h
  refine at_newaI 24 rfl z35 (by decide +kernel) tw_265 (by decide +kernel) (by decide +kernel) (fun q36 m37 e38 e39 => ?_)
  replace h := h q36 m37 e38 e39
  have x40 : Ext m27 m37 := by rw [e39, e38]; exact Ext.nw z35 _ _ _
  have k41 : mK m37 q2 = 16 := x40.k k30 (by decide)
  have k42 : mK m37 t = 8 := x40.k k31 (by decide)
  have k43 : mK m37 q17 = 15 := x40.k k32 (by decide)
  have e44 : mR m37 t 0 = some q2 := x40.r k31 (by decide) rfl e33
  have e45 : mR m37 t 1 = some q17 := x40.r k31 (by decide) rfl e34
  have k46 : mK m37 q36 = 15 := by rw [e39]; exact if_pos rfl
  obtain ⟨n47, h⟩ := h
  refine at_putRF (index := 19) cok7 2 27 rfl (by decide +kernel) k42 n47 (by decide +kernel) tw_428 rfl rfl rfl rfl (Or.inr ⟨_, rfl⟩) (fun m48 e49 => ?_)
  replace h := h m48 e49
  have x50 : Ext m37 m48 := by rw [e49]; exact Ext.sR _ (Or.inr n47)
  have k51 : mK m48 q2 = 16 := x50.k k41 (by decide)
  have k52 : mK m48 t = 8 := x50.k k42 (by decide)
  have k53 : mK m48 q17 = 15 := x50.k k43 (by decide)
  have k54 : mK m48 q36 = 15 := x50.k k46 (by decide)
  have e55 : mR m48 t 0 = some q2 := x50.r k42 (by decide) rfl e44
  have e56 : mR m48 t 1 = some q17 := x50.r k42 (by decide) rfl e45
  have e57 : mR m48 t 2 = some q36 := by rw [e49]; simp [mR, sR, up2]
  refine at_aload_n (i := 0) 0 28 rfl (by decide +kernel) rfl ?_
  refine at_get (index := 19) (v := va_rf (mR m48 t 2)) cok7 2 31 rfl (by decide +kernel) k52 (by decide +kernel) tw_428 rfl ?_
  rw [e57]
  refine at_iconst (n := (-1)) (-1 : Int32) 32 rfl (by decide +kernel) (by decide +kernel) ?_
  refine at_callS mb_Arrays_fill tw_423 (index := 22) tw_422 [va_rf (some q36), .int ((-1 : Int32))] [] rfl rfl (by decide) 35 rfl (by decide +kernel) (Call.toV (CV.monoE h (fun m58 h y59 => ?_)))
  have k60 : mK m58 q2 = 16 := y59.k k51 (by decide)
  have k61 : mK m58 t = 8 := y59.k k52 (by decide)
  have k62 : mK m58 q17 = 15 := y59.k k53 (by decide)
  have k63 : mK m58 q36 = 15 := y59.k k54 (by decide)
  have e64 : mR m58 t 0 = some q2 := y59.r k52 (by decide) rfl e55
  have e65 : mR m58 t 1 = some q17 := y59.r k52 (by decide) rfl e56
  have e66 : mR m58 t 2 = some q36 := y59.r k52 (by decide) rfl e57
  exact at_vret rfl (by decide +kernel) h
set_option maxRecDepth 20000 in
set_option maxHeartbeats 4000000 in
theorem en_Rows_hasRow (g : Gc) {lv : Nat} {t : Nat} {l1 : Int32} {m : Mm} {Q : Int32 → Mm → Prop} (h : CI g M_SL_isWithin lv [.int (l1), .int ((0 : Int32)), .int ((3 : Int32))] m (fun x1 m2 => (if (x1) = 0 then (Q (0 : Int32) m2) else (mK m2 t = 8 ∧ (∃ b6, mR m2 t 2 = some b6 ∧ (mK m2 b6 = 15 ∧ (vp_in l1 (mN m2 b6) ∧ (if (mI m2 b6 l1.toNatClampNeg) = ((-1 : Int32)) then (Q (0 : Int32) m2) else (Q (1 : Int32) m2))))))))) : CI g M_Rows_hasRow (lv + 1) [va_rf (some t), .int (l1)] m Q := by
  refine Call.of (by decide +kernel) (Nat.le_of_ble_eq_true rfl) ?_
  show At g M_Rows_hasRow (lv + 1) 0 [(0, va_rf (some t)), (1, .int (l1))] [] m (QI Q)
  refine at_iload_n (i := 1) 1 1 rfl (by decide +kernel) rfl ?_
  refine at_iconst (n := 0) (0 : Int32) 2 rfl (by decide +kernel) (by decide +kernel) ?_
  refine at_iconst (n := 3) (3 : Int32) 3 rfl (by decide +kernel) (by decide +kernel) ?_
  refine at_callSN mb_SL_isWithin tw_471 (index := 28) (host := "SurplusLand") (by decide +kernel) [.int (l1), .int ((0 : Int32)), .int ((3 : Int32))] [] rfl rfl (by decide) 6 rfl (by decide +kernel) (Call.toI (CI.monoE h (fun x1 m2 h y3 => ?_)))
  refine at_if_eq (off := 17) 23 9 rfl (by decide +kernel) (by decide +kernel) (fun c4 => ?_) (fun c4 => ?_)
  · rw [if_pos c4] at h
    refine at_iconst (n := 0) (0 : Int32) 24 rfl (by decide +kernel) (by decide +kernel) ?_
    exact at_zret rfl (by decide +kernel) (Or.inl rfl) h
  · rw [if_neg c4] at h
    refine at_aload_n (i := 0) 0 10 rfl (by decide +kernel) rfl ?_
    obtain ⟨k5, h⟩ := h
    refine at_get (index := 19) (v := va_rf (mR m2 t 2)) cok7 2 13 rfl (by decide +kernel) k5 (by decide +kernel) tw_428 rfl ?_
    obtain ⟨b6, e7, h⟩ := h
    rw [e7]
    refine at_iload_n (i := 1) 1 14 rfl (by decide +kernel) rfl ?_
    obtain ⟨k8, h⟩ := h
    obtain ⟨v9, h⟩ := h
    refine at_iald 15 rfl (by decide +kernel) k8 v9 ?_
    refine at_iconst (n := (-1)) (-1 : Int32) 16 rfl (by decide +kernel) (by decide +kernel) ?_
    refine at_icmp_eq (off := 7) 23 19 rfl (by decide +kernel) (by decide +kernel) (fun c10 => ?_) (fun c10 => ?_)
    · rw [if_pos c10] at h
      refine at_iconst (n := 0) (0 : Int32) 24 rfl (by decide +kernel) (by decide +kernel) ?_
      exact at_zret rfl (by decide +kernel) (Or.inl rfl) h
    · rw [if_neg c10] at h
      refine at_iconst (n := 1) (1 : Int32) 20 rfl (by decide +kernel) (by decide +kernel) ?_
      refine at_goto (off := 4) 24 (by decide +kernel) (by decide +kernel) ?_
      exact at_zret rfl (by decide +kernel) (Or.inr rfl) h
set_option maxRecDepth 20000 in
set_option maxHeartbeats 4000000 in
theorem en_Rows_holds (g : Gc) {lv : Nat} {t : Nat} {l1 : Int32} {l2 : Int32} {l3 : Int32} {m : Mm} {Q : Int32 → Mm → Prop} (h : if (l2) < 0 then (Q (0 : Int32) m) else (if (l3) < 0 then (Q (0 : Int32) m) else (mK m t = 8 ∧ (∃ b4, mR m t 2 = some b4 ∧ (mK m b4 = 15 ∧ (vp_in l1 (mN m b4) ∧ (if ((mI m b4 l1.toNatClampNeg).toInt64) < (l2.toInt64 + l3.toInt64) then (Q (0 : Int32) m) else (Q (1 : Int32) m)))))))) : CI g M_Rows_holds (lv + 1) [va_rf (some t), .int (l1), .int (l2), .int (l3)] m Q := by
  refine Call.of (by decide +kernel) (Nat.le_of_ble_eq_true rfl) ?_
  show At g M_Rows_holds (lv + 1) 0 [(0, va_rf (some t)), (1, .int (l1)), (2, .int (l2)), (3, .int (l3))] [] m (QI Q)
  refine at_iload_n (i := 2) 2 1 rfl (by decide +kernel) rfl ?_
  refine at_if_lt (off := 27) 28 4 rfl (by decide +kernel) (by decide +kernel) (fun c1 => ?_) (fun c1 => ?_)
  · rw [if_pos c1] at h
    refine at_iconst (n := 0) (0 : Int32) 29 rfl (by decide +kernel) (by decide +kernel) ?_
    exact at_zret rfl (by decide +kernel) (Or.inl rfl) h
  · rw [if_neg c1] at h
    refine at_iload_n (i := 3) 3 5 rfl (by decide +kernel) rfl ?_
    refine at_if_lt (off := 23) 28 8 rfl (by decide +kernel) (by decide +kernel) (fun c2 => ?_) (fun c2 => ?_)
    · rw [if_pos c2] at h
      refine at_iconst (n := 0) (0 : Int32) 29 rfl (by decide +kernel) (by decide +kernel) ?_
      exact at_zret rfl (by decide +kernel) (Or.inl rfl) h
    · rw [if_neg c2] at h
      refine at_iload_n (i := 2) 2 9 rfl (by decide +kernel) rfl ?_
      refine at_i2l 10 rfl (by decide +kernel) ?_
      refine at_iload_n (i := 3) 3 11 rfl (by decide +kernel) rfl ?_
      refine at_i2l 12 rfl (by decide +kernel) ?_
      refine at_ladd 13 rfl (by decide +kernel) ?_
      refine at_aload_n (i := 0) 0 14 rfl (by decide +kernel) rfl ?_
      obtain ⟨k3, h⟩ := h
      refine at_get (index := 19) (v := va_rf (mR m t 2)) cok7 2 17 rfl (by decide +kernel) k3 (by decide +kernel) tw_428 rfl ?_
      obtain ⟨b4, e5, h⟩ := h
      rw [e5]
      refine at_iload_n (i := 1) 1 18 rfl (by decide +kernel) rfl ?_
      obtain ⟨k6, h⟩ := h
      obtain ⟨v7, h⟩ := h
      refine at_iald 19 rfl (by decide +kernel) k6 v7 ?_
      refine at_i2l 20 rfl (by decide +kernel) ?_
      refine at_lif_gt (off := 7) 21 28 24 rfl rfl (by decide +kernel) (by decide +kernel) (by decide +kernel) (fun c8 => ?_) (fun c8 => ?_)
      · rw [if_pos c8] at h
        refine at_iconst (n := 0) (0 : Int32) 29 rfl (by decide +kernel) (by decide +kernel) ?_
        exact at_zret rfl (by decide +kernel) (Or.inl rfl) h
      · rw [if_neg c8] at h
        refine at_iconst (n := 1) (1 : Int32) 25 rfl (by decide +kernel) (by decide +kernel) ?_
        refine at_goto (off := 4) 29 (by decide +kernel) (by decide +kernel) ?_
        exact at_zret rfl (by decide +kernel) (Or.inr rfl) h
set_option maxRecDepth 20000 in
set_option maxHeartbeats 4000000 in
theorem bk_Rows_filledSlots_4 (g : Gc) {lv : Nat} {t : Nat} {l1 : Int32} {l2 : Int32} {m : Mm} {Q : Int32 → Mm → Prop} (h : if ((4 : Int32)) ≤ (l2) then (Q l1 m) else (mK m t = 8 ∧ (∃ b3, mR m t 2 = some b3 ∧ (mK m b3 = 15 ∧ (vp_in l2 (mN m b3) ∧ (if (mI m b3 l2.toNatClampNeg) = ((-1 : Int32)) then (At g M_Rows_filledSlots (lv + 1) 4 [(0, va_rf (some t)), (1, .int (l1)), (2, .int (l2 + (1 : Int32)))] [] m (QI Q)) else (At g M_Rows_filledSlots (lv + 1) 4 [(0, va_rf (some t)), (1, .int (l1 + (1 : Int32))), (2, .int (l2 + (1 : Int32)))] [] m (QI Q)))))))) : At g M_Rows_filledSlots (lv + 1) 4 [(0, va_rf (some t)), (1, .int (l1)), (2, .int (l2))] [] m (QI Q) := by
  refine at_iload_n (i := 2) 2 5 rfl (by decide +kernel) rfl ?_
  refine at_iconst (n := 4) (4 : Int32) 6 rfl (by decide +kernel) (by decide +kernel) ?_
  refine at_icmp_ge (off := 22) 28 9 rfl (by decide +kernel) (by decide +kernel) (fun c1 => ?_) (fun c1 => ?_)
  · rw [if_pos c1] at h
    refine at_iload_n (i := 1) 1 29 rfl (by decide +kernel) rfl ?_
    exact at_iret rfl (by decide +kernel) h
  · rw [if_neg c1] at h
    refine at_aload_n (i := 0) 0 10 rfl (by decide +kernel) rfl ?_
    obtain ⟨k2, h⟩ := h
    refine at_get (index := 19) (v := va_rf (mR m t 2)) cok7 2 13 rfl (by decide +kernel) k2 (by decide +kernel) tw_428 rfl ?_
    obtain ⟨b3, e4, h⟩ := h
    rw [e4]
    refine at_iload_n (i := 2) 2 14 rfl (by decide +kernel) rfl ?_
    obtain ⟨k5, h⟩ := h
    obtain ⟨v6, h⟩ := h
    refine at_iald 15 rfl (by decide +kernel) k5 v6 ?_
    refine at_iconst (n := (-1)) (-1 : Int32) 16 rfl (by decide +kernel) (by decide +kernel) ?_
    refine at_icmp_eq (off := 6) 22 19 rfl (by decide +kernel) (by decide +kernel) (fun c7 => ?_) (fun c7 => ?_)
    · rw [if_pos c7] at h
      refine at_iinc (i := 2) (n := 1) (lc' := [(0, va_rf (some t)), (1, .int (l1)), (2, .int (l2 + (1 : Int32)))]) (l2 + (1 : Int32)) 2 [1, 2, 0] 25 rfl (by decide +kernel) rfl (by rw [show Int32.ofInt 1 = (1 : Int32) from by decide +kernel]) (by decide +kernel) rfl ?_
      refine at_goto (off := (-21)) 4 (by decide +kernel) (by decide +kernel) ?_
      exact h
    · rw [if_neg c7] at h
      refine at_iinc (i := 1) (n := 1) (lc' := [(0, va_rf (some t)), (1, .int (l1 + (1 : Int32))), (2, .int (l2))]) (l1 + (1 : Int32)) 1 [1, 0, 2] 22 rfl (by decide +kernel) rfl (by rw [show Int32.ofInt 1 = (1 : Int32) from by decide +kernel]) (by decide +kernel) rfl ?_
      refine at_iinc (i := 2) (n := 1) (lc' := [(0, va_rf (some t)), (1, .int (l1 + (1 : Int32))), (2, .int (l2 + (1 : Int32)))]) (l2 + (1 : Int32)) 2 [1, 2, 0] 25 rfl (by decide +kernel) rfl (by rw [show Int32.ofInt 1 = (1 : Int32) from by decide +kernel]) (by decide +kernel) rfl ?_
      refine at_goto (off := (-21)) 4 (by decide +kernel) (by decide +kernel) ?_
      exact h
set_option maxRecDepth 20000 in
set_option maxHeartbeats 4000000 in
theorem en_Rows_filledSlots (g : Gc) {lv : Nat} {t : Nat} {m : Mm} {Q : Int32 → Mm → Prop} (h : At g M_Rows_filledSlots (lv + 1) 4 [(0, va_rf (some t)), (1, .int ((0 : Int32))), (2, .int ((0 : Int32)))] [] m (QI Q)) : CI g M_Rows_filledSlots (lv + 1) [va_rf (some t)] m Q := by
  refine Call.of (by decide +kernel) (Nat.le_of_ble_eq_true rfl) ?_
  show At g M_Rows_filledSlots (lv + 1) 0 [(0, va_rf (some t))] [] m (QI Q)
  refine at_iconst (n := 0) (0 : Int32) 1 rfl (by decide +kernel) (by decide +kernel) ?_
  refine at_istore_n (i := 1) (lc' := [(0, va_rf (some t)), (1, .int ((0 : Int32)))]) [1, 0] 2 rfl (by decide +kernel) (by decide +kernel) rfl ?_
  refine at_iconst (n := 0) (0 : Int32) 3 rfl (by decide +kernel) (by decide +kernel) ?_
  refine at_istore_n (i := 2) (lc' := [(0, va_rf (some t)), (1, .int ((0 : Int32))), (2, .int ((0 : Int32)))]) [1, 2, 0] 4 rfl (by decide +kernel) (by decide +kernel) rfl ?_
  exact h
set_option maxRecDepth 20000 in
set_option maxHeartbeats 4000000 in
theorem bk_Rows_lay_17 (g : Gc) {lv : Nat} {t : Nat} {l1 : Int32} {l3 : Int32} {l4 : Int32} {m : Mm} {Q : Mm → Prop} (h : if (l3) ≤ (l4) then (Q m) else (if ((60 : Int32)) ≤ (l4) then (Q m) else (mK m t = 8 ∧ (∃ b4, mR m t 0 = some b4 ∧ (mK m b4 = 16 ∧ (vp_in ((l1 * (60 : Int32)) + l4) (mN m b4) ∧ (∀ m8, m8 = sL m b4 ((l1 * (60 : Int32)) + l4).toNatClampNeg (0 : Int64) → (At g M_Rows_lay (lv + 1) 17 [(0, va_rf (some t)), (1, .int (l1)), (3, .int (l3)), (4, .int (l4 + (1 : Int32)))] [] m8 (QV Q))))))))) : At g M_Rows_lay (lv + 1) 17 [(0, va_rf (some t)), (1, .int (l1)), (3, .int (l3)), (4, .int (l4))] [] m (QV Q) := by
  refine at_iload (i := 4) 3 19 rfl (by decide +kernel) rfl ?_
  refine at_iload_n (i := 3) 2 20 rfl (by decide +kernel) rfl ?_
  refine at_icmp_ge (off := 29) 49 23 rfl (by decide +kernel) (by decide +kernel) (fun c1 => ?_) (fun c1 => ?_)
  · rw [if_pos c1] at h
    exact at_vret rfl (by decide +kernel) h
  · rw [if_neg c1] at h
    refine at_iload (i := 4) 3 25 rfl (by decide +kernel) rfl ?_
    refine at_bipush (n := 60) (60 : Int32) 27 rfl (by decide +kernel) (by decide +kernel) ?_
    refine at_icmp_ge (off := 22) 49 30 rfl (by decide +kernel) (by decide +kernel) (fun c2 => ?_) (fun c2 => ?_)
    · rw [if_pos c2] at h
      exact at_vret rfl (by decide +kernel) h
    · rw [if_neg c2] at h
      refine at_aload_n (i := 0) 0 31 rfl (by decide +kernel) rfl ?_
      obtain ⟨k3, h⟩ := h
      refine at_get (index := 9) (v := va_rf (mR m t 0)) cok7 0 34 rfl (by decide +kernel) k3 (by decide +kernel) tw_425 rfl ?_
      obtain ⟨b4, e5, h⟩ := h
      rw [e5]
      refine at_iload_n (i := 1) 1 35 rfl (by decide +kernel) rfl ?_
      refine at_bipush (n := 60) (60 : Int32) 37 rfl (by decide +kernel) (by decide +kernel) ?_
      refine at_imul 38 rfl (by decide +kernel) ?_
      refine at_iload (i := 4) 3 40 rfl (by decide +kernel) rfl ?_
      refine at_iadd 41 rfl (by decide +kernel) ?_
      refine at_lconst (n := 0) (0 : Int64) 42 rfl (by decide +kernel) (by decide +kernel) ?_
      obtain ⟨k6, h⟩ := h
      obtain ⟨v7, h⟩ := h
      refine at_last 43 rfl (by decide +kernel) k6 v7 (fun m8 e9 => ?_)
      replace h := h m8 e9
      have x10 : Ext m m8 := by rw [e9]; exact Ext.sL _ _ _ _
      have k11 : mK m8 t = 8 := x10.k k3 (by decide)
      have k12 : mK m8 b4 = 16 := x10.k k6 (by decide)
      have e13 : mR m8 t 0 = some b4 := x10.r k3 (by decide) rfl e5
      refine at_iinc (i := 4) (n := 1) (lc' := [(0, va_rf (some t)), (1, .int (l1)), (3, .int (l3)), (4, .int (l4 + (1 : Int32)))]) (l4 + (1 : Int32)) 3 [1, 2, 3, 0] 46 rfl (by decide +kernel) rfl (by rw [show Int32.ofInt 1 = (1 : Int32) from by decide +kernel]) (by decide +kernel) rfl ?_
      refine at_goto (off := (-29)) 17 (by decide +kernel) (by decide +kernel) ?_
      exact h
set_option maxRecDepth 20000 in
set_option maxHeartbeats 4000000 in
theorem en_Rows_lay (g : Gc) {lv : Nat} {t : Nat} {l1 : Int32} {l2 : Int32} {l3 : Int32} {m : Mm} {Q : Mm → Prop} (h : mK m t = 8 ∧ (∃ b2, mR m t 1 = some b2 ∧ (mK m b2 = 15 ∧ (vp_in l1 (mN m b2) ∧ (∀ m6, m6 = sI m b2 l1.toNatClampNeg l2 → (∃ b12, mR m6 t 2 = some b12 ∧ (mK m6 b12 = 15 ∧ (vp_in l1 (mN m6 b12) ∧ (∀ m16, m16 = sI m6 b12 l1.toNatClampNeg l3 → (At g M_Rows_lay (lv + 1) 17 [(0, va_rf (some t)), (1, .int (l1)), (3, .int (l3)), (4, .int ((0 : Int32)))] [] m16 (QV Q))))))))))) : CV g M_Rows_lay (lv + 1) [va_rf (some t), .int (l1), .int (l2), .int (l3)] m Q := by
  refine Call.of (by decide +kernel) (Nat.le_of_ble_eq_true rfl) ?_
  show At g M_Rows_lay (lv + 1) 0 [(0, va_rf (some t)), (1, .int (l1)), (2, .int (l2)), (3, .int (l3))] [] m (QV Q)
  refine at_aload_n (i := 0) 0 1 rfl (by decide +kernel) rfl ?_
  obtain ⟨k1, h⟩ := h
  refine at_get (index := 15) (v := va_rf (mR m t 1)) cok7 1 4 rfl (by decide +kernel) k1 (by decide +kernel) tw_426 rfl ?_
  obtain ⟨b2, e3, h⟩ := h
  rw [e3]
  refine at_iload_n (i := 1) 1 5 rfl (by decide +kernel) rfl ?_
  refine at_iload_n (i := 2) 2 6 rfl (by decide +kernel) rfl ?_
  obtain ⟨k4, h⟩ := h
  obtain ⟨v5, h⟩ := h
  refine at_iast 7 rfl (by decide +kernel) k4 v5 (fun m6 e7 => ?_)
  replace h := h m6 e7
  have x8 : Ext m m6 := by rw [e7]; exact Ext.sI _ _ _ _
  have k9 : mK m6 t = 8 := x8.k k1 (by decide)
  have k10 : mK m6 b2 = 15 := x8.k k4 (by decide)
  have e11 : mR m6 t 1 = some b2 := x8.r k1 (by decide) rfl e3
  refine at_aload_n (i := 0) 0 8 rfl (by decide +kernel) rfl ?_
  refine at_get (index := 19) (v := va_rf (mR m6 t 2)) cok7 2 11 rfl (by decide +kernel) k9 (by decide +kernel) tw_428 rfl ?_
  obtain ⟨b12, e13, h⟩ := h
  rw [e13]
  refine at_iload_n (i := 1) 1 12 rfl (by decide +kernel) rfl ?_
  refine at_iload_n (i := 3) 3 13 rfl (by decide +kernel) rfl ?_
  obtain ⟨k14, h⟩ := h
  obtain ⟨v15, h⟩ := h
  refine at_iast 14 rfl (by decide +kernel) k14 v15 (fun m16 e17 => ?_)
  replace h := h m16 e17
  have x18 : Ext m6 m16 := by rw [e17]; exact Ext.sI _ _ _ _
  have k19 : mK m16 t = 8 := x18.k k9 (by decide)
  have k20 : mK m16 b2 = 15 := x18.k k10 (by decide)
  have k21 : mK m16 b12 = 15 := x18.k k14 (by decide)
  have e22 : mR m16 t 1 = some b2 := x18.r k9 (by decide) rfl e11
  have e23 : mR m16 t 2 = some b12 := x18.r k9 (by decide) rfl e13
  refine at_iconst (n := 0) (0 : Int32) 15 rfl (by decide +kernel) (by decide +kernel) ?_
  refine at_istore (i := 4) (lc' := [(0, va_rf (some t)), (1, .int (l1)), (3, .int (l3)), (4, .int ((0 : Int32)))]) [1, 2, 4, 0] 17 rfl (by decide +kernel) (by decide +kernel) rfl ?_
  exact h
set_option maxRecDepth 20000 in
set_option maxHeartbeats 4000000 in
theorem en_Rows_numberAt (g : Gc) {lv : Nat} {t : Nat} {l1 : Int32} {l2 : Int32} {m : Mm} {Q : Int64 → Mm → Prop} (h : mK m t = 8 ∧ (∃ b2, mR m t 0 = some b2 ∧ (mK m b2 = 16 ∧ (vp_in ((l1 * (60 : Int32)) + l2) (mN m b2) ∧ (Q (mL m b2 ((l1 * (60 : Int32)) + l2).toNatClampNeg) m))))) : CJ g M_Rows_numberAt (lv + 1) [va_rf (some t), .int (l1), .int (l2)] m Q := by
  refine Call.of (by decide +kernel) (Nat.le_of_ble_eq_true rfl) ?_
  show At g M_Rows_numberAt (lv + 1) 0 [(0, va_rf (some t)), (1, .int (l1)), (2, .int (l2))] [] m (QJ Q)
  refine at_aload_n (i := 0) 0 1 rfl (by decide +kernel) rfl ?_
  obtain ⟨k1, h⟩ := h
  refine at_get (index := 9) (v := va_rf (mR m t 0)) cok7 0 4 rfl (by decide +kernel) k1 (by decide +kernel) tw_425 rfl ?_
  obtain ⟨b2, e3, h⟩ := h
  rw [e3]
  refine at_iload_n (i := 1) 1 5 rfl (by decide +kernel) rfl ?_
  refine at_bipush (n := 60) (60 : Int32) 7 rfl (by decide +kernel) (by decide +kernel) ?_
  refine at_imul 8 rfl (by decide +kernel) ?_
  refine at_iload_n (i := 2) 2 9 rfl (by decide +kernel) rfl ?_
  refine at_iadd 10 rfl (by decide +kernel) ?_
  obtain ⟨k4, h⟩ := h
  obtain ⟨v5, h⟩ := h
  refine at_lald 11 rfl (by decide +kernel) k4 v5 ?_
  exact at_lret rfl (by decide +kernel) h
set_option maxRecDepth 20000 in
set_option maxHeartbeats 4000000 in
theorem en_Rows_set (g : Gc) {lv : Nat} {t : Nat} {l1 : Int32} {l2 : Int32} {l3 : Int64} {m : Mm} {Q : Mm → Prop} (h : mK m t = 8 ∧ (∃ b2, mR m t 1 = some b2 ∧ (mK m b2 = 15 ∧ (vp_in l1 (mN m b2) ∧ (if (mI m b2 l1.toNatClampNeg) = (0 : Int32) then (∃ b8, mR m t 0 = some b8 ∧ (mK m b8 = 16 ∧ (vp_in ((l1 * (60 : Int32)) + l2) (mN m b8) ∧ (∀ m12, m12 = sL m b8 ((l1 * (60 : Int32)) + l2).toNatClampNeg l3.toInt32.toInt8.toInt32.toInt64 → (Q m12))))) else (if (mI m b2 l1.toNatClampNeg) = (1 : Int32) then (∃ b21, mR m t 0 = some b21 ∧ (mK m b21 = 16 ∧ (vp_in ((l1 * (60 : Int32)) + l2) (mN m b21) ∧ (∀ m25, m25 = sL m b21 ((l1 * (60 : Int32)) + l2).toNatClampNeg l3.toInt32.toInt16.toInt32.toInt64 → (Q m25))))) else (if (mI m b2 l1.toNatClampNeg) = (2 : Int32) then (∃ b34, mR m t 0 = some b34 ∧ (mK m b34 = 16 ∧ (vp_in ((l1 * (60 : Int32)) + l2) (mN m b34) ∧ (∀ m38, m38 = sL m b34 ((l1 * (60 : Int32)) + l2).toNatClampNeg l3.toInt32.toInt64 → (Q m38))))) else (∃ b46, mR m t 0 = some b46 ∧ (mK m b46 = 16 ∧ (vp_in ((l1 * (60 : Int32)) + l2) (mN m b46) ∧ (∀ m50, m50 = sL m b46 ((l1 * (60 : Int32)) + l2).toNatClampNeg l3 → (Q m50)))))))))))) : CV g M_Rows_set (lv + 1) [va_rf (some t), .int (l1), .int (l2), .long (l3)] m Q := by
  refine Call.of (by decide +kernel) (Nat.le_of_ble_eq_true rfl) ?_
  show At g M_Rows_set (lv + 1) 0 [(0, va_rf (some t)), (1, .int (l1)), (2, .int (l2)), (3, .long (l3))] [] m (QV Q)
  refine at_iload_n (i := 1) 1 1 rfl (by decide +kernel) rfl ?_
  refine at_bipush (n := 60) (60 : Int32) 3 rfl (by decide +kernel) (by decide +kernel) ?_
  refine at_imul 4 rfl (by decide +kernel) ?_
  refine at_iload_n (i := 2) 2 5 rfl (by decide +kernel) rfl ?_
  refine at_iadd 6 rfl (by decide +kernel) ?_
  refine at_istore (i := 5) (lc' := [(0, va_rf (some t)), (1, .int (l1)), (3, .long (l3)), (5, .int ((l1 * (60 : Int32)) + l2))]) [1, 2, 4, 0] 8 rfl (by decide +kernel) (by decide +kernel) rfl ?_
  refine at_aload_n (i := 0) 0 9 rfl (by decide +kernel) rfl ?_
  obtain ⟨k1, h⟩ := h
  refine at_get (index := 15) (v := va_rf (mR m t 1)) cok7 1 12 rfl (by decide +kernel) k1 (by decide +kernel) tw_426 rfl ?_
  obtain ⟨b2, e3, h⟩ := h
  rw [e3]
  refine at_iload_n (i := 1) 1 13 rfl (by decide +kernel) rfl ?_
  obtain ⟨k4, h⟩ := h
  obtain ⟨v5, h⟩ := h
  refine at_iald 14 rfl (by decide +kernel) k4 v5 ?_
  by_cases c7 : (mI m b2 l1.toNatClampNeg) = (0 : Int32)
  · rw [if_pos c7] at h
    have w6 : (mI m b2 l1.toNatClampNeg).toInt = 0 := by rw [c7]; decide +kernel
    refine at_tabIn (dflt := 67) (lo := 0) (hi := 2) (offs := #[26, 40, 54]) (len := 26) (off := 26) 40 (by decide +kernel) (by rw [w6]; decide) (by rw [w6]; decide) (by rw [w6]; decide +kernel) (by decide +kernel) ?_
    refine at_aload_n (i := 0) 0 41 rfl (by decide +kernel) rfl ?_
    refine at_get (index := 9) (v := va_rf (mR m t 0)) cok7 0 44 rfl (by decide +kernel) k1 (by decide +kernel) tw_425 rfl ?_
    obtain ⟨b8, e9, h⟩ := h
    rw [e9]
    refine at_iload (i := 5) 3 46 rfl (by decide +kernel) rfl ?_
    refine at_lload_n (i := 3) 2 47 rfl (by decide +kernel) rfl ?_
    refine at_l2i 48 rfl (by decide +kernel) ?_
    refine at_i2b 49 rfl (by decide +kernel) ?_
    refine at_i2l 50 rfl (by decide +kernel) ?_
    obtain ⟨k10, h⟩ := h
    obtain ⟨v11, h⟩ := h
    refine at_last 51 rfl (by decide +kernel) k10 v11 (fun m12 e13 => ?_)
    replace h := h m12 e13
    have x14 : Ext m m12 := by rw [e13]; exact Ext.sL _ _ _ _
    have k15 : mK m12 t = 8 := x14.k k1 (by decide)
    have k16 : mK m12 b2 = 15 := x14.k k4 (by decide)
    have k17 : mK m12 b8 = 16 := x14.k k10 (by decide)
    have e18 : mR m12 t 1 = some b2 := x14.r k1 (by decide) rfl e3
    have e19 : mR m12 t 0 = some b8 := x14.r k1 (by decide) rfl e9
    refine at_goto (off := 38) 89 (by decide +kernel) (by decide +kernel) ?_
    exact at_vret rfl (by decide +kernel) h
  rw [if_neg c7] at h
  by_cases c20 : (mI m b2 l1.toNatClampNeg) = (1 : Int32)
  · rw [if_pos c20] at h
    have w6 : (mI m b2 l1.toNatClampNeg).toInt = 1 := by rw [c20]; decide +kernel
    refine at_tabIn (dflt := 67) (lo := 0) (hi := 2) (offs := #[26, 40, 54]) (len := 26) (off := 40) 54 (by decide +kernel) (by rw [w6]; decide) (by rw [w6]; decide) (by rw [w6]; decide +kernel) (by decide +kernel) ?_
    refine at_aload_n (i := 0) 0 55 rfl (by decide +kernel) rfl ?_
    refine at_get (index := 9) (v := va_rf (mR m t 0)) cok7 0 58 rfl (by decide +kernel) k1 (by decide +kernel) tw_425 rfl ?_
    obtain ⟨b21, e22, h⟩ := h
    rw [e22]
    refine at_iload (i := 5) 3 60 rfl (by decide +kernel) rfl ?_
    refine at_lload_n (i := 3) 2 61 rfl (by decide +kernel) rfl ?_
    refine at_l2i 62 rfl (by decide +kernel) ?_
    refine at_i2s 63 rfl (by decide +kernel) ?_
    refine at_i2l 64 rfl (by decide +kernel) ?_
    obtain ⟨k23, h⟩ := h
    obtain ⟨v24, h⟩ := h
    refine at_last 65 rfl (by decide +kernel) k23 v24 (fun m25 e26 => ?_)
    replace h := h m25 e26
    have x27 : Ext m m25 := by rw [e26]; exact Ext.sL _ _ _ _
    have k28 : mK m25 t = 8 := x27.k k1 (by decide)
    have k29 : mK m25 b2 = 15 := x27.k k4 (by decide)
    have k30 : mK m25 b21 = 16 := x27.k k23 (by decide)
    have e31 : mR m25 t 1 = some b2 := x27.r k1 (by decide) rfl e3
    have e32 : mR m25 t 0 = some b21 := x27.r k1 (by decide) rfl e22
    refine at_goto (off := 24) 89 (by decide +kernel) (by decide +kernel) ?_
    exact at_vret rfl (by decide +kernel) h
  rw [if_neg c20] at h
  by_cases c33 : (mI m b2 l1.toNatClampNeg) = (2 : Int32)
  · rw [if_pos c33] at h
    have w6 : (mI m b2 l1.toNatClampNeg).toInt = 2 := by rw [c33]; decide +kernel
    refine at_tabIn (dflt := 67) (lo := 0) (hi := 2) (offs := #[26, 40, 54]) (len := 26) (off := 54) 68 (by decide +kernel) (by rw [w6]; decide) (by rw [w6]; decide) (by rw [w6]; decide +kernel) (by decide +kernel) ?_
    refine at_aload_n (i := 0) 0 69 rfl (by decide +kernel) rfl ?_
    refine at_get (index := 9) (v := va_rf (mR m t 0)) cok7 0 72 rfl (by decide +kernel) k1 (by decide +kernel) tw_425 rfl ?_
    obtain ⟨b34, e35, h⟩ := h
    rw [e35]
    refine at_iload (i := 5) 3 74 rfl (by decide +kernel) rfl ?_
    refine at_lload_n (i := 3) 2 75 rfl (by decide +kernel) rfl ?_
    refine at_l2i 76 rfl (by decide +kernel) ?_
    refine at_i2l 77 rfl (by decide +kernel) ?_
    obtain ⟨k36, h⟩ := h
    obtain ⟨v37, h⟩ := h
    refine at_last 78 rfl (by decide +kernel) k36 v37 (fun m38 e39 => ?_)
    replace h := h m38 e39
    have x40 : Ext m m38 := by rw [e39]; exact Ext.sL _ _ _ _
    have k41 : mK m38 t = 8 := x40.k k1 (by decide)
    have k42 : mK m38 b2 = 15 := x40.k k4 (by decide)
    have k43 : mK m38 b34 = 16 := x40.k k36 (by decide)
    have e44 : mR m38 t 1 = some b2 := x40.r k1 (by decide) rfl e3
    have e45 : mR m38 t 0 = some b34 := x40.r k1 (by decide) rfl e35
    refine at_goto (off := 11) 89 (by decide +kernel) (by decide +kernel) ?_
    exact at_vret rfl (by decide +kernel) h
  rw [if_neg c33] at h
  have c7e : (mI m b2 l1.toNatClampNeg).toInt ≠ 0 := fun e => c7 (Int32.toInt_inj.mp (e.trans (by decide +kernel)))
  have c20e : (mI m b2 l1.toNatClampNeg).toInt ≠ 1 := fun e => c20 (Int32.toInt_inj.mp (e.trans (by decide +kernel)))
  have c33e : (mI m b2 l1.toNatClampNeg).toInt ≠ 2 := fun e => c33 (Int32.toInt_inj.mp (e.trans (by decide +kernel)))
  refine at_tabOut (dflt := 67) (lo := 0) (hi := 2) (offs := #[26, 40, 54]) (len := 26) 81 (by decide +kernel) (by omega) (by decide +kernel) ?_
  refine at_aload_n (i := 0) 0 82 rfl (by decide +kernel) rfl ?_
  refine at_get (index := 9) (v := va_rf (mR m t 0)) cok7 0 85 rfl (by decide +kernel) k1 (by decide +kernel) tw_425 rfl ?_
  obtain ⟨b46, e47, h⟩ := h
  rw [e47]
  refine at_iload (i := 5) 3 87 rfl (by decide +kernel) rfl ?_
  refine at_lload_n (i := 3) 2 88 rfl (by decide +kernel) rfl ?_
  obtain ⟨k48, h⟩ := h
  obtain ⟨v49, h⟩ := h
  refine at_last 89 rfl (by decide +kernel) k48 v49 (fun m50 e51 => ?_)
  replace h := h m50 e51
  have x52 : Ext m m50 := by rw [e51]; exact Ext.sL _ _ _ _
  have k53 : mK m50 t = 8 := x52.k k1 (by decide)
  have k54 : mK m50 b2 = 15 := x52.k k4 (by decide)
  have k55 : mK m50 b46 = 16 := x52.k k48 (by decide)
  have e56 : mR m50 t 1 = some b2 := x52.r k1 (by decide) rfl e3
  have e57 : mR m50 t 0 = some b46 := x52.r k1 (by decide) rfl e47
  exact at_vret rfl (by decide +kernel) h
set_option maxRecDepth 20000 in
set_option maxHeartbeats 4000000 in
theorem en_Rows_carry (g : Gc) {lv : Nat} {t : Nat} {l1 : Int32} {l2 : Int32} {l3 : Int32} {l4 : Int32} {l5 : Int32} {m : Mm} {Q : Mm → Prop} (h : mK m t = 8 ∧ (∃ b2, mR m t 0 = some b2 ∧ (mK m b2 = 16 ∧ (¬ ((l1 * (60 : Int32)) + l2) < 0 ∧ ¬ ((l3 * (60 : Int32)) + l4) < 0 ∧ ¬ l5 < 0 ∧ ((l1 * (60 : Int32)) + l2).toNatClampNeg + l5.toNatClampNeg ≤ mN m b2 ∧ ((l3 * (60 : Int32)) + l4).toNatClampNeg + l5.toNatClampNeg ≤ mN m b2 ∧ (∀ m10, m10 = rL m b2 (va_cpy (mL m b2) (mL m b2) ((l1 * (60 : Int32)) + l2).toNatClampNeg ((l3 * (60 : Int32)) + l4).toNatClampNeg l5.toNatClampNeg) → (Q m10)))))) : CV g M_Rows_carry (lv + 1) [va_rf (some t), .int (l1), .int (l2), .int (l3), .int (l4), .int (l5)] m Q := by
  refine Call.of (by decide +kernel) (Nat.le_of_ble_eq_true rfl) ?_
  show At g M_Rows_carry (lv + 1) 0 [(0, va_rf (some t)), (1, .int (l1)), (2, .int (l2)), (3, .int (l3)), (4, .int (l4)), (5, .int (l5))] [] m (QV Q)
  refine at_aload_n (i := 0) 0 1 rfl (by decide +kernel) rfl ?_
  obtain ⟨k1, h⟩ := h
  refine at_get (index := 9) (v := va_rf (mR m t 0)) cok7 0 4 rfl (by decide +kernel) k1 (by decide +kernel) tw_425 rfl ?_
  obtain ⟨b2, e3, h⟩ := h
  rw [e3]
  refine at_iload_n (i := 1) 1 5 rfl (by decide +kernel) rfl ?_
  refine at_bipush (n := 60) (60 : Int32) 7 rfl (by decide +kernel) (by decide +kernel) ?_
  refine at_imul 8 rfl (by decide +kernel) ?_
  refine at_iload_n (i := 2) 2 9 rfl (by decide +kernel) rfl ?_
  refine at_iadd 10 rfl (by decide +kernel) ?_
  refine at_aload_n (i := 0) 0 11 rfl (by decide +kernel) rfl ?_
  refine at_get (index := 9) (v := va_rf (mR m t 0)) cok7 0 14 rfl (by decide +kernel) k1 (by decide +kernel) tw_425 rfl ?_
  rw [e3]
  refine at_iload_n (i := 3) 3 15 rfl (by decide +kernel) rfl ?_
  refine at_bipush (n := 60) (60 : Int32) 17 rfl (by decide +kernel) (by decide +kernel) ?_
  refine at_imul 18 rfl (by decide +kernel) ?_
  refine at_iload (i := 4) 4 20 rfl (by decide +kernel) rfl ?_
  refine at_iadd 21 rfl (by decide +kernel) ?_
  refine at_iload (i := 5) 5 23 rfl (by decide +kernel) rfl ?_
  obtain ⟨k4, h⟩ := h
  obtain ⟨c5, c6, c7, c8, c9, h⟩ := h
  refine at_copyL 26 rfl (by decide +kernel) tw_1078 tw_655 tw_654 tw_82 k4 k4 c5 c6 c7 c8 c9 (by decide) (fun m10 e11 => ?_)
  replace h := h m10 e11
  have x12 : Ext m m10 := by rw [e11]; exact Ext.rL _ _ _
  have k13 : mK m10 t = 8 := x12.k k1 (by decide)
  have k14 : mK m10 b2 = 16 := x12.k k4 (by decide)
  have e15 : mR m10 t 0 = some b2 := x12.r k1 (by decide) rfl e3
  exact at_vret rfl (by decide +kernel) h
set_option maxRecDepth 20000 in
set_option maxHeartbeats 4000000 in
theorem en_Store_init (g : Gc) {lv : Nat} {t : Nat} {m : Mm} {Q : Mm → Prop} (h : mK m (gz g + mC m) = 0 ∧ (∀ q2 m3, q2 = gz g + mC m → m3 = nw m q2 21 ((400 : Int32).toNatClampNeg) ((400 : Int32).toNatClampNeg) → (mK m3 t = 9 ∧ (mR m3 t 0 = none ∧ (∀ m10, m10 = sR m3 t 0 (some q2) → (Q m10)))))) : CV g M_Store_init (lv + 1) [va_rf (some t)] m Q := by
  refine Call.of (by decide +kernel) (Nat.le_of_ble_eq_true rfl) ?_
  show At g M_Store_init (lv + 1) 0 [(0, va_rf (some t))] [] m (QV Q)
  refine at_aload_n (i := 0) 0 1 rfl (by decide +kernel) rfl ?_
  refine at_objInit 4 rfl (by decide +kernel) tw_148 tw_91 tw_92 (by decide) ?_
  refine at_aload_n (i := 0) 0 5 rfl (by decide +kernel) rfl ?_
  refine at_sipush (n := 400) (400 : Int32) 8 rfl (by decide +kernel) (by decide +kernel) ?_
  obtain ⟨z1, h⟩ := h
  refine at_anewReceipt (index := 9) 11 rfl z1 (by decide +kernel) tw_149 (by decide +kernel) (by decide +kernel) (fun q2 m3 e4 e5 => ?_)
  replace h := h q2 m3 e4 e5
  have x6 : Ext m m3 := by rw [e5, e4]; exact Ext.nw z1 _ _ _
  have k7 : mK m3 q2 = 21 := by rw [e5]; exact if_pos rfl
  obtain ⟨k8, h⟩ := h
  obtain ⟨n9, h⟩ := h
  refine at_putRF (index := 11) cok8 0 14 rfl (by decide +kernel) k8 n9 (by decide +kernel) tw_151 rfl rfl rfl rfl (Or.inr ⟨_, rfl⟩) (fun m10 e11 => ?_)
  replace h := h m10 e11
  have x12 : Ext m3 m10 := by rw [e11]; exact Ext.sR _ (Or.inr n9)
  have k13 : mK m10 q2 = 21 := x12.k k7 (by decide)
  have k14 : mK m10 t = 9 := x12.k k8 (by decide)
  have e15 : mR m10 t 0 = some q2 := by rw [e11]; simp [mR, sR, up2]
  exact at_vret rfl (by decide +kernel) h
set_option maxRecDepth 20000 in
set_option maxHeartbeats 4000000 in
theorem en_Store_find (g : Gc) {lv : Nat} {t : Nat} {l1 : Int32} {m : Mm} {Q : Option Nat → Mm → Prop} (h : mK m t = 9 ∧ (CI g M_SL_isWithin lv [.int (l1), .int ((0 : Int32)), .int ((mI m t 1) - (1 : Int32))] m (fun x2 m3 => (if (x2) = 0 then (Q none m3) else (∃ b7, mR m3 t 0 = some b7 ∧ (mK m3 b7 = 21 ∧ (vp_in l1 (mN m3 b7) ∧ (Q (mR m3 b7 l1.toNatClampNeg) m3)))))))) : CR g M_Store_find (lv + 1) [va_rf (some t), .int (l1)] m Q := by
  refine Call.of (by decide +kernel) (Nat.le_of_ble_eq_true rfl) ?_
  show At g M_Store_find (lv + 1) 0 [(0, va_rf (some t)), (1, .int (l1))] [] m (QR Q)
  refine at_iload_n (i := 1) 1 1 rfl (by decide +kernel) rfl ?_
  refine at_iconst (n := 0) (0 : Int32) 2 rfl (by decide +kernel) (by decide +kernel) ?_
  refine at_aload_n (i := 0) 0 3 rfl (by decide +kernel) rfl ?_
  obtain ⟨k1, h⟩ := h
  refine at_get (index := 17) (v := .int (mI m t 1)) cok8 1 6 rfl (by decide +kernel) k1 (by decide +kernel) tw_153 rfl ?_
  refine at_iconst (n := 1) (1 : Int32) 7 rfl (by decide +kernel) (by decide +kernel) ?_
  refine at_isub 8 rfl (by decide +kernel) ?_
  refine at_callSN mb_SL_isWithin tw_471 (index := 21) (host := "SurplusLand") (by decide +kernel) [.int (l1), .int ((0 : Int32)), .int ((mI m t 1) - (1 : Int32))] [] rfl rfl (by decide) 11 rfl (by decide +kernel) (Call.toI (CI.monoE h (fun x2 m3 h y4 => ?_)))
  have k5 : mK m3 t = 9 := y4.k k1 (by decide)
  refine at_if_eq (off := 12) 23 14 rfl (by decide +kernel) (by decide +kernel) (fun c6 => ?_) (fun c6 => ?_)
  · rw [if_pos c6] at h
    refine at_null 24 rfl (by decide +kernel) ?_
    exact at_aret rfl (Or.inl ⟨_, rfl⟩) (by decide +kernel) h
  · rw [if_neg c6] at h
    refine at_aload_n (i := 0) 0 15 rfl (by decide +kernel) rfl ?_
    refine at_get (index := 11) (v := va_rf (mR m3 t 0)) cok8 0 18 rfl (by decide +kernel) k5 (by decide +kernel) tw_151 rfl ?_
    obtain ⟨b7, e8, h⟩ := h
    rw [e8]
    refine at_iload_n (i := 1) 1 19 rfl (by decide +kernel) rfl ?_
    obtain ⟨k9, h⟩ := h
    obtain ⟨v10, h⟩ := h
    refine at_aaldReceipt 20 rfl (by decide +kernel) k9 v10 ?_
    refine at_goto (off := 4) 24 (by decide +kernel) (by decide +kernel) ?_
    exact at_aret rfl (Or.inl ⟨_, rfl⟩) (by decide +kernel) h
set_option maxRecDepth 20000 in
set_option maxHeartbeats 4000000 in
theorem en_Store_isFull (g : Gc) {lv : Nat} {t : Nat} {m : Mm} {Q : Int32 → Mm → Prop} (h : mK m t = 9 ∧ (if (mI m t 1) < ((400 : Int32)) then (Q (0 : Int32) m) else (Q (1 : Int32) m))) : CI g M_Store_isFull (lv + 1) [va_rf (some t)] m Q := by
  refine Call.of (by decide +kernel) (Nat.le_of_ble_eq_true rfl) ?_
  show At g M_Store_isFull (lv + 1) 0 [(0, va_rf (some t))] [] m (QI Q)
  refine at_aload_n (i := 0) 0 1 rfl (by decide +kernel) rfl ?_
  obtain ⟨k1, h⟩ := h
  refine at_get (index := 17) (v := .int (mI m t 1)) cok8 1 4 rfl (by decide +kernel) k1 (by decide +kernel) tw_153 rfl ?_
  refine at_sipush (n := 400) (400 : Int32) 7 rfl (by decide +kernel) (by decide +kernel) ?_
  refine at_icmp_lt (off := 7) 14 10 rfl (by decide +kernel) (by decide +kernel) (fun c2 => ?_) (fun c2 => ?_)
  · rw [if_pos c2] at h
    refine at_iconst (n := 0) (0 : Int32) 15 rfl (by decide +kernel) (by decide +kernel) ?_
    exact at_zret rfl (by decide +kernel) (Or.inl rfl) h
  · rw [if_neg c2] at h
    refine at_iconst (n := 1) (1 : Int32) 11 rfl (by decide +kernel) (by decide +kernel) ?_
    refine at_goto (off := 4) 15 (by decide +kernel) (by decide +kernel) ?_
    exact at_zret rfl (by decide +kernel) (Or.inr rfl) h
set_option maxRecDepth 20000 in
set_option maxHeartbeats 4000000 in
theorem bk_Store_issue_37 (g : Gc) {lv : Nat} {t : Nat} {l1 : Int32} {l2 : Int32} {l3 : Int32} {m : Mm} {Q : Int32 → Mm → Prop} (h : mK m t = 9 ∧ (∃ b2, mR m t 0 = some b2 ∧ (mK m b2 = 21 ∧ (vp_in (mI m t 1) (mN m b2) ∧ (∃ b6, mR m b2 (mI m t 1).toNatClampNeg = some b6 ∧ (mK m b6 = 7 ∧ (∀ m9, m9 = sI m b6 0 l1 → (∀ m16, m16 = sI m9 b6 1 l2 → (∀ m23, m23 = sI m16 b6 2 l3 → (∀ m30, m30 = sR m23 b6 3 none → (∀ m37, m37 = sR m30 b6 4 none → (∀ m44, m44 = sI m37 t 1 ((mI m37 t 1) + (1 : Int32)) → (Q ((mI m44 t 1) - (1 : Int32)) m44))))))))))))) : At g M_Store_issue (lv + 1) 37 [(0, va_rf (some t)), (1, .int (l1)), (2, .int (l2)), (3, .int (l3))] [] m (QI Q) := by
  refine at_aload_n (i := 0) 0 38 rfl (by decide +kernel) rfl ?_
  obtain ⟨k1, h⟩ := h
  refine at_get (index := 11) (v := va_rf (mR m t 0)) cok8 0 41 rfl (by decide +kernel) k1 (by decide +kernel) tw_151 rfl ?_
  obtain ⟨b2, e3, h⟩ := h
  rw [e3]
  refine at_aload_n (i := 0) 0 42 rfl (by decide +kernel) rfl ?_
  refine at_get (index := 17) (v := .int (mI m t 1)) cok8 1 45 rfl (by decide +kernel) k1 (by decide +kernel) tw_153 rfl ?_
  obtain ⟨k4, h⟩ := h
  obtain ⟨v5, h⟩ := h
  refine at_aaldReceipt 46 rfl (by decide +kernel) k4 v5 ?_
  refine at_astore (i := 4) (lc' := [(0, va_rf (some t)), (1, .int (l1)), (2, .int (l2)), (3, .int (l3)), (4, va_rf (mR m b2 (mI m t 1).toNatClampNeg))]) [1, 2, 3, 4, 0] 48 rfl (by decide +kernel) (by decide +kernel) rfl ?_
  refine at_aload (i := 4) 4 50 rfl (by decide +kernel) rfl ?_
  refine at_iload_n (i := 1) 1 51 rfl (by decide +kernel) rfl ?_
  obtain ⟨b6, e7, h⟩ := h
  rw [e7]
  obtain ⟨k8, h⟩ := h
  refine at_putI (index := 30) cok6 0 54 rfl (by decide +kernel) k8 (by decide +kernel) tw_773 rfl rfl rfl (fun m9 e10 => ?_)
  replace h := h m9 e10
  have x11 : Ext m m9 := by rw [e10]; exact Ext.sI _ _ _ _
  have k12 : mK m9 t = 9 := x11.k k1 (by decide)
  have k13 : mK m9 b2 = 21 := x11.k k4 (by decide)
  have k14 : mK m9 b6 = 7 := x11.k k8 (by decide)
  have e15 : mR m9 t 0 = some b2 := x11.r k1 (by decide) rfl e3
  refine at_aload (i := 4) 4 56 rfl (by decide +kernel) rfl ?_
  refine at_iload_n (i := 2) 2 57 rfl (by decide +kernel) rfl ?_
  refine at_putI (index := 33) cok6 1 60 rfl (by decide +kernel) k14 (by decide +kernel) tw_776 rfl rfl rfl (fun m16 e17 => ?_)
  replace h := h m16 e17
  have x18 : Ext m9 m16 := by rw [e17]; exact Ext.sI _ _ _ _
  have k19 : mK m16 t = 9 := x18.k k12 (by decide)
  have k20 : mK m16 b2 = 21 := x18.k k13 (by decide)
  have k21 : mK m16 b6 = 7 := x18.k k14 (by decide)
  have e22 : mR m16 t 0 = some b2 := x18.r k12 (by decide) rfl e15
  refine at_aload (i := 4) 4 62 rfl (by decide +kernel) rfl ?_
  refine at_iload_n (i := 3) 3 63 rfl (by decide +kernel) rfl ?_
  refine at_putI (index := 36) cok6 2 66 rfl (by decide +kernel) k21 (by decide +kernel) tw_779 rfl rfl rfl (fun m23 e24 => ?_)
  replace h := h m23 e24
  have x25 : Ext m16 m23 := by rw [e24]; exact Ext.sI _ _ _ _
  have k26 : mK m23 t = 9 := x25.k k19 (by decide)
  have k27 : mK m23 b2 = 21 := x25.k k20 (by decide)
  have k28 : mK m23 b6 = 7 := x25.k k21 (by decide)
  have e29 : mR m23 t 0 = some b2 := x25.r k19 (by decide) rfl e22
  refine at_aload (i := 4) 4 68 rfl (by decide +kernel) rfl ?_
  refine at_null 69 rfl (by decide +kernel) ?_
  refine at_putR (index := 39) cok6 3 72 rfl (by decide +kernel) k28 rfl (by decide +kernel) tw_783 rfl rfl (Or.inl ⟨_, rfl⟩) (fun m30 e31 => ?_)
  replace h := h m30 e31
  have x32 : Ext m23 m30 := by rw [e31]; exact Ext.sR _ (Or.inl (by rw [k28]; rfl))
  have k33 : mK m30 t = 9 := x32.k k26 (by decide)
  have k34 : mK m30 b2 = 21 := x32.k k27 (by decide)
  have k35 : mK m30 b6 = 7 := x32.k k28 (by decide)
  have e36 : mR m30 t 0 = some b2 := x32.r k26 (by decide) rfl e29
  refine at_aload (i := 4) 4 74 rfl (by decide +kernel) rfl ?_
  refine at_null 75 rfl (by decide +kernel) ?_
  refine at_putR (index := 43) cok6 4 78 rfl (by decide +kernel) k35 rfl (by decide +kernel) tw_787 rfl rfl (Or.inl ⟨_, rfl⟩) (fun m37 e38 => ?_)
  replace h := h m37 e38
  have x39 : Ext m30 m37 := by rw [e38]; exact Ext.sR _ (Or.inl (by rw [k35]; rfl))
  have k40 : mK m37 t = 9 := x39.k k33 (by decide)
  have k41 : mK m37 b2 = 21 := x39.k k34 (by decide)
  have k42 : mK m37 b6 = 7 := x39.k k35 (by decide)
  have e43 : mR m37 t 0 = some b2 := x39.r k33 (by decide) rfl e36
  refine at_aload_n (i := 0) 0 79 rfl (by decide +kernel) rfl ?_
  refine at_dup 80 rfl (by decide +kernel) (va_rf_cat _) ?_
  refine at_get (index := 17) (v := .int (mI m37 t 1)) cok8 1 83 rfl (by decide +kernel) k40 (by decide +kernel) tw_153 rfl ?_
  refine at_iconst (n := 1) (1 : Int32) 84 rfl (by decide +kernel) (by decide +kernel) ?_
  refine at_iadd 85 rfl (by decide +kernel) ?_
  refine at_putI (index := 17) cok8 1 88 rfl (by decide +kernel) k40 (by decide +kernel) tw_153 rfl rfl rfl (fun m44 e45 => ?_)
  replace h := h m44 e45
  have x46 : Ext m37 m44 := by rw [e45]; exact Ext.sI _ _ _ _
  have k47 : mK m44 t = 9 := x46.k k40 (by decide)
  have k48 : mK m44 b2 = 21 := x46.k k41 (by decide)
  have k49 : mK m44 b6 = 7 := x46.k k42 (by decide)
  have e50 : mR m44 t 0 = some b2 := x46.r k40 (by decide) rfl e43
  refine at_aload_n (i := 0) 0 89 rfl (by decide +kernel) rfl ?_
  refine at_get (index := 17) (v := .int (mI m44 t 1)) cok8 1 92 rfl (by decide +kernel) k47 (by decide +kernel) tw_153 rfl ?_
  refine at_iconst (n := 1) (1 : Int32) 93 rfl (by decide +kernel) (by decide +kernel) ?_
  refine at_isub 94 rfl (by decide +kernel) ?_
  exact at_iret rfl (by decide +kernel) h
set_option maxRecDepth 20000 in
set_option maxHeartbeats 4000000 in
theorem en_Store_issue (g : Gc) {lv : Nat} {t : Nat} {l1 : Int32} {l2 : Int32} {l3 : Int32} {m : Mm} {Q : Int32 → Mm → Prop} (h : mK m t = 9 ∧ (CI g M_Store_isFull lv [va_rf (some t)] m (fun x2 m3 => (if (x2) = 0 then (∃ b7, mR m3 t 0 = some b7 ∧ (mK m3 b7 = 21 ∧ (vp_in (mI m3 t 1) (mN m3 b7) ∧ (if (mR m3 b7 (mI m3 t 1).toNatClampNeg : Option Nat) = none then (mK m3 (gz g + mC m3) = 0 ∧ (∀ q13 m14, q13 = gz g + mC m3 → m14 = nw m3 q13 7 0 5 → (CV g M_Receipt_init lv [va_rf (some q13)] m14 (fun m22 => (vp_in (mI m3 t 1) (mN m22 b7) ∧ (∀ m29, m29 = sR m22 b7 (mI m3 t 1).toNatClampNeg (some q13) → (At g M_Store_issue (lv + 1) 37 [(0, va_rf (some t)), (1, .int (l1)), (2, .int (l2)), (3, .int (l3))] [] m29 (QI Q)))))))) else (At g M_Store_issue (lv + 1) 37 [(0, va_rf (some t)), (1, .int (l1)), (2, .int (l2)), (3, .int (l3))] [] m3 (QI Q)))))) else (Q (-1 : Int32) m3))))) : CI g M_Store_issue (lv + 1) [va_rf (some t), .int (l1), .int (l2), .int (l3)] m Q := by
  refine Call.of (by decide +kernel) (Nat.le_of_ble_eq_true rfl) ?_
  show At g M_Store_issue (lv + 1) 0 [(0, va_rf (some t)), (1, .int (l1)), (2, .int (l2)), (3, .int (l3))] [] m (QI Q)
  refine at_aload_n (i := 0) 0 1 rfl (by decide +kernel) rfl ?_
  obtain ⟨k1, h⟩ := h
  refine at_callV mb_Store_isFull tw_765 tw_766 cok8 k1 (index := 25) tw_764 [] [] rfl rfl (by decide) 4 rfl (by decide +kernel) (Call.toI (CI.monoE h (fun x2 m3 h y4 => ?_)))
  have k5 : mK m3 t = 9 := y4.k k1 (by decide)
  refine at_if_eq (off := 5) 9 7 rfl (by decide +kernel) (by decide +kernel) (fun c6 => ?_) (fun c6 => ?_)
  · rw [if_pos c6] at h
    refine at_aload_n (i := 0) 0 10 rfl (by decide +kernel) rfl ?_
    refine at_get (index := 11) (v := va_rf (mR m3 t 0)) cok8 0 13 rfl (by decide +kernel) k5 (by decide +kernel) tw_151 rfl ?_
    obtain ⟨b7, e8, h⟩ := h
    rw [e8]
    refine at_aload_n (i := 0) 0 14 rfl (by decide +kernel) rfl ?_
    refine at_get (index := 17) (v := .int (mI m3 t 1)) cok8 1 17 rfl (by decide +kernel) k5 (by decide +kernel) tw_153 rfl ?_
    obtain ⟨k9, h⟩ := h
    obtain ⟨v10, h⟩ := h
    refine at_aaldReceipt 18 rfl (by decide +kernel) k9 v10 ?_
    refine at_ifnonnull (off := 19) 37 21 rfl (by decide +kernel) (by decide +kernel) (fun c11 => ?_) (fun c11 => ?_)
    · rw [if_neg c11] at h
      exact h
    · rw [if_pos c11] at h
      refine at_aload_n (i := 0) 0 22 rfl (by decide +kernel) rfl ?_
      refine at_get (index := 11) (v := va_rf (mR m3 t 0)) cok8 0 25 rfl (by decide +kernel) k5 (by decide +kernel) tw_151 rfl ?_
      rw [e8]
      refine at_aload_n (i := 0) 0 26 rfl (by decide +kernel) rfl ?_
      refine at_get (index := 17) (v := .int (mI m3 t 1)) cok8 1 29 rfl (by decide +kernel) k5 (by decide +kernel) tw_153 rfl ?_
      obtain ⟨z12, h⟩ := h
      refine at_new (index := 9) cok6 32 rfl z12 (by decide +kernel) tw_149 tw_768 tw_83 (fun q13 m14 e15 e16 => ?_)
      replace h := h q13 m14 e15 e16
      have x17 : Ext m3 m14 := by rw [e16, e15]; exact Ext.nw z12 _ _ _
      have k18 : mK m14 t = 9 := x17.k k5 (by decide)
      have k19 : mK m14 b7 = 21 := x17.k k9 (by decide)
      have e20 : mR m14 t 0 = some b7 := x17.r k5 (by decide) rfl e8
      have k21 : mK m14 q13 = 7 := by rw [e16]; exact if_pos rfl
      refine at_dup 33 rfl (by decide +kernel) (va_rf_cat _) ?_
      refine at_callIN mb_Receipt_init tw_770 rfl rfl (index := 29) (host := "SurplusLand") (by decide +kernel) [] [va_rf (some q13), .int (mI m3 t 1), va_rf (some b7)] rfl rfl (by simp [va_rf_cat, cat_int, cat_long]) 36 rfl (by decide +kernel) (Call.toV (CV.monoE h (fun m22 h y23 => ?_)))
      have k24 : mK m22 t = 9 := y23.k k18 (by decide)
      have k25 : mK m22 b7 = 21 := y23.k k19 (by decide)
      have k26 : mK m22 q13 = 7 := y23.k k21 (by decide)
      have e27 : mR m22 t 0 = some b7 := y23.r k18 (by decide) rfl e20
      obtain ⟨v28, h⟩ := h
      refine at_aastReceipt 37 rfl (by decide +kernel) k25 v28 k26 (fun m29 e30 => ?_)
      replace h := h m29 e30
      have x31 : Ext m22 m29 := by rw [e30]; exact Ext.sR _ (Or.inl (by rw [k25]; rfl))
      have k32 : mK m29 t = 9 := x31.k k24 (by decide)
      have k33 : mK m29 b7 = 21 := x31.k k25 (by decide)
      have k34 : mK m29 q13 = 7 := x31.k k26 (by decide)
      have e35 : mR m29 t 0 = some b7 := x31.r k24 (by decide) rfl e27
      exact h
  · rw [if_neg c6] at h
    refine at_iconst (n := (-1)) (-1 : Int32) 8 rfl (by decide +kernel) (by decide +kernel) ?_
    exact at_iret rfl (by decide +kernel) h
set_option maxRecDepth 20000 in
set_option maxHeartbeats 4000000 in
theorem en_Store_sacksInAll (g : Gc) {lv : Nat} {t : Nat} {m : Mm} {Q : Int64 → Mm → Prop} (h : mK m t = 9 ∧ (CJ g M_Store_sacksBefore lv [va_rf (some t), .int ((30 : Int32))] m (fun x2 m3 => (Q x2 m3)))) : CJ g M_Store_sacksInAll (lv + 1) [va_rf (some t)] m Q := by
  refine Call.of (by decide +kernel) (Nat.le_of_ble_eq_true rfl) ?_
  show At g M_Store_sacksInAll (lv + 1) 0 [(0, va_rf (some t))] [] m (QJ Q)
  refine at_aload_n (i := 0) 0 1 rfl (by decide +kernel) rfl ?_
  refine at_bipush (n := 30) (30 : Int32) 3 rfl (by decide +kernel) (by decide +kernel) ?_
  obtain ⟨k1, h⟩ := h
  refine at_callV mb_Store_sacksBefore tw_719 tw_720 cok8 k1 (index := 46) tw_718 [.int ((30 : Int32))] [] rfl rfl (by decide) 6 rfl (by decide +kernel) (Call.toJ (CJ.monoE h (fun x2 m3 h y4 => ?_)))
  have k5 : mK m3 t = 9 := y4.k k1 (by decide)
  exact at_lret rfl (by decide +kernel) h
set_option maxRecDepth 20000 in
set_option maxHeartbeats 4000000 in
theorem bk_Store_sacksBefore_5 (g : Gc) {lv : Nat} {t : Nat} {l1 : Int32} {l2 : Int64} {l4 : Int32} {m : Mm} {Q : Int64 → Mm → Prop} (h : mK m t = 9 ∧ (if (mI m t 1) ≤ (l4) then (Q l2 m) else (∃ b3, mR m t 0 = some b3 ∧ (mK m b3 = 21 ∧ (vp_in l4 (mN m b3) ∧ (∃ b7, mR m b3 l4.toNatClampNeg = some b7 ∧ (mK m b7 = 7 ∧ (if (l1) ≤ (mI m b7 2) then (At g M_Store_sacksBefore (lv + 1) 5 [(0, va_rf (some t)), (1, .int (l1)), (2, .long (l2)), (4, .int (l4 + (1 : Int32)))] [] m (QJ Q)) else (vp_in l4 (mN m b3) ∧ (At g M_Store_sacksBefore (lv + 1) 5 [(0, va_rf (some t)), (1, .int (l1)), (2, .long (l2 + ((mI m b7 1).toInt64))), (4, .int (l4 + (1 : Int32)))] [] m (QJ Q))))))))))) : At g M_Store_sacksBefore (lv + 1) 5 [(0, va_rf (some t)), (1, .int (l1)), (2, .long (l2)), (4, .int (l4))] [] m (QJ Q) := by
  refine at_iload (i := 4) 3 7 rfl (by decide +kernel) rfl ?_
  refine at_aload_n (i := 0) 0 8 rfl (by decide +kernel) rfl ?_
  obtain ⟨k1, h⟩ := h
  refine at_get (index := 17) (v := .int (mI m t 1)) cok8 1 11 rfl (by decide +kernel) k1 (by decide +kernel) tw_153 rfl ?_
  refine at_icmp_ge (off := 37) 48 14 rfl (by decide +kernel) (by decide +kernel) (fun c2 => ?_) (fun c2 => ?_)
  · rw [if_pos c2] at h
    refine at_lload_n (i := 2) 2 49 rfl (by decide +kernel) rfl ?_
    exact at_lret rfl (by decide +kernel) h
  · rw [if_neg c2] at h
    refine at_aload_n (i := 0) 0 15 rfl (by decide +kernel) rfl ?_
    refine at_get (index := 11) (v := va_rf (mR m t 0)) cok8 0 18 rfl (by decide +kernel) k1 (by decide +kernel) tw_151 rfl ?_
    obtain ⟨b3, e4, h⟩ := h
    rw [e4]
    refine at_iload (i := 4) 3 20 rfl (by decide +kernel) rfl ?_
    obtain ⟨k5, h⟩ := h
    obtain ⟨v6, h⟩ := h
    refine at_aaldReceipt 21 rfl (by decide +kernel) k5 v6 ?_
    obtain ⟨b7, e8, h⟩ := h
    rw [e8]
    obtain ⟨k9, h⟩ := h
    refine at_get (index := 36) (v := .int (mI m b7 2)) cok6 2 24 rfl (by decide +kernel) k9 (by decide +kernel) tw_779 rfl ?_
    refine at_iload_n (i := 1) 1 25 rfl (by decide +kernel) rfl ?_
    refine at_icmp_ge (off := 17) 42 28 rfl (by decide +kernel) (by decide +kernel) (fun c10 => ?_) (fun c10 => ?_)
    · rw [if_pos c10] at h
      refine at_iinc (i := 4) (n := 1) (lc' := [(0, va_rf (some t)), (1, .int (l1)), (2, .long (l2)), (4, .int (l4 + (1 : Int32)))]) (l4 + (1 : Int32)) 3 [1, 2, 3, 0] 45 rfl (by decide +kernel) rfl (by rw [show Int32.ofInt 1 = (1 : Int32) from by decide +kernel]) (by decide +kernel) rfl ?_
      refine at_goto (off := (-40)) 5 (by decide +kernel) (by decide +kernel) ?_
      exact h
    · rw [if_neg c10] at h
      refine at_lload_n (i := 2) 2 29 rfl (by decide +kernel) rfl ?_
      refine at_aload_n (i := 0) 0 30 rfl (by decide +kernel) rfl ?_
      refine at_get (index := 11) (v := va_rf (mR m t 0)) cok8 0 33 rfl (by decide +kernel) k1 (by decide +kernel) tw_151 rfl ?_
      rw [e4]
      refine at_iload (i := 4) 3 35 rfl (by decide +kernel) rfl ?_
      obtain ⟨v11, h⟩ := h
      refine at_aaldReceipt 36 rfl (by decide +kernel) k5 v11 ?_
      rw [e8]
      refine at_get (index := 33) (v := .int (mI m b7 1)) cok6 1 39 rfl (by decide +kernel) k9 (by decide +kernel) tw_776 rfl ?_
      refine at_i2l 40 rfl (by decide +kernel) ?_
      refine at_ladd 41 rfl (by decide +kernel) ?_
      refine at_lstore_n (i := 2) (lc' := [(0, va_rf (some t)), (1, .int (l1)), (2, .long (l2 + ((mI m b7 1).toInt64))), (4, .int (l4))]) [1, 2, 0, 3] 42 rfl (by decide +kernel) (by decide +kernel) rfl ?_
      refine at_iinc (i := 4) (n := 1) (lc' := [(0, va_rf (some t)), (1, .int (l1)), (2, .long (l2 + ((mI m b7 1).toInt64))), (4, .int (l4 + (1 : Int32)))]) (l4 + (1 : Int32)) 3 [1, 2, 3, 0] 45 rfl (by decide +kernel) rfl (by rw [show Int32.ofInt 1 = (1 : Int32) from by decide +kernel]) (by decide +kernel) rfl ?_
      refine at_goto (off := (-40)) 5 (by decide +kernel) (by decide +kernel) ?_
      exact h
set_option maxRecDepth 20000 in
set_option maxHeartbeats 4000000 in
theorem en_Store_sacksBefore (g : Gc) {lv : Nat} {t : Nat} {l1 : Int32} {m : Mm} {Q : Int64 → Mm → Prop} (h : At g M_Store_sacksBefore (lv + 1) 5 [(0, va_rf (some t)), (1, .int (l1)), (2, .long ((0 : Int64))), (4, .int ((0 : Int32)))] [] m (QJ Q)) : CJ g M_Store_sacksBefore (lv + 1) [va_rf (some t), .int (l1)] m Q := by
  refine Call.of (by decide +kernel) (Nat.le_of_ble_eq_true rfl) ?_
  show At g M_Store_sacksBefore (lv + 1) 0 [(0, va_rf (some t)), (1, .int (l1))] [] m (QJ Q)
  refine at_lconst (n := 0) (0 : Int64) 1 rfl (by decide +kernel) (by decide +kernel) ?_
  refine at_lstore_n (i := 2) (lc' := [(0, va_rf (some t)), (1, .int (l1)), (2, .long ((0 : Int64)))]) [1, 2, 0] 2 rfl (by decide +kernel) (by decide +kernel) rfl ?_
  refine at_iconst (n := 0) (0 : Int32) 3 rfl (by decide +kernel) (by decide +kernel) ?_
  refine at_istore (i := 4) (lc' := [(0, va_rf (some t)), (1, .int (l1)), (2, .long ((0 : Int64))), (4, .int ((0 : Int32)))]) [1, 2, 3, 0] 5 rfl (by decide +kernel) (by decide +kernel) rfl ?_
  exact h
set_option maxRecDepth 20000 in
set_option maxHeartbeats 4000000 in
theorem bk_Store_rot_5 (g : Gc) {lv : Nat} {t : Nat} {l1 : Int32} {l2 : Int64} {l4 : Int32} {m : Mm} {Q : Int64 → Mm → Prop} (h : mK m t = 9 ∧ (if (mI m t 1) ≤ (l4) then (Q l2 m) else (∃ b3, mR m t 0 = some b3 ∧ (mK m b3 = 21 ∧ (vp_in l4 (mN m b3) ∧ (∃ b7, mR m b3 l4.toNatClampNeg = some b7 ∧ (mK m b7 = 7 ∧ (vp_in l4 (mN m b3) ∧ (∀ m11, m11 = sI m b7 1 ((mI m b7 1) - (((((mI m b7 1).toInt64) * l1.toInt64) / (1000 : Int64)).toInt32)) → (At g M_Store_rot (lv + 1) 5 [(0, va_rf (some t)), (1, .int (l1)), (2, .long (l2 + ((((((mI m b7 1).toInt64) * l1.toInt64) / (1000 : Int64)).toInt32).toInt64))), (4, .int (l4 + (1 : Int32)))] [] m11 (QJ Q))))))))))) : At g M_Store_rot (lv + 1) 5 [(0, va_rf (some t)), (1, .int (l1)), (2, .long (l2)), (4, .int (l4))] [] m (QJ Q) := by
  refine at_iload (i := 4) 3 7 rfl (by decide +kernel) rfl ?_
  refine at_aload_n (i := 0) 0 8 rfl (by decide +kernel) rfl ?_
  obtain ⟨k1, h⟩ := h
  refine at_get (index := 17) (v := .int (mI m t 1)) cok8 1 11 rfl (by decide +kernel) k1 (by decide +kernel) tw_153 rfl ?_
  refine at_icmp_ge (off := 53) 64 14 rfl (by decide +kernel) (by decide +kernel) (fun c2 => ?_) (fun c2 => ?_)
  · rw [if_pos c2] at h
    refine at_lload_n (i := 2) 2 65 rfl (by decide +kernel) rfl ?_
    exact at_lret rfl (by decide +kernel) h
  · rw [if_neg c2] at h
    refine at_aload_n (i := 0) 0 15 rfl (by decide +kernel) rfl ?_
    refine at_get (index := 11) (v := va_rf (mR m t 0)) cok8 0 18 rfl (by decide +kernel) k1 (by decide +kernel) tw_151 rfl ?_
    obtain ⟨b3, e4, h⟩ := h
    rw [e4]
    refine at_iload (i := 4) 3 20 rfl (by decide +kernel) rfl ?_
    obtain ⟨k5, h⟩ := h
    obtain ⟨v6, h⟩ := h
    refine at_aaldReceipt 21 rfl (by decide +kernel) k5 v6 ?_
    obtain ⟨b7, e8, h⟩ := h
    rw [e8]
    obtain ⟨k9, h⟩ := h
    refine at_get (index := 33) (v := .int (mI m b7 1)) cok6 1 24 rfl (by decide +kernel) k9 (by decide +kernel) tw_776 rfl ?_
    refine at_i2l 25 rfl (by decide +kernel) ?_
    refine at_iload_n (i := 1) 1 26 rfl (by decide +kernel) rfl ?_
    refine at_i2l 27 rfl (by decide +kernel) ?_
    refine at_lmul 28 rfl (by decide +kernel) ?_
    refine at_ldc2 (index := 50) (1000 : Int64) 31 rfl (by decide +kernel) tw_839 ?_
    refine at_ldiv 32 rfl (by decide +kernel) (by decide +kernel) ?_
    refine at_l2i 33 rfl (by decide +kernel) ?_
    refine at_istore (i := 5) (lc' := [(0, va_rf (some t)), (1, .int (l1)), (2, .long (l2)), (4, .int (l4)), (5, .int (((((mI m b7 1).toInt64) * l1.toInt64) / (1000 : Int64)).toInt32))]) [1, 2, 3, 4, 0] 35 rfl (by decide +kernel) (by decide +kernel) rfl ?_
    refine at_aload_n (i := 0) 0 36 rfl (by decide +kernel) rfl ?_
    refine at_get (index := 11) (v := va_rf (mR m t 0)) cok8 0 39 rfl (by decide +kernel) k1 (by decide +kernel) tw_151 rfl ?_
    rw [e4]
    refine at_iload (i := 4) 3 41 rfl (by decide +kernel) rfl ?_
    obtain ⟨v10, h⟩ := h
    refine at_aaldReceipt 42 rfl (by decide +kernel) k5 v10 ?_
    rw [e8]
    refine at_dup 43 rfl (by decide +kernel) (va_rf_cat _) ?_
    refine at_get (index := 33) (v := .int (mI m b7 1)) cok6 1 46 rfl (by decide +kernel) k9 (by decide +kernel) tw_776 rfl ?_
    refine at_iload (i := 5) 4 48 rfl (by decide +kernel) rfl ?_
    refine at_isub 49 rfl (by decide +kernel) ?_
    refine at_putI (index := 33) cok6 1 52 rfl (by decide +kernel) k9 (by decide +kernel) tw_776 rfl rfl rfl (fun m11 e12 => ?_)
    replace h := h m11 e12
    have x13 : Ext m m11 := by rw [e12]; exact Ext.sI _ _ _ _
    have k14 : mK m11 t = 9 := x13.k k1 (by decide)
    have k15 : mK m11 b3 = 21 := x13.k k5 (by decide)
    have k16 : mK m11 b7 = 7 := x13.k k9 (by decide)
    have e17 : mR m11 t 0 = some b3 := x13.r k1 (by decide) rfl e4
    refine at_lload_n (i := 2) 2 53 rfl (by decide +kernel) rfl ?_
    refine at_iload (i := 5) 4 55 rfl (by decide +kernel) rfl ?_
    refine at_i2l 56 rfl (by decide +kernel) ?_
    refine at_ladd 57 rfl (by decide +kernel) ?_
    refine at_lstore_n (i := 2) (lc' := [(0, va_rf (some t)), (1, .int (l1)), (2, .long (l2 + ((((((mI m b7 1).toInt64) * l1.toInt64) / (1000 : Int64)).toInt32).toInt64))), (4, .int (l4))]) [1, 2, 0, 3] 58 rfl (by decide +kernel) (by decide +kernel) rfl ?_
    refine at_iinc (i := 4) (n := 1) (lc' := [(0, va_rf (some t)), (1, .int (l1)), (2, .long (l2 + ((((((mI m b7 1).toInt64) * l1.toInt64) / (1000 : Int64)).toInt32).toInt64))), (4, .int (l4 + (1 : Int32)))]) (l4 + (1 : Int32)) 3 [1, 2, 3, 0] 61 rfl (by decide +kernel) rfl (by rw [show Int32.ofInt 1 = (1 : Int32) from by decide +kernel]) (by decide +kernel) rfl ?_
    refine at_goto (off := (-56)) 5 (by decide +kernel) (by decide +kernel) ?_
    exact h
set_option maxRecDepth 20000 in
set_option maxHeartbeats 4000000 in
theorem en_Store_rot (g : Gc) {lv : Nat} {t : Nat} {l1 : Int32} {m : Mm} {Q : Int64 → Mm → Prop} (h : At g M_Store_rot (lv + 1) 5 [(0, va_rf (some t)), (1, .int (l1)), (2, .long ((0 : Int64))), (4, .int ((0 : Int32)))] [] m (QJ Q)) : CJ g M_Store_rot (lv + 1) [va_rf (some t), .int (l1)] m Q := by
  refine Call.of (by decide +kernel) (Nat.le_of_ble_eq_true rfl) ?_
  show At g M_Store_rot (lv + 1) 0 [(0, va_rf (some t)), (1, .int (l1))] [] m (QJ Q)
  refine at_lconst (n := 0) (0 : Int64) 1 rfl (by decide +kernel) (by decide +kernel) ?_
  refine at_lstore_n (i := 2) (lc' := [(0, va_rf (some t)), (1, .int (l1)), (2, .long ((0 : Int64)))]) [1, 2, 0] 2 rfl (by decide +kernel) (by decide +kernel) rfl ?_
  refine at_iconst (n := 0) (0 : Int32) 3 rfl (by decide +kernel) (by decide +kernel) ?_
  refine at_istore (i := 4) (lc' := [(0, va_rf (some t)), (1, .int (l1)), (2, .long ((0 : Int64))), (4, .int ((0 : Int32)))]) [1, 2, 3, 0] 5 rfl (by decide +kernel) (by decide +kernel) rfl ?_
  exact h
set_option maxRecDepth 20000 in
set_option maxHeartbeats 4000000 in
theorem en_Terms_init (g : Gc) {lv : Nat} {t : Nat} {m : Mm} {Q : Mm → Prop} (h : mK m t = 11 ∧ (∀ m2, m2 = sI m t 0 (1000 : Int32) → (∀ m6, m6 = sI m2 t 1 (100 : Int32) → (∀ m10, m10 = sI m6 t 2 (100 : Int32) → (∀ m14, m14 = sI m10 t 3 (100 : Int32) → (∀ m18, m18 = sI m14 t 4 (120 : Int32) → (∀ m22, m22 = sI m18 t 5 (10 : Int32) → (∀ m26, m26 = sI m22 t 6 (0 : Int32) → (Q m26))))))))) : CV g M_Terms_init (lv + 1) [va_rf (some t)] m Q := by
  refine Call.of (by decide +kernel) (Nat.le_of_ble_eq_true rfl) ?_
  show At g M_Terms_init (lv + 1) 0 [(0, va_rf (some t))] [] m (QV Q)
  refine at_aload_n (i := 0) 0 1 rfl (by decide +kernel) rfl ?_
  refine at_objInit 4 rfl (by decide +kernel) tw_98 tw_91 tw_92 (by decide) ?_
  refine at_aload_n (i := 0) 0 5 rfl (by decide +kernel) rfl ?_
  refine at_sipush (n := 1000) (1000 : Int32) 8 rfl (by decide +kernel) (by decide +kernel) ?_
  obtain ⟨k1, h⟩ := h
  refine at_putI (index := 7) cok10 0 11 rfl (by decide +kernel) k1 (by decide +kernel) tw_99 rfl rfl rfl (fun m2 e3 => ?_)
  replace h := h m2 e3
  have x4 : Ext m m2 := by rw [e3]; exact Ext.sI _ _ _ _
  have k5 : mK m2 t = 11 := x4.k k1 (by decide)
  refine at_aload_n (i := 0) 0 12 rfl (by decide +kernel) rfl ?_
  refine at_bipush (n := 100) (100 : Int32) 14 rfl (by decide +kernel) (by decide +kernel) ?_
  refine at_putI (index := 13) cok10 1 17 rfl (by decide +kernel) k5 (by decide +kernel) tw_101 rfl rfl rfl (fun m6 e7 => ?_)
  replace h := h m6 e7
  have x8 : Ext m2 m6 := by rw [e7]; exact Ext.sI _ _ _ _
  have k9 : mK m6 t = 11 := x8.k k5 (by decide)
  refine at_aload_n (i := 0) 0 18 rfl (by decide +kernel) rfl ?_
  refine at_bipush (n := 100) (100 : Int32) 20 rfl (by decide +kernel) (by decide +kernel) ?_
  refine at_putI (index := 16) cok10 2 23 rfl (by decide +kernel) k9 (by decide +kernel) tw_103 rfl rfl rfl (fun m10 e11 => ?_)
  replace h := h m10 e11
  have x12 : Ext m6 m10 := by rw [e11]; exact Ext.sI _ _ _ _
  have k13 : mK m10 t = 11 := x12.k k9 (by decide)
  refine at_aload_n (i := 0) 0 24 rfl (by decide +kernel) rfl ?_
  refine at_bipush (n := 100) (100 : Int32) 26 rfl (by decide +kernel) (by decide +kernel) ?_
  refine at_putI (index := 19) cok10 3 29 rfl (by decide +kernel) k13 (by decide +kernel) tw_106 rfl rfl rfl (fun m14 e15 => ?_)
  replace h := h m14 e15
  have x16 : Ext m10 m14 := by rw [e15]; exact Ext.sI _ _ _ _
  have k17 : mK m14 t = 11 := x16.k k13 (by decide)
  refine at_aload_n (i := 0) 0 30 rfl (by decide +kernel) rfl ?_
  refine at_bipush (n := 120) (120 : Int32) 32 rfl (by decide +kernel) (by decide +kernel) ?_
  refine at_putI (index := 22) cok10 4 35 rfl (by decide +kernel) k17 (by decide +kernel) tw_109 rfl rfl rfl (fun m18 e19 => ?_)
  replace h := h m18 e19
  have x20 : Ext m14 m18 := by rw [e19]; exact Ext.sI _ _ _ _
  have k21 : mK m18 t = 11 := x20.k k17 (by decide)
  refine at_aload_n (i := 0) 0 36 rfl (by decide +kernel) rfl ?_
  refine at_bipush (n := 10) (10 : Int32) 38 rfl (by decide +kernel) (by decide +kernel) ?_
  refine at_putI (index := 25) cok10 5 41 rfl (by decide +kernel) k21 (by decide +kernel) tw_112 rfl rfl rfl (fun m22 e23 => ?_)
  replace h := h m22 e23
  have x24 : Ext m18 m22 := by rw [e23]; exact Ext.sI _ _ _ _
  have k25 : mK m22 t = 11 := x24.k k21 (by decide)
  refine at_aload_n (i := 0) 0 42 rfl (by decide +kernel) rfl ?_
  refine at_iconst (n := 0) (0 : Int32) 43 rfl (by decide +kernel) (by decide +kernel) ?_
  refine at_putI (index := 28) cok10 6 46 rfl (by decide +kernel) k25 (by decide +kernel) tw_115 rfl rfl rfl (fun m26 e27 => ?_)
  replace h := h m26 e27
  have x28 : Ext m22 m26 := by rw [e27]; exact Ext.sI _ _ _ _
  have k29 : mK m26 t = 11 := x28.k k25 (by decide)
  exact at_vret rfl (by decide +kernel) h
set_option maxRecDepth 20000 in
set_option maxHeartbeats 4000000 in
theorem en_Terms_wantedAt (g : Gc) {lv : Nat} {t : Nat} {l1 : Int32} {m : Mm} {Q : Int32 → Mm → Prop} (h : mK m t = 11 ∧ (Q ((lmx (0 : Int64) (((mI m t 0).toInt64) - ((((mI m t 1).toInt64) * l1.toInt64) / (100 : Int64)))).toInt32) m)) : CI g M_Terms_wantedAt (lv + 1) [va_rf (some t), .int (l1)] m Q := by
  refine Call.of (by decide +kernel) (Nat.le_of_ble_eq_true rfl) ?_
  show At g M_Terms_wantedAt (lv + 1) 0 [(0, va_rf (some t)), (1, .int (l1))] [] m (QI Q)
  refine at_aload_n (i := 0) 0 1 rfl (by decide +kernel) rfl ?_
  obtain ⟨k1, h⟩ := h
  refine at_get (index := 13) (v := .int (mI m t 1)) cok10 1 4 rfl (by decide +kernel) k1 (by decide +kernel) tw_101 rfl ?_
  refine at_i2l 5 rfl (by decide +kernel) ?_
  refine at_iload_n (i := 1) 1 6 rfl (by decide +kernel) rfl ?_
  refine at_i2l 7 rfl (by decide +kernel) ?_
  refine at_lmul 8 rfl (by decide +kernel) ?_
  refine at_ldc2 (index := 31) (100 : Int64) 11 rfl (by decide +kernel) tw_702 ?_
  refine at_ldiv 12 rfl (by decide +kernel) (by decide +kernel) ?_
  refine at_lstore_n (i := 2) (lc' := [(0, va_rf (some t)), (2, .long ((((mI m t 1).toInt64) * l1.toInt64) / (100 : Int64)))]) [1, 0] 13 rfl (by decide +kernel) (by decide +kernel) rfl ?_
  refine at_lconst (n := 0) (0 : Int64) 14 rfl (by decide +kernel) (by decide +kernel) ?_
  refine at_aload_n (i := 0) 0 15 rfl (by decide +kernel) rfl ?_
  refine at_get (index := 7) (v := .int (mI m t 0)) cok10 0 18 rfl (by decide +kernel) k1 (by decide +kernel) tw_99 rfl ?_
  refine at_i2l 19 rfl (by decide +kernel) ?_
  refine at_lload_n (i := 2) 1 20 rfl (by decide +kernel) rfl ?_
  refine at_lsub 21 rfl (by decide +kernel) ?_
  refine at_lmx (index := 33) 24 rfl (by decide +kernel) tw_703 (by decide) ?_
  refine at_l2i 25 rfl (by decide +kernel) ?_
  exact at_iret rfl (by decide +kernel) h
