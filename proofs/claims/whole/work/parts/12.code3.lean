set_option maxRecDepth 20000 in
set_option maxHeartbeats 4000000 in
theorem en_Tape_init (g : Gc) {lv : Nat} {t : Nat} {m : Mm} {Q : Mm → Prop} (h : mK m (gz g + mC m) = 0 ∧ (∀ q2 m3, q2 = gz g + mC m → m3 = nw m q2 14 ((300 : Int32).toNatClampNeg) ((300 : Int32).toNatClampNeg) → (mK m3 t = 10 ∧ (mR m3 t 0 = none ∧ (∀ m10, m10 = sR m3 t 0 (some q2) → (mK m10 (gz g + mC m10) = 0 ∧ (∀ q17 m18, q17 = gz g + mC m10 → m18 = nw m10 q17 15 ((301 : Int32).toNatClampNeg) ((301 : Int32).toNatClampNeg) → (mR m18 t 1 = none ∧ (∀ m27, m27 = sR m18 t 1 (some q17) → (mK m27 (gz g + mC m27) = 0 ∧ (∀ q36 m37, q36 = gz g + mC m27 → m37 = nw m27 q36 15 ((301 : Int32).toNatClampNeg) ((301 : Int32).toNatClampNeg) → (mR m37 t 2 = none ∧ (∀ m48, m48 = sR m37 t 2 (some q36) → (mK m48 (gz g + mC m48) = 0 ∧ (∀ q59 m60, q59 = gz g + mC m48 → m60 = nw m48 q59 15 ((301 : Int32).toNatClampNeg) ((301 : Int32).toNatClampNeg) → (mR m60 t 3 = none ∧ (∀ m73, m73 = sR m60 t 3 (some q59) → (∀ m85, m85 = sI m73 t 5 (-1 : Int32) → (Q m85))))))))))))))))))) : CV g M_Tape_init (lv + 1) [va_rf (some t)] m Q := by
  refine Call.of (by decide +kernel) (Nat.le_of_ble_eq_true rfl) ?_
  show At g M_Tape_init (lv + 1) 0 [(0, va_rf (some t))] [] m (QV Q)
  refine at_aload_n (i := 0) 0 1 rfl (by decide +kernel) rfl ?_
  refine at_objInit 4 rfl (by decide +kernel) tw_343 tw_91 tw_92 (by decide) ?_
  refine at_aload_n (i := 0) 0 5 rfl (by decide +kernel) rfl ?_
  refine at_sipush (n := 300) (300 : Int32) 8 rfl (by decide +kernel) (by decide +kernel) ?_
  obtain ⟨z1, h⟩ := h
  refine at_newaB 10 rfl z1 (by decide +kernel) tw_374 (by decide +kernel) (by decide +kernel) (fun q2 m3 e4 e5 => ?_)
  replace h := h q2 m3 e4 e5
  have x6 : Ext m m3 := by rw [e5, e4]; exact Ext.nw z1 _ _ _
  have k7 : mK m3 q2 = 14 := by rw [e5]; exact if_pos rfl
  obtain ⟨k8, h⟩ := h
  obtain ⟨n9, h⟩ := h
  refine at_putRF (index := 9) cok9 0 13 rfl (by decide +kernel) k8 n9 (by decide +kernel) tw_344 rfl rfl rfl rfl (Or.inr ⟨_, rfl⟩) (fun m10 e11 => ?_)
  replace h := h m10 e11
  have x12 : Ext m3 m10 := by rw [e11]; exact Ext.sR _ (Or.inr n9)
  have k13 : mK m10 q2 = 14 := x12.k k7 (by decide)
  have k14 : mK m10 t = 10 := x12.k k8 (by decide)
  have e15 : mR m10 t 0 = some q2 := by rw [e11]; simp [mR, sR, up2]
  refine at_aload_n (i := 0) 0 14 rfl (by decide +kernel) rfl ?_
  refine at_sipush (n := 301) (301 : Int32) 17 rfl (by decide +kernel) (by decide +kernel) ?_
  obtain ⟨z16, h⟩ := h
  refine at_newaI 19 rfl z16 (by decide +kernel) tw_265 (by decide +kernel) (by decide +kernel) (fun q17 m18 e19 e20 => ?_)
  replace h := h q17 m18 e19 e20
  have x21 : Ext m10 m18 := by rw [e20, e19]; exact Ext.nw z16 _ _ _
  have k22 : mK m18 q2 = 14 := x21.k k13 (by decide)
  have k23 : mK m18 t = 10 := x21.k k14 (by decide)
  have e24 : mR m18 t 0 = some q2 := x21.r k14 (by decide) rfl e15
  have k25 : mK m18 q17 = 15 := by rw [e20]; exact if_pos rfl
  obtain ⟨n26, h⟩ := h
  refine at_putRF (index := 15) cok9 1 22 rfl (by decide +kernel) k23 n26 (by decide +kernel) tw_345 rfl rfl rfl rfl (Or.inr ⟨_, rfl⟩) (fun m27 e28 => ?_)
  replace h := h m27 e28
  have x29 : Ext m18 m27 := by rw [e28]; exact Ext.sR _ (Or.inr n26)
  have k30 : mK m27 q2 = 14 := x29.k k22 (by decide)
  have k31 : mK m27 t = 10 := x29.k k23 (by decide)
  have k32 : mK m27 q17 = 15 := x29.k k25 (by decide)
  have e33 : mR m27 t 0 = some q2 := x29.r k23 (by decide) rfl e24
  have e34 : mR m27 t 1 = some q17 := by rw [e28]; simp [mR, sR, up2]
  refine at_aload_n (i := 0) 0 23 rfl (by decide +kernel) rfl ?_
  refine at_sipush (n := 301) (301 : Int32) 26 rfl (by decide +kernel) (by decide +kernel) ?_
  obtain ⟨z35, h⟩ := h
  refine at_newaI 28 rfl z35 (by decide +kernel) tw_265 (by decide +kernel) (by decide +kernel) (fun q36 m37 e38 e39 => ?_)
  replace h := h q36 m37 e38 e39
  have x40 : Ext m27 m37 := by rw [e39, e38]; exact Ext.nw z35 _ _ _
  have k41 : mK m37 q2 = 14 := x40.k k30 (by decide)
  have k42 : mK m37 t = 10 := x40.k k31 (by decide)
  have k43 : mK m37 q17 = 15 := x40.k k32 (by decide)
  have e44 : mR m37 t 0 = some q2 := x40.r k31 (by decide) rfl e33
  have e45 : mR m37 t 1 = some q17 := x40.r k31 (by decide) rfl e34
  have k46 : mK m37 q36 = 15 := by rw [e39]; exact if_pos rfl
  obtain ⟨n47, h⟩ := h
  refine at_putRF (index := 19) cok9 2 31 rfl (by decide +kernel) k42 n47 (by decide +kernel) tw_346 rfl rfl rfl rfl (Or.inr ⟨_, rfl⟩) (fun m48 e49 => ?_)
  replace h := h m48 e49
  have x50 : Ext m37 m48 := by rw [e49]; exact Ext.sR _ (Or.inr n47)
  have k51 : mK m48 q2 = 14 := x50.k k41 (by decide)
  have k52 : mK m48 t = 10 := x50.k k42 (by decide)
  have k53 : mK m48 q17 = 15 := x50.k k43 (by decide)
  have k54 : mK m48 q36 = 15 := x50.k k46 (by decide)
  have e55 : mR m48 t 0 = some q2 := x50.r k42 (by decide) rfl e44
  have e56 : mR m48 t 1 = some q17 := x50.r k42 (by decide) rfl e45
  have e57 : mR m48 t 2 = some q36 := by rw [e49]; simp [mR, sR, up2]
  refine at_aload_n (i := 0) 0 32 rfl (by decide +kernel) rfl ?_
  refine at_sipush (n := 301) (301 : Int32) 35 rfl (by decide +kernel) (by decide +kernel) ?_
  obtain ⟨z58, h⟩ := h
  refine at_newaI 37 rfl z58 (by decide +kernel) tw_265 (by decide +kernel) (by decide +kernel) (fun q59 m60 e61 e62 => ?_)
  replace h := h q59 m60 e61 e62
  have x63 : Ext m48 m60 := by rw [e62, e61]; exact Ext.nw z58 _ _ _
  have k64 : mK m60 q2 = 14 := x63.k k51 (by decide)
  have k65 : mK m60 t = 10 := x63.k k52 (by decide)
  have k66 : mK m60 q17 = 15 := x63.k k53 (by decide)
  have k67 : mK m60 q36 = 15 := x63.k k54 (by decide)
  have e68 : mR m60 t 0 = some q2 := x63.r k52 (by decide) rfl e55
  have e69 : mR m60 t 1 = some q17 := x63.r k52 (by decide) rfl e56
  have e70 : mR m60 t 2 = some q36 := x63.r k52 (by decide) rfl e57
  have k71 : mK m60 q59 = 15 := by rw [e62]; exact if_pos rfl
  obtain ⟨n72, h⟩ := h
  refine at_putRF (index := 22) cok9 3 40 rfl (by decide +kernel) k65 n72 (by decide +kernel) tw_347 rfl rfl rfl rfl (Or.inr ⟨_, rfl⟩) (fun m73 e74 => ?_)
  replace h := h m73 e74
  have x75 : Ext m60 m73 := by rw [e74]; exact Ext.sR _ (Or.inr n72)
  have k76 : mK m73 q2 = 14 := x75.k k64 (by decide)
  have k77 : mK m73 t = 10 := x75.k k65 (by decide)
  have k78 : mK m73 q17 = 15 := x75.k k66 (by decide)
  have k79 : mK m73 q36 = 15 := x75.k k67 (by decide)
  have k80 : mK m73 q59 = 15 := x75.k k71 (by decide)
  have e81 : mR m73 t 0 = some q2 := x75.r k65 (by decide) rfl e68
  have e82 : mR m73 t 1 = some q17 := x75.r k65 (by decide) rfl e69
  have e83 : mR m73 t 2 = some q36 := x75.r k65 (by decide) rfl e70
  have e84 : mR m73 t 3 = some q59 := by rw [e74]; simp [mR, sR, up2]
  refine at_aload_n (i := 0) 0 41 rfl (by decide +kernel) rfl ?_
  refine at_iconst (n := (-1)) (-1 : Int32) 42 rfl (by decide +kernel) (by decide +kernel) ?_
  refine at_putI (index := 25) cok9 5 45 rfl (by decide +kernel) k77 (by decide +kernel) tw_350 rfl rfl rfl (fun m85 e86 => ?_)
  replace h := h m85 e86
  have x87 : Ext m73 m85 := by rw [e86]; exact Ext.sI _ _ _ _
  have k88 : mK m85 q2 = 14 := x87.k k76 (by decide)
  have k89 : mK m85 t = 10 := x87.k k77 (by decide)
  have k90 : mK m85 q17 = 15 := x87.k k78 (by decide)
  have k91 : mK m85 q36 = 15 := x87.k k79 (by decide)
  have k92 : mK m85 q59 = 15 := x87.k k80 (by decide)
  have e93 : mR m85 t 0 = some q2 := x87.r k77 (by decide) rfl e81
  have e94 : mR m85 t 1 = some q17 := x87.r k77 (by decide) rfl e82
  have e95 : mR m85 t 2 = some q36 := x87.r k77 (by decide) rfl e83
  have e96 : mR m85 t 3 = some q59 := x87.r k77 (by decide) rfl e84
  exact at_vret rfl (by decide +kernel) h
set_option maxRecDepth 20000 in
set_option maxHeartbeats 4000000 in
theorem bk_Tape_append_3 (g : Gc) {lv : Nat} {t : Nat} {l1 : Int32} {l2 : Int32} {m : Mm} {Q : Mm → Prop} (h : if (l2) < 0 then (Q m) else (mK m t = 10 ∧ (if ((300 : Int32)) ≤ (mI m t 4) then (Q m) else (∃ b4, mR m t 0 = some b4 ∧ (mK m b4 = 14 ∧ (vp_in (mI m t 4) (mN m b4) ∧ (∀ m8, m8 = sI m b4 (mI m t 4).toNatClampNeg (((l1 >>> (l2 &&& 31)).toInt8.toInt32).toInt8.toInt32) → (∀ m14, m14 = sI m8 t 4 ((mI m8 t 4) + (1 : Int32)) → (At g M_Tape_append (lv + 1) 3 [(0, va_rf (some t)), (1, .int (l1)), (2, .int (l2 + (-8 : Int32)))] [] m14 (QV Q)))))))))) : At g M_Tape_append (lv + 1) 3 [(0, va_rf (some t)), (1, .int (l1)), (2, .int (l2))] [] m (QV Q) := by
  refine at_iload_n (i := 2) 2 4 rfl (by decide +kernel) rfl ?_
  refine at_if_lt (off := 42) 46 7 rfl (by decide +kernel) (by decide +kernel) (fun c1 => ?_) (fun c1 => ?_)
  · rw [if_pos c1] at h
    exact at_vret rfl (by decide +kernel) h
  · rw [if_neg c1] at h
    refine at_aload_n (i := 0) 0 8 rfl (by decide +kernel) rfl ?_
    obtain ⟨k2, h⟩ := h
    refine at_get (index := 29) (v := .int (mI m t 4)) cok9 4 11 rfl (by decide +kernel) k2 (by decide +kernel) tw_348 rfl ?_
    refine at_sipush (n := 300) (300 : Int32) 14 rfl (by decide +kernel) (by decide +kernel) ?_
    refine at_icmp_ge (off := 32) 46 17 rfl (by decide +kernel) (by decide +kernel) (fun c3 => ?_) (fun c3 => ?_)
    · rw [if_pos c3] at h
      exact at_vret rfl (by decide +kernel) h
    · rw [if_neg c3] at h
      refine at_aload_n (i := 0) 0 18 rfl (by decide +kernel) rfl ?_
      refine at_get (index := 9) (v := va_rf (mR m t 0)) cok9 0 21 rfl (by decide +kernel) k2 (by decide +kernel) tw_344 rfl ?_
      obtain ⟨b4, e5, h⟩ := h
      rw [e5]
      refine at_aload_n (i := 0) 0 22 rfl (by decide +kernel) rfl ?_
      refine at_get (index := 29) (v := .int (mI m t 4)) cok9 4 25 rfl (by decide +kernel) k2 (by decide +kernel) tw_348 rfl ?_
      refine at_iload_n (i := 1) 1 26 rfl (by decide +kernel) rfl ?_
      refine at_iload_n (i := 2) 2 27 rfl (by decide +kernel) rfl ?_
      refine at_ishr 28 rfl (by decide +kernel) ?_
      refine at_i2b 29 rfl (by decide +kernel) ?_
      obtain ⟨k6, h⟩ := h
      obtain ⟨v7, h⟩ := h
      refine at_bast 30 rfl (by decide +kernel) k6 v7 (fun m8 e9 => ?_)
      replace h := h m8 e9
      have x10 : Ext m m8 := by rw [e9]; exact Ext.sI _ _ _ _
      have k11 : mK m8 t = 10 := x10.k k2 (by decide)
      have k12 : mK m8 b4 = 14 := x10.k k6 (by decide)
      have e13 : mR m8 t 0 = some b4 := x10.r k2 (by decide) rfl e5
      refine at_aload_n (i := 0) 0 31 rfl (by decide +kernel) rfl ?_
      refine at_dup 32 rfl (by decide +kernel) (va_rf_cat _) ?_
      refine at_get (index := 29) (v := .int (mI m8 t 4)) cok9 4 35 rfl (by decide +kernel) k11 (by decide +kernel) tw_348 rfl ?_
      refine at_iconst (n := 1) (1 : Int32) 36 rfl (by decide +kernel) (by decide +kernel) ?_
      refine at_iadd 37 rfl (by decide +kernel) ?_
      refine at_putI (index := 29) cok9 4 40 rfl (by decide +kernel) k11 (by decide +kernel) tw_348 rfl rfl rfl (fun m14 e15 => ?_)
      replace h := h m14 e15
      have x16 : Ext m8 m14 := by rw [e15]; exact Ext.sI _ _ _ _
      have k17 : mK m14 t = 10 := x16.k k11 (by decide)
      have k18 : mK m14 b4 = 14 := x16.k k12 (by decide)
      have e19 : mR m14 t 0 = some b4 := x16.r k11 (by decide) rfl e13
      refine at_iinc (i := 2) (n := (-8)) (lc' := [(0, va_rf (some t)), (1, .int (l1)), (2, .int (l2 + (-8 : Int32)))]) (l2 + (-8 : Int32)) 2 [1, 2, 0] 43 rfl (by decide +kernel) rfl (by rw [show Int32.ofInt (-8) = (-8 : Int32) from by decide +kernel]) (by decide +kernel) rfl ?_
      refine at_goto (off := (-40)) 3 (by decide +kernel) (by decide +kernel) ?_
      exact h
set_option maxRecDepth 20000 in
set_option maxHeartbeats 4000000 in
theorem en_Tape_append (g : Gc) {lv : Nat} {t : Nat} {l1 : Int32} {m : Mm} {Q : Mm → Prop} (h : At g M_Tape_append (lv + 1) 3 [(0, va_rf (some t)), (1, .int (l1)), (2, .int ((24 : Int32)))] [] m (QV Q)) : CV g M_Tape_append (lv + 1) [va_rf (some t), .int (l1)] m Q := by
  refine Call.of (by decide +kernel) (Nat.le_of_ble_eq_true rfl) ?_
  show At g M_Tape_append (lv + 1) 0 [(0, va_rf (some t)), (1, .int (l1))] [] m (QV Q)
  refine at_bipush (n := 24) (24 : Int32) 2 rfl (by decide +kernel) (by decide +kernel) ?_
  refine at_istore_n (i := 2) (lc' := [(0, va_rf (some t)), (1, .int (l1)), (2, .int ((24 : Int32)))]) [1, 2, 0] 3 rfl (by decide +kernel) (by decide +kernel) rfl ?_
  exact h
set_option maxRecDepth 20000 in
set_option maxHeartbeats 4000000 in
theorem bk_Tape_readLaw_87 (g : Gc) {lv : Nat} {t : Nat} {l2 : Int32} {m : Mm} {Q : Int32 → Mm → Prop} (h : if (l2) = 0 then (Q (0 : Int32) m) else (mK m t = 10 ∧ (∃ b3, mR m t 1 = some b3 ∧ (mK m b3 = 15 ∧ (vp_in (mI m t 7) (mN m b3) ∧ (if (mI m b3 (mI m t 7).toNatClampNeg) = ((2 : Int32)) then (Q (1 : Int32) m) else (CI g M_Tape_refuse lv [va_rf (some t)] m (fun x8 m9 => (if (x8) = 0 then (Q (0 : Int32) m9) else (Q (1 : Int32) m9)))))))))) : At g M_Tape_readLaw (lv + 1) 87 [(0, va_rf (some t)), (2, .int (l2))] [] m (QI Q) := by
  refine at_iload_n (i := 2) 1 88 rfl (by decide +kernel) rfl ?_
  refine at_if_eq (off := 27) 115 91 rfl (by decide +kernel) (by decide +kernel) (fun c1 => ?_) (fun c1 => ?_)
  · rw [if_pos c1] at h
    refine at_iconst (n := 0) (0 : Int32) 116 rfl (by decide +kernel) (by decide +kernel) ?_
    exact at_zret rfl (by decide +kernel) (Or.inl rfl) h
  · rw [if_neg c1] at h
    refine at_aload_n (i := 0) 0 92 rfl (by decide +kernel) rfl ?_
    obtain ⟨k2, h⟩ := h
    refine at_get (index := 15) (v := va_rf (mR m t 1)) cok9 1 95 rfl (by decide +kernel) k2 (by decide +kernel) tw_345 rfl ?_
    obtain ⟨b3, e4, h⟩ := h
    rw [e4]
    refine at_aload_n (i := 0) 0 96 rfl (by decide +kernel) rfl ?_
    refine at_get (index := 44) (v := .int (mI m t 7)) cok9 7 99 rfl (by decide +kernel) k2 (by decide +kernel) tw_353 rfl ?_
    obtain ⟨k5, h⟩ := h
    obtain ⟨v6, h⟩ := h
    refine at_iald 100 rfl (by decide +kernel) k5 v6 ?_
    refine at_iconst (n := 2) (2 : Int32) 101 rfl (by decide +kernel) (by decide +kernel) ?_
    refine at_icmp_eq (off := 10) 111 104 rfl (by decide +kernel) (by decide +kernel) (fun c7 => ?_) (fun c7 => ?_)
    · rw [if_pos c7] at h
      refine at_iconst (n := 1) (1 : Int32) 112 rfl (by decide +kernel) (by decide +kernel) ?_
      refine at_goto (off := 4) 116 (by decide +kernel) (by decide +kernel) ?_
      exact at_zret rfl (by decide +kernel) (Or.inr rfl) h
    · rw [if_neg c7] at h
      refine at_aload_n (i := 0) 0 105 rfl (by decide +kernel) rfl ?_
      refine at_callV mb_Tape_refuse tw_617 tw_9 cok9 k2 (index := 57) tw_615 [] [] rfl rfl (by decide) 108 rfl (by decide +kernel) (Call.toI (CI.monoE h (fun x8 m9 h y10 => ?_)))
      have k11 : mK m9 t = 10 := y10.k k2 (by decide)
      have k12 : mK m9 b3 = 15 := y10.k k5 (by decide)
      have e13 : mR m9 t 1 = some b3 := y10.r k2 (by decide) rfl e4
      refine at_if_eq (off := 7) 115 111 rfl (by decide +kernel) (by decide +kernel) (fun c14 => ?_) (fun c14 => ?_)
      · rw [if_pos c14] at h
        refine at_iconst (n := 0) (0 : Int32) 116 rfl (by decide +kernel) (by decide +kernel) ?_
        exact at_zret rfl (by decide +kernel) (Or.inl rfl) h
      · rw [if_neg c14] at h
        refine at_iconst (n := 1) (1 : Int32) 112 rfl (by decide +kernel) (by decide +kernel) ?_
        refine at_goto (off := 4) 116 (by decide +kernel) (by decide +kernel) ?_
        exact at_zret rfl (by decide +kernel) (Or.inr rfl) h
set_option maxRecDepth 20000 in
set_option maxHeartbeats 4000000 in
theorem bk_Tape_readLaw_47 (g : Gc) {lv : Nat} {t : Nat} {l2 : Int32} {l3 : Int32} {m : Mm} {Q : Int32 → Mm → Prop} (h : if ((300 : Int32)) ≤ (l3) then (At g M_Tape_readLaw (lv + 1) 87 [(0, va_rf (some t)), (2, .int (l2))] [] m (QI Q)) else (if (l2) = 0 then (At g M_Tape_readLaw (lv + 1) 87 [(0, va_rf (some t)), (2, .int (l2))] [] m (QI Q)) else (mK m t = 10 ∧ (∃ b4, mR m t 1 = some b4 ∧ (mK m b4 = 15 ∧ (vp_in (mI m t 7) (mN m b4) ∧ (if (mI m b4 (mI m t 7).toNatClampNeg) = ((13 : Int32)) then (CV g M_Tape_step lv [va_rf (some t)] m (fun m9 => (CI g M_Tape_readClause lv [va_rf (some t)] m9 (fun x14 m15 => (At g M_Tape_readLaw (lv + 1) 47 [(0, va_rf (some t)), (2, .int (x14)), (3, .int (l3 + (1 : Int32)))] [] m15 (QI Q)))))) else (At g M_Tape_readLaw (lv + 1) 87 [(0, va_rf (some t)), (2, .int (l2))] [] m (QI Q))))))))) : At g M_Tape_readLaw (lv + 1) 47 [(0, va_rf (some t)), (2, .int (l2)), (3, .int (l3))] [] m (QI Q) := by
  refine at_iload_n (i := 3) 2 48 rfl (by decide +kernel) rfl ?_
  refine at_sipush (n := 300) (300 : Int32) 51 rfl (by decide +kernel) (by decide +kernel) ?_
  refine at_icmp_ge (off := 36) 87 54 rfl (by decide +kernel) (by decide +kernel) (fun c1 => ?_) (fun c1 => ?_)
  · rw [if_pos c1] at h
    exact At.sub [0, 1] rfl h
  · rw [if_neg c1] at h
    refine at_iload_n (i := 2) 1 55 rfl (by decide +kernel) rfl ?_
    refine at_if_eq (off := 32) 87 58 rfl (by decide +kernel) (by decide +kernel) (fun c2 => ?_) (fun c2 => ?_)
    · rw [if_pos c2] at h
      exact At.sub [0, 1] rfl h
    · rw [if_neg c2] at h
      refine at_aload_n (i := 0) 0 59 rfl (by decide +kernel) rfl ?_
      obtain ⟨k3, h⟩ := h
      refine at_get (index := 15) (v := va_rf (mR m t 1)) cok9 1 62 rfl (by decide +kernel) k3 (by decide +kernel) tw_345 rfl ?_
      obtain ⟨b4, e5, h⟩ := h
      rw [e5]
      refine at_aload_n (i := 0) 0 63 rfl (by decide +kernel) rfl ?_
      refine at_get (index := 44) (v := .int (mI m t 7)) cok9 7 66 rfl (by decide +kernel) k3 (by decide +kernel) tw_353 rfl ?_
      obtain ⟨k6, h⟩ := h
      obtain ⟨v7, h⟩ := h
      refine at_iald 67 rfl (by decide +kernel) k6 v7 ?_
      refine at_bipush (n := 13) (13 : Int32) 69 rfl (by decide +kernel) (by decide +kernel) ?_
      refine at_icmp_ne (off := 18) 87 72 rfl (by decide +kernel) (by decide +kernel) (fun c8 => ?_) (fun c8 => ?_)
      · rw [if_neg c8] at h
        exact At.sub [0, 1] rfl h
      · rw [if_pos c8] at h
        refine at_aload_n (i := 0) 0 73 rfl (by decide +kernel) rfl ?_
        refine at_callV mb_Tape_step tw_621 tw_10 cok9 k3 (index := 54) tw_619 [] [] rfl rfl (by decide) 76 rfl (by decide +kernel) (Call.toV (CV.monoE h (fun m9 h y10 => ?_)))
        have k11 : mK m9 t = 10 := y10.k k3 (by decide)
        have k12 : mK m9 b4 = 15 := y10.k k6 (by decide)
        have e13 : mR m9 t 1 = some b4 := y10.r k3 (by decide) rfl e5
        refine at_aload_n (i := 0) 0 77 rfl (by decide +kernel) rfl ?_
        refine at_callV mb_Tape_readClause tw_612 tw_8 cok9 k11 (index := 50) tw_610 [] [] rfl rfl (by decide) 80 rfl (by decide +kernel) (Call.toI (CI.monoE h (fun x14 m15 h y16 => ?_)))
        have k17 : mK m15 t = 10 := y16.k k11 (by decide)
        have k18 : mK m15 b4 = 15 := y16.k k12 (by decide)
        have e19 : mR m15 t 1 = some b4 := y16.r k11 (by decide) rfl e13
        refine at_istore_n (i := 2) (lc' := [(0, va_rf (some t)), (2, .int (x14)), (3, .int (l3))]) [1, 0, 2] 81 rfl (by decide +kernel) (by decide +kernel) rfl ?_
        refine at_iinc (i := 3) (n := 1) (lc' := [(0, va_rf (some t)), (2, .int (x14)), (3, .int (l3 + (1 : Int32)))]) (l3 + (1 : Int32)) 2 [1, 2, 0] 84 rfl (by decide +kernel) rfl (by rw [show Int32.ofInt 1 = (1 : Int32) from by decide +kernel]) (by decide +kernel) rfl ?_
        refine at_goto (off := (-37)) 47 (by decide +kernel) (by decide +kernel) ?_
        exact h
set_option maxRecDepth 20000 in
set_option maxHeartbeats 4000000 in
theorem en_Tape_readLaw (g : Gc) {lv : Nat} {t : Nat} {l1 : Option Nat} {m : Mm} {Q : Int32 → Mm → Prop} (h : mK m t = 10 ∧ (∀ m2, m2 = sR m t 8 l1 → (∃ b6, mR m2 t 8 = some b6 ∧ (mK m2 b6 = 5 ∧ (∀ m9, m9 = sI m2 b6 5 (0 : Int32) → (∃ b14, mR m9 t 8 = some b14 ∧ (mK m9 b14 = 5 ∧ (∀ m17, m17 = sI m9 b14 6 (0 : Int32) → (∀ m23, m23 = sI m17 t 5 (-1 : Int32) → (∀ m29, m29 = sI m23 t 7 (0 : Int32) → (CV g M_Tape_scan lv [va_rf (some t)] m29 (fun m35 => (∀ m40, m40 = sI m35 t 4 (0 : Int32) → (CI g M_Tape_readClause lv [va_rf (some t)] m40 (fun x46 m47 => (At g M_Tape_readLaw (lv + 1) 47 [(0, va_rf (some t)), (2, .int (x46)), (3, .int ((0 : Int32)))] [] m47 (QI Q))))))))))))))))) : CI g M_Tape_readLaw (lv + 1) [va_rf (some t), va_rf (l1)] m Q := by
  refine Call.of (by decide +kernel) (by simp [lg_sl, va_rf_cat, cat_int, cat_long, M_Tape_readLaw]) ?_
  rw [show lv_args 0 [va_rf (some t), va_rf (l1)] = [(0, va_rf (some t)), (1, va_rf (l1))] from by simp [lv_args, va_rf_cat, cat_int, cat_long]]
  refine at_aload_n (i := 0) 0 1 rfl (by decide +kernel) rfl ?_
  refine at_aload_n (i := 1) 1 2 rfl (by decide +kernel) rfl ?_
  obtain ⟨k1, h⟩ := h
  refine at_putR (index := 32) cok9 8 5 rfl (by decide +kernel) k1 rfl (by decide +kernel) tw_354 rfl rfl (Or.inl ⟨_, rfl⟩) (fun m2 e3 => ?_)
  replace h := h m2 e3
  have x4 : Ext m m2 := by rw [e3]; exact Ext.sR _ (Or.inl (by rw [k1]; rfl))
  have k5 : mK m2 t = 10 := x4.k k1 (by decide)
  refine at_aload_n (i := 0) 0 6 rfl (by decide +kernel) rfl ?_
  refine at_get (index := 32) (v := va_rf (mR m2 t 8)) cok9 8 9 rfl (by decide +kernel) k5 (by decide +kernel) tw_354 rfl ?_
  refine at_iconst (n := 0) (0 : Int32) 10 rfl (by decide +kernel) (by decide +kernel) ?_
  obtain ⟨b6, e7, h⟩ := h
  rw [e7]
  obtain ⟨k8, h⟩ := h
  refine at_putI (index := 36) cok4 5 13 rfl (by decide +kernel) k8 (by decide +kernel) tw_395 rfl rfl rfl (fun m9 e10 => ?_)
  replace h := h m9 e10
  have x11 : Ext m2 m9 := by rw [e10]; exact Ext.sI _ _ _ _
  have k12 : mK m9 t = 10 := x11.k k5 (by decide)
  have k13 : mK m9 b6 = 5 := x11.k k8 (by decide)
  refine at_aload_n (i := 0) 0 14 rfl (by decide +kernel) rfl ?_
  refine at_get (index := 32) (v := va_rf (mR m9 t 8)) cok9 8 17 rfl (by decide +kernel) k12 (by decide +kernel) tw_354 rfl ?_
  refine at_iconst (n := 0) (0 : Int32) 18 rfl (by decide +kernel) (by decide +kernel) ?_
  obtain ⟨b14, e15, h⟩ := h
  rw [e15]
  obtain ⟨k16, h⟩ := h
  refine at_putI (index := 41) cok4 6 21 rfl (by decide +kernel) k16 (by decide +kernel) tw_399 rfl rfl rfl (fun m17 e18 => ?_)
  replace h := h m17 e18
  have x19 : Ext m9 m17 := by rw [e18]; exact Ext.sI _ _ _ _
  have k20 : mK m17 t = 10 := x19.k k12 (by decide)
  have k21 : mK m17 b6 = 5 := x19.k k13 (by decide)
  have k22 : mK m17 b14 = 5 := x19.k k16 (by decide)
  refine at_aload_n (i := 0) 0 22 rfl (by decide +kernel) rfl ?_
  refine at_iconst (n := (-1)) (-1 : Int32) 23 rfl (by decide +kernel) (by decide +kernel) ?_
  refine at_putI (index := 25) cok9 5 26 rfl (by decide +kernel) k20 (by decide +kernel) tw_350 rfl rfl rfl (fun m23 e24 => ?_)
  replace h := h m23 e24
  have x25 : Ext m17 m23 := by rw [e24]; exact Ext.sI _ _ _ _
  have k26 : mK m23 t = 10 := x25.k k20 (by decide)
  have k27 : mK m23 b6 = 5 := x25.k k21 (by decide)
  have k28 : mK m23 b14 = 5 := x25.k k22 (by decide)
  refine at_aload_n (i := 0) 0 27 rfl (by decide +kernel) rfl ?_
  refine at_iconst (n := 0) (0 : Int32) 28 rfl (by decide +kernel) (by decide +kernel) ?_
  refine at_putI (index := 44) cok9 7 31 rfl (by decide +kernel) k26 (by decide +kernel) tw_353 rfl rfl rfl (fun m29 e30 => ?_)
  replace h := h m29 e30
  have x31 : Ext m23 m29 := by rw [e30]; exact Ext.sI _ _ _ _
  have k32 : mK m29 t = 10 := x31.k k26 (by decide)
  have k33 : mK m29 b6 = 5 := x31.k k27 (by decide)
  have k34 : mK m29 b14 = 5 := x31.k k28 (by decide)
  refine at_aload_n (i := 0) 0 32 rfl (by decide +kernel) rfl ?_
  refine at_callV mb_Tape_scan tw_513 tw_0 cok9 k32 (index := 47) tw_511 [] [] rfl rfl (by decide) 35 rfl (by decide +kernel) (Call.toV (CV.monoE h (fun m35 h y36 => ?_)))
  have k37 : mK m35 t = 10 := y36.k k32 (by decide)
  have k38 : mK m35 b6 = 5 := y36.k k33 (by decide)
  have k39 : mK m35 b14 = 5 := y36.k k34 (by decide)
  refine at_aload_n (i := 0) 0 36 rfl (by decide +kernel) rfl ?_
  refine at_iconst (n := 0) (0 : Int32) 37 rfl (by decide +kernel) (by decide +kernel) ?_
  refine at_putI (index := 29) cok9 4 40 rfl (by decide +kernel) k37 (by decide +kernel) tw_348 rfl rfl rfl (fun m40 e41 => ?_)
  replace h := h m40 e41
  have x42 : Ext m35 m40 := by rw [e41]; exact Ext.sI _ _ _ _
  have k43 : mK m40 t = 10 := x42.k k37 (by decide)
  have k44 : mK m40 b6 = 5 := x42.k k38 (by decide)
  have k45 : mK m40 b14 = 5 := x42.k k39 (by decide)
  refine at_aload_n (i := 0) 0 41 rfl (by decide +kernel) rfl ?_
  refine at_callV mb_Tape_readClause tw_612 tw_8 cok9 k43 (index := 50) tw_610 [] [] rfl rfl (by decide) 44 rfl (by decide +kernel) (Call.toI (CI.monoE h (fun x46 m47 h y48 => ?_)))
  have k49 : mK m47 t = 10 := y48.k k43 (by decide)
  have k50 : mK m47 b6 = 5 := y48.k k44 (by decide)
  have k51 : mK m47 b14 = 5 := y48.k k45 (by decide)
  refine at_istore_n (i := 2) (lc' := [(0, va_rf (some t)), (2, .int (x46))]) [1, 0] 45 rfl (by decide +kernel) (by decide +kernel) (by generalize l1 = rr; cases rr <;> rfl) ?_
  refine at_iconst (n := 0) (0 : Int32) 46 rfl (by decide +kernel) (by decide +kernel) ?_
  refine at_istore_n (i := 3) (lc' := [(0, va_rf (some t)), (2, .int (x46)), (3, .int ((0 : Int32)))]) [1, 2, 0] 47 rfl (by decide +kernel) (by decide +kernel) rfl ?_
  exact h
set_option maxRecDepth 20000 in
set_option maxHeartbeats 4000000 in
theorem bk_Tape_scan_112 (g : Gc) {lv : Nat} {t : Nat} {l1 : Int32} {l2 : Int32} {m : Mm} {Q : Mm → Prop} (h : At g M_Tape_scan (lv + 1) 9 [(0, va_rf (some t)), (2, .int (imx (l2 + (1 : Int32)) l1))] [] m (QV Q)) : At g M_Tape_scan (lv + 1) 112 [(0, va_rf (some t)), (1, .int (l1)), (2, .int (l2))] [] m (QV Q) := by
  refine at_iload_n (i := 2) 2 113 rfl (by decide +kernel) rfl ?_
  refine at_iconst (n := 1) (1 : Int32) 114 rfl (by decide +kernel) (by decide +kernel) ?_
  refine at_iadd 115 rfl (by decide +kernel) ?_
  refine at_iload_n (i := 1) 1 116 rfl (by decide +kernel) rfl ?_
  refine at_imx (index := 74) 119 rfl (by decide +kernel) tw_609 (by decide) ?_
  refine at_istore_n (i := 2) (lc' := [(0, va_rf (some t)), (2, .int (imx (l2 + (1 : Int32)) l1))]) [1, 0] 120 rfl (by decide +kernel) (by decide +kernel) rfl ?_
  refine at_goto (off := (-111)) 9 (by decide +kernel) (by decide +kernel) ?_
  exact h
set_option maxRecDepth 20000 in
set_option maxHeartbeats 4000000 in
theorem bk_Tape_scan_101 (g : Gc) {lv : Nat} {t : Nat} {l1 : Int32} {l2 : Int32} {s0 : Option Nat} {s1 : Int32} {s2 : Int32} {m : Mm} {Q : Mm → Prop} (h : ∃ b1, s0 = some b1 ∧ (mK m b1 = 15 ∧ (vp_in s1 (mN m b1) ∧ (∀ m5, m5 = sI m b1 s1.toNatClampNeg s2 → (mK m5 t = 10 ∧ (∀ m10, m10 = sI m5 t 6 ((mI m5 t 6) + (1 : Int32)) → (At g M_Tape_scan (lv + 1) 112 [(0, va_rf (some t)), (1, .int (l1)), (2, .int (l2))] [] m10 (QV Q)))))))) : At g M_Tape_scan (lv + 1) 101 [(0, va_rf (some t)), (1, .int (l1)), (2, .int (l2))] [.int (s2), .int (s1), va_rf (s0)] m (QV Q) := by
  obtain ⟨b1, e2, h⟩ := h
  rw [e2]
  obtain ⟨k3, h⟩ := h
  obtain ⟨v4, h⟩ := h
  refine at_iast 102 rfl (by decide +kernel) k3 v4 (fun m5 e6 => ?_)
  replace h := h m5 e6
  have x7 : Ext m m5 := by rw [e6]; exact Ext.sI _ _ _ _
  have k8 : mK m5 b1 = 15 := x7.k k3 (by decide)
  refine at_aload_n (i := 0) 0 103 rfl (by decide +kernel) rfl ?_
  refine at_dup 104 rfl (by decide +kernel) (va_rf_cat _) ?_
  obtain ⟨k9, h⟩ := h
  refine at_get (index := 60) (v := .int (mI m5 t 6)) cok9 6 107 rfl (by decide +kernel) k9 (by decide +kernel) tw_352 rfl ?_
  refine at_iconst (n := 1) (1 : Int32) 108 rfl (by decide +kernel) (by decide +kernel) ?_
  refine at_iadd 109 rfl (by decide +kernel) ?_
  refine at_putI (index := 60) cok9 6 112 rfl (by decide +kernel) k9 (by decide +kernel) tw_352 rfl rfl rfl (fun m10 e11 => ?_)
  replace h := h m10 e11
  have x12 : Ext m5 m10 := by rw [e11]; exact Ext.sI _ _ _ _
  have k13 : mK m10 b1 = 15 := x12.k k8 (by decide)
  have k14 : mK m10 t = 10 := x12.k k9 (by decide)
  exact h
set_option maxRecDepth 20000 in
set_option maxHeartbeats 4000000 in
theorem bk_Tape_scan_9 (g : Gc) {lv : Nat} {t : Nat} {l2 : Int32} {m : Mm} {Q : Mm → Prop} (h : mK m t = 10 ∧ (if (mI m t 4) ≤ (l2) then (∃ b3, mR m t 1 = some b3 ∧ (mK m b3 = 15 ∧ (vp_in (mI m t 6) (mN m b3) ∧ (∀ m7, m7 = sI m b3 (mI m t 6).toNatClampNeg (2 : Int32) → (∃ b13, mR m7 t 2 = some b13 ∧ (mK m7 b13 = 15 ∧ (vp_in (mI m7 t 6) (mN m7 b13) ∧ (∀ m17, m17 = sI m7 b13 (mI m7 t 6).toNatClampNeg (mI m7 t 4) → (∀ m25, m25 = sI m17 t 6 ((mI m17 t 6) + (1 : Int32)) → (Q m25)))))))))) else (CI g M_Tape_stopOf lv [va_rf (some t), .int (l2)] m (fun x33 m34 => (∃ b37, mR m34 t 0 = some b37 ∧ (mK m34 b37 = 14 ∧ (vp_in l2 (mN m34 b37) ∧ (if (mI m34 b37 l2.toNatClampNeg) = ((32 : Int32)) then (At g M_Tape_scan (lv + 1) 112 [(0, va_rf (some t)), (1, .int (x33)), (2, .int (l2))] [] m34 (QV Q)) else (vp_in l2 (mN m34 b37) ∧ (if (mI m34 b37 l2.toNatClampNeg) = ((10 : Int32)) then (At g M_Tape_scan (lv + 1) 112 [(0, va_rf (some t)), (1, .int (x33)), (2, .int (l2))] [] m34 (QV Q)) else (∃ b44, mR m34 t 1 = some b44 ∧ (CI g M_Tape_kindOf lv [va_rf (some t), .int (l2), .int (x33)] m34 (fun x46 m47 => (mK m47 b44 = 15 ∧ (vp_in (mI m34 t 6) (mN m47 b44) ∧ (∀ m55, m55 = sI m47 b44 (mI m34 t 6).toNatClampNeg x46 → (∃ b63, mR m55 t 2 = some b63 ∧ (mK m55 b63 = 15 ∧ (vp_in (mI m55 t 6) (mN m55 b63) ∧ (∀ m67, m67 = sI m55 b63 (mI m55 t 6).toNatClampNeg l2 → (∃ b77, mR m67 t 3 = some b77 ∧ (vp_in (mI m67 t 6) (mN m67 b44) ∧ (if (mI m67 b44 (mI m67 t 6).toNatClampNeg) = ((3 : Int32)) then (CI g M_Tape_numberOf lv [va_rf (some t), .int (l2), .int (x33)] m67 (fun x81 m82 => (At g M_Tape_scan (lv + 1) 101 [(0, va_rf (some t)), (1, .int (x33)), (2, .int (l2))] [.int (x81), .int (mI m67 t 6), va_rf (some b77)] m82 (QV Q)))) else (At g M_Tape_scan (lv + 1) 101 [(0, va_rf (some t)), (1, .int (x33)), (2, .int (l2))] [.int ((0 : Int32)), .int (mI m67 t 6), va_rf (some b77)] m67 (QV Q))))))))))))))))))))))))) : At g M_Tape_scan (lv + 1) 9 [(0, va_rf (some t)), (2, .int (l2))] [] m (QV Q) := by
  refine at_iload_n (i := 2) 1 10 rfl (by decide +kernel) rfl ?_
  refine at_aload_n (i := 0) 0 11 rfl (by decide +kernel) rfl ?_
  obtain ⟨k1, h⟩ := h
  refine at_get (index := 29) (v := .int (mI m t 4)) cok9 4 14 rfl (by decide +kernel) k1 (by decide +kernel) tw_348 rfl ?_
  refine at_icmp_ge (off := 109) 123 17 rfl (by decide +kernel) (by decide +kernel) (fun c2 => ?_) (fun c2 => ?_)
  · rw [if_pos c2] at h
    refine at_aload_n (i := 0) 0 124 rfl (by decide +kernel) rfl ?_
    refine at_get (index := 15) (v := va_rf (mR m t 1)) cok9 1 127 rfl (by decide +kernel) k1 (by decide +kernel) tw_345 rfl ?_
    obtain ⟨b3, e4, h⟩ := h
    rw [e4]
    refine at_aload_n (i := 0) 0 128 rfl (by decide +kernel) rfl ?_
    refine at_get (index := 60) (v := .int (mI m t 6)) cok9 6 131 rfl (by decide +kernel) k1 (by decide +kernel) tw_352 rfl ?_
    refine at_iconst (n := 2) (2 : Int32) 132 rfl (by decide +kernel) (by decide +kernel) ?_
    obtain ⟨k5, h⟩ := h
    obtain ⟨v6, h⟩ := h
    refine at_iast 133 rfl (by decide +kernel) k5 v6 (fun m7 e8 => ?_)
    replace h := h m7 e8
    have x9 : Ext m m7 := by rw [e8]; exact Ext.sI _ _ _ _
    have k10 : mK m7 t = 10 := x9.k k1 (by decide)
    have k11 : mK m7 b3 = 15 := x9.k k5 (by decide)
    have e12 : mR m7 t 1 = some b3 := x9.r k1 (by decide) rfl e4
    refine at_aload_n (i := 0) 0 134 rfl (by decide +kernel) rfl ?_
    refine at_get (index := 19) (v := va_rf (mR m7 t 2)) cok9 2 137 rfl (by decide +kernel) k10 (by decide +kernel) tw_346 rfl ?_
    obtain ⟨b13, e14, h⟩ := h
    rw [e14]
    refine at_aload_n (i := 0) 0 138 rfl (by decide +kernel) rfl ?_
    refine at_get (index := 60) (v := .int (mI m7 t 6)) cok9 6 141 rfl (by decide +kernel) k10 (by decide +kernel) tw_352 rfl ?_
    refine at_aload_n (i := 0) 0 142 rfl (by decide +kernel) rfl ?_
    refine at_get (index := 29) (v := .int (mI m7 t 4)) cok9 4 145 rfl (by decide +kernel) k10 (by decide +kernel) tw_348 rfl ?_
    obtain ⟨k15, h⟩ := h
    obtain ⟨v16, h⟩ := h
    refine at_iast 146 rfl (by decide +kernel) k15 v16 (fun m17 e18 => ?_)
    replace h := h m17 e18
    have x19 : Ext m7 m17 := by rw [e18]; exact Ext.sI _ _ _ _
    have k20 : mK m17 t = 10 := x19.k k10 (by decide)
    have k21 : mK m17 b3 = 15 := x19.k k11 (by decide)
    have k22 : mK m17 b13 = 15 := x19.k k15 (by decide)
    have e23 : mR m17 t 1 = some b3 := x19.r k10 (by decide) rfl e12
    have e24 : mR m17 t 2 = some b13 := x19.r k10 (by decide) rfl e14
    refine at_aload_n (i := 0) 0 147 rfl (by decide +kernel) rfl ?_
    refine at_dup 148 rfl (by decide +kernel) (va_rf_cat _) ?_
    refine at_get (index := 60) (v := .int (mI m17 t 6)) cok9 6 151 rfl (by decide +kernel) k20 (by decide +kernel) tw_352 rfl ?_
    refine at_iconst (n := 1) (1 : Int32) 152 rfl (by decide +kernel) (by decide +kernel) ?_
    refine at_iadd 153 rfl (by decide +kernel) ?_
    refine at_putI (index := 60) cok9 6 156 rfl (by decide +kernel) k20 (by decide +kernel) tw_352 rfl rfl rfl (fun m25 e26 => ?_)
    replace h := h m25 e26
    have x27 : Ext m17 m25 := by rw [e26]; exact Ext.sI _ _ _ _
    have k28 : mK m25 t = 10 := x27.k k20 (by decide)
    have k29 : mK m25 b3 = 15 := x27.k k21 (by decide)
    have k30 : mK m25 b13 = 15 := x27.k k22 (by decide)
    have e31 : mR m25 t 1 = some b3 := x27.r k20 (by decide) rfl e23
    have e32 : mR m25 t 2 = some b13 := x27.r k20 (by decide) rfl e24
    exact at_vret rfl (by decide +kernel) h
  · rw [if_neg c2] at h
    refine at_aload_n (i := 0) 0 18 rfl (by decide +kernel) rfl ?_
    refine at_iload_n (i := 2) 1 19 rfl (by decide +kernel) rfl ?_
    refine at_callV mb_Tape_stopOf tw_517 tw_1 cok9 k1 (index := 63) tw_515 [.int (l2)] [] rfl rfl (by decide) 22 rfl (by decide +kernel) (Call.toI (CI.monoE h (fun x33 m34 h y35 => ?_)))
    have k36 : mK m34 t = 10 := y35.k k1 (by decide)
    refine at_istore_n (i := 1) (lc' := [(0, va_rf (some t)), (1, .int (x33)), (2, .int (l2))]) [1, 0, 2] 23 rfl (by decide +kernel) (by decide +kernel) rfl ?_
    refine at_aload_n (i := 0) 0 24 rfl (by decide +kernel) rfl ?_
    refine at_get (index := 9) (v := va_rf (mR m34 t 0)) cok9 0 27 rfl (by decide +kernel) k36 (by decide +kernel) tw_344 rfl ?_
    obtain ⟨b37, e38, h⟩ := h
    rw [e38]
    refine at_iload_n (i := 2) 2 28 rfl (by decide +kernel) rfl ?_
    obtain ⟨k39, h⟩ := h
    obtain ⟨v40, h⟩ := h
    refine at_bald 29 rfl (by decide +kernel) k39 v40 ?_
    refine at_bipush (n := 32) (32 : Int32) 31 rfl (by decide +kernel) (by decide +kernel) ?_
    refine at_icmp_eq (off := 81) 112 34 rfl (by decide +kernel) (by decide +kernel) (fun c41 => ?_) (fun c41 => ?_)
    · rw [if_pos c41] at h
      exact h
    · rw [if_neg c41] at h
      refine at_aload_n (i := 0) 0 35 rfl (by decide +kernel) rfl ?_
      refine at_get (index := 9) (v := va_rf (mR m34 t 0)) cok9 0 38 rfl (by decide +kernel) k36 (by decide +kernel) tw_344 rfl ?_
      rw [e38]
      refine at_iload_n (i := 2) 2 39 rfl (by decide +kernel) rfl ?_
      obtain ⟨v42, h⟩ := h
      refine at_bald 40 rfl (by decide +kernel) k39 v42 ?_
      refine at_bipush (n := 10) (10 : Int32) 42 rfl (by decide +kernel) (by decide +kernel) ?_
      refine at_icmp_eq (off := 70) 112 45 rfl (by decide +kernel) (by decide +kernel) (fun c43 => ?_) (fun c43 => ?_)
      · rw [if_pos c43] at h
        exact h
      · rw [if_neg c43] at h
        refine at_aload_n (i := 0) 0 46 rfl (by decide +kernel) rfl ?_
        refine at_get (index := 15) (v := va_rf (mR m34 t 1)) cok9 1 49 rfl (by decide +kernel) k36 (by decide +kernel) tw_345 rfl ?_
        obtain ⟨b44, e45, h⟩ := h
        rw [e45]
        refine at_aload_n (i := 0) 0 50 rfl (by decide +kernel) rfl ?_
        refine at_get (index := 60) (v := .int (mI m34 t 6)) cok9 6 53 rfl (by decide +kernel) k36 (by decide +kernel) tw_352 rfl ?_
        refine at_aload_n (i := 0) 0 54 rfl (by decide +kernel) rfl ?_
        refine at_iload_n (i := 2) 2 55 rfl (by decide +kernel) rfl ?_
        refine at_iload_n (i := 1) 1 56 rfl (by decide +kernel) rfl ?_
        refine at_callV mb_Tape_kindOf tw_529 tw_4 cok9 k36 (index := 67) tw_527 [.int (l2), .int (x33)] [.int (mI m34 t 6), va_rf (some b44)] rfl rfl (by simp [va_rf_cat, cat_int, cat_long]) 59 rfl (by decide +kernel) (Call.toI (CI.monoE h (fun x46 m47 h y48 => ?_)))
        have k49 : mK m47 t = 10 := y48.k k36 (by decide)
        have k50 : mK m47 b37 = 14 := y48.k k39 (by decide)
        have e51 : mR m47 t 0 = some b37 := y48.r k36 (by decide) rfl e38
        have e52 : mR m47 t 1 = some b44 := y48.r k36 (by decide) rfl e45
        obtain ⟨k53, h⟩ := h
        obtain ⟨v54, h⟩ := h
        refine at_iast 60 rfl (by decide +kernel) k53 v54 (fun m55 e56 => ?_)
        replace h := h m55 e56
        have x57 : Ext m47 m55 := by rw [e56]; exact Ext.sI _ _ _ _
        have k58 : mK m55 t = 10 := x57.k k49 (by decide)
        have k59 : mK m55 b37 = 14 := x57.k k50 (by decide)
        have k60 : mK m55 b44 = 15 := x57.k k53 (by decide)
        have e61 : mR m55 t 0 = some b37 := x57.r k49 (by decide) rfl e51
        have e62 : mR m55 t 1 = some b44 := x57.r k49 (by decide) rfl e52
        refine at_aload_n (i := 0) 0 61 rfl (by decide +kernel) rfl ?_
        refine at_get (index := 19) (v := va_rf (mR m55 t 2)) cok9 2 64 rfl (by decide +kernel) k58 (by decide +kernel) tw_346 rfl ?_
        obtain ⟨b63, e64, h⟩ := h
        rw [e64]
        refine at_aload_n (i := 0) 0 65 rfl (by decide +kernel) rfl ?_
        refine at_get (index := 60) (v := .int (mI m55 t 6)) cok9 6 68 rfl (by decide +kernel) k58 (by decide +kernel) tw_352 rfl ?_
        refine at_iload_n (i := 2) 2 69 rfl (by decide +kernel) rfl ?_
        obtain ⟨k65, h⟩ := h
        obtain ⟨v66, h⟩ := h
        refine at_iast 70 rfl (by decide +kernel) k65 v66 (fun m67 e68 => ?_)
        replace h := h m67 e68
        have x69 : Ext m55 m67 := by rw [e68]; exact Ext.sI _ _ _ _
        have k70 : mK m67 t = 10 := x69.k k58 (by decide)
        have k71 : mK m67 b37 = 14 := x69.k k59 (by decide)
        have k72 : mK m67 b44 = 15 := x69.k k60 (by decide)
        have k73 : mK m67 b63 = 15 := x69.k k65 (by decide)
        have e74 : mR m67 t 0 = some b37 := x69.r k58 (by decide) rfl e61
        have e75 : mR m67 t 1 = some b44 := x69.r k58 (by decide) rfl e62
        have e76 : mR m67 t 2 = some b63 := x69.r k58 (by decide) rfl e64
        refine at_aload_n (i := 0) 0 71 rfl (by decide +kernel) rfl ?_
        refine at_get (index := 22) (v := va_rf (mR m67 t 3)) cok9 3 74 rfl (by decide +kernel) k70 (by decide +kernel) tw_347 rfl ?_
        obtain ⟨b77, e78, h⟩ := h
        rw [e78]
        refine at_aload_n (i := 0) 0 75 rfl (by decide +kernel) rfl ?_
        refine at_get (index := 60) (v := .int (mI m67 t 6)) cok9 6 78 rfl (by decide +kernel) k70 (by decide +kernel) tw_352 rfl ?_
        refine at_aload_n (i := 0) 0 79 rfl (by decide +kernel) rfl ?_
        refine at_get (index := 15) (v := va_rf (mR m67 t 1)) cok9 1 82 rfl (by decide +kernel) k70 (by decide +kernel) tw_345 rfl ?_
        rw [e75]
        refine at_aload_n (i := 0) 0 83 rfl (by decide +kernel) rfl ?_
        refine at_get (index := 60) (v := .int (mI m67 t 6)) cok9 6 86 rfl (by decide +kernel) k70 (by decide +kernel) tw_352 rfl ?_
        obtain ⟨v79, h⟩ := h
        refine at_iald 87 rfl (by decide +kernel) k72 v79 ?_
        refine at_iconst (n := 3) (3 : Int32) 88 rfl (by decide +kernel) (by decide +kernel) ?_
        refine at_icmp_ne (off := 12) 100 91 rfl (by decide +kernel) (by decide +kernel) (fun c80 => ?_) (fun c80 => ?_)
        · rw [if_neg c80] at h
          refine at_iconst (n := 0) (0 : Int32) 101 rfl (by decide +kernel) (by decide +kernel) ?_
          exact h
        · rw [if_pos c80] at h
          refine at_aload_n (i := 0) 0 92 rfl (by decide +kernel) rfl ?_
          refine at_iload_n (i := 2) 2 93 rfl (by decide +kernel) rfl ?_
          refine at_iload_n (i := 1) 1 94 rfl (by decide +kernel) rfl ?_
          refine at_callV mb_Tape_numberOf tw_602 tw_7 cok9 k70 (index := 71) tw_600 [.int (l2), .int (x33)] [.int (mI m67 t 6), va_rf (some b77)] rfl rfl (by simp [va_rf_cat, cat_int, cat_long]) 97 rfl (by decide +kernel) (Call.toI (CI.monoE h (fun x81 m82 h y83 => ?_)))
          have k84 : mK m82 t = 10 := y83.k k70 (by decide)
          have k85 : mK m82 b37 = 14 := y83.k k71 (by decide)
          have k86 : mK m82 b44 = 15 := y83.k k72 (by decide)
          have k87 : mK m82 b63 = 15 := y83.k k73 (by decide)
          have e88 : mR m82 t 0 = some b37 := y83.r k70 (by decide) rfl e74
          have e89 : mR m82 t 1 = some b44 := y83.r k70 (by decide) rfl e75
          have e90 : mR m82 t 2 = some b63 := y83.r k70 (by decide) rfl e76
          have e91 : mR m82 t 3 = some b77 := y83.r k70 (by decide) rfl e78
          refine at_goto (off := 4) 101 (by decide +kernel) (by decide +kernel) ?_
          exact h
set_option maxRecDepth 20000 in
set_option maxHeartbeats 4000000 in
theorem en_Tape_scan (g : Gc) {lv : Nat} {t : Nat} {m : Mm} {Q : Mm → Prop} (h : mK m t = 10 ∧ (∀ m2, m2 = sI m t 6 (0 : Int32) → (At g M_Tape_scan (lv + 1) 9 [(0, va_rf (some t)), (2, .int ((0 : Int32)))] [] m2 (QV Q)))) : CV g M_Tape_scan (lv + 1) [va_rf (some t)] m Q := by
  refine Call.of (by decide +kernel) (Nat.le_of_ble_eq_true rfl) ?_
  show At g M_Tape_scan (lv + 1) 0 [(0, va_rf (some t))] [] m (QV Q)
  refine at_aload_n (i := 0) 0 1 rfl (by decide +kernel) rfl ?_
  refine at_iconst (n := 0) (0 : Int32) 2 rfl (by decide +kernel) (by decide +kernel) ?_
  obtain ⟨k1, h⟩ := h
  refine at_putI (index := 60) cok9 6 5 rfl (by decide +kernel) k1 (by decide +kernel) tw_352 rfl rfl rfl (fun m2 e3 => ?_)
  replace h := h m2 e3
  have x4 : Ext m m2 := by rw [e3]; exact Ext.sI _ _ _ _
  have k5 : mK m2 t = 10 := x4.k k1 (by decide)
  refine at_iconst (n := 0) (0 : Int32) 6 rfl (by decide +kernel) (by decide +kernel) ?_
  refine at_istore_n (i := 1) (lc' := [(0, va_rf (some t)), (1, .int ((0 : Int32)))]) [1, 0] 7 rfl (by decide +kernel) (by decide +kernel) rfl ?_
  refine at_iconst (n := 0) (0 : Int32) 8 rfl (by decide +kernel) (by decide +kernel) ?_
  refine at_istore_n (i := 2) (lc' := [(0, va_rf (some t)), (2, .int ((0 : Int32)))]) [1, 0] 9 rfl (by decide +kernel) (by decide +kernel) rfl ?_
  exact h
set_option maxRecDepth 20000 in
set_option maxHeartbeats 4000000 in
theorem en_Tape_isLetter (g : Gc) {lv : Nat} {t : Nat} {l1 : Int32} {m : Mm} {Q : Int32 → Mm → Prop} (h : mK m t = 10 ∧ (∃ b2, mR m t 0 = some b2 ∧ (mK m b2 = 14 ∧ (vp_in l1 (mN m b2) ∧ (if (mI m b2 l1.toNatClampNeg) < ((97 : Int32)) then (Q (0 : Int32) m) else (vp_in l1 (mN m b2) ∧ (if ((122 : Int32)) < (mI m b2 l1.toNatClampNeg) then (Q (0 : Int32) m) else (Q (1 : Int32) m)))))))) : CI g M_Tape_isLetter (lv + 1) [va_rf (some t), .int (l1)] m Q := by
  refine Call.of (by decide +kernel) (Nat.le_of_ble_eq_true rfl) ?_
  show At g M_Tape_isLetter (lv + 1) 0 [(0, va_rf (some t)), (1, .int (l1))] [] m (QI Q)
  refine at_aload_n (i := 0) 0 1 rfl (by decide +kernel) rfl ?_
  obtain ⟨k1, h⟩ := h
  refine at_get (index := 9) (v := va_rf (mR m t 0)) cok9 0 4 rfl (by decide +kernel) k1 (by decide +kernel) tw_344 rfl ?_
  obtain ⟨b2, e3, h⟩ := h
  rw [e3]
  refine at_iload_n (i := 1) 1 5 rfl (by decide +kernel) rfl ?_
  obtain ⟨k4, h⟩ := h
  obtain ⟨v5, h⟩ := h
  refine at_bald 6 rfl (by decide +kernel) k4 v5 ?_
  refine at_bipush (n := 97) (97 : Int32) 8 rfl (by decide +kernel) (by decide +kernel) ?_
  refine at_icmp_lt (off := 18) 26 11 rfl (by decide +kernel) (by decide +kernel) (fun c6 => ?_) (fun c6 => ?_)
  · rw [if_pos c6] at h
    refine at_iconst (n := 0) (0 : Int32) 27 rfl (by decide +kernel) (by decide +kernel) ?_
    exact at_zret rfl (by decide +kernel) (Or.inl rfl) h
  · rw [if_neg c6] at h
    refine at_aload_n (i := 0) 0 12 rfl (by decide +kernel) rfl ?_
    refine at_get (index := 9) (v := va_rf (mR m t 0)) cok9 0 15 rfl (by decide +kernel) k1 (by decide +kernel) tw_344 rfl ?_
    rw [e3]
    refine at_iload_n (i := 1) 1 16 rfl (by decide +kernel) rfl ?_
    obtain ⟨v7, h⟩ := h
    refine at_bald 17 rfl (by decide +kernel) k4 v7 ?_
    refine at_bipush (n := 122) (122 : Int32) 19 rfl (by decide +kernel) (by decide +kernel) ?_
    refine at_icmp_gt (off := 7) 26 22 rfl (by decide +kernel) (by decide +kernel) (fun c8 => ?_) (fun c8 => ?_)
    · rw [if_pos c8] at h
      refine at_iconst (n := 0) (0 : Int32) 27 rfl (by decide +kernel) (by decide +kernel) ?_
      exact at_zret rfl (by decide +kernel) (Or.inl rfl) h
    · rw [if_neg c8] at h
      refine at_iconst (n := 1) (1 : Int32) 23 rfl (by decide +kernel) (by decide +kernel) ?_
      refine at_goto (off := 4) 27 (by decide +kernel) (by decide +kernel) ?_
      exact at_zret rfl (by decide +kernel) (Or.inr rfl) h
set_option maxRecDepth 20000 in
set_option maxHeartbeats 4000000 in
theorem en_Tape_isDigit (g : Gc) {lv : Nat} {t : Nat} {l1 : Int32} {m : Mm} {Q : Int32 → Mm → Prop} (h : mK m t = 10 ∧ (∃ b2, mR m t 0 = some b2 ∧ (mK m b2 = 14 ∧ (vp_in l1 (mN m b2) ∧ (if (mI m b2 l1.toNatClampNeg) < ((48 : Int32)) then (Q (0 : Int32) m) else (vp_in l1 (mN m b2) ∧ (if ((57 : Int32)) < (mI m b2 l1.toNatClampNeg) then (Q (0 : Int32) m) else (Q (1 : Int32) m)))))))) : CI g M_Tape_isDigit (lv + 1) [va_rf (some t), .int (l1)] m Q := by
  refine Call.of (by decide +kernel) (Nat.le_of_ble_eq_true rfl) ?_
  show At g M_Tape_isDigit (lv + 1) 0 [(0, va_rf (some t)), (1, .int (l1))] [] m (QI Q)
  refine at_aload_n (i := 0) 0 1 rfl (by decide +kernel) rfl ?_
  obtain ⟨k1, h⟩ := h
  refine at_get (index := 9) (v := va_rf (mR m t 0)) cok9 0 4 rfl (by decide +kernel) k1 (by decide +kernel) tw_344 rfl ?_
  obtain ⟨b2, e3, h⟩ := h
  rw [e3]
  refine at_iload_n (i := 1) 1 5 rfl (by decide +kernel) rfl ?_
  obtain ⟨k4, h⟩ := h
  obtain ⟨v5, h⟩ := h
  refine at_bald 6 rfl (by decide +kernel) k4 v5 ?_
  refine at_bipush (n := 48) (48 : Int32) 8 rfl (by decide +kernel) (by decide +kernel) ?_
  refine at_icmp_lt (off := 18) 26 11 rfl (by decide +kernel) (by decide +kernel) (fun c6 => ?_) (fun c6 => ?_)
  · rw [if_pos c6] at h
    refine at_iconst (n := 0) (0 : Int32) 27 rfl (by decide +kernel) (by decide +kernel) ?_
    exact at_zret rfl (by decide +kernel) (Or.inl rfl) h
  · rw [if_neg c6] at h
    refine at_aload_n (i := 0) 0 12 rfl (by decide +kernel) rfl ?_
    refine at_get (index := 9) (v := va_rf (mR m t 0)) cok9 0 15 rfl (by decide +kernel) k1 (by decide +kernel) tw_344 rfl ?_
    rw [e3]
    refine at_iload_n (i := 1) 1 16 rfl (by decide +kernel) rfl ?_
    obtain ⟨v7, h⟩ := h
    refine at_bald 17 rfl (by decide +kernel) k4 v7 ?_
    refine at_bipush (n := 57) (57 : Int32) 19 rfl (by decide +kernel) (by decide +kernel) ?_
    refine at_icmp_gt (off := 7) 26 22 rfl (by decide +kernel) (by decide +kernel) (fun c8 => ?_) (fun c8 => ?_)
    · rw [if_pos c8] at h
      refine at_iconst (n := 0) (0 : Int32) 27 rfl (by decide +kernel) (by decide +kernel) ?_
      exact at_zret rfl (by decide +kernel) (Or.inl rfl) h
    · rw [if_neg c8] at h
      refine at_iconst (n := 1) (1 : Int32) 23 rfl (by decide +kernel) (by decide +kernel) ?_
      refine at_goto (off := 4) 27 (by decide +kernel) (by decide +kernel) ?_
      exact at_zret rfl (by decide +kernel) (Or.inr rfl) h
set_option maxRecDepth 20000 in
set_option maxHeartbeats 4000000 in
theorem bk_Tape_stopOf_39 (g : Gc) {lv : Nat} {t : Nat} {l2 : Int32} {l3 : Int32} {l4 : Int32} {m : Mm} {Q : Int32 → Mm → Prop} (h : if (l3) = 0 then (Q l4 m) else (mK m t = 10 ∧ (CI g M_Tape_isDigit lv [va_rf (some t), .int (l4)] m (fun x3 m4 => (if (x3) = 0 then (Q l4 m4) else (At g M_Tape_stopOf (lv + 1) 17 [(0, va_rf (some t)), (2, .int (l2)), (3, .int (l3)), (4, .int (l4 + (1 : Int32)))] [] m4 (QI Q))))))) : At g M_Tape_stopOf (lv + 1) 39 [(0, va_rf (some t)), (2, .int (l2)), (3, .int (l3)), (4, .int (l4))] [] m (QI Q) := by
  refine at_iload_n (i := 3) 2 40 rfl (by decide +kernel) rfl ?_
  refine at_if_eq (off := 18) 58 43 rfl (by decide +kernel) (by decide +kernel) (fun c1 => ?_) (fun c1 => ?_)
  · rw [if_pos c1] at h
    refine at_iload (i := 4) 3 60 rfl (by decide +kernel) rfl ?_
    exact at_iret rfl (by decide +kernel) h
  · rw [if_neg c1] at h
    refine at_aload_n (i := 0) 0 44 rfl (by decide +kernel) rfl ?_
    refine at_iload (i := 4) 3 46 rfl (by decide +kernel) rfl ?_
    obtain ⟨k2, h⟩ := h
    refine at_callV mb_Tape_isDigit tw_525 tw_3 cok9 k2 (index := 83) tw_523 [.int (l4)] [] rfl rfl (by decide) 49 rfl (by decide +kernel) (Call.toI (CI.monoE h (fun x3 m4 h y5 => ?_)))
    have k6 : mK m4 t = 10 := y5.k k2 (by decide)
    refine at_if_eq (off := 9) 58 52 rfl (by decide +kernel) (by decide +kernel) (fun c7 => ?_) (fun c7 => ?_)
    · rw [if_pos c7] at h
      refine at_iload (i := 4) 3 60 rfl (by decide +kernel) rfl ?_
      exact at_iret rfl (by decide +kernel) h
    · rw [if_neg c7] at h
      refine at_iinc (i := 4) (n := 1) (lc' := [(0, va_rf (some t)), (2, .int (l2)), (3, .int (l3)), (4, .int (l4 + (1 : Int32)))]) (l4 + (1 : Int32)) 3 [1, 2, 3, 0] 55 rfl (by decide +kernel) rfl (by rw [show Int32.ofInt 1 = (1 : Int32) from by decide +kernel]) (by decide +kernel) rfl ?_
      refine at_goto (off := (-38)) 17 (by decide +kernel) (by decide +kernel) ?_
      exact h
set_option maxRecDepth 20000 in
set_option maxHeartbeats 4000000 in
theorem bk_Tape_stopOf_17 (g : Gc) {lv : Nat} {t : Nat} {l2 : Int32} {l3 : Int32} {l4 : Int32} {m : Mm} {Q : Int32 → Mm → Prop} (h : mK m t = 10 ∧ (if (mI m t 4) ≤ (l4) then (Q l4 m) else (if (l2) = 0 then (At g M_Tape_stopOf (lv + 1) 39 [(0, va_rf (some t)), (2, .int (l2)), (3, .int (l3)), (4, .int (l4))] [] m (QI Q)) else (CI g M_Tape_isLetter lv [va_rf (some t), .int (l4)] m (fun x4 m5 => (if (x4) = 0 then (At g M_Tape_stopOf (lv + 1) 39 [(0, va_rf (some t)), (2, .int (l2)), (3, .int (l3)), (4, .int (l4))] [] m5 (QI Q)) else (At g M_Tape_stopOf (lv + 1) 17 [(0, va_rf (some t)), (2, .int (l2)), (3, .int (l3)), (4, .int (l4 + (1 : Int32)))] [] m5 (QI Q)))))))) : At g M_Tape_stopOf (lv + 1) 17 [(0, va_rf (some t)), (2, .int (l2)), (3, .int (l3)), (4, .int (l4))] [] m (QI Q) := by
  refine at_iload (i := 4) 3 19 rfl (by decide +kernel) rfl ?_
  refine at_aload_n (i := 0) 0 20 rfl (by decide +kernel) rfl ?_
  obtain ⟨k1, h⟩ := h
  refine at_get (index := 29) (v := .int (mI m t 4)) cok9 4 23 rfl (by decide +kernel) k1 (by decide +kernel) tw_348 rfl ?_
  refine at_icmp_ge (off := 35) 58 26 rfl (by decide +kernel) (by decide +kernel) (fun c2 => ?_) (fun c2 => ?_)
  · rw [if_pos c2] at h
    refine at_iload (i := 4) 3 60 rfl (by decide +kernel) rfl ?_
    exact at_iret rfl (by decide +kernel) h
  · rw [if_neg c2] at h
    refine at_iload_n (i := 2) 1 27 rfl (by decide +kernel) rfl ?_
    refine at_if_eq (off := 12) 39 30 rfl (by decide +kernel) (by decide +kernel) (fun c3 => ?_) (fun c3 => ?_)
    · rw [if_pos c3] at h
      exact h
    · rw [if_neg c3] at h
      refine at_aload_n (i := 0) 0 31 rfl (by decide +kernel) rfl ?_
      refine at_iload (i := 4) 3 33 rfl (by decide +kernel) rfl ?_
      refine at_callV mb_Tape_isLetter tw_521 tw_2 cok9 k1 (index := 79) tw_519 [.int (l4)] [] rfl rfl (by decide) 36 rfl (by decide +kernel) (Call.toI (CI.monoE h (fun x4 m5 h y6 => ?_)))
      have k7 : mK m5 t = 10 := y6.k k1 (by decide)
      refine at_if_ne (off := 16) 52 39 rfl (by decide +kernel) (by decide +kernel) (fun c8 => ?_) (fun c8 => ?_)
      · rw [if_neg c8] at h
        refine at_iinc (i := 4) (n := 1) (lc' := [(0, va_rf (some t)), (2, .int (l2)), (3, .int (l3)), (4, .int (l4 + (1 : Int32)))]) (l4 + (1 : Int32)) 3 [1, 2, 3, 0] 55 rfl (by decide +kernel) rfl (by rw [show Int32.ofInt 1 = (1 : Int32) from by decide +kernel]) (by decide +kernel) rfl ?_
        refine at_goto (off := (-38)) 17 (by decide +kernel) (by decide +kernel) ?_
        exact h
      · rw [if_pos c8] at h
        exact h
set_option maxRecDepth 20000 in
set_option maxHeartbeats 4000000 in
theorem en_Tape_stopOf (g : Gc) {lv : Nat} {t : Nat} {l1 : Int32} {m : Mm} {Q : Int32 → Mm → Prop} (h : mK m t = 10 ∧ (CI g M_Tape_isLetter lv [va_rf (some t), .int (l1)] m (fun x2 m3 => (CI g M_Tape_isDigit lv [va_rf (some t), .int (l1)] m3 (fun x6 m7 => (At g M_Tape_stopOf (lv + 1) 17 [(0, va_rf (some t)), (2, .int (x2)), (3, .int (x6)), (4, .int (l1 + (1 : Int32)))] [] m7 (QI Q))))))) : CI g M_Tape_stopOf (lv + 1) [va_rf (some t), .int (l1)] m Q := by
  refine Call.of (by decide +kernel) (Nat.le_of_ble_eq_true rfl) ?_
  show At g M_Tape_stopOf (lv + 1) 0 [(0, va_rf (some t)), (1, .int (l1))] [] m (QI Q)
  refine at_aload_n (i := 0) 0 1 rfl (by decide +kernel) rfl ?_
  refine at_iload_n (i := 1) 1 2 rfl (by decide +kernel) rfl ?_
  obtain ⟨k1, h⟩ := h
  refine at_callV mb_Tape_isLetter tw_521 tw_2 cok9 k1 (index := 79) tw_519 [.int (l1)] [] rfl rfl (by decide) 5 rfl (by decide +kernel) (Call.toI (CI.monoE h (fun x2 m3 h y4 => ?_)))
  have k5 : mK m3 t = 10 := y4.k k1 (by decide)
  refine at_istore_n (i := 2) (lc' := [(0, va_rf (some t)), (1, .int (l1)), (2, .int (x2))]) [1, 2, 0] 6 rfl (by decide +kernel) (by decide +kernel) rfl ?_
  refine at_aload_n (i := 0) 0 7 rfl (by decide +kernel) rfl ?_
  refine at_iload_n (i := 1) 1 8 rfl (by decide +kernel) rfl ?_
  refine at_callV mb_Tape_isDigit tw_525 tw_3 cok9 k5 (index := 83) tw_523 [.int (l1)] [] rfl rfl (by decide) 11 rfl (by decide +kernel) (Call.toI (CI.monoE h (fun x6 m7 h y8 => ?_)))
  have k9 : mK m7 t = 10 := y8.k k5 (by decide)
  refine at_istore_n (i := 3) (lc' := [(0, va_rf (some t)), (1, .int (l1)), (2, .int (x2)), (3, .int (x6))]) [1, 2, 3, 0] 12 rfl (by decide +kernel) (by decide +kernel) rfl ?_
  refine at_iload_n (i := 1) 1 13 rfl (by decide +kernel) rfl ?_
  refine at_iconst (n := 1) (1 : Int32) 14 rfl (by decide +kernel) (by decide +kernel) ?_
  refine at_iadd 15 rfl (by decide +kernel) ?_
  refine at_istore (i := 4) (lc' := [(0, va_rf (some t)), (2, .int (x2)), (3, .int (x6)), (4, .int (l1 + (1 : Int32)))]) [1, 3, 4, 0] 17 rfl (by decide +kernel) (by decide +kernel) rfl ?_
  exact h
set_option maxRecDepth 20000 in
set_option maxHeartbeats 4000000 in
theorem en_Tape_kindOf (g : Gc) {lv : Nat} {t : Nat} {l1 : Int32} {l2 : Int32} {m : Mm} {Q : Int32 → Mm → Prop} (h : mK m t = 10 ∧ (CI g M_Tape_isLetter lv [va_rf (some t), .int (l1)] m (fun x2 m3 => (if (x2) = 0 then (CI g M_Tape_isDigit lv [va_rf (some t), .int (l1)] m3 (fun x7 m8 => (if (x7) = 0 then (∃ b12, mR m8 t 0 = some b12 ∧ (mK m8 b12 = 14 ∧ (vp_in l1 (mN m8 b12) ∧ (if (mI m8 b12 l1.toNatClampNeg) = (40 : Int32) then (Q (8 : Int32) m8) else (if (mI m8 b12 l1.toNatClampNeg) = (41 : Int32) then (Q (9 : Int32) m8) else (if (mI m8 b12 l1.toNatClampNeg) = (42 : Int32) then (Q (6 : Int32) m8) else (if (mI m8 b12 l1.toNatClampNeg) = (43 : Int32) then (Q (4 : Int32) m8) else (if (mI m8 b12 l1.toNatClampNeg) = (44 : Int32) then (Q (1 : Int32) m8) else (if (mI m8 b12 l1.toNatClampNeg) = (45 : Int32) then (Q (5 : Int32) m8) else (if (mI m8 b12 l1.toNatClampNeg) = (46 : Int32) then (Q (1 : Int32) m8) else (if (mI m8 b12 l1.toNatClampNeg) = (47 : Int32) then (Q (7 : Int32) m8) else (if (mI m8 b12 l1.toNatClampNeg) = (48 : Int32) then (Q (1 : Int32) m8) else (if (mI m8 b12 l1.toNatClampNeg) = (49 : Int32) then (Q (1 : Int32) m8) else (if (mI m8 b12 l1.toNatClampNeg) = (50 : Int32) then (Q (1 : Int32) m8) else (if (mI m8 b12 l1.toNatClampNeg) = (51 : Int32) then (Q (1 : Int32) m8) else (if (mI m8 b12 l1.toNatClampNeg) = (52 : Int32) then (Q (1 : Int32) m8) else (if (mI m8 b12 l1.toNatClampNeg) = (53 : Int32) then (Q (1 : Int32) m8) else (if (mI m8 b12 l1.toNatClampNeg) = (54 : Int32) then (Q (1 : Int32) m8) else (if (mI m8 b12 l1.toNatClampNeg) = (55 : Int32) then (Q (1 : Int32) m8) else (if (mI m8 b12 l1.toNatClampNeg) = (56 : Int32) then (Q (1 : Int32) m8) else (if (mI m8 b12 l1.toNatClampNeg) = (57 : Int32) then (Q (1 : Int32) m8) else (if (mI m8 b12 l1.toNatClampNeg) = (58 : Int32) then (Q (1 : Int32) m8) else (if (mI m8 b12 l1.toNatClampNeg) = (59 : Int32) then (Q (13 : Int32) m8) else (if (mI m8 b12 l1.toNatClampNeg) = (60 : Int32) then (Q (10 : Int32) m8) else (if (mI m8 b12 l1.toNatClampNeg) = (61 : Int32) then (Q (12 : Int32) m8) else (if (mI m8 b12 l1.toNatClampNeg) = (62 : Int32) then (Q (11 : Int32) m8) else (Q (1 : Int32) m8))))))))))))))))))))))))))) else (CI g M_Tape_numberOf lv [va_rf (some t), .int (l1), .int (l2)] m8 (fun x40 m41 => (if (x40) ≤ ((999999 : Int32)) then (Q (3 : Int32) m41) else (Q (1 : Int32) m41))))))) else (CI g M_Tape_kindOfWord lv [va_rf (some t), .int (l1), .int (l2)] m3 (fun x45 m46 => (Q x45 m46))))))) : CI g M_Tape_kindOf (lv + 1) [va_rf (some t), .int (l1), .int (l2)] m Q := by
  refine Call.of (by decide +kernel) (Nat.le_of_ble_eq_true rfl) ?_
  show At g M_Tape_kindOf (lv + 1) 0 [(0, va_rf (some t)), (1, .int (l1)), (2, .int (l2))] [] m (QI Q)
  refine at_aload_n (i := 0) 0 1 rfl (by decide +kernel) rfl ?_
  refine at_iload_n (i := 1) 1 2 rfl (by decide +kernel) rfl ?_
  obtain ⟨k1, h⟩ := h
  refine at_callV mb_Tape_isLetter tw_521 tw_2 cok9 k1 (index := 79) tw_519 [.int (l1)] [] rfl rfl (by decide) 5 rfl (by decide +kernel) (Call.toI (CI.monoE h (fun x2 m3 h y4 => ?_)))
  have k5 : mK m3 t = 10 := y4.k k1 (by decide)
  refine at_if_eq (off := 10) 15 8 rfl (by decide +kernel) (by decide +kernel) (fun c6 => ?_) (fun c6 => ?_)
  · rw [if_pos c6] at h
    refine at_aload_n (i := 0) 0 16 rfl (by decide +kernel) rfl ?_
    refine at_iload_n (i := 1) 1 17 rfl (by decide +kernel) rfl ?_
    refine at_callV mb_Tape_isDigit tw_525 tw_3 cok9 k5 (index := 83) tw_523 [.int (l1)] [] rfl rfl (by decide) 20 rfl (by decide +kernel) (Call.toI (CI.monoE h (fun x7 m8 h y9 => ?_)))
    have k10 : mK m8 t = 10 := y9.k k5 (by decide)
    refine at_if_eq (off := 20) 40 23 rfl (by decide +kernel) (by decide +kernel) (fun c11 => ?_) (fun c11 => ?_)
    · rw [if_pos c11] at h
      refine at_aload_n (i := 0) 0 41 rfl (by decide +kernel) rfl ?_
      refine at_get (index := 9) (v := va_rf (mR m8 t 0)) cok9 0 44 rfl (by decide +kernel) k10 (by decide +kernel) tw_344 rfl ?_
      obtain ⟨b12, e13, h⟩ := h
      rw [e13]
      refine at_iload_n (i := 1) 1 45 rfl (by decide +kernel) rfl ?_
      obtain ⟨k14, h⟩ := h
      obtain ⟨v15, h⟩ := h
      refine at_bald 46 rfl (by decide +kernel) k14 v15 ?_
      by_cases c17 : (mI m8 b12 l1.toNatClampNeg) = (40 : Int32)
      · rw [if_pos c17] at h
        have w16 : (mI m8 b12 l1.toNatClampNeg).toInt = 40 := by rw [c17]; decide +kernel
        refine at_tabIn (dflt := 134) (lo := 40) (hi := 62) (offs := #[116, 119, 110, 106, 134, 108, 134, 113, 134, 134, 134, 134, 134, 134, 134, 134, 134, 134, 134, 131, 122, 128, 125]) (len := 106) (off := 116) 162 (by decide +kernel) (by rw [w16]; decide) (by rw [w16]; decide) (by rw [w16]; decide +kernel) (by decide +kernel) ?_
        refine at_bipush (n := 8) (8 : Int32) 164 rfl (by decide +kernel) (by decide +kernel) ?_
        exact at_iret rfl (by decide +kernel) h
      rw [if_neg c17] at h
      by_cases c18 : (mI m8 b12 l1.toNatClampNeg) = (41 : Int32)
      · rw [if_pos c18] at h
        have w16 : (mI m8 b12 l1.toNatClampNeg).toInt = 41 := by rw [c18]; decide +kernel
        refine at_tabIn (dflt := 134) (lo := 40) (hi := 62) (offs := #[116, 119, 110, 106, 134, 108, 134, 113, 134, 134, 134, 134, 134, 134, 134, 134, 134, 134, 134, 131, 122, 128, 125]) (len := 106) (off := 119) 165 (by decide +kernel) (by rw [w16]; decide) (by rw [w16]; decide) (by rw [w16]; decide +kernel) (by decide +kernel) ?_
        refine at_bipush (n := 9) (9 : Int32) 167 rfl (by decide +kernel) (by decide +kernel) ?_
        exact at_iret rfl (by decide +kernel) h
      rw [if_neg c18] at h
      by_cases c19 : (mI m8 b12 l1.toNatClampNeg) = (42 : Int32)
      · rw [if_pos c19] at h
        have w16 : (mI m8 b12 l1.toNatClampNeg).toInt = 42 := by rw [c19]; decide +kernel
        refine at_tabIn (dflt := 134) (lo := 40) (hi := 62) (offs := #[116, 119, 110, 106, 134, 108, 134, 113, 134, 134, 134, 134, 134, 134, 134, 134, 134, 134, 134, 131, 122, 128, 125]) (len := 106) (off := 110) 156 (by decide +kernel) (by rw [w16]; decide) (by rw [w16]; decide) (by rw [w16]; decide +kernel) (by decide +kernel) ?_
        refine at_bipush (n := 6) (6 : Int32) 158 rfl (by decide +kernel) (by decide +kernel) ?_
        exact at_iret rfl (by decide +kernel) h
      rw [if_neg c19] at h
      by_cases c20 : (mI m8 b12 l1.toNatClampNeg) = (43 : Int32)
      · rw [if_pos c20] at h
        have w16 : (mI m8 b12 l1.toNatClampNeg).toInt = 43 := by rw [c20]; decide +kernel
        refine at_tabIn (dflt := 134) (lo := 40) (hi := 62) (offs := #[116, 119, 110, 106, 134, 108, 134, 113, 134, 134, 134, 134, 134, 134, 134, 134, 134, 134, 134, 131, 122, 128, 125]) (len := 106) (off := 106) 152 (by decide +kernel) (by rw [w16]; decide) (by rw [w16]; decide) (by rw [w16]; decide +kernel) (by decide +kernel) ?_
        refine at_iconst (n := 4) (4 : Int32) 153 rfl (by decide +kernel) (by decide +kernel) ?_
        exact at_iret rfl (by decide +kernel) h
      rw [if_neg c20] at h
      by_cases c21 : (mI m8 b12 l1.toNatClampNeg) = (44 : Int32)
      · rw [if_pos c21] at h
        have w16 : (mI m8 b12 l1.toNatClampNeg).toInt = 44 := by rw [c21]; decide +kernel
        refine at_tabIn (dflt := 134) (lo := 40) (hi := 62) (offs := #[116, 119, 110, 106, 134, 108, 134, 113, 134, 134, 134, 134, 134, 134, 134, 134, 134, 134, 134, 131, 122, 128, 125]) (len := 106) (off := 134) 180 (by decide +kernel) (by rw [w16]; decide) (by rw [w16]; decide) (by rw [w16]; decide +kernel) (by decide +kernel) ?_
        refine at_iconst (n := 1) (1 : Int32) 181 rfl (by decide +kernel) (by decide +kernel) ?_
        exact at_iret rfl (by decide +kernel) h
      rw [if_neg c21] at h
      by_cases c22 : (mI m8 b12 l1.toNatClampNeg) = (45 : Int32)
      · rw [if_pos c22] at h
        have w16 : (mI m8 b12 l1.toNatClampNeg).toInt = 45 := by rw [c22]; decide +kernel
        refine at_tabIn (dflt := 134) (lo := 40) (hi := 62) (offs := #[116, 119, 110, 106, 134, 108, 134, 113, 134, 134, 134, 134, 134, 134, 134, 134, 134, 134, 134, 131, 122, 128, 125]) (len := 106) (off := 108) 154 (by decide +kernel) (by rw [w16]; decide) (by rw [w16]; decide) (by rw [w16]; decide +kernel) (by decide +kernel) ?_
        refine at_iconst (n := 5) (5 : Int32) 155 rfl (by decide +kernel) (by decide +kernel) ?_
        exact at_iret rfl (by decide +kernel) h
      rw [if_neg c22] at h
      by_cases c23 : (mI m8 b12 l1.toNatClampNeg) = (46 : Int32)
      · rw [if_pos c23] at h
        have w16 : (mI m8 b12 l1.toNatClampNeg).toInt = 46 := by rw [c23]; decide +kernel
        refine at_tabIn (dflt := 134) (lo := 40) (hi := 62) (offs := #[116, 119, 110, 106, 134, 108, 134, 113, 134, 134, 134, 134, 134, 134, 134, 134, 134, 134, 134, 131, 122, 128, 125]) (len := 106) (off := 134) 180 (by decide +kernel) (by rw [w16]; decide) (by rw [w16]; decide) (by rw [w16]; decide +kernel) (by decide +kernel) ?_
        refine at_iconst (n := 1) (1 : Int32) 181 rfl (by decide +kernel) (by decide +kernel) ?_
        exact at_iret rfl (by decide +kernel) h
      rw [if_neg c23] at h
      by_cases c24 : (mI m8 b12 l1.toNatClampNeg) = (47 : Int32)
      · rw [if_pos c24] at h
        have w16 : (mI m8 b12 l1.toNatClampNeg).toInt = 47 := by rw [c24]; decide +kernel
        refine at_tabIn (dflt := 134) (lo := 40) (hi := 62) (offs := #[116, 119, 110, 106, 134, 108, 134, 113, 134, 134, 134, 134, 134, 134, 134, 134, 134, 134, 134, 131, 122, 128, 125]) (len := 106) (off := 113) 159 (by decide +kernel) (by rw [w16]; decide) (by rw [w16]; decide) (by rw [w16]; decide +kernel) (by decide +kernel) ?_
        refine at_bipush (n := 7) (7 : Int32) 161 rfl (by decide +kernel) (by decide +kernel) ?_
        exact at_iret rfl (by decide +kernel) h
      rw [if_neg c24] at h
      by_cases c25 : (mI m8 b12 l1.toNatClampNeg) = (48 : Int32)
      · rw [if_pos c25] at h
        have w16 : (mI m8 b12 l1.toNatClampNeg).toInt = 48 := by rw [c25]; decide +kernel
        refine at_tabIn (dflt := 134) (lo := 40) (hi := 62) (offs := #[116, 119, 110, 106, 134, 108, 134, 113, 134, 134, 134, 134, 134, 134, 134, 134, 134, 134, 134, 131, 122, 128, 125]) (len := 106) (off := 134) 180 (by decide +kernel) (by rw [w16]; decide) (by rw [w16]; decide) (by rw [w16]; decide +kernel) (by decide +kernel) ?_
        refine at_iconst (n := 1) (1 : Int32) 181 rfl (by decide +kernel) (by decide +kernel) ?_
        exact at_iret rfl (by decide +kernel) h
      rw [if_neg c25] at h
      by_cases c26 : (mI m8 b12 l1.toNatClampNeg) = (49 : Int32)
      · rw [if_pos c26] at h
        have w16 : (mI m8 b12 l1.toNatClampNeg).toInt = 49 := by rw [c26]; decide +kernel
        refine at_tabIn (dflt := 134) (lo := 40) (hi := 62) (offs := #[116, 119, 110, 106, 134, 108, 134, 113, 134, 134, 134, 134, 134, 134, 134, 134, 134, 134, 134, 131, 122, 128, 125]) (len := 106) (off := 134) 180 (by decide +kernel) (by rw [w16]; decide) (by rw [w16]; decide) (by rw [w16]; decide +kernel) (by decide +kernel) ?_
        refine at_iconst (n := 1) (1 : Int32) 181 rfl (by decide +kernel) (by decide +kernel) ?_
        exact at_iret rfl (by decide +kernel) h
      rw [if_neg c26] at h
      by_cases c27 : (mI m8 b12 l1.toNatClampNeg) = (50 : Int32)
      · rw [if_pos c27] at h
        have w16 : (mI m8 b12 l1.toNatClampNeg).toInt = 50 := by rw [c27]; decide +kernel
        refine at_tabIn (dflt := 134) (lo := 40) (hi := 62) (offs := #[116, 119, 110, 106, 134, 108, 134, 113, 134, 134, 134, 134, 134, 134, 134, 134, 134, 134, 134, 131, 122, 128, 125]) (len := 106) (off := 134) 180 (by decide +kernel) (by rw [w16]; decide) (by rw [w16]; decide) (by rw [w16]; decide +kernel) (by decide +kernel) ?_
        refine at_iconst (n := 1) (1 : Int32) 181 rfl (by decide +kernel) (by decide +kernel) ?_
        exact at_iret rfl (by decide +kernel) h
      rw [if_neg c27] at h
      by_cases c28 : (mI m8 b12 l1.toNatClampNeg) = (51 : Int32)
      · rw [if_pos c28] at h
        have w16 : (mI m8 b12 l1.toNatClampNeg).toInt = 51 := by rw [c28]; decide +kernel
        refine at_tabIn (dflt := 134) (lo := 40) (hi := 62) (offs := #[116, 119, 110, 106, 134, 108, 134, 113, 134, 134, 134, 134, 134, 134, 134, 134, 134, 134, 134, 131, 122, 128, 125]) (len := 106) (off := 134) 180 (by decide +kernel) (by rw [w16]; decide) (by rw [w16]; decide) (by rw [w16]; decide +kernel) (by decide +kernel) ?_
        refine at_iconst (n := 1) (1 : Int32) 181 rfl (by decide +kernel) (by decide +kernel) ?_
        exact at_iret rfl (by decide +kernel) h
      rw [if_neg c28] at h
      by_cases c29 : (mI m8 b12 l1.toNatClampNeg) = (52 : Int32)
      · rw [if_pos c29] at h
        have w16 : (mI m8 b12 l1.toNatClampNeg).toInt = 52 := by rw [c29]; decide +kernel
        refine at_tabIn (dflt := 134) (lo := 40) (hi := 62) (offs := #[116, 119, 110, 106, 134, 108, 134, 113, 134, 134, 134, 134, 134, 134, 134, 134, 134, 134, 134, 131, 122, 128, 125]) (len := 106) (off := 134) 180 (by decide +kernel) (by rw [w16]; decide) (by rw [w16]; decide) (by rw [w16]; decide +kernel) (by decide +kernel) ?_
        refine at_iconst (n := 1) (1 : Int32) 181 rfl (by decide +kernel) (by decide +kernel) ?_
        exact at_iret rfl (by decide +kernel) h
      rw [if_neg c29] at h
      by_cases c30 : (mI m8 b12 l1.toNatClampNeg) = (53 : Int32)
      · rw [if_pos c30] at h
        have w16 : (mI m8 b12 l1.toNatClampNeg).toInt = 53 := by rw [c30]; decide +kernel
        refine at_tabIn (dflt := 134) (lo := 40) (hi := 62) (offs := #[116, 119, 110, 106, 134, 108, 134, 113, 134, 134, 134, 134, 134, 134, 134, 134, 134, 134, 134, 131, 122, 128, 125]) (len := 106) (off := 134) 180 (by decide +kernel) (by rw [w16]; decide) (by rw [w16]; decide) (by rw [w16]; decide +kernel) (by decide +kernel) ?_
        refine at_iconst (n := 1) (1 : Int32) 181 rfl (by decide +kernel) (by decide +kernel) ?_
        exact at_iret rfl (by decide +kernel) h
      rw [if_neg c30] at h
      by_cases c31 : (mI m8 b12 l1.toNatClampNeg) = (54 : Int32)
      · rw [if_pos c31] at h
        have w16 : (mI m8 b12 l1.toNatClampNeg).toInt = 54 := by rw [c31]; decide +kernel
        refine at_tabIn (dflt := 134) (lo := 40) (hi := 62) (offs := #[116, 119, 110, 106, 134, 108, 134, 113, 134, 134, 134, 134, 134, 134, 134, 134, 134, 134, 134, 131, 122, 128, 125]) (len := 106) (off := 134) 180 (by decide +kernel) (by rw [w16]; decide) (by rw [w16]; decide) (by rw [w16]; decide +kernel) (by decide +kernel) ?_
        refine at_iconst (n := 1) (1 : Int32) 181 rfl (by decide +kernel) (by decide +kernel) ?_
        exact at_iret rfl (by decide +kernel) h
      rw [if_neg c31] at h
      by_cases c32 : (mI m8 b12 l1.toNatClampNeg) = (55 : Int32)
      · rw [if_pos c32] at h
        have w16 : (mI m8 b12 l1.toNatClampNeg).toInt = 55 := by rw [c32]; decide +kernel
        refine at_tabIn (dflt := 134) (lo := 40) (hi := 62) (offs := #[116, 119, 110, 106, 134, 108, 134, 113, 134, 134, 134, 134, 134, 134, 134, 134, 134, 134, 134, 131, 122, 128, 125]) (len := 106) (off := 134) 180 (by decide +kernel) (by rw [w16]; decide) (by rw [w16]; decide) (by rw [w16]; decide +kernel) (by decide +kernel) ?_
        refine at_iconst (n := 1) (1 : Int32) 181 rfl (by decide +kernel) (by decide +kernel) ?_
        exact at_iret rfl (by decide +kernel) h
      rw [if_neg c32] at h
      by_cases c33 : (mI m8 b12 l1.toNatClampNeg) = (56 : Int32)
      · rw [if_pos c33] at h
        have w16 : (mI m8 b12 l1.toNatClampNeg).toInt = 56 := by rw [c33]; decide +kernel
        refine at_tabIn (dflt := 134) (lo := 40) (hi := 62) (offs := #[116, 119, 110, 106, 134, 108, 134, 113, 134, 134, 134, 134, 134, 134, 134, 134, 134, 134, 134, 131, 122, 128, 125]) (len := 106) (off := 134) 180 (by decide +kernel) (by rw [w16]; decide) (by rw [w16]; decide) (by rw [w16]; decide +kernel) (by decide +kernel) ?_
        refine at_iconst (n := 1) (1 : Int32) 181 rfl (by decide +kernel) (by decide +kernel) ?_
        exact at_iret rfl (by decide +kernel) h
      rw [if_neg c33] at h
      by_cases c34 : (mI m8 b12 l1.toNatClampNeg) = (57 : Int32)
      · rw [if_pos c34] at h
        have w16 : (mI m8 b12 l1.toNatClampNeg).toInt = 57 := by rw [c34]; decide +kernel
        refine at_tabIn (dflt := 134) (lo := 40) (hi := 62) (offs := #[116, 119, 110, 106, 134, 108, 134, 113, 134, 134, 134, 134, 134, 134, 134, 134, 134, 134, 134, 131, 122, 128, 125]) (len := 106) (off := 134) 180 (by decide +kernel) (by rw [w16]; decide) (by rw [w16]; decide) (by rw [w16]; decide +kernel) (by decide +kernel) ?_
        refine at_iconst (n := 1) (1 : Int32) 181 rfl (by decide +kernel) (by decide +kernel) ?_
        exact at_iret rfl (by decide +kernel) h
      rw [if_neg c34] at h
      by_cases c35 : (mI m8 b12 l1.toNatClampNeg) = (58 : Int32)
      · rw [if_pos c35] at h
        have w16 : (mI m8 b12 l1.toNatClampNeg).toInt = 58 := by rw [c35]; decide +kernel
        refine at_tabIn (dflt := 134) (lo := 40) (hi := 62) (offs := #[116, 119, 110, 106, 134, 108, 134, 113, 134, 134, 134, 134, 134, 134, 134, 134, 134, 134, 134, 131, 122, 128, 125]) (len := 106) (off := 134) 180 (by decide +kernel) (by rw [w16]; decide) (by rw [w16]; decide) (by rw [w16]; decide +kernel) (by decide +kernel) ?_
        refine at_iconst (n := 1) (1 : Int32) 181 rfl (by decide +kernel) (by decide +kernel) ?_
        exact at_iret rfl (by decide +kernel) h
      rw [if_neg c35] at h
      by_cases c36 : (mI m8 b12 l1.toNatClampNeg) = (59 : Int32)
      · rw [if_pos c36] at h
        have w16 : (mI m8 b12 l1.toNatClampNeg).toInt = 59 := by rw [c36]; decide +kernel
        refine at_tabIn (dflt := 134) (lo := 40) (hi := 62) (offs := #[116, 119, 110, 106, 134, 108, 134, 113, 134, 134, 134, 134, 134, 134, 134, 134, 134, 134, 134, 131, 122, 128, 125]) (len := 106) (off := 131) 177 (by decide +kernel) (by rw [w16]; decide) (by rw [w16]; decide) (by rw [w16]; decide +kernel) (by decide +kernel) ?_
        refine at_bipush (n := 13) (13 : Int32) 179 rfl (by decide +kernel) (by decide +kernel) ?_
        exact at_iret rfl (by decide +kernel) h
      rw [if_neg c36] at h
      by_cases c37 : (mI m8 b12 l1.toNatClampNeg) = (60 : Int32)
      · rw [if_pos c37] at h
        have w16 : (mI m8 b12 l1.toNatClampNeg).toInt = 60 := by rw [c37]; decide +kernel
        refine at_tabIn (dflt := 134) (lo := 40) (hi := 62) (offs := #[116, 119, 110, 106, 134, 108, 134, 113, 134, 134, 134, 134, 134, 134, 134, 134, 134, 134, 134, 131, 122, 128, 125]) (len := 106) (off := 122) 168 (by decide +kernel) (by rw [w16]; decide) (by rw [w16]; decide) (by rw [w16]; decide +kernel) (by decide +kernel) ?_
        refine at_bipush (n := 10) (10 : Int32) 170 rfl (by decide +kernel) (by decide +kernel) ?_
        exact at_iret rfl (by decide +kernel) h
      rw [if_neg c37] at h
      by_cases c38 : (mI m8 b12 l1.toNatClampNeg) = (61 : Int32)
      · rw [if_pos c38] at h
        have w16 : (mI m8 b12 l1.toNatClampNeg).toInt = 61 := by rw [c38]; decide +kernel
        refine at_tabIn (dflt := 134) (lo := 40) (hi := 62) (offs := #[116, 119, 110, 106, 134, 108, 134, 113, 134, 134, 134, 134, 134, 134, 134, 134, 134, 134, 134, 131, 122, 128, 125]) (len := 106) (off := 128) 174 (by decide +kernel) (by rw [w16]; decide) (by rw [w16]; decide) (by rw [w16]; decide +kernel) (by decide +kernel) ?_
        refine at_bipush (n := 12) (12 : Int32) 176 rfl (by decide +kernel) (by decide +kernel) ?_
        exact at_iret rfl (by decide +kernel) h
      rw [if_neg c38] at h
      by_cases c39 : (mI m8 b12 l1.toNatClampNeg) = (62 : Int32)
      · rw [if_pos c39] at h
        have w16 : (mI m8 b12 l1.toNatClampNeg).toInt = 62 := by rw [c39]; decide +kernel
        refine at_tabIn (dflt := 134) (lo := 40) (hi := 62) (offs := #[116, 119, 110, 106, 134, 108, 134, 113, 134, 134, 134, 134, 134, 134, 134, 134, 134, 134, 134, 131, 122, 128, 125]) (len := 106) (off := 125) 171 (by decide +kernel) (by rw [w16]; decide) (by rw [w16]; decide) (by rw [w16]; decide +kernel) (by decide +kernel) ?_
        refine at_bipush (n := 11) (11 : Int32) 173 rfl (by decide +kernel) (by decide +kernel) ?_
        exact at_iret rfl (by decide +kernel) h
      rw [if_neg c39] at h
      have c17e : (mI m8 b12 l1.toNatClampNeg).toInt ≠ 40 := fun e => c17 (Int32.toInt_inj.mp (e.trans (by decide +kernel)))
      have c18e : (mI m8 b12 l1.toNatClampNeg).toInt ≠ 41 := fun e => c18 (Int32.toInt_inj.mp (e.trans (by decide +kernel)))
      have c19e : (mI m8 b12 l1.toNatClampNeg).toInt ≠ 42 := fun e => c19 (Int32.toInt_inj.mp (e.trans (by decide +kernel)))
      have c20e : (mI m8 b12 l1.toNatClampNeg).toInt ≠ 43 := fun e => c20 (Int32.toInt_inj.mp (e.trans (by decide +kernel)))
      have c21e : (mI m8 b12 l1.toNatClampNeg).toInt ≠ 44 := fun e => c21 (Int32.toInt_inj.mp (e.trans (by decide +kernel)))
      have c22e : (mI m8 b12 l1.toNatClampNeg).toInt ≠ 45 := fun e => c22 (Int32.toInt_inj.mp (e.trans (by decide +kernel)))
      have c23e : (mI m8 b12 l1.toNatClampNeg).toInt ≠ 46 := fun e => c23 (Int32.toInt_inj.mp (e.trans (by decide +kernel)))
      have c24e : (mI m8 b12 l1.toNatClampNeg).toInt ≠ 47 := fun e => c24 (Int32.toInt_inj.mp (e.trans (by decide +kernel)))
      have c25e : (mI m8 b12 l1.toNatClampNeg).toInt ≠ 48 := fun e => c25 (Int32.toInt_inj.mp (e.trans (by decide +kernel)))
      have c26e : (mI m8 b12 l1.toNatClampNeg).toInt ≠ 49 := fun e => c26 (Int32.toInt_inj.mp (e.trans (by decide +kernel)))
      have c27e : (mI m8 b12 l1.toNatClampNeg).toInt ≠ 50 := fun e => c27 (Int32.toInt_inj.mp (e.trans (by decide +kernel)))
      have c28e : (mI m8 b12 l1.toNatClampNeg).toInt ≠ 51 := fun e => c28 (Int32.toInt_inj.mp (e.trans (by decide +kernel)))
      have c29e : (mI m8 b12 l1.toNatClampNeg).toInt ≠ 52 := fun e => c29 (Int32.toInt_inj.mp (e.trans (by decide +kernel)))
      have c30e : (mI m8 b12 l1.toNatClampNeg).toInt ≠ 53 := fun e => c30 (Int32.toInt_inj.mp (e.trans (by decide +kernel)))
      have c31e : (mI m8 b12 l1.toNatClampNeg).toInt ≠ 54 := fun e => c31 (Int32.toInt_inj.mp (e.trans (by decide +kernel)))
      have c32e : (mI m8 b12 l1.toNatClampNeg).toInt ≠ 55 := fun e => c32 (Int32.toInt_inj.mp (e.trans (by decide +kernel)))
      have c33e : (mI m8 b12 l1.toNatClampNeg).toInt ≠ 56 := fun e => c33 (Int32.toInt_inj.mp (e.trans (by decide +kernel)))
      have c34e : (mI m8 b12 l1.toNatClampNeg).toInt ≠ 57 := fun e => c34 (Int32.toInt_inj.mp (e.trans (by decide +kernel)))
      have c35e : (mI m8 b12 l1.toNatClampNeg).toInt ≠ 58 := fun e => c35 (Int32.toInt_inj.mp (e.trans (by decide +kernel)))
      have c36e : (mI m8 b12 l1.toNatClampNeg).toInt ≠ 59 := fun e => c36 (Int32.toInt_inj.mp (e.trans (by decide +kernel)))
      have c37e : (mI m8 b12 l1.toNatClampNeg).toInt ≠ 60 := fun e => c37 (Int32.toInt_inj.mp (e.trans (by decide +kernel)))
      have c38e : (mI m8 b12 l1.toNatClampNeg).toInt ≠ 61 := fun e => c38 (Int32.toInt_inj.mp (e.trans (by decide +kernel)))
      have c39e : (mI m8 b12 l1.toNatClampNeg).toInt ≠ 62 := fun e => c39 (Int32.toInt_inj.mp (e.trans (by decide +kernel)))
      refine at_tabOut (dflt := 134) (lo := 40) (hi := 62) (offs := #[116, 119, 110, 106, 134, 108, 134, 113, 134, 134, 134, 134, 134, 134, 134, 134, 134, 134, 134, 131, 122, 128, 125]) (len := 106) 180 (by decide +kernel) (by omega) (by decide +kernel) ?_
      refine at_iconst (n := 1) (1 : Int32) 181 rfl (by decide +kernel) (by decide +kernel) ?_
      exact at_iret rfl (by decide +kernel) h
    · rw [if_neg c11] at h
      refine at_aload_n (i := 0) 0 24 rfl (by decide +kernel) rfl ?_
      refine at_iload_n (i := 1) 1 25 rfl (by decide +kernel) rfl ?_
      refine at_iload_n (i := 2) 2 26 rfl (by decide +kernel) rfl ?_
      refine at_callV mb_Tape_numberOf tw_602 tw_7 cok9 k10 (index := 71) tw_600 [.int (l1), .int (l2)] [] rfl rfl (by decide) 29 rfl (by decide +kernel) (Call.toI (CI.monoE h (fun x40 m41 h y42 => ?_)))
      have k43 : mK m41 t = 10 := y42.k k10 (by decide)
      refine at_ldc (index := 89) (999999 : Int32) 31 rfl (by decide +kernel) tw_608 ?_
      refine at_icmp_le (off := 7) 38 34 rfl (by decide +kernel) (by decide +kernel) (fun c44 => ?_) (fun c44 => ?_)
      · rw [if_pos c44] at h
        refine at_iconst (n := 3) (3 : Int32) 39 rfl (by decide +kernel) (by decide +kernel) ?_
        exact at_iret rfl (by decide +kernel) h
      · rw [if_neg c44] at h
        refine at_iconst (n := 1) (1 : Int32) 35 rfl (by decide +kernel) (by decide +kernel) ?_
        refine at_goto (off := 4) 39 (by decide +kernel) (by decide +kernel) ?_
        exact at_iret rfl (by decide +kernel) h
  · rw [if_neg c6] at h
    refine at_aload_n (i := 0) 0 9 rfl (by decide +kernel) rfl ?_
    refine at_iload_n (i := 1) 1 10 rfl (by decide +kernel) rfl ?_
    refine at_iload_n (i := 2) 2 11 rfl (by decide +kernel) rfl ?_
    refine at_callV mb_Tape_kindOfWord tw_533 tw_5 cok9 k5 (index := 86) tw_531 [.int (l1), .int (l2)] [] rfl rfl (by decide) 14 rfl (by decide +kernel) (Call.toI (CI.monoE h (fun x45 m46 h y47 => ?_)))
    have k48 : mK m46 t = 10 := y47.k k5 (by decide)
    exact at_iret rfl (by decide +kernel) h
set_option maxRecDepth 20000 in
set_option maxHeartbeats 4000000 in
theorem bk_Tape_numberOf_5 (g : Gc) {lv : Nat} {t : Nat} {l2 : Int32} {l3 : Int32} {l4 : Int32} {m : Mm} {Q : Int32 → Mm → Prop} (h : if (l2) ≤ (l4) then (Q l3 m) else (mK m t = 10 ∧ (∃ b3, mR m t 0 = some b3 ∧ (mK m b3 = 14 ∧ (vp_in l4 (mN m b3) ∧ (At g M_Tape_numberOf (lv + 1) 5 [(0, va_rf (some t)), (2, .int (l2)), (3, .int (imn (1000000 : Int32) (((l3 * (10 : Int32)) + (mI m b3 l4.toNatClampNeg)) - (48 : Int32)))), (4, .int (l4 + (1 : Int32)))] [] m (QI Q))))))) : At g M_Tape_numberOf (lv + 1) 5 [(0, va_rf (some t)), (2, .int (l2)), (3, .int (l3)), (4, .int (l4))] [] m (QI Q) := by
  refine at_iload (i := 4) 3 7 rfl (by decide +kernel) rfl ?_
  refine at_iload_n (i := 2) 1 8 rfl (by decide +kernel) rfl ?_
  refine at_icmp_ge (off := 30) 38 11 rfl (by decide +kernel) (by decide +kernel) (fun c1 => ?_) (fun c1 => ?_)
  · rw [if_pos c1] at h
    refine at_iload_n (i := 3) 2 39 rfl (by decide +kernel) rfl ?_
    exact at_iret rfl (by decide +kernel) h
  · rw [if_neg c1] at h
    refine at_ldc (index := 90) (1000000 : Int32) 13 rfl (by decide +kernel) tw_604 ?_
    refine at_iload_n (i := 3) 2 14 rfl (by decide +kernel) rfl ?_
    refine at_bipush (n := 10) (10 : Int32) 16 rfl (by decide +kernel) (by decide +kernel) ?_
    refine at_imul 17 rfl (by decide +kernel) ?_
    refine at_aload_n (i := 0) 0 18 rfl (by decide +kernel) rfl ?_
    obtain ⟨k2, h⟩ := h
    refine at_get (index := 9) (v := va_rf (mR m t 0)) cok9 0 21 rfl (by decide +kernel) k2 (by decide +kernel) tw_344 rfl ?_
    obtain ⟨b3, e4, h⟩ := h
    rw [e4]
    refine at_iload (i := 4) 3 23 rfl (by decide +kernel) rfl ?_
    obtain ⟨k5, h⟩ := h
    obtain ⟨v6, h⟩ := h
    refine at_bald 24 rfl (by decide +kernel) k5 v6 ?_
    refine at_iadd 25 rfl (by decide +kernel) ?_
    refine at_bipush (n := 48) (48 : Int32) 27 rfl (by decide +kernel) (by decide +kernel) ?_
    refine at_isub 28 rfl (by decide +kernel) ?_
    refine at_imn (index := 91) 31 rfl (by decide +kernel) tw_605 (by decide) ?_
    refine at_istore_n (i := 3) (lc' := [(0, va_rf (some t)), (2, .int (l2)), (3, .int (imn (1000000 : Int32) (((l3 * (10 : Int32)) + (mI m b3 l4.toNatClampNeg)) - (48 : Int32)))), (4, .int (l4))]) [1, 2, 0, 3] 32 rfl (by decide +kernel) (by decide +kernel) rfl ?_
    refine at_iinc (i := 4) (n := 1) (lc' := [(0, va_rf (some t)), (2, .int (l2)), (3, .int (imn (1000000 : Int32) (((l3 * (10 : Int32)) + (mI m b3 l4.toNatClampNeg)) - (48 : Int32)))), (4, .int (l4 + (1 : Int32)))]) (l4 + (1 : Int32)) 3 [1, 2, 3, 0] 35 rfl (by decide +kernel) rfl (by rw [show Int32.ofInt 1 = (1 : Int32) from by decide +kernel]) (by decide +kernel) rfl ?_
    refine at_goto (off := (-30)) 5 (by decide +kernel) (by decide +kernel) ?_
    exact h
set_option maxRecDepth 20000 in
set_option maxHeartbeats 4000000 in
theorem en_Tape_numberOf (g : Gc) {lv : Nat} {t : Nat} {l1 : Int32} {l2 : Int32} {m : Mm} {Q : Int32 → Mm → Prop} (h : At g M_Tape_numberOf (lv + 1) 5 [(0, va_rf (some t)), (2, .int (l2)), (3, .int ((0 : Int32))), (4, .int (l1))] [] m (QI Q)) : CI g M_Tape_numberOf (lv + 1) [va_rf (some t), .int (l1), .int (l2)] m Q := by
  refine Call.of (by decide +kernel) (Nat.le_of_ble_eq_true rfl) ?_
  show At g M_Tape_numberOf (lv + 1) 0 [(0, va_rf (some t)), (1, .int (l1)), (2, .int (l2))] [] m (QI Q)
  refine at_iconst (n := 0) (0 : Int32) 1 rfl (by decide +kernel) (by decide +kernel) ?_
  refine at_istore_n (i := 3) (lc' := [(0, va_rf (some t)), (1, .int (l1)), (2, .int (l2)), (3, .int ((0 : Int32)))]) [1, 2, 3, 0] 2 rfl (by decide +kernel) (by decide +kernel) rfl ?_
  refine at_iload_n (i := 1) 1 3 rfl (by decide +kernel) rfl ?_
  refine at_istore (i := 4) (lc' := [(0, va_rf (some t)), (2, .int (l2)), (3, .int ((0 : Int32))), (4, .int (l1))]) [1, 3, 4, 0] 5 rfl (by decide +kernel) (by decide +kernel) rfl ?_
  exact h
set_option maxRecDepth 20000 in
set_option maxHeartbeats 4000000 in
theorem en_Tape_kindOfWord (g : Gc) {lv : Nat} {t : Nat} {l1 : Int32} {l2 : Int32} {m : Mm} {Q : Int32 → Mm → Prop} (h : mK m t = 10 ∧ (CI g M_Tape_spells lv [va_rf (some t), .int (l1), .int (l2), va_rf (some (gK g 0))] m (fun x2 m3 => (if (x2) = 0 then (CI g M_Tape_spells lv [va_rf (some t), .int (l1), .int (l2), va_rf (some (gK g 1))] m3 (fun x7 m8 => (if (x7) = 0 then (CI g M_Tape_spells lv [va_rf (some t), .int (l1), .int (l2), va_rf (some (gK g 2))] m8 (fun x12 m13 => (if (x12) = 0 then (CI g M_Tape_spells lv [va_rf (some t), .int (l1), .int (l2), va_rf (some (gK g 3))] m13 (fun x17 m18 => (if (x17) = 0 then (CI g M_Tape_spells lv [va_rf (some t), .int (l1), .int (l2), va_rf (some (gK g 4))] m18 (fun x22 m23 => (if (x22) = 0 then (CI g M_Tape_spells lv [va_rf (some t), .int (l1), .int (l2), va_rf (some (gK g 5))] m23 (fun x27 m28 => (if (x27) = 0 then (CI g M_Tape_spells lv [va_rf (some t), .int (l1), .int (l2), va_rf (some (gK g 6))] m28 (fun x32 m33 => (if (x32) = 0 then (CI g M_Tape_spells lv [va_rf (some t), .int (l1), .int (l2), va_rf (some (gK g 7))] m33 (fun x37 m38 => (if (x37) = 0 then (CI g M_Tape_spells lv [va_rf (some t), .int (l1), .int (l2), va_rf (some (gK g 8))] m38 (fun x42 m43 => (if (x42) = 0 then (CI g M_Tape_spells lv [va_rf (some t), .int (l1), .int (l2), va_rf (some (gK g 9))] m43 (fun x47 m48 => (if (x47) = 0 then (CI g M_Tape_spells lv [va_rf (some t), .int (l1), .int (l2), va_rf (some (gK g 10))] m48 (fun x52 m53 => (if (x52) = 0 then (CI g M_Tape_spells lv [va_rf (some t), .int (l1), .int (l2), va_rf (some (gK g 11))] m53 (fun x57 m58 => (if (x57) = 0 then (CI g M_Tape_spells lv [va_rf (some t), .int (l1), .int (l2), va_rf (some (gK g 12))] m58 (fun x62 m63 => (if (x62) = 0 then (Q (1 : Int32) m63) else (Q (26 : Int32) m63)))) else (Q (25 : Int32) m58)))) else (Q (24 : Int32) m53)))) else (Q (23 : Int32) m48)))) else (Q (22 : Int32) m43)))) else (Q (21 : Int32) m38)))) else (Q (20 : Int32) m33)))) else (Q (19 : Int32) m28)))) else (Q (18 : Int32) m23)))) else (Q (17 : Int32) m18)))) else (Q (16 : Int32) m13)))) else (Q (15 : Int32) m8)))) else (Q (14 : Int32) m3))))) : CI g M_Tape_kindOfWord (lv + 1) [va_rf (some t), .int (l1), .int (l2)] m Q := by
  refine Call.of (by decide +kernel) (Nat.le_of_ble_eq_true rfl) ?_
  show At g M_Tape_kindOfWord (lv + 1) 0 [(0, va_rf (some t)), (1, .int (l1)), (2, .int (l2))] [] m (QI Q)
  refine at_aload_n (i := 0) 0 1 rfl (by decide +kernel) rfl ?_
  refine at_iload_n (i := 1) 1 2 rfl (by decide +kernel) rfl ?_
  refine at_iload_n (i := 2) 2 3 rfl (by decide +kernel) rfl ?_
  refine at_ldcS (index := 94) "keep" 0 5 rfl (by decide +kernel) (by decide +kernel) ?_
  obtain ⟨k1, h⟩ := h
  refine at_callV mb_Tape_spells tw_538 tw_6 cok9 k1 (index := 96) tw_536 [.int (l1), .int (l2), va_rf (some (gK g 0))] [] rfl rfl (by decide) 8 rfl (by decide +kernel) (Call.toI (CI.monoE h (fun x2 m3 h y4 => ?_)))
  have k5 : mK m3 t = 10 := y4.k k1 (by decide)
  refine at_if_eq (off := 6) 14 11 rfl (by decide +kernel) (by decide +kernel) (fun c6 => ?_) (fun c6 => ?_)
  · rw [if_pos c6] at h
    refine at_aload_n (i := 0) 0 15 rfl (by decide +kernel) rfl ?_
    refine at_iload_n (i := 1) 1 16 rfl (by decide +kernel) rfl ?_
    refine at_iload_n (i := 2) 2 17 rfl (by decide +kernel) rfl ?_
    refine at_ldcS (index := 100) "sell" 1 19 rfl (by decide +kernel) (by decide +kernel) ?_
    refine at_callV mb_Tape_spells tw_538 tw_6 cok9 k5 (index := 96) tw_536 [.int (l1), .int (l2), va_rf (some (gK g 1))] [] rfl rfl (by decide) 22 rfl (by decide +kernel) (Call.toI (CI.monoE h (fun x7 m8 h y9 => ?_)))
    have k10 : mK m8 t = 10 := y9.k k5 (by decide)
    refine at_if_eq (off := 6) 28 25 rfl (by decide +kernel) (by decide +kernel) (fun c11 => ?_) (fun c11 => ?_)
    · rw [if_pos c11] at h
      refine at_aload_n (i := 0) 0 29 rfl (by decide +kernel) rfl ?_
      refine at_iload_n (i := 1) 1 30 rfl (by decide +kernel) rfl ?_
      refine at_iload_n (i := 2) 2 31 rfl (by decide +kernel) rfl ?_
      refine at_ldcS (index := 102) "free" 2 33 rfl (by decide +kernel) (by decide +kernel) ?_
      refine at_callV mb_Tape_spells tw_538 tw_6 cok9 k10 (index := 96) tw_536 [.int (l1), .int (l2), va_rf (some (gK g 2))] [] rfl rfl (by decide) 36 rfl (by decide +kernel) (Call.toI (CI.monoE h (fun x12 m13 h y14 => ?_)))
      have k15 : mK m13 t = 10 := y14.k k10 (by decide)
      refine at_if_eq (off := 6) 42 39 rfl (by decide +kernel) (by decide +kernel) (fun c16 => ?_) (fun c16 => ?_)
      · rw [if_pos c16] at h
        refine at_aload_n (i := 0) 0 43 rfl (by decide +kernel) rfl ?_
        refine at_iload_n (i := 1) 1 44 rfl (by decide +kernel) rfl ?_
        refine at_iload_n (i := 2) 2 45 rfl (by decide +kernel) rfl ?_
        refine at_ldcS (index := 104) "least" 3 47 rfl (by decide +kernel) (by decide +kernel) ?_
        refine at_callV mb_Tape_spells tw_538 tw_6 cok9 k15 (index := 96) tw_536 [.int (l1), .int (l2), va_rf (some (gK g 3))] [] rfl rfl (by decide) 50 rfl (by decide +kernel) (Call.toI (CI.monoE h (fun x17 m18 h y19 => ?_)))
        have k20 : mK m18 t = 10 := y19.k k15 (by decide)
        refine at_if_eq (off := 6) 56 53 rfl (by decide +kernel) (by decide +kernel) (fun c21 => ?_) (fun c21 => ?_)
        · rw [if_pos c21] at h
          refine at_aload_n (i := 0) 0 57 rfl (by decide +kernel) rfl ?_
          refine at_iload_n (i := 1) 1 58 rfl (by decide +kernel) rfl ?_
          refine at_iload_n (i := 2) 2 59 rfl (by decide +kernel) rfl ?_
          refine at_ldcS (index := 106) "still" 4 61 rfl (by decide +kernel) (by decide +kernel) ?_
          refine at_callV mb_Tape_spells tw_538 tw_6 cok9 k20 (index := 96) tw_536 [.int (l1), .int (l2), va_rf (some (gK g 4))] [] rfl rfl (by decide) 64 rfl (by decide +kernel) (Call.toI (CI.monoE h (fun x22 m23 h y24 => ?_)))
          have k25 : mK m23 t = 10 := y24.k k20 (by decide)
          refine at_if_eq (off := 6) 70 67 rfl (by decide +kernel) (by decide +kernel) (fun c26 => ?_) (fun c26 => ?_)
          · rw [if_pos c26] at h
            refine at_aload_n (i := 0) 0 71 rfl (by decide +kernel) rfl ?_
            refine at_iload_n (i := 1) 1 72 rfl (by decide +kernel) rfl ?_
            refine at_iload_n (i := 2) 2 73 rfl (by decide +kernel) rfl ?_
            refine at_ldcS (index := 108) "if" 5 75 rfl (by decide +kernel) (by decide +kernel) ?_
            refine at_callV mb_Tape_spells tw_538 tw_6 cok9 k25 (index := 96) tw_536 [.int (l1), .int (l2), va_rf (some (gK g 5))] [] rfl rfl (by decide) 78 rfl (by decide +kernel) (Call.toI (CI.monoE h (fun x27 m28 h y29 => ?_)))
            have k30 : mK m28 t = 10 := y29.k k25 (by decide)
            refine at_if_eq (off := 6) 84 81 rfl (by decide +kernel) (by decide +kernel) (fun c31 => ?_) (fun c31 => ?_)
            · rw [if_pos c31] at h
              refine at_aload_n (i := 0) 0 85 rfl (by decide +kernel) rfl ?_
              refine at_iload_n (i := 1) 1 86 rfl (by decide +kernel) rfl ?_
              refine at_iload_n (i := 2) 2 87 rfl (by decide +kernel) rfl ?_
              refine at_ldcS (index := 110) "and" 6 89 rfl (by decide +kernel) (by decide +kernel) ?_
              refine at_callV mb_Tape_spells tw_538 tw_6 cok9 k30 (index := 96) tw_536 [.int (l1), .int (l2), va_rf (some (gK g 6))] [] rfl rfl (by decide) 92 rfl (by decide +kernel) (Call.toI (CI.monoE h (fun x32 m33 h y34 => ?_)))
              have k35 : mK m33 t = 10 := y34.k k30 (by decide)
              refine at_if_eq (off := 6) 98 95 rfl (by decide +kernel) (by decide +kernel) (fun c36 => ?_) (fun c36 => ?_)
              · rw [if_pos c36] at h
                refine at_aload_n (i := 0) 0 99 rfl (by decide +kernel) rfl ?_
                refine at_iload_n (i := 1) 1 100 rfl (by decide +kernel) rfl ?_
                refine at_iload_n (i := 2) 2 101 rfl (by decide +kernel) rfl ?_
                refine at_ldcS (index := 112) "crop" 7 103 rfl (by decide +kernel) (by decide +kernel) ?_
                refine at_callV mb_Tape_spells tw_538 tw_6 cok9 k35 (index := 96) tw_536 [.int (l1), .int (l2), va_rf (some (gK g 7))] [] rfl rfl (by decide) 106 rfl (by decide +kernel) (Call.toI (CI.monoE h (fun x37 m38 h y39 => ?_)))
                have k40 : mK m38 t = 10 := y39.k k35 (by decide)
                refine at_if_eq (off := 6) 112 109 rfl (by decide +kernel) (by decide +kernel) (fun c41 => ?_) (fun c41 => ?_)
                · rw [if_pos c41] at h
                  refine at_aload_n (i := 0) 0 113 rfl (by decide +kernel) rfl ?_
                  refine at_iload_n (i := 1) 1 114 rfl (by decide +kernel) rfl ?_
                  refine at_iload_n (i := 2) 2 115 rfl (by decide +kernel) rfl ?_
                  refine at_ldcS (index := 114) "store" 8 117 rfl (by decide +kernel) (by decide +kernel) ?_
                  refine at_callV mb_Tape_spells tw_538 tw_6 cok9 k40 (index := 96) tw_536 [.int (l1), .int (l2), va_rf (some (gK g 8))] [] rfl rfl (by decide) 120 rfl (by decide +kernel) (Call.toI (CI.monoE h (fun x42 m43 h y44 => ?_)))
                  have k45 : mK m43 t = 10 := y44.k k40 (by decide)
                  refine at_if_eq (off := 6) 126 123 rfl (by decide +kernel) (by decide +kernel) (fun c46 => ?_) (fun c46 => ?_)
                  · rw [if_pos c46] at h
                    refine at_aload_n (i := 0) 0 127 rfl (by decide +kernel) rfl ?_
                    refine at_iload_n (i := 1) 1 128 rfl (by decide +kernel) rfl ?_
                    refine at_iload_n (i := 2) 2 129 rfl (by decide +kernel) rfl ?_
                    refine at_ldcS (index := 116) "old" 9 131 rfl (by decide +kernel) (by decide +kernel) ?_
                    refine at_callV mb_Tape_spells tw_538 tw_6 cok9 k45 (index := 96) tw_536 [.int (l1), .int (l2), va_rf (some (gK g 9))] [] rfl rfl (by decide) 134 rfl (by decide +kernel) (Call.toI (CI.monoE h (fun x47 m48 h y49 => ?_)))
                    have k50 : mK m48 t = 10 := y49.k k45 (by decide)
                    refine at_if_eq (off := 6) 140 137 rfl (by decide +kernel) (by decide +kernel) (fun c51 => ?_) (fun c51 => ?_)
                    · rw [if_pos c51] at h
                      refine at_aload_n (i := 0) 0 141 rfl (by decide +kernel) rfl ?_
                      refine at_iload_n (i := 1) 1 142 rfl (by decide +kernel) rfl ?_
                      refine at_iload_n (i := 2) 2 143 rfl (by decide +kernel) rfl ?_
                      refine at_ldcS (index := 118) "price" 10 145 rfl (by decide +kernel) (by decide +kernel) ?_
                      refine at_callV mb_Tape_spells tw_538 tw_6 cok9 k50 (index := 96) tw_536 [.int (l1), .int (l2), va_rf (some (gK g 10))] [] rfl rfl (by decide) 148 rfl (by decide +kernel) (Call.toI (CI.monoE h (fun x52 m53 h y54 => ?_)))
                      have k55 : mK m53 t = 10 := y54.k k50 (by decide)
                      refine at_if_eq (off := 6) 154 151 rfl (by decide +kernel) (by decide +kernel) (fun c56 => ?_) (fun c56 => ?_)
                      · rw [if_pos c56] at h
                        refine at_aload_n (i := 0) 0 155 rfl (by decide +kernel) rfl ?_
                        refine at_iload_n (i := 1) 1 156 rfl (by decide +kernel) rfl ?_
                        refine at_iload_n (i := 2) 2 157 rfl (by decide +kernel) rfl ?_
                        refine at_ldcS (index := 120) "want" 11 159 rfl (by decide +kernel) (by decide +kernel) ?_
                        refine at_callV mb_Tape_spells tw_538 tw_6 cok9 k55 (index := 96) tw_536 [.int (l1), .int (l2), va_rf (some (gK g 11))] [] rfl rfl (by decide) 162 rfl (by decide +kernel) (Call.toI (CI.monoE h (fun x57 m58 h y59 => ?_)))
                        have k60 : mK m58 t = 10 := y59.k k55 (by decide)
                        refine at_if_eq (off := 6) 168 165 rfl (by decide +kernel) (by decide +kernel) (fun c61 => ?_) (fun c61 => ?_)
                        · rw [if_pos c61] at h
                          refine at_aload_n (i := 0) 0 169 rfl (by decide +kernel) rfl ?_
                          refine at_iload_n (i := 1) 1 170 rfl (by decide +kernel) rfl ?_
                          refine at_iload_n (i := 2) 2 171 rfl (by decide +kernel) rfl ?_
                          refine at_ldcS (index := 122) "year" 12 173 rfl (by decide +kernel) (by decide +kernel) ?_
                          refine at_callV mb_Tape_spells tw_538 tw_6 cok9 k60 (index := 96) tw_536 [.int (l1), .int (l2), va_rf (some (gK g 12))] [] rfl rfl (by decide) 176 rfl (by decide +kernel) (Call.toI (CI.monoE h (fun x62 m63 h y64 => ?_)))
                          have k65 : mK m63 t = 10 := y64.k k60 (by decide)
                          refine at_if_eq (off := 6) 182 179 rfl (by decide +kernel) (by decide +kernel) (fun c66 => ?_) (fun c66 => ?_)
                          · rw [if_pos c66] at h
                            refine at_iconst (n := 1) (1 : Int32) 183 rfl (by decide +kernel) (by decide +kernel) ?_
                            exact at_iret rfl (by decide +kernel) h
                          · rw [if_neg c66] at h
                            refine at_bipush (n := 26) (26 : Int32) 181 rfl (by decide +kernel) (by decide +kernel) ?_
                            exact at_iret rfl (by decide +kernel) h
                        · rw [if_neg c61] at h
                          refine at_bipush (n := 25) (25 : Int32) 167 rfl (by decide +kernel) (by decide +kernel) ?_
                          exact at_iret rfl (by decide +kernel) h
                      · rw [if_neg c56] at h
                        refine at_bipush (n := 24) (24 : Int32) 153 rfl (by decide +kernel) (by decide +kernel) ?_
                        exact at_iret rfl (by decide +kernel) h
                    · rw [if_neg c51] at h
                      refine at_bipush (n := 23) (23 : Int32) 139 rfl (by decide +kernel) (by decide +kernel) ?_
                      exact at_iret rfl (by decide +kernel) h
                  · rw [if_neg c46] at h
                    refine at_bipush (n := 22) (22 : Int32) 125 rfl (by decide +kernel) (by decide +kernel) ?_
                    exact at_iret rfl (by decide +kernel) h
                · rw [if_neg c41] at h
                  refine at_bipush (n := 21) (21 : Int32) 111 rfl (by decide +kernel) (by decide +kernel) ?_
                  exact at_iret rfl (by decide +kernel) h
              · rw [if_neg c36] at h
                refine at_bipush (n := 20) (20 : Int32) 97 rfl (by decide +kernel) (by decide +kernel) ?_
                exact at_iret rfl (by decide +kernel) h
            · rw [if_neg c31] at h
              refine at_bipush (n := 19) (19 : Int32) 83 rfl (by decide +kernel) (by decide +kernel) ?_
              exact at_iret rfl (by decide +kernel) h
          · rw [if_neg c26] at h
            refine at_bipush (n := 18) (18 : Int32) 69 rfl (by decide +kernel) (by decide +kernel) ?_
            exact at_iret rfl (by decide +kernel) h
        · rw [if_neg c21] at h
          refine at_bipush (n := 17) (17 : Int32) 55 rfl (by decide +kernel) (by decide +kernel) ?_
          exact at_iret rfl (by decide +kernel) h
      · rw [if_neg c16] at h
        refine at_bipush (n := 16) (16 : Int32) 41 rfl (by decide +kernel) (by decide +kernel) ?_
        exact at_iret rfl (by decide +kernel) h
    · rw [if_neg c11] at h
      refine at_bipush (n := 15) (15 : Int32) 27 rfl (by decide +kernel) (by decide +kernel) ?_
      exact at_iret rfl (by decide +kernel) h
  · rw [if_neg c6] at h
    refine at_bipush (n := 14) (14 : Int32) 13 rfl (by decide +kernel) (by decide +kernel) ?_
    exact at_iret rfl (by decide +kernel) h
set_option maxRecDepth 20000 in
set_option maxHeartbeats 4000000 in
theorem bk_Tape_spells_15 (g : Gc) {lv : Nat} {t : Nat} {l1 : Int32} {l3 : Option Nat} {l4 : Int32} {m : Mm} {Q : Int32 → Mm → Prop} (h : ∃ i1, i1 < 13 ∧ l3 = some (gK g i1) ∧ (CI g M_String_length lv [va_rf (some (gK g i1))] m (fun x4 m5 => (if (x4) ≤ (l4) then (Q (1 : Int32) m5) else (mK m5 t = 10 ∧ (∃ b9, mR m5 t 0 = some b9 ∧ (mK m5 b9 = 14 ∧ (vp_in (l1 + l4) (mN m5 b9) ∧ (CI g M_String_charAt lv [va_rf (some (gK g i1)), .int (l4)] m5 (fun x14 m15 => (if (mI m5 b9 (l1 + l4).toNatClampNeg) = (x14) then (At g M_Tape_spells (lv + 1) 15 [(0, va_rf (some t)), (1, .int (l1)), (3, va_rf (some (gK g i1))), (4, .int (l4 + (1 : Int32)))] [] m15 (QI Q)) else (Q (0 : Int32) m15)))))))))))) : At g M_Tape_spells (lv + 1) 15 [(0, va_rf (some t)), (1, .int (l1)), (3, va_rf (l3)), (4, .int (l4))] [] m (QI Q) := by
  refine at_iload (i := 4) 3 17 rfl (by decide +kernel) rfl ?_
  refine at_aload_n (i := 3) 2 18 rfl (by decide +kernel) rfl ?_
  obtain ⟨i1, c2, e3, h⟩ := h
  subst e3
  refine at_callVS mb_String_length rfl tw_541 tw_542 c2 (index := 124) tw_540 [] [.int (l4)] rfl rfl (by simp [va_rf_cat, cat_int, cat_long]) 21 rfl (by decide +kernel) (Call.toI (CI.monoE h (fun x4 m5 h y6 => ?_)))
  refine at_icmp_ge (off := 29) 50 24 rfl (by decide +kernel) (by decide +kernel) (fun c7 => ?_) (fun c7 => ?_)
  · rw [if_pos c7] at h
    refine at_iconst (n := 1) (1 : Int32) 51 rfl (by decide +kernel) (by decide +kernel) ?_
    exact at_zret rfl (by decide +kernel) (Or.inr rfl) h
  · rw [if_neg c7] at h
    refine at_aload_n (i := 0) 0 25 rfl (by decide +kernel) rfl ?_
    obtain ⟨k8, h⟩ := h
    refine at_get (index := 9) (v := va_rf (mR m5 t 0)) cok9 0 28 rfl (by decide +kernel) k8 (by decide +kernel) tw_344 rfl ?_
    obtain ⟨b9, e10, h⟩ := h
    rw [e10]
    refine at_iload_n (i := 1) 1 29 rfl (by decide +kernel) rfl ?_
    refine at_iload (i := 4) 3 31 rfl (by decide +kernel) rfl ?_
    refine at_iadd 32 rfl (by decide +kernel) ?_
    obtain ⟨k11, h⟩ := h
    obtain ⟨v12, h⟩ := h
    refine at_bald 33 rfl (by decide +kernel) k11 v12 ?_
    refine at_aload_n (i := 3) 2 34 rfl (by decide +kernel) rfl ?_
    refine at_iload (i := 4) 3 36 rfl (by decide +kernel) rfl ?_
    have c13 : i1 < 13 := by first | assumption | decide
    refine at_callVS mb_String_charAt rfl tw_551 tw_552 c13 (index := 129) tw_550 [.int (l4)] [.int (mI m5 b9 (l1 + l4).toNatClampNeg)] rfl rfl (by simp [va_rf_cat, cat_int, cat_long]) 39 rfl (by decide +kernel) (Call.toI (CI.monoE h (fun x14 m15 h y16 => ?_)))
    have k17 : mK m15 t = 10 := y16.k k8 (by decide)
    have k18 : mK m15 b9 = 14 := y16.k k11 (by decide)
    have e19 : mR m15 t 0 = some b9 := y16.r k8 (by decide) rfl e10
    refine at_icmp_eq (off := 5) 44 42 rfl (by decide +kernel) (by decide +kernel) (fun c20 => ?_) (fun c20 => ?_)
    · rw [if_pos c20] at h
      refine at_iinc (i := 4) (n := 1) (lc' := [(0, va_rf (some t)), (1, .int (l1)), (3, va_rf (some (gK g i1))), (4, .int (l4 + (1 : Int32)))]) (l4 + (1 : Int32)) 3 [1, 2, 3, 0] 47 rfl (by decide +kernel) rfl (by rw [show Int32.ofInt 1 = (1 : Int32) from by decide +kernel]) (by decide +kernel) rfl ?_
      refine at_goto (off := (-32)) 15 (by decide +kernel) (by decide +kernel) ?_
      exact h
    · rw [if_neg c20] at h
      refine at_iconst (n := 0) (0 : Int32) 43 rfl (by decide +kernel) (by decide +kernel) ?_
      exact at_zret rfl (by decide +kernel) (Or.inl rfl) h
set_option maxRecDepth 20000 in
set_option maxHeartbeats 4000000 in
theorem en_Tape_spells (g : Gc) {lv : Nat} {t : Nat} {l1 : Int32} {l2 : Int32} {l3 : Option Nat} {m : Mm} {Q : Int32 → Mm → Prop} (h : ∃ i1, i1 < 13 ∧ l3 = some (gK g i1) ∧ (CI g M_String_length lv [va_rf (some (gK g i1))] m (fun x4 m5 => (if (l2 - l1) = (x4) then (At g M_Tape_spells (lv + 1) 15 [(0, va_rf (some t)), (1, .int (l1)), (3, va_rf (some (gK g i1))), (4, .int ((0 : Int32)))] [] m5 (QI Q)) else (Q (0 : Int32) m5))))) : CI g M_Tape_spells (lv + 1) [va_rf (some t), .int (l1), .int (l2), va_rf (l3)] m Q := by
  refine Call.of (by decide +kernel) (by simp [lg_sl, va_rf_cat, cat_int, cat_long, M_Tape_spells]) ?_
  rw [show lv_args 0 [va_rf (some t), .int (l1), .int (l2), va_rf (l3)] = [(0, va_rf (some t)), (1, .int (l1)), (2, .int (l2)), (3, va_rf (l3))] from by simp [lv_args, va_rf_cat, cat_int, cat_long]]
  refine at_iload_n (i := 2) 2 1 rfl (by decide +kernel) rfl ?_
  refine at_iload_n (i := 1) 1 2 rfl (by decide +kernel) rfl ?_
  refine at_isub 3 rfl (by decide +kernel) ?_
  refine at_aload_n (i := 3) 3 4 rfl (by decide +kernel) rfl ?_
  obtain ⟨i1, c2, e3, h⟩ := h
  subst e3
  refine at_callVS mb_String_length rfl tw_541 tw_542 c2 (index := 124) tw_540 [] [.int (l2 - l1)] rfl rfl (by simp [va_rf_cat, cat_int, cat_long]) 7 rfl (by decide +kernel) (Call.toI (CI.monoE h (fun x4 m5 h y6 => ?_)))
  refine at_icmp_eq (off := 5) 12 10 rfl (by decide +kernel) (by decide +kernel) (fun c7 => ?_) (fun c7 => ?_)
  · rw [if_pos c7] at h
    refine at_iconst (n := 0) (0 : Int32) 13 rfl (by decide +kernel) (by decide +kernel) ?_
    refine at_istore (i := 4) (lc' := [(0, va_rf (some t)), (1, .int (l1)), (3, va_rf (some (gK g i1))), (4, .int ((0 : Int32)))]) [1, 2, 4, 0] 15 rfl (by decide +kernel) (by decide +kernel) rfl ?_
    exact h
  · rw [if_neg c7] at h
    refine at_iconst (n := 0) (0 : Int32) 11 rfl (by decide +kernel) (by decide +kernel) ?_
    exact at_zret rfl (by decide +kernel) (Or.inl rfl) h
set_option maxRecDepth 20000 in
set_option maxHeartbeats 4000000 in
theorem en_Tape_step (g : Gc) {lv : Nat} {t : Nat} {m : Mm} {Q : Mm → Prop} (h : mK m t = 10 ∧ (if ((mI m t 6) - (1 : Int32)) ≤ (mI m t 7) then (Q m) else (∀ m3, m3 = sI m t 7 ((mI m t 7) + (1 : Int32)) → (Q m3)))) : CV g M_Tape_step (lv + 1) [va_rf (some t)] m Q := by
  refine Call.of (by decide +kernel) (Nat.le_of_ble_eq_true rfl) ?_
  show At g M_Tape_step (lv + 1) 0 [(0, va_rf (some t))] [] m (QV Q)
  refine at_aload_n (i := 0) 0 1 rfl (by decide +kernel) rfl ?_
  obtain ⟨k1, h⟩ := h
  refine at_get (index := 44) (v := .int (mI m t 7)) cok9 7 4 rfl (by decide +kernel) k1 (by decide +kernel) tw_353 rfl ?_
  refine at_aload_n (i := 0) 0 5 rfl (by decide +kernel) rfl ?_
  refine at_get (index := 60) (v := .int (mI m t 6)) cok9 6 8 rfl (by decide +kernel) k1 (by decide +kernel) tw_352 rfl ?_
  refine at_iconst (n := 1) (1 : Int32) 9 rfl (by decide +kernel) (by decide +kernel) ?_
  refine at_isub 10 rfl (by decide +kernel) ?_
  refine at_icmp_ge (off := 13) 23 13 rfl (by decide +kernel) (by decide +kernel) (fun c2 => ?_) (fun c2 => ?_)
  · rw [if_pos c2] at h
    exact at_vret rfl (by decide +kernel) h
  · rw [if_neg c2] at h
    refine at_aload_n (i := 0) 0 14 rfl (by decide +kernel) rfl ?_
    refine at_dup 15 rfl (by decide +kernel) (va_rf_cat _) ?_
    refine at_get (index := 44) (v := .int (mI m t 7)) cok9 7 18 rfl (by decide +kernel) k1 (by decide +kernel) tw_353 rfl ?_
    refine at_iconst (n := 1) (1 : Int32) 19 rfl (by decide +kernel) (by decide +kernel) ?_
    refine at_iadd 20 rfl (by decide +kernel) ?_
    refine at_putI (index := 44) cok9 7 23 rfl (by decide +kernel) k1 (by decide +kernel) tw_353 rfl rfl rfl (fun m3 e4 => ?_)
    replace h := h m3 e4
    have x5 : Ext m m3 := by rw [e4]; exact Ext.sI _ _ _ _
    have k6 : mK m3 t = 10 := x5.k k1 (by decide)
    exact at_vret rfl (by decide +kernel) h
set_option maxRecDepth 20000 in
set_option maxHeartbeats 4000000 in
theorem en_Tape_refuse (g : Gc) {lv : Nat} {t : Nat} {m : Mm} {Q : Int32 → Mm → Prop} (h : mK m t = 10 ∧ (∃ b2, mR m t 2 = some b2 ∧ (mK m b2 = 15 ∧ (vp_in (mI m t 7) (mN m b2) ∧ (∀ m6, m6 = sI m t 5 (mI m b2 (mI m t 7).toNatClampNeg) → (Q (0 : Int32) m6)))))) : CI g M_Tape_refuse (lv + 1) [va_rf (some t)] m Q := by
  refine Call.of (by decide +kernel) (Nat.le_of_ble_eq_true rfl) ?_
  show At g M_Tape_refuse (lv + 1) 0 [(0, va_rf (some t))] [] m (QI Q)
  refine at_aload_n (i := 0) 0 1 rfl (by decide +kernel) rfl ?_
  refine at_aload_n (i := 0) 0 2 rfl (by decide +kernel) rfl ?_
  obtain ⟨k1, h⟩ := h
  refine at_get (index := 19) (v := va_rf (mR m t 2)) cok9 2 5 rfl (by decide +kernel) k1 (by decide +kernel) tw_346 rfl ?_
  obtain ⟨b2, e3, h⟩ := h
  rw [e3]
  refine at_aload_n (i := 0) 0 6 rfl (by decide +kernel) rfl ?_
  refine at_get (index := 44) (v := .int (mI m t 7)) cok9 7 9 rfl (by decide +kernel) k1 (by decide +kernel) tw_353 rfl ?_
  obtain ⟨k4, h⟩ := h
  obtain ⟨v5, h⟩ := h
  refine at_iald 10 rfl (by decide +kernel) k4 v5 ?_
  refine at_putI (index := 25) cok9 5 13 rfl (by decide +kernel) k1 (by decide +kernel) tw_350 rfl rfl rfl (fun m6 e7 => ?_)
  replace h := h m6 e7
  have x8 : Ext m m6 := by rw [e7]; exact Ext.sI _ _ _ _
  have k9 : mK m6 t = 10 := x8.k k1 (by decide)
  have k10 : mK m6 b2 = 15 := x8.k k4 (by decide)
  have e11 : mR m6 t 2 = some b2 := x8.r k1 (by decide) rfl e3
  refine at_iconst (n := 0) (0 : Int32) 14 rfl (by decide +kernel) (by decide +kernel) ?_
  exact at_zret rfl (by decide +kernel) (Or.inl rfl) h
set_option maxRecDepth 20000 in
set_option maxHeartbeats 4000000 in
theorem bk_Tape_readClause_174 (g : Gc) {lv : Nat} {t : Nat} {l1 : Int32} {l2 : Int32} {l3 : Int32} {m : Mm} {Q : Int32 → Mm → Prop} (h : mK m t = 10 ∧ (∃ b2, mR m t 8 = some b2 ∧ (mK m b2 = 5 ∧ (CV g M_Law_addClause lv [va_rf (some b2), .int (l1), .int (l2), .int (l3)] m (fun m5 => (Q (1 : Int32) m5)))))) : At g M_Tape_readClause (lv + 1) 174 [(0, va_rf (some t)), (1, .int (l1)), (2, .int (l2)), (3, .int (l3))] [] m (QI Q) := by
  refine at_aload_n (i := 0) 0 175 rfl (by decide +kernel) rfl ?_
  obtain ⟨k1, h⟩ := h
  refine at_get (index := 32) (v := va_rf (mR m t 8)) cok9 8 178 rfl (by decide +kernel) k1 (by decide +kernel) tw_354 rfl ?_
  refine at_iload_n (i := 1) 1 179 rfl (by decide +kernel) rfl ?_
  refine at_iload_n (i := 2) 2 180 rfl (by decide +kernel) rfl ?_
  refine at_iload_n (i := 3) 3 181 rfl (by decide +kernel) rfl ?_
  obtain ⟨b2, e3, h⟩ := h
  rw [e3]
  obtain ⟨k4, h⟩ := h
  refine at_callV mb_Law_addClause tw_644 tw_645 cok4 k4 (index := 147) tw_643 [.int (l1), .int (l2), .int (l3)] [] rfl rfl (by decide) 184 rfl (by decide +kernel) (Call.toV (CV.monoE h (fun m5 h y6 => ?_)))
  have k7 : mK m5 t = 10 := y6.k k1 (by decide)
  have k8 : mK m5 b2 = 5 := y6.k k4 (by decide)
  refine at_iconst (n := 1) (1 : Int32) 185 rfl (by decide +kernel) (by decide +kernel) ?_
  exact at_zret rfl (by decide +kernel) (Or.inr rfl) h
set_option maxRecDepth 20000 in
set_option maxHeartbeats 4000000 in
theorem bk_Tape_readClause_144 (g : Gc) {lv : Nat} {t : Nat} {l1 : Int32} {l2 : Int32} {l3 : Int32} {s0 : Int32} {m : Mm} {Q : Int32 → Mm → Prop} (h : if (s0) = 0 then (At g M_Tape_readClause (lv + 1) 174 [(0, va_rf (some t)), (1, .int (l1)), (2, .int (l2)), (3, .int (l3))] [] m (QI Q)) else (mK m t = 10 ∧ (∃ b3, mR m t 1 = some b3 ∧ (mK m b3 = 15 ∧ (vp_in (mI m t 7) (mN m b3) ∧ (if (mI m b3 (mI m t 7).toNatClampNeg) = ((19 : Int32)) then (CI g M_Tape_readConditions lv [va_rf (some t)] m (fun x8 m9 => (if (x8) = 0 then (Q (0 : Int32) m9) else (At g M_Tape_readClause (lv + 1) 174 [(0, va_rf (some t)), (1, .int (l1)), (2, .int (l2)), (3, .int (l3))] [] m9 (QI Q))))) else (At g M_Tape_readClause (lv + 1) 174 [(0, va_rf (some t)), (1, .int (l1)), (2, .int (l2)), (3, .int (l3))] [] m (QI Q)))))))) : At g M_Tape_readClause (lv + 1) 144 [(0, va_rf (some t)), (1, .int (l1)), (2, .int (l2)), (3, .int (l3))] [.int (s0)] m (QI Q) := by
  refine at_istore (i := 4) (lc' := [(0, va_rf (some t)), (1, .int (l1)), (2, .int (l2)), (3, .int (l3)), (4, .int (s0))]) [1, 2, 3, 4, 0] 146 rfl (by decide +kernel) (by decide +kernel) rfl ?_
  refine at_iload (i := 4) 4 148 rfl (by decide +kernel) rfl ?_
  refine at_if_eq (off := 26) 174 151 rfl (by decide +kernel) (by decide +kernel) (fun c1 => ?_) (fun c1 => ?_)
  · rw [if_pos c1] at h
    exact At.sub [0, 1, 2, 3] rfl h
  · rw [if_neg c1] at h
    refine at_aload_n (i := 0) 0 152 rfl (by decide +kernel) rfl ?_
    obtain ⟨k2, h⟩ := h
    refine at_get (index := 15) (v := va_rf (mR m t 1)) cok9 1 155 rfl (by decide +kernel) k2 (by decide +kernel) tw_345 rfl ?_
    obtain ⟨b3, e4, h⟩ := h
    rw [e4]
    refine at_aload_n (i := 0) 0 156 rfl (by decide +kernel) rfl ?_
    refine at_get (index := 44) (v := .int (mI m t 7)) cok9 7 159 rfl (by decide +kernel) k2 (by decide +kernel) tw_353 rfl ?_
    obtain ⟨k5, h⟩ := h
    obtain ⟨v6, h⟩ := h
    refine at_iald 160 rfl (by decide +kernel) k5 v6 ?_
    refine at_bipush (n := 19) (19 : Int32) 162 rfl (by decide +kernel) (by decide +kernel) ?_
    refine at_icmp_ne (off := 12) 174 165 rfl (by decide +kernel) (by decide +kernel) (fun c7 => ?_) (fun c7 => ?_)
    · rw [if_neg c7] at h
      exact At.sub [0, 1, 2, 3] rfl h
    · rw [if_pos c7] at h
      refine at_aload_n (i := 0) 0 166 rfl (by decide +kernel) rfl ?_
      refine at_callV mb_Tape_readConditions tw_641 tw_14 cok9 k2 (index := 144) tw_639 [] [] rfl rfl (by decide) 169 rfl (by decide +kernel) (Call.toI (CI.monoE h (fun x8 m9 h y10 => ?_)))
      have k11 : mK m9 t = 10 := y10.k k2 (by decide)
      have k12 : mK m9 b3 = 15 := y10.k k5 (by decide)
      have e13 : mR m9 t 1 = some b3 := y10.r k2 (by decide) rfl e4
      refine at_if_ne (off := 5) 174 172 rfl (by decide +kernel) (by decide +kernel) (fun c14 => ?_) (fun c14 => ?_)
      · rw [if_neg c14] at h
        exact At.sub [0, 1, 2, 3] rfl h
      · rw [if_pos c14] at h
        refine at_iconst (n := 0) (0 : Int32) 173 rfl (by decide +kernel) (by decide +kernel) ?_
        exact at_zret rfl (by decide +kernel) (Or.inl rfl) h
set_option maxRecDepth 20000 in
set_option maxHeartbeats 4000000 in
theorem bk_Tape_readClause_139 (g : Gc) {lv : Nat} {t : Nat} {l1 : Int32} {l2 : Int32} {l3 : Int32} {m : Mm} {Q : Int32 → Mm → Prop} (h : At g M_Tape_readClause (lv + 1) 144 [(0, va_rf (some t)), (1, .int (l1)), (2, .int (l2)), (3, .int (l3))] [.int ((1 : Int32))] m (QI Q)) : At g M_Tape_readClause (lv + 1) 139 [(0, va_rf (some t)), (1, .int (l1)), (2, .int (l2)), (3, .int (l3))] [] m (QI Q) := by
  refine at_iconst (n := 1) (1 : Int32) 140 rfl (by decide +kernel) (by decide +kernel) ?_
  refine at_goto (off := 4) 144 (by decide +kernel) (by decide +kernel) ?_
  exact h
set_option maxRecDepth 20000 in
set_option maxHeartbeats 4000000 in
theorem bk_Tape_readClause_119 (g : Gc) {lv : Nat} {t : Nat} {l1 : Int32} {l2 : Int32} {m : Mm} {Q : Int32 → Mm → Prop} (h : mK m t = 10 ∧ (∃ b2, mR m t 8 = some b2 ∧ (mK m b2 = 5 ∧ (if (l1) = ((14 : Int32)) then (At g M_Tape_readClause (lv + 1) 139 [(0, va_rf (some t)), (1, .int (l1)), (2, .int (l2)), (3, .int (mI m b2 6))] [] m (QI Q)) else (if (l1) = ((15 : Int32)) then (At g M_Tape_readClause (lv + 1) 139 [(0, va_rf (some t)), (1, .int (l1)), (2, .int (l2)), (3, .int (mI m b2 6))] [] m (QI Q)) else (At g M_Tape_readClause (lv + 1) 144 [(0, va_rf (some t)), (1, .int (l1)), (2, .int (l2)), (3, .int (mI m b2 6))] [.int ((0 : Int32))] m (QI Q))))))) : At g M_Tape_readClause (lv + 1) 119 [(0, va_rf (some t)), (1, .int (l1)), (2, .int (l2))] [] m (QI Q) := by
  refine at_aload_n (i := 0) 0 120 rfl (by decide +kernel) rfl ?_
  obtain ⟨k1, h⟩ := h
  refine at_get (index := 32) (v := va_rf (mR m t 8)) cok9 8 123 rfl (by decide +kernel) k1 (by decide +kernel) tw_354 rfl ?_
  obtain ⟨b2, e3, h⟩ := h
  rw [e3]
  obtain ⟨k4, h⟩ := h
  refine at_get (index := 41) (v := .int (mI m b2 6)) cok4 6 126 rfl (by decide +kernel) k4 (by decide +kernel) tw_399 rfl ?_
  refine at_istore_n (i := 3) (lc' := [(0, va_rf (some t)), (1, .int (l1)), (2, .int (l2)), (3, .int (mI m b2 6))]) [1, 2, 3, 0] 127 rfl (by decide +kernel) (by decide +kernel) rfl ?_
  refine at_iload_n (i := 1) 1 128 rfl (by decide +kernel) rfl ?_
  refine at_bipush (n := 14) (14 : Int32) 130 rfl (by decide +kernel) (by decide +kernel) ?_
  refine at_icmp_eq (off := 9) 139 133 rfl (by decide +kernel) (by decide +kernel) (fun c5 => ?_) (fun c5 => ?_)
  · rw [if_pos c5] at h
    exact h
  · rw [if_neg c5] at h
    refine at_iload_n (i := 1) 1 134 rfl (by decide +kernel) rfl ?_
    refine at_bipush (n := 15) (15 : Int32) 136 rfl (by decide +kernel) (by decide +kernel) ?_
    refine at_icmp_ne (off := 7) 143 139 rfl (by decide +kernel) (by decide +kernel) (fun c6 => ?_) (fun c6 => ?_)
    · rw [if_neg c6] at h
      refine at_iconst (n := 0) (0 : Int32) 144 rfl (by decide +kernel) (by decide +kernel) ?_
      exact h
    · rw [if_pos c6] at h
      exact h
set_option maxRecDepth 20000 in
set_option maxHeartbeats 4000000 in
theorem bk_Tape_readClause_68 (g : Gc) {lv : Nat} {t : Nat} {l1 : Int32} {l2 : Int32} {m : Mm} {Q : Int32 → Mm → Prop} (h : mK m t = 10 ∧ (∃ b2, mR m t 1 = some b2 ∧ (mK m b2 = 15 ∧ (vp_in (mI m t 7) (mN m b2) ∧ (if (mI m b2 (mI m t 7).toNatClampNeg) = ((3 : Int32)) then (∃ b7, mR m t 3 = some b7 ∧ (mK m b7 = 15 ∧ (vp_in (mI m t 7) (mN m b7) ∧ (∃ b11, mR m t 8 = some b11 ∧ (mK m b11 = 5 ∧ (CV g M_Law_emit lv [va_rf (some b11), .int (mI m b7 (mI m t 7).toNatClampNeg)] m (fun m14 => (CV g M_Tape_step lv [va_rf (some t)] m14 (fun m22 => (At g M_Tape_readClause (lv + 1) 119 [(0, va_rf (some t)), (1, .int (l1)), (2, .int (l2))] [] m22 (QI Q))))))))))) else (CI g M_Tape_refuse lv [va_rf (some t)] m (fun x30 m31 => (b01 x30 ∧ (Q x30 m31))))))))) : At g M_Tape_readClause (lv + 1) 68 [(0, va_rf (some t)), (1, .int (l1)), (2, .int (l2))] [] m (QI Q) := by
  refine at_aload_n (i := 0) 0 69 rfl (by decide +kernel) rfl ?_
  obtain ⟨k1, h⟩ := h
  refine at_get (index := 15) (v := va_rf (mR m t 1)) cok9 1 72 rfl (by decide +kernel) k1 (by decide +kernel) tw_345 rfl ?_
  obtain ⟨b2, e3, h⟩ := h
  rw [e3]
  refine at_aload_n (i := 0) 0 73 rfl (by decide +kernel) rfl ?_
  refine at_get (index := 44) (v := .int (mI m t 7)) cok9 7 76 rfl (by decide +kernel) k1 (by decide +kernel) tw_353 rfl ?_
  obtain ⟨k4, h⟩ := h
  obtain ⟨v5, h⟩ := h
  refine at_iald 77 rfl (by decide +kernel) k4 v5 ?_
  refine at_iconst (n := 3) (3 : Int32) 78 rfl (by decide +kernel) (by decide +kernel) ?_
  refine at_icmp_eq (off := 8) 86 81 rfl (by decide +kernel) (by decide +kernel) (fun c6 => ?_) (fun c6 => ?_)
  · rw [if_pos c6] at h
    refine at_aload_n (i := 0) 0 87 rfl (by decide +kernel) rfl ?_
    refine at_get (index := 32) (v := va_rf (mR m t 8)) cok9 8 90 rfl (by decide +kernel) k1 (by decide +kernel) tw_354 rfl ?_
    refine at_aload_n (i := 0) 0 91 rfl (by decide +kernel) rfl ?_
    refine at_get (index := 22) (v := va_rf (mR m t 3)) cok9 3 94 rfl (by decide +kernel) k1 (by decide +kernel) tw_347 rfl ?_
    obtain ⟨b7, e8, h⟩ := h
    rw [e8]
    refine at_aload_n (i := 0) 0 95 rfl (by decide +kernel) rfl ?_
    refine at_get (index := 44) (v := .int (mI m t 7)) cok9 7 98 rfl (by decide +kernel) k1 (by decide +kernel) tw_353 rfl ?_
    obtain ⟨k9, h⟩ := h
    obtain ⟨v10, h⟩ := h
    refine at_iald 99 rfl (by decide +kernel) k9 v10 ?_
    obtain ⟨b11, e12, h⟩ := h
    rw [e12]
    obtain ⟨k13, h⟩ := h
    refine at_callV mb_Law_emit tw_624 tw_625 cok4 k13 (index := 137) tw_623 [.int (mI m b7 (mI m t 7).toNatClampNeg)] [] rfl rfl (by decide) 102 rfl (by decide +kernel) (Call.toV (CV.monoE h (fun m14 h y15 => ?_)))
    have k16 : mK m14 t = 10 := y15.k k1 (by decide)
    have k17 : mK m14 b2 = 15 := y15.k k4 (by decide)
    have k18 : mK m14 b7 = 15 := y15.k k9 (by decide)
    have k19 : mK m14 b11 = 5 := y15.k k13 (by decide)
    have e20 : mR m14 t 1 = some b2 := y15.r k1 (by decide) rfl e3
    have e21 : mR m14 t 3 = some b7 := y15.r k1 (by decide) rfl e8
    refine at_aload_n (i := 0) 0 103 rfl (by decide +kernel) rfl ?_
    refine at_callV mb_Tape_step tw_621 tw_10 cok9 k16 (index := 54) tw_619 [] [] rfl rfl (by decide) 106 rfl (by decide +kernel) (Call.toV (CV.monoE h (fun m22 h y23 => ?_)))
    have k24 : mK m22 t = 10 := y23.k k16 (by decide)
    have k25 : mK m22 b2 = 15 := y23.k k17 (by decide)
    have k26 : mK m22 b7 = 15 := y23.k k18 (by decide)
    have k27 : mK m22 b11 = 5 := y23.k k19 (by decide)
    have e28 : mR m22 t 1 = some b2 := y23.r k16 (by decide) rfl e20
    have e29 : mR m22 t 3 = some b7 := y23.r k16 (by decide) rfl e21
    refine at_goto (off := 13) 119 (by decide +kernel) (by decide +kernel) ?_
    exact h
  · rw [if_neg c6] at h
    refine at_aload_n (i := 0) 0 82 rfl (by decide +kernel) rfl ?_
    refine at_callV mb_Tape_refuse tw_617 tw_9 cok9 k1 (index := 57) tw_615 [] [] rfl rfl (by decide) 85 rfl (by decide +kernel) (Call.toI (CI.monoE h (fun x30 m31 h y32 => ?_)))
    have k33 : mK m31 t = 10 := y32.k k1 (by decide)
    have k34 : mK m31 b2 = 15 := y32.k k4 (by decide)
    have e35 : mR m31 t 1 = some b2 := y32.r k1 (by decide) rfl e3
    obtain ⟨d36, h⟩ := h
    exact at_zret rfl (by decide +kernel) d36 h
set_option maxRecDepth 20000 in
set_option maxHeartbeats 4000000 in
theorem en_Tape_readClause (g : Gc) {lv : Nat} {t : Nat} {m : Mm} {Q : Int32 → Mm → Prop} (h : mK m t = 10 ∧ (∃ b2, mR m t 1 = some b2 ∧ (mK m b2 = 15 ∧ (vp_in (mI m t 7) (mN m b2) ∧ (CI g M_SL_isWithin lv [.int (mI m b2 (mI m t 7).toNatClampNeg), .int ((14 : Int32)), .int ((18 : Int32))] m (fun x6 m7 => (if (x6) = 0 then (CI g M_Tape_refuse lv [va_rf (some t)] m7 (fun x13 m14 => (b01 x13 ∧ (Q x13 m14)))) else (∃ b20, mR m7 t 8 = some b20 ∧ (mK m7 b20 = 5 ∧ (if (mI m7 b20 5) < ((12 : Int32)) then (CV g M_Tape_step lv [va_rf (some t)] m7 (fun m24 => (∃ b30, mR m24 t 8 = some b30 ∧ (mK m24 b30 = 5 ∧ (if (mI m b2 (mI m t 7).toNatClampNeg) = ((16 : Int32)) then (At g M_Tape_readClause (lv + 1) 68 [(0, va_rf (some t)), (1, .int (mI m b2 (mI m t 7).toNatClampNeg)), (2, .int (mI m24 b30 6))] [] m24 (QI Q)) else (if (mI m b2 (mI m t 7).toNatClampNeg) = ((17 : Int32)) then (At g M_Tape_readClause (lv + 1) 68 [(0, va_rf (some t)), (1, .int (mI m b2 (mI m t 7).toNatClampNeg)), (2, .int (mI m24 b30 6))] [] m24 (QI Q)) else (if (mI m b2 (mI m t 7).toNatClampNeg) = ((18 : Int32)) then (At g M_Tape_readClause (lv + 1) 68 [(0, va_rf (some t)), (1, .int (mI m b2 (mI m t 7).toNatClampNeg)), (2, .int (mI m24 b30 6))] [] m24 (QI Q)) else (CI g M_Tape_readSum lv [va_rf (some t), .int ((0 : Int32))] m24 (fun x36 m37 => (if (x36) = 0 then (Q (0 : Int32) m37) else (At g M_Tape_readClause (lv + 1) 119 [(0, va_rf (some t)), (1, .int (mI m b2 (mI m t 7).toNatClampNeg)), (2, .int (mI m24 b30 6))] [] m37 (QI Q)))))))))))) else (CI g M_Tape_refuse lv [va_rf (some t)] m7 (fun x45 m46 => (b01 x45 ∧ (Q x45 m46)))))))))))))) : CI g M_Tape_readClause (lv + 1) [va_rf (some t)] m Q := by
  refine Call.of (by decide +kernel) (Nat.le_of_ble_eq_true rfl) ?_
  show At g M_Tape_readClause (lv + 1) 0 [(0, va_rf (some t))] [] m (QI Q)
  refine at_aload_n (i := 0) 0 1 rfl (by decide +kernel) rfl ?_
  obtain ⟨k1, h⟩ := h
  refine at_get (index := 15) (v := va_rf (mR m t 1)) cok9 1 4 rfl (by decide +kernel) k1 (by decide +kernel) tw_345 rfl ?_
  obtain ⟨b2, e3, h⟩ := h
  rw [e3]
  refine at_aload_n (i := 0) 0 5 rfl (by decide +kernel) rfl ?_
  refine at_get (index := 44) (v := .int (mI m t 7)) cok9 7 8 rfl (by decide +kernel) k1 (by decide +kernel) tw_353 rfl ?_
  obtain ⟨k4, h⟩ := h
  obtain ⟨v5, h⟩ := h
  refine at_iald 9 rfl (by decide +kernel) k4 v5 ?_
  refine at_istore_n (i := 1) (lc' := [(0, va_rf (some t)), (1, .int (mI m b2 (mI m t 7).toNatClampNeg))]) [1, 0] 10 rfl (by decide +kernel) (by decide +kernel) rfl ?_
  refine at_iload_n (i := 1) 1 11 rfl (by decide +kernel) rfl ?_
  refine at_bipush (n := 14) (14 : Int32) 13 rfl (by decide +kernel) (by decide +kernel) ?_
  refine at_bipush (n := 18) (18 : Int32) 15 rfl (by decide +kernel) (by decide +kernel) ?_
  refine at_callSN mb_SL_isWithin tw_471 (index := 133) (host := "SurplusLand") (by decide +kernel) [.int (mI m b2 (mI m t 7).toNatClampNeg), .int ((14 : Int32)), .int ((18 : Int32))] [] rfl rfl (by decide) 18 rfl (by decide +kernel) (Call.toI (CI.monoE h (fun x6 m7 h y8 => ?_)))
  have k9 : mK m7 t = 10 := y8.k k1 (by decide)
  have k10 : mK m7 b2 = 15 := y8.k k4 (by decide)
  have e11 : mR m7 t 1 = some b2 := y8.r k1 (by decide) rfl e3
  refine at_if_eq (off := 15) 33 21 rfl (by decide +kernel) (by decide +kernel) (fun c12 => ?_) (fun c12 => ?_)
  · rw [if_pos c12] at h
    refine at_aload_n (i := 0) 0 34 rfl (by decide +kernel) rfl ?_
    refine at_callV mb_Tape_refuse tw_617 tw_9 cok9 k9 (index := 57) tw_615 [] [] rfl rfl (by decide) 37 rfl (by decide +kernel) (Call.toI (CI.monoE h (fun x13 m14 h y15 => ?_)))
    have k16 : mK m14 t = 10 := y15.k k9 (by decide)
    have k17 : mK m14 b2 = 15 := y15.k k10 (by decide)
    have e18 : mR m14 t 1 = some b2 := y15.r k9 (by decide) rfl e11
    obtain ⟨d19, h⟩ := h
    exact at_zret rfl (by decide +kernel) d19 h
  · rw [if_neg c12] at h
    refine at_aload_n (i := 0) 0 22 rfl (by decide +kernel) rfl ?_
    refine at_get (index := 32) (v := va_rf (mR m7 t 8)) cok9 8 25 rfl (by decide +kernel) k9 (by decide +kernel) tw_354 rfl ?_
    obtain ⟨b20, e21, h⟩ := h
    rw [e21]
    obtain ⟨k22, h⟩ := h
    refine at_get (index := 36) (v := .int (mI m7 b20 5)) cok4 5 28 rfl (by decide +kernel) k22 (by decide +kernel) tw_395 rfl ?_
    refine at_bipush (n := 12) (12 : Int32) 30 rfl (by decide +kernel) (by decide +kernel) ?_
    refine at_icmp_lt (off := 8) 38 33 rfl (by decide +kernel) (by decide +kernel) (fun c23 => ?_) (fun c23 => ?_)
    · rw [if_pos c23] at h
      refine at_aload_n (i := 0) 0 39 rfl (by decide +kernel) rfl ?_
      refine at_callV mb_Tape_step tw_621 tw_10 cok9 k9 (index := 54) tw_619 [] [] rfl rfl (by decide) 42 rfl (by decide +kernel) (Call.toV (CV.monoE h (fun m24 h y25 => ?_)))
      have k26 : mK m24 t = 10 := y25.k k9 (by decide)
      have k27 : mK m24 b2 = 15 := y25.k k10 (by decide)
      have k28 : mK m24 b20 = 5 := y25.k k22 (by decide)
      have e29 : mR m24 t 1 = some b2 := y25.r k9 (by decide) rfl e11
      refine at_aload_n (i := 0) 0 43 rfl (by decide +kernel) rfl ?_
      refine at_get (index := 32) (v := va_rf (mR m24 t 8)) cok9 8 46 rfl (by decide +kernel) k26 (by decide +kernel) tw_354 rfl ?_
      obtain ⟨b30, e31, h⟩ := h
      rw [e31]
      obtain ⟨k32, h⟩ := h
      refine at_get (index := 41) (v := .int (mI m24 b30 6)) cok4 6 49 rfl (by decide +kernel) k32 (by decide +kernel) tw_399 rfl ?_
      refine at_istore_n (i := 2) (lc' := [(0, va_rf (some t)), (1, .int (mI m b2 (mI m t 7).toNatClampNeg)), (2, .int (mI m24 b30 6))]) [1, 2, 0] 50 rfl (by decide +kernel) (by decide +kernel) rfl ?_
      refine at_iload_n (i := 1) 1 51 rfl (by decide +kernel) rfl ?_
      refine at_bipush (n := 16) (16 : Int32) 53 rfl (by decide +kernel) (by decide +kernel) ?_
      refine at_icmp_eq (off := 15) 68 56 rfl (by decide +kernel) (by decide +kernel) (fun c33 => ?_) (fun c33 => ?_)
      · rw [if_pos c33] at h
        exact h
      · rw [if_neg c33] at h
        refine at_iload_n (i := 1) 1 57 rfl (by decide +kernel) rfl ?_
        refine at_bipush (n := 17) (17 : Int32) 59 rfl (by decide +kernel) (by decide +kernel) ?_
        refine at_icmp_eq (off := 9) 68 62 rfl (by decide +kernel) (by decide +kernel) (fun c34 => ?_) (fun c34 => ?_)
        · rw [if_pos c34] at h
          exact h
        · rw [if_neg c34] at h
          refine at_iload_n (i := 1) 1 63 rfl (by decide +kernel) rfl ?_
          refine at_bipush (n := 18) (18 : Int32) 65 rfl (by decide +kernel) (by decide +kernel) ?_
          refine at_icmp_ne (off := 44) 109 68 rfl (by decide +kernel) (by decide +kernel) (fun c35 => ?_) (fun c35 => ?_)
          · rw [if_neg c35] at h
            refine at_aload_n (i := 0) 0 110 rfl (by decide +kernel) rfl ?_
            refine at_iconst (n := 0) (0 : Int32) 111 rfl (by decide +kernel) (by decide +kernel) ?_
            refine at_callV mb_Tape_readSum tw_629 tw_11 cok9 k26 (index := 141) tw_627 [.int ((0 : Int32))] [] rfl rfl (by decide) 114 rfl (by decide +kernel) (Call.toI (CI.monoE h (fun x36 m37 h y38 => ?_)))
            have k39 : mK m37 t = 10 := y38.k k26 (by decide)
            have k40 : mK m37 b2 = 15 := y38.k k27 (by decide)
            have k41 : mK m37 b20 = 5 := y38.k k28 (by decide)
            have k42 : mK m37 b30 = 5 := y38.k k32 (by decide)
            have e43 : mR m37 t 1 = some b2 := y38.r k26 (by decide) rfl e29
            refine at_if_ne (off := 5) 119 117 rfl (by decide +kernel) (by decide +kernel) (fun c44 => ?_) (fun c44 => ?_)
            · rw [if_neg c44] at h
              exact h
            · rw [if_pos c44] at h
              refine at_iconst (n := 0) (0 : Int32) 118 rfl (by decide +kernel) (by decide +kernel) ?_
              exact at_zret rfl (by decide +kernel) (Or.inl rfl) h
          · rw [if_pos c35] at h
            exact h
    · rw [if_neg c23] at h
      refine at_aload_n (i := 0) 0 34 rfl (by decide +kernel) rfl ?_
      refine at_callV mb_Tape_refuse tw_617 tw_9 cok9 k9 (index := 57) tw_615 [] [] rfl rfl (by decide) 37 rfl (by decide +kernel) (Call.toI (CI.monoE h (fun x45 m46 h y47 => ?_)))
      have k48 : mK m46 t = 10 := y47.k k9 (by decide)
      have k49 : mK m46 b2 = 15 := y47.k k10 (by decide)
      have k50 : mK m46 b20 = 5 := y47.k k22 (by decide)
      have e51 : mR m46 t 1 = some b2 := y47.r k9 (by decide) rfl e11
      obtain ⟨d52, h⟩ := h
      exact at_zret rfl (by decide +kernel) d52 h
set_option maxRecDepth 20000 in
set_option maxHeartbeats 4000000 in
theorem bk_Tape_readConditions_27 (g : Gc) {lv : Nat} {t : Nat} {l1 : Int32} {m : Mm} {Q : Int32 → Mm → Prop} (h : mK m t = 10 ∧ (CV g M_Tape_step lv [va_rf (some t)] m (fun m2 => (CI g M_Tape_readSum lv [va_rf (some t), .int ((0 : Int32))] m2 (fun x5 m6 => (if (x5) = 0 then (Q (0 : Int32) m6) else (∃ b10, mR m6 t 1 = some b10 ∧ (mK m6 b10 = 15 ∧ (vp_in (mI m6 t 7) (mN m6 b10) ∧ (CI g M_SL_isWithin lv [.int (mI m6 b10 (mI m6 t 7).toNatClampNeg), .int ((10 : Int32)), .int ((12 : Int32))] m6 (fun x14 m15 => (if (x14) = 0 then (CI g M_Tape_refuse lv [va_rf (some t)] m15 (fun x53 m54 => (b01 x53 ∧ (Q x53 m54)))) else (CV g M_Tape_step lv [va_rf (some t)] m15 (fun m21 => (CI g M_Tape_readSum lv [va_rf (some t), .int ((0 : Int32))] m21 (fun x26 m27 => (if (x26) = 0 then (Q (0 : Int32) m27) else (∃ b33, mR m27 t 8 = some b33 ∧ (mK m27 b33 = 5 ∧ (CV g M_Law_emit lv [va_rf (some b33), .int (-(mI m6 b10 (mI m6 t 7).toNatClampNeg))] m27 (fun m36 => (if (l1) ≤ 0 then (At g M_Tape_readConditions (lv + 1) 2 [(0, va_rf (some t)), (1, .int (l1 + (1 : Int32)))] [] m36 (QI Q)) else (∃ b43, mR m36 t 8 = some b43 ∧ (mK m36 b43 = 5 ∧ (CV g M_Law_emit lv [va_rf (some b43), .int ((-20 : Int32))] m36 (fun m46 => (At g M_Tape_readConditions (lv + 1) 2 [(0, va_rf (some t)), (1, .int (l1 + (1 : Int32)))] [] m46 (QI Q)))))))))))))))))))))))))))) : At g M_Tape_readConditions (lv + 1) 27 [(0, va_rf (some t)), (1, .int (l1))] [] m (QI Q) := by
  refine at_aload_n (i := 0) 0 28 rfl (by decide +kernel) rfl ?_
  obtain ⟨k1, h⟩ := h
  refine at_callV mb_Tape_step tw_621 tw_10 cok9 k1 (index := 54) tw_619 [] [] rfl rfl (by decide) 31 rfl (by decide +kernel) (Call.toV (CV.monoE h (fun m2 h y3 => ?_)))
  have k4 : mK m2 t = 10 := y3.k k1 (by decide)
  refine at_aload_n (i := 0) 0 32 rfl (by decide +kernel) rfl ?_
  refine at_iconst (n := 0) (0 : Int32) 33 rfl (by decide +kernel) (by decide +kernel) ?_
  refine at_callV mb_Tape_readSum tw_629 tw_11 cok9 k4 (index := 141) tw_627 [.int ((0 : Int32))] [] rfl rfl (by decide) 36 rfl (by decide +kernel) (Call.toI (CI.monoE h (fun x5 m6 h y7 => ?_)))
  have k8 : mK m6 t = 10 := y7.k k4 (by decide)
  refine at_if_ne (off := 5) 41 39 rfl (by decide +kernel) (by decide +kernel) (fun c9 => ?_) (fun c9 => ?_)
  · rw [if_neg c9] at h
    refine at_aload_n (i := 0) 0 42 rfl (by decide +kernel) rfl ?_
    refine at_get (index := 15) (v := va_rf (mR m6 t 1)) cok9 1 45 rfl (by decide +kernel) k8 (by decide +kernel) tw_345 rfl ?_
    obtain ⟨b10, e11, h⟩ := h
    rw [e11]
    refine at_aload_n (i := 0) 0 46 rfl (by decide +kernel) rfl ?_
    refine at_get (index := 44) (v := .int (mI m6 t 7)) cok9 7 49 rfl (by decide +kernel) k8 (by decide +kernel) tw_353 rfl ?_
    obtain ⟨k12, h⟩ := h
    obtain ⟨v13, h⟩ := h
    refine at_iald 50 rfl (by decide +kernel) k12 v13 ?_
    refine at_istore_n (i := 2) (lc' := [(0, va_rf (some t)), (1, .int (l1)), (2, .int (mI m6 b10 (mI m6 t 7).toNatClampNeg))]) [1, 2, 0] 51 rfl (by decide +kernel) (by decide +kernel) rfl ?_
    refine at_iload_n (i := 2) 2 52 rfl (by decide +kernel) rfl ?_
    refine at_bipush (n := 10) (10 : Int32) 54 rfl (by decide +kernel) (by decide +kernel) ?_
    refine at_bipush (n := 12) (12 : Int32) 56 rfl (by decide +kernel) (by decide +kernel) ?_
    refine at_callSN mb_SL_isWithin tw_471 (index := 133) (host := "SurplusLand") (by decide +kernel) [.int (mI m6 b10 (mI m6 t 7).toNatClampNeg), .int ((10 : Int32)), .int ((12 : Int32))] [] rfl rfl (by decide) 59 rfl (by decide +kernel) (Call.toI (CI.monoE h (fun x14 m15 h y16 => ?_)))
    have k17 : mK m15 t = 10 := y16.k k8 (by decide)
    have k18 : mK m15 b10 = 15 := y16.k k12 (by decide)
    have e19 : mR m15 t 1 = some b10 := y16.r k8 (by decide) rfl e11
    refine at_if_ne (off := 8) 67 62 rfl (by decide +kernel) (by decide +kernel) (fun c20 => ?_) (fun c20 => ?_)
    · rw [if_neg c20] at h
      refine at_aload_n (i := 0) 0 68 rfl (by decide +kernel) rfl ?_
      refine at_callV mb_Tape_step tw_621 tw_10 cok9 k17 (index := 54) tw_619 [] [] rfl rfl (by decide) 71 rfl (by decide +kernel) (Call.toV (CV.monoE h (fun m21 h y22 => ?_)))
      have k23 : mK m21 t = 10 := y22.k k17 (by decide)
      have k24 : mK m21 b10 = 15 := y22.k k18 (by decide)
      have e25 : mR m21 t 1 = some b10 := y22.r k17 (by decide) rfl e19
      refine at_aload_n (i := 0) 0 72 rfl (by decide +kernel) rfl ?_
      refine at_iconst (n := 0) (0 : Int32) 73 rfl (by decide +kernel) (by decide +kernel) ?_
      refine at_callV mb_Tape_readSum tw_629 tw_11 cok9 k23 (index := 141) tw_627 [.int ((0 : Int32))] [] rfl rfl (by decide) 76 rfl (by decide +kernel) (Call.toI (CI.monoE h (fun x26 m27 h y28 => ?_)))
      have k29 : mK m27 t = 10 := y28.k k23 (by decide)
      have k30 : mK m27 b10 = 15 := y28.k k24 (by decide)
      have e31 : mR m27 t 1 = some b10 := y28.r k23 (by decide) rfl e25
      refine at_if_ne (off := 5) 81 79 rfl (by decide +kernel) (by decide +kernel) (fun c32 => ?_) (fun c32 => ?_)
      · rw [if_neg c32] at h
        refine at_aload_n (i := 0) 0 82 rfl (by decide +kernel) rfl ?_
        refine at_get (index := 32) (v := va_rf (mR m27 t 8)) cok9 8 85 rfl (by decide +kernel) k29 (by decide +kernel) tw_354 rfl ?_
        refine at_iload_n (i := 2) 2 86 rfl (by decide +kernel) rfl ?_
        refine at_ineg 87 rfl (by decide +kernel) ?_
        obtain ⟨b33, e34, h⟩ := h
        rw [e34]
        obtain ⟨k35, h⟩ := h
        refine at_callV mb_Law_emit tw_624 tw_625 cok4 k35 (index := 137) tw_623 [.int (-(mI m6 b10 (mI m6 t 7).toNatClampNeg))] [] rfl rfl (by decide) 90 rfl (by decide +kernel) (Call.toV (CV.monoE h (fun m36 h y37 => ?_)))
        have k38 : mK m36 t = 10 := y37.k k29 (by decide)
        have k39 : mK m36 b10 = 15 := y37.k k30 (by decide)
        have k40 : mK m36 b33 = 5 := y37.k k35 (by decide)
        have e41 : mR m36 t 1 = some b10 := y37.r k29 (by decide) rfl e31
        refine at_iload_n (i := 1) 1 91 rfl (by decide +kernel) rfl ?_
        refine at_if_le (off := 12) 103 94 rfl (by decide +kernel) (by decide +kernel) (fun c42 => ?_) (fun c42 => ?_)
        · rw [if_pos c42] at h
          refine at_iinc (i := 1) (n := 1) (lc' := [(0, va_rf (some t)), (1, .int (l1 + (1 : Int32)))]) (l1 + (1 : Int32)) 1 [1, 0] 106 rfl (by decide +kernel) rfl (by rw [show Int32.ofInt 1 = (1 : Int32) from by decide +kernel]) (by decide +kernel) rfl ?_
          refine at_goto (off := (-104)) 2 (by decide +kernel) (by decide +kernel) ?_
          exact h
        · rw [if_neg c42] at h
          refine at_aload_n (i := 0) 0 95 rfl (by decide +kernel) rfl ?_
          refine at_get (index := 32) (v := va_rf (mR m36 t 8)) cok9 8 98 rfl (by decide +kernel) k38 (by decide +kernel) tw_354 rfl ?_
          refine at_bipush (n := (-20)) (-20 : Int32) 100 rfl (by decide +kernel) (by decide +kernel) ?_
          obtain ⟨b43, e44, h⟩ := h
          rw [e44]
          obtain ⟨k45, h⟩ := h
          refine at_callV mb_Law_emit tw_624 tw_625 cok4 k45 (index := 137) tw_623 [.int ((-20 : Int32))] [] rfl rfl (by decide) 103 rfl (by decide +kernel) (Call.toV (CV.monoE h (fun m46 h y47 => ?_)))
          have k48 : mK m46 t = 10 := y47.k k38 (by decide)
          have k49 : mK m46 b10 = 15 := y47.k k39 (by decide)
          have k50 : mK m46 b33 = 5 := y47.k k40 (by decide)
          have k51 : mK m46 b43 = 5 := y47.k k45 (by decide)
          have e52 : mR m46 t 1 = some b10 := y47.r k38 (by decide) rfl e41
          refine at_iinc (i := 1) (n := 1) (lc' := [(0, va_rf (some t)), (1, .int (l1 + (1 : Int32)))]) (l1 + (1 : Int32)) 1 [1, 0] 106 rfl (by decide +kernel) rfl (by rw [show Int32.ofInt 1 = (1 : Int32) from by decide +kernel]) (by decide +kernel) rfl ?_
          refine at_goto (off := (-104)) 2 (by decide +kernel) (by decide +kernel) ?_
          exact h
      · rw [if_pos c32] at h
        refine at_iconst (n := 0) (0 : Int32) 80 rfl (by decide +kernel) (by decide +kernel) ?_
        exact at_zret rfl (by decide +kernel) (Or.inl rfl) h
    · rw [if_pos c20] at h
      refine at_aload_n (i := 0) 0 63 rfl (by decide +kernel) rfl ?_
      refine at_callV mb_Tape_refuse tw_617 tw_9 cok9 k17 (index := 57) tw_615 [] [] rfl rfl (by decide) 66 rfl (by decide +kernel) (Call.toI (CI.monoE h (fun x53 m54 h y55 => ?_)))
      have k56 : mK m54 t = 10 := y55.k k17 (by decide)
      have k57 : mK m54 b10 = 15 := y55.k k18 (by decide)
      have e58 : mR m54 t 1 = some b10 := y55.r k17 (by decide) rfl e19
      obtain ⟨d59, h⟩ := h
      exact at_zret rfl (by decide +kernel) d59 h
  · rw [if_pos c9] at h
    refine at_iconst (n := 0) (0 : Int32) 40 rfl (by decide +kernel) (by decide +kernel) ?_
    exact at_zret rfl (by decide +kernel) (Or.inl rfl) h
set_option maxRecDepth 20000 in
set_option maxHeartbeats 4000000 in
theorem bk_Tape_readConditions_2 (g : Gc) {lv : Nat} {t : Nat} {l1 : Int32} {m : Mm} {Q : Int32 → Mm → Prop} (h : if ((300 : Int32)) ≤ (l1) then (Q (1 : Int32) m) else (if (l1) = 0 then (At g M_Tape_readConditions (lv + 1) 27 [(0, va_rf (some t)), (1, .int (l1))] [] m (QI Q)) else (mK m t = 10 ∧ (∃ b4, mR m t 1 = some b4 ∧ (mK m b4 = 15 ∧ (vp_in (mI m t 7) (mN m b4) ∧ (if (mI m b4 (mI m t 7).toNatClampNeg) = ((20 : Int32)) then (At g M_Tape_readConditions (lv + 1) 27 [(0, va_rf (some t)), (1, .int (l1))] [] m (QI Q)) else (Q (1 : Int32) m)))))))) : At g M_Tape_readConditions (lv + 1) 2 [(0, va_rf (some t)), (1, .int (l1))] [] m (QI Q) := by
  refine at_iload_n (i := 1) 1 3 rfl (by decide +kernel) rfl ?_
  refine at_sipush (n := 300) (300 : Int32) 6 rfl (by decide +kernel) (by decide +kernel) ?_
  refine at_icmp_ge (off := 103) 109 9 rfl (by decide +kernel) (by decide +kernel) (fun c1 => ?_) (fun c1 => ?_)
  · rw [if_pos c1] at h
    refine at_iconst (n := 1) (1 : Int32) 110 rfl (by decide +kernel) (by decide +kernel) ?_
    exact at_zret rfl (by decide +kernel) (Or.inr rfl) h
  · rw [if_neg c1] at h
    refine at_iload_n (i := 1) 1 10 rfl (by decide +kernel) rfl ?_
    refine at_if_eq (off := 17) 27 13 rfl (by decide +kernel) (by decide +kernel) (fun c2 => ?_) (fun c2 => ?_)
    · rw [if_pos c2] at h
      exact h
    · rw [if_neg c2] at h
      refine at_aload_n (i := 0) 0 14 rfl (by decide +kernel) rfl ?_
      obtain ⟨k3, h⟩ := h
      refine at_get (index := 15) (v := va_rf (mR m t 1)) cok9 1 17 rfl (by decide +kernel) k3 (by decide +kernel) tw_345 rfl ?_
      obtain ⟨b4, e5, h⟩ := h
      rw [e5]
      refine at_aload_n (i := 0) 0 18 rfl (by decide +kernel) rfl ?_
      refine at_get (index := 44) (v := .int (mI m t 7)) cok9 7 21 rfl (by decide +kernel) k3 (by decide +kernel) tw_353 rfl ?_
      obtain ⟨k6, h⟩ := h
      obtain ⟨v7, h⟩ := h
      refine at_iald 22 rfl (by decide +kernel) k6 v7 ?_
      refine at_bipush (n := 20) (20 : Int32) 24 rfl (by decide +kernel) (by decide +kernel) ?_
      refine at_icmp_ne (off := 85) 109 27 rfl (by decide +kernel) (by decide +kernel) (fun c8 => ?_) (fun c8 => ?_)
      · rw [if_neg c8] at h
        refine at_iconst (n := 1) (1 : Int32) 110 rfl (by decide +kernel) (by decide +kernel) ?_
        exact at_zret rfl (by decide +kernel) (Or.inr rfl) h
      · rw [if_pos c8] at h
        exact h
set_option maxRecDepth 20000 in
set_option maxHeartbeats 4000000 in
theorem en_Tape_readConditions (g : Gc) {lv : Nat} {t : Nat} {m : Mm} {Q : Int32 → Mm → Prop} (h : At g M_Tape_readConditions (lv + 1) 2 [(0, va_rf (some t)), (1, .int ((0 : Int32)))] [] m (QI Q)) : CI g M_Tape_readConditions (lv + 1) [va_rf (some t)] m Q := by
  refine Call.of (by decide +kernel) (Nat.le_of_ble_eq_true rfl) ?_
  show At g M_Tape_readConditions (lv + 1) 0 [(0, va_rf (some t))] [] m (QI Q)
  refine at_iconst (n := 0) (0 : Int32) 1 rfl (by decide +kernel) (by decide +kernel) ?_
  refine at_istore_n (i := 1) (lc' := [(0, va_rf (some t)), (1, .int ((0 : Int32)))]) [1, 0] 2 rfl (by decide +kernel) (by decide +kernel) rfl ?_
  exact h
set_option maxRecDepth 20000 in
set_option maxHeartbeats 4000000 in
theorem bk_Tape_readSum_8 (g : Gc) {lv : Nat} {t : Nat} {l1 : Int32} {l2 : Int32} {l3 : Int32} {m : Mm} {Q : Int32 → Mm → Prop} (h : if ((300 : Int32)) ≤ (l3) then (b01 l2 ∧ (Q l2 m)) else (if (l2) = 0 then (b01 l2 ∧ (Q l2 m)) else (mK m t = 10 ∧ (∃ b6, mR m t 1 = some b6 ∧ (mK m b6 = 15 ∧ (vp_in (mI m t 7) (mN m b6) ∧ (CI g M_SL_isWithin lv [.int (mI m b6 (mI m t 7).toNatClampNeg), .int ((4 : Int32)), .int ((5 : Int32))] m (fun x10 m11 => (if (x10) = 0 then (b01 l2 ∧ (Q l2 m11)) else (vp_in (mI m11 t 7) (mN m11 b6) ∧ (CV g M_Tape_step lv [va_rf (some t)] m11 (fun m19 => (CI g M_Tape_readTerm lv [va_rf (some t), .int (l1)] m19 (fun x24 m25 => (∃ b30, mR m25 t 8 = some b30 ∧ (mK m25 b30 = 5 ∧ (CV g M_Law_emit lv [va_rf (some b30), .int (-(mI m11 b6 (mI m11 t 7).toNatClampNeg))] m25 (fun m33 => (At g M_Tape_readSum (lv + 1) 8 [(0, va_rf (some t)), (1, .int (l1)), (2, .int (x24)), (3, .int (l3 + (1 : Int32)))] [] m33 (QI Q)))))))))))))))))))) : At g M_Tape_readSum (lv + 1) 8 [(0, va_rf (some t)), (1, .int (l1)), (2, .int (l2)), (3, .int (l3))] [] m (QI Q) := by
  refine at_iload_n (i := 3) 3 9 rfl (by decide +kernel) rfl ?_
  refine at_sipush (n := 300) (300 : Int32) 12 rfl (by decide +kernel) (by decide +kernel) ?_
  refine at_icmp_ge (off := 61) 73 15 rfl (by decide +kernel) (by decide +kernel) (fun c1 => ?_) (fun c1 => ?_)
  · rw [if_pos c1] at h
    refine at_iload_n (i := 2) 2 74 rfl (by decide +kernel) rfl ?_
    obtain ⟨d2, h⟩ := h
    exact at_zret rfl (by decide +kernel) d2 h
  · rw [if_neg c1] at h
    refine at_iload_n (i := 2) 2 16 rfl (by decide +kernel) rfl ?_
    refine at_if_eq (off := 57) 73 19 rfl (by decide +kernel) (by decide +kernel) (fun c3 => ?_) (fun c3 => ?_)
    · rw [if_pos c3] at h
      refine at_iload_n (i := 2) 2 74 rfl (by decide +kernel) rfl ?_
      obtain ⟨d4, h⟩ := h
      exact at_zret rfl (by decide +kernel) d4 h
    · rw [if_neg c3] at h
      refine at_aload_n (i := 0) 0 20 rfl (by decide +kernel) rfl ?_
      obtain ⟨k5, h⟩ := h
      refine at_get (index := 15) (v := va_rf (mR m t 1)) cok9 1 23 rfl (by decide +kernel) k5 (by decide +kernel) tw_345 rfl ?_
      obtain ⟨b6, e7, h⟩ := h
      rw [e7]
      refine at_aload_n (i := 0) 0 24 rfl (by decide +kernel) rfl ?_
      refine at_get (index := 44) (v := .int (mI m t 7)) cok9 7 27 rfl (by decide +kernel) k5 (by decide +kernel) tw_353 rfl ?_
      obtain ⟨k8, h⟩ := h
      obtain ⟨v9, h⟩ := h
      refine at_iald 28 rfl (by decide +kernel) k8 v9 ?_
      refine at_iconst (n := 4) (4 : Int32) 29 rfl (by decide +kernel) (by decide +kernel) ?_
      refine at_iconst (n := 5) (5 : Int32) 30 rfl (by decide +kernel) (by decide +kernel) ?_
      refine at_callSN mb_SL_isWithin tw_471 (index := 133) (host := "SurplusLand") (by decide +kernel) [.int (mI m b6 (mI m t 7).toNatClampNeg), .int ((4 : Int32)), .int ((5 : Int32))] [] rfl rfl (by decide) 33 rfl (by decide +kernel) (Call.toI (CI.monoE h (fun x10 m11 h y12 => ?_)))
      have k13 : mK m11 t = 10 := y12.k k5 (by decide)
      have k14 : mK m11 b6 = 15 := y12.k k8 (by decide)
      have e15 : mR m11 t 1 = some b6 := y12.r k5 (by decide) rfl e7
      refine at_if_eq (off := 40) 73 36 rfl (by decide +kernel) (by decide +kernel) (fun c16 => ?_) (fun c16 => ?_)
      · rw [if_pos c16] at h
        refine at_iload_n (i := 2) 2 74 rfl (by decide +kernel) rfl ?_
        obtain ⟨d17, h⟩ := h
        exact at_zret rfl (by decide +kernel) d17 h
      · rw [if_neg c16] at h
        refine at_aload_n (i := 0) 0 37 rfl (by decide +kernel) rfl ?_
        refine at_get (index := 15) (v := va_rf (mR m11 t 1)) cok9 1 40 rfl (by decide +kernel) k13 (by decide +kernel) tw_345 rfl ?_
        rw [e15]
        refine at_aload_n (i := 0) 0 41 rfl (by decide +kernel) rfl ?_
        refine at_get (index := 44) (v := .int (mI m11 t 7)) cok9 7 44 rfl (by decide +kernel) k13 (by decide +kernel) tw_353 rfl ?_
        obtain ⟨v18, h⟩ := h
        refine at_iald 45 rfl (by decide +kernel) k14 v18 ?_
        refine at_istore (i := 4) (lc' := [(0, va_rf (some t)), (1, .int (l1)), (3, .int (l3)), (4, .int (mI m11 b6 (mI m11 t 7).toNatClampNeg))]) [1, 2, 4, 0] 47 rfl (by decide +kernel) (by decide +kernel) rfl ?_
        refine at_aload_n (i := 0) 0 48 rfl (by decide +kernel) rfl ?_
        refine at_callV mb_Tape_step tw_621 tw_10 cok9 k13 (index := 54) tw_619 [] [] rfl rfl (by decide) 51 rfl (by decide +kernel) (Call.toV (CV.monoE h (fun m19 h y20 => ?_)))
        have k21 : mK m19 t = 10 := y20.k k13 (by decide)
        have k22 : mK m19 b6 = 15 := y20.k k14 (by decide)
        have e23 : mR m19 t 1 = some b6 := y20.r k13 (by decide) rfl e15
        refine at_aload_n (i := 0) 0 52 rfl (by decide +kernel) rfl ?_
        refine at_iload_n (i := 1) 1 53 rfl (by decide +kernel) rfl ?_
        refine at_callV mb_Tape_readTerm tw_633 tw_12 cok9 k21 (index := 151) tw_631 [.int (l1)] [] rfl rfl (by decide) 56 rfl (by decide +kernel) (Call.toI (CI.monoE h (fun x24 m25 h y26 => ?_)))
        have k27 : mK m25 t = 10 := y26.k k21 (by decide)
        have k28 : mK m25 b6 = 15 := y26.k k22 (by decide)
        have e29 : mR m25 t 1 = some b6 := y26.r k21 (by decide) rfl e23
        refine at_istore_n (i := 2) (lc' := [(0, va_rf (some t)), (1, .int (l1)), (2, .int (x24)), (3, .int (l3)), (4, .int (mI m11 b6 (mI m11 t 7).toNatClampNeg))]) [1, 2, 0, 3, 4] 57 rfl (by decide +kernel) (by decide +kernel) rfl ?_
        refine at_aload_n (i := 0) 0 58 rfl (by decide +kernel) rfl ?_
        refine at_get (index := 32) (v := va_rf (mR m25 t 8)) cok9 8 61 rfl (by decide +kernel) k27 (by decide +kernel) tw_354 rfl ?_
        refine at_iload (i := 4) 4 63 rfl (by decide +kernel) rfl ?_
        refine at_ineg 64 rfl (by decide +kernel) ?_
        obtain ⟨b30, e31, h⟩ := h
        rw [e31]
        obtain ⟨k32, h⟩ := h
        refine at_callV mb_Law_emit tw_624 tw_625 cok4 k32 (index := 137) tw_623 [.int (-(mI m11 b6 (mI m11 t 7).toNatClampNeg))] [] rfl rfl (by decide) 67 rfl (by decide +kernel) (Call.toV (CV.monoE h (fun m33 h y34 => ?_)))
        have k35 : mK m33 t = 10 := y34.k k27 (by decide)
        have k36 : mK m33 b6 = 15 := y34.k k28 (by decide)
        have k37 : mK m33 b30 = 5 := y34.k k32 (by decide)
        have e38 : mR m33 t 1 = some b6 := y34.r k27 (by decide) rfl e29
        refine at_iinc (i := 3) (n := 1) (lc' := [(0, va_rf (some t)), (1, .int (l1)), (2, .int (x24)), (3, .int (l3 + (1 : Int32)))]) (l3 + (1 : Int32)) 3 [1, 2, 3, 0] 70 rfl (by decide +kernel) rfl (by rw [show Int32.ofInt 1 = (1 : Int32) from by decide +kernel]) (by decide +kernel) rfl ?_
        refine at_goto (off := (-62)) 8 (by decide +kernel) (by decide +kernel) ?_
        exact h
set_option maxRecDepth 20000 in
set_option maxHeartbeats 4000000 in
theorem en_Tape_readSum (g : Gc) {lv : Nat} {t : Nat} {l1 : Int32} {m : Mm} {Q : Int32 → Mm → Prop} (h : mK m t = 10 ∧ (CI g M_Tape_readTerm lv [va_rf (some t), .int (l1)] m (fun x2 m3 => (At g M_Tape_readSum (lv + 1) 8 [(0, va_rf (some t)), (1, .int (l1)), (2, .int (x2)), (3, .int ((0 : Int32)))] [] m3 (QI Q))))) : CI g M_Tape_readSum (lv + 1) [va_rf (some t), .int (l1)] m Q := by
  refine Call.of (by decide +kernel) (Nat.le_of_ble_eq_true rfl) ?_
  show At g M_Tape_readSum (lv + 1) 0 [(0, va_rf (some t)), (1, .int (l1))] [] m (QI Q)
  refine at_aload_n (i := 0) 0 1 rfl (by decide +kernel) rfl ?_
  refine at_iload_n (i := 1) 1 2 rfl (by decide +kernel) rfl ?_
  obtain ⟨k1, h⟩ := h
  refine at_callV mb_Tape_readTerm tw_633 tw_12 cok9 k1 (index := 151) tw_631 [.int (l1)] [] rfl rfl (by decide) 5 rfl (by decide +kernel) (Call.toI (CI.monoE h (fun x2 m3 h y4 => ?_)))
  have k5 : mK m3 t = 10 := y4.k k1 (by decide)
  refine at_istore_n (i := 2) (lc' := [(0, va_rf (some t)), (1, .int (l1)), (2, .int (x2))]) [1, 2, 0] 6 rfl (by decide +kernel) (by decide +kernel) rfl ?_
  refine at_iconst (n := 0) (0 : Int32) 7 rfl (by decide +kernel) (by decide +kernel) ?_
  refine at_istore_n (i := 3) (lc' := [(0, va_rf (some t)), (1, .int (l1)), (2, .int (x2)), (3, .int ((0 : Int32)))]) [1, 2, 3, 0] 8 rfl (by decide +kernel) (by decide +kernel) rfl ?_
  exact h
set_option maxRecDepth 20000 in
set_option maxHeartbeats 4000000 in
theorem bk_Tape_readTerm_8 (g : Gc) {lv : Nat} {t : Nat} {l1 : Int32} {l2 : Int32} {l3 : Int32} {m : Mm} {Q : Int32 → Mm → Prop} (h : if ((300 : Int32)) ≤ (l3) then (b01 l2 ∧ (Q l2 m)) else (if (l2) = 0 then (b01 l2 ∧ (Q l2 m)) else (mK m t = 10 ∧ (∃ b6, mR m t 1 = some b6 ∧ (mK m b6 = 15 ∧ (vp_in (mI m t 7) (mN m b6) ∧ (CI g M_SL_isWithin lv [.int (mI m b6 (mI m t 7).toNatClampNeg), .int ((6 : Int32)), .int ((7 : Int32))] m (fun x10 m11 => (if (x10) = 0 then (b01 l2 ∧ (Q l2 m11)) else (vp_in (mI m11 t 7) (mN m11 b6) ∧ (CV g M_Tape_step lv [va_rf (some t)] m11 (fun m19 => (CI g M_Tape_readFactor lv [va_rf (some t), .int (l1)] m19 (fun x24 m25 => (∃ b30, mR m25 t 8 = some b30 ∧ (mK m25 b30 = 5 ∧ (CV g M_Law_emit lv [va_rf (some b30), .int (-(mI m11 b6 (mI m11 t 7).toNatClampNeg))] m25 (fun m33 => (At g M_Tape_readTerm (lv + 1) 8 [(0, va_rf (some t)), (1, .int (l1)), (2, .int (x24)), (3, .int (l3 + (1 : Int32)))] [] m33 (QI Q)))))))))))))))))))) : At g M_Tape_readTerm (lv + 1) 8 [(0, va_rf (some t)), (1, .int (l1)), (2, .int (l2)), (3, .int (l3))] [] m (QI Q) := by
  refine at_iload_n (i := 3) 3 9 rfl (by decide +kernel) rfl ?_
  refine at_sipush (n := 300) (300 : Int32) 12 rfl (by decide +kernel) (by decide +kernel) ?_
  refine at_icmp_ge (off := 63) 75 15 rfl (by decide +kernel) (by decide +kernel) (fun c1 => ?_) (fun c1 => ?_)
  · rw [if_pos c1] at h
    refine at_iload_n (i := 2) 2 76 rfl (by decide +kernel) rfl ?_
    obtain ⟨d2, h⟩ := h
    exact at_zret rfl (by decide +kernel) d2 h
  · rw [if_neg c1] at h
    refine at_iload_n (i := 2) 2 16 rfl (by decide +kernel) rfl ?_
    refine at_if_eq (off := 59) 75 19 rfl (by decide +kernel) (by decide +kernel) (fun c3 => ?_) (fun c3 => ?_)
    · rw [if_pos c3] at h
      refine at_iload_n (i := 2) 2 76 rfl (by decide +kernel) rfl ?_
      obtain ⟨d4, h⟩ := h
      exact at_zret rfl (by decide +kernel) d4 h
    · rw [if_neg c3] at h
      refine at_aload_n (i := 0) 0 20 rfl (by decide +kernel) rfl ?_
      obtain ⟨k5, h⟩ := h
      refine at_get (index := 15) (v := va_rf (mR m t 1)) cok9 1 23 rfl (by decide +kernel) k5 (by decide +kernel) tw_345 rfl ?_
      obtain ⟨b6, e7, h⟩ := h
      rw [e7]
      refine at_aload_n (i := 0) 0 24 rfl (by decide +kernel) rfl ?_
      refine at_get (index := 44) (v := .int (mI m t 7)) cok9 7 27 rfl (by decide +kernel) k5 (by decide +kernel) tw_353 rfl ?_
      obtain ⟨k8, h⟩ := h
      obtain ⟨v9, h⟩ := h
      refine at_iald 28 rfl (by decide +kernel) k8 v9 ?_
      refine at_bipush (n := 6) (6 : Int32) 30 rfl (by decide +kernel) (by decide +kernel) ?_
      refine at_bipush (n := 7) (7 : Int32) 32 rfl (by decide +kernel) (by decide +kernel) ?_
      refine at_callSN mb_SL_isWithin tw_471 (index := 133) (host := "SurplusLand") (by decide +kernel) [.int (mI m b6 (mI m t 7).toNatClampNeg), .int ((6 : Int32)), .int ((7 : Int32))] [] rfl rfl (by decide) 35 rfl (by decide +kernel) (Call.toI (CI.monoE h (fun x10 m11 h y12 => ?_)))
      have k13 : mK m11 t = 10 := y12.k k5 (by decide)
      have k14 : mK m11 b6 = 15 := y12.k k8 (by decide)
      have e15 : mR m11 t 1 = some b6 := y12.r k5 (by decide) rfl e7
      refine at_if_eq (off := 40) 75 38 rfl (by decide +kernel) (by decide +kernel) (fun c16 => ?_) (fun c16 => ?_)
      · rw [if_pos c16] at h
        refine at_iload_n (i := 2) 2 76 rfl (by decide +kernel) rfl ?_
        obtain ⟨d17, h⟩ := h
        exact at_zret rfl (by decide +kernel) d17 h
      · rw [if_neg c16] at h
        refine at_aload_n (i := 0) 0 39 rfl (by decide +kernel) rfl ?_
        refine at_get (index := 15) (v := va_rf (mR m11 t 1)) cok9 1 42 rfl (by decide +kernel) k13 (by decide +kernel) tw_345 rfl ?_
        rw [e15]
        refine at_aload_n (i := 0) 0 43 rfl (by decide +kernel) rfl ?_
        refine at_get (index := 44) (v := .int (mI m11 t 7)) cok9 7 46 rfl (by decide +kernel) k13 (by decide +kernel) tw_353 rfl ?_
        obtain ⟨v18, h⟩ := h
        refine at_iald 47 rfl (by decide +kernel) k14 v18 ?_
        refine at_istore (i := 4) (lc' := [(0, va_rf (some t)), (1, .int (l1)), (3, .int (l3)), (4, .int (mI m11 b6 (mI m11 t 7).toNatClampNeg))]) [1, 2, 4, 0] 49 rfl (by decide +kernel) (by decide +kernel) rfl ?_
        refine at_aload_n (i := 0) 0 50 rfl (by decide +kernel) rfl ?_
        refine at_callV mb_Tape_step tw_621 tw_10 cok9 k13 (index := 54) tw_619 [] [] rfl rfl (by decide) 53 rfl (by decide +kernel) (Call.toV (CV.monoE h (fun m19 h y20 => ?_)))
        have k21 : mK m19 t = 10 := y20.k k13 (by decide)
        have k22 : mK m19 b6 = 15 := y20.k k14 (by decide)
        have e23 : mR m19 t 1 = some b6 := y20.r k13 (by decide) rfl e15
        refine at_aload_n (i := 0) 0 54 rfl (by decide +kernel) rfl ?_
        refine at_iload_n (i := 1) 1 55 rfl (by decide +kernel) rfl ?_
        refine at_callV mb_Tape_readFactor tw_637 tw_13 cok9 k21 (index := 154) tw_635 [.int (l1)] [] rfl rfl (by decide) 58 rfl (by decide +kernel) (Call.toI (CI.monoE h (fun x24 m25 h y26 => ?_)))
        have k27 : mK m25 t = 10 := y26.k k21 (by decide)
        have k28 : mK m25 b6 = 15 := y26.k k22 (by decide)
        have e29 : mR m25 t 1 = some b6 := y26.r k21 (by decide) rfl e23
        refine at_istore_n (i := 2) (lc' := [(0, va_rf (some t)), (1, .int (l1)), (2, .int (x24)), (3, .int (l3)), (4, .int (mI m11 b6 (mI m11 t 7).toNatClampNeg))]) [1, 2, 0, 3, 4] 59 rfl (by decide +kernel) (by decide +kernel) rfl ?_
        refine at_aload_n (i := 0) 0 60 rfl (by decide +kernel) rfl ?_
        refine at_get (index := 32) (v := va_rf (mR m25 t 8)) cok9 8 63 rfl (by decide +kernel) k27 (by decide +kernel) tw_354 rfl ?_
        refine at_iload (i := 4) 4 65 rfl (by decide +kernel) rfl ?_
        refine at_ineg 66 rfl (by decide +kernel) ?_
        obtain ⟨b30, e31, h⟩ := h
        rw [e31]
        obtain ⟨k32, h⟩ := h
        refine at_callV mb_Law_emit tw_624 tw_625 cok4 k32 (index := 137) tw_623 [.int (-(mI m11 b6 (mI m11 t 7).toNatClampNeg))] [] rfl rfl (by decide) 69 rfl (by decide +kernel) (Call.toV (CV.monoE h (fun m33 h y34 => ?_)))
        have k35 : mK m33 t = 10 := y34.k k27 (by decide)
        have k36 : mK m33 b6 = 15 := y34.k k28 (by decide)
        have k37 : mK m33 b30 = 5 := y34.k k32 (by decide)
        have e38 : mR m33 t 1 = some b6 := y34.r k27 (by decide) rfl e29
        refine at_iinc (i := 3) (n := 1) (lc' := [(0, va_rf (some t)), (1, .int (l1)), (2, .int (x24)), (3, .int (l3 + (1 : Int32)))]) (l3 + (1 : Int32)) 3 [1, 2, 3, 0] 72 rfl (by decide +kernel) rfl (by rw [show Int32.ofInt 1 = (1 : Int32) from by decide +kernel]) (by decide +kernel) rfl ?_
        refine at_goto (off := (-64)) 8 (by decide +kernel) (by decide +kernel) ?_
        exact h
set_option maxRecDepth 20000 in
set_option maxHeartbeats 4000000 in
theorem en_Tape_readTerm (g : Gc) {lv : Nat} {t : Nat} {l1 : Int32} {m : Mm} {Q : Int32 → Mm → Prop} (h : mK m t = 10 ∧ (CI g M_Tape_readFactor lv [va_rf (some t), .int (l1)] m (fun x2 m3 => (At g M_Tape_readTerm (lv + 1) 8 [(0, va_rf (some t)), (1, .int (l1)), (2, .int (x2)), (3, .int ((0 : Int32)))] [] m3 (QI Q))))) : CI g M_Tape_readTerm (lv + 1) [va_rf (some t), .int (l1)] m Q := by
  refine Call.of (by decide +kernel) (Nat.le_of_ble_eq_true rfl) ?_
  show At g M_Tape_readTerm (lv + 1) 0 [(0, va_rf (some t)), (1, .int (l1))] [] m (QI Q)
  refine at_aload_n (i := 0) 0 1 rfl (by decide +kernel) rfl ?_
  refine at_iload_n (i := 1) 1 2 rfl (by decide +kernel) rfl ?_
  obtain ⟨k1, h⟩ := h
  refine at_callV mb_Tape_readFactor tw_637 tw_13 cok9 k1 (index := 154) tw_635 [.int (l1)] [] rfl rfl (by decide) 5 rfl (by decide +kernel) (Call.toI (CI.monoE h (fun x2 m3 h y4 => ?_)))
  have k5 : mK m3 t = 10 := y4.k k1 (by decide)
  refine at_istore_n (i := 2) (lc' := [(0, va_rf (some t)), (1, .int (l1)), (2, .int (x2))]) [1, 2, 0] 6 rfl (by decide +kernel) (by decide +kernel) rfl ?_
  refine at_iconst (n := 0) (0 : Int32) 7 rfl (by decide +kernel) (by decide +kernel) ?_
  refine at_istore_n (i := 3) (lc' := [(0, va_rf (some t)), (1, .int (l1)), (2, .int (x2)), (3, .int ((0 : Int32)))]) [1, 2, 3, 0] 8 rfl (by decide +kernel) (by decide +kernel) rfl ?_
  exact h
set_option maxRecDepth 20000 in
set_option maxHeartbeats 4000000 in
theorem bk_Tape_readFactor_49 (g : Gc) {lv : Nat} {t : Nat} {s0 : Option Nat} {s1 : Int32} {m : Mm} {Q : Int32 → Mm → Prop} (h : ∃ b1, s0 = some b1 ∧ (mK m b1 = 5 ∧ (CV g M_Law_emit lv [va_rf (some b1), .int (s1)] m (fun m4 => (mK m4 t = 10 ∧ (CV g M_Tape_step lv [va_rf (some t)] m4 (fun m8 => (Q (1 : Int32) m8)))))))) : At g M_Tape_readFactor (lv + 1) 49 [(0, va_rf (some t))] [.int (s1), va_rf (s0)] m (QI Q) := by
  obtain ⟨b1, e2, h⟩ := h
  rw [e2]
  obtain ⟨k3, h⟩ := h
  refine at_callV mb_Law_emit tw_624 tw_625 cok4 k3 (index := 137) tw_623 [.int (s1)] [] rfl rfl (by decide) 52 rfl (by decide +kernel) (Call.toV (CV.monoE h (fun m4 h y5 => ?_)))
  have k6 : mK m4 b1 = 5 := y5.k k3 (by decide)
  refine at_aload_n (i := 0) 0 53 rfl (by decide +kernel) rfl ?_
  obtain ⟨k7, h⟩ := h
  refine at_callV mb_Tape_step tw_621 tw_10 cok9 k7 (index := 54) tw_619 [] [] rfl rfl (by decide) 56 rfl (by decide +kernel) (Call.toV (CV.monoE h (fun m8 h y9 => ?_)))
  have k10 : mK m8 b1 = 5 := y9.k k6 (by decide)
  have k11 : mK m8 t = 10 := y9.k k7 (by decide)
  refine at_iconst (n := 1) (1 : Int32) 57 rfl (by decide +kernel) (by decide +kernel) ?_
  exact at_zret rfl (by decide +kernel) (Or.inr rfl) h
set_option maxRecDepth 20000 in
set_option maxHeartbeats 4000000 in
theorem bk_Tape_readFactor_26 (g : Gc) {lv : Nat} {t : Nat} {l2 : Int32} {m : Mm} {Q : Int32 → Mm → Prop} (h : mK m t = 10 ∧ (if (l2) = ((3 : Int32)) then (∃ b3, mR m t 3 = some b3 ∧ (mK m b3 = 15 ∧ (vp_in (mI m t 7) (mN m b3) ∧ (At g M_Tape_readFactor (lv + 1) 49 [(0, va_rf (some t))] [.int (mI m b3 (mI m t 7).toNatClampNeg), va_rf (mR m t 8)] m (QI Q))))) else (At g M_Tape_readFactor (lv + 1) 49 [(0, va_rf (some t))] [.int (-l2), va_rf (mR m t 8)] m (QI Q)))) : At g M_Tape_readFactor (lv + 1) 26 [(0, va_rf (some t)), (2, .int (l2))] [] m (QI Q) := by
  refine at_aload_n (i := 0) 0 27 rfl (by decide +kernel) rfl ?_
  obtain ⟨k1, h⟩ := h
  refine at_get (index := 32) (v := va_rf (mR m t 8)) cok9 8 30 rfl (by decide +kernel) k1 (by decide +kernel) tw_354 rfl ?_
  refine at_iload_n (i := 2) 1 31 rfl (by decide +kernel) rfl ?_
  refine at_iconst (n := 3) (3 : Int32) 32 rfl (by decide +kernel) (by decide +kernel) ?_
  refine at_icmp_ne (off := 15) 47 35 rfl (by decide +kernel) (by decide +kernel) (fun c2 => ?_) (fun c2 => ?_)
  · rw [if_neg c2] at h
    refine at_iload_n (i := 2) 1 48 rfl (by decide +kernel) rfl ?_
    refine at_ineg 49 rfl (by decide +kernel) ?_
    exact At.sub [0] rfl h
  · rw [if_pos c2] at h
    refine at_aload_n (i := 0) 0 36 rfl (by decide +kernel) rfl ?_
    refine at_get (index := 22) (v := va_rf (mR m t 3)) cok9 3 39 rfl (by decide +kernel) k1 (by decide +kernel) tw_347 rfl ?_
    obtain ⟨b3, e4, h⟩ := h
    rw [e4]
    refine at_aload_n (i := 0) 0 40 rfl (by decide +kernel) rfl ?_
    refine at_get (index := 44) (v := .int (mI m t 7)) cok9 7 43 rfl (by decide +kernel) k1 (by decide +kernel) tw_353 rfl ?_
    obtain ⟨k5, h⟩ := h
    obtain ⟨v6, h⟩ := h
    refine at_iald 44 rfl (by decide +kernel) k5 v6 ?_
    refine at_goto (off := 5) 49 (by decide +kernel) (by decide +kernel) ?_
    exact At.sub [0] rfl h
set_option maxRecDepth 20000 in
set_option maxHeartbeats 4000000 in
theorem en_Tape_readFactor (g : Gc) {lv : Nat} {t : Nat} {l1 : Int32} {m : Mm} {Q : Int32 → Mm → Prop} (h : mK m t = 10 ∧ (∃ b2, mR m t 1 = some b2 ∧ (mK m b2 = 15 ∧ (vp_in (mI m t 7) (mN m b2) ∧ (if (mI m b2 (mI m t 7).toNatClampNeg) = ((3 : Int32)) then (At g M_Tape_readFactor (lv + 1) 26 [(0, va_rf (some t)), (2, .int (mI m b2 (mI m t 7).toNatClampNeg))] [] m (QI Q)) else (CI g M_SL_isWithin lv [.int (mI m b2 (mI m t 7).toNatClampNeg), .int ((21 : Int32)), .int ((26 : Int32))] m (fun x7 m8 => (if (x7) = 0 then (if (mI m b2 (mI m t 7).toNatClampNeg) = ((8 : Int32)) then (if (l1) < ((8 : Int32)) then (CV g M_Tape_step lv [va_rf (some t)] m8 (fun m23 => (CI g M_Tape_readSum lv [va_rf (some t), .int (l1 + (1 : Int32))] m23 (fun x28 m29 => (if (x28) = 0 then (Q (0 : Int32) m29) else (vp_in (mI m29 t 7) (mN m29 b2) ∧ (if (mI m29 b2 (mI m29 t 7).toNatClampNeg) = ((9 : Int32)) then (CV g M_Tape_step lv [va_rf (some t)] m29 (fun m37 => (Q (1 : Int32) m37))) else (CI g M_Tape_refuse lv [va_rf (some t)] m29 (fun x42 m43 => (b01 x42 ∧ (Q x42 m43))))))))))) else (CI g M_Tape_refuse lv [va_rf (some t)] m8 (fun x49 m50 => (b01 x49 ∧ (Q x49 m50))))) else (CI g M_Tape_refuse lv [va_rf (some t)] m8 (fun x15 m16 => (b01 x15 ∧ (Q x15 m16))))) else (At g M_Tape_readFactor (lv + 1) 26 [(0, va_rf (some t)), (2, .int (mI m b2 (mI m t 7).toNatClampNeg))] [] m8 (QI Q)))))))))) : CI g M_Tape_readFactor (lv + 1) [va_rf (some t), .int (l1)] m Q := by
  refine Call.of (by decide +kernel) (Nat.le_of_ble_eq_true rfl) ?_
  show At g M_Tape_readFactor (lv + 1) 0 [(0, va_rf (some t)), (1, .int (l1))] [] m (QI Q)
  refine at_aload_n (i := 0) 0 1 rfl (by decide +kernel) rfl ?_
  obtain ⟨k1, h⟩ := h
  refine at_get (index := 15) (v := va_rf (mR m t 1)) cok9 1 4 rfl (by decide +kernel) k1 (by decide +kernel) tw_345 rfl ?_
  obtain ⟨b2, e3, h⟩ := h
  rw [e3]
  refine at_aload_n (i := 0) 0 5 rfl (by decide +kernel) rfl ?_
  refine at_get (index := 44) (v := .int (mI m t 7)) cok9 7 8 rfl (by decide +kernel) k1 (by decide +kernel) tw_353 rfl ?_
  obtain ⟨k4, h⟩ := h
  obtain ⟨v5, h⟩ := h
  refine at_iald 9 rfl (by decide +kernel) k4 v5 ?_
  refine at_istore_n (i := 2) (lc' := [(0, va_rf (some t)), (1, .int (l1)), (2, .int (mI m b2 (mI m t 7).toNatClampNeg))]) [1, 2, 0] 10 rfl (by decide +kernel) (by decide +kernel) rfl ?_
  refine at_iload_n (i := 2) 2 11 rfl (by decide +kernel) rfl ?_
  refine at_iconst (n := 3) (3 : Int32) 12 rfl (by decide +kernel) (by decide +kernel) ?_
  refine at_icmp_eq (off := 14) 26 15 rfl (by decide +kernel) (by decide +kernel) (fun c6 => ?_) (fun c6 => ?_)
  · rw [if_pos c6] at h
    exact At.sub [0, 2] rfl h
  · rw [if_neg c6] at h
    refine at_iload_n (i := 2) 2 16 rfl (by decide +kernel) rfl ?_
    refine at_bipush (n := 21) (21 : Int32) 18 rfl (by decide +kernel) (by decide +kernel) ?_
    refine at_bipush (n := 26) (26 : Int32) 20 rfl (by decide +kernel) (by decide +kernel) ?_
    refine at_callSN mb_SL_isWithin tw_471 (index := 133) (host := "SurplusLand") (by decide +kernel) [.int (mI m b2 (mI m t 7).toNatClampNeg), .int ((21 : Int32)), .int ((26 : Int32))] [] rfl rfl (by decide) 23 rfl (by decide +kernel) (Call.toI (CI.monoE h (fun x7 m8 h y9 => ?_)))
    have k10 : mK m8 t = 10 := y9.k k1 (by decide)
    have k11 : mK m8 b2 = 15 := y9.k k4 (by decide)
    have e12 : mR m8 t 1 = some b2 := y9.r k1 (by decide) rfl e3
    refine at_if_eq (off := 35) 58 26 rfl (by decide +kernel) (by decide +kernel) (fun c13 => ?_) (fun c13 => ?_)
    · rw [if_pos c13] at h
      refine at_iload_n (i := 2) 2 59 rfl (by decide +kernel) rfl ?_
      refine at_bipush (n := 8) (8 : Int32) 61 rfl (by decide +kernel) (by decide +kernel) ?_
      refine at_icmp_ne (off := 9) 70 64 rfl (by decide +kernel) (by decide +kernel) (fun c14 => ?_) (fun c14 => ?_)
      · rw [if_neg c14] at h
        refine at_aload_n (i := 0) 0 71 rfl (by decide +kernel) rfl ?_
        refine at_callV mb_Tape_refuse tw_617 tw_9 cok9 k10 (index := 57) tw_615 [] [] rfl rfl (by decide) 74 rfl (by decide +kernel) (Call.toI (CI.monoE h (fun x15 m16 h y17 => ?_)))
        have k18 : mK m16 t = 10 := y17.k k10 (by decide)
        have k19 : mK m16 b2 = 15 := y17.k k11 (by decide)
        have e20 : mR m16 t 1 = some b2 := y17.r k10 (by decide) rfl e12
        obtain ⟨d21, h⟩ := h
        exact at_zret rfl (by decide +kernel) d21 h
      · rw [if_pos c14] at h
        refine at_iload_n (i := 1) 1 65 rfl (by decide +kernel) rfl ?_
        refine at_bipush (n := 8) (8 : Int32) 67 rfl (by decide +kernel) (by decide +kernel) ?_
        refine at_icmp_lt (off := 8) 75 70 rfl (by decide +kernel) (by decide +kernel) (fun c22 => ?_) (fun c22 => ?_)
        · rw [if_pos c22] at h
          refine at_aload_n (i := 0) 0 76 rfl (by decide +kernel) rfl ?_
          refine at_callV mb_Tape_step tw_621 tw_10 cok9 k10 (index := 54) tw_619 [] [] rfl rfl (by decide) 79 rfl (by decide +kernel) (Call.toV (CV.monoE h (fun m23 h y24 => ?_)))
          have k25 : mK m23 t = 10 := y24.k k10 (by decide)
          have k26 : mK m23 b2 = 15 := y24.k k11 (by decide)
          have e27 : mR m23 t 1 = some b2 := y24.r k10 (by decide) rfl e12
          refine at_aload_n (i := 0) 0 80 rfl (by decide +kernel) rfl ?_
          refine at_iload_n (i := 1) 1 81 rfl (by decide +kernel) rfl ?_
          refine at_iconst (n := 1) (1 : Int32) 82 rfl (by decide +kernel) (by decide +kernel) ?_
          refine at_iadd 83 rfl (by decide +kernel) ?_
          refine at_callV mb_Tape_readSum tw_629 tw_11 cok9 k25 (index := 141) tw_627 [.int (l1 + (1 : Int32))] [] rfl rfl (by decide) 86 rfl (by decide +kernel) (Call.toI (CI.monoE h (fun x28 m29 h y30 => ?_)))
          have k31 : mK m29 t = 10 := y30.k k25 (by decide)
          have k32 : mK m29 b2 = 15 := y30.k k26 (by decide)
          have e33 : mR m29 t 1 = some b2 := y30.r k25 (by decide) rfl e27
          refine at_if_ne (off := 5) 91 89 rfl (by decide +kernel) (by decide +kernel) (fun c34 => ?_) (fun c34 => ?_)
          · rw [if_neg c34] at h
            refine at_aload_n (i := 0) 0 92 rfl (by decide +kernel) rfl ?_
            refine at_get (index := 15) (v := va_rf (mR m29 t 1)) cok9 1 95 rfl (by decide +kernel) k31 (by decide +kernel) tw_345 rfl ?_
            rw [e33]
            refine at_aload_n (i := 0) 0 96 rfl (by decide +kernel) rfl ?_
            refine at_get (index := 44) (v := .int (mI m29 t 7)) cok9 7 99 rfl (by decide +kernel) k31 (by decide +kernel) tw_353 rfl ?_
            obtain ⟨v35, h⟩ := h
            refine at_iald 100 rfl (by decide +kernel) k32 v35 ?_
            refine at_bipush (n := 9) (9 : Int32) 102 rfl (by decide +kernel) (by decide +kernel) ?_
            refine at_icmp_eq (off := 8) 110 105 rfl (by decide +kernel) (by decide +kernel) (fun c36 => ?_) (fun c36 => ?_)
            · rw [if_pos c36] at h
              refine at_aload_n (i := 0) 0 111 rfl (by decide +kernel) rfl ?_
              refine at_callV mb_Tape_step tw_621 tw_10 cok9 k31 (index := 54) tw_619 [] [] rfl rfl (by decide) 114 rfl (by decide +kernel) (Call.toV (CV.monoE h (fun m37 h y38 => ?_)))
              have k39 : mK m37 t = 10 := y38.k k31 (by decide)
              have k40 : mK m37 b2 = 15 := y38.k k32 (by decide)
              have e41 : mR m37 t 1 = some b2 := y38.r k31 (by decide) rfl e33
              refine at_iconst (n := 1) (1 : Int32) 115 rfl (by decide +kernel) (by decide +kernel) ?_
              exact at_zret rfl (by decide +kernel) (Or.inr rfl) h
            · rw [if_neg c36] at h
              refine at_aload_n (i := 0) 0 106 rfl (by decide +kernel) rfl ?_
              refine at_callV mb_Tape_refuse tw_617 tw_9 cok9 k31 (index := 57) tw_615 [] [] rfl rfl (by decide) 109 rfl (by decide +kernel) (Call.toI (CI.monoE h (fun x42 m43 h y44 => ?_)))
              have k45 : mK m43 t = 10 := y44.k k31 (by decide)
              have k46 : mK m43 b2 = 15 := y44.k k32 (by decide)
              have e47 : mR m43 t 1 = some b2 := y44.r k31 (by decide) rfl e33
              obtain ⟨d48, h⟩ := h
              exact at_zret rfl (by decide +kernel) d48 h
          · rw [if_pos c34] at h
            refine at_iconst (n := 0) (0 : Int32) 90 rfl (by decide +kernel) (by decide +kernel) ?_
            exact at_zret rfl (by decide +kernel) (Or.inl rfl) h
        · rw [if_neg c22] at h
          refine at_aload_n (i := 0) 0 71 rfl (by decide +kernel) rfl ?_
          refine at_callV mb_Tape_refuse tw_617 tw_9 cok9 k10 (index := 57) tw_615 [] [] rfl rfl (by decide) 74 rfl (by decide +kernel) (Call.toI (CI.monoE h (fun x49 m50 h y51 => ?_)))
          have k52 : mK m50 t = 10 := y51.k k10 (by decide)
          have k53 : mK m50 b2 = 15 := y51.k k11 (by decide)
          have e54 : mR m50 t 1 = some b2 := y51.r k10 (by decide) rfl e12
          obtain ⟨d55, h⟩ := h
          exact at_zret rfl (by decide +kernel) d55 h
    · rw [if_neg c13] at h
      exact At.sub [0, 2] rfl h
