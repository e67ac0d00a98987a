set_option maxRecDepth 20000 in
set_option maxHeartbeats 4000000 in
theorem en_Judge_init (g : Gc) {lv : Nat} {t : Nat} {m : Mm} {Q : Mm → Prop} (h : mK m (gz g + mC m) = 0 ∧ (∀ q2 m3, q2 = gz g + mC m → m3 = nw m q2 16 ((6 : Int32).toNatClampNeg) ((6 : Int32).toNatClampNeg) → (mK m3 t = 3 ∧ (mR m3 t 0 = none ∧ (∀ m10, m10 = sR m3 t 0 (some q2) → (mK m10 (gz g + mC m10) = 0 ∧ (∀ q17 m18, q17 = gz g + mC m10 → m18 = nw m10 q17 16 ((32 : Int32).toNatClampNeg) ((32 : Int32).toNatClampNeg) → (mR m18 t 1 = none ∧ (∀ m27, m27 = sR m18 t 1 (some q17) → (mK m27 (gz g + mC m27) = 0 ∧ (∀ q36 m37, q36 = gz g + mC m27 → m37 = nw m27 q36 17 ((8 : Int32).toNatClampNeg) ((8 : Int32).toNatClampNeg) → (mR m37 t 2 = none ∧ (∀ m48, m48 = sR m37 t 2 (some q36) → (Q m48)))))))))))))) : CV g M_Judge_init (lv + 1) [va_rf (some t)] m Q := by
  refine Call.of (by decide +kernel) (Nat.le_of_ble_eq_true rfl) ?_
  show At g M_Judge_init (lv + 1) 0 [(0, va_rf (some t))] [] m (QV Q)
  refine at_aload_n (i := 0) 0 1 rfl (by decide +kernel) rfl ?_
  refine at_objInit 4 rfl (by decide +kernel) tw_166 tw_91 tw_92 (by decide) ?_
  refine at_aload_n (i := 0) 0 5 rfl (by decide +kernel) rfl ?_
  refine at_bipush (n := 6) (6 : Int32) 7 rfl (by decide +kernel) (by decide +kernel) ?_
  obtain ⟨z1, h⟩ := h
  refine at_newaJ 9 rfl z1 (by decide +kernel) tw_199 (by decide +kernel) (by decide +kernel) (fun q2 m3 e4 e5 => ?_)
  replace h := h q2 m3 e4 e5
  have x6 : Ext m m3 := by rw [e5, e4]; exact Ext.nw z1 _ _ _
  have k7 : mK m3 q2 = 16 := by rw [e5]; exact if_pos rfl
  obtain ⟨k8, h⟩ := h
  obtain ⟨n9, h⟩ := h
  refine at_putRF (index := 9) cok2 0 12 rfl (by decide +kernel) k8 n9 (by decide +kernel) tw_167 rfl rfl rfl rfl (Or.inr ⟨_, rfl⟩) (fun m10 e11 => ?_)
  replace h := h m10 e11
  have x12 : Ext m3 m10 := by rw [e11]; exact Ext.sR _ (Or.inr n9)
  have k13 : mK m10 q2 = 16 := x12.k k7 (by decide)
  have k14 : mK m10 t = 3 := x12.k k8 (by decide)
  have e15 : mR m10 t 0 = some q2 := by rw [e11]; simp [mR, sR, up2]
  refine at_aload_n (i := 0) 0 13 rfl (by decide +kernel) rfl ?_
  refine at_bipush (n := 32) (32 : Int32) 15 rfl (by decide +kernel) (by decide +kernel) ?_
  obtain ⟨z16, h⟩ := h
  refine at_newaJ 17 rfl z16 (by decide +kernel) tw_199 (by decide +kernel) (by decide +kernel) (fun q17 m18 e19 e20 => ?_)
  replace h := h q17 m18 e19 e20
  have x21 : Ext m10 m18 := by rw [e20, e19]; exact Ext.nw z16 _ _ _
  have k22 : mK m18 q2 = 16 := x21.k k13 (by decide)
  have k23 : mK m18 t = 3 := x21.k k14 (by decide)
  have e24 : mR m18 t 0 = some q2 := x21.r k14 (by decide) rfl e15
  have k25 : mK m18 q17 = 16 := by rw [e20]; exact if_pos rfl
  obtain ⟨n26, h⟩ := h
  refine at_putRF (index := 15) cok2 1 20 rfl (by decide +kernel) k23 n26 (by decide +kernel) tw_169 rfl rfl rfl rfl (Or.inr ⟨_, rfl⟩) (fun m27 e28 => ?_)
  replace h := h m27 e28
  have x29 : Ext m18 m27 := by rw [e28]; exact Ext.sR _ (Or.inr n26)
  have k30 : mK m27 q2 = 16 := x29.k k22 (by decide)
  have k31 : mK m27 t = 3 := x29.k k23 (by decide)
  have k32 : mK m27 q17 = 16 := x29.k k25 (by decide)
  have e33 : mR m27 t 0 = some q2 := x29.r k23 (by decide) rfl e24
  have e34 : mR m27 t 1 = some q17 := by rw [e28]; simp [mR, sR, up2]
  refine at_aload_n (i := 0) 0 21 rfl (by decide +kernel) rfl ?_
  refine at_bipush (n := 8) (8 : Int32) 23 rfl (by decide +kernel) (by decide +kernel) ?_
  obtain ⟨z35, h⟩ := h
  refine at_newaZ 25 rfl z35 (by decide +kernel) tw_200 (by decide +kernel) (by decide +kernel) (fun q36 m37 e38 e39 => ?_)
  replace h := h q36 m37 e38 e39
  have x40 : Ext m27 m37 := by rw [e39, e38]; exact Ext.nw z35 _ _ _
  have k41 : mK m37 q2 = 16 := x40.k k30 (by decide)
  have k42 : mK m37 t = 3 := x40.k k31 (by decide)
  have k43 : mK m37 q17 = 16 := x40.k k32 (by decide)
  have e44 : mR m37 t 0 = some q2 := x40.r k31 (by decide) rfl e33
  have e45 : mR m37 t 1 = some q17 := x40.r k31 (by decide) rfl e34
  have k46 : mK m37 q36 = 17 := by rw [e39]; exact if_pos rfl
  obtain ⟨n47, h⟩ := h
  refine at_putRF (index := 18) cok2 2 28 rfl (by decide +kernel) k42 n47 (by decide +kernel) tw_170 rfl rfl rfl rfl (Or.inr ⟨_, rfl⟩) (fun m48 e49 => ?_)
  replace h := h m48 e49
  have x50 : Ext m37 m48 := by rw [e49]; exact Ext.sR _ (Or.inr n47)
  have k51 : mK m48 q2 = 16 := x50.k k41 (by decide)
  have k52 : mK m48 t = 3 := x50.k k42 (by decide)
  have k53 : mK m48 q17 = 16 := x50.k k43 (by decide)
  have k54 : mK m48 q36 = 17 := x50.k k46 (by decide)
  have e55 : mR m48 t 0 = some q2 := x50.r k42 (by decide) rfl e44
  have e56 : mR m48 t 1 = some q17 := x50.r k42 (by decide) rfl e45
  have e57 : mR m48 t 2 = some q36 := by rw [e49]; simp [mR, sR, up2]
  exact at_vret rfl (by decide +kernel) h
set_option maxRecDepth 20000 in
set_option maxHeartbeats 4000000 in
theorem en_Judge_frees (g : Gc) {lv : Nat} {t : Nat} {l1 : Int32} {l2 : Int32} {m : Mm} {Q : Int32 → Mm → Prop} (h : mK m t = 3 ∧ (if (l2.toInt64) < (mL m t 7) then (Q (1 : Int32) m) else (CI g M_SL_isWithin lv [.int (l1), .int ((0 : Int32)), .int ((7 : Int32))] m (fun x3 m4 => (if (x3) = 0 then (Q (0 : Int32) m4) else (∃ b8, mR m4 t 2 = some b8 ∧ (mK m4 b8 = 17 ∧ (vp_in l1 (mN m4 b8) ∧ (if (mI m4 b8 l1.toNatClampNeg) = 0 then (Q (0 : Int32) m4) else (Q (1 : Int32) m4)))))))))) : CI g M_Judge_frees (lv + 1) [va_rf (some t), .int (l1), .int (l2)] m Q := by
  refine Call.of (by decide +kernel) (Nat.le_of_ble_eq_true rfl) ?_
  show At g M_Judge_frees (lv + 1) 0 [(0, va_rf (some t)), (1, .int (l1)), (2, .int (l2))] [] m (QI Q)
  refine at_iload_n (i := 2) 2 1 rfl (by decide +kernel) rfl ?_
  refine at_i2l 2 rfl (by decide +kernel) ?_
  refine at_aload_n (i := 0) 0 3 rfl (by decide +kernel) rfl ?_
  obtain ⟨k1, h⟩ := h
  refine at_get (index := 22) (v := .long (mL m t 7)) cok2 7 6 rfl (by decide +kernel) k1 (by decide +kernel) tw_177 rfl ?_
  refine at_lif_lt (off := 22) 7 29 10 rfl rfl (by decide +kernel) (by decide +kernel) (by decide +kernel) (fun c2 => ?_) (fun c2 => ?_)
  · rw [if_pos c2] at h
    refine at_iconst (n := 1) (1 : Int32) 30 rfl (by decide +kernel) (by decide +kernel) ?_
    refine at_goto (off := 4) 34 (by decide +kernel) (by decide +kernel) ?_
    exact at_zret rfl (by decide +kernel) (Or.inr rfl) h
  · rw [if_neg c2] at h
    refine at_iload_n (i := 1) 1 11 rfl (by decide +kernel) rfl ?_
    refine at_iconst (n := 0) (0 : Int32) 12 rfl (by decide +kernel) (by decide +kernel) ?_
    refine at_bipush (n := 7) (7 : Int32) 14 rfl (by decide +kernel) (by decide +kernel) ?_
    refine at_callSN mb_SL_isWithin tw_471 (index := 26) (host := "SurplusLand") (by decide +kernel) [.int (l1), .int ((0 : Int32)), .int ((7 : Int32))] [] rfl rfl (by decide) 17 rfl (by decide +kernel) (Call.toI (CI.monoE h (fun x3 m4 h y5 => ?_)))
    have k6 : mK m4 t = 3 := y5.k k1 (by decide)
    refine at_if_eq (off := 16) 33 20 rfl (by decide +kernel) (by decide +kernel) (fun c7 => ?_) (fun c7 => ?_)
    · rw [if_pos c7] at h
      refine at_iconst (n := 0) (0 : Int32) 34 rfl (by decide +kernel) (by decide +kernel) ?_
      exact at_zret rfl (by decide +kernel) (Or.inl rfl) h
    · rw [if_neg c7] at h
      refine at_aload_n (i := 0) 0 21 rfl (by decide +kernel) rfl ?_
      refine at_get (index := 18) (v := va_rf (mR m4 t 2)) cok2 2 24 rfl (by decide +kernel) k6 (by decide +kernel) tw_170 rfl ?_
      obtain ⟨b8, e9, h⟩ := h
      rw [e9]
      refine at_iload_n (i := 1) 1 25 rfl (by decide +kernel) rfl ?_
      obtain ⟨k10, h⟩ := h
      obtain ⟨v11, h⟩ := h
      refine at_zald 26 rfl (by decide +kernel) k10 v11 ?_
      refine at_if_eq (off := 7) 33 29 rfl (by decide +kernel) (by decide +kernel) (fun c12 => ?_) (fun c12 => ?_)
      · rw [if_pos c12] at h
        refine at_iconst (n := 0) (0 : Int32) 34 rfl (by decide +kernel) (by decide +kernel) ?_
        exact at_zret rfl (by decide +kernel) (Or.inl rfl) h
      · rw [if_neg c12] at h
        refine at_iconst (n := 1) (1 : Int32) 30 rfl (by decide +kernel) (by decide +kernel) ?_
        refine at_goto (off := 4) 34 (by decide +kernel) (by decide +kernel) ?_
        exact at_zret rfl (by decide +kernel) (Or.inr rfl) h
set_option maxRecDepth 20000 in
set_option maxHeartbeats 4000000 in
theorem bk_Judge_hear_108 (g : Gc) {lv : Nat} {t : Nat} {l1 : Option Nat} {l2 : Int32} {s0 : Int32} {m : Mm} {Q : Mm → Prop} (h : if (s0) = 0 then (At g M_Judge_hear (lv + 1) 58 [(0, va_rf (some t)), (1, va_rf (l1)), (2, .int (l2 + (1 : Int32)))] [] m (QV Q)) else (∃ b2, l1 = some b2 ∧ (mK m b2 = 5 ∧ (∃ b5, mR m b2 0 = some b5 ∧ (mK m b5 = 15 ∧ (vp_in l2 (mN m b5) ∧ (∃ b9, mR m b2 1 = some b9 ∧ (mK m b9 = 15 ∧ (vp_in l2 (mN m b9) ∧ (∃ b13, mR m b2 2 = some b13 ∧ (mK m b13 = 15 ∧ (vp_in l2 (mN m b13) ∧ (mK m t = 3 ∧ (CJ g M_Judge_run lv [va_rf (some t), va_rf (some b2), .int (mI m b9 l2.toNatClampNeg), .int (mI m b13 l2.toNatClampNeg)] m (fun x18 m19 => (CV g M_Judge_obey lv [va_rf (some t), .int (mI m b5 l2.toNatClampNeg), .long (x18)] m19 (fun m29 => (At g M_Judge_hear (lv + 1) 58 [(0, va_rf (some t)), (1, va_rf (some b2)), (2, .int (l2 + (1 : Int32)))] [] m29 (QV Q))))))))))))))))))) : At g M_Judge_hear (lv + 1) 108 [(0, va_rf (some t)), (1, va_rf (l1)), (2, .int (l2))] [.int (s0)] m (QV Q) := by
  refine at_istore_n (i := 3) (lc' := [(0, va_rf (some t)), (1, va_rf (l1)), (2, .int (l2)), (3, .int (s0))]) [1, 2, 3, 0] 109 rfl (by decide +kernel) (by decide +kernel) rfl ?_
  refine at_iload_n (i := 3) 3 110 rfl (by decide +kernel) rfl ?_
  refine at_if_eq (off := 30) 140 113 rfl (by decide +kernel) (by decide +kernel) (fun c1 => ?_) (fun c1 => ?_)
  · rw [if_pos c1] at h
    refine at_iinc (i := 2) (n := 1) (lc' := [(0, va_rf (some t)), (1, va_rf (l1)), (2, .int (l2 + (1 : Int32)))]) (l2 + (1 : Int32)) 2 [1, 2, 0] 143 rfl (by decide +kernel) rfl (by rw [show Int32.ofInt 1 = (1 : Int32) from by decide +kernel]) (by decide +kernel) (by generalize l1 = rr; cases rr <;> rfl) ?_
    refine at_goto (off := (-85)) 58 (by decide +kernel) (by decide +kernel) ?_
    exact h
  · rw [if_neg c1] at h
    refine at_aload_n (i := 0) 0 114 rfl (by decide +kernel) rfl ?_
    refine at_aload_n (i := 1) 1 115 rfl (by decide +kernel) rfl ?_
    obtain ⟨b2, e3, h⟩ := h
    rw [e3]
    obtain ⟨k4, h⟩ := h
    refine at_get (index := 63) (v := va_rf (mR m b2 0)) cok4 0 118 rfl (by decide +kernel) k4 (by decide +kernel) tw_385 rfl ?_
    obtain ⟨b5, e6, h⟩ := h
    rw [e6]
    refine at_iload_n (i := 2) 2 119 rfl (by decide +kernel) rfl ?_
    obtain ⟨k7, h⟩ := h
    obtain ⟨v8, h⟩ := h
    refine at_iald 120 rfl (by decide +kernel) k7 v8 ?_
    refine at_aload_n (i := 0) 0 121 rfl (by decide +kernel) rfl ?_
    refine at_aload_n (i := 1) 1 122 rfl (by decide +kernel) rfl ?_
    refine at_aload_n (i := 1) 1 123 rfl (by decide +kernel) rfl ?_
    refine at_get (index := 66) (v := va_rf (mR m b2 1)) cok4 1 126 rfl (by decide +kernel) k4 (by decide +kernel) tw_387 rfl ?_
    obtain ⟨b9, e10, h⟩ := h
    rw [e10]
    refine at_iload_n (i := 2) 2 127 rfl (by decide +kernel) rfl ?_
    obtain ⟨k11, h⟩ := h
    obtain ⟨v12, h⟩ := h
    refine at_iald 128 rfl (by decide +kernel) k11 v12 ?_
    refine at_aload_n (i := 1) 1 129 rfl (by decide +kernel) rfl ?_
    refine at_get (index := 52) (v := va_rf (mR m b2 2)) cok4 2 132 rfl (by decide +kernel) k4 (by decide +kernel) tw_389 rfl ?_
    obtain ⟨b13, e14, h⟩ := h
    rw [e14]
    refine at_iload_n (i := 2) 2 133 rfl (by decide +kernel) rfl ?_
    obtain ⟨k15, h⟩ := h
    obtain ⟨v16, h⟩ := h
    refine at_iald 134 rfl (by decide +kernel) k15 v16 ?_
    obtain ⟨k17, h⟩ := h
    refine at_callV mb_Judge_run tw_729 tw_17 cok2 k17 (index := 59) tw_727 [va_rf (some b2), .int (mI m b9 l2.toNatClampNeg), .int (mI m b13 l2.toNatClampNeg)] [.int (mI m b5 l2.toNatClampNeg), va_rf (some t)] rfl rfl (by simp [va_rf_cat, cat_int, cat_long]) 137 rfl (by decide +kernel) (Call.toJ (CJ.monoE h (fun x18 m19 h y20 => ?_)))
    have k21 : mK m19 b2 = 5 := y20.k k4 (by decide)
    have k22 : mK m19 b5 = 15 := y20.k k7 (by decide)
    have k23 : mK m19 b9 = 15 := y20.k k11 (by decide)
    have k24 : mK m19 b13 = 15 := y20.k k15 (by decide)
    have k25 : mK m19 t = 3 := y20.k k17 (by decide)
    have e26 : mR m19 b2 0 = some b5 := y20.r k4 (by decide) rfl e6
    have e27 : mR m19 b2 1 = some b9 := y20.r k4 (by decide) rfl e10
    have e28 : mR m19 b2 2 = some b13 := y20.r k4 (by decide) rfl e14
    refine at_callV mb_Judge_obey tw_737 tw_18 cok2 k25 (index := 69) tw_735 [.int (mI m b5 l2.toNatClampNeg), .long (x18)] [] rfl rfl (by decide) 140 rfl (by decide +kernel) (Call.toV (CV.monoE h (fun m29 h y30 => ?_)))
    have k31 : mK m29 b2 = 5 := y30.k k21 (by decide)
    have k32 : mK m29 b5 = 15 := y30.k k22 (by decide)
    have k33 : mK m29 b9 = 15 := y30.k k23 (by decide)
    have k34 : mK m29 b13 = 15 := y30.k k24 (by decide)
    have k35 : mK m29 t = 3 := y30.k k25 (by decide)
    have e36 : mR m29 b2 0 = some b5 := y30.r k21 (by decide) rfl e26
    have e37 : mR m29 b2 1 = some b9 := y30.r k21 (by decide) rfl e27
    have e38 : mR m29 b2 2 = some b13 := y30.r k21 (by decide) rfl e28
    refine at_iinc (i := 2) (n := 1) (lc' := [(0, va_rf (some t)), (1, va_rf (some b2)), (2, .int (l2 + (1 : Int32)))]) (l2 + (1 : Int32)) 2 [1, 2, 0] 143 rfl (by decide +kernel) rfl (by rw [show Int32.ofInt 1 = (1 : Int32) from by decide +kernel]) (by decide +kernel) rfl ?_
    refine at_goto (off := (-85)) 58 (by decide +kernel) (by decide +kernel) ?_
    exact h
set_option maxRecDepth 20000 in
set_option maxHeartbeats 4000000 in
theorem bk_Judge_hear_103 (g : Gc) {lv : Nat} {t : Nat} {l1 : Option Nat} {l2 : Int32} {m : Mm} {Q : Mm → Prop} (h : At g M_Judge_hear (lv + 1) 108 [(0, va_rf (some t)), (1, va_rf (l1)), (2, .int (l2))] [.int ((1 : Int32))] m (QV Q)) : At g M_Judge_hear (lv + 1) 103 [(0, va_rf (some t)), (1, va_rf (l1)), (2, .int (l2))] [] m (QV Q) := by
  refine at_iconst (n := 1) (1 : Int32) 104 rfl (by decide +kernel) (by decide +kernel) ?_
  refine at_goto (off := 4) 108 (by decide +kernel) (by decide +kernel) ?_
  exact h
set_option maxRecDepth 20000 in
set_option maxHeartbeats 4000000 in
theorem bk_Judge_hear_58 (g : Gc) {lv : Nat} {t : Nat} {l1 : Option Nat} {l2 : Int32} {m : Mm} {Q : Mm → Prop} (h : ∃ b1, l1 = some b1 ∧ (mK m b1 = 5 ∧ (if (mI m b1 5) ≤ (l2) then (Q m) else (∃ b5, mR m b1 2 = some b5 ∧ (mK m b5 = 15 ∧ (vp_in l2 (mN m b5) ∧ (∃ b9, mR m b1 3 = some b9 ∧ (mK m b9 = 15 ∧ (vp_in l2 (mN m b9) ∧ (if (mI m b5 l2.toNatClampNeg) = (mI m b9 l2.toNatClampNeg) then (At g M_Judge_hear (lv + 1) 103 [(0, va_rf (some t)), (1, va_rf (some b1)), (2, .int (l2))] [] m (QV Q)) else (vp_in l2 (mN m b5) ∧ (vp_in l2 (mN m b9) ∧ (mK m t = 3 ∧ (CJ g M_Judge_run lv [va_rf (some t), va_rf (some b1), .int (mI m b5 l2.toNatClampNeg), .int (mI m b9 l2.toNatClampNeg)] m (fun x17 m18 => (if (x17) = ((0 : Int64)) then (At g M_Judge_hear (lv + 1) 108 [(0, va_rf (some t)), (1, va_rf (some b1)), (2, .int (l2))] [.int ((0 : Int32))] m18 (QV Q)) else (At g M_Judge_hear (lv + 1) 103 [(0, va_rf (some t)), (1, va_rf (some b1)), (2, .int (l2))] [] m18 (QV Q)))))))))))))))))) : At g M_Judge_hear (lv + 1) 58 [(0, va_rf (some t)), (1, va_rf (l1)), (2, .int (l2))] [] m (QV Q) := by
  refine at_iload_n (i := 2) 2 59 rfl (by decide +kernel) rfl ?_
  refine at_aload_n (i := 1) 1 60 rfl (by decide +kernel) rfl ?_
  obtain ⟨b1, e2, h⟩ := h
  rw [e2]
  obtain ⟨k3, h⟩ := h
  refine at_get (index := 47) (v := .int (mI m b1 5)) cok4 5 63 rfl (by decide +kernel) k3 (by decide +kernel) tw_396 rfl ?_
  refine at_icmp_ge (off := 83) 146 66 rfl (by decide +kernel) (by decide +kernel) (fun c4 => ?_) (fun c4 => ?_)
  · rw [if_pos c4] at h
    exact at_vret rfl (by decide +kernel) h
  · rw [if_neg c4] at h
    refine at_aload_n (i := 1) 1 67 rfl (by decide +kernel) rfl ?_
    refine at_get (index := 52) (v := va_rf (mR m b1 2)) cok4 2 70 rfl (by decide +kernel) k3 (by decide +kernel) tw_389 rfl ?_
    obtain ⟨b5, e6, h⟩ := h
    rw [e6]
    refine at_iload_n (i := 2) 2 71 rfl (by decide +kernel) rfl ?_
    obtain ⟨k7, h⟩ := h
    obtain ⟨v8, h⟩ := h
    refine at_iald 72 rfl (by decide +kernel) k7 v8 ?_
    refine at_aload_n (i := 1) 1 73 rfl (by decide +kernel) rfl ?_
    refine at_get (index := 56) (v := va_rf (mR m b1 3)) cok4 3 76 rfl (by decide +kernel) k3 (by decide +kernel) tw_391 rfl ?_
    obtain ⟨b9, e10, h⟩ := h
    rw [e10]
    refine at_iload_n (i := 2) 2 77 rfl (by decide +kernel) rfl ?_
    obtain ⟨k11, h⟩ := h
    obtain ⟨v12, h⟩ := h
    refine at_iald 78 rfl (by decide +kernel) k11 v12 ?_
    refine at_icmp_eq (off := 25) 103 81 rfl (by decide +kernel) (by decide +kernel) (fun c13 => ?_) (fun c13 => ?_)
    · rw [if_pos c13] at h
      exact h
    · rw [if_neg c13] at h
      refine at_aload_n (i := 0) 0 82 rfl (by decide +kernel) rfl ?_
      refine at_aload_n (i := 1) 1 83 rfl (by decide +kernel) rfl ?_
      refine at_aload_n (i := 1) 1 84 rfl (by decide +kernel) rfl ?_
      refine at_get (index := 52) (v := va_rf (mR m b1 2)) cok4 2 87 rfl (by decide +kernel) k3 (by decide +kernel) tw_389 rfl ?_
      rw [e6]
      refine at_iload_n (i := 2) 2 88 rfl (by decide +kernel) rfl ?_
      obtain ⟨v14, h⟩ := h
      refine at_iald 89 rfl (by decide +kernel) k7 v14 ?_
      refine at_aload_n (i := 1) 1 90 rfl (by decide +kernel) rfl ?_
      refine at_get (index := 56) (v := va_rf (mR m b1 3)) cok4 3 93 rfl (by decide +kernel) k3 (by decide +kernel) tw_391 rfl ?_
      rw [e10]
      refine at_iload_n (i := 2) 2 94 rfl (by decide +kernel) rfl ?_
      obtain ⟨v15, h⟩ := h
      refine at_iald 95 rfl (by decide +kernel) k11 v15 ?_
      obtain ⟨k16, h⟩ := h
      refine at_callV mb_Judge_run tw_729 tw_17 cok2 k16 (index := 59) tw_727 [va_rf (some b1), .int (mI m b5 l2.toNatClampNeg), .int (mI m b9 l2.toNatClampNeg)] [] rfl rfl (by decide) 98 rfl (by decide +kernel) (Call.toJ (CJ.monoE h (fun x17 m18 h y19 => ?_)))
      have k20 : mK m18 b1 = 5 := y19.k k3 (by decide)
      have k21 : mK m18 b5 = 15 := y19.k k7 (by decide)
      have k22 : mK m18 b9 = 15 := y19.k k11 (by decide)
      have k23 : mK m18 t = 3 := y19.k k16 (by decide)
      have e24 : mR m18 b1 2 = some b5 := y19.r k3 (by decide) rfl e6
      have e25 : mR m18 b1 3 = some b9 := y19.r k3 (by decide) rfl e10
      refine at_lconst (n := 0) (0 : Int64) 99 rfl (by decide +kernel) (by decide +kernel) ?_
      refine at_lif_eq (off := 7) 100 107 103 rfl rfl (by decide +kernel) (by decide +kernel) (by decide +kernel) (fun c26 => ?_) (fun c26 => ?_)
      · rw [if_pos c26] at h
        refine at_iconst (n := 0) (0 : Int32) 108 rfl (by decide +kernel) (by decide +kernel) ?_
        exact h
      · rw [if_neg c26] at h
        exact h
set_option maxRecDepth 20000 in
set_option maxHeartbeats 4000000 in
theorem bk_Judge_hear_32 (g : Gc) {lv : Nat} {t : Nat} {l1 : Option Nat} {l2 : Int32} {m : Mm} {Q : Mm → Prop} (h : if ((8 : Int32)) ≤ (l2) then (if (l1 : Option Nat) = none then (Q m) else (At g M_Judge_hear (lv + 1) 58 [(0, va_rf (some t)), (1, va_rf (l1)), (2, .int ((0 : Int32)))] [] m (QV Q))) else (mK m t = 3 ∧ (∃ b4, mR m t 2 = some b4 ∧ (mK m b4 = 17 ∧ (vp_in l2 (mN m b4) ∧ (∀ m8, m8 = sI m b4 l2.toNatClampNeg (0 : Int32) → (At g M_Judge_hear (lv + 1) 32 [(0, va_rf (some t)), (1, va_rf (l1)), (2, .int (l2 + (1 : Int32)))] [] m8 (QV Q)))))))) : At g M_Judge_hear (lv + 1) 32 [(0, va_rf (some t)), (1, va_rf (l1)), (2, .int (l2))] [] m (QV Q) := by
  refine at_iload_n (i := 2) 2 33 rfl (by decide +kernel) rfl ?_
  refine at_bipush (n := 8) (8 : Int32) 35 rfl (by decide +kernel) (by decide +kernel) ?_
  refine at_icmp_ge (off := 16) 51 38 rfl (by decide +kernel) (by decide +kernel) (fun c1 => ?_) (fun c1 => ?_)
  · rw [if_pos c1] at h
    refine at_aload_n (i := 1) 1 52 rfl (by decide +kernel) rfl ?_
    refine at_ifnonnull (off := 4) 56 55 rfl (by decide +kernel) (by decide +kernel) (fun c2 => ?_) (fun c2 => ?_)
    · rw [if_neg c2] at h
      refine at_iconst (n := 0) (0 : Int32) 57 rfl (by decide +kernel) (by decide +kernel) ?_
      refine at_istore_n (i := 2) (lc' := [(0, va_rf (some t)), (1, va_rf (l1)), (2, .int ((0 : Int32)))]) [1, 2, 0] 58 rfl (by decide +kernel) (by decide +kernel) (by generalize l1 = rr; cases rr <;> rfl) ?_
      exact h
    · rw [if_pos c2] at h
      exact at_vret rfl (by decide +kernel) h
  · rw [if_neg c1] at h
    refine at_aload_n (i := 0) 0 39 rfl (by decide +kernel) rfl ?_
    obtain ⟨k3, h⟩ := h
    refine at_get (index := 18) (v := va_rf (mR m t 2)) cok2 2 42 rfl (by decide +kernel) k3 (by decide +kernel) tw_170 rfl ?_
    obtain ⟨b4, e5, h⟩ := h
    rw [e5]
    refine at_iload_n (i := 2) 2 43 rfl (by decide +kernel) rfl ?_
    refine at_iconst (n := 0) (0 : Int32) 44 rfl (by decide +kernel) (by decide +kernel) ?_
    obtain ⟨k6, h⟩ := h
    obtain ⟨v7, h⟩ := h
    refine at_zast 45 rfl (by decide +kernel) k6 v7 (Or.inl rfl) (fun m8 e9 => ?_)
    replace h := h m8 e9
    have x10 : Ext m m8 := by rw [e9]; exact Ext.sI _ _ _ _
    have k11 : mK m8 t = 3 := x10.k k3 (by decide)
    have k12 : mK m8 b4 = 17 := x10.k k6 (by decide)
    have e13 : mR m8 t 2 = some b4 := x10.r k3 (by decide) rfl e5
    refine at_iinc (i := 2) (n := 1) (lc' := [(0, va_rf (some t)), (1, va_rf (l1)), (2, .int (l2 + (1 : Int32)))]) (l2 + (1 : Int32)) 2 [1, 2, 0] 48 rfl (by decide +kernel) rfl (by rw [show Int32.ofInt 1 = (1 : Int32) from by decide +kernel]) (by decide +kernel) (by generalize l1 = rr; cases rr <;> rfl) ?_
    refine at_goto (off := (-16)) 32 (by decide +kernel) (by decide +kernel) ?_
    exact h
set_option maxRecDepth 20000 in
set_option maxHeartbeats 4000000 in
theorem en_Judge_hear (g : Gc) {lv : Nat} {t : Nat} {l1 : Option Nat} {m : Mm} {Q : Mm → Prop} (h : mK m t = 3 ∧ (∀ m2, m2 = sI m t 3 (0 : Int32) → (∀ m6, m6 = sI m2 t 4 (0 : Int32) → (∀ m10, m10 = sI m6 t 5 (0 : Int32) → (∀ m14, m14 = sL m10 t 8 (0 : Int64) → (∀ m18, m18 = sL m14 t 7 (0 : Int64) → (∀ m22, m22 = sI m18 t 6 (-1 : Int32) → (At g M_Judge_hear (lv + 1) 32 [(0, va_rf (some t)), (1, va_rf (l1)), (2, .int ((0 : Int32)))] [] m22 (QV Q))))))))) : CV g M_Judge_hear (lv + 1) [va_rf (some t), va_rf (l1)] m Q := by
  refine Call.of (by decide +kernel) (by simp [lg_sl, va_rf_cat, cat_int, cat_long, M_Judge_hear]) ?_
  rw [show lv_args 0 [va_rf (some t), va_rf (l1)] = [(0, va_rf (some t)), (1, va_rf (l1))] from by simp [lv_args, va_rf_cat, cat_int, cat_long]]
  refine at_aload_n (i := 0) 0 1 rfl (by decide +kernel) rfl ?_
  refine at_iconst (n := 0) (0 : Int32) 2 rfl (by decide +kernel) (by decide +kernel) ?_
  obtain ⟨k1, h⟩ := h
  refine at_putZ (index := 30) cok2 3 5 rfl (by decide +kernel) k1 (by decide +kernel) tw_171 rfl rfl rfl (Or.inl rfl) (fun m2 e3 => ?_)
  replace h := h m2 e3
  have x4 : Ext m m2 := by rw [e3]; exact Ext.sI _ _ _ _
  have k5 : mK m2 t = 3 := x4.k k1 (by decide)
  refine at_aload_n (i := 0) 0 6 rfl (by decide +kernel) rfl ?_
  refine at_iconst (n := 0) (0 : Int32) 7 rfl (by decide +kernel) (by decide +kernel) ?_
  refine at_putZ (index := 34) cok2 4 10 rfl (by decide +kernel) k5 (by decide +kernel) tw_172 rfl rfl rfl (Or.inl rfl) (fun m6 e7 => ?_)
  replace h := h m6 e7
  have x8 : Ext m2 m6 := by rw [e7]; exact Ext.sI _ _ _ _
  have k9 : mK m6 t = 3 := x8.k k5 (by decide)
  refine at_aload_n (i := 0) 0 11 rfl (by decide +kernel) rfl ?_
  refine at_iconst (n := 0) (0 : Int32) 12 rfl (by decide +kernel) (by decide +kernel) ?_
  refine at_putI (index := 37) cok2 5 15 rfl (by decide +kernel) k9 (by decide +kernel) tw_173 rfl rfl rfl (fun m10 e11 => ?_)
  replace h := h m10 e11
  have x12 : Ext m6 m10 := by rw [e11]; exact Ext.sI _ _ _ _
  have k13 : mK m10 t = 3 := x12.k k9 (by decide)
  refine at_aload_n (i := 0) 0 16 rfl (by decide +kernel) rfl ?_
  refine at_lconst (n := 0) (0 : Int64) 17 rfl (by decide +kernel) (by decide +kernel) ?_
  refine at_putJ (index := 41) cok2 8 20 rfl (by decide +kernel) k13 (by decide +kernel) tw_178 rfl rfl rfl (fun m14 e15 => ?_)
  replace h := h m14 e15
  have x16 : Ext m10 m14 := by rw [e15]; exact Ext.sL _ _ _ _
  have k17 : mK m14 t = 3 := x16.k k13 (by decide)
  refine at_aload_n (i := 0) 0 21 rfl (by decide +kernel) rfl ?_
  refine at_lconst (n := 0) (0 : Int64) 22 rfl (by decide +kernel) (by decide +kernel) ?_
  refine at_putJ (index := 22) cok2 7 25 rfl (by decide +kernel) k17 (by decide +kernel) tw_177 rfl rfl rfl (fun m18 e19 => ?_)
  replace h := h m18 e19
  have x20 : Ext m14 m18 := by rw [e19]; exact Ext.sL _ _ _ _
  have k21 : mK m18 t = 3 := x20.k k17 (by decide)
  refine at_aload_n (i := 0) 0 26 rfl (by decide +kernel) rfl ?_
  refine at_iconst (n := (-1)) (-1 : Int32) 27 rfl (by decide +kernel) (by decide +kernel) ?_
  refine at_putI (index := 44) cok2 6 30 rfl (by decide +kernel) k21 (by decide +kernel) tw_175 rfl rfl rfl (fun m22 e23 => ?_)
  replace h := h m22 e23
  have x24 : Ext m18 m22 := by rw [e23]; exact Ext.sI _ _ _ _
  have k25 : mK m22 t = 3 := x24.k k21 (by decide)
  refine at_iconst (n := 0) (0 : Int32) 31 rfl (by decide +kernel) (by decide +kernel) ?_
  refine at_istore_n (i := 2) (lc' := [(0, va_rf (some t)), (1, va_rf (l1)), (2, .int ((0 : Int32)))]) [1, 2, 0] 32 rfl (by decide +kernel) (by decide +kernel) (by generalize l1 = rr; cases rr <;> rfl) ?_
  exact h
set_option maxRecDepth 20000 in
set_option maxHeartbeats 4000000 in
theorem en_Judge_obey (g : Gc) {lv : Nat} {t : Nat} {l1 : Int32} {l2 : Int64} {m : Mm} {Q : Mm → Prop} (h : if l1 = (14 : Int32) then (mK m t = 3 ∧ (if (mI m t 3) = 0 then (CJ g M_SL_cutTo lv [.long (l2), .long ((0 : Int64)), .long ((100 : Int64))] m (fun x5 m6 => (∀ m9, m9 = sI m6 t 5 x5.toInt32 → (∀ m13, m13 = sI m9 t 3 (1 : Int32) → (Q m13))))) else (∀ m17, m17 = sI m t 5 (mI m t 5) → (∀ m21, m21 = sI m17 t 3 (1 : Int32) → (Q m21))))) else (if l1 = (15 : Int32) then (mK m t = 3 ∧ (if (mI m t 4) = 0 then (∃ b28, mR m t 0 = some b28 ∧ (mK m b28 = 16 ∧ (vp_in (1 : Int32) (mN m b28) ∧ (CJ g M_SL_cutTo lv [.long (l2), .long ((0 : Int64)), .long (mL m b28 (1 : Int32).toNatClampNeg)] m (fun x32 m33 => (∀ m38, m38 = sL m33 t 8 x32 → (∀ m44, m44 = sI m38 t 4 (1 : Int32) → (Q m44)))))))) else (∀ m50, m50 = sL m t 8 (mL m t 8) → (∀ m54, m54 = sI m50 t 4 (1 : Int32) → (Q m54))))) else (if l1 = (16 : Int32) then (if (l2) < ((0 : Int64)) then (Q m) else (if ((8 : Int64)) ≤ (l2) then (Q m) else (mK m t = 3 ∧ (∃ b62, mR m t 2 = some b62 ∧ (mK m b62 = 17 ∧ (vp_in l2.toInt32 (mN m b62) ∧ (∀ m66, m66 = sI m b62 l2.toInt32.toNatClampNeg (1 : Int32) → (Q m66)))))))) else (if l1 = (17 : Int32) then (mK m t = 3 ∧ (∀ m74, m74 = sL m t 7 (lmx (mL m t 7) l2) → (Q m74))) else (mK m t = 3 ∧ (if (mI m t 6) = ((-1 : Int32)) then (∀ m84, m84 = sI m t 6 l2.toInt32 → (Q m84)) else (∀ m80, m80 = sI m t 6 (imn (mI m t 6) l2.toInt32) → (Q m80)))))))) : CV g M_Judge_obey (lv + 1) [va_rf (some t), .int (l1), .long (l2)] m Q := by
  refine Call.of (by decide +kernel) (Nat.le_of_ble_eq_true rfl) ?_
  show At g M_Judge_obey (lv + 1) 0 [(0, va_rf (some t)), (1, .int (l1)), (2, .long (l2))] [] m (QV Q)
  refine at_iload_n (i := 1) 1 1 rfl (by decide +kernel) rfl ?_
  by_cases c2 : l1 = (14 : Int32)
  · rw [if_pos c2] at h
    have w1 : l1.toInt = 14 := by rw [c2]; decide +kernel
    refine at_tabIn (dflt := 143) (lo := 14) (hi := 17) (offs := #[31, 66, 103, 128]) (len := 31) (off := 31) 32 (by decide +kernel) (by rw [w1]; decide) (by rw [w1]; decide) (by rw [w1]; decide +kernel) (by decide +kernel) ?_
    refine at_aload_n (i := 0) 0 33 rfl (by decide +kernel) rfl ?_
    refine at_aload_n (i := 0) 0 34 rfl (by decide +kernel) rfl ?_
    obtain ⟨k3, h⟩ := h
    refine at_get (index := 30) (v := .int (mI m t 3)) cok2 3 37 rfl (by decide +kernel) k3 (by decide +kernel) tw_171 rfl ?_
    refine at_if_eq (off := 10) 47 40 rfl (by decide +kernel) (by decide +kernel) (fun c4 => ?_) (fun c4 => ?_)
    · rw [if_pos c4] at h
      refine at_lload_n (i := 2) 2 48 rfl (by decide +kernel) rfl ?_
      refine at_lconst (n := 0) (0 : Int64) 49 rfl (by decide +kernel) (by decide +kernel) ?_
      refine at_ldc2 (index := 73) (100 : Int64) 52 rfl (by decide +kernel) tw_739 ?_
      refine at_callSN mb_SL_cutTo tw_741 (index := 75) (host := "SurplusLand") (by decide +kernel) [.long (l2), .long ((0 : Int64)), .long ((100 : Int64))] [va_rf (some t)] rfl rfl (by simp [va_rf_cat, cat_int, cat_long]) 55 rfl (by decide +kernel) (Call.toJ (CJ.monoE h (fun x5 m6 h y7 => ?_)))
      have k8 : mK m6 t = 3 := y7.k k3 (by decide)
      refine at_l2i 56 rfl (by decide +kernel) ?_
      refine at_putI (index := 37) cok2 5 59 rfl (by decide +kernel) k8 (by decide +kernel) tw_173 rfl rfl rfl (fun m9 e10 => ?_)
      replace h := h m9 e10
      have x11 : Ext m6 m9 := by rw [e10]; exact Ext.sI _ _ _ _
      have k12 : mK m9 t = 3 := x11.k k8 (by decide)
      refine at_aload_n (i := 0) 0 60 rfl (by decide +kernel) rfl ?_
      refine at_iconst (n := 1) (1 : Int32) 61 rfl (by decide +kernel) (by decide +kernel) ?_
      refine at_putZ (index := 30) cok2 3 64 rfl (by decide +kernel) k12 (by decide +kernel) tw_171 rfl rfl rfl (Or.inr rfl) (fun m13 e14 => ?_)
      replace h := h m13 e14
      have x15 : Ext m9 m13 := by rw [e14]; exact Ext.sI _ _ _ _
      have k16 : mK m13 t = 3 := x15.k k12 (by decide)
      refine at_goto (off := 106) 170 (by decide +kernel) (by decide +kernel) ?_
      exact at_vret rfl (by decide +kernel) h
    · rw [if_neg c4] at h
      refine at_aload_n (i := 0) 0 41 rfl (by decide +kernel) rfl ?_
      refine at_get (index := 37) (v := .int (mI m t 5)) cok2 5 44 rfl (by decide +kernel) k3 (by decide +kernel) tw_173 rfl ?_
      refine at_goto (off := 12) 56 (by decide +kernel) (by decide +kernel) ?_
      refine at_putI (index := 37) cok2 5 59 rfl (by decide +kernel) k3 (by decide +kernel) tw_173 rfl rfl rfl (fun m17 e18 => ?_)
      replace h := h m17 e18
      have x19 : Ext m m17 := by rw [e18]; exact Ext.sI _ _ _ _
      have k20 : mK m17 t = 3 := x19.k k3 (by decide)
      refine at_aload_n (i := 0) 0 60 rfl (by decide +kernel) rfl ?_
      refine at_iconst (n := 1) (1 : Int32) 61 rfl (by decide +kernel) (by decide +kernel) ?_
      refine at_putZ (index := 30) cok2 3 64 rfl (by decide +kernel) k20 (by decide +kernel) tw_171 rfl rfl rfl (Or.inr rfl) (fun m21 e22 => ?_)
      replace h := h m21 e22
      have x23 : Ext m17 m21 := by rw [e22]; exact Ext.sI _ _ _ _
      have k24 : mK m21 t = 3 := x23.k k20 (by decide)
      refine at_goto (off := 106) 170 (by decide +kernel) (by decide +kernel) ?_
      exact at_vret rfl (by decide +kernel) h
  rw [if_neg c2] at h
  by_cases c25 : l1 = (15 : Int32)
  · rw [if_pos c25] at h
    have w1 : l1.toInt = 15 := by rw [c25]; decide +kernel
    refine at_tabIn (dflt := 143) (lo := 14) (hi := 17) (offs := #[31, 66, 103, 128]) (len := 31) (off := 66) 67 (by decide +kernel) (by rw [w1]; decide) (by rw [w1]; decide) (by rw [w1]; decide +kernel) (by decide +kernel) ?_
    refine at_aload_n (i := 0) 0 68 rfl (by decide +kernel) rfl ?_
    refine at_aload_n (i := 0) 0 69 rfl (by decide +kernel) rfl ?_
    obtain ⟨k26, h⟩ := h
    refine at_get (index := 34) (v := .int (mI m t 4)) cok2 4 72 rfl (by decide +kernel) k26 (by decide +kernel) tw_172 rfl ?_
    refine at_if_eq (off := 10) 82 75 rfl (by decide +kernel) (by decide +kernel) (fun c27 => ?_) (fun c27 => ?_)
    · rw [if_pos c27] at h
      refine at_lload_n (i := 2) 2 83 rfl (by decide +kernel) rfl ?_
      refine at_lconst (n := 0) (0 : Int64) 84 rfl (by decide +kernel) (by decide +kernel) ?_
      refine at_aload_n (i := 0) 0 85 rfl (by decide +kernel) rfl ?_
      refine at_get (index := 9) (v := va_rf (mR m t 0)) cok2 0 88 rfl (by decide +kernel) k26 (by decide +kernel) tw_167 rfl ?_
      obtain ⟨b28, e29, h⟩ := h
      rw [e29]
      refine at_iconst (n := 1) (1 : Int32) 89 rfl (by decide +kernel) (by decide +kernel) ?_
      obtain ⟨k30, h⟩ := h
      obtain ⟨v31, h⟩ := h
      refine at_lald 90 rfl (by decide +kernel) k30 v31 ?_
      refine at_callSN mb_SL_cutTo tw_741 (index := 75) (host := "SurplusLand") (by decide +kernel) [.long (l2), .long ((0 : Int64)), .long (mL m b28 (1 : Int32).toNatClampNeg)] [va_rf (some t)] rfl rfl (by simp [va_rf_cat, cat_int, cat_long]) 93 rfl (by decide +kernel) (Call.toJ (CJ.monoE h (fun x32 m33 h y34 => ?_)))
      have k35 : mK m33 t = 3 := y34.k k26 (by decide)
      have k36 : mK m33 b28 = 16 := y34.k k30 (by decide)
      have e37 : mR m33 t 0 = some b28 := y34.r k26 (by decide) rfl e29
      refine at_putJ (index := 41) cok2 8 96 rfl (by decide +kernel) k35 (by decide +kernel) tw_178 rfl rfl rfl (fun m38 e39 => ?_)
      replace h := h m38 e39
      have x40 : Ext m33 m38 := by rw [e39]; exact Ext.sL _ _ _ _
      have k41 : mK m38 t = 3 := x40.k k35 (by decide)
      have k42 : mK m38 b28 = 16 := x40.k k36 (by decide)
      have e43 : mR m38 t 0 = some b28 := x40.r k35 (by decide) rfl e37
      refine at_aload_n (i := 0) 0 97 rfl (by decide +kernel) rfl ?_
      refine at_iconst (n := 1) (1 : Int32) 98 rfl (by decide +kernel) (by decide +kernel) ?_
      refine at_putZ (index := 34) cok2 4 101 rfl (by decide +kernel) k41 (by decide +kernel) tw_172 rfl rfl rfl (Or.inr rfl) (fun m44 e45 => ?_)
      replace h := h m44 e45
      have x46 : Ext m38 m44 := by rw [e45]; exact Ext.sI _ _ _ _
      have k47 : mK m44 t = 3 := x46.k k41 (by decide)
      have k48 : mK m44 b28 = 16 := x46.k k42 (by decide)
      have e49 : mR m44 t 0 = some b28 := x46.r k41 (by decide) rfl e43
      refine at_goto (off := 69) 170 (by decide +kernel) (by decide +kernel) ?_
      exact at_vret rfl (by decide +kernel) h
    · rw [if_neg c27] at h
      refine at_aload_n (i := 0) 0 76 rfl (by decide +kernel) rfl ?_
      refine at_get (index := 41) (v := .long (mL m t 8)) cok2 8 79 rfl (by decide +kernel) k26 (by decide +kernel) tw_178 rfl ?_
      refine at_goto (off := 14) 93 (by decide +kernel) (by decide +kernel) ?_
      refine at_putJ (index := 41) cok2 8 96 rfl (by decide +kernel) k26 (by decide +kernel) tw_178 rfl rfl rfl (fun m50 e51 => ?_)
      replace h := h m50 e51
      have x52 : Ext m m50 := by rw [e51]; exact Ext.sL _ _ _ _
      have k53 : mK m50 t = 3 := x52.k k26 (by decide)
      refine at_aload_n (i := 0) 0 97 rfl (by decide +kernel) rfl ?_
      refine at_iconst (n := 1) (1 : Int32) 98 rfl (by decide +kernel) (by decide +kernel) ?_
      refine at_putZ (index := 34) cok2 4 101 rfl (by decide +kernel) k53 (by decide +kernel) tw_172 rfl rfl rfl (Or.inr rfl) (fun m54 e55 => ?_)
      replace h := h m54 e55
      have x56 : Ext m50 m54 := by rw [e55]; exact Ext.sI _ _ _ _
      have k57 : mK m54 t = 3 := x56.k k53 (by decide)
      refine at_goto (off := 69) 170 (by decide +kernel) (by decide +kernel) ?_
      exact at_vret rfl (by decide +kernel) h
  rw [if_neg c25] at h
  by_cases c58 : l1 = (16 : Int32)
  · rw [if_pos c58] at h
    have w1 : l1.toInt = 16 := by rw [c58]; decide +kernel
    refine at_tabIn (dflt := 143) (lo := 14) (hi := 17) (offs := #[31, 66, 103, 128]) (len := 31) (off := 103) 104 (by decide +kernel) (by rw [w1]; decide) (by rw [w1]; decide) (by rw [w1]; decide +kernel) (by decide +kernel) ?_
    refine at_lload_n (i := 2) 2 105 rfl (by decide +kernel) rfl ?_
    refine at_lconst (n := 0) (0 : Int64) 106 rfl (by decide +kernel) (by decide +kernel) ?_
    refine at_lif_lt (off := 63) 107 170 110 rfl rfl (by decide +kernel) (by decide +kernel) (by decide +kernel) (fun c59 => ?_) (fun c59 => ?_)
    · rw [if_pos c59] at h
      exact at_vret rfl (by decide +kernel) h
    · rw [if_neg c59] at h
      refine at_lload_n (i := 2) 2 111 rfl (by decide +kernel) rfl ?_
      refine at_ldc2 (index := 79) (8 : Int64) 114 rfl (by decide +kernel) tw_747 ?_
      refine at_lif_ge (off := 55) 115 170 118 rfl rfl (by decide +kernel) (by decide +kernel) (by decide +kernel) (fun c60 => ?_) (fun c60 => ?_)
      · rw [if_pos c60] at h
        exact at_vret rfl (by decide +kernel) h
      · rw [if_neg c60] at h
        refine at_aload_n (i := 0) 0 119 rfl (by decide +kernel) rfl ?_
        obtain ⟨k61, h⟩ := h
        refine at_get (index := 18) (v := va_rf (mR m t 2)) cok2 2 122 rfl (by decide +kernel) k61 (by decide +kernel) tw_170 rfl ?_
        obtain ⟨b62, e63, h⟩ := h
        rw [e63]
        refine at_lload_n (i := 2) 2 123 rfl (by decide +kernel) rfl ?_
        refine at_l2i 124 rfl (by decide +kernel) ?_
        refine at_iconst (n := 1) (1 : Int32) 125 rfl (by decide +kernel) (by decide +kernel) ?_
        obtain ⟨k64, h⟩ := h
        obtain ⟨v65, h⟩ := h
        refine at_zast 126 rfl (by decide +kernel) k64 v65 (Or.inr rfl) (fun m66 e67 => ?_)
        replace h := h m66 e67
        have x68 : Ext m m66 := by rw [e67]; exact Ext.sI _ _ _ _
        have k69 : mK m66 t = 3 := x68.k k61 (by decide)
        have k70 : mK m66 b62 = 17 := x68.k k64 (by decide)
        have e71 : mR m66 t 2 = some b62 := x68.r k61 (by decide) rfl e63
        refine at_goto (off := 44) 170 (by decide +kernel) (by decide +kernel) ?_
        exact at_vret rfl (by decide +kernel) h
  rw [if_neg c58] at h
  by_cases c72 : l1 = (17 : Int32)
  · rw [if_pos c72] at h
    have w1 : l1.toInt = 17 := by rw [c72]; decide +kernel
    refine at_tabIn (dflt := 143) (lo := 14) (hi := 17) (offs := #[31, 66, 103, 128]) (len := 31) (off := 128) 129 (by decide +kernel) (by rw [w1]; decide) (by rw [w1]; decide) (by rw [w1]; decide +kernel) (by decide +kernel) ?_
    refine at_aload_n (i := 0) 0 130 rfl (by decide +kernel) rfl ?_
    refine at_aload_n (i := 0) 0 131 rfl (by decide +kernel) rfl ?_
    obtain ⟨k73, h⟩ := h
    refine at_get (index := 22) (v := .long (mL m t 7)) cok2 7 134 rfl (by decide +kernel) k73 (by decide +kernel) tw_177 rfl ?_
    refine at_lload_n (i := 2) 2 135 rfl (by decide +kernel) rfl ?_
    refine at_lmx (index := 81) 138 rfl (by decide +kernel) tw_748 (by simp [va_rf_cat, cat_int, cat_long]) ?_
    refine at_putJ (index := 22) cok2 7 141 rfl (by decide +kernel) k73 (by decide +kernel) tw_177 rfl rfl rfl (fun m74 e75 => ?_)
    replace h := h m74 e75
    have x76 : Ext m m74 := by rw [e75]; exact Ext.sL _ _ _ _
    have k77 : mK m74 t = 3 := x76.k k73 (by decide)
    refine at_goto (off := 29) 170 (by decide +kernel) (by decide +kernel) ?_
    exact at_vret rfl (by decide +kernel) h
  rw [if_neg c72] at h
  have c2e : l1.toInt ≠ 14 := fun e => c2 (Int32.toInt_inj.mp (e.trans (by decide +kernel)))
  have c25e : l1.toInt ≠ 15 := fun e => c25 (Int32.toInt_inj.mp (e.trans (by decide +kernel)))
  have c58e : l1.toInt ≠ 16 := fun e => c58 (Int32.toInt_inj.mp (e.trans (by decide +kernel)))
  have c72e : l1.toInt ≠ 17 := fun e => c72 (Int32.toInt_inj.mp (e.trans (by decide +kernel)))
  refine at_tabOut (dflt := 143) (lo := 14) (hi := 17) (offs := #[31, 66, 103, 128]) (len := 31) 144 (by decide +kernel) (by omega) (by decide +kernel) ?_
  refine at_aload_n (i := 0) 0 145 rfl (by decide +kernel) rfl ?_
  refine at_aload_n (i := 0) 0 146 rfl (by decide +kernel) rfl ?_
  obtain ⟨k78, h⟩ := h
  refine at_get (index := 44) (v := .int (mI m t 6)) cok2 6 149 rfl (by decide +kernel) k78 (by decide +kernel) tw_175 rfl ?_
  refine at_iconst (n := (-1)) (-1 : Int32) 150 rfl (by decide +kernel) (by decide +kernel) ?_
  refine at_icmp_ne (off := 8) 158 153 rfl (by decide +kernel) (by decide +kernel) (fun c79 => ?_) (fun c79 => ?_)
  · rw [if_neg c79] at h
    refine at_aload_n (i := 0) 0 159 rfl (by decide +kernel) rfl ?_
    refine at_get (index := 44) (v := .int (mI m t 6)) cok2 6 162 rfl (by decide +kernel) k78 (by decide +kernel) tw_175 rfl ?_
    refine at_lload_n (i := 2) 2 163 rfl (by decide +kernel) rfl ?_
    refine at_l2i 164 rfl (by decide +kernel) ?_
    refine at_imn (index := 87) 167 rfl (by decide +kernel) tw_749 (by simp [va_rf_cat, cat_int, cat_long]) ?_
    refine at_putI (index := 44) cok2 6 170 rfl (by decide +kernel) k78 (by decide +kernel) tw_175 rfl rfl rfl (fun m80 e81 => ?_)
    replace h := h m80 e81
    have x82 : Ext m m80 := by rw [e81]; exact Ext.sI _ _ _ _
    have k83 : mK m80 t = 3 := x82.k k78 (by decide)
    exact at_vret rfl (by decide +kernel) h
  · rw [if_pos c79] at h
    refine at_lload_n (i := 2) 2 154 rfl (by decide +kernel) rfl ?_
    refine at_l2i 155 rfl (by decide +kernel) ?_
    refine at_goto (off := 12) 167 (by decide +kernel) (by decide +kernel) ?_
    refine at_putI (index := 44) cok2 6 170 rfl (by decide +kernel) k78 (by decide +kernel) tw_175 rfl rfl rfl (fun m84 e85 => ?_)
    replace h := h m84 e85
    have x86 : Ext m m84 := by rw [e85]; exact Ext.sI _ _ _ _
    have k87 : mK m84 t = 3 := x86.k k78 (by decide)
    exact at_vret rfl (by decide +kernel) h
set_option maxRecDepth 20000 in
set_option maxHeartbeats 4000000 in
theorem bk_Judge_run_43 (g : Gc) {lv : Nat} {t : Nat} {l1 : Option Nat} {l3 : Int32} {l4 : Int32} {l5 : Int32} {l6 : Int32} {l7 : Int32} {m : Mm} {Q : Int64 → Mm → Prop} (h : if ((32 : Int32)) ≤ (l4) then (At g M_Judge_run (lv + 1) 6 [(0, va_rf (some t)), (1, va_rf (l1)), (3, .int (l3)), (4, .int (l4)), (5, .int (l5 + (1 : Int32)))] [] m (QJ Q)) else (mK m t = 3 ∧ (∃ b3, mR m t 1 = some b3 ∧ (if (l7) = 0 then (mK m b3 = 16 ∧ (vp_in l4 (mN m b3) ∧ (∀ m8, m8 = sL m b3 l4.toNatClampNeg l6.toInt64 → (At g M_Judge_run (lv + 1) 6 [(0, va_rf (some t)), (1, va_rf (l1)), (3, .int (l3)), (4, .int (l4 + (1 : Int32))), (5, .int (l5 + (1 : Int32)))] [] m8 (QJ Q))))) else (∃ b14, mR m t 0 = some b14 ∧ (mK m b14 = 16 ∧ (vp_in ((-l6) - (21 : Int32)) (mN m b14) ∧ (mK m b3 = 16 ∧ (vp_in l4 (mN m b3) ∧ (∀ m20, m20 = sL m b3 l4.toNatClampNeg (mL m b14 ((-l6) - (21 : Int32)).toNatClampNeg) → (At g M_Judge_run (lv + 1) 6 [(0, va_rf (some t)), (1, va_rf (l1)), (3, .int (l3)), (4, .int (l4 + (1 : Int32))), (5, .int (l5 + (1 : Int32)))] [] m20 (QJ Q)))))))))))) : At g M_Judge_run (lv + 1) 43 [(0, va_rf (some t)), (1, va_rf (l1)), (3, .int (l3)), (4, .int (l4)), (5, .int (l5)), (6, .int (l6)), (7, .int (l7))] [] m (QJ Q) := by
  refine at_iload (i := 4) 3 45 rfl (by decide +kernel) rfl ?_
  refine at_bipush (n := 32) (32 : Int32) 47 rfl (by decide +kernel) (by decide +kernel) ?_
  refine at_icmp_ge (off := 80) 127 50 rfl (by decide +kernel) (by decide +kernel) (fun c1 => ?_) (fun c1 => ?_)
  · rw [if_pos c1] at h
    refine at_iinc (i := 5) (n := 1) (lc' := [(0, va_rf (some t)), (1, va_rf (l1)), (3, .int (l3)), (4, .int (l4)), (5, .int (l5 + (1 : Int32)))]) (l5 + (1 : Int32)) 4 [1, 2, 3, 4, 0] 130 rfl (by decide +kernel) rfl (by rw [show Int32.ofInt 1 = (1 : Int32) from by decide +kernel]) (by decide +kernel) rfl ?_
    refine at_goto (off := (-124)) 6 (by decide +kernel) (by decide +kernel) ?_
    exact h
  · rw [if_neg c1] at h
    refine at_aload_n (i := 0) 0 51 rfl (by decide +kernel) rfl ?_
    obtain ⟨k2, h⟩ := h
    refine at_get (index := 15) (v := va_rf (mR m t 1)) cok2 1 54 rfl (by decide +kernel) k2 (by decide +kernel) tw_169 rfl ?_
    obtain ⟨b3, e4, h⟩ := h
    rw [e4]
    refine at_iload (i := 4) 3 56 rfl (by decide +kernel) rfl ?_
    refine at_iload (i := 7) 6 58 rfl (by decide +kernel) rfl ?_
    refine at_if_eq (off := 17) 75 61 rfl (by decide +kernel) (by decide +kernel) (fun c5 => ?_) (fun c5 => ?_)
    · rw [if_pos c5] at h
      refine at_iload (i := 6) 5 77 rfl (by decide +kernel) rfl ?_
      refine at_i2l 78 rfl (by decide +kernel) ?_
      obtain ⟨k6, h⟩ := h
      obtain ⟨v7, h⟩ := h
      refine at_last 79 rfl (by decide +kernel) k6 v7 (fun m8 e9 => ?_)
      replace h := h m8 e9
      have x10 : Ext m m8 := by rw [e9]; exact Ext.sL _ _ _ _
      have k11 : mK m8 t = 3 := x10.k k2 (by decide)
      have k12 : mK m8 b3 = 16 := x10.k k6 (by decide)
      have e13 : mR m8 t 1 = some b3 := x10.r k2 (by decide) rfl e4
      refine at_iinc (i := 4) (n := 1) (lc' := [(0, va_rf (some t)), (1, va_rf (l1)), (3, .int (l3)), (4, .int (l4 + (1 : Int32))), (5, .int (l5))]) (l4 + (1 : Int32)) 3 [1, 2, 3, 0, 4] 82 rfl (by decide +kernel) rfl (by rw [show Int32.ofInt 1 = (1 : Int32) from by decide +kernel]) (by decide +kernel) rfl ?_
      refine at_goto (off := 45) 127 (by decide +kernel) (by decide +kernel) ?_
      refine at_iinc (i := 5) (n := 1) (lc' := [(0, va_rf (some t)), (1, va_rf (l1)), (3, .int (l3)), (4, .int (l4 + (1 : Int32))), (5, .int (l5 + (1 : Int32)))]) (l5 + (1 : Int32)) 4 [1, 2, 3, 4, 0] 130 rfl (by decide +kernel) rfl (by rw [show Int32.ofInt 1 = (1 : Int32) from by decide +kernel]) (by decide +kernel) rfl ?_
      refine at_goto (off := (-124)) 6 (by decide +kernel) (by decide +kernel) ?_
      exact h
    · rw [if_neg c5] at h
      refine at_aload_n (i := 0) 0 62 rfl (by decide +kernel) rfl ?_
      refine at_get (index := 9) (v := va_rf (mR m t 0)) cok2 0 65 rfl (by decide +kernel) k2 (by decide +kernel) tw_167 rfl ?_
      obtain ⟨b14, e15, h⟩ := h
      rw [e15]
      refine at_iload (i := 6) 5 67 rfl (by decide +kernel) rfl ?_
      refine at_ineg 68 rfl (by decide +kernel) ?_
      refine at_bipush (n := 21) (21 : Int32) 70 rfl (by decide +kernel) (by decide +kernel) ?_
      refine at_isub 71 rfl (by decide +kernel) ?_
      obtain ⟨k16, h⟩ := h
      obtain ⟨v17, h⟩ := h
      refine at_lald 72 rfl (by decide +kernel) k16 v17 ?_
      refine at_goto (off := 6) 78 (by decide +kernel) (by decide +kernel) ?_
      obtain ⟨k18, h⟩ := h
      obtain ⟨v19, h⟩ := h
      refine at_last 79 rfl (by decide +kernel) k18 v19 (fun m20 e21 => ?_)
      replace h := h m20 e21
      have x22 : Ext m m20 := by rw [e21]; exact Ext.sL _ _ _ _
      have k23 : mK m20 t = 3 := x22.k k2 (by decide)
      have k24 : mK m20 b14 = 16 := x22.k k16 (by decide)
      have k25 : mK m20 b3 = 16 := x22.k k18 (by decide)
      have e26 : mR m20 t 1 = some b3 := x22.r k2 (by decide) rfl e4
      have e27 : mR m20 t 0 = some b14 := x22.r k2 (by decide) rfl e15
      refine at_iinc (i := 4) (n := 1) (lc' := [(0, va_rf (some t)), (1, va_rf (l1)), (3, .int (l3)), (4, .int (l4 + (1 : Int32))), (5, .int (l5))]) (l4 + (1 : Int32)) 3 [1, 2, 3, 0, 4] 82 rfl (by decide +kernel) rfl (by rw [show Int32.ofInt 1 = (1 : Int32) from by decide +kernel]) (by decide +kernel) rfl ?_
      refine at_goto (off := 45) 127 (by decide +kernel) (by decide +kernel) ?_
      refine at_iinc (i := 5) (n := 1) (lc' := [(0, va_rf (some t)), (1, va_rf (l1)), (3, .int (l3)), (4, .int (l4 + (1 : Int32))), (5, .int (l5 + (1 : Int32)))]) (l5 + (1 : Int32)) 4 [1, 2, 3, 4, 0] 130 rfl (by decide +kernel) rfl (by rw [show Int32.ofInt 1 = (1 : Int32) from by decide +kernel]) (by decide +kernel) rfl ?_
      refine at_goto (off := (-124)) 6 (by decide +kernel) (by decide +kernel) ?_
      exact h
set_option maxRecDepth 20000 in
set_option maxHeartbeats 4000000 in
theorem bk_Judge_run_6 (g : Gc) {lv : Nat} {t : Nat} {l1 : Option Nat} {l3 : Int32} {l4 : Int32} {l5 : Int32} {m : Mm} {Q : Int64 → Mm → Prop} (h : if (l3) ≤ (l5) then (if (l4) ≤ 0 then (Q (0 : Int64) m) else (mK m t = 3 ∧ (∃ b4, mR m t 1 = some b4 ∧ (mK m b4 = 16 ∧ (vp_in (0 : Int32) (mN m b4) ∧ (Q (mL m b4 (0 : Int32).toNatClampNeg) m)))))) else (∃ b8, l1 = some b8 ∧ (mK m b8 = 5 ∧ (∃ b11, mR m b8 4 = some b11 ∧ (mK m b11 = 15 ∧ (vp_in l5 (mN m b11) ∧ (CI g M_SL_isWithin lv [.int (-(mI m b11 l5.toNatClampNeg)), .int ((21 : Int32)), .int ((26 : Int32))] m (fun x15 m16 => (if 0 ≤ (mI m b11 l5.toNatClampNeg) then (At g M_Judge_run (lv + 1) 43 [(0, va_rf (some t)), (1, va_rf (some b8)), (3, .int (l3)), (4, .int (l4)), (5, .int (l5)), (6, .int (mI m b11 l5.toNatClampNeg)), (7, .int (x15))] [] m16 (QJ Q)) else (if (x15) = 0 then (if (l4) < ((2 : Int32)) then (At g M_Judge_run (lv + 1) 6 [(0, va_rf (some t)), (1, va_rf (some b8)), (3, .int (l3)), (4, .int (l4)), (5, .int (l5 + (1 : Int32)))] [] m16 (QJ Q)) else (mK m16 t = 3 ∧ (∃ b25, mR m16 t 1 = some b25 ∧ (mK m16 b25 = 16 ∧ (vp_in (l4 - (2 : Int32)) (mN m16 b25) ∧ (vp_in (l4 - (1 : Int32)) (mN m16 b25) ∧ (CJ g M_Judge_join lv [.int (-(mI m b11 l5.toNatClampNeg)), .long (mL m16 b25 (l4 - (2 : Int32)).toNatClampNeg), .long (mL m16 b25 (l4 - (1 : Int32)).toNatClampNeg)] m16 (fun x30 m31 => (vp_in (l4 - (2 : Int32)) (mN m31 b25) ∧ (∀ m40, m40 = sL m31 b25 (l4 - (2 : Int32)).toNatClampNeg x30 → (At g M_Judge_run (lv + 1) 6 [(0, va_rf (some t)), (1, va_rf (some b8)), (3, .int (l3)), (4, .int (l4 + (-1 : Int32))), (5, .int (l5 + (1 : Int32)))] [] m40 (QJ Q)))))))))))) else (At g M_Judge_run (lv + 1) 43 [(0, va_rf (some t)), (1, va_rf (some b8)), (3, .int (l3)), (4, .int (l4)), (5, .int (l5)), (6, .int (mI m b11 l5.toNatClampNeg)), (7, .int (x15))] [] m16 (QJ Q)))))))))))) : At g M_Judge_run (lv + 1) 6 [(0, va_rf (some t)), (1, va_rf (l1)), (3, .int (l3)), (4, .int (l4)), (5, .int (l5))] [] m (QJ Q) := by
  refine at_iload (i := 5) 4 8 rfl (by decide +kernel) rfl ?_
  refine at_iload_n (i := 3) 2 9 rfl (by decide +kernel) rfl ?_
  refine at_icmp_ge (off := 124) 133 12 rfl (by decide +kernel) (by decide +kernel) (fun c1 => ?_) (fun c1 => ?_)
  · rw [if_pos c1] at h
    refine at_iload (i := 4) 3 135 rfl (by decide +kernel) rfl ?_
    refine at_if_le (off := 12) 147 138 rfl (by decide +kernel) (by decide +kernel) (fun c2 => ?_) (fun c2 => ?_)
    · rw [if_pos c2] at h
      refine at_lconst (n := 0) (0 : Int64) 148 rfl (by decide +kernel) (by decide +kernel) ?_
      exact at_lret rfl (by decide +kernel) h
    · rw [if_neg c2] at h
      refine at_aload_n (i := 0) 0 139 rfl (by decide +kernel) rfl ?_
      obtain ⟨k3, h⟩ := h
      refine at_get (index := 15) (v := va_rf (mR m t 1)) cok2 1 142 rfl (by decide +kernel) k3 (by decide +kernel) tw_169 rfl ?_
      obtain ⟨b4, e5, h⟩ := h
      rw [e5]
      refine at_iconst (n := 0) (0 : Int32) 143 rfl (by decide +kernel) (by decide +kernel) ?_
      obtain ⟨k6, h⟩ := h
      obtain ⟨v7, h⟩ := h
      refine at_lald 144 rfl (by decide +kernel) k6 v7 ?_
      refine at_goto (off := 4) 148 (by decide +kernel) (by decide +kernel) ?_
      exact at_lret rfl (by decide +kernel) h
  · rw [if_neg c1] at h
    refine at_aload_n (i := 1) 1 13 rfl (by decide +kernel) rfl ?_
    obtain ⟨b8, e9, h⟩ := h
    rw [e9]
    obtain ⟨k10, h⟩ := h
    refine at_get (index := 91) (v := va_rf (mR m b8 4)) cok4 4 16 rfl (by decide +kernel) k10 (by decide +kernel) tw_393 rfl ?_
    obtain ⟨b11, e12, h⟩ := h
    rw [e12]
    refine at_iload (i := 5) 4 18 rfl (by decide +kernel) rfl ?_
    obtain ⟨k13, h⟩ := h
    obtain ⟨v14, h⟩ := h
    refine at_iald 19 rfl (by decide +kernel) k13 v14 ?_
    refine at_istore (i := 6) (lc' := [(0, va_rf (some t)), (1, va_rf (some b8)), (3, .int (l3)), (4, .int (l4)), (5, .int (l5)), (6, .int (mI m b11 l5.toNatClampNeg))]) [1, 2, 3, 4, 5, 0] 21 rfl (by decide +kernel) (by decide +kernel) rfl ?_
    refine at_iload (i := 6) 5 23 rfl (by decide +kernel) rfl ?_
    refine at_ineg 24 rfl (by decide +kernel) ?_
    refine at_bipush (n := 21) (21 : Int32) 26 rfl (by decide +kernel) (by decide +kernel) ?_
    refine at_bipush (n := 26) (26 : Int32) 28 rfl (by decide +kernel) (by decide +kernel) ?_
    refine at_callSN mb_SL_isWithin tw_471 (index := 26) (host := "SurplusLand") (by decide +kernel) [.int (-(mI m b11 l5.toNatClampNeg)), .int ((21 : Int32)), .int ((26 : Int32))] [] rfl rfl (by decide) 31 rfl (by decide +kernel) (Call.toI (CI.monoE h (fun x15 m16 h y17 => ?_)))
    have k18 : mK m16 b8 = 5 := y17.k k10 (by decide)
    have k19 : mK m16 b11 = 15 := y17.k k13 (by decide)
    have e20 : mR m16 b8 4 = some b11 := y17.r k10 (by decide) rfl e12
    refine at_istore (i := 7) (lc' := [(0, va_rf (some t)), (1, va_rf (some b8)), (3, .int (l3)), (4, .int (l4)), (5, .int (l5)), (6, .int (mI m b11 l5.toNatClampNeg)), (7, .int (x15))]) [1, 2, 3, 4, 5, 6, 0] 33 rfl (by decide +kernel) (by decide +kernel) rfl ?_
    refine at_iload (i := 6) 5 35 rfl (by decide +kernel) rfl ?_
    refine at_if_ge (off := 8) 43 38 rfl (by decide +kernel) (by decide +kernel) (fun c21 => ?_) (fun c21 => ?_)
    · rw [if_pos c21] at h
      exact h
    · rw [if_neg c21] at h
      refine at_iload (i := 7) 6 40 rfl (by decide +kernel) rfl ?_
      refine at_if_eq (off := 45) 85 43 rfl (by decide +kernel) (by decide +kernel) (fun c22 => ?_) (fun c22 => ?_)
      · rw [if_pos c22] at h
        refine at_iload (i := 4) 3 87 rfl (by decide +kernel) rfl ?_
        refine at_iconst (n := 2) (2 : Int32) 88 rfl (by decide +kernel) (by decide +kernel) ?_
        refine at_icmp_lt (off := 39) 127 91 rfl (by decide +kernel) (by decide +kernel) (fun c23 => ?_) (fun c23 => ?_)
        · rw [if_pos c23] at h
          refine at_iinc (i := 5) (n := 1) (lc' := [(0, va_rf (some t)), (1, va_rf (some b8)), (3, .int (l3)), (4, .int (l4)), (5, .int (l5 + (1 : Int32)))]) (l5 + (1 : Int32)) 4 [1, 2, 3, 4, 0] 130 rfl (by decide +kernel) rfl (by rw [show Int32.ofInt 1 = (1 : Int32) from by decide +kernel]) (by decide +kernel) rfl ?_
          refine at_goto (off := (-124)) 6 (by decide +kernel) (by decide +kernel) ?_
          exact h
        · rw [if_neg c23] at h
          refine at_aload_n (i := 0) 0 92 rfl (by decide +kernel) rfl ?_
          obtain ⟨k24, h⟩ := h
          refine at_get (index := 15) (v := va_rf (mR m16 t 1)) cok2 1 95 rfl (by decide +kernel) k24 (by decide +kernel) tw_169 rfl ?_
          obtain ⟨b25, e26, h⟩ := h
          rw [e26]
          refine at_iload (i := 4) 3 97 rfl (by decide +kernel) rfl ?_
          refine at_iconst (n := 2) (2 : Int32) 98 rfl (by decide +kernel) (by decide +kernel) ?_
          refine at_isub 99 rfl (by decide +kernel) ?_
          refine at_iload (i := 6) 5 101 rfl (by decide +kernel) rfl ?_
          refine at_ineg 102 rfl (by decide +kernel) ?_
          refine at_aload_n (i := 0) 0 103 rfl (by decide +kernel) rfl ?_
          refine at_get (index := 15) (v := va_rf (mR m16 t 1)) cok2 1 106 rfl (by decide +kernel) k24 (by decide +kernel) tw_169 rfl ?_
          rw [e26]
          refine at_iload (i := 4) 3 108 rfl (by decide +kernel) rfl ?_
          refine at_iconst (n := 2) (2 : Int32) 109 rfl (by decide +kernel) (by decide +kernel) ?_
          refine at_isub 110 rfl (by decide +kernel) ?_
          obtain ⟨k27, h⟩ := h
          obtain ⟨v28, h⟩ := h
          refine at_lald 111 rfl (by decide +kernel) k27 v28 ?_
          refine at_aload_n (i := 0) 0 112 rfl (by decide +kernel) rfl ?_
          refine at_get (index := 15) (v := va_rf (mR m16 t 1)) cok2 1 115 rfl (by decide +kernel) k24 (by decide +kernel) tw_169 rfl ?_
          rw [e26]
          refine at_iload (i := 4) 3 117 rfl (by decide +kernel) rfl ?_
          refine at_iconst (n := 1) (1 : Int32) 118 rfl (by decide +kernel) (by decide +kernel) ?_
          refine at_isub 119 rfl (by decide +kernel) ?_
          obtain ⟨v29, h⟩ := h
          refine at_lald 120 rfl (by decide +kernel) k27 v29 ?_
          refine at_callS mb_Judge_join tw_733 (index := 94) tw_732 [.int (-(mI m b11 l5.toNatClampNeg)), .long (mL m16 b25 (l4 - (2 : Int32)).toNatClampNeg), .long (mL m16 b25 (l4 - (1 : Int32)).toNatClampNeg)] [.int (l4 - (2 : Int32)), va_rf (some b25)] rfl rfl (by simp [va_rf_cat, cat_int, cat_long]) 123 rfl (by decide +kernel) (Call.toJ (CJ.monoE h (fun x30 m31 h y32 => ?_)))
          have k33 : mK m31 b8 = 5 := y32.k k18 (by decide)
          have k34 : mK m31 b11 = 15 := y32.k k19 (by decide)
          have k35 : mK m31 t = 3 := y32.k k24 (by decide)
          have k36 : mK m31 b25 = 16 := y32.k k27 (by decide)
          have e37 : mR m31 b8 4 = some b11 := y32.r k18 (by decide) rfl e20
          have e38 : mR m31 t 1 = some b25 := y32.r k24 (by decide) rfl e26
          obtain ⟨v39, h⟩ := h
          refine at_last 124 rfl (by decide +kernel) k36 v39 (fun m40 e41 => ?_)
          replace h := h m40 e41
          have x42 : Ext m31 m40 := by rw [e41]; exact Ext.sL _ _ _ _
          have k43 : mK m40 b8 = 5 := x42.k k33 (by decide)
          have k44 : mK m40 b11 = 15 := x42.k k34 (by decide)
          have k45 : mK m40 t = 3 := x42.k k35 (by decide)
          have k46 : mK m40 b25 = 16 := x42.k k36 (by decide)
          have e47 : mR m40 b8 4 = some b11 := x42.r k33 (by decide) rfl e37
          have e48 : mR m40 t 1 = some b25 := x42.r k35 (by decide) rfl e38
          refine at_iinc (i := 4) (n := (-1)) (lc' := [(0, va_rf (some t)), (1, va_rf (some b8)), (3, .int (l3)), (4, .int (l4 + (-1 : Int32))), (5, .int (l5))]) (l4 + (-1 : Int32)) 3 [1, 2, 3, 0, 4] 127 rfl (by decide +kernel) rfl (by rw [show Int32.ofInt (-1) = (-1 : Int32) from by decide +kernel]) (by decide +kernel) rfl ?_
          refine at_iinc (i := 5) (n := 1) (lc' := [(0, va_rf (some t)), (1, va_rf (some b8)), (3, .int (l3)), (4, .int (l4 + (-1 : Int32))), (5, .int (l5 + (1 : Int32)))]) (l5 + (1 : Int32)) 4 [1, 2, 3, 4, 0] 130 rfl (by decide +kernel) rfl (by rw [show Int32.ofInt 1 = (1 : Int32) from by decide +kernel]) (by decide +kernel) rfl ?_
          refine at_goto (off := (-124)) 6 (by decide +kernel) (by decide +kernel) ?_
          exact h
      · rw [if_neg c22] at h
        exact h
set_option maxRecDepth 20000 in
set_option maxHeartbeats 4000000 in
theorem en_Judge_run (g : Gc) {lv : Nat} {t : Nat} {l1 : Option Nat} {l2 : Int32} {l3 : Int32} {m : Mm} {Q : Int64 → Mm → Prop} (h : At g M_Judge_run (lv + 1) 6 [(0, va_rf (some t)), (1, va_rf (l1)), (3, .int (l3)), (4, .int ((0 : Int32))), (5, .int (l2))] [] m (QJ Q)) : CJ g M_Judge_run (lv + 1) [va_rf (some t), va_rf (l1), .int (l2), .int (l3)] m Q := by
  refine Call.of (by decide +kernel) (by simp [lg_sl, va_rf_cat, cat_int, cat_long, M_Judge_run]) ?_
  rw [show lv_args 0 [va_rf (some t), va_rf (l1), .int (l2), .int (l3)] = [(0, va_rf (some t)), (1, va_rf (l1)), (2, .int (l2)), (3, .int (l3))] from by simp [lv_args, va_rf_cat, cat_int, cat_long]]
  refine at_iconst (n := 0) (0 : Int32) 1 rfl (by decide +kernel) (by decide +kernel) ?_
  refine at_istore (i := 4) (lc' := [(0, va_rf (some t)), (1, va_rf (l1)), (2, .int (l2)), (3, .int (l3)), (4, .int ((0 : Int32)))]) [1, 2, 3, 4, 0] 3 rfl (by decide +kernel) (by decide +kernel) rfl ?_
  refine at_iload_n (i := 2) 2 4 rfl (by decide +kernel) rfl ?_
  refine at_istore (i := 5) (lc' := [(0, va_rf (some t)), (1, va_rf (l1)), (3, .int (l3)), (4, .int ((0 : Int32))), (5, .int (l2))]) [1, 2, 4, 5, 0] 6 rfl (by decide +kernel) (by decide +kernel) rfl ?_
  exact h
set_option maxRecDepth 20000 in
set_option maxHeartbeats 4000000 in
theorem en_Judge_join (g : Gc) {lv : Nat} {l0 : Int32} {l1 : Int64} {l3 : Int64} {m : Mm} {Q : Int64 → Mm → Prop} (h : if l0 = (4 : Int32) then (Q (l1 + l3) m) else (if l0 = (5 : Int32) then (Q (l1 - l3) m) else (if l0 = (6 : Int32) then (Q (l1 * l3) m) else (if l0 = (7 : Int32) then (if (l3) = ((0 : Int64)) then (Q (0 : Int64) m) else (¬ l3 = 0 ∧ (Q (l1 / l3) m))) else (if l0 = (8 : Int32) then (Q (l1 &&& l3) m) else (if l0 = (9 : Int32) then (Q (l1 &&& l3) m) else (if l0 = (10 : Int32) then (if (l3) ≤ (l1) then (Q (0 : Int64) m) else (Q (1 : Int64) m)) else (if l0 = (11 : Int32) then (if (l1) ≤ (l3) then (Q (0 : Int64) m) else (Q (1 : Int64) m)) else (if l0 = (12 : Int32) then (if (l1) = (l3) then (Q (1 : Int64) m) else (Q (0 : Int64) m)) else (Q (l1 &&& l3) m)))))))))) : CJ g M_Judge_join (lv + 1) [.int (l0), .long (l1), .long (l3)] m Q := by
  refine Call.of (by decide +kernel) (Nat.le_of_ble_eq_true rfl) ?_
  show At g M_Judge_join (lv + 1) 0 [(0, .int (l0)), (1, .long (l1)), (3, .long (l3))] [] m (QJ Q)
  refine at_iload_n (i := 0) 0 1 rfl (by decide +kernel) rfl ?_
  by_cases c2 : l0 = (4 : Int32)
  · rw [if_pos c2] at h
    have w1 : l0.toInt = 4 := by rw [c2]; decide +kernel
    refine at_tabIn (dflt := 113) (lo := 4) (hi := 12) (offs := #[51, 55, 59, 63, 113, 113, 77, 89, 101]) (len := 51) (off := 51) 52 (by decide +kernel) (by rw [w1]; decide) (by rw [w1]; decide) (by rw [w1]; decide +kernel) (by decide +kernel) ?_
    refine at_lload_n (i := 1) 1 53 rfl (by decide +kernel) rfl ?_
    refine at_lload_n (i := 3) 2 54 rfl (by decide +kernel) rfl ?_
    refine at_ladd 55 rfl (by decide +kernel) ?_
    exact at_lret rfl (by decide +kernel) h
  rw [if_neg c2] at h
  by_cases c3 : l0 = (5 : Int32)
  · rw [if_pos c3] at h
    have w1 : l0.toInt = 5 := by rw [c3]; decide +kernel
    refine at_tabIn (dflt := 113) (lo := 4) (hi := 12) (offs := #[51, 55, 59, 63, 113, 113, 77, 89, 101]) (len := 51) (off := 55) 56 (by decide +kernel) (by rw [w1]; decide) (by rw [w1]; decide) (by rw [w1]; decide +kernel) (by decide +kernel) ?_
    refine at_lload_n (i := 1) 1 57 rfl (by decide +kernel) rfl ?_
    refine at_lload_n (i := 3) 2 58 rfl (by decide +kernel) rfl ?_
    refine at_lsub 59 rfl (by decide +kernel) ?_
    exact at_lret rfl (by decide +kernel) h
  rw [if_neg c3] at h
  by_cases c4 : l0 = (6 : Int32)
  · rw [if_pos c4] at h
    have w1 : l0.toInt = 6 := by rw [c4]; decide +kernel
    refine at_tabIn (dflt := 113) (lo := 4) (hi := 12) (offs := #[51, 55, 59, 63, 113, 113, 77, 89, 101]) (len := 51) (off := 59) 60 (by decide +kernel) (by rw [w1]; decide) (by rw [w1]; decide) (by rw [w1]; decide +kernel) (by decide +kernel) ?_
    refine at_lload_n (i := 1) 1 61 rfl (by decide +kernel) rfl ?_
    refine at_lload_n (i := 3) 2 62 rfl (by decide +kernel) rfl ?_
    refine at_lmul 63 rfl (by decide +kernel) ?_
    exact at_lret rfl (by decide +kernel) h
  rw [if_neg c4] at h
  by_cases c5 : l0 = (7 : Int32)
  · rw [if_pos c5] at h
    have w1 : l0.toInt = 7 := by rw [c5]; decide +kernel
    refine at_tabIn (dflt := 113) (lo := 4) (hi := 12) (offs := #[51, 55, 59, 63, 113, 113, 77, 89, 101]) (len := 51) (off := 63) 64 (by decide +kernel) (by rw [w1]; decide) (by rw [w1]; decide) (by rw [w1]; decide +kernel) (by decide +kernel) ?_
    refine at_lload_n (i := 3) 2 65 rfl (by decide +kernel) rfl ?_
    refine at_lconst (n := 0) (0 : Int64) 66 rfl (by decide +kernel) (by decide +kernel) ?_
    refine at_lif_ne (off := 7) 67 74 70 rfl rfl (by decide +kernel) (by decide +kernel) (by decide +kernel) (fun c6 => ?_) (fun c6 => ?_)
    · rw [if_neg c6] at h
      refine at_lload_n (i := 1) 1 75 rfl (by decide +kernel) rfl ?_
      refine at_lload_n (i := 3) 2 76 rfl (by decide +kernel) rfl ?_
      obtain ⟨c7, h⟩ := h
      refine at_ldiv 77 rfl (by decide +kernel) c7 ?_
      exact at_lret rfl (by decide +kernel) h
    · rw [if_pos c6] at h
      refine at_lconst (n := 0) (0 : Int64) 71 rfl (by decide +kernel) (by decide +kernel) ?_
      refine at_goto (off := 6) 77 (by decide +kernel) (by decide +kernel) ?_
      exact at_lret rfl (by decide +kernel) h
  rw [if_neg c5] at h
  by_cases c8 : l0 = (8 : Int32)
  · rw [if_pos c8] at h
    have w1 : l0.toInt = 8 := by rw [c8]; decide +kernel
    refine at_tabIn (dflt := 113) (lo := 4) (hi := 12) (offs := #[51, 55, 59, 63, 113, 113, 77, 89, 101]) (len := 51) (off := 113) 114 (by decide +kernel) (by rw [w1]; decide) (by rw [w1]; decide) (by rw [w1]; decide +kernel) (by decide +kernel) ?_
    refine at_lload_n (i := 1) 1 115 rfl (by decide +kernel) rfl ?_
    refine at_lload_n (i := 3) 2 116 rfl (by decide +kernel) rfl ?_
    refine at_land 117 rfl (by decide +kernel) ?_
    exact at_lret rfl (by decide +kernel) h
  rw [if_neg c8] at h
  by_cases c9 : l0 = (9 : Int32)
  · rw [if_pos c9] at h
    have w1 : l0.toInt = 9 := by rw [c9]; decide +kernel
    refine at_tabIn (dflt := 113) (lo := 4) (hi := 12) (offs := #[51, 55, 59, 63, 113, 113, 77, 89, 101]) (len := 51) (off := 113) 114 (by decide +kernel) (by rw [w1]; decide) (by rw [w1]; decide) (by rw [w1]; decide +kernel) (by decide +kernel) ?_
    refine at_lload_n (i := 1) 1 115 rfl (by decide +kernel) rfl ?_
    refine at_lload_n (i := 3) 2 116 rfl (by decide +kernel) rfl ?_
    refine at_land 117 rfl (by decide +kernel) ?_
    exact at_lret rfl (by decide +kernel) h
  rw [if_neg c9] at h
  by_cases c10 : l0 = (10 : Int32)
  · rw [if_pos c10] at h
    have w1 : l0.toInt = 10 := by rw [c10]; decide +kernel
    refine at_tabIn (dflt := 113) (lo := 4) (hi := 12) (offs := #[51, 55, 59, 63, 113, 113, 77, 89, 101]) (len := 51) (off := 77) 78 (by decide +kernel) (by rw [w1]; decide) (by rw [w1]; decide) (by rw [w1]; decide +kernel) (by decide +kernel) ?_
    refine at_lload_n (i := 1) 1 79 rfl (by decide +kernel) rfl ?_
    refine at_lload_n (i := 3) 2 80 rfl (by decide +kernel) rfl ?_
    refine at_lif_ge (off := 7) 81 88 84 rfl rfl (by decide +kernel) (by decide +kernel) (by decide +kernel) (fun c11 => ?_) (fun c11 => ?_)
    · rw [if_pos c11] at h
      refine at_lconst (n := 0) (0 : Int64) 89 rfl (by decide +kernel) (by decide +kernel) ?_
      exact at_lret rfl (by decide +kernel) h
    · rw [if_neg c11] at h
      refine at_lconst (n := 1) (1 : Int64) 85 rfl (by decide +kernel) (by decide +kernel) ?_
      refine at_goto (off := 4) 89 (by decide +kernel) (by decide +kernel) ?_
      exact at_lret rfl (by decide +kernel) h
  rw [if_neg c10] at h
  by_cases c12 : l0 = (11 : Int32)
  · rw [if_pos c12] at h
    have w1 : l0.toInt = 11 := by rw [c12]; decide +kernel
    refine at_tabIn (dflt := 113) (lo := 4) (hi := 12) (offs := #[51, 55, 59, 63, 113, 113, 77, 89, 101]) (len := 51) (off := 89) 90 (by decide +kernel) (by rw [w1]; decide) (by rw [w1]; decide) (by rw [w1]; decide +kernel) (by decide +kernel) ?_
    refine at_lload_n (i := 1) 1 91 rfl (by decide +kernel) rfl ?_
    refine at_lload_n (i := 3) 2 92 rfl (by decide +kernel) rfl ?_
    refine at_lif_le (off := 7) 93 100 96 rfl rfl (by decide +kernel) (by decide +kernel) (by decide +kernel) (fun c13 => ?_) (fun c13 => ?_)
    · rw [if_pos c13] at h
      refine at_lconst (n := 0) (0 : Int64) 101 rfl (by decide +kernel) (by decide +kernel) ?_
      exact at_lret rfl (by decide +kernel) h
    · rw [if_neg c13] at h
      refine at_lconst (n := 1) (1 : Int64) 97 rfl (by decide +kernel) (by decide +kernel) ?_
      refine at_goto (off := 4) 101 (by decide +kernel) (by decide +kernel) ?_
      exact at_lret rfl (by decide +kernel) h
  rw [if_neg c12] at h
  by_cases c14 : l0 = (12 : Int32)
  · rw [if_pos c14] at h
    have w1 : l0.toInt = 12 := by rw [c14]; decide +kernel
    refine at_tabIn (dflt := 113) (lo := 4) (hi := 12) (offs := #[51, 55, 59, 63, 113, 113, 77, 89, 101]) (len := 51) (off := 101) 102 (by decide +kernel) (by rw [w1]; decide) (by rw [w1]; decide) (by rw [w1]; decide +kernel) (by decide +kernel) ?_
    refine at_lload_n (i := 1) 1 103 rfl (by decide +kernel) rfl ?_
    refine at_lload_n (i := 3) 2 104 rfl (by decide +kernel) rfl ?_
    refine at_lif_ne (off := 7) 105 112 108 rfl rfl (by decide +kernel) (by decide +kernel) (by decide +kernel) (fun c15 => ?_) (fun c15 => ?_)
    · rw [if_neg c15] at h
      refine at_lconst (n := 0) (0 : Int64) 113 rfl (by decide +kernel) (by decide +kernel) ?_
      exact at_lret rfl (by decide +kernel) h
    · rw [if_pos c15] at h
      refine at_lconst (n := 1) (1 : Int64) 109 rfl (by decide +kernel) (by decide +kernel) ?_
      refine at_goto (off := 4) 113 (by decide +kernel) (by decide +kernel) ?_
      exact at_lret rfl (by decide +kernel) h
  rw [if_neg c14] at h
  have c2e : l0.toInt ≠ 4 := fun e => c2 (Int32.toInt_inj.mp (e.trans (by decide +kernel)))
  have c3e : l0.toInt ≠ 5 := fun e => c3 (Int32.toInt_inj.mp (e.trans (by decide +kernel)))
  have c4e : l0.toInt ≠ 6 := fun e => c4 (Int32.toInt_inj.mp (e.trans (by decide +kernel)))
  have c5e : l0.toInt ≠ 7 := fun e => c5 (Int32.toInt_inj.mp (e.trans (by decide +kernel)))
  have c8e : l0.toInt ≠ 8 := fun e => c8 (Int32.toInt_inj.mp (e.trans (by decide +kernel)))
  have c9e : l0.toInt ≠ 9 := fun e => c9 (Int32.toInt_inj.mp (e.trans (by decide +kernel)))
  have c10e : l0.toInt ≠ 10 := fun e => c10 (Int32.toInt_inj.mp (e.trans (by decide +kernel)))
  have c12e : l0.toInt ≠ 11 := fun e => c12 (Int32.toInt_inj.mp (e.trans (by decide +kernel)))
  have c14e : l0.toInt ≠ 12 := fun e => c14 (Int32.toInt_inj.mp (e.trans (by decide +kernel)))
  refine at_tabOut (dflt := 113) (lo := 4) (hi := 12) (offs := #[51, 55, 59, 63, 113, 113, 77, 89, 101]) (len := 51) 114 (by decide +kernel) (by omega) (by decide +kernel) ?_
  refine at_lload_n (i := 1) 1 115 rfl (by decide +kernel) rfl ?_
  refine at_lload_n (i := 3) 2 116 rfl (by decide +kernel) rfl ?_
  refine at_land 117 rfl (by decide +kernel) ?_
  exact at_lret rfl (by decide +kernel) h
set_option maxRecDepth 20000 in
set_option maxHeartbeats 4000000 in
theorem bk_Land_init_107 (g : Gc) {lv : Nat} {t : Nat} {l2 : Int32} {m : Mm} {Q : Mm → Prop} (h : if ((3 : Int32)) ≤ (l2) then (Q m) else (mK m t = 4 ∧ (∃ b3, mR m t 2 = some b3 ∧ (mK m (gz g + mC m) = 0 ∧ (∀ q6 m7, q6 = gz g + mC m → m7 = nw m q6 1 0 3 → (CV g M_Bank_init lv [va_rf (some q6)] m7 (fun m14 => (mK m14 b3 = 18 ∧ (vp_in l2 (mN m14 b3) ∧ (mR m14 b3 l2.toNatClampNeg = none ∧ (∀ m22, m22 = sR m14 b3 l2.toNatClampNeg (some q6) → (At g M_Land_init (lv + 1) 107 [(0, va_rf (some t)), (2, .int (l2 + (1 : Int32)))] [] m22 (QV Q))))))))))))) : At g M_Land_init (lv + 1) 107 [(0, va_rf (some t)), (2, .int (l2))] [] m (QV Q) := by
  refine at_iload_n (i := 2) 1 108 rfl (by decide +kernel) rfl ?_
  refine at_iconst (n := 3) (3 : Int32) 109 rfl (by decide +kernel) (by decide +kernel) ?_
  refine at_icmp_ge (off := 22) 131 112 rfl (by decide +kernel) (by decide +kernel) (fun c1 => ?_) (fun c1 => ?_)
  · rw [if_pos c1] at h
    exact at_vret rfl (by decide +kernel) h
  · rw [if_neg c1] at h
    refine at_aload_n (i := 0) 0 113 rfl (by decide +kernel) rfl ?_
    obtain ⟨k2, h⟩ := h
    refine at_get (index := 19) (v := va_rf (mR m t 2)) cok3 2 116 rfl (by decide +kernel) k2 (by decide +kernel) tw_288 rfl ?_
    obtain ⟨b3, e4, h⟩ := h
    rw [e4]
    refine at_iload_n (i := 2) 1 117 rfl (by decide +kernel) rfl ?_
    obtain ⟨z5, h⟩ := h
    refine at_new (index := 17) cok0 120 rfl z5 (by decide +kernel) tw_141 tw_266 tw_71 (fun q6 m7 e8 e9 => ?_)
    replace h := h q6 m7 e8 e9
    have x10 : Ext m m7 := by rw [e9, e8]; exact Ext.nw z5 _ _ _
    have k11 : mK m7 t = 4 := x10.k k2 (by decide)
    have e12 : mR m7 t 2 = some b3 := x10.r k2 (by decide) rfl e4
    have k13 : mK m7 q6 = 1 := by rw [e9]; exact if_pos rfl
    refine at_dup 121 rfl (by decide +kernel) (va_rf_cat _) ?_
    refine at_callIN mb_Bank_init tw_268 rfl rfl (index := 57) (host := "SurplusLand") (by decide +kernel) [] [va_rf (some q6), .int (l2), va_rf (some b3)] rfl rfl (by simp [va_rf_cat, cat_int, cat_long]) 124 rfl (by decide +kernel) (Call.toV (CV.monoE h (fun m14 h y15 => ?_)))
    have k16 : mK m14 t = 4 := y15.k k11 (by decide)
    have k17 : mK m14 q6 = 1 := y15.k k13 (by decide)
    have e18 : mR m14 t 2 = some b3 := y15.r k11 (by decide) rfl e12
    obtain ⟨k19, h⟩ := h
    obtain ⟨v20, h⟩ := h
    obtain ⟨n21, h⟩ := h
    refine at_aastBank 125 rfl (by decide +kernel) k19 v20 n21 k17 (fun m22 e23 => ?_)
    replace h := h m22 e23
    have x24 : Ext m14 m22 := by rw [e23]; exact Ext.sR _ (Or.inr n21)
    have k25 : mK m22 t = 4 := x24.k k16 (by decide)
    have k26 : mK m22 q6 = 1 := x24.k k17 (by decide)
    have k27 : mK m22 b3 = 18 := x24.k k19 (by decide)
    have e28 : mR m22 t 2 = some b3 := x24.r k16 (by decide) rfl e18
    refine at_iinc (i := 2) (n := 1) (lc' := [(0, va_rf (some t)), (2, .int (l2 + (1 : Int32)))]) (l2 + (1 : Int32)) 1 [1, 0] 128 rfl (by decide +kernel) rfl (by rw [show Int32.ofInt 1 = (1 : Int32) from by decide +kernel]) (by decide +kernel) rfl ?_
    refine at_goto (off := (-21)) 107 (by decide +kernel) (by decide +kernel) ?_
    exact h
set_option maxRecDepth 20000 in
set_option maxHeartbeats 4000000 in
theorem bk_Land_init_80 (g : Gc) {lv : Nat} {t : Nat} {l2 : Int32} {m : Mm} {Q : Mm → Prop} (h : if ((12 : Int32)) ≤ (l2) then (At g M_Land_init (lv + 1) 107 [(0, va_rf (some t)), (2, .int ((0 : Int32)))] [] m (QV Q)) else (mK m t = 4 ∧ (∃ b3, mR m t 1 = some b3 ∧ (mK m (gz g + mC m) = 0 ∧ (∀ q6 m7, q6 = gz g + mC m → m7 = nw m q6 2 0 13 → (CV g M_Grower_init lv [va_rf (some q6)] m7 (fun m14 => (mK m14 b3 = 19 ∧ (vp_in l2 (mN m14 b3) ∧ (mR m14 b3 l2.toNatClampNeg = none ∧ (∀ m22, m22 = sR m14 b3 l2.toNatClampNeg (some q6) → (At g M_Land_init (lv + 1) 80 [(0, va_rf (some t)), (2, .int (l2 + (1 : Int32)))] [] m22 (QV Q))))))))))))) : At g M_Land_init (lv + 1) 80 [(0, va_rf (some t)), (2, .int (l2))] [] m (QV Q) := by
  refine at_iload_n (i := 2) 1 81 rfl (by decide +kernel) rfl ?_
  refine at_bipush (n := 12) (12 : Int32) 83 rfl (by decide +kernel) (by decide +kernel) ?_
  refine at_icmp_ge (off := 22) 105 86 rfl (by decide +kernel) (by decide +kernel) (fun c1 => ?_) (fun c1 => ?_)
  · rw [if_pos c1] at h
    refine at_iconst (n := 0) (0 : Int32) 106 rfl (by decide +kernel) (by decide +kernel) ?_
    refine at_istore_n (i := 2) (lc' := [(0, va_rf (some t)), (2, .int ((0 : Int32)))]) [1, 0] 107 rfl (by decide +kernel) (by decide +kernel) rfl ?_
    exact h
  · rw [if_neg c1] at h
    refine at_aload_n (i := 0) 0 87 rfl (by decide +kernel) rfl ?_
    obtain ⟨k2, h⟩ := h
    refine at_get (index := 11) (v := va_rf (mR m t 1)) cok3 1 90 rfl (by decide +kernel) k2 (by decide +kernel) tw_286 rfl ?_
    obtain ⟨b3, e4, h⟩ := h
    rw [e4]
    refine at_iload_n (i := 2) 1 91 rfl (by decide +kernel) rfl ?_
    obtain ⟨z5, h⟩ := h
    refine at_new (index := 9) cok1 94 rfl z5 (by decide +kernel) tw_139 tw_201 tw_70 (fun q6 m7 e8 e9 => ?_)
    replace h := h q6 m7 e8 e9
    have x10 : Ext m m7 := by rw [e9, e8]; exact Ext.nw z5 _ _ _
    have k11 : mK m7 t = 4 := x10.k k2 (by decide)
    have e12 : mR m7 t 1 = some b3 := x10.r k2 (by decide) rfl e4
    have k13 : mK m7 q6 = 2 := by rw [e9]; exact if_pos rfl
    refine at_dup 95 rfl (by decide +kernel) (va_rf_cat _) ?_
    refine at_callIN mb_Grower_init tw_203 rfl rfl (index := 56) (host := "SurplusLand") (by decide +kernel) [] [va_rf (some q6), .int (l2), va_rf (some b3)] rfl rfl (by simp [va_rf_cat, cat_int, cat_long]) 98 rfl (by decide +kernel) (Call.toV (CV.monoE h (fun m14 h y15 => ?_)))
    have k16 : mK m14 t = 4 := y15.k k11 (by decide)
    have k17 : mK m14 q6 = 2 := y15.k k13 (by decide)
    have e18 : mR m14 t 1 = some b3 := y15.r k11 (by decide) rfl e12
    obtain ⟨k19, h⟩ := h
    obtain ⟨v20, h⟩ := h
    obtain ⟨n21, h⟩ := h
    refine at_aastGrower 99 rfl (by decide +kernel) k19 v20 n21 k17 (fun m22 e23 => ?_)
    replace h := h m22 e23
    have x24 : Ext m14 m22 := by rw [e23]; exact Ext.sR _ (Or.inr n21)
    have k25 : mK m22 t = 4 := x24.k k16 (by decide)
    have k26 : mK m22 q6 = 2 := x24.k k17 (by decide)
    have k27 : mK m22 b3 = 19 := x24.k k19 (by decide)
    have e28 : mR m22 t 1 = some b3 := x24.r k16 (by decide) rfl e18
    refine at_iinc (i := 2) (n := 1) (lc' := [(0, va_rf (some t)), (2, .int (l2 + (1 : Int32)))]) (l2 + (1 : Int32)) 1 [1, 0] 102 rfl (by decide +kernel) rfl (by rw [show Int32.ofInt 1 = (1 : Int32) from by decide +kernel]) (by decide +kernel) rfl ?_
    refine at_goto (off := (-22)) 80 (by decide +kernel) (by decide +kernel) ?_
    exact h
set_option maxRecDepth 20000 in
set_option maxHeartbeats 4000000 in
theorem en_Land_init (g : Gc) {lv : Nat} {t : Nat} {l1 : Option Nat} {m : Mm} {Q : Mm → Prop} (h : mK m (gz g + mC m) = 0 ∧ (∀ q2 m3, q2 = gz g + mC m → m3 = nw m q2 19 ((12 : Int32).toNatClampNeg) ((12 : Int32).toNatClampNeg) → (mK m3 t = 4 ∧ (mR m3 t 1 = none ∧ (∀ m10, m10 = sR m3 t 1 (some q2) → (mK m10 (gz g + mC m10) = 0 ∧ (∀ q17 m18, q17 = gz g + mC m10 → m18 = nw m10 q17 18 ((3 : Int32).toNatClampNeg) ((3 : Int32).toNatClampNeg) → (mR m18 t 2 = none ∧ (∀ m27, m27 = sR m18 t 2 (some q17) → (mK m27 (gz g + mC m27) = 0 ∧ (∀ q36 m37, q36 = gz g + mC m27 → m37 = nw m27 q36 9 0 2 → (CV g M_Store_init lv [va_rf (some q36)] m37 (fun m47 => (mR m47 t 3 = none ∧ (∀ m56, m56 = sR m47 t 3 (some q36) → (mK m56 (gz g + mC m56) = 0 ∧ (∀ q67 m68, q67 = gz g + mC m56 → m68 = nw m56 q67 3 0 9 → (CV g M_Judge_init lv [va_rf (some q67)] m68 (fun m80 => (mR m80 t 4 = none ∧ (∀ m91, m91 = sR m80 t 4 (some q67) → (mK m91 (gz g + mC m91) = 0 ∧ (∀ q104 m105, q104 = gz g + mC m91 → m105 = nw m91 q104 15 ((30 : Int32).toNatClampNeg) ((30 : Int32).toNatClampNeg) → (mR m105 t 5 = none ∧ (∀ m120, m120 = sR m105 t 5 (some q104) → (mK m120 (gz g + mC m120) = 0 ∧ (∀ q135 m136, q135 = gz g + mC m120 → m136 = nw m120 q135 15 ((30 : Int32).toNatClampNeg) ((30 : Int32).toNatClampNeg) → (mR m136 t 6 = none ∧ (∀ m153, m153 = sR m136 t 6 (some q135) → (mK m153 (gz g + mC m153) = 0 ∧ (∀ q170 m171, q170 = gz g + mC m153 → m171 = nw m153 q170 16 ((8 : Int32).toNatClampNeg) ((8 : Int32).toNatClampNeg) → (mR m171 t 7 = none ∧ (∀ m190, m190 = sR m171 t 7 (some q170) → (∀ m208, m208 = sI m190 t 10 (100 : Int32) → (mR m208 t 0 = none ∧ (∀ m227, m227 = sR m208 t 0 l1 → (At g M_Land_init (lv + 1) 80 [(0, va_rf (some t)), (2, .int ((0 : Int32)))] [] m227 (QV Q)))))))))))))))))))))))))))))))))))))) : CV g M_Land_init (lv + 1) [va_rf (some t), va_rf (l1)] m Q := by
  refine Call.of (by decide +kernel) (by simp [lg_sl, va_rf_cat, cat_int, cat_long, M_Land_init]) ?_
  rw [show lv_args 0 [va_rf (some t), va_rf (l1)] = [(0, va_rf (some t)), (1, va_rf (l1))] from by simp [lv_args, va_rf_cat, cat_int, cat_long]]
  refine at_aload_n (i := 0) 0 1 rfl (by decide +kernel) rfl ?_
  refine at_objInit 4 rfl (by decide +kernel) tw_138 tw_91 tw_92 (by decide) ?_
  refine at_aload_n (i := 0) 0 5 rfl (by decide +kernel) rfl ?_
  refine at_bipush (n := 12) (12 : Int32) 7 rfl (by decide +kernel) (by decide +kernel) ?_
  obtain ⟨z1, h⟩ := h
  refine at_anewGrower (index := 9) 10 rfl z1 (by decide +kernel) tw_139 (by decide +kernel) (by decide +kernel) (fun q2 m3 e4 e5 => ?_)
  replace h := h q2 m3 e4 e5
  have x6 : Ext m m3 := by rw [e5, e4]; exact Ext.nw z1 _ _ _
  have k7 : mK m3 q2 = 19 := by rw [e5]; exact if_pos rfl
  obtain ⟨k8, h⟩ := h
  obtain ⟨n9, h⟩ := h
  refine at_putRF (index := 11) cok3 1 13 rfl (by decide +kernel) k8 n9 (by decide +kernel) tw_286 rfl rfl rfl rfl (Or.inr ⟨_, rfl⟩) (fun m10 e11 => ?_)
  replace h := h m10 e11
  have x12 : Ext m3 m10 := by rw [e11]; exact Ext.sR _ (Or.inr n9)
  have k13 : mK m10 q2 = 19 := x12.k k7 (by decide)
  have k14 : mK m10 t = 4 := x12.k k8 (by decide)
  have e15 : mR m10 t 1 = some q2 := by rw [e11]; simp [mR, sR, up2]
  refine at_aload_n (i := 0) 0 14 rfl (by decide +kernel) rfl ?_
  refine at_iconst (n := 3) (3 : Int32) 15 rfl (by decide +kernel) (by decide +kernel) ?_
  obtain ⟨z16, h⟩ := h
  refine at_anewBank (index := 17) 18 rfl z16 (by decide +kernel) tw_141 (by decide +kernel) (by decide +kernel) (fun q17 m18 e19 e20 => ?_)
  replace h := h q17 m18 e19 e20
  have x21 : Ext m10 m18 := by rw [e20, e19]; exact Ext.nw z16 _ _ _
  have k22 : mK m18 q2 = 19 := x21.k k13 (by decide)
  have k23 : mK m18 t = 4 := x21.k k14 (by decide)
  have e24 : mR m18 t 1 = some q2 := x21.r k14 (by decide) rfl e15
  have k25 : mK m18 q17 = 18 := by rw [e20]; exact if_pos rfl
  obtain ⟨n26, h⟩ := h
  refine at_putRF (index := 19) cok3 2 21 rfl (by decide +kernel) k23 n26 (by decide +kernel) tw_288 rfl rfl rfl rfl (Or.inr ⟨_, rfl⟩) (fun m27 e28 => ?_)
  replace h := h m27 e28
  have x29 : Ext m18 m27 := by rw [e28]; exact Ext.sR _ (Or.inr n26)
  have k30 : mK m27 q2 = 19 := x29.k k22 (by decide)
  have k31 : mK m27 t = 4 := x29.k k23 (by decide)
  have k32 : mK m27 q17 = 18 := x29.k k25 (by decide)
  have e33 : mR m27 t 1 = some q2 := x29.r k23 (by decide) rfl e24
  have e34 : mR m27 t 2 = some q17 := by rw [e28]; simp [mR, sR, up2]
  refine at_aload_n (i := 0) 0 22 rfl (by decide +kernel) rfl ?_
  obtain ⟨z35, h⟩ := h
  refine at_new (index := 23) cok8 25 rfl z35 (by decide +kernel) tw_143 tw_144 tw_68 (fun q36 m37 e38 e39 => ?_)
  replace h := h q36 m37 e38 e39
  have x40 : Ext m27 m37 := by rw [e39, e38]; exact Ext.nw z35 _ _ _
  have k41 : mK m37 q2 = 19 := x40.k k30 (by decide)
  have k42 : mK m37 t = 4 := x40.k k31 (by decide)
  have k43 : mK m37 q17 = 18 := x40.k k32 (by decide)
  have e44 : mR m37 t 1 = some q2 := x40.r k31 (by decide) rfl e33
  have e45 : mR m37 t 2 = some q17 := x40.r k31 (by decide) rfl e34
  have k46 : mK m37 q36 = 9 := by rw [e39]; exact if_pos rfl
  refine at_dup 26 rfl (by decide +kernel) (va_rf_cat _) ?_
  refine at_callIN mb_Store_init tw_146 rfl rfl (index := 25) (host := "SurplusLand") (by decide +kernel) [] [va_rf (some q36), va_rf (some t)] rfl rfl (by simp [va_rf_cat, cat_int, cat_long]) 29 rfl (by decide +kernel) (Call.toV (CV.monoE h (fun m47 h y48 => ?_)))
  have k49 : mK m47 q2 = 19 := y48.k k41 (by decide)
  have k50 : mK m47 t = 4 := y48.k k42 (by decide)
  have k51 : mK m47 q17 = 18 := y48.k k43 (by decide)
  have k52 : mK m47 q36 = 9 := y48.k k46 (by decide)
  have e53 : mR m47 t 1 = some q2 := y48.r k42 (by decide) rfl e44
  have e54 : mR m47 t 2 = some q17 := y48.r k42 (by decide) rfl e45
  obtain ⟨n55, h⟩ := h
  refine at_putRF (index := 26) cok3 3 32 rfl (by decide +kernel) k50 n55 (by decide +kernel) tw_290 rfl rfl rfl rfl (Or.inl ⟨_, rfl⟩) (fun m56 e57 => ?_)
  replace h := h m56 e57
  have x58 : Ext m47 m56 := by rw [e57]; exact Ext.sR _ (Or.inr n55)
  have k59 : mK m56 q2 = 19 := x58.k k49 (by decide)
  have k60 : mK m56 t = 4 := x58.k k50 (by decide)
  have k61 : mK m56 q17 = 18 := x58.k k51 (by decide)
  have k62 : mK m56 q36 = 9 := x58.k k52 (by decide)
  have e63 : mR m56 t 1 = some q2 := x58.r k50 (by decide) rfl e53
  have e64 : mR m56 t 2 = some q17 := x58.r k50 (by decide) rfl e54
  have e65 : mR m56 t 3 = some q36 := by rw [e57]; simp [mR, sR, up2]
  refine at_aload_n (i := 0) 0 33 rfl (by decide +kernel) rfl ?_
  obtain ⟨z66, h⟩ := h
  refine at_new (index := 30) cok2 36 rfl z66 (by decide +kernel) tw_161 tw_162 tw_69 (fun q67 m68 e69 e70 => ?_)
  replace h := h q67 m68 e69 e70
  have x71 : Ext m56 m68 := by rw [e70, e69]; exact Ext.nw z66 _ _ _
  have k72 : mK m68 q2 = 19 := x71.k k59 (by decide)
  have k73 : mK m68 t = 4 := x71.k k60 (by decide)
  have k74 : mK m68 q17 = 18 := x71.k k61 (by decide)
  have k75 : mK m68 q36 = 9 := x71.k k62 (by decide)
  have e76 : mR m68 t 1 = some q2 := x71.r k60 (by decide) rfl e63
  have e77 : mR m68 t 2 = some q17 := x71.r k60 (by decide) rfl e64
  have e78 : mR m68 t 3 = some q36 := x71.r k60 (by decide) rfl e65
  have k79 : mK m68 q67 = 3 := by rw [e70]; exact if_pos rfl
  refine at_dup 37 rfl (by decide +kernel) (va_rf_cat _) ?_
  refine at_callIN mb_Judge_init tw_164 rfl rfl (index := 32) (host := "SurplusLand") (by decide +kernel) [] [va_rf (some q67), va_rf (some t)] rfl rfl (by simp [va_rf_cat, cat_int, cat_long]) 40 rfl (by decide +kernel) (Call.toV (CV.monoE h (fun m80 h y81 => ?_)))
  have k82 : mK m80 q2 = 19 := y81.k k72 (by decide)
  have k83 : mK m80 t = 4 := y81.k k73 (by decide)
  have k84 : mK m80 q17 = 18 := y81.k k74 (by decide)
  have k85 : mK m80 q36 = 9 := y81.k k75 (by decide)
  have k86 : mK m80 q67 = 3 := y81.k k79 (by decide)
  have e87 : mR m80 t 1 = some q2 := y81.r k73 (by decide) rfl e76
  have e88 : mR m80 t 2 = some q17 := y81.r k73 (by decide) rfl e77
  have e89 : mR m80 t 3 = some q36 := y81.r k73 (by decide) rfl e78
  obtain ⟨n90, h⟩ := h
  refine at_putRF (index := 33) cok3 4 43 rfl (by decide +kernel) k83 n90 (by decide +kernel) tw_292 rfl rfl rfl rfl (Or.inl ⟨_, rfl⟩) (fun m91 e92 => ?_)
  replace h := h m91 e92
  have x93 : Ext m80 m91 := by rw [e92]; exact Ext.sR _ (Or.inr n90)
  have k94 : mK m91 q2 = 19 := x93.k k82 (by decide)
  have k95 : mK m91 t = 4 := x93.k k83 (by decide)
  have k96 : mK m91 q17 = 18 := x93.k k84 (by decide)
  have k97 : mK m91 q36 = 9 := x93.k k85 (by decide)
  have k98 : mK m91 q67 = 3 := x93.k k86 (by decide)
  have e99 : mR m91 t 1 = some q2 := x93.r k83 (by decide) rfl e87
  have e100 : mR m91 t 2 = some q17 := x93.r k83 (by decide) rfl e88
  have e101 : mR m91 t 3 = some q36 := x93.r k83 (by decide) rfl e89
  have e102 : mR m91 t 4 = some q67 := by rw [e92]; simp [mR, sR, up2]
  refine at_aload_n (i := 0) 0 44 rfl (by decide +kernel) rfl ?_
  refine at_bipush (n := 30) (30 : Int32) 46 rfl (by decide +kernel) (by decide +kernel) ?_
  obtain ⟨z103, h⟩ := h
  refine at_newaI 48 rfl z103 (by decide +kernel) tw_265 (by decide +kernel) (by decide +kernel) (fun q104 m105 e106 e107 => ?_)
  replace h := h q104 m105 e106 e107
  have x108 : Ext m91 m105 := by rw [e107, e106]; exact Ext.nw z103 _ _ _
  have k109 : mK m105 q2 = 19 := x108.k k94 (by decide)
  have k110 : mK m105 t = 4 := x108.k k95 (by decide)
  have k111 : mK m105 q17 = 18 := x108.k k96 (by decide)
  have k112 : mK m105 q36 = 9 := x108.k k97 (by decide)
  have k113 : mK m105 q67 = 3 := x108.k k98 (by decide)
  have e114 : mR m105 t 1 = some q2 := x108.r k95 (by decide) rfl e99
  have e115 : mR m105 t 2 = some q17 := x108.r k95 (by decide) rfl e100
  have e116 : mR m105 t 3 = some q36 := x108.r k95 (by decide) rfl e101
  have e117 : mR m105 t 4 = some q67 := x108.r k95 (by decide) rfl e102
  have k118 : mK m105 q104 = 15 := by rw [e107]; exact if_pos rfl
  obtain ⟨n119, h⟩ := h
  refine at_putRF (index := 37) cok3 5 51 rfl (by decide +kernel) k110 n119 (by decide +kernel) tw_293 rfl rfl rfl rfl (Or.inr ⟨_, rfl⟩) (fun m120 e121 => ?_)
  replace h := h m120 e121
  have x122 : Ext m105 m120 := by rw [e121]; exact Ext.sR _ (Or.inr n119)
  have k123 : mK m120 q2 = 19 := x122.k k109 (by decide)
  have k124 : mK m120 t = 4 := x122.k k110 (by decide)
  have k125 : mK m120 q17 = 18 := x122.k k111 (by decide)
  have k126 : mK m120 q36 = 9 := x122.k k112 (by decide)
  have k127 : mK m120 q67 = 3 := x122.k k113 (by decide)
  have k128 : mK m120 q104 = 15 := x122.k k118 (by decide)
  have e129 : mR m120 t 1 = some q2 := x122.r k110 (by decide) rfl e114
  have e130 : mR m120 t 2 = some q17 := x122.r k110 (by decide) rfl e115
  have e131 : mR m120 t 3 = some q36 := x122.r k110 (by decide) rfl e116
  have e132 : mR m120 t 4 = some q67 := x122.r k110 (by decide) rfl e117
  have e133 : mR m120 t 5 = some q104 := by rw [e121]; simp [mR, sR, up2]
  refine at_aload_n (i := 0) 0 52 rfl (by decide +kernel) rfl ?_
  refine at_bipush (n := 30) (30 : Int32) 54 rfl (by decide +kernel) (by decide +kernel) ?_
  obtain ⟨z134, h⟩ := h
  refine at_newaI 56 rfl z134 (by decide +kernel) tw_265 (by decide +kernel) (by decide +kernel) (fun q135 m136 e137 e138 => ?_)
  replace h := h q135 m136 e137 e138
  have x139 : Ext m120 m136 := by rw [e138, e137]; exact Ext.nw z134 _ _ _
  have k140 : mK m136 q2 = 19 := x139.k k123 (by decide)
  have k141 : mK m136 t = 4 := x139.k k124 (by decide)
  have k142 : mK m136 q17 = 18 := x139.k k125 (by decide)
  have k143 : mK m136 q36 = 9 := x139.k k126 (by decide)
  have k144 : mK m136 q67 = 3 := x139.k k127 (by decide)
  have k145 : mK m136 q104 = 15 := x139.k k128 (by decide)
  have e146 : mR m136 t 1 = some q2 := x139.r k124 (by decide) rfl e129
  have e147 : mR m136 t 2 = some q17 := x139.r k124 (by decide) rfl e130
  have e148 : mR m136 t 3 = some q36 := x139.r k124 (by decide) rfl e131
  have e149 : mR m136 t 4 = some q67 := x139.r k124 (by decide) rfl e132
  have e150 : mR m136 t 5 = some q104 := x139.r k124 (by decide) rfl e133
  have k151 : mK m136 q135 = 15 := by rw [e138]; exact if_pos rfl
  obtain ⟨n152, h⟩ := h
  refine at_putRF (index := 41) cok3 6 59 rfl (by decide +kernel) k141 n152 (by decide +kernel) tw_294 rfl rfl rfl rfl (Or.inr ⟨_, rfl⟩) (fun m153 e154 => ?_)
  replace h := h m153 e154
  have x155 : Ext m136 m153 := by rw [e154]; exact Ext.sR _ (Or.inr n152)
  have k156 : mK m153 q2 = 19 := x155.k k140 (by decide)
  have k157 : mK m153 t = 4 := x155.k k141 (by decide)
  have k158 : mK m153 q17 = 18 := x155.k k142 (by decide)
  have k159 : mK m153 q36 = 9 := x155.k k143 (by decide)
  have k160 : mK m153 q67 = 3 := x155.k k144 (by decide)
  have k161 : mK m153 q104 = 15 := x155.k k145 (by decide)
  have k162 : mK m153 q135 = 15 := x155.k k151 (by decide)
  have e163 : mR m153 t 1 = some q2 := x155.r k141 (by decide) rfl e146
  have e164 : mR m153 t 2 = some q17 := x155.r k141 (by decide) rfl e147
  have e165 : mR m153 t 3 = some q36 := x155.r k141 (by decide) rfl e148
  have e166 : mR m153 t 4 = some q67 := x155.r k141 (by decide) rfl e149
  have e167 : mR m153 t 5 = some q104 := x155.r k141 (by decide) rfl e150
  have e168 : mR m153 t 6 = some q135 := by rw [e154]; simp [mR, sR, up2]
  refine at_aload_n (i := 0) 0 60 rfl (by decide +kernel) rfl ?_
  refine at_bipush (n := 8) (8 : Int32) 62 rfl (by decide +kernel) (by decide +kernel) ?_
  obtain ⟨z169, h⟩ := h
  refine at_newaJ 64 rfl z169 (by decide +kernel) tw_199 (by decide +kernel) (by decide +kernel) (fun q170 m171 e172 e173 => ?_)
  replace h := h q170 m171 e172 e173
  have x174 : Ext m153 m171 := by rw [e173, e172]; exact Ext.nw z169 _ _ _
  have k175 : mK m171 q2 = 19 := x174.k k156 (by decide)
  have k176 : mK m171 t = 4 := x174.k k157 (by decide)
  have k177 : mK m171 q17 = 18 := x174.k k158 (by decide)
  have k178 : mK m171 q36 = 9 := x174.k k159 (by decide)
  have k179 : mK m171 q67 = 3 := x174.k k160 (by decide)
  have k180 : mK m171 q104 = 15 := x174.k k161 (by decide)
  have k181 : mK m171 q135 = 15 := x174.k k162 (by decide)
  have e182 : mR m171 t 1 = some q2 := x174.r k157 (by decide) rfl e163
  have e183 : mR m171 t 2 = some q17 := x174.r k157 (by decide) rfl e164
  have e184 : mR m171 t 3 = some q36 := x174.r k157 (by decide) rfl e165
  have e185 : mR m171 t 4 = some q67 := x174.r k157 (by decide) rfl e166
  have e186 : mR m171 t 5 = some q104 := x174.r k157 (by decide) rfl e167
  have e187 : mR m171 t 6 = some q135 := x174.r k157 (by decide) rfl e168
  have k188 : mK m171 q170 = 16 := by rw [e173]; exact if_pos rfl
  obtain ⟨n189, h⟩ := h
  refine at_putRF (index := 44) cok3 7 67 rfl (by decide +kernel) k176 n189 (by decide +kernel) tw_295 rfl rfl rfl rfl (Or.inr ⟨_, rfl⟩) (fun m190 e191 => ?_)
  replace h := h m190 e191
  have x192 : Ext m171 m190 := by rw [e191]; exact Ext.sR _ (Or.inr n189)
  have k193 : mK m190 q2 = 19 := x192.k k175 (by decide)
  have k194 : mK m190 t = 4 := x192.k k176 (by decide)
  have k195 : mK m190 q17 = 18 := x192.k k177 (by decide)
  have k196 : mK m190 q36 = 9 := x192.k k178 (by decide)
  have k197 : mK m190 q67 = 3 := x192.k k179 (by decide)
  have k198 : mK m190 q104 = 15 := x192.k k180 (by decide)
  have k199 : mK m190 q135 = 15 := x192.k k181 (by decide)
  have k200 : mK m190 q170 = 16 := x192.k k188 (by decide)
  have e201 : mR m190 t 1 = some q2 := x192.r k176 (by decide) rfl e182
  have e202 : mR m190 t 2 = some q17 := x192.r k176 (by decide) rfl e183
  have e203 : mR m190 t 3 = some q36 := x192.r k176 (by decide) rfl e184
  have e204 : mR m190 t 4 = some q67 := x192.r k176 (by decide) rfl e185
  have e205 : mR m190 t 5 = some q104 := x192.r k176 (by decide) rfl e186
  have e206 : mR m190 t 6 = some q135 := x192.r k176 (by decide) rfl e187
  have e207 : mR m190 t 7 = some q170 := by rw [e191]; simp [mR, sR, up2]
  refine at_aload_n (i := 0) 0 68 rfl (by decide +kernel) rfl ?_
  refine at_bipush (n := 100) (100 : Int32) 70 rfl (by decide +kernel) (by decide +kernel) ?_
  refine at_putI (index := 48) cok3 10 73 rfl (by decide +kernel) k194 (by decide +kernel) tw_301 rfl rfl rfl (fun m208 e209 => ?_)
  replace h := h m208 e209
  have x210 : Ext m190 m208 := by rw [e209]; exact Ext.sI _ _ _ _
  have k211 : mK m208 q2 = 19 := x210.k k193 (by decide)
  have k212 : mK m208 t = 4 := x210.k k194 (by decide)
  have k213 : mK m208 q17 = 18 := x210.k k195 (by decide)
  have k214 : mK m208 q36 = 9 := x210.k k196 (by decide)
  have k215 : mK m208 q67 = 3 := x210.k k197 (by decide)
  have k216 : mK m208 q104 = 15 := x210.k k198 (by decide)
  have k217 : mK m208 q135 = 15 := x210.k k199 (by decide)
  have k218 : mK m208 q170 = 16 := x210.k k200 (by decide)
  have e219 : mR m208 t 1 = some q2 := x210.r k194 (by decide) rfl e201
  have e220 : mR m208 t 2 = some q17 := x210.r k194 (by decide) rfl e202
  have e221 : mR m208 t 3 = some q36 := x210.r k194 (by decide) rfl e203
  have e222 : mR m208 t 4 = some q67 := x210.r k194 (by decide) rfl e204
  have e223 : mR m208 t 5 = some q104 := x210.r k194 (by decide) rfl e205
  have e224 : mR m208 t 6 = some q135 := x210.r k194 (by decide) rfl e206
  have e225 : mR m208 t 7 = some q170 := x210.r k194 (by decide) rfl e207
  refine at_aload_n (i := 0) 0 74 rfl (by decide +kernel) rfl ?_
  refine at_aload_n (i := 1) 1 75 rfl (by decide +kernel) rfl ?_
  obtain ⟨n226, h⟩ := h
  refine at_putRF (index := 52) cok3 0 78 rfl (by decide +kernel) k212 n226 (by decide +kernel) tw_285 rfl rfl rfl rfl (Or.inl ⟨_, rfl⟩) (fun m227 e228 => ?_)
  replace h := h m227 e228
  have x229 : Ext m208 m227 := by rw [e228]; exact Ext.sR _ (Or.inr n226)
  have k230 : mK m227 q2 = 19 := x229.k k211 (by decide)
  have k231 : mK m227 t = 4 := x229.k k212 (by decide)
  have k232 : mK m227 q17 = 18 := x229.k k213 (by decide)
  have k233 : mK m227 q36 = 9 := x229.k k214 (by decide)
  have k234 : mK m227 q67 = 3 := x229.k k215 (by decide)
  have k235 : mK m227 q104 = 15 := x229.k k216 (by decide)
  have k236 : mK m227 q135 = 15 := x229.k k217 (by decide)
  have k237 : mK m227 q170 = 16 := x229.k k218 (by decide)
  have e238 : mR m227 t 1 = some q2 := x229.r k212 (by decide) rfl e219
  have e239 : mR m227 t 2 = some q17 := x229.r k212 (by decide) rfl e220
  have e240 : mR m227 t 3 = some q36 := x229.r k212 (by decide) rfl e221
  have e241 : mR m227 t 4 = some q67 := x229.r k212 (by decide) rfl e222
  have e242 : mR m227 t 5 = some q104 := x229.r k212 (by decide) rfl e223
  have e243 : mR m227 t 6 = some q135 := x229.r k212 (by decide) rfl e224
  have e244 : mR m227 t 7 = some q170 := x229.r k212 (by decide) rfl e225
  refine at_iconst (n := 0) (0 : Int32) 79 rfl (by decide +kernel) (by decide +kernel) ?_
  refine at_istore_n (i := 2) (lc' := [(0, va_rf (some t)), (2, .int ((0 : Int32)))]) [1, 0] 80 rfl (by decide +kernel) (by decide +kernel) (by generalize l1 = rr; cases rr <;> rfl) ?_
  exact h
set_option maxRecDepth 20000 in
set_option maxHeartbeats 4000000 in
theorem en_Land_hasGrower (g : Gc) {lv : Nat} {t : Nat} {l1 : Int32} {m : Mm} {Q : Int32 → Mm → Prop} (h : if (l1) < 0 then (Q (0 : Int32) m) else (mK m t = 4 ∧ (if (mI m t 8) ≤ (l1) then (Q (0 : Int32) m) else (Q (1 : Int32) m)))) : CI g M_Land_hasGrower (lv + 1) [va_rf (some t), .int (l1)] m Q := by
  refine Call.of (by decide +kernel) (Nat.le_of_ble_eq_true rfl) ?_
  show At g M_Land_hasGrower (lv + 1) 0 [(0, va_rf (some t)), (1, .int (l1))] [] m (QI Q)
  refine at_iload_n (i := 1) 1 1 rfl (by decide +kernel) rfl ?_
  refine at_if_lt (off := 15) 16 4 rfl (by decide +kernel) (by decide +kernel) (fun c1 => ?_) (fun c1 => ?_)
  · rw [if_pos c1] at h
    refine at_iconst (n := 0) (0 : Int32) 17 rfl (by decide +kernel) (by decide +kernel) ?_
    exact at_zret rfl (by decide +kernel) (Or.inl rfl) h
  · rw [if_neg c1] at h
    refine at_iload_n (i := 1) 1 5 rfl (by decide +kernel) rfl ?_
    refine at_aload_n (i := 0) 0 6 rfl (by decide +kernel) rfl ?_
    obtain ⟨k2, h⟩ := h
    refine at_get (index := 58) (v := .int (mI m t 8)) cok3 8 9 rfl (by decide +kernel) k2 (by decide +kernel) tw_297 rfl ?_
    refine at_icmp_ge (off := 7) 16 12 rfl (by decide +kernel) (by decide +kernel) (fun c3 => ?_) (fun c3 => ?_)
    · rw [if_pos c3] at h
      refine at_iconst (n := 0) (0 : Int32) 17 rfl (by decide +kernel) (by decide +kernel) ?_
      exact at_zret rfl (by decide +kernel) (Or.inl rfl) h
    · rw [if_neg c3] at h
      refine at_iconst (n := 1) (1 : Int32) 13 rfl (by decide +kernel) (by decide +kernel) ?_
      refine at_goto (off := 4) 17 (by decide +kernel) (by decide +kernel) ?_
      exact at_zret rfl (by decide +kernel) (Or.inr rfl) h
set_option maxRecDepth 20000 in
set_option maxHeartbeats 4000000 in
theorem en_Land_settle (g : Gc) {lv : Nat} {t : Nat} {l1 : Int32} {l2 : Int32} {m : Mm} {Q : Int32 → Mm → Prop} (h : mK m t = 4 ∧ (if (mI m t 8) < ((12 : Int32)) then (∃ b3, mR m t 1 = some b3 ∧ (mK m b3 = 19 ∧ (vp_in (mI m t 8) (mN m b3) ∧ (∃ b7, mR m b3 (mI m t 8).toNatClampNeg = some b7 ∧ (mK m b7 = 2 ∧ (CV g M_Grower_arrive lv [va_rf (some b7), .int (l1), .int (l2)] m (fun m10 => (∀ m17, m17 = sI m10 t 8 ((mI m10 t 8) + (1 : Int32)) → (Q ((mI m17 t 8) - (1 : Int32)) m17))))))))) else (Q (-1 : Int32) m))) : CI g M_Land_settle (lv + 1) [va_rf (some t), .int (l1), .int (l2)] m Q := by
  refine Call.of (by decide +kernel) (Nat.le_of_ble_eq_true rfl) ?_
  show At g M_Land_settle (lv + 1) 0 [(0, va_rf (some t)), (1, .int (l1)), (2, .int (l2))] [] m (QI Q)
  refine at_aload_n (i := 0) 0 1 rfl (by decide +kernel) rfl ?_
  obtain ⟨k1, h⟩ := h
  refine at_get (index := 58) (v := .int (mI m t 8)) cok3 8 4 rfl (by decide +kernel) k1 (by decide +kernel) tw_297 rfl ?_
  refine at_bipush (n := 12) (12 : Int32) 6 rfl (by decide +kernel) (by decide +kernel) ?_
  refine at_icmp_lt (off := 5) 11 9 rfl (by decide +kernel) (by decide +kernel) (fun c2 => ?_) (fun c2 => ?_)
  · rw [if_pos c2] at h
    refine at_aload_n (i := 0) 0 12 rfl (by decide +kernel) rfl ?_
    refine at_get (index := 11) (v := va_rf (mR m t 1)) cok3 1 15 rfl (by decide +kernel) k1 (by decide +kernel) tw_286 rfl ?_
    obtain ⟨b3, e4, h⟩ := h
    rw [e4]
    refine at_aload_n (i := 0) 0 16 rfl (by decide +kernel) rfl ?_
    refine at_get (index := 58) (v := .int (mI m t 8)) cok3 8 19 rfl (by decide +kernel) k1 (by decide +kernel) tw_297 rfl ?_
    obtain ⟨k5, h⟩ := h
    obtain ⟨v6, h⟩ := h
    refine at_aaldGrower 20 rfl (by decide +kernel) k5 v6 ?_
    refine at_iload_n (i := 1) 1 21 rfl (by decide +kernel) rfl ?_
    refine at_iload_n (i := 2) 2 22 rfl (by decide +kernel) rfl ?_
    obtain ⟨b7, e8, h⟩ := h
    rw [e8]
    obtain ⟨k9, h⟩ := h
    refine at_callV mb_Grower_arrive tw_487 tw_488 cok1 k9 (index := 61) tw_486 [.int (l1), .int (l2)] [] rfl rfl (by decide) 25 rfl (by decide +kernel) (Call.toV (CV.monoE h (fun m10 h y11 => ?_)))
    have k12 : mK m10 t = 4 := y11.k k1 (by decide)
    have k13 : mK m10 b3 = 19 := y11.k k5 (by decide)
    have k14 : mK m10 b7 = 2 := y11.k k9 (by decide)
    have e15 : mR m10 t 1 = some b3 := y11.r k1 (by decide) rfl e4
    have e16 : mR m10 b3 (mI m t 8).toNatClampNeg = some b7 := y11.r k5 (by decide) rfl e8
    refine at_aload_n (i := 0) 0 26 rfl (by decide +kernel) rfl ?_
    refine at_dup 27 rfl (by decide +kernel) (va_rf_cat _) ?_
    refine at_get (index := 58) (v := .int (mI m10 t 8)) cok3 8 30 rfl (by decide +kernel) k12 (by decide +kernel) tw_297 rfl ?_
    refine at_iconst (n := 1) (1 : Int32) 31 rfl (by decide +kernel) (by decide +kernel) ?_
    refine at_iadd 32 rfl (by decide +kernel) ?_
    refine at_putI (index := 58) cok3 8 35 rfl (by decide +kernel) k12 (by decide +kernel) tw_297 rfl rfl rfl (fun m17 e18 => ?_)
    replace h := h m17 e18
    have x19 : Ext m10 m17 := by rw [e18]; exact Ext.sI _ _ _ _
    have k20 : mK m17 t = 4 := x19.k k12 (by decide)
    have k21 : mK m17 b3 = 19 := x19.k k13 (by decide)
    have k22 : mK m17 b7 = 2 := x19.k k14 (by decide)
    have e23 : mR m17 t 1 = some b3 := x19.r k12 (by decide) rfl e15
    have e24 : mR m17 b3 (mI m t 8).toNatClampNeg = some b7 := x19.r k13 (by decide) rfl e16
    refine at_aload_n (i := 0) 0 36 rfl (by decide +kernel) rfl ?_
    refine at_get (index := 58) (v := .int (mI m17 t 8)) cok3 8 39 rfl (by decide +kernel) k20 (by decide +kernel) tw_297 rfl ?_
    refine at_iconst (n := 1) (1 : Int32) 40 rfl (by decide +kernel) (by decide +kernel) ?_
    refine at_isub 41 rfl (by decide +kernel) ?_
    exact at_iret rfl (by decide +kernel) h
  · rw [if_neg c2] at h
    refine at_iconst (n := (-1)) (-1 : Int32) 10 rfl (by decide +kernel) (by decide +kernel) ?_
    exact at_iret rfl (by decide +kernel) h
set_option maxRecDepth 20000 in
set_option maxHeartbeats 4000000 in
theorem en_Land_tellCrop (g : Gc) {lv : Nat} {t : Nat} {l1 : Int32} {l2 : Int32} {m : Mm} {Q : Mm → Prop} (h : mK m t = 4 ∧ (CI g M_Land_hasGrower lv [va_rf (some t), .int (l1)] m (fun x2 m3 => (if (x2) = 0 then (Q m3) else (if ((30 : Int32)) ≤ (mI m3 t 9) then (Q m3) else (∃ b8, mR m3 t 1 = some b8 ∧ (mK m3 b8 = 19 ∧ (vp_in l1 (mN m3 b8) ∧ (∃ b12, mR m3 b8 l1.toNatClampNeg = some b12 ∧ (mK m3 b12 = 2 ∧ (∃ b15, mR m3 b12 0 = some b15 ∧ (mK m3 b15 = 15 ∧ (vp_in (mI m3 t 9) (mN m3 b15) ∧ (∀ m19, m19 = sI m3 b15 (mI m3 t 9).toNatClampNeg l2 → (Q m19))))))))))))))) : CV g M_Land_tellCrop (lv + 1) [va_rf (some t), .int (l1), .int (l2)] m Q := by
  refine Call.of (by decide +kernel) (Nat.le_of_ble_eq_true rfl) ?_
  show At g M_Land_tellCrop (lv + 1) 0 [(0, va_rf (some t)), (1, .int (l1)), (2, .int (l2))] [] m (QV Q)
  refine at_aload_n (i := 0) 0 1 rfl (by decide +kernel) rfl ?_
  refine at_iload_n (i := 1) 1 2 rfl (by decide +kernel) rfl ?_
  obtain ⟨k1, h⟩ := h
  refine at_callV mb_Land_hasGrower tw_666 tw_667 cok3 k1 (index := 65) tw_674 [.int (l1)] [] rfl rfl (by decide) 5 rfl (by decide +kernel) (Call.toI (CI.monoE h (fun x2 m3 h y4 => ?_)))
  have k5 : mK m3 t = 4 := y4.k k1 (by decide)
  refine at_if_eq (off := 27) 32 8 rfl (by decide +kernel) (by decide +kernel) (fun c6 => ?_) (fun c6 => ?_)
  · rw [if_pos c6] at h
    exact at_vret rfl (by decide +kernel) h
  · rw [if_neg c6] at h
    refine at_aload_n (i := 0) 0 9 rfl (by decide +kernel) rfl ?_
    refine at_get (index := 69) (v := .int (mI m3 t 9)) cok3 9 12 rfl (by decide +kernel) k5 (by decide +kernel) tw_299 rfl ?_
    refine at_bipush (n := 30) (30 : Int32) 14 rfl (by decide +kernel) (by decide +kernel) ?_
    refine at_icmp_ge (off := 18) 32 17 rfl (by decide +kernel) (by decide +kernel) (fun c7 => ?_) (fun c7 => ?_)
    · rw [if_pos c7] at h
      exact at_vret rfl (by decide +kernel) h
    · rw [if_neg c7] at h
      refine at_aload_n (i := 0) 0 18 rfl (by decide +kernel) rfl ?_
      refine at_get (index := 11) (v := va_rf (mR m3 t 1)) cok3 1 21 rfl (by decide +kernel) k5 (by decide +kernel) tw_286 rfl ?_
      obtain ⟨b8, e9, h⟩ := h
      rw [e9]
      refine at_iload_n (i := 1) 1 22 rfl (by decide +kernel) rfl ?_
      obtain ⟨k10, h⟩ := h
      obtain ⟨v11, h⟩ := h
      refine at_aaldGrower 23 rfl (by decide +kernel) k10 v11 ?_
      obtain ⟨b12, e13, h⟩ := h
      rw [e13]
      obtain ⟨k14, h⟩ := h
      refine at_get (index := 72) (v := va_rf (mR m3 b12 0)) cok1 0 26 rfl (by decide +kernel) k14 (by decide +kernel) tw_207 rfl ?_
      obtain ⟨b15, e16, h⟩ := h
      rw [e16]
      refine at_aload_n (i := 0) 0 27 rfl (by decide +kernel) rfl ?_
      refine at_get (index := 69) (v := .int (mI m3 t 9)) cok3 9 30 rfl (by decide +kernel) k5 (by decide +kernel) tw_299 rfl ?_
      refine at_iload_n (i := 2) 2 31 rfl (by decide +kernel) rfl ?_
      obtain ⟨k17, h⟩ := h
      obtain ⟨v18, h⟩ := h
      refine at_iast 32 rfl (by decide +kernel) k17 v18 (fun m19 e20 => ?_)
      replace h := h m19 e20
      have x21 : Ext m3 m19 := by rw [e20]; exact Ext.sI _ _ _ _
      have k22 : mK m19 t = 4 := x21.k k5 (by decide)
      have k23 : mK m19 b8 = 19 := x21.k k10 (by decide)
      have k24 : mK m19 b12 = 2 := x21.k k14 (by decide)
      have k25 : mK m19 b15 = 15 := x21.k k17 (by decide)
      have e26 : mR m19 t 1 = some b8 := x21.r k5 (by decide) rfl e9
      have e27 : mR m19 b8 l1.toNatClampNeg = some b12 := x21.r k10 (by decide) rfl e13
      have e28 : mR m19 b12 0 = some b15 := x21.r k14 (by decide) rfl e16
      exact at_vret rfl (by decide +kernel) h
set_option maxRecDepth 20000 in
set_option maxHeartbeats 4000000 in
theorem en_Land_moneyOf (g : Gc) {lv : Nat} {t : Nat} {l1 : Int32} {m : Mm} {Q : Int64 → Mm → Prop} (h : mK m t = 4 ∧ (CI g M_Land_hasGrower lv [va_rf (some t), .int (l1)] m (fun x2 m3 => (if (x2) = 0 then (CI g M_SL_isWithin lv [.int (l1), .int ((12 : Int32)), .int ((14 : Int32))] m3 (fun x7 m8 => (if (x7) = 0 then (Q (0 : Int64) m8) else (∃ b12, mR m8 t 2 = some b12 ∧ (mK m8 b12 = 18 ∧ (vp_in (l1 - (12 : Int32)) (mN m8 b12) ∧ (∃ b16, mR m8 b12 (l1 - (12 : Int32)).toNatClampNeg = some b16 ∧ (mK m8 b16 = 1 ∧ (Q (mL m8 b16 2) m8))))))))) else (∃ b19, mR m3 t 1 = some b19 ∧ (mK m3 b19 = 19 ∧ (vp_in l1 (mN m3 b19) ∧ (∃ b23, mR m3 b19 l1.toNatClampNeg = some b23 ∧ (mK m3 b23 = 2 ∧ (Q (mL m3 b23 11) m3)))))))))) : CJ g M_Land_moneyOf (lv + 1) [va_rf (some t), .int (l1)] m Q := by
  refine Call.of (by decide +kernel) (Nat.le_of_ble_eq_true rfl) ?_
  show At g M_Land_moneyOf (lv + 1) 0 [(0, va_rf (some t)), (1, .int (l1))] [] m (QJ Q)
  refine at_aload_n (i := 0) 0 1 rfl (by decide +kernel) rfl ?_
  refine at_iload_n (i := 1) 1 2 rfl (by decide +kernel) rfl ?_
  obtain ⟨k1, h⟩ := h
  refine at_callV mb_Land_hasGrower tw_666 tw_667 cok3 k1 (index := 65) tw_674 [.int (l1)] [] rfl rfl (by decide) 5 rfl (by decide +kernel) (Call.toI (CI.monoE h (fun x2 m3 h y4 => ?_)))
  have k5 : mK m3 t = 4 := y4.k k1 (by decide)
  refine at_if_eq (off := 13) 18 8 rfl (by decide +kernel) (by decide +kernel) (fun c6 => ?_) (fun c6 => ?_)
  · rw [if_pos c6] at h
    refine at_iload_n (i := 1) 1 19 rfl (by decide +kernel) rfl ?_
    refine at_bipush (n := 12) (12 : Int32) 21 rfl (by decide +kernel) (by decide +kernel) ?_
    refine at_bipush (n := 14) (14 : Int32) 23 rfl (by decide +kernel) (by decide +kernel) ?_
    refine at_callSN mb_SL_isWithin tw_471 (index := 79) (host := "SurplusLand") (by decide +kernel) [.int (l1), .int ((12 : Int32)), .int ((14 : Int32))] [] rfl rfl (by decide) 26 rfl (by decide +kernel) (Call.toI (CI.monoE h (fun x7 m8 h y9 => ?_)))
    have k10 : mK m8 t = 4 := y9.k k5 (by decide)
    refine at_if_eq (off := 18) 44 29 rfl (by decide +kernel) (by decide +kernel) (fun c11 => ?_) (fun c11 => ?_)
    · rw [if_pos c11] at h
      refine at_lconst (n := 0) (0 : Int64) 45 rfl (by decide +kernel) (by decide +kernel) ?_
      exact at_lret rfl (by decide +kernel) h
    · rw [if_neg c11] at h
      refine at_aload_n (i := 0) 0 30 rfl (by decide +kernel) rfl ?_
      refine at_get (index := 19) (v := va_rf (mR m8 t 2)) cok3 2 33 rfl (by decide +kernel) k10 (by decide +kernel) tw_288 rfl ?_
      obtain ⟨b12, e13, h⟩ := h
      rw [e13]
      refine at_iload_n (i := 1) 1 34 rfl (by decide +kernel) rfl ?_
      refine at_bipush (n := 12) (12 : Int32) 36 rfl (by decide +kernel) (by decide +kernel) ?_
      refine at_isub 37 rfl (by decide +kernel) ?_
      obtain ⟨k14, h⟩ := h
      obtain ⟨v15, h⟩ := h
      refine at_aaldBank 38 rfl (by decide +kernel) k14 v15 ?_
      obtain ⟨b16, e17, h⟩ := h
      rw [e17]
      obtain ⟨k18, h⟩ := h
      refine at_get (index := 83) (v := .long (mL m8 b16 2)) cok0 2 41 rfl (by decide +kernel) k18 (by decide +kernel) tw_277 rfl ?_
      refine at_goto (off := 4) 45 (by decide +kernel) (by decide +kernel) ?_
      exact at_lret rfl (by decide +kernel) h
  · rw [if_neg c6] at h
    refine at_aload_n (i := 0) 0 9 rfl (by decide +kernel) rfl ?_
    refine at_get (index := 11) (v := va_rf (mR m3 t 1)) cok3 1 12 rfl (by decide +kernel) k5 (by decide +kernel) tw_286 rfl ?_
    obtain ⟨b19, e20, h⟩ := h
    rw [e20]
    refine at_iload_n (i := 1) 1 13 rfl (by decide +kernel) rfl ?_
    obtain ⟨k21, h⟩ := h
    obtain ⟨v22, h⟩ := h
    refine at_aaldGrower 14 rfl (by decide +kernel) k21 v22 ?_
    obtain ⟨b23, e24, h⟩ := h
    rw [e24]
    obtain ⟨k25, h⟩ := h
    refine at_get (index := 75) (v := .long (mL m3 b23 11)) cok1 11 17 rfl (by decide +kernel) k25 (by decide +kernel) tw_233 rfl ?_
    exact at_lret rfl (by decide +kernel) h
set_option maxRecDepth 20000 in
set_option maxHeartbeats 4000000 in
theorem en_Land_credit (g : Gc) {lv : Nat} {t : Nat} {l1 : Int32} {l2 : Int64} {m : Mm} {Q : Mm → Prop} (h : mK m t = 4 ∧ (CI g M_Land_hasGrower lv [va_rf (some t), .int (l1)] m (fun x2 m3 => (if (x2) = 0 then (CI g M_SL_isWithin lv [.int (l1), .int ((12 : Int32)), .int ((14 : Int32))] m3 (fun x7 m8 => (if (x7) = 0 then (Q m8) else (∃ b12, mR m8 t 2 = some b12 ∧ (mK m8 b12 = 18 ∧ (vp_in (l1 - (12 : Int32)) (mN m8 b12) ∧ (∃ b16, mR m8 b12 (l1 - (12 : Int32)).toNatClampNeg = some b16 ∧ (mK m8 b16 = 1 ∧ (∀ m19, m19 = sL m8 b16 2 ((mL m8 b16 2) + l2) → (Q m19)))))))))) else (∃ b27, mR m3 t 1 = some b27 ∧ (mK m3 b27 = 19 ∧ (vp_in l1 (mN m3 b27) ∧ (∃ b31, mR m3 b27 l1.toNatClampNeg = some b31 ∧ (mK m3 b31 = 2 ∧ (∀ m34, m34 = sL m3 b31 11 ((mL m3 b31 11) + l2) → (Q m34))))))))))) : CV g M_Land_credit (lv + 1) [va_rf (some t), .int (l1), .long (l2)] m Q := by
  refine Call.of (by decide +kernel) (Nat.le_of_ble_eq_true rfl) ?_
  show At g M_Land_credit (lv + 1) 0 [(0, va_rf (some t)), (1, .int (l1)), (2, .long (l2))] [] m (QV Q)
  refine at_aload_n (i := 0) 0 1 rfl (by decide +kernel) rfl ?_
  refine at_iload_n (i := 1) 1 2 rfl (by decide +kernel) rfl ?_
  obtain ⟨k1, h⟩ := h
  refine at_callV mb_Land_hasGrower tw_666 tw_667 cok3 k1 (index := 65) tw_674 [.int (l1)] [] rfl rfl (by decide) 5 rfl (by decide +kernel) (Call.toI (CI.monoE h (fun x2 m3 h y4 => ?_)))
  have k5 : mK m3 t = 4 := y4.k k1 (by decide)
  refine at_if_eq (off := 21) 26 8 rfl (by decide +kernel) (by decide +kernel) (fun c6 => ?_) (fun c6 => ?_)
  · rw [if_pos c6] at h
    refine at_iload_n (i := 1) 1 27 rfl (by decide +kernel) rfl ?_
    refine at_bipush (n := 12) (12 : Int32) 29 rfl (by decide +kernel) (by decide +kernel) ?_
    refine at_bipush (n := 14) (14 : Int32) 31 rfl (by decide +kernel) (by decide +kernel) ?_
    refine at_callSN mb_SL_isWithin tw_471 (index := 79) (host := "SurplusLand") (by decide +kernel) [.int (l1), .int ((12 : Int32)), .int ((14 : Int32))] [] rfl rfl (by decide) 34 rfl (by decide +kernel) (Call.toI (CI.monoE h (fun x7 m8 h y9 => ?_)))
    have k10 : mK m8 t = 4 := y9.k k5 (by decide)
    refine at_if_eq (off := 21) 55 37 rfl (by decide +kernel) (by decide +kernel) (fun c11 => ?_) (fun c11 => ?_)
    · rw [if_pos c11] at h
      exact at_vret rfl (by decide +kernel) h
    · rw [if_neg c11] at h
      refine at_aload_n (i := 0) 0 38 rfl (by decide +kernel) rfl ?_
      refine at_get (index := 19) (v := va_rf (mR m8 t 2)) cok3 2 41 rfl (by decide +kernel) k10 (by decide +kernel) tw_288 rfl ?_
      obtain ⟨b12, e13, h⟩ := h
      rw [e13]
      refine at_iload_n (i := 1) 1 42 rfl (by decide +kernel) rfl ?_
      refine at_bipush (n := 12) (12 : Int32) 44 rfl (by decide +kernel) (by decide +kernel) ?_
      refine at_isub 45 rfl (by decide +kernel) ?_
      obtain ⟨k14, h⟩ := h
      obtain ⟨v15, h⟩ := h
      refine at_aaldBank 46 rfl (by decide +kernel) k14 v15 ?_
      refine at_dup 47 rfl (by decide +kernel) (va_rf_cat _) ?_
      obtain ⟨b16, e17, h⟩ := h
      rw [e17]
      obtain ⟨k18, h⟩ := h
      refine at_get (index := 83) (v := .long (mL m8 b16 2)) cok0 2 50 rfl (by decide +kernel) k18 (by decide +kernel) tw_277 rfl ?_
      refine at_lload_n (i := 2) 2 51 rfl (by decide +kernel) rfl ?_
      refine at_ladd 52 rfl (by decide +kernel) ?_
      refine at_putJ (index := 83) cok0 2 55 rfl (by decide +kernel) k18 (by decide +kernel) tw_277 rfl rfl rfl (fun m19 e20 => ?_)
      replace h := h m19 e20
      have x21 : Ext m8 m19 := by rw [e20]; exact Ext.sL _ _ _ _
      have k22 : mK m19 t = 4 := x21.k k10 (by decide)
      have k23 : mK m19 b12 = 18 := x21.k k14 (by decide)
      have k24 : mK m19 b16 = 1 := x21.k k18 (by decide)
      have e25 : mR m19 t 2 = some b12 := x21.r k10 (by decide) rfl e13
      have e26 : mR m19 b12 (l1 - (12 : Int32)).toNatClampNeg = some b16 := x21.r k14 (by decide) rfl e17
      exact at_vret rfl (by decide +kernel) h
  · rw [if_neg c6] at h
    refine at_aload_n (i := 0) 0 9 rfl (by decide +kernel) rfl ?_
    refine at_get (index := 11) (v := va_rf (mR m3 t 1)) cok3 1 12 rfl (by decide +kernel) k5 (by decide +kernel) tw_286 rfl ?_
    obtain ⟨b27, e28, h⟩ := h
    rw [e28]
    refine at_iload_n (i := 1) 1 13 rfl (by decide +kernel) rfl ?_
    obtain ⟨k29, h⟩ := h
    obtain ⟨v30, h⟩ := h
    refine at_aaldGrower 14 rfl (by decide +kernel) k29 v30 ?_
    refine at_dup 15 rfl (by decide +kernel) (va_rf_cat _) ?_
    obtain ⟨b31, e32, h⟩ := h
    rw [e32]
    obtain ⟨k33, h⟩ := h
    refine at_get (index := 75) (v := .long (mL m3 b31 11)) cok1 11 18 rfl (by decide +kernel) k33 (by decide +kernel) tw_233 rfl ?_
    refine at_lload_n (i := 2) 2 19 rfl (by decide +kernel) rfl ?_
    refine at_ladd 20 rfl (by decide +kernel) ?_
    refine at_putJ (index := 75) cok1 11 23 rfl (by decide +kernel) k33 (by decide +kernel) tw_233 rfl rfl rfl (fun m34 e35 => ?_)
    replace h := h m34 e35
    have x36 : Ext m3 m34 := by rw [e35]; exact Ext.sL _ _ _ _
    have k37 : mK m34 t = 4 := x36.k k5 (by decide)
    have k38 : mK m34 b27 = 19 := x36.k k29 (by decide)
    have k39 : mK m34 b31 = 2 := x36.k k33 (by decide)
    have e40 : mR m34 t 1 = some b27 := x36.r k5 (by decide) rfl e28
    have e41 : mR m34 b27 l1.toNatClampNeg = some b31 := x36.r k29 (by decide) rfl e32
    refine at_goto (off := 32) 55 (by decide +kernel) (by decide +kernel) ?_
    exact at_vret rfl (by decide +kernel) h
set_option maxRecDepth 20000 in
set_option maxHeartbeats 4000000 in
theorem bk_Land_freeInAll_4 (g : Gc) {lv : Nat} {t : Nat} {l1 : Int64} {l3 : Int32} {m : Mm} {Q : Int64 → Mm → Prop} (h : mK m t = 4 ∧ (if (mI m t 8) ≤ (l3) then (Q l1 m) else (∃ b3, mR m t 1 = some b3 ∧ (mK m b3 = 19 ∧ (vp_in l3 (mN m b3) ∧ (∃ b7, mR m b3 l3.toNatClampNeg = some b7 ∧ (mK m b7 = 2 ∧ (At g M_Land_freeInAll (lv + 1) 4 [(0, va_rf (some t)), (1, .long (l1 + ((mI m b7 9).toInt64))), (3, .int (l3 + (1 : Int32)))] [] m (QJ Q))))))))) : At g M_Land_freeInAll (lv + 1) 4 [(0, va_rf (some t)), (1, .long (l1)), (3, .int (l3))] [] m (QJ Q) := by
  refine at_iload_n (i := 3) 2 5 rfl (by decide +kernel) rfl ?_
  refine at_aload_n (i := 0) 0 6 rfl (by decide +kernel) rfl ?_
  obtain ⟨k1, h⟩ := h
  refine at_get (index := 58) (v := .int (mI m t 8)) cok3 8 9 rfl (by decide +kernel) k1 (by decide +kernel) tw_297 rfl ?_
  refine at_icmp_ge (off := 22) 31 12 rfl (by decide +kernel) (by decide +kernel) (fun c2 => ?_) (fun c2 => ?_)
  · rw [if_pos c2] at h
    refine at_lload_n (i := 1) 1 32 rfl (by decide +kernel) rfl ?_
    exact at_lret rfl (by decide +kernel) h
  · rw [if_neg c2] at h
    refine at_lload_n (i := 1) 1 13 rfl (by decide +kernel) rfl ?_
    refine at_aload_n (i := 0) 0 14 rfl (by decide +kernel) rfl ?_
    refine at_get (index := 11) (v := va_rf (mR m t 1)) cok3 1 17 rfl (by decide +kernel) k1 (by decide +kernel) tw_286 rfl ?_
    obtain ⟨b3, e4, h⟩ := h
    rw [e4]
    refine at_iload_n (i := 3) 2 18 rfl (by decide +kernel) rfl ?_
    obtain ⟨k5, h⟩ := h
    obtain ⟨v6, h⟩ := h
    refine at_aaldGrower 19 rfl (by decide +kernel) k5 v6 ?_
    obtain ⟨b7, e8, h⟩ := h
    rw [e8]
    obtain ⟨k9, h⟩ := h
    refine at_get (index := 84) (v := .int (mI m b7 9)) cok1 9 22 rfl (by decide +kernel) k9 (by decide +kernel) tw_227 rfl ?_
    refine at_i2l 23 rfl (by decide +kernel) ?_
    refine at_ladd 24 rfl (by decide +kernel) ?_
    refine at_lstore_n (i := 1) (lc' := [(0, va_rf (some t)), (1, .long (l1 + ((mI m b7 9).toInt64))), (3, .int (l3))]) [1, 0, 2] 25 rfl (by decide +kernel) (by decide +kernel) rfl ?_
    refine at_iinc (i := 3) (n := 1) (lc' := [(0, va_rf (some t)), (1, .long (l1 + ((mI m b7 9).toInt64))), (3, .int (l3 + (1 : Int32)))]) (l3 + (1 : Int32)) 2 [1, 2, 0] 28 rfl (by decide +kernel) rfl (by rw [show Int32.ofInt 1 = (1 : Int32) from by decide +kernel]) (by decide +kernel) rfl ?_
    refine at_goto (off := (-24)) 4 (by decide +kernel) (by decide +kernel) ?_
    exact h
set_option maxRecDepth 20000 in
set_option maxHeartbeats 4000000 in
theorem en_Land_freeInAll (g : Gc) {lv : Nat} {t : Nat} {m : Mm} {Q : Int64 → Mm → Prop} (h : At g M_Land_freeInAll (lv + 1) 4 [(0, va_rf (some t)), (1, .long ((0 : Int64))), (3, .int ((0 : Int32)))] [] m (QJ Q)) : CJ g M_Land_freeInAll (lv + 1) [va_rf (some t)] m Q := by
  refine Call.of (by decide +kernel) (Nat.le_of_ble_eq_true rfl) ?_
  show At g M_Land_freeInAll (lv + 1) 0 [(0, va_rf (some t))] [] m (QJ Q)
  refine at_lconst (n := 0) (0 : Int64) 1 rfl (by decide +kernel) (by decide +kernel) ?_
  refine at_lstore_n (i := 1) (lc' := [(0, va_rf (some t)), (1, .long ((0 : Int64)))]) [1, 0] 2 rfl (by decide +kernel) (by decide +kernel) rfl ?_
  refine at_iconst (n := 0) (0 : Int32) 3 rfl (by decide +kernel) (by decide +kernel) ?_
  refine at_istore_n (i := 3) (lc' := [(0, va_rf (some t)), (1, .long ((0 : Int64))), (3, .int ((0 : Int32)))]) [1, 2, 0] 4 rfl (by decide +kernel) (by decide +kernel) rfl ?_
  exact h
set_option maxRecDepth 20000 in
set_option maxHeartbeats 4000000 in
theorem bk_Land_moneyInAll_4 (g : Gc) {lv : Nat} {t : Nat} {l1 : Int64} {l3 : Int32} {m : Mm} {Q : Int64 → Mm → Prop} (h : mK m t = 4 ∧ (if (mI m t 8) ≤ (l3) then (Q l1 m) else (∃ b3, mR m t 1 = some b3 ∧ (mK m b3 = 19 ∧ (vp_in l3 (mN m b3) ∧ (∃ b7, mR m b3 l3.toNatClampNeg = some b7 ∧ (mK m b7 = 2 ∧ (At g M_Land_moneyInAll (lv + 1) 4 [(0, va_rf (some t)), (1, .long (l1 + (mL m b7 11))), (3, .int (l3 + (1 : Int32)))] [] m (QJ Q))))))))) : At g M_Land_moneyInAll (lv + 1) 4 [(0, va_rf (some t)), (1, .long (l1)), (3, .int (l3))] [] m (QJ Q) := by
  refine at_iload_n (i := 3) 2 5 rfl (by decide +kernel) rfl ?_
  refine at_aload_n (i := 0) 0 6 rfl (by decide +kernel) rfl ?_
  obtain ⟨k1, h⟩ := h
  refine at_get (index := 58) (v := .int (mI m t 8)) cok3 8 9 rfl (by decide +kernel) k1 (by decide +kernel) tw_297 rfl ?_
  refine at_icmp_ge (off := 21) 30 12 rfl (by decide +kernel) (by decide +kernel) (fun c2 => ?_) (fun c2 => ?_)
  · rw [if_pos c2] at h
    refine at_lload_n (i := 1) 1 31 rfl (by decide +kernel) rfl ?_
    exact at_lret rfl (by decide +kernel) h
  · rw [if_neg c2] at h
    refine at_lload_n (i := 1) 1 13 rfl (by decide +kernel) rfl ?_
    refine at_aload_n (i := 0) 0 14 rfl (by decide +kernel) rfl ?_
    refine at_get (index := 11) (v := va_rf (mR m t 1)) cok3 1 17 rfl (by decide +kernel) k1 (by decide +kernel) tw_286 rfl ?_
    obtain ⟨b3, e4, h⟩ := h
    rw [e4]
    refine at_iload_n (i := 3) 2 18 rfl (by decide +kernel) rfl ?_
    obtain ⟨k5, h⟩ := h
    obtain ⟨v6, h⟩ := h
    refine at_aaldGrower 19 rfl (by decide +kernel) k5 v6 ?_
    obtain ⟨b7, e8, h⟩ := h
    rw [e8]
    obtain ⟨k9, h⟩ := h
    refine at_get (index := 75) (v := .long (mL m b7 11)) cok1 11 22 rfl (by decide +kernel) k9 (by decide +kernel) tw_233 rfl ?_
    refine at_ladd 23 rfl (by decide +kernel) ?_
    refine at_lstore_n (i := 1) (lc' := [(0, va_rf (some t)), (1, .long (l1 + (mL m b7 11))), (3, .int (l3))]) [1, 0, 2] 24 rfl (by decide +kernel) (by decide +kernel) rfl ?_
    refine at_iinc (i := 3) (n := 1) (lc' := [(0, va_rf (some t)), (1, .long (l1 + (mL m b7 11))), (3, .int (l3 + (1 : Int32)))]) (l3 + (1 : Int32)) 2 [1, 2, 0] 27 rfl (by decide +kernel) rfl (by rw [show Int32.ofInt 1 = (1 : Int32) from by decide +kernel]) (by decide +kernel) rfl ?_
    refine at_goto (off := (-23)) 4 (by decide +kernel) (by decide +kernel) ?_
    exact h
set_option maxRecDepth 20000 in
set_option maxHeartbeats 4000000 in
theorem en_Land_moneyInAll (g : Gc) {lv : Nat} {t : Nat} {m : Mm} {Q : Int64 → Mm → Prop} (h : At g M_Land_moneyInAll (lv + 1) 4 [(0, va_rf (some t)), (1, .long ((0 : Int64))), (3, .int ((0 : Int32)))] [] m (QJ Q)) : CJ g M_Land_moneyInAll (lv + 1) [va_rf (some t)] m Q := by
  refine Call.of (by decide +kernel) (Nat.le_of_ble_eq_true rfl) ?_
  show At g M_Land_moneyInAll (lv + 1) 0 [(0, va_rf (some t))] [] m (QJ Q)
  refine at_lconst (n := 0) (0 : Int64) 1 rfl (by decide +kernel) (by decide +kernel) ?_
  refine at_lstore_n (i := 1) (lc' := [(0, va_rf (some t)), (1, .long ((0 : Int64)))]) [1, 0] 2 rfl (by decide +kernel) (by decide +kernel) rfl ?_
  refine at_iconst (n := 0) (0 : Int32) 3 rfl (by decide +kernel) (by decide +kernel) ?_
  refine at_istore_n (i := 3) (lc' := [(0, va_rf (some t)), (1, .long ((0 : Int64))), (3, .int ((0 : Int32)))]) [1, 2, 0] 4 rfl (by decide +kernel) (by decide +kernel) rfl ?_
  exact h
set_option maxRecDepth 20000 in
set_option maxHeartbeats 4000000 in
theorem bk_Land_bearingInAll_4 (g : Gc) {lv : Nat} {t : Nat} {l1 : Int64} {l3 : Int32} {m : Mm} {Q : Int64 → Mm → Prop} (h : mK m t = 4 ∧ (if (mI m t 8) ≤ (l3) then (Q l1 m) else (∃ b3, mR m t 1 = some b3 ∧ (mK m b3 = 19 ∧ (vp_in l3 (mN m b3) ∧ (∃ b7, mR m b3 l3.toNatClampNeg = some b7 ∧ (mK m b7 = 2 ∧ (At g M_Land_bearingInAll (lv + 1) 4 [(0, va_rf (some t)), (1, .long (l1 + ((mI m b7 5).toInt64))), (3, .int (l3 + (1 : Int32)))] [] m (QJ Q))))))))) : At g M_Land_bearingInAll (lv + 1) 4 [(0, va_rf (some t)), (1, .long (l1)), (3, .int (l3))] [] m (QJ Q) := by
  refine at_iload_n (i := 3) 2 5 rfl (by decide +kernel) rfl ?_
  refine at_aload_n (i := 0) 0 6 rfl (by decide +kernel) rfl ?_
  obtain ⟨k1, h⟩ := h
  refine at_get (index := 58) (v := .int (mI m t 8)) cok3 8 9 rfl (by decide +kernel) k1 (by decide +kernel) tw_297 rfl ?_
  refine at_icmp_ge (off := 22) 31 12 rfl (by decide +kernel) (by decide +kernel) (fun c2 => ?_) (fun c2 => ?_)
  · rw [if_pos c2] at h
    refine at_lload_n (i := 1) 1 32 rfl (by decide +kernel) rfl ?_
    exact at_lret rfl (by decide +kernel) h
  · rw [if_neg c2] at h
    refine at_lload_n (i := 1) 1 13 rfl (by decide +kernel) rfl ?_
    refine at_aload_n (i := 0) 0 14 rfl (by decide +kernel) rfl ?_
    refine at_get (index := 11) (v := va_rf (mR m t 1)) cok3 1 17 rfl (by decide +kernel) k1 (by decide +kernel) tw_286 rfl ?_
    obtain ⟨b3, e4, h⟩ := h
    rw [e4]
    refine at_iload_n (i := 3) 2 18 rfl (by decide +kernel) rfl ?_
    obtain ⟨k5, h⟩ := h
    obtain ⟨v6, h⟩ := h
    refine at_aaldGrower 19 rfl (by decide +kernel) k5 v6 ?_
    obtain ⟨b7, e8, h⟩ := h
    rw [e8]
    obtain ⟨k9, h⟩ := h
    refine at_get (index := 87) (v := .int (mI m b7 5)) cok1 5 22 rfl (by decide +kernel) k9 (by decide +kernel) tw_218 rfl ?_
    refine at_i2l 23 rfl (by decide +kernel) ?_
    refine at_ladd 24 rfl (by decide +kernel) ?_
    refine at_lstore_n (i := 1) (lc' := [(0, va_rf (some t)), (1, .long (l1 + ((mI m b7 5).toInt64))), (3, .int (l3))]) [1, 0, 2] 25 rfl (by decide +kernel) (by decide +kernel) rfl ?_
    refine at_iinc (i := 3) (n := 1) (lc' := [(0, va_rf (some t)), (1, .long (l1 + ((mI m b7 5).toInt64))), (3, .int (l3 + (1 : Int32)))]) (l3 + (1 : Int32)) 2 [1, 2, 0] 28 rfl (by decide +kernel) rfl (by rw [show Int32.ofInt 1 = (1 : Int32) from by decide +kernel]) (by decide +kernel) rfl ?_
    refine at_goto (off := (-24)) 4 (by decide +kernel) (by decide +kernel) ?_
    exact h
set_option maxRecDepth 20000 in
set_option maxHeartbeats 4000000 in
theorem en_Land_bearingInAll (g : Gc) {lv : Nat} {t : Nat} {m : Mm} {Q : Int64 → Mm → Prop} (h : At g M_Land_bearingInAll (lv + 1) 4 [(0, va_rf (some t)), (1, .long ((0 : Int64))), (3, .int ((0 : Int32)))] [] m (QJ Q)) : CJ g M_Land_bearingInAll (lv + 1) [va_rf (some t)] m Q := by
  refine Call.of (by decide +kernel) (Nat.le_of_ble_eq_true rfl) ?_
  show At g M_Land_bearingInAll (lv + 1) 0 [(0, va_rf (some t))] [] m (QJ Q)
  refine at_lconst (n := 0) (0 : Int64) 1 rfl (by decide +kernel) (by decide +kernel) ?_
  refine at_lstore_n (i := 1) (lc' := [(0, va_rf (some t)), (1, .long ((0 : Int64)))]) [1, 0] 2 rfl (by decide +kernel) (by decide +kernel) rfl ?_
  refine at_iconst (n := 0) (0 : Int32) 3 rfl (by decide +kernel) (by decide +kernel) ?_
  refine at_istore_n (i := 3) (lc' := [(0, va_rf (some t)), (1, .long ((0 : Int64))), (3, .int ((0 : Int32)))]) [1, 2, 0] 4 rfl (by decide +kernel) (by decide +kernel) rfl ?_
  exact h
set_option maxRecDepth 20000 in
set_option maxHeartbeats 4000000 in
theorem bk_Land_liveAgain_90 (g : Gc) {lv : Nat} {t : Nat} {l1 : Option Nat} {l2 : Option Nat} {l3 : Int32} {m : Mm} {Q : Mm → Prop} (h : ∃ b1, l1 = some b1 ∧ (mK m b1 = 4 ∧ (if (mI m b1 9) ≤ (l3) then (Q m) else (if ((30 : Int32)) ≤ (l3) then (Q m) else (∃ b6, mR m b1 5 = some b6 ∧ (mK m b6 = 15 ∧ (vp_in l3 (mN m b6) ∧ (mK m t = 4 ∧ (CV g M_Land_passYear lv [va_rf (some t), .int (mI m b6 l3.toNatClampNeg), va_rf (l2)] m (fun m11 => (At g M_Land_liveAgain (lv + 1) 90 [(0, va_rf (some t)), (1, va_rf (some b1)), (2, va_rf (l2)), (3, .int (l3 + (1 : Int32)))] [] m11 (QV Q)))))))))))) : At g M_Land_liveAgain (lv + 1) 90 [(0, va_rf (some t)), (1, va_rf (l1)), (2, va_rf (l2)), (3, .int (l3))] [] m (QV Q) := by
  refine at_iload_n (i := 3) 3 91 rfl (by decide +kernel) rfl ?_
  refine at_aload_n (i := 1) 1 92 rfl (by decide +kernel) rfl ?_
  obtain ⟨b1, e2, h⟩ := h
  rw [e2]
  obtain ⟨k3, h⟩ := h
  refine at_get (index := 69) (v := .int (mI m b1 9)) cok3 9 95 rfl (by decide +kernel) k3 (by decide +kernel) tw_299 rfl ?_
  refine at_icmp_ge (off := 26) 121 98 rfl (by decide +kernel) (by decide +kernel) (fun c4 => ?_) (fun c4 => ?_)
  · rw [if_pos c4] at h
    exact at_vret rfl (by decide +kernel) h
  · rw [if_neg c4] at h
    refine at_iload_n (i := 3) 3 99 rfl (by decide +kernel) rfl ?_
    refine at_bipush (n := 30) (30 : Int32) 101 rfl (by decide +kernel) (by decide +kernel) ?_
    refine at_icmp_ge (off := 20) 121 104 rfl (by decide +kernel) (by decide +kernel) (fun c5 => ?_) (fun c5 => ?_)
    · rw [if_pos c5] at h
      exact at_vret rfl (by decide +kernel) h
    · rw [if_neg c5] at h
      refine at_aload_n (i := 0) 0 105 rfl (by decide +kernel) rfl ?_
      refine at_aload_n (i := 1) 1 106 rfl (by decide +kernel) rfl ?_
      refine at_get (index := 37) (v := va_rf (mR m b1 5)) cok3 5 109 rfl (by decide +kernel) k3 (by decide +kernel) tw_293 rfl ?_
      obtain ⟨b6, e7, h⟩ := h
      rw [e7]
      refine at_iload_n (i := 3) 3 110 rfl (by decide +kernel) rfl ?_
      obtain ⟨k8, h⟩ := h
      obtain ⟨v9, h⟩ := h
      refine at_iald 111 rfl (by decide +kernel) k8 v9 ?_
      refine at_aload_n (i := 2) 2 112 rfl (by decide +kernel) rfl ?_
      obtain ⟨k10, h⟩ := h
      refine at_callV mb_Land_passYear tw_694 tw_695 cok3 k10 (index := 109) tw_1024 [.int (mI m b6 l3.toNatClampNeg), va_rf (l2)] [] rfl rfl (by decide) 115 rfl (by decide +kernel) (Call.toV (CV.monoE h (fun m11 h y12 => ?_)))
      have k13 : mK m11 b1 = 4 := y12.k k3 (by decide)
      have k14 : mK m11 b6 = 15 := y12.k k8 (by decide)
      have k15 : mK m11 t = 4 := y12.k k10 (by decide)
      have e16 : mR m11 b1 5 = some b6 := y12.r k3 (by decide) rfl e7
      refine at_iinc (i := 3) (n := 1) (lc' := [(0, va_rf (some t)), (1, va_rf (some b1)), (2, va_rf (l2)), (3, .int (l3 + (1 : Int32)))]) (l3 + (1 : Int32)) 3 [1, 2, 3, 0] 118 rfl (by decide +kernel) rfl (by rw [show Int32.ofInt 1 = (1 : Int32) from by decide +kernel]) (by decide +kernel) (by generalize l2 = rr; cases rr <;> rfl) ?_
      refine at_goto (off := (-28)) 90 (by decide +kernel) (by decide +kernel) ?_
      exact h
set_option maxRecDepth 20000 in
set_option maxHeartbeats 4000000 in
theorem bk_Land_liveAgain_26 (g : Gc) {lv : Nat} {t : Nat} {l1 : Option Nat} {l2 : Option Nat} {l3 : Int32} {m : Mm} {Q : Mm → Prop} (h : ∃ b1, l1 = some b1 ∧ (mK m b1 = 4 ∧ (if (mI m b1 8) ≤ (l3) then (At g M_Land_liveAgain (lv + 1) 90 [(0, va_rf (some t)), (1, va_rf (some b1)), (2, va_rf (l2)), (3, .int ((0 : Int32)))] [] m (QV Q)) else (∃ b5, mR m b1 1 = some b5 ∧ (mK m b5 = 19 ∧ (vp_in l3 (mN m b5) ∧ (∃ b9, mR m b5 l3.toNatClampNeg = some b9 ∧ (mK m b9 = 2 ∧ (vp_in l3 (mN m b5) ∧ (mK m t = 4 ∧ (CI g M_Land_settle lv [va_rf (some t), .int (mI m b9 3), .int (mI m b9 4)] m (fun x14 m15 => (vp_in l3 (mN m15 b5) ∧ (∃ b24, mR m15 b9 0 = some b24 ∧ (∃ b26, mR m15 t 1 = some b26 ∧ (mK m15 b26 = 19 ∧ (vp_in l3 (mN m15 b26) ∧ (∃ b30, mR m15 b26 l3.toNatClampNeg = some b30 ∧ (mK m15 b30 = 2 ∧ (∃ b33, mR m15 b30 0 = some b33 ∧ (mK m15 b24 = 15 ∧ (mK m15 b33 = 15 ∧ (¬ (0 : Int32) < 0 ∧ ¬ (0 : Int32) < 0 ∧ ¬ (30 : Int32) < 0 ∧ (0 : Int32).toNatClampNeg + (30 : Int32).toNatClampNeg ≤ mN m15 b24 ∧ (0 : Int32).toNatClampNeg + (30 : Int32).toNatClampNeg ≤ mN m15 b33 ∧ (∀ m42, m42 = rI m15 b33 (va_cpy (mI m15 b24) (mI m15 b33) (0 : Int32).toNatClampNeg (0 : Int32).toNatClampNeg (30 : Int32).toNatClampNeg) → (At g M_Land_liveAgain (lv + 1) 26 [(0, va_rf (some t)), (1, va_rf (some b1)), (2, va_rf (l2)), (3, .int (l3 + (1 : Int32)))] [] m42 (QV Q)))))))))))))))))))))))))) : At g M_Land_liveAgain (lv + 1) 26 [(0, va_rf (some t)), (1, va_rf (l1)), (2, va_rf (l2)), (3, .int (l3))] [] m (QV Q) := by
  refine at_iload_n (i := 3) 3 27 rfl (by decide +kernel) rfl ?_
  refine at_aload_n (i := 1) 1 28 rfl (by decide +kernel) rfl ?_
  obtain ⟨b1, e2, h⟩ := h
  rw [e2]
  obtain ⟨k3, h⟩ := h
  refine at_get (index := 58) (v := .int (mI m b1 8)) cok3 8 31 rfl (by decide +kernel) k3 (by decide +kernel) tw_297 rfl ?_
  refine at_icmp_ge (off := 57) 88 34 rfl (by decide +kernel) (by decide +kernel) (fun c4 => ?_) (fun c4 => ?_)
  · rw [if_pos c4] at h
    refine at_iconst (n := 0) (0 : Int32) 89 rfl (by decide +kernel) (by decide +kernel) ?_
    refine at_istore_n (i := 3) (lc' := [(0, va_rf (some t)), (1, va_rf (some b1)), (2, va_rf (l2)), (3, .int ((0 : Int32)))]) [1, 2, 3, 0] 90 rfl (by decide +kernel) (by decide +kernel) (by generalize l2 = rr; cases rr <;> rfl) ?_
    exact h
  · rw [if_neg c4] at h
    refine at_aload_n (i := 0) 0 35 rfl (by decide +kernel) rfl ?_
    refine at_aload_n (i := 1) 1 36 rfl (by decide +kernel) rfl ?_
    refine at_get (index := 11) (v := va_rf (mR m b1 1)) cok3 1 39 rfl (by decide +kernel) k3 (by decide +kernel) tw_286 rfl ?_
    obtain ⟨b5, e6, h⟩ := h
    rw [e6]
    refine at_iload_n (i := 3) 3 40 rfl (by decide +kernel) rfl ?_
    obtain ⟨k7, h⟩ := h
    obtain ⟨v8, h⟩ := h
    refine at_aaldGrower 41 rfl (by decide +kernel) k7 v8 ?_
    obtain ⟨b9, e10, h⟩ := h
    rw [e10]
    obtain ⟨k11, h⟩ := h
    refine at_get (index := 93) (v := .int (mI m b9 3)) cok1 3 44 rfl (by decide +kernel) k11 (by decide +kernel) tw_213 rfl ?_
    refine at_aload_n (i := 1) 1 45 rfl (by decide +kernel) rfl ?_
    refine at_get (index := 11) (v := va_rf (mR m b1 1)) cok3 1 48 rfl (by decide +kernel) k3 (by decide +kernel) tw_286 rfl ?_
    rw [e6]
    refine at_iload_n (i := 3) 3 49 rfl (by decide +kernel) rfl ?_
    obtain ⟨v12, h⟩ := h
    refine at_aaldGrower 50 rfl (by decide +kernel) k7 v12 ?_
    rw [e10]
    refine at_get (index := 96) (v := .int (mI m b9 4)) cok1 4 53 rfl (by decide +kernel) k11 (by decide +kernel) tw_216 rfl ?_
    obtain ⟨k13, h⟩ := h
    refine at_callV mb_Land_settle tw_483 tw_484 cok3 k13 (index := 99) tw_1022 [.int (mI m b9 3), .int (mI m b9 4)] [] rfl rfl (by decide) 56 rfl (by decide +kernel) (Call.toI (CI.monoE h (fun x14 m15 h y16 => ?_)))
    have k17 : mK m15 b1 = 4 := y16.k k3 (by decide)
    have k18 : mK m15 b5 = 19 := y16.k k7 (by decide)
    have k19 : mK m15 b9 = 2 := y16.k k11 (by decide)
    have k20 : mK m15 t = 4 := y16.k k13 (by decide)
    have e21 : mR m15 b1 1 = some b5 := y16.r k3 (by decide) rfl e6
    have e22 : mR m15 b5 l3.toNatClampNeg = some b9 := y16.r k7 (by decide) rfl e10
    refine at_pop 57 rfl (by decide +kernel) rfl ?_
    refine at_aload_n (i := 1) 1 58 rfl (by decide +kernel) rfl ?_
    refine at_get (index := 11) (v := va_rf (mR m15 b1 1)) cok3 1 61 rfl (by decide +kernel) k17 (by decide +kernel) tw_286 rfl ?_
    rw [e21]
    refine at_iload_n (i := 3) 3 62 rfl (by decide +kernel) rfl ?_
    obtain ⟨v23, h⟩ := h
    refine at_aaldGrower 63 rfl (by decide +kernel) k18 v23 ?_
    rw [e22]
    refine at_get (index := 72) (v := va_rf (mR m15 b9 0)) cok1 0 66 rfl (by decide +kernel) k19 (by decide +kernel) tw_207 rfl ?_
    obtain ⟨b24, e25, h⟩ := h
    rw [e25]
    refine at_iconst (n := 0) (0 : Int32) 67 rfl (by decide +kernel) (by decide +kernel) ?_
    refine at_aload_n (i := 0) 0 68 rfl (by decide +kernel) rfl ?_
    refine at_get (index := 11) (v := va_rf (mR m15 t 1)) cok3 1 71 rfl (by decide +kernel) k20 (by decide +kernel) tw_286 rfl ?_
    obtain ⟨b26, e27, h⟩ := h
    rw [e27]
    refine at_iload_n (i := 3) 3 72 rfl (by decide +kernel) rfl ?_
    obtain ⟨k28, h⟩ := h
    obtain ⟨v29, h⟩ := h
    refine at_aaldGrower 73 rfl (by decide +kernel) k28 v29 ?_
    obtain ⟨b30, e31, h⟩ := h
    rw [e31]
    obtain ⟨k32, h⟩ := h
    refine at_get (index := 72) (v := va_rf (mR m15 b30 0)) cok1 0 76 rfl (by decide +kernel) k32 (by decide +kernel) tw_207 rfl ?_
    obtain ⟨b33, e34, h⟩ := h
    rw [e34]
    refine at_iconst (n := 0) (0 : Int32) 77 rfl (by decide +kernel) (by decide +kernel) ?_
    refine at_bipush (n := 30) (30 : Int32) 79 rfl (by decide +kernel) (by decide +kernel) ?_
    obtain ⟨k35, h⟩ := h
    obtain ⟨k36, h⟩ := h
    obtain ⟨c37, c38, c39, c40, c41, h⟩ := h
    refine at_copyI 82 rfl (by decide +kernel) tw_1023 tw_655 tw_654 tw_82 k35 k36 c37 c38 c39 c40 c41 (by decide) (fun m42 e43 => ?_)
    replace h := h m42 e43
    have x44 : Ext m15 m42 := by rw [e43]; exact Ext.rI _ _ _
    have k45 : mK m42 b1 = 4 := x44.k k17 (by decide)
    have k46 : mK m42 b5 = 19 := x44.k k18 (by decide)
    have k47 : mK m42 b9 = 2 := x44.k k19 (by decide)
    have k48 : mK m42 t = 4 := x44.k k20 (by decide)
    have k49 : mK m42 b26 = 19 := x44.k k28 (by decide)
    have k50 : mK m42 b30 = 2 := x44.k k32 (by decide)
    have k51 : mK m42 b24 = 15 := x44.k k35 (by decide)
    have k52 : mK m42 b33 = 15 := x44.k k36 (by decide)
    have e53 : mR m42 b1 1 = some b5 := x44.r k17 (by decide) rfl e21
    have e54 : mR m42 b5 l3.toNatClampNeg = some b9 := x44.r k18 (by decide) rfl e22
    have e55 : mR m42 b9 0 = some b24 := x44.r k19 (by decide) rfl e25
    have e56 : mR m42 t 1 = some b26 := x44.r k20 (by decide) rfl e27
    have e57 : mR m42 b26 l3.toNatClampNeg = some b30 := x44.r k28 (by decide) rfl e31
    have e58 : mR m42 b30 0 = some b33 := x44.r k32 (by decide) rfl e34
    refine at_iinc (i := 3) (n := 1) (lc' := [(0, va_rf (some t)), (1, va_rf (some b1)), (2, va_rf (l2)), (3, .int (l3 + (1 : Int32)))]) (l3 + (1 : Int32)) 3 [1, 2, 3, 0] 85 rfl (by decide +kernel) rfl (by rw [show Int32.ofInt 1 = (1 : Int32) from by decide +kernel]) (by decide +kernel) (by generalize l2 = rr; cases rr <;> rfl) ?_
    refine at_goto (off := (-59)) 26 (by decide +kernel) (by decide +kernel) ?_
    exact h
set_option maxRecDepth 20000 in
set_option maxHeartbeats 4000000 in
theorem en_Land_liveAgain (g : Gc) {lv : Nat} {t : Nat} {l1 : Option Nat} {l2 : Option Nat} {m : Mm} {Q : Mm → Prop} (h : mK m t = 4 ∧ (∀ m2, m2 = sI m t 9 (0 : Int32) → (∀ m6, m6 = sI m2 t 10 (100 : Int32) → (∃ b10, mR m6 t 3 = some b10 ∧ (mK m6 b10 = 9 ∧ (∀ m13, m13 = sI m6 b10 1 (0 : Int32) → (∀ m19, m19 = sI m13 t 8 (0 : Int32) → (At g M_Land_liveAgain (lv + 1) 26 [(0, va_rf (some t)), (1, va_rf (l1)), (2, va_rf (l2)), (3, .int ((0 : Int32)))] [] m19 (QV Q))))))))) : CV g M_Land_liveAgain (lv + 1) [va_rf (some t), va_rf (l1), va_rf (l2)] m Q := by
  refine Call.of (by decide +kernel) (by simp [lg_sl, va_rf_cat, cat_int, cat_long, M_Land_liveAgain]) ?_
  rw [show lv_args 0 [va_rf (some t), va_rf (l1), va_rf (l2)] = [(0, va_rf (some t)), (1, va_rf (l1)), (2, va_rf (l2))] from by simp [lv_args, va_rf_cat, cat_int, cat_long]]
  refine at_aload_n (i := 0) 0 1 rfl (by decide +kernel) rfl ?_
  refine at_iconst (n := 0) (0 : Int32) 2 rfl (by decide +kernel) (by decide +kernel) ?_
  obtain ⟨k1, h⟩ := h
  refine at_putI (index := 69) cok3 9 5 rfl (by decide +kernel) k1 (by decide +kernel) tw_299 rfl rfl rfl (fun m2 e3 => ?_)
  replace h := h m2 e3
  have x4 : Ext m m2 := by rw [e3]; exact Ext.sI _ _ _ _
  have k5 : mK m2 t = 4 := x4.k k1 (by decide)
  refine at_aload_n (i := 0) 0 6 rfl (by decide +kernel) rfl ?_
  refine at_bipush (n := 100) (100 : Int32) 8 rfl (by decide +kernel) (by decide +kernel) ?_
  refine at_putI (index := 48) cok3 10 11 rfl (by decide +kernel) k5 (by decide +kernel) tw_301 rfl rfl rfl (fun m6 e7 => ?_)
  replace h := h m6 e7
  have x8 : Ext m2 m6 := by rw [e7]; exact Ext.sI _ _ _ _
  have k9 : mK m6 t = 4 := x8.k k5 (by decide)
  refine at_aload_n (i := 0) 0 12 rfl (by decide +kernel) rfl ?_
  refine at_get (index := 26) (v := va_rf (mR m6 t 3)) cok3 3 15 rfl (by decide +kernel) k9 (by decide +kernel) tw_290 rfl ?_
  obtain ⟨b10, e11, h⟩ := h
  rw [e11]
  refine at_iconst (n := 0) (0 : Int32) 16 rfl (by decide +kernel) (by decide +kernel) ?_
  obtain ⟨k12, h⟩ := h
  refine at_putI (index := 90) cok8 1 19 rfl (by decide +kernel) k12 (by decide +kernel) tw_154 rfl rfl rfl (fun m13 e14 => ?_)
  replace h := h m13 e14
  have x15 : Ext m6 m13 := by rw [e14]; exact Ext.sI _ _ _ _
  have k16 : mK m13 t = 4 := x15.k k9 (by decide)
  have k17 : mK m13 b10 = 9 := x15.k k12 (by decide)
  have e18 : mR m13 t 3 = some b10 := x15.r k9 (by decide) rfl e11
  refine at_aload_n (i := 0) 0 20 rfl (by decide +kernel) rfl ?_
  refine at_iconst (n := 0) (0 : Int32) 21 rfl (by decide +kernel) (by decide +kernel) ?_
  refine at_putI (index := 58) cok3 8 24 rfl (by decide +kernel) k16 (by decide +kernel) tw_297 rfl rfl rfl (fun m19 e20 => ?_)
  replace h := h m19 e20
  have x21 : Ext m13 m19 := by rw [e20]; exact Ext.sI _ _ _ _
  have k22 : mK m19 t = 4 := x21.k k16 (by decide)
  have k23 : mK m19 b10 = 9 := x21.k k17 (by decide)
  have e24 : mR m19 t 3 = some b10 := x21.r k16 (by decide) rfl e18
  refine at_iconst (n := 0) (0 : Int32) 25 rfl (by decide +kernel) (by decide +kernel) ?_
  refine at_istore_n (i := 3) (lc' := [(0, va_rf (some t)), (1, va_rf (l1)), (2, va_rf (l2)), (3, .int ((0 : Int32)))]) [1, 2, 3, 0] 26 rfl (by decide +kernel) (by decide +kernel) (by generalize l2 = rr; cases rr <;> rfl) ?_
  exact h
set_option maxRecDepth 20000 in
set_option maxHeartbeats 4000000 in
theorem en_Land_passYear (g : Gc) {lv : Nat} {t : Nat} {l1 : Int32} {l2 : Option Nat} {m : Mm} {Q : Mm → Prop} (h : mK m t = 4 ∧ (CI g M_SL_isWithin lv [.int (mI m t 9), .int ((0 : Int32)), .int ((29 : Int32))] m (fun x2 m3 => (if (x2) = 0 then (Q m3) else (∃ b7, mR m3 t 3 = some b7 ∧ (mK m3 b7 = 9 ∧ (∃ b10, mR m3 t 0 = some b10 ∧ (mK m3 b10 = 11 ∧ (CI g M_Terms_wantedAt lv [va_rf (some b10), .int (mI m3 t 10)] m3 (fun x13 m14 => (∀ m21, m21 = sI m14 t 11 x13 → (∃ b29, mR m21 t 5 = some b29 ∧ (mK m21 b29 = 15 ∧ (vp_in (mI m21 t 9) (mN m21 b29) ∧ (∀ m33, m33 = sI m21 b29 (mI m21 t 9).toNatClampNeg l1 → (CV g M_Land_gatherCrops lv [va_rf (some t), .int (l1)] m33 (fun m43 => (CV g M_Land_applyLaw lv [va_rf (some t), va_rf (l2)] m43 (fun m52 => (CV g M_Land_keepParts lv [va_rf (some t)] m52 (fun m61 => (CV g M_Land_sellStored lv [va_rf (some t), .int (mI m3 b7 1)] m61 (fun m70 => (CV g M_Land_stillStored lv [va_rf (some t)] m70 (fun m79 => (CJ g M_Land_freeInAll lv [va_rf (some t)] m79 (fun x88 m89 => (CV g M_Land_sellFree lv [va_rf (some t), .long (x88)] m89 (fun m98 => (CV g M_Land_stillFree lv [va_rf (some t)] m98 (fun m107 => (∃ b116, mR m107 t 7 = some b116 ∧ (mK m107 b116 = 16 ∧ (vp_in (6 : Int32) (mN m107 b116) ∧ (CJ g M_Store_rot lv [va_rf (some b7), .int (mI m107 b10 6)] m107 (fun x120 m121 => (vp_in (6 : Int32) (mN m121 b116) ∧ (∀ m133, m133 = sL m121 b116 (6 : Int32).toNatClampNeg ((mL m107 b116 (6 : Int32).toNatClampNeg) + x120) → (CV g M_Land_movePrice lv [va_rf (some t), .long (x88)] m133 (fun m145 => (CV g M_Land_tendVines lv [va_rf (some t)] m145 (fun m156 => (CV g M_Land_settleLoans lv [va_rf (some t)] m156 (fun m167 => (∀ m178, m178 = sI m167 t 9 ((mI m167 t 9) + (1 : Int32)) → (Q m178)))))))))))))))))))))))))))))))))))))))))))))) : CV g M_Land_passYear (lv + 1) [va_rf (some t), .int (l1), va_rf (l2)] m Q := by
  refine Call.of (by decide +kernel) (by simp [lg_sl, va_rf_cat, cat_int, cat_long, M_Land_passYear]) ?_
  rw [show lv_args 0 [va_rf (some t), .int (l1), va_rf (l2)] = [(0, va_rf (some t)), (1, .int (l1)), (2, va_rf (l2))] from by simp [lv_args, va_rf_cat, cat_int, cat_long]]
  refine at_aload_n (i := 0) 0 1 rfl (by decide +kernel) rfl ?_
  obtain ⟨k1, h⟩ := h
  refine at_get (index := 69) (v := .int (mI m t 9)) cok3 9 4 rfl (by decide +kernel) k1 (by decide +kernel) tw_299 rfl ?_
  refine at_iconst (n := 0) (0 : Int32) 5 rfl (by decide +kernel) (by decide +kernel) ?_
  refine at_bipush (n := 29) (29 : Int32) 7 rfl (by decide +kernel) (by decide +kernel) ?_
  refine at_callSN mb_SL_isWithin tw_471 (index := 79) (host := "SurplusLand") (by decide +kernel) [.int (mI m t 9), .int ((0 : Int32)), .int ((29 : Int32))] [] rfl rfl (by decide) 10 rfl (by decide +kernel) (Call.toI (CI.monoE h (fun x2 m3 h y4 => ?_)))
  have k5 : mK m3 t = 4 := y4.k k1 (by decide)
  refine at_if_ne (off := 4) 14 13 rfl (by decide +kernel) (by decide +kernel) (fun c6 => ?_) (fun c6 => ?_)
  · rw [if_neg c6] at h
    refine at_aload_n (i := 0) 0 15 rfl (by decide +kernel) rfl ?_
    refine at_get (index := 26) (v := va_rf (mR m3 t 3)) cok3 3 18 rfl (by decide +kernel) k5 (by decide +kernel) tw_290 rfl ?_
    obtain ⟨b7, e8, h⟩ := h
    rw [e8]
    obtain ⟨k9, h⟩ := h
    refine at_get (index := 90) (v := .int (mI m3 b7 1)) cok8 1 21 rfl (by decide +kernel) k9 (by decide +kernel) tw_154 rfl ?_
    refine at_istore_n (i := 3) (lc' := [(0, va_rf (some t)), (1, .int (l1)), (2, va_rf (l2)), (3, .int (mI m3 b7 1))]) [1, 2, 3, 0] 22 rfl (by decide +kernel) (by decide +kernel) (by generalize l2 = rr; cases rr <;> rfl) ?_
    refine at_aload_n (i := 0) 0 23 rfl (by decide +kernel) rfl ?_
    refine at_aload_n (i := 0) 0 24 rfl (by decide +kernel) rfl ?_
    refine at_get (index := 52) (v := va_rf (mR m3 t 0)) cok3 0 27 rfl (by decide +kernel) k5 (by decide +kernel) tw_285 rfl ?_
    obtain ⟨b10, e11, h⟩ := h
    rw [e11]
    refine at_aload_n (i := 0) 0 28 rfl (by decide +kernel) rfl ?_
    refine at_get (index := 48) (v := .int (mI m3 t 10)) cok3 10 31 rfl (by decide +kernel) k5 (by decide +kernel) tw_301 rfl ?_
    obtain ⟨k12, h⟩ := h
    refine at_callV mb_Terms_wantedAt tw_699 tw_700 cok10 k12 (index := 113) tw_698 [.int (mI m3 t 10)] [va_rf (some t)] rfl rfl (by simp [va_rf_cat, cat_int, cat_long]) 34 rfl (by decide +kernel) (Call.toI (CI.monoE h (fun x13 m14 h y15 => ?_)))
    have k16 : mK m14 t = 4 := y15.k k5 (by decide)
    have k17 : mK m14 b7 = 9 := y15.k k9 (by decide)
    have k18 : mK m14 b10 = 11 := y15.k k12 (by decide)
    have e19 : mR m14 t 3 = some b7 := y15.r k5 (by decide) rfl e8
    have e20 : mR m14 t 0 = some b10 := y15.r k5 (by decide) rfl e11
    refine at_putI (index := 119) cok3 11 37 rfl (by decide +kernel) k16 (by decide +kernel) tw_303 rfl rfl rfl (fun m21 e22 => ?_)
    replace h := h m21 e22
    have x23 : Ext m14 m21 := by rw [e22]; exact Ext.sI _ _ _ _
    have k24 : mK m21 t = 4 := x23.k k16 (by decide)
    have k25 : mK m21 b7 = 9 := x23.k k17 (by decide)
    have k26 : mK m21 b10 = 11 := x23.k k18 (by decide)
    have e27 : mR m21 t 3 = some b7 := x23.r k16 (by decide) rfl e19
    have e28 : mR m21 t 0 = some b10 := x23.r k16 (by decide) rfl e20
    refine at_aload_n (i := 0) 0 38 rfl (by decide +kernel) rfl ?_
    refine at_get (index := 37) (v := va_rf (mR m21 t 5)) cok3 5 41 rfl (by decide +kernel) k24 (by decide +kernel) tw_293 rfl ?_
    obtain ⟨b29, e30, h⟩ := h
    rw [e30]
    refine at_aload_n (i := 0) 0 42 rfl (by decide +kernel) rfl ?_
    refine at_get (index := 69) (v := .int (mI m21 t 9)) cok3 9 45 rfl (by decide +kernel) k24 (by decide +kernel) tw_299 rfl ?_
    refine at_iload_n (i := 1) 1 46 rfl (by decide +kernel) rfl ?_
    obtain ⟨k31, h⟩ := h
    obtain ⟨v32, h⟩ := h
    refine at_iast 47 rfl (by decide +kernel) k31 v32 (fun m33 e34 => ?_)
    replace h := h m33 e34
    have x35 : Ext m21 m33 := by rw [e34]; exact Ext.sI _ _ _ _
    have k36 : mK m33 t = 4 := x35.k k24 (by decide)
    have k37 : mK m33 b7 = 9 := x35.k k25 (by decide)
    have k38 : mK m33 b10 = 11 := x35.k k26 (by decide)
    have k39 : mK m33 b29 = 15 := x35.k k31 (by decide)
    have e40 : mR m33 t 3 = some b7 := x35.r k24 (by decide) rfl e27
    have e41 : mR m33 t 0 = some b10 := x35.r k24 (by decide) rfl e28
    have e42 : mR m33 t 5 = some b29 := x35.r k24 (by decide) rfl e30
    refine at_aload_n (i := 0) 0 48 rfl (by decide +kernel) rfl ?_
    refine at_iload_n (i := 1) 1 49 rfl (by decide +kernel) rfl ?_
    refine at_callV mb_Land_gatherCrops tw_708 tw_15 cok3 k36 (index := 122) tw_706 [.int (l1)] [] rfl rfl (by decide) 52 rfl (by decide +kernel) (Call.toV (CV.monoE h (fun m43 h y44 => ?_)))
    have k45 : mK m43 t = 4 := y44.k k36 (by decide)
    have k46 : mK m43 b7 = 9 := y44.k k37 (by decide)
    have k47 : mK m43 b10 = 11 := y44.k k38 (by decide)
    have k48 : mK m43 b29 = 15 := y44.k k39 (by decide)
    have e49 : mR m43 t 3 = some b7 := y44.r k36 (by decide) rfl e40
    have e50 : mR m43 t 0 = some b10 := y44.r k36 (by decide) rfl e41
    have e51 : mR m43 t 5 = some b29 := y44.r k36 (by decide) rfl e42
    refine at_aload_n (i := 0) 0 53 rfl (by decide +kernel) rfl ?_
    refine at_aload_n (i := 2) 2 54 rfl (by decide +kernel) rfl ?_
    refine at_callV mb_Land_applyLaw tw_712 tw_16 cok3 k45 (index := 126) tw_710 [va_rf (l2)] [] rfl rfl (by decide) 57 rfl (by decide +kernel) (Call.toV (CV.monoE h (fun m52 h y53 => ?_)))
    have k54 : mK m52 t = 4 := y53.k k45 (by decide)
    have k55 : mK m52 b7 = 9 := y53.k k46 (by decide)
    have k56 : mK m52 b10 = 11 := y53.k k47 (by decide)
    have k57 : mK m52 b29 = 15 := y53.k k48 (by decide)
    have e58 : mR m52 t 3 = some b7 := y53.r k45 (by decide) rfl e49
    have e59 : mR m52 t 0 = some b10 := y53.r k45 (by decide) rfl e50
    have e60 : mR m52 t 5 = some b29 := y53.r k45 (by decide) rfl e51
    refine at_aload_n (i := 0) 0 58 rfl (by decide +kernel) rfl ?_
    refine at_callV mb_Land_keepParts tw_752 tw_19 cok3 k54 (index := 130) tw_750 [] [] rfl rfl (by decide) 61 rfl (by decide +kernel) (Call.toV (CV.monoE h (fun m61 h y62 => ?_)))
    have k63 : mK m61 t = 4 := y62.k k54 (by decide)
    have k64 : mK m61 b7 = 9 := y62.k k55 (by decide)
    have k65 : mK m61 b10 = 11 := y62.k k56 (by decide)
    have k66 : mK m61 b29 = 15 := y62.k k57 (by decide)
    have e67 : mR m61 t 3 = some b7 := y62.r k54 (by decide) rfl e58
    have e68 : mR m61 t 0 = some b10 := y62.r k54 (by decide) rfl e59
    have e69 : mR m61 t 5 = some b29 := y62.r k54 (by decide) rfl e60
    refine at_aload_n (i := 0) 0 62 rfl (by decide +kernel) rfl ?_
    refine at_iload_n (i := 3) 3 63 rfl (by decide +kernel) rfl ?_
    refine at_callV mb_Land_sellStored tw_803 tw_20 cok3 k63 (index := 133) tw_801 [.int (mI m3 b7 1)] [] rfl rfl (by decide) 66 rfl (by decide +kernel) (Call.toV (CV.monoE h (fun m70 h y71 => ?_)))
    have k72 : mK m70 t = 4 := y71.k k63 (by decide)
    have k73 : mK m70 b7 = 9 := y71.k k64 (by decide)
    have k74 : mK m70 b10 = 11 := y71.k k65 (by decide)
    have k75 : mK m70 b29 = 15 := y71.k k66 (by decide)
    have e76 : mR m70 t 3 = some b7 := y71.r k63 (by decide) rfl e67
    have e77 : mR m70 t 0 = some b10 := y71.r k63 (by decide) rfl e68
    have e78 : mR m70 t 5 = some b29 := y71.r k63 (by decide) rfl e69
    refine at_aload_n (i := 0) 0 67 rfl (by decide +kernel) rfl ?_
    refine at_callV mb_Land_stillStored tw_812 tw_21 cok3 k72 (index := 136) tw_810 [] [] rfl rfl (by decide) 70 rfl (by decide +kernel) (Call.toV (CV.monoE h (fun m79 h y80 => ?_)))
    have k81 : mK m79 t = 4 := y80.k k72 (by decide)
    have k82 : mK m79 b7 = 9 := y80.k k73 (by decide)
    have k83 : mK m79 b10 = 11 := y80.k k74 (by decide)
    have k84 : mK m79 b29 = 15 := y80.k k75 (by decide)
    have e85 : mR m79 t 3 = some b7 := y80.r k72 (by decide) rfl e76
    have e86 : mR m79 t 0 = some b10 := y80.r k72 (by decide) rfl e77
    have e87 : mR m79 t 5 = some b29 := y80.r k72 (by decide) rfl e78
    refine at_aload_n (i := 0) 0 71 rfl (by decide +kernel) rfl ?_
    refine at_callV mb_Land_freeInAll tw_815 tw_816 cok3 k81 (index := 139) tw_814 [] [] rfl rfl (by decide) 74 rfl (by decide +kernel) (Call.toJ (CJ.monoE h (fun x88 m89 h y90 => ?_)))
    have k91 : mK m89 t = 4 := y90.k k81 (by decide)
    have k92 : mK m89 b7 = 9 := y90.k k82 (by decide)
    have k93 : mK m89 b10 = 11 := y90.k k83 (by decide)
    have k94 : mK m89 b29 = 15 := y90.k k84 (by decide)
    have e95 : mR m89 t 3 = some b7 := y90.r k81 (by decide) rfl e85
    have e96 : mR m89 t 0 = some b10 := y90.r k81 (by decide) rfl e86
    have e97 : mR m89 t 5 = some b29 := y90.r k81 (by decide) rfl e87
    refine at_lstore (i := 4) (lc' := [(0, va_rf (some t)), (4, .long (x88))]) [1, 0] 76 rfl (by decide +kernel) (by decide +kernel) rfl ?_
    refine at_aload_n (i := 0) 0 77 rfl (by decide +kernel) rfl ?_
    refine at_lload (i := 4) 1 79 rfl (by decide +kernel) rfl ?_
    refine at_callV mb_Land_sellFree tw_820 tw_22 cok3 k91 (index := 143) tw_818 [.long (x88)] [] rfl rfl (by decide) 82 rfl (by decide +kernel) (Call.toV (CV.monoE h (fun m98 h y99 => ?_)))
    have k100 : mK m98 t = 4 := y99.k k91 (by decide)
    have k101 : mK m98 b7 = 9 := y99.k k92 (by decide)
    have k102 : mK m98 b10 = 11 := y99.k k93 (by decide)
    have k103 : mK m98 b29 = 15 := y99.k k94 (by decide)
    have e104 : mR m98 t 3 = some b7 := y99.r k91 (by decide) rfl e95
    have e105 : mR m98 t 0 = some b10 := y99.r k91 (by decide) rfl e96
    have e106 : mR m98 t 5 = some b29 := y99.r k91 (by decide) rfl e97
    refine at_aload_n (i := 0) 0 83 rfl (by decide +kernel) rfl ?_
    refine at_callV mb_Land_stillFree tw_832 tw_24 cok3 k100 (index := 147) tw_830 [] [] rfl rfl (by decide) 86 rfl (by decide +kernel) (Call.toV (CV.monoE h (fun m107 h y108 => ?_)))
    have k109 : mK m107 t = 4 := y108.k k100 (by decide)
    have k110 : mK m107 b7 = 9 := y108.k k101 (by decide)
    have k111 : mK m107 b10 = 11 := y108.k k102 (by decide)
    have k112 : mK m107 b29 = 15 := y108.k k103 (by decide)
    have e113 : mR m107 t 3 = some b7 := y108.r k100 (by decide) rfl e104
    have e114 : mR m107 t 0 = some b10 := y108.r k100 (by decide) rfl e105
    have e115 : mR m107 t 5 = some b29 := y108.r k100 (by decide) rfl e106
    refine at_aload_n (i := 0) 0 87 rfl (by decide +kernel) rfl ?_
    refine at_get (index := 44) (v := va_rf (mR m107 t 7)) cok3 7 90 rfl (by decide +kernel) k109 (by decide +kernel) tw_295 rfl ?_
    obtain ⟨b116, e117, h⟩ := h
    rw [e117]
    refine at_bipush (n := 6) (6 : Int32) 92 rfl (by decide +kernel) (by decide +kernel) ?_
    refine at_dup2_11 93 rfl (by decide +kernel) rfl (va_rf_cat _) ?_
    obtain ⟨k118, h⟩ := h
    obtain ⟨v119, h⟩ := h
    refine at_lald 94 rfl (by decide +kernel) k118 v119 ?_
    refine at_aload_n (i := 0) 0 95 rfl (by decide +kernel) rfl ?_
    refine at_get (index := 26) (v := va_rf (mR m107 t 3)) cok3 3 98 rfl (by decide +kernel) k109 (by decide +kernel) tw_290 rfl ?_
    rw [e113]
    refine at_aload_n (i := 0) 0 99 rfl (by decide +kernel) rfl ?_
    refine at_get (index := 52) (v := va_rf (mR m107 t 0)) cok3 0 102 rfl (by decide +kernel) k109 (by decide +kernel) tw_285 rfl ?_
    rw [e114]
    refine at_get (index := 150) (v := .int (mI m107 b10 6)) cok10 6 105 rfl (by decide +kernel) k111 (by decide +kernel) tw_117 rfl ?_
    refine at_callV mb_Store_rot tw_836 tw_837 cok8 k110 (index := 153) tw_835 [.int (mI m107 b10 6)] [.long (mL m107 b116 (6 : Int32).toNatClampNeg), .int ((6 : Int32)), va_rf (some b116)] rfl rfl (by simp [va_rf_cat, cat_int, cat_long]) 108 rfl (by decide +kernel) (Call.toJ (CJ.monoE h (fun x120 m121 h y122 => ?_)))
    have k123 : mK m121 t = 4 := y122.k k109 (by decide)
    have k124 : mK m121 b7 = 9 := y122.k k110 (by decide)
    have k125 : mK m121 b10 = 11 := y122.k k111 (by decide)
    have k126 : mK m121 b29 = 15 := y122.k k112 (by decide)
    have k127 : mK m121 b116 = 16 := y122.k k118 (by decide)
    have e128 : mR m121 t 3 = some b7 := y122.r k109 (by decide) rfl e113
    have e129 : mR m121 t 0 = some b10 := y122.r k109 (by decide) rfl e114
    have e130 : mR m121 t 5 = some b29 := y122.r k109 (by decide) rfl e115
    have e131 : mR m121 t 7 = some b116 := y122.r k109 (by decide) rfl e117
    refine at_ladd 109 rfl (by decide +kernel) ?_
    obtain ⟨v132, h⟩ := h
    refine at_last 110 rfl (by decide +kernel) k127 v132 (fun m133 e134 => ?_)
    replace h := h m133 e134
    have x135 : Ext m121 m133 := by rw [e134]; exact Ext.sL _ _ _ _
    have k136 : mK m133 t = 4 := x135.k k123 (by decide)
    have k137 : mK m133 b7 = 9 := x135.k k124 (by decide)
    have k138 : mK m133 b10 = 11 := x135.k k125 (by decide)
    have k139 : mK m133 b29 = 15 := x135.k k126 (by decide)
    have k140 : mK m133 b116 = 16 := x135.k k127 (by decide)
    have e141 : mR m133 t 3 = some b7 := x135.r k123 (by decide) rfl e128
    have e142 : mR m133 t 0 = some b10 := x135.r k123 (by decide) rfl e129
    have e143 : mR m133 t 5 = some b29 := x135.r k123 (by decide) rfl e130
    have e144 : mR m133 t 7 = some b116 := x135.r k123 (by decide) rfl e131
    refine at_aload_n (i := 0) 0 111 rfl (by decide +kernel) rfl ?_
    refine at_lload (i := 4) 1 113 rfl (by decide +kernel) rfl ?_
    refine at_callV mb_Land_movePrice tw_842 tw_25 cok3 k136 (index := 157) tw_840 [.long (x88)] [] rfl rfl (by decide) 116 rfl (by decide +kernel) (Call.toV (CV.monoE h (fun m145 h y146 => ?_)))
    have k147 : mK m145 t = 4 := y146.k k136 (by decide)
    have k148 : mK m145 b7 = 9 := y146.k k137 (by decide)
    have k149 : mK m145 b10 = 11 := y146.k k138 (by decide)
    have k150 : mK m145 b29 = 15 := y146.k k139 (by decide)
    have k151 : mK m145 b116 = 16 := y146.k k140 (by decide)
    have e152 : mR m145 t 3 = some b7 := y146.r k136 (by decide) rfl e141
    have e153 : mR m145 t 0 = some b10 := y146.r k136 (by decide) rfl e142
    have e154 : mR m145 t 5 = some b29 := y146.r k136 (by decide) rfl e143
    have e155 : mR m145 t 7 = some b116 := y146.r k136 (by decide) rfl e144
    refine at_aload_n (i := 0) 0 117 rfl (by decide +kernel) rfl ?_
    refine at_callV mb_Land_tendVines tw_848 tw_26 cok3 k147 (index := 160) tw_846 [] [] rfl rfl (by decide) 120 rfl (by decide +kernel) (Call.toV (CV.monoE h (fun m156 h y157 => ?_)))
    have k158 : mK m156 t = 4 := y157.k k147 (by decide)
    have k159 : mK m156 b7 = 9 := y157.k k148 (by decide)
    have k160 : mK m156 b10 = 11 := y157.k k149 (by decide)
    have k161 : mK m156 b29 = 15 := y157.k k150 (by decide)
    have k162 : mK m156 b116 = 16 := y157.k k151 (by decide)
    have e163 : mR m156 t 3 = some b7 := y157.r k147 (by decide) rfl e152
    have e164 : mR m156 t 0 = some b10 := y157.r k147 (by decide) rfl e153
    have e165 : mR m156 t 5 = some b29 := y157.r k147 (by decide) rfl e154
    have e166 : mR m156 t 7 = some b116 := y157.r k147 (by decide) rfl e155
    refine at_aload_n (i := 0) 0 121 rfl (by decide +kernel) rfl ?_
    refine at_callV mb_Land_settleLoans tw_862 tw_27 cok3 k158 (index := 163) tw_860 [] [] rfl rfl (by decide) 124 rfl (by decide +kernel) (Call.toV (CV.monoE h (fun m167 h y168 => ?_)))
    have k169 : mK m167 t = 4 := y168.k k158 (by decide)
    have k170 : mK m167 b7 = 9 := y168.k k159 (by decide)
    have k171 : mK m167 b10 = 11 := y168.k k160 (by decide)
    have k172 : mK m167 b29 = 15 := y168.k k161 (by decide)
    have k173 : mK m167 b116 = 16 := y168.k k162 (by decide)
    have e174 : mR m167 t 3 = some b7 := y168.r k158 (by decide) rfl e163
    have e175 : mR m167 t 0 = some b10 := y168.r k158 (by decide) rfl e164
    have e176 : mR m167 t 5 = some b29 := y168.r k158 (by decide) rfl e165
    have e177 : mR m167 t 7 = some b116 := y168.r k158 (by decide) rfl e166
    refine at_aload_n (i := 0) 0 125 rfl (by decide +kernel) rfl ?_
    refine at_dup 126 rfl (by decide +kernel) (va_rf_cat _) ?_
    refine at_get (index := 69) (v := .int (mI m167 t 9)) cok3 9 129 rfl (by decide +kernel) k169 (by decide +kernel) tw_299 rfl ?_
    refine at_iconst (n := 1) (1 : Int32) 130 rfl (by decide +kernel) (by decide +kernel) ?_
    refine at_iadd 131 rfl (by decide +kernel) ?_
    refine at_putI (index := 69) cok3 9 134 rfl (by decide +kernel) k169 (by decide +kernel) tw_299 rfl rfl rfl (fun m178 e179 => ?_)
    replace h := h m178 e179
    have x180 : Ext m167 m178 := by rw [e179]; exact Ext.sI _ _ _ _
    have k181 : mK m178 t = 4 := x180.k k169 (by decide)
    have k182 : mK m178 b7 = 9 := x180.k k170 (by decide)
    have k183 : mK m178 b10 = 11 := x180.k k171 (by decide)
    have k184 : mK m178 b29 = 15 := x180.k k172 (by decide)
    have k185 : mK m178 b116 = 16 := x180.k k173 (by decide)
    have e186 : mR m178 t 3 = some b7 := x180.r k169 (by decide) rfl e174
    have e187 : mR m178 t 0 = some b10 := x180.r k169 (by decide) rfl e175
    have e188 : mR m178 t 5 = some b29 := x180.r k169 (by decide) rfl e176
    have e189 : mR m178 t 7 = some b116 := x180.r k169 (by decide) rfl e177
    exact at_vret rfl (by decide +kernel) h
  · rw [if_pos c6] at h
    exact at_vret rfl (by decide +kernel) h
set_option maxRecDepth 20000 in
set_option maxHeartbeats 4000000 in
theorem bk_Land_gatherCrops_48 (g : Gc) {lv : Nat} {t : Nat} {l1 : Int32} {l2 : Int32} {l3 : Option Nat} {s0 : Int32} {m : Mm} {Q : Mm → Prop} (h : ∃ b1, l3 = some b1 ∧ (mK m b1 = 2 ∧ (∃ b4, mR m b1 1 = some b4 ∧ (mK m t = 4 ∧ (mK m b4 = 15 ∧ (vp_in (mI m t 9) (mN m b4) ∧ (∀ m9, m9 = sI m b4 (mI m t 9).toNatClampNeg s0 → (∀ m16, m16 = sI m9 b1 9 ((mI m9 b1 9) + s0) → (∃ b23, mR m16 t 7 = some b23 ∧ (mK m16 b23 = 16 ∧ (vp_in (0 : Int32) (mN m16 b23) ∧ (vp_in (0 : Int32) (mN m16 b23) ∧ (∀ m28, m28 = sL m16 b23 (0 : Int32).toNatClampNeg ((mL m16 b23 (0 : Int32).toNatClampNeg) + s0.toInt64) → (At g M_Land_gatherCrops (lv + 1) 2 [(0, va_rf (some t)), (1, .int (l1)), (2, .int (l2 + (1 : Int32)))] [] m28 (QV Q))))))))))))))) : At g M_Land_gatherCrops (lv + 1) 48 [(0, va_rf (some t)), (1, .int (l1)), (2, .int (l2)), (3, va_rf (l3))] [.int (s0)] m (QV Q) := by
  refine at_istore (i := 4) (lc' := [(0, va_rf (some t)), (1, .int (l1)), (2, .int (l2)), (3, va_rf (l3)), (4, .int (s0))]) [1, 2, 3, 4, 0] 50 rfl (by decide +kernel) (by decide +kernel) (by generalize l3 = rr; cases rr <;> rfl) ?_
  refine at_aload_n (i := 3) 3 51 rfl (by decide +kernel) rfl ?_
  obtain ⟨b1, e2, h⟩ := h
  rw [e2]
  obtain ⟨k3, h⟩ := h
  refine at_get (index := 166) (v := va_rf (mR m b1 1)) cok1 1 54 rfl (by decide +kernel) k3 (by decide +kernel) tw_209 rfl ?_
  obtain ⟨b4, e5, h⟩ := h
  rw [e5]
  refine at_aload_n (i := 0) 0 55 rfl (by decide +kernel) rfl ?_
  obtain ⟨k6, h⟩ := h
  refine at_get (index := 69) (v := .int (mI m t 9)) cok3 9 58 rfl (by decide +kernel) k6 (by decide +kernel) tw_299 rfl ?_
  refine at_iload (i := 4) 4 60 rfl (by decide +kernel) rfl ?_
  obtain ⟨k7, h⟩ := h
  obtain ⟨v8, h⟩ := h
  refine at_iast 61 rfl (by decide +kernel) k7 v8 (fun m9 e10 => ?_)
  replace h := h m9 e10
  have x11 : Ext m m9 := by rw [e10]; exact Ext.sI _ _ _ _
  have k12 : mK m9 b1 = 2 := x11.k k3 (by decide)
  have k13 : mK m9 t = 4 := x11.k k6 (by decide)
  have k14 : mK m9 b4 = 15 := x11.k k7 (by decide)
  have e15 : mR m9 b1 1 = some b4 := x11.r k3 (by decide) rfl e5
  refine at_aload_n (i := 3) 3 62 rfl (by decide +kernel) rfl ?_
  refine at_dup 63 rfl (by decide +kernel) (va_rf_cat _) ?_
  refine at_get (index := 84) (v := .int (mI m9 b1 9)) cok1 9 66 rfl (by decide +kernel) k12 (by decide +kernel) tw_227 rfl ?_
  refine at_iload (i := 4) 4 68 rfl (by decide +kernel) rfl ?_
  refine at_iadd 69 rfl (by decide +kernel) ?_
  refine at_putI (index := 84) cok1 9 72 rfl (by decide +kernel) k12 (by decide +kernel) tw_227 rfl rfl rfl (fun m16 e17 => ?_)
  replace h := h m16 e17
  have x18 : Ext m9 m16 := by rw [e17]; exact Ext.sI _ _ _ _
  have k19 : mK m16 b1 = 2 := x18.k k12 (by decide)
  have k20 : mK m16 t = 4 := x18.k k13 (by decide)
  have k21 : mK m16 b4 = 15 := x18.k k14 (by decide)
  have e22 : mR m16 b1 1 = some b4 := x18.r k12 (by decide) rfl e15
  refine at_aload_n (i := 0) 0 73 rfl (by decide +kernel) rfl ?_
  refine at_get (index := 44) (v := va_rf (mR m16 t 7)) cok3 7 76 rfl (by decide +kernel) k20 (by decide +kernel) tw_295 rfl ?_
  obtain ⟨b23, e24, h⟩ := h
  rw [e24]
  refine at_iconst (n := 0) (0 : Int32) 77 rfl (by decide +kernel) (by decide +kernel) ?_
  refine at_dup2_11 78 rfl (by decide +kernel) rfl (va_rf_cat _) ?_
  obtain ⟨k25, h⟩ := h
  obtain ⟨v26, h⟩ := h
  refine at_lald 79 rfl (by decide +kernel) k25 v26 ?_
  refine at_iload (i := 4) 4 81 rfl (by decide +kernel) rfl ?_
  refine at_i2l 82 rfl (by decide +kernel) ?_
  refine at_ladd 83 rfl (by decide +kernel) ?_
  obtain ⟨v27, h⟩ := h
  refine at_last 84 rfl (by decide +kernel) k25 v27 (fun m28 e29 => ?_)
  replace h := h m28 e29
  have x30 : Ext m16 m28 := by rw [e29]; exact Ext.sL _ _ _ _
  have k31 : mK m28 b1 = 2 := x30.k k19 (by decide)
  have k32 : mK m28 t = 4 := x30.k k20 (by decide)
  have k33 : mK m28 b4 = 15 := x30.k k21 (by decide)
  have k34 : mK m28 b23 = 16 := x30.k k25 (by decide)
  have e35 : mR m28 b1 1 = some b4 := x30.r k19 (by decide) rfl e22
  have e36 : mR m28 t 7 = some b23 := x30.r k20 (by decide) rfl e24
  refine at_iinc (i := 2) (n := 1) (lc' := [(0, va_rf (some t)), (1, .int (l1)), (2, .int (l2 + (1 : Int32)))]) (l2 + (1 : Int32)) 2 [1, 2, 0] 87 rfl (by decide +kernel) rfl (by rw [show Int32.ofInt 1 = (1 : Int32) from by decide +kernel]) (by decide +kernel) rfl ?_
  refine at_goto (off := (-85)) 2 (by decide +kernel) (by decide +kernel) ?_
  exact h
set_option maxRecDepth 20000 in
set_option maxHeartbeats 4000000 in
theorem bk_Land_gatherCrops_2 (g : Gc) {lv : Nat} {t : Nat} {l1 : Int32} {l2 : Int32} {m : Mm} {Q : Mm → Prop} (h : mK m t = 4 ∧ (if (mI m t 8) ≤ (l2) then (Q m) else (∃ b3, mR m t 1 = some b3 ∧ (mK m b3 = 19 ∧ (vp_in l2 (mN m b3) ∧ (∃ b7, mR m b3 l2.toNatClampNeg = some b7 ∧ (mK m b7 = 2 ∧ (∃ b10, mR m b7 0 = some b10 ∧ (mK m b10 = 15 ∧ (vp_in (mI m t 9) (mN m b10) ∧ (if (mI m b10 (mI m t 9).toNatClampNeg) = ((-1 : Int32)) then (At g M_Land_gatherCrops (lv + 1) 48 [(0, va_rf (some t)), (1, .int (l1)), (2, .int (l2)), (3, va_rf (some b7))] [.int ((mI m b7 5) * l1)] m (QV Q)) else (vp_in (mI m t 9) (mN m b10) ∧ (At g M_Land_gatherCrops (lv + 1) 48 [(0, va_rf (some t)), (1, .int (l1)), (2, .int (l2)), (3, va_rf (some b7))] [.int (mI m b10 (mI m t 9).toNatClampNeg)] m (QV Q)))))))))))))) : At g M_Land_gatherCrops (lv + 1) 2 [(0, va_rf (some t)), (1, .int (l1)), (2, .int (l2))] [] m (QV Q) := by
  refine at_iload_n (i := 2) 2 3 rfl (by decide +kernel) rfl ?_
  refine at_aload_n (i := 0) 0 4 rfl (by decide +kernel) rfl ?_
  obtain ⟨k1, h⟩ := h
  refine at_get (index := 58) (v := .int (mI m t 8)) cok3 8 7 rfl (by decide +kernel) k1 (by decide +kernel) tw_297 rfl ?_
  refine at_icmp_ge (off := 83) 90 10 rfl (by decide +kernel) (by decide +kernel) (fun c2 => ?_) (fun c2 => ?_)
  · rw [if_pos c2] at h
    exact at_vret rfl (by decide +kernel) h
  · rw [if_neg c2] at h
    refine at_aload_n (i := 0) 0 11 rfl (by decide +kernel) rfl ?_
    refine at_get (index := 11) (v := va_rf (mR m t 1)) cok3 1 14 rfl (by decide +kernel) k1 (by decide +kernel) tw_286 rfl ?_
    obtain ⟨b3, e4, h⟩ := h
    rw [e4]
    refine at_iload_n (i := 2) 2 15 rfl (by decide +kernel) rfl ?_
    obtain ⟨k5, h⟩ := h
    obtain ⟨v6, h⟩ := h
    refine at_aaldGrower 16 rfl (by decide +kernel) k5 v6 ?_
    refine at_astore_n (i := 3) (lc' := [(0, va_rf (some t)), (1, .int (l1)), (2, .int (l2)), (3, va_rf (mR m b3 l2.toNatClampNeg))]) [1, 2, 3, 0] 17 rfl (by decide +kernel) (by decide +kernel) rfl ?_
    refine at_aload_n (i := 3) 3 18 rfl (by decide +kernel) rfl ?_
    obtain ⟨b7, e8, h⟩ := h
    rw [e8]
    obtain ⟨k9, h⟩ := h
    refine at_get (index := 72) (v := va_rf (mR m b7 0)) cok1 0 21 rfl (by decide +kernel) k9 (by decide +kernel) tw_207 rfl ?_
    obtain ⟨b10, e11, h⟩ := h
    rw [e11]
    refine at_aload_n (i := 0) 0 22 rfl (by decide +kernel) rfl ?_
    refine at_get (index := 69) (v := .int (mI m t 9)) cok3 9 25 rfl (by decide +kernel) k1 (by decide +kernel) tw_299 rfl ?_
    obtain ⟨k12, h⟩ := h
    obtain ⟨v13, h⟩ := h
    refine at_iald 26 rfl (by decide +kernel) k12 v13 ?_
    refine at_iconst (n := (-1)) (-1 : Int32) 27 rfl (by decide +kernel) (by decide +kernel) ?_
    refine at_icmp_ne (off := 12) 39 30 rfl (by decide +kernel) (by decide +kernel) (fun c14 => ?_) (fun c14 => ?_)
    · rw [if_neg c14] at h
      refine at_aload_n (i := 3) 3 40 rfl (by decide +kernel) rfl ?_
      refine at_get (index := 72) (v := va_rf (mR m b7 0)) cok1 0 43 rfl (by decide +kernel) k9 (by decide +kernel) tw_207 rfl ?_
      rw [e11]
      refine at_aload_n (i := 0) 0 44 rfl (by decide +kernel) rfl ?_
      refine at_get (index := 69) (v := .int (mI m t 9)) cok3 9 47 rfl (by decide +kernel) k1 (by decide +kernel) tw_299 rfl ?_
      obtain ⟨v15, h⟩ := h
      refine at_iald 48 rfl (by decide +kernel) k12 v15 ?_
      exact h
    · rw [if_pos c14] at h
      refine at_aload_n (i := 3) 3 31 rfl (by decide +kernel) rfl ?_
      refine at_get (index := 87) (v := .int (mI m b7 5)) cok1 5 34 rfl (by decide +kernel) k9 (by decide +kernel) tw_218 rfl ?_
      refine at_iload_n (i := 1) 1 35 rfl (by decide +kernel) rfl ?_
      refine at_imul 36 rfl (by decide +kernel) ?_
      refine at_goto (off := 12) 48 (by decide +kernel) (by decide +kernel) ?_
      exact h
set_option maxRecDepth 20000 in
set_option maxHeartbeats 4000000 in
theorem en_Land_gatherCrops (g : Gc) {lv : Nat} {t : Nat} {l1 : Int32} {m : Mm} {Q : Mm → Prop} (h : At g M_Land_gatherCrops (lv + 1) 2 [(0, va_rf (some t)), (1, .int (l1)), (2, .int ((0 : Int32)))] [] m (QV Q)) : CV g M_Land_gatherCrops (lv + 1) [va_rf (some t), .int (l1)] m Q := by
  refine Call.of (by decide +kernel) (Nat.le_of_ble_eq_true rfl) ?_
  show At g M_Land_gatherCrops (lv + 1) 0 [(0, va_rf (some t)), (1, .int (l1))] [] m (QV Q)
  refine at_iconst (n := 0) (0 : Int32) 1 rfl (by decide +kernel) (by decide +kernel) ?_
  refine at_istore_n (i := 2) (lc' := [(0, va_rf (some t)), (1, .int (l1)), (2, .int ((0 : Int32)))]) [1, 2, 0] 2 rfl (by decide +kernel) (by decide +kernel) rfl ?_
  exact h
set_option maxRecDepth 20000 in
set_option maxHeartbeats 4000000 in
theorem bk_Land_applyLaw_5 (g : Gc) {lv : Nat} {t : Nat} {l1 : Option Nat} {l2 : Int64} {l4 : Int32} {m : Mm} {Q : Mm → Prop} (h : mK m t = 4 ∧ (if (mI m t 8) ≤ (l4) then (∃ b3, mR m t 4 = some b3 ∧ (mK m b3 = 3 ∧ (∃ b6, mR m b3 0 = some b6 ∧ (mK m b6 = 16 ∧ (vp_in (0 : Int32) (mN m b6) ∧ (∀ m10, m10 = sL m b6 (0 : Int32).toNatClampNeg l2 → (∃ b18, mR m10 t 3 = some b18 ∧ (mK m10 b18 = 9 ∧ (CJ g M_Store_sacksInAll lv [va_rf (some b18)] m10 (fun x21 m22 => (vp_in (1 : Int32) (mN m22 b6) ∧ (∀ m32, m32 = sL m22 b6 (1 : Int32).toNatClampNeg x21 → (CJ g M_Store_sacksBefore lv [va_rf (some b18), .int ((mI m32 t 9) - (1 : Int32))] m32 (fun x42 m43 => (vp_in (2 : Int32) (mN m43 b6) ∧ (∀ m53, m53 = sL m43 b6 (2 : Int32).toNatClampNeg x42 → (vp_in (3 : Int32) (mN m53 b6) ∧ (∀ m64, m64 = sL m53 b6 (3 : Int32).toNatClampNeg ((mI m53 t 10).toInt64) → (vp_in (4 : Int32) (mN m64 b6) ∧ (∀ m75, m75 = sL m64 b6 (4 : Int32).toNatClampNeg ((mI m64 t 11).toInt64) → (vp_in (5 : Int32) (mN m75 b6) ∧ (∀ m86, m86 = sL m75 b6 (5 : Int32).toNatClampNeg ((mI m75 t 9).toInt64) → (CV g M_Judge_hear lv [va_rf (some b3), va_rf (l1)] m86 (fun m96 => (∀ m105, m105 = sI m96 t 12 (mI m96 b3 5) → (∃ b115, mR m105 t 6 = some b115 ∧ (mK m105 b115 = 15 ∧ (vp_in (mI m105 t 9) (mN m105 b115) ∧ (∀ m119, m119 = sI m105 b115 (mI m105 t 9).toNatClampNeg (mI m105 t 12) → (Q m119)))))))))))))))))))))))))))))) else (∃ b131, mR m t 1 = some b131 ∧ (mK m b131 = 19 ∧ (vp_in l4 (mN m b131) ∧ (∃ b135, mR m b131 l4.toNatClampNeg = some b135 ∧ (mK m b135 = 2 ∧ (∃ b138, mR m b135 1 = some b138 ∧ (mK m b138 = 15 ∧ (vp_in (mI m t 9) (mN m b138) ∧ (At g M_Land_applyLaw (lv + 1) 5 [(0, va_rf (some t)), (1, va_rf (l1)), (2, .long (l2 + ((mI m b138 (mI m t 9).toNatClampNeg).toInt64))), (4, .int (l4 + (1 : Int32)))] [] m (QV Q)))))))))))) : At g M_Land_applyLaw (lv + 1) 5 [(0, va_rf (some t)), (1, va_rf (l1)), (2, .long (l2)), (4, .int (l4))] [] m (QV Q) := by
  refine at_iload (i := 4) 3 7 rfl (by decide +kernel) rfl ?_
  refine at_aload_n (i := 0) 0 8 rfl (by decide +kernel) rfl ?_
  obtain ⟨k1, h⟩ := h
  refine at_get (index := 58) (v := .int (mI m t 8)) cok3 8 11 rfl (by decide +kernel) k1 (by decide +kernel) tw_297 rfl ?_
  refine at_icmp_ge (off := 28) 39 14 rfl (by decide +kernel) (by decide +kernel) (fun c2 => ?_) (fun c2 => ?_)
  · rw [if_pos c2] at h
    refine at_aload_n (i := 0) 0 40 rfl (by decide +kernel) rfl ?_
    refine at_get (index := 33) (v := va_rf (mR m t 4)) cok3 4 43 rfl (by decide +kernel) k1 (by decide +kernel) tw_292 rfl ?_
    obtain ⟨b3, e4, h⟩ := h
    rw [e4]
    obtain ⟨k5, h⟩ := h
    refine at_get (index := 169) (v := va_rf (mR m b3 0)) cok2 0 46 rfl (by decide +kernel) k5 (by decide +kernel) tw_168 rfl ?_
    obtain ⟨b6, e7, h⟩ := h
    rw [e7]
    refine at_iconst (n := 0) (0 : Int32) 47 rfl (by decide +kernel) (by decide +kernel) ?_
    refine at_lload_n (i := 2) 2 48 rfl (by decide +kernel) rfl ?_
    obtain ⟨k8, h⟩ := h
    obtain ⟨v9, h⟩ := h
    refine at_last 49 rfl (by decide +kernel) k8 v9 (fun m10 e11 => ?_)
    replace h := h m10 e11
    have x12 : Ext m m10 := by rw [e11]; exact Ext.sL _ _ _ _
    have k13 : mK m10 t = 4 := x12.k k1 (by decide)
    have k14 : mK m10 b3 = 3 := x12.k k5 (by decide)
    have k15 : mK m10 b6 = 16 := x12.k k8 (by decide)
    have e16 : mR m10 t 4 = some b3 := x12.r k1 (by decide) rfl e4
    have e17 : mR m10 b3 0 = some b6 := x12.r k5 (by decide) rfl e7
    refine at_aload_n (i := 0) 0 50 rfl (by decide +kernel) rfl ?_
    refine at_get (index := 33) (v := va_rf (mR m10 t 4)) cok3 4 53 rfl (by decide +kernel) k13 (by decide +kernel) tw_292 rfl ?_
    rw [e16]
    refine at_get (index := 169) (v := va_rf (mR m10 b3 0)) cok2 0 56 rfl (by decide +kernel) k14 (by decide +kernel) tw_168 rfl ?_
    rw [e17]
    refine at_iconst (n := 1) (1 : Int32) 57 rfl (by decide +kernel) (by decide +kernel) ?_
    refine at_aload_n (i := 0) 0 58 rfl (by decide +kernel) rfl ?_
    refine at_get (index := 26) (v := va_rf (mR m10 t 3)) cok3 3 61 rfl (by decide +kernel) k13 (by decide +kernel) tw_290 rfl ?_
    obtain ⟨b18, e19, h⟩ := h
    rw [e19]
    obtain ⟨k20, h⟩ := h
    refine at_callV mb_Store_sacksInAll tw_715 tw_716 cok8 k20 (index := 172) tw_714 [] [.int ((1 : Int32)), va_rf (some b6)] rfl rfl (by simp [va_rf_cat, cat_int, cat_long]) 64 rfl (by decide +kernel) (Call.toJ (CJ.monoE h (fun x21 m22 h y23 => ?_)))
    have k24 : mK m22 t = 4 := y23.k k13 (by decide)
    have k25 : mK m22 b3 = 3 := y23.k k14 (by decide)
    have k26 : mK m22 b6 = 16 := y23.k k15 (by decide)
    have k27 : mK m22 b18 = 9 := y23.k k20 (by decide)
    have e28 : mR m22 t 4 = some b3 := y23.r k13 (by decide) rfl e16
    have e29 : mR m22 b3 0 = some b6 := y23.r k14 (by decide) rfl e17
    have e30 : mR m22 t 3 = some b18 := y23.r k13 (by decide) rfl e19
    obtain ⟨v31, h⟩ := h
    refine at_last 65 rfl (by decide +kernel) k26 v31 (fun m32 e33 => ?_)
    replace h := h m32 e33
    have x34 : Ext m22 m32 := by rw [e33]; exact Ext.sL _ _ _ _
    have k35 : mK m32 t = 4 := x34.k k24 (by decide)
    have k36 : mK m32 b3 = 3 := x34.k k25 (by decide)
    have k37 : mK m32 b6 = 16 := x34.k k26 (by decide)
    have k38 : mK m32 b18 = 9 := x34.k k27 (by decide)
    have e39 : mR m32 t 4 = some b3 := x34.r k24 (by decide) rfl e28
    have e40 : mR m32 b3 0 = some b6 := x34.r k25 (by decide) rfl e29
    have e41 : mR m32 t 3 = some b18 := x34.r k24 (by decide) rfl e30
    refine at_aload_n (i := 0) 0 66 rfl (by decide +kernel) rfl ?_
    refine at_get (index := 33) (v := va_rf (mR m32 t 4)) cok3 4 69 rfl (by decide +kernel) k35 (by decide +kernel) tw_292 rfl ?_
    rw [e39]
    refine at_get (index := 169) (v := va_rf (mR m32 b3 0)) cok2 0 72 rfl (by decide +kernel) k36 (by decide +kernel) tw_168 rfl ?_
    rw [e40]
    refine at_iconst (n := 2) (2 : Int32) 73 rfl (by decide +kernel) (by decide +kernel) ?_
    refine at_aload_n (i := 0) 0 74 rfl (by decide +kernel) rfl ?_
    refine at_get (index := 26) (v := va_rf (mR m32 t 3)) cok3 3 77 rfl (by decide +kernel) k35 (by decide +kernel) tw_290 rfl ?_
    rw [e41]
    refine at_aload_n (i := 0) 0 78 rfl (by decide +kernel) rfl ?_
    refine at_get (index := 69) (v := .int (mI m32 t 9)) cok3 9 81 rfl (by decide +kernel) k35 (by decide +kernel) tw_299 rfl ?_
    refine at_iconst (n := 1) (1 : Int32) 82 rfl (by decide +kernel) (by decide +kernel) ?_
    refine at_isub 83 rfl (by decide +kernel) ?_
    refine at_callV mb_Store_sacksBefore tw_719 tw_720 cok8 k38 (index := 175) tw_722 [.int ((mI m32 t 9) - (1 : Int32))] [.int ((2 : Int32)), va_rf (some b6)] rfl rfl (by simp [va_rf_cat, cat_int, cat_long]) 86 rfl (by decide +kernel) (Call.toJ (CJ.monoE h (fun x42 m43 h y44 => ?_)))
    have k45 : mK m43 t = 4 := y44.k k35 (by decide)
    have k46 : mK m43 b3 = 3 := y44.k k36 (by decide)
    have k47 : mK m43 b6 = 16 := y44.k k37 (by decide)
    have k48 : mK m43 b18 = 9 := y44.k k38 (by decide)
    have e49 : mR m43 t 4 = some b3 := y44.r k35 (by decide) rfl e39
    have e50 : mR m43 b3 0 = some b6 := y44.r k36 (by decide) rfl e40
    have e51 : mR m43 t 3 = some b18 := y44.r k35 (by decide) rfl e41
    obtain ⟨v52, h⟩ := h
    refine at_last 87 rfl (by decide +kernel) k47 v52 (fun m53 e54 => ?_)
    replace h := h m53 e54
    have x55 : Ext m43 m53 := by rw [e54]; exact Ext.sL _ _ _ _
    have k56 : mK m53 t = 4 := x55.k k45 (by decide)
    have k57 : mK m53 b3 = 3 := x55.k k46 (by decide)
    have k58 : mK m53 b6 = 16 := x55.k k47 (by decide)
    have k59 : mK m53 b18 = 9 := x55.k k48 (by decide)
    have e60 : mR m53 t 4 = some b3 := x55.r k45 (by decide) rfl e49
    have e61 : mR m53 b3 0 = some b6 := x55.r k46 (by decide) rfl e50
    have e62 : mR m53 t 3 = some b18 := x55.r k45 (by decide) rfl e51
    refine at_aload_n (i := 0) 0 88 rfl (by decide +kernel) rfl ?_
    refine at_get (index := 33) (v := va_rf (mR m53 t 4)) cok3 4 91 rfl (by decide +kernel) k56 (by decide +kernel) tw_292 rfl ?_
    rw [e60]
    refine at_get (index := 169) (v := va_rf (mR m53 b3 0)) cok2 0 94 rfl (by decide +kernel) k57 (by decide +kernel) tw_168 rfl ?_
    rw [e61]
    refine at_iconst (n := 3) (3 : Int32) 95 rfl (by decide +kernel) (by decide +kernel) ?_
    refine at_aload_n (i := 0) 0 96 rfl (by decide +kernel) rfl ?_
    refine at_get (index := 48) (v := .int (mI m53 t 10)) cok3 10 99 rfl (by decide +kernel) k56 (by decide +kernel) tw_301 rfl ?_
    refine at_i2l 100 rfl (by decide +kernel) ?_
    obtain ⟨v63, h⟩ := h
    refine at_last 101 rfl (by decide +kernel) k58 v63 (fun m64 e65 => ?_)
    replace h := h m64 e65
    have x66 : Ext m53 m64 := by rw [e65]; exact Ext.sL _ _ _ _
    have k67 : mK m64 t = 4 := x66.k k56 (by decide)
    have k68 : mK m64 b3 = 3 := x66.k k57 (by decide)
    have k69 : mK m64 b6 = 16 := x66.k k58 (by decide)
    have k70 : mK m64 b18 = 9 := x66.k k59 (by decide)
    have e71 : mR m64 t 4 = some b3 := x66.r k56 (by decide) rfl e60
    have e72 : mR m64 b3 0 = some b6 := x66.r k57 (by decide) rfl e61
    have e73 : mR m64 t 3 = some b18 := x66.r k56 (by decide) rfl e62
    refine at_aload_n (i := 0) 0 102 rfl (by decide +kernel) rfl ?_
    refine at_get (index := 33) (v := va_rf (mR m64 t 4)) cok3 4 105 rfl (by decide +kernel) k67 (by decide +kernel) tw_292 rfl ?_
    rw [e71]
    refine at_get (index := 169) (v := va_rf (mR m64 b3 0)) cok2 0 108 rfl (by decide +kernel) k68 (by decide +kernel) tw_168 rfl ?_
    rw [e72]
    refine at_iconst (n := 4) (4 : Int32) 109 rfl (by decide +kernel) (by decide +kernel) ?_
    refine at_aload_n (i := 0) 0 110 rfl (by decide +kernel) rfl ?_
    refine at_get (index := 119) (v := .int (mI m64 t 11)) cok3 11 113 rfl (by decide +kernel) k67 (by decide +kernel) tw_303 rfl ?_
    refine at_i2l 114 rfl (by decide +kernel) ?_
    obtain ⟨v74, h⟩ := h
    refine at_last 115 rfl (by decide +kernel) k69 v74 (fun m75 e76 => ?_)
    replace h := h m75 e76
    have x77 : Ext m64 m75 := by rw [e76]; exact Ext.sL _ _ _ _
    have k78 : mK m75 t = 4 := x77.k k67 (by decide)
    have k79 : mK m75 b3 = 3 := x77.k k68 (by decide)
    have k80 : mK m75 b6 = 16 := x77.k k69 (by decide)
    have k81 : mK m75 b18 = 9 := x77.k k70 (by decide)
    have e82 : mR m75 t 4 = some b3 := x77.r k67 (by decide) rfl e71
    have e83 : mR m75 b3 0 = some b6 := x77.r k68 (by decide) rfl e72
    have e84 : mR m75 t 3 = some b18 := x77.r k67 (by decide) rfl e73
    refine at_aload_n (i := 0) 0 116 rfl (by decide +kernel) rfl ?_
    refine at_get (index := 33) (v := va_rf (mR m75 t 4)) cok3 4 119 rfl (by decide +kernel) k78 (by decide +kernel) tw_292 rfl ?_
    rw [e82]
    refine at_get (index := 169) (v := va_rf (mR m75 b3 0)) cok2 0 122 rfl (by decide +kernel) k79 (by decide +kernel) tw_168 rfl ?_
    rw [e83]
    refine at_iconst (n := 5) (5 : Int32) 123 rfl (by decide +kernel) (by decide +kernel) ?_
    refine at_aload_n (i := 0) 0 124 rfl (by decide +kernel) rfl ?_
    refine at_get (index := 69) (v := .int (mI m75 t 9)) cok3 9 127 rfl (by decide +kernel) k78 (by decide +kernel) tw_299 rfl ?_
    refine at_i2l 128 rfl (by decide +kernel) ?_
    obtain ⟨v85, h⟩ := h
    refine at_last 129 rfl (by decide +kernel) k80 v85 (fun m86 e87 => ?_)
    replace h := h m86 e87
    have x88 : Ext m75 m86 := by rw [e87]; exact Ext.sL _ _ _ _
    have k89 : mK m86 t = 4 := x88.k k78 (by decide)
    have k90 : mK m86 b3 = 3 := x88.k k79 (by decide)
    have k91 : mK m86 b6 = 16 := x88.k k80 (by decide)
    have k92 : mK m86 b18 = 9 := x88.k k81 (by decide)
    have e93 : mR m86 t 4 = some b3 := x88.r k78 (by decide) rfl e82
    have e94 : mR m86 b3 0 = some b6 := x88.r k79 (by decide) rfl e83
    have e95 : mR m86 t 3 = some b18 := x88.r k78 (by decide) rfl e84
    refine at_aload_n (i := 0) 0 130 rfl (by decide +kernel) rfl ?_
    refine at_get (index := 33) (v := va_rf (mR m86 t 4)) cok3 4 133 rfl (by decide +kernel) k89 (by decide +kernel) tw_292 rfl ?_
    rw [e93]
    refine at_aload_n (i := 1) 1 134 rfl (by decide +kernel) rfl ?_
    refine at_callV mb_Judge_hear tw_724 tw_725 cok2 k90 (index := 178) tw_723 [va_rf (l1)] [] rfl rfl (by decide) 137 rfl (by decide +kernel) (Call.toV (CV.monoE h (fun m96 h y97 => ?_)))
    have k98 : mK m96 t = 4 := y97.k k89 (by decide)
    have k99 : mK m96 b3 = 3 := y97.k k90 (by decide)
    have k100 : mK m96 b6 = 16 := y97.k k91 (by decide)
    have k101 : mK m96 b18 = 9 := y97.k k92 (by decide)
    have e102 : mR m96 t 4 = some b3 := y97.r k89 (by decide) rfl e93
    have e103 : mR m96 b3 0 = some b6 := y97.r k90 (by decide) rfl e94
    have e104 : mR m96 t 3 = some b18 := y97.r k89 (by decide) rfl e95
    refine at_aload_n (i := 0) 0 138 rfl (by decide +kernel) rfl ?_
    refine at_aload_n (i := 0) 0 139 rfl (by decide +kernel) rfl ?_
    refine at_get (index := 33) (v := va_rf (mR m96 t 4)) cok3 4 142 rfl (by decide +kernel) k98 (by decide +kernel) tw_292 rfl ?_
    rw [e102]
    refine at_get (index := 181) (v := .int (mI m96 b3 5)) cok2 5 145 rfl (by decide +kernel) k99 (by decide +kernel) tw_174 rfl ?_
    refine at_putI (index := 184) cok3 12 148 rfl (by decide +kernel) k98 (by decide +kernel) tw_305 rfl rfl rfl (fun m105 e106 => ?_)
    replace h := h m105 e106
    have x107 : Ext m96 m105 := by rw [e106]; exact Ext.sI _ _ _ _
    have k108 : mK m105 t = 4 := x107.k k98 (by decide)
    have k109 : mK m105 b3 = 3 := x107.k k99 (by decide)
    have k110 : mK m105 b6 = 16 := x107.k k100 (by decide)
    have k111 : mK m105 b18 = 9 := x107.k k101 (by decide)
    have e112 : mR m105 t 4 = some b3 := x107.r k98 (by decide) rfl e102
    have e113 : mR m105 b3 0 = some b6 := x107.r k99 (by decide) rfl e103
    have e114 : mR m105 t 3 = some b18 := x107.r k98 (by decide) rfl e104
    refine at_aload_n (i := 0) 0 149 rfl (by decide +kernel) rfl ?_
    refine at_get (index := 41) (v := va_rf (mR m105 t 6)) cok3 6 152 rfl (by decide +kernel) k108 (by decide +kernel) tw_294 rfl ?_
    obtain ⟨b115, e116, h⟩ := h
    rw [e116]
    refine at_aload_n (i := 0) 0 153 rfl (by decide +kernel) rfl ?_
    refine at_get (index := 69) (v := .int (mI m105 t 9)) cok3 9 156 rfl (by decide +kernel) k108 (by decide +kernel) tw_299 rfl ?_
    refine at_aload_n (i := 0) 0 157 rfl (by decide +kernel) rfl ?_
    refine at_get (index := 184) (v := .int (mI m105 t 12)) cok3 12 160 rfl (by decide +kernel) k108 (by decide +kernel) tw_305 rfl ?_
    obtain ⟨k117, h⟩ := h
    obtain ⟨v118, h⟩ := h
    refine at_iast 161 rfl (by decide +kernel) k117 v118 (fun m119 e120 => ?_)
    replace h := h m119 e120
    have x121 : Ext m105 m119 := by rw [e120]; exact Ext.sI _ _ _ _
    have k122 : mK m119 t = 4 := x121.k k108 (by decide)
    have k123 : mK m119 b3 = 3 := x121.k k109 (by decide)
    have k124 : mK m119 b6 = 16 := x121.k k110 (by decide)
    have k125 : mK m119 b18 = 9 := x121.k k111 (by decide)
    have k126 : mK m119 b115 = 15 := x121.k k117 (by decide)
    have e127 : mR m119 t 4 = some b3 := x121.r k108 (by decide) rfl e112
    have e128 : mR m119 b3 0 = some b6 := x121.r k109 (by decide) rfl e113
    have e129 : mR m119 t 3 = some b18 := x121.r k108 (by decide) rfl e114
    have e130 : mR m119 t 6 = some b115 := x121.r k108 (by decide) rfl e116
    exact at_vret rfl (by decide +kernel) h
  · rw [if_neg c2] at h
    refine at_lload_n (i := 2) 2 15 rfl (by decide +kernel) rfl ?_
    refine at_aload_n (i := 0) 0 16 rfl (by decide +kernel) rfl ?_
    refine at_get (index := 11) (v := va_rf (mR m t 1)) cok3 1 19 rfl (by decide +kernel) k1 (by decide +kernel) tw_286 rfl ?_
    obtain ⟨b131, e132, h⟩ := h
    rw [e132]
    refine at_iload (i := 4) 3 21 rfl (by decide +kernel) rfl ?_
    obtain ⟨k133, h⟩ := h
    obtain ⟨v134, h⟩ := h
    refine at_aaldGrower 22 rfl (by decide +kernel) k133 v134 ?_
    obtain ⟨b135, e136, h⟩ := h
    rw [e136]
    obtain ⟨k137, h⟩ := h
    refine at_get (index := 166) (v := va_rf (mR m b135 1)) cok1 1 25 rfl (by decide +kernel) k137 (by decide +kernel) tw_209 rfl ?_
    obtain ⟨b138, e139, h⟩ := h
    rw [e139]
    refine at_aload_n (i := 0) 0 26 rfl (by decide +kernel) rfl ?_
    refine at_get (index := 69) (v := .int (mI m t 9)) cok3 9 29 rfl (by decide +kernel) k1 (by decide +kernel) tw_299 rfl ?_
    obtain ⟨k140, h⟩ := h
    obtain ⟨v141, h⟩ := h
    refine at_iald 30 rfl (by decide +kernel) k140 v141 ?_
    refine at_i2l 31 rfl (by decide +kernel) ?_
    refine at_ladd 32 rfl (by decide +kernel) ?_
    refine at_lstore_n (i := 2) (lc' := [(0, va_rf (some t)), (1, va_rf (l1)), (2, .long (l2 + ((mI m b138 (mI m t 9).toNatClampNeg).toInt64))), (4, .int (l4))]) [1, 2, 0, 3] 33 rfl (by decide +kernel) (by decide +kernel) (by generalize l1 = rr; cases rr <;> rfl) ?_
    refine at_iinc (i := 4) (n := 1) (lc' := [(0, va_rf (some t)), (1, va_rf (l1)), (2, .long (l2 + ((mI m b138 (mI m t 9).toNatClampNeg).toInt64))), (4, .int (l4 + (1 : Int32)))]) (l4 + (1 : Int32)) 3 [1, 2, 3, 0] 36 rfl (by decide +kernel) rfl (by rw [show Int32.ofInt 1 = (1 : Int32) from by decide +kernel]) (by decide +kernel) rfl ?_
    refine at_goto (off := (-31)) 5 (by decide +kernel) (by decide +kernel) ?_
    exact h
set_option maxRecDepth 20000 in
set_option maxHeartbeats 4000000 in
theorem en_Land_applyLaw (g : Gc) {lv : Nat} {t : Nat} {l1 : Option Nat} {m : Mm} {Q : Mm → Prop} (h : At g M_Land_applyLaw (lv + 1) 5 [(0, va_rf (some t)), (1, va_rf (l1)), (2, .long ((0 : Int64))), (4, .int ((0 : Int32)))] [] m (QV Q)) : CV g M_Land_applyLaw (lv + 1) [va_rf (some t), va_rf (l1)] m Q := by
  refine Call.of (by decide +kernel) (by simp [lg_sl, va_rf_cat, cat_int, cat_long, M_Land_applyLaw]) ?_
  rw [show lv_args 0 [va_rf (some t), va_rf (l1)] = [(0, va_rf (some t)), (1, va_rf (l1))] from by simp [lv_args, va_rf_cat, cat_int, cat_long]]
  refine at_lconst (n := 0) (0 : Int64) 1 rfl (by decide +kernel) (by decide +kernel) ?_
  refine at_lstore_n (i := 2) (lc' := [(0, va_rf (some t)), (1, va_rf (l1)), (2, .long ((0 : Int64)))]) [1, 2, 0] 2 rfl (by decide +kernel) (by decide +kernel) (by generalize l1 = rr; cases rr <;> rfl) ?_
  refine at_iconst (n := 0) (0 : Int32) 3 rfl (by decide +kernel) (by decide +kernel) ?_
  refine at_istore (i := 4) (lc' := [(0, va_rf (some t)), (1, va_rf (l1)), (2, .long ((0 : Int64))), (4, .int ((0 : Int32)))]) [1, 2, 3, 0] 5 rfl (by decide +kernel) (by decide +kernel) rfl ?_
  exact h
set_option maxRecDepth 20000 in
set_option maxHeartbeats 4000000 in
theorem bk_Land_keepParts_2 (g : Gc) {lv : Nat} {t : Nat} {l1 : Int32} {m : Mm} {Q : Mm → Prop} (h : mK m t = 4 ∧ (if (mI m t 8) ≤ (l1) then (Q m) else (∃ b3, mR m t 1 = some b3 ∧ (mK m b3 = 19 ∧ (vp_in l1 (mN m b3) ∧ (∃ b7, mR m b3 l1.toNatClampNeg = some b7 ∧ (mK m b7 = 2 ∧ (∃ b10, mR m b7 1 = some b10 ∧ (mK m b10 = 15 ∧ (vp_in (mI m t 9) (mN m b10) ∧ (∀ m14, m14 = sI m b7 10 (0 : Int32) → (∃ b24, mR m14 b7 2 = some b24 ∧ (∃ b26, mR m14 t 4 = some b26 ∧ (mK m14 b26 = 3 ∧ (CI g M_Judge_frees lv [va_rf (some b26), .int (mI m14 b7 3), .int (mI m b10 (mI m t 9).toNatClampNeg)] m14 (fun x29 m30 => (mK m30 b24 = 17 ∧ (vp_in (mI m14 t 9) (mN m30 b24) ∧ (b01 x29 ∧ (∀ m45, m45 = sI m30 b24 (mI m14 t 9).toNatClampNeg x29 → (vp_in (mI m45 t 9) (mN m45 b24) ∧ (if (mI m45 b24 (mI m45 t 9).toNatClampNeg) = 0 then (CJ g M_SL_cutTo lv [.long (((((mI m45 t 12).toInt64) * ((mI m b10 (mI m t 9).toNatClampNeg).toInt64)) + (mL m45 b7 12)) / (100 : Int64)), .long ((0 : Int64)), .long ((mI m b10 (mI m t 9).toNatClampNeg).toInt64)] m45 (fun x61 m62 => (∀ m75, m75 = sI m62 b7 10 x61.toInt32 → (∀ m89, m89 = sL m75 b7 12 (((((mI m45 t 12).toInt64) * ((mI m b10 (mI m t 9).toNatClampNeg).toInt64)) + (mL m45 b7 12)) - ((100 : Int64) * ((mI m75 b7 10).toInt64))) → (if (mI m89 b7 10) ≤ 0 then (At g M_Land_keepParts (lv + 1) 2 [(0, va_rf (some t)), (1, .int (l1 + (1 : Int32)))] [] m89 (QV Q)) else (∀ m104, m104 = sI m89 b7 9 ((mI m89 b7 9) - (mI m89 b7 10)) → (∃ b118, mR m104 t 3 = some b118 ∧ (mK m104 b118 = 9 ∧ (CI g M_Store_issue lv [va_rf (some b118), .int (l1), .int (mI m104 b7 10), .int (mI m104 t 9)] m104 (fun x121 m122 => (∃ b137, mR m122 t 7 = some b137 ∧ (mK m122 b137 = 16 ∧ (vp_in (1 : Int32) (mN m122 b137) ∧ (vp_in (1 : Int32) (mN m122 b137) ∧ (∀ m142, m142 = sL m122 b137 (1 : Int32).toNatClampNeg ((mL m122 b137 (1 : Int32).toNatClampNeg) + ((mI m122 b7 10).toInt64)) → (At g M_Land_keepParts (lv + 1) 2 [(0, va_rf (some t)), (1, .int (l1 + (1 : Int32)))] [] m142 (QV Q))))))))))))))))) else (At g M_Land_keepParts (lv + 1) 2 [(0, va_rf (some t)), (1, .int (l1 + (1 : Int32)))] [] m45 (QV Q)))))))))))))))))))))))) : At g M_Land_keepParts (lv + 1) 2 [(0, va_rf (some t)), (1, .int (l1))] [] m (QV Q) := by
  refine at_iload_n (i := 1) 1 3 rfl (by decide +kernel) rfl ?_
  refine at_aload_n (i := 0) 0 4 rfl (by decide +kernel) rfl ?_
  obtain ⟨k1, h⟩ := h
  refine at_get (index := 58) (v := .int (mI m t 8)) cok3 8 7 rfl (by decide +kernel) k1 (by decide +kernel) tw_297 rfl ?_
  refine at_icmp_ge (off := 166) 173 10 rfl (by decide +kernel) (by decide +kernel) (fun c2 => ?_) (fun c2 => ?_)
  · rw [if_pos c2] at h
    exact at_vret rfl (by decide +kernel) h
  · rw [if_neg c2] at h
    refine at_aload_n (i := 0) 0 11 rfl (by decide +kernel) rfl ?_
    refine at_get (index := 11) (v := va_rf (mR m t 1)) cok3 1 14 rfl (by decide +kernel) k1 (by decide +kernel) tw_286 rfl ?_
    obtain ⟨b3, e4, h⟩ := h
    rw [e4]
    refine at_iload_n (i := 1) 1 15 rfl (by decide +kernel) rfl ?_
    obtain ⟨k5, h⟩ := h
    obtain ⟨v6, h⟩ := h
    refine at_aaldGrower 16 rfl (by decide +kernel) k5 v6 ?_
    refine at_astore_n (i := 2) (lc' := [(0, va_rf (some t)), (1, .int (l1)), (2, va_rf (mR m b3 l1.toNatClampNeg))]) [1, 2, 0] 17 rfl (by decide +kernel) (by decide +kernel) rfl ?_
    refine at_aload_n (i := 2) 2 18 rfl (by decide +kernel) rfl ?_
    obtain ⟨b7, e8, h⟩ := h
    rw [e8]
    obtain ⟨k9, h⟩ := h
    refine at_get (index := 166) (v := va_rf (mR m b7 1)) cok1 1 21 rfl (by decide +kernel) k9 (by decide +kernel) tw_209 rfl ?_
    obtain ⟨b10, e11, h⟩ := h
    rw [e11]
    refine at_aload_n (i := 0) 0 22 rfl (by decide +kernel) rfl ?_
    refine at_get (index := 69) (v := .int (mI m t 9)) cok3 9 25 rfl (by decide +kernel) k1 (by decide +kernel) tw_299 rfl ?_
    obtain ⟨k12, h⟩ := h
    obtain ⟨v13, h⟩ := h
    refine at_iald 26 rfl (by decide +kernel) k12 v13 ?_
    refine at_istore_n (i := 3) (lc' := [(0, va_rf (some t)), (1, .int (l1)), (2, va_rf (some b7)), (3, .int (mI m b10 (mI m t 9).toNatClampNeg))]) [1, 2, 3, 0] 27 rfl (by decide +kernel) (by decide +kernel) rfl ?_
    refine at_aload_n (i := 2) 2 28 rfl (by decide +kernel) rfl ?_
    refine at_iconst (n := 0) (0 : Int32) 29 rfl (by decide +kernel) (by decide +kernel) ?_
    refine at_putI (index := 185) cok1 10 32 rfl (by decide +kernel) k9 (by decide +kernel) tw_230 rfl rfl rfl (fun m14 e15 => ?_)
    replace h := h m14 e15
    have x16 : Ext m m14 := by rw [e15]; exact Ext.sI _ _ _ _
    have k17 : mK m14 t = 4 := x16.k k1 (by decide)
    have k18 : mK m14 b3 = 19 := x16.k k5 (by decide)
    have k19 : mK m14 b7 = 2 := x16.k k9 (by decide)
    have k20 : mK m14 b10 = 15 := x16.k k12 (by decide)
    have e21 : mR m14 t 1 = some b3 := x16.r k1 (by decide) rfl e4
    have e22 : mR m14 b3 l1.toNatClampNeg = some b7 := x16.r k5 (by decide) rfl e8
    have e23 : mR m14 b7 1 = some b10 := x16.r k9 (by decide) rfl e11
    refine at_aload_n (i := 2) 2 33 rfl (by decide +kernel) rfl ?_
    refine at_get (index := 188) (v := va_rf (mR m14 b7 2)) cok1 2 36 rfl (by decide +kernel) k19 (by decide +kernel) tw_211 rfl ?_
    obtain ⟨b24, e25, h⟩ := h
    rw [e25]
    refine at_aload_n (i := 0) 0 37 rfl (by decide +kernel) rfl ?_
    refine at_get (index := 69) (v := .int (mI m14 t 9)) cok3 9 40 rfl (by decide +kernel) k17 (by decide +kernel) tw_299 rfl ?_
    refine at_aload_n (i := 0) 0 41 rfl (by decide +kernel) rfl ?_
    refine at_get (index := 33) (v := va_rf (mR m14 t 4)) cok3 4 44 rfl (by decide +kernel) k17 (by decide +kernel) tw_292 rfl ?_
    obtain ⟨b26, e27, h⟩ := h
    rw [e27]
    refine at_aload_n (i := 2) 2 45 rfl (by decide +kernel) rfl ?_
    refine at_get (index := 93) (v := .int (mI m14 b7 3)) cok1 3 48 rfl (by decide +kernel) k19 (by decide +kernel) tw_213 rfl ?_
    refine at_iload_n (i := 3) 3 49 rfl (by decide +kernel) rfl ?_
    obtain ⟨k28, h⟩ := h
    refine at_callV mb_Judge_frees tw_755 tw_756 cok2 k28 (index := 192) tw_754 [.int (mI m14 b7 3), .int (mI m b10 (mI m t 9).toNatClampNeg)] [.int (mI m14 t 9), va_rf (some b24)] rfl rfl (by simp [va_rf_cat, cat_int, cat_long]) 52 rfl (by decide +kernel) (Call.toI (CI.monoE h (fun x29 m30 h y31 => ?_)))
    have k32 : mK m30 t = 4 := y31.k k17 (by decide)
    have k33 : mK m30 b3 = 19 := y31.k k18 (by decide)
    have k34 : mK m30 b7 = 2 := y31.k k19 (by decide)
    have k35 : mK m30 b10 = 15 := y31.k k20 (by decide)
    have k36 : mK m30 b26 = 3 := y31.k k28 (by decide)
    have e37 : mR m30 t 1 = some b3 := y31.r k17 (by decide) rfl e21
    have e38 : mR m30 b3 l1.toNatClampNeg = some b7 := y31.r k18 (by decide) rfl e22
    have e39 : mR m30 b7 1 = some b10 := y31.r k19 (by decide) rfl e23
    have e40 : mR m30 b7 2 = some b24 := y31.r k19 (by decide) rfl e25
    have e41 : mR m30 t 4 = some b26 := y31.r k17 (by decide) rfl e27
    obtain ⟨k42, h⟩ := h
    obtain ⟨v43, h⟩ := h
    obtain ⟨d44, h⟩ := h
    refine at_zast 53 rfl (by decide +kernel) k42 v43 d44 (fun m45 e46 => ?_)
    replace h := h m45 e46
    have x47 : Ext m30 m45 := by rw [e46]; exact Ext.sI _ _ _ _
    have k48 : mK m45 t = 4 := x47.k k32 (by decide)
    have k49 : mK m45 b3 = 19 := x47.k k33 (by decide)
    have k50 : mK m45 b7 = 2 := x47.k k34 (by decide)
    have k51 : mK m45 b10 = 15 := x47.k k35 (by decide)
    have k52 : mK m45 b26 = 3 := x47.k k36 (by decide)
    have k53 : mK m45 b24 = 17 := x47.k k42 (by decide)
    have e54 : mR m45 t 1 = some b3 := x47.r k32 (by decide) rfl e37
    have e55 : mR m45 b3 l1.toNatClampNeg = some b7 := x47.r k33 (by decide) rfl e38
    have e56 : mR m45 b7 1 = some b10 := x47.r k34 (by decide) rfl e39
    have e57 : mR m45 b7 2 = some b24 := x47.r k34 (by decide) rfl e40
    have e58 : mR m45 t 4 = some b26 := x47.r k32 (by decide) rfl e41
    refine at_aload_n (i := 2) 2 54 rfl (by decide +kernel) rfl ?_
    refine at_get (index := 188) (v := va_rf (mR m45 b7 2)) cok1 2 57 rfl (by decide +kernel) k50 (by decide +kernel) tw_211 rfl ?_
    rw [e57]
    refine at_aload_n (i := 0) 0 58 rfl (by decide +kernel) rfl ?_
    refine at_get (index := 69) (v := .int (mI m45 t 9)) cok3 9 61 rfl (by decide +kernel) k48 (by decide +kernel) tw_299 rfl ?_
    obtain ⟨v59, h⟩ := h
    refine at_zald 62 rfl (by decide +kernel) k53 v59 ?_
    refine at_if_eq (off := 6) 68 65 rfl (by decide +kernel) (by decide +kernel) (fun c60 => ?_) (fun c60 => ?_)
    · rw [if_pos c60] at h
      refine at_aload_n (i := 0) 0 69 rfl (by decide +kernel) rfl ?_
      refine at_get (index := 184) (v := .int (mI m45 t 12)) cok3 12 72 rfl (by decide +kernel) k48 (by decide +kernel) tw_305 rfl ?_
      refine at_i2l 73 rfl (by decide +kernel) ?_
      refine at_iload_n (i := 3) 3 74 rfl (by decide +kernel) rfl ?_
      refine at_i2l 75 rfl (by decide +kernel) ?_
      refine at_lmul 76 rfl (by decide +kernel) ?_
      refine at_aload_n (i := 2) 2 77 rfl (by decide +kernel) rfl ?_
      refine at_get (index := 196) (v := .long (mL m45 b7 12)) cok1 12 80 rfl (by decide +kernel) k50 (by decide +kernel) tw_236 rfl ?_
      refine at_ladd 81 rfl (by decide +kernel) ?_
      refine at_lstore (i := 4) (lc' := [(0, va_rf (some t)), (1, .int (l1)), (2, va_rf (some b7)), (3, .int (mI m b10 (mI m t 9).toNatClampNeg)), (4, .long ((((mI m45 t 12).toInt64) * ((mI m b10 (mI m t 9).toNatClampNeg).toInt64)) + (mL m45 b7 12)))]) [1, 2, 3, 4, 0] 83 rfl (by decide +kernel) (by decide +kernel) rfl ?_
      refine at_aload_n (i := 2) 2 84 rfl (by decide +kernel) rfl ?_
      refine at_lload (i := 4) 4 86 rfl (by decide +kernel) rfl ?_
      refine at_ldc2 (index := 199) (100 : Int64) 89 rfl (by decide +kernel) tw_758 ?_
      refine at_ldiv 90 rfl (by decide +kernel) (by decide +kernel) ?_
      refine at_lconst (n := 0) (0 : Int64) 91 rfl (by decide +kernel) (by decide +kernel) ?_
      refine at_iload_n (i := 3) 3 92 rfl (by decide +kernel) rfl ?_
      refine at_i2l 93 rfl (by decide +kernel) ?_
      refine at_callSN mb_SL_cutTo tw_741 (index := 201) (host := "SurplusLand") (by decide +kernel) [.long (((((mI m45 t 12).toInt64) * ((mI m b10 (mI m t 9).toNatClampNeg).toInt64)) + (mL m45 b7 12)) / (100 : Int64)), .long ((0 : Int64)), .long ((mI m b10 (mI m t 9).toNatClampNeg).toInt64)] [va_rf (some b7)] rfl rfl (by simp [va_rf_cat, cat_int, cat_long]) 96 rfl (by decide +kernel) (Call.toJ (CJ.monoE h (fun x61 m62 h y63 => ?_)))
      have k64 : mK m62 t = 4 := y63.k k48 (by decide)
      have k65 : mK m62 b3 = 19 := y63.k k49 (by decide)
      have k66 : mK m62 b7 = 2 := y63.k k50 (by decide)
      have k67 : mK m62 b10 = 15 := y63.k k51 (by decide)
      have k68 : mK m62 b26 = 3 := y63.k k52 (by decide)
      have k69 : mK m62 b24 = 17 := y63.k k53 (by decide)
      have e70 : mR m62 t 1 = some b3 := y63.r k48 (by decide) rfl e54
      have e71 : mR m62 b3 l1.toNatClampNeg = some b7 := y63.r k49 (by decide) rfl e55
      have e72 : mR m62 b7 1 = some b10 := y63.r k50 (by decide) rfl e56
      have e73 : mR m62 b7 2 = some b24 := y63.r k50 (by decide) rfl e57
      have e74 : mR m62 t 4 = some b26 := y63.r k48 (by decide) rfl e58
      refine at_l2i 97 rfl (by decide +kernel) ?_
      refine at_putI (index := 185) cok1 10 100 rfl (by decide +kernel) k66 (by decide +kernel) tw_230 rfl rfl rfl (fun m75 e76 => ?_)
      replace h := h m75 e76
      have x77 : Ext m62 m75 := by rw [e76]; exact Ext.sI _ _ _ _
      have k78 : mK m75 t = 4 := x77.k k64 (by decide)
      have k79 : mK m75 b3 = 19 := x77.k k65 (by decide)
      have k80 : mK m75 b7 = 2 := x77.k k66 (by decide)
      have k81 : mK m75 b10 = 15 := x77.k k67 (by decide)
      have k82 : mK m75 b26 = 3 := x77.k k68 (by decide)
      have k83 : mK m75 b24 = 17 := x77.k k69 (by decide)
      have e84 : mR m75 t 1 = some b3 := x77.r k64 (by decide) rfl e70
      have e85 : mR m75 b3 l1.toNatClampNeg = some b7 := x77.r k65 (by decide) rfl e71
      have e86 : mR m75 b7 1 = some b10 := x77.r k66 (by decide) rfl e72
      have e87 : mR m75 b7 2 = some b24 := x77.r k66 (by decide) rfl e73
      have e88 : mR m75 t 4 = some b26 := x77.r k64 (by decide) rfl e74
      refine at_aload_n (i := 2) 2 101 rfl (by decide +kernel) rfl ?_
      refine at_lload (i := 4) 4 103 rfl (by decide +kernel) rfl ?_
      refine at_ldc2 (index := 199) (100 : Int64) 106 rfl (by decide +kernel) tw_758 ?_
      refine at_aload_n (i := 2) 2 107 rfl (by decide +kernel) rfl ?_
      refine at_get (index := 185) (v := .int (mI m75 b7 10)) cok1 10 110 rfl (by decide +kernel) k80 (by decide +kernel) tw_230 rfl ?_
      refine at_i2l 111 rfl (by decide +kernel) ?_
      refine at_lmul 112 rfl (by decide +kernel) ?_
      refine at_lsub 113 rfl (by decide +kernel) ?_
      refine at_putJ (index := 196) cok1 12 116 rfl (by decide +kernel) k80 (by decide +kernel) tw_236 rfl rfl rfl (fun m89 e90 => ?_)
      replace h := h m89 e90
      have x91 : Ext m75 m89 := by rw [e90]; exact Ext.sL _ _ _ _
      have k92 : mK m89 t = 4 := x91.k k78 (by decide)
      have k93 : mK m89 b3 = 19 := x91.k k79 (by decide)
      have k94 : mK m89 b7 = 2 := x91.k k80 (by decide)
      have k95 : mK m89 b10 = 15 := x91.k k81 (by decide)
      have k96 : mK m89 b26 = 3 := x91.k k82 (by decide)
      have k97 : mK m89 b24 = 17 := x91.k k83 (by decide)
      have e98 : mR m89 t 1 = some b3 := x91.r k78 (by decide) rfl e84
      have e99 : mR m89 b3 l1.toNatClampNeg = some b7 := x91.r k79 (by decide) rfl e85
      have e100 : mR m89 b7 1 = some b10 := x91.r k80 (by decide) rfl e86
      have e101 : mR m89 b7 2 = some b24 := x91.r k80 (by decide) rfl e87
      have e102 : mR m89 t 4 = some b26 := x91.r k78 (by decide) rfl e88
      refine at_aload_n (i := 2) 2 117 rfl (by decide +kernel) rfl ?_
      refine at_get (index := 185) (v := .int (mI m89 b7 10)) cok1 10 120 rfl (by decide +kernel) k94 (by decide +kernel) tw_230 rfl ?_
      refine at_if_le (off := 47) 167 123 rfl (by decide +kernel) (by decide +kernel) (fun c103 => ?_) (fun c103 => ?_)
      · rw [if_pos c103] at h
        refine at_iinc (i := 1) (n := 1) (lc' := [(0, va_rf (some t)), (1, .int (l1 + (1 : Int32)))]) (l1 + (1 : Int32)) 1 [1, 0] 170 rfl (by decide +kernel) rfl (by rw [show Int32.ofInt 1 = (1 : Int32) from by decide +kernel]) (by decide +kernel) rfl ?_
        refine at_goto (off := (-168)) 2 (by decide +kernel) (by decide +kernel) ?_
        exact h
      · rw [if_neg c103] at h
        refine at_aload_n (i := 2) 2 124 rfl (by decide +kernel) rfl ?_
        refine at_dup 125 rfl (by decide +kernel) (va_rf_cat _) ?_
        refine at_get (index := 84) (v := .int (mI m89 b7 9)) cok1 9 128 rfl (by decide +kernel) k94 (by decide +kernel) tw_227 rfl ?_
        refine at_aload_n (i := 2) 2 129 rfl (by decide +kernel) rfl ?_
        refine at_get (index := 185) (v := .int (mI m89 b7 10)) cok1 10 132 rfl (by decide +kernel) k94 (by decide +kernel) tw_230 rfl ?_
        refine at_isub 133 rfl (by decide +kernel) ?_
        refine at_putI (index := 84) cok1 9 136 rfl (by decide +kernel) k94 (by decide +kernel) tw_227 rfl rfl rfl (fun m104 e105 => ?_)
        replace h := h m104 e105
        have x106 : Ext m89 m104 := by rw [e105]; exact Ext.sI _ _ _ _
        have k107 : mK m104 t = 4 := x106.k k92 (by decide)
        have k108 : mK m104 b3 = 19 := x106.k k93 (by decide)
        have k109 : mK m104 b7 = 2 := x106.k k94 (by decide)
        have k110 : mK m104 b10 = 15 := x106.k k95 (by decide)
        have k111 : mK m104 b26 = 3 := x106.k k96 (by decide)
        have k112 : mK m104 b24 = 17 := x106.k k97 (by decide)
        have e113 : mR m104 t 1 = some b3 := x106.r k92 (by decide) rfl e98
        have e114 : mR m104 b3 l1.toNatClampNeg = some b7 := x106.r k93 (by decide) rfl e99
        have e115 : mR m104 b7 1 = some b10 := x106.r k94 (by decide) rfl e100
        have e116 : mR m104 b7 2 = some b24 := x106.r k94 (by decide) rfl e101
        have e117 : mR m104 t 4 = some b26 := x106.r k92 (by decide) rfl e102
        refine at_aload_n (i := 0) 0 137 rfl (by decide +kernel) rfl ?_
        refine at_get (index := 26) (v := va_rf (mR m104 t 3)) cok3 3 140 rfl (by decide +kernel) k107 (by decide +kernel) tw_290 rfl ?_
        obtain ⟨b118, e119, h⟩ := h
        rw [e119]
        refine at_iload_n (i := 1) 1 141 rfl (by decide +kernel) rfl ?_
        refine at_aload_n (i := 2) 2 142 rfl (by decide +kernel) rfl ?_
        refine at_get (index := 185) (v := .int (mI m104 b7 10)) cok1 10 145 rfl (by decide +kernel) k109 (by decide +kernel) tw_230 rfl ?_
        refine at_aload_n (i := 0) 0 146 rfl (by decide +kernel) rfl ?_
        refine at_get (index := 69) (v := .int (mI m104 t 9)) cok3 9 149 rfl (by decide +kernel) k107 (by decide +kernel) tw_299 rfl ?_
        obtain ⟨k120, h⟩ := h
        refine at_callV mb_Store_issue tw_761 tw_762 cok8 k120 (index := 205) tw_760 [.int (l1), .int (mI m104 b7 10), .int (mI m104 t 9)] [] rfl rfl (by decide) 152 rfl (by decide +kernel) (Call.toI (CI.monoE h (fun x121 m122 h y123 => ?_)))
        have k124 : mK m122 t = 4 := y123.k k107 (by decide)
        have k125 : mK m122 b3 = 19 := y123.k k108 (by decide)
        have k126 : mK m122 b7 = 2 := y123.k k109 (by decide)
        have k127 : mK m122 b10 = 15 := y123.k k110 (by decide)
        have k128 : mK m122 b26 = 3 := y123.k k111 (by decide)
        have k129 : mK m122 b24 = 17 := y123.k k112 (by decide)
        have k130 : mK m122 b118 = 9 := y123.k k120 (by decide)
        have e131 : mR m122 t 1 = some b3 := y123.r k107 (by decide) rfl e113
        have e132 : mR m122 b3 l1.toNatClampNeg = some b7 := y123.r k108 (by decide) rfl e114
        have e133 : mR m122 b7 1 = some b10 := y123.r k109 (by decide) rfl e115
        have e134 : mR m122 b7 2 = some b24 := y123.r k109 (by decide) rfl e116
        have e135 : mR m122 t 4 = some b26 := y123.r k107 (by decide) rfl e117
        have e136 : mR m122 t 3 = some b118 := y123.r k107 (by decide) rfl e119
        refine at_pop 153 rfl (by decide +kernel) rfl ?_
        refine at_aload_n (i := 0) 0 154 rfl (by decide +kernel) rfl ?_
        refine at_get (index := 44) (v := va_rf (mR m122 t 7)) cok3 7 157 rfl (by decide +kernel) k124 (by decide +kernel) tw_295 rfl ?_
        obtain ⟨b137, e138, h⟩ := h
        rw [e138]
        refine at_iconst (n := 1) (1 : Int32) 158 rfl (by decide +kernel) (by decide +kernel) ?_
        refine at_dup2_11 159 rfl (by decide +kernel) rfl (va_rf_cat _) ?_
        obtain ⟨k139, h⟩ := h
        obtain ⟨v140, h⟩ := h
        refine at_lald 160 rfl (by decide +kernel) k139 v140 ?_
        refine at_aload_n (i := 2) 2 161 rfl (by decide +kernel) rfl ?_
        refine at_get (index := 185) (v := .int (mI m122 b7 10)) cok1 10 164 rfl (by decide +kernel) k126 (by decide +kernel) tw_230 rfl ?_
        refine at_i2l 165 rfl (by decide +kernel) ?_
        refine at_ladd 166 rfl (by decide +kernel) ?_
        obtain ⟨v141, h⟩ := h
        refine at_last 167 rfl (by decide +kernel) k139 v141 (fun m142 e143 => ?_)
        replace h := h m142 e143
        have x144 : Ext m122 m142 := by rw [e143]; exact Ext.sL _ _ _ _
        have k145 : mK m142 t = 4 := x144.k k124 (by decide)
        have k146 : mK m142 b3 = 19 := x144.k k125 (by decide)
        have k147 : mK m142 b7 = 2 := x144.k k126 (by decide)
        have k148 : mK m142 b10 = 15 := x144.k k127 (by decide)
        have k149 : mK m142 b26 = 3 := x144.k k128 (by decide)
        have k150 : mK m142 b24 = 17 := x144.k k129 (by decide)
        have k151 : mK m142 b118 = 9 := x144.k k130 (by decide)
        have k152 : mK m142 b137 = 16 := x144.k k139 (by decide)
        have e153 : mR m142 t 1 = some b3 := x144.r k124 (by decide) rfl e131
        have e154 : mR m142 b3 l1.toNatClampNeg = some b7 := x144.r k125 (by decide) rfl e132
        have e155 : mR m142 b7 1 = some b10 := x144.r k126 (by decide) rfl e133
        have e156 : mR m142 b7 2 = some b24 := x144.r k126 (by decide) rfl e134
        have e157 : mR m142 t 4 = some b26 := x144.r k124 (by decide) rfl e135
        have e158 : mR m142 t 3 = some b118 := x144.r k124 (by decide) rfl e136
        have e159 : mR m142 t 7 = some b137 := x144.r k124 (by decide) rfl e138
        refine at_iinc (i := 1) (n := 1) (lc' := [(0, va_rf (some t)), (1, .int (l1 + (1 : Int32)))]) (l1 + (1 : Int32)) 1 [1, 0] 170 rfl (by decide +kernel) rfl (by rw [show Int32.ofInt 1 = (1 : Int32) from by decide +kernel]) (by decide +kernel) rfl ?_
        refine at_goto (off := (-168)) 2 (by decide +kernel) (by decide +kernel) ?_
        exact h
    · rw [if_neg c60] at h
      refine at_goto (off := 102) 167 (by decide +kernel) (by decide +kernel) ?_
      refine at_iinc (i := 1) (n := 1) (lc' := [(0, va_rf (some t)), (1, .int (l1 + (1 : Int32)))]) (l1 + (1 : Int32)) 1 [1, 0] 170 rfl (by decide +kernel) rfl (by rw [show Int32.ofInt 1 = (1 : Int32) from by decide +kernel]) (by decide +kernel) rfl ?_
      refine at_goto (off := (-168)) 2 (by decide +kernel) (by decide +kernel) ?_
      exact h
set_option maxRecDepth 20000 in
set_option maxHeartbeats 4000000 in
theorem en_Land_keepParts (g : Gc) {lv : Nat} {t : Nat} {m : Mm} {Q : Mm → Prop} (h : At g M_Land_keepParts (lv + 1) 2 [(0, va_rf (some t)), (1, .int ((0 : Int32)))] [] m (QV Q)) : CV g M_Land_keepParts (lv + 1) [va_rf (some t)] m Q := by
  refine Call.of (by decide +kernel) (Nat.le_of_ble_eq_true rfl) ?_
  show At g M_Land_keepParts (lv + 1) 0 [(0, va_rf (some t))] [] m (QV Q)
  refine at_iconst (n := 0) (0 : Int32) 1 rfl (by decide +kernel) (by decide +kernel) ?_
  refine at_istore_n (i := 1) (lc' := [(0, va_rf (some t)), (1, .int ((0 : Int32)))]) [1, 0] 2 rfl (by decide +kernel) (by decide +kernel) rfl ?_
  exact h
set_option maxRecDepth 20000 in
set_option maxHeartbeats 4000000 in
theorem bk_Land_sellStored_11 (g : Gc) {lv : Nat} {t : Nat} {l1 : Int32} {l2 : Int64} {l4 : Int32} {m : Mm} {Q : Mm → Prop} (h : if (l1) ≤ (l4) then (Q m) else (mK m t = 4 ∧ (∃ b3, mR m t 3 = some b3 ∧ (mK m b3 = 9 ∧ (if (mI m b3 1) ≤ (l4) then (Q m) else (∃ b7, mR m b3 0 = some b7 ∧ (mK m b7 = 21 ∧ (vp_in l4 (mN m b7) ∧ (∃ b11, mR m b7 l4.toNatClampNeg = some b11 ∧ (mK m b11 = 7 ∧ (∀ m14, m14 = sI m b11 1 ((mI m b11 1) - ((lmn l2 ((mI m b11 1).toInt64)).toInt32)) → (CV g M_Land_credit lv [va_rf (some t), .int (mI m14 b11 0), .long ((((lmn l2 ((mI m b11 1).toInt64)).toInt32).toInt64) * ((mI m14 t 10).toInt64))] m14 (fun m23 => (∃ b31, mR m23 t 7 = some b31 ∧ (mK m23 b31 = 16 ∧ (vp_in (3 : Int32) (mN m23 b31) ∧ (vp_in (3 : Int32) (mN m23 b31) ∧ (∀ m36, m36 = sL m23 b31 (3 : Int32).toNatClampNeg ((mL m23 b31 (3 : Int32).toNatClampNeg) + (((lmn l2 ((mI m b11 1).toInt64)).toInt32).toInt64)) → (At g M_Land_sellStored (lv + 1) 11 [(0, va_rf (some t)), (1, .int (l1)), (2, .long (l2 - (((lmn l2 ((mI m b11 1).toInt64)).toInt32).toInt64))), (4, .int (l4 + (1 : Int32)))] [] m36 (QV Q)))))))))))))))))))) : At g M_Land_sellStored (lv + 1) 11 [(0, va_rf (some t)), (1, .int (l1)), (2, .long (l2)), (4, .int (l4))] [] m (QV Q) := by
  refine at_iload (i := 4) 3 13 rfl (by decide +kernel) rfl ?_
  refine at_iload_n (i := 1) 1 14 rfl (by decide +kernel) rfl ?_
  refine at_icmp_ge (off := 94) 108 17 rfl (by decide +kernel) (by decide +kernel) (fun c1 => ?_) (fun c1 => ?_)
  · rw [if_pos c1] at h
    exact at_vret rfl (by decide +kernel) h
  · rw [if_neg c1] at h
    refine at_iload (i := 4) 3 19 rfl (by decide +kernel) rfl ?_
    refine at_aload_n (i := 0) 0 20 rfl (by decide +kernel) rfl ?_
    obtain ⟨k2, h⟩ := h
    refine at_get (index := 26) (v := va_rf (mR m t 3)) cok3 3 23 rfl (by decide +kernel) k2 (by decide +kernel) tw_290 rfl ?_
    obtain ⟨b3, e4, h⟩ := h
    rw [e4]
    obtain ⟨k5, h⟩ := h
    refine at_get (index := 90) (v := .int (mI m b3 1)) cok8 1 26 rfl (by decide +kernel) k5 (by decide +kernel) tw_154 rfl ?_
    refine at_icmp_ge (off := 82) 108 29 rfl (by decide +kernel) (by decide +kernel) (fun c6 => ?_) (fun c6 => ?_)
    · rw [if_pos c6] at h
      exact at_vret rfl (by decide +kernel) h
    · rw [if_neg c6] at h
      refine at_aload_n (i := 0) 0 30 rfl (by decide +kernel) rfl ?_
      refine at_get (index := 26) (v := va_rf (mR m t 3)) cok3 3 33 rfl (by decide +kernel) k2 (by decide +kernel) tw_290 rfl ?_
      rw [e4]
      refine at_get (index := 212) (v := va_rf (mR m b3 0)) cok8 0 36 rfl (by decide +kernel) k5 (by decide +kernel) tw_152 rfl ?_
      obtain ⟨b7, e8, h⟩ := h
      rw [e8]
      refine at_iload (i := 4) 3 38 rfl (by decide +kernel) rfl ?_
      obtain ⟨k9, h⟩ := h
      obtain ⟨v10, h⟩ := h
      refine at_aaldReceipt 39 rfl (by decide +kernel) k9 v10 ?_
      refine at_astore (i := 5) (lc' := [(0, va_rf (some t)), (1, .int (l1)), (2, .long (l2)), (4, .int (l4)), (5, va_rf (mR m b7 l4.toNatClampNeg))]) [1, 2, 3, 4, 0] 41 rfl (by decide +kernel) (by decide +kernel) rfl ?_
      refine at_lload_n (i := 2) 2 42 rfl (by decide +kernel) rfl ?_
      refine at_aload (i := 5) 4 44 rfl (by decide +kernel) rfl ?_
      obtain ⟨b11, e12, h⟩ := h
      rw [e12]
      obtain ⟨k13, h⟩ := h
      refine at_get (index := 216) (v := .int (mI m b11 1)) cok6 1 47 rfl (by decide +kernel) k13 (by decide +kernel) tw_778 rfl ?_
      refine at_i2l 48 rfl (by decide +kernel) ?_
      refine at_lmn (index := 221) 51 rfl (by decide +kernel) tw_805 (by decide) ?_
      refine at_l2i 52 rfl (by decide +kernel) ?_
      refine at_istore (i := 6) (lc' := [(0, va_rf (some t)), (1, .int (l1)), (2, .long (l2)), (4, .int (l4)), (5, va_rf (some b11)), (6, .int ((lmn l2 ((mI m b11 1).toInt64)).toInt32))]) [1, 2, 3, 4, 5, 0] 54 rfl (by decide +kernel) (by decide +kernel) rfl ?_
      refine at_aload (i := 5) 4 56 rfl (by decide +kernel) rfl ?_
      refine at_dup 57 rfl (by decide +kernel) (va_rf_cat _) ?_
      refine at_get (index := 216) (v := .int (mI m b11 1)) cok6 1 60 rfl (by decide +kernel) k13 (by decide +kernel) tw_778 rfl ?_
      refine at_iload (i := 6) 5 62 rfl (by decide +kernel) rfl ?_
      refine at_isub 63 rfl (by decide +kernel) ?_
      refine at_putI (index := 216) cok6 1 66 rfl (by decide +kernel) k13 (by decide +kernel) tw_778 rfl rfl rfl (fun m14 e15 => ?_)
      replace h := h m14 e15
      have x16 : Ext m m14 := by rw [e15]; exact Ext.sI _ _ _ _
      have k17 : mK m14 t = 4 := x16.k k2 (by decide)
      have k18 : mK m14 b3 = 9 := x16.k k5 (by decide)
      have k19 : mK m14 b7 = 21 := x16.k k9 (by decide)
      have k20 : mK m14 b11 = 7 := x16.k k13 (by decide)
      have e21 : mR m14 t 3 = some b3 := x16.r k2 (by decide) rfl e4
      have e22 : mR m14 b3 0 = some b7 := x16.r k5 (by decide) rfl e8
      refine at_lload_n (i := 2) 2 67 rfl (by decide +kernel) rfl ?_
      refine at_iload (i := 6) 5 69 rfl (by decide +kernel) rfl ?_
      refine at_i2l 70 rfl (by decide +kernel) ?_
      refine at_lsub 71 rfl (by decide +kernel) ?_
      refine at_lstore_n (i := 2) (lc' := [(0, va_rf (some t)), (1, .int (l1)), (2, .long (l2 - (((lmn l2 ((mI m b11 1).toInt64)).toInt32).toInt64))), (4, .int (l4)), (5, va_rf (some b11)), (6, .int ((lmn l2 ((mI m b11 1).toInt64)).toInt32))]) [1, 2, 0, 3, 4, 5] 72 rfl (by decide +kernel) (by decide +kernel) rfl ?_
      refine at_aload_n (i := 0) 0 73 rfl (by decide +kernel) rfl ?_
      refine at_aload (i := 5) 4 75 rfl (by decide +kernel) rfl ?_
      refine at_get (index := 227) (v := .int (mI m14 b11 0)) cok6 0 78 rfl (by decide +kernel) k20 (by decide +kernel) tw_775 rfl ?_
      refine at_iload (i := 6) 5 80 rfl (by decide +kernel) rfl ?_
      refine at_i2l 81 rfl (by decide +kernel) ?_
      refine at_aload_n (i := 0) 0 82 rfl (by decide +kernel) rfl ?_
      refine at_get (index := 48) (v := .int (mI m14 t 10)) cok3 10 85 rfl (by decide +kernel) k17 (by decide +kernel) tw_301 rfl ?_
      refine at_i2l 86 rfl (by decide +kernel) ?_
      refine at_lmul 87 rfl (by decide +kernel) ?_
      refine at_callV mb_Land_credit tw_807 tw_808 cok3 k17 (index := 230) tw_806 [.int (mI m14 b11 0), .long ((((lmn l2 ((mI m b11 1).toInt64)).toInt32).toInt64) * ((mI m14 t 10).toInt64))] [] rfl rfl (by decide) 90 rfl (by decide +kernel) (Call.toV (CV.monoE h (fun m23 h y24 => ?_)))
      have k25 : mK m23 t = 4 := y24.k k17 (by decide)
      have k26 : mK m23 b3 = 9 := y24.k k18 (by decide)
      have k27 : mK m23 b7 = 21 := y24.k k19 (by decide)
      have k28 : mK m23 b11 = 7 := y24.k k20 (by decide)
      have e29 : mR m23 t 3 = some b3 := y24.r k17 (by decide) rfl e21
      have e30 : mR m23 b3 0 = some b7 := y24.r k18 (by decide) rfl e22
      refine at_aload_n (i := 0) 0 91 rfl (by decide +kernel) rfl ?_
      refine at_get (index := 44) (v := va_rf (mR m23 t 7)) cok3 7 94 rfl (by decide +kernel) k25 (by decide +kernel) tw_295 rfl ?_
      obtain ⟨b31, e32, h⟩ := h
      rw [e32]
      refine at_iconst (n := 3) (3 : Int32) 95 rfl (by decide +kernel) (by decide +kernel) ?_
      refine at_dup2_11 96 rfl (by decide +kernel) rfl (va_rf_cat _) ?_
      obtain ⟨k33, h⟩ := h
      obtain ⟨v34, h⟩ := h
      refine at_lald 97 rfl (by decide +kernel) k33 v34 ?_
      refine at_iload (i := 6) 5 99 rfl (by decide +kernel) rfl ?_
      refine at_i2l 100 rfl (by decide +kernel) ?_
      refine at_ladd 101 rfl (by decide +kernel) ?_
      obtain ⟨v35, h⟩ := h
      refine at_last 102 rfl (by decide +kernel) k33 v35 (fun m36 e37 => ?_)
      replace h := h m36 e37
      have x38 : Ext m23 m36 := by rw [e37]; exact Ext.sL _ _ _ _
      have k39 : mK m36 t = 4 := x38.k k25 (by decide)
      have k40 : mK m36 b3 = 9 := x38.k k26 (by decide)
      have k41 : mK m36 b7 = 21 := x38.k k27 (by decide)
      have k42 : mK m36 b11 = 7 := x38.k k28 (by decide)
      have k43 : mK m36 b31 = 16 := x38.k k33 (by decide)
      have e44 : mR m36 t 3 = some b3 := x38.r k25 (by decide) rfl e29
      have e45 : mR m36 b3 0 = some b7 := x38.r k26 (by decide) rfl e30
      have e46 : mR m36 t 7 = some b31 := x38.r k25 (by decide) rfl e32
      refine at_iinc (i := 4) (n := 1) (lc' := [(0, va_rf (some t)), (1, .int (l1)), (2, .long (l2 - (((lmn l2 ((mI m b11 1).toInt64)).toInt32).toInt64))), (4, .int (l4 + (1 : Int32)))]) (l4 + (1 : Int32)) 3 [1, 2, 3, 0] 105 rfl (by decide +kernel) rfl (by rw [show Int32.ofInt 1 = (1 : Int32) from by decide +kernel]) (by decide +kernel) rfl ?_
      refine at_goto (off := (-94)) 11 (by decide +kernel) (by decide +kernel) ?_
      exact h
set_option maxRecDepth 20000 in
set_option maxHeartbeats 4000000 in
theorem en_Land_sellStored (g : Gc) {lv : Nat} {t : Nat} {l1 : Int32} {m : Mm} {Q : Mm → Prop} (h : mK m t = 4 ∧ (∃ b2, mR m t 4 = some b2 ∧ (mK m b2 = 3 ∧ (At g M_Land_sellStored (lv + 1) 11 [(0, va_rf (some t)), (1, .int (l1)), (2, .long (mL m b2 8)), (4, .int ((0 : Int32)))] [] m (QV Q))))) : CV g M_Land_sellStored (lv + 1) [va_rf (some t), .int (l1)] m Q := by
  refine Call.of (by decide +kernel) (Nat.le_of_ble_eq_true rfl) ?_
  show At g M_Land_sellStored (lv + 1) 0 [(0, va_rf (some t)), (1, .int (l1))] [] m (QV Q)
  refine at_aload_n (i := 0) 0 1 rfl (by decide +kernel) rfl ?_
  obtain ⟨k1, h⟩ := h
  refine at_get (index := 33) (v := va_rf (mR m t 4)) cok3 4 4 rfl (by decide +kernel) k1 (by decide +kernel) tw_292 rfl ?_
  obtain ⟨b2, e3, h⟩ := h
  rw [e3]
  obtain ⟨k4, h⟩ := h
  refine at_get (index := 209) (v := .long (mL m b2 8)) cok2 8 7 rfl (by decide +kernel) k4 (by decide +kernel) tw_179 rfl ?_
  refine at_lstore_n (i := 2) (lc' := [(0, va_rf (some t)), (1, .int (l1)), (2, .long (mL m b2 8))]) [1, 2, 0] 8 rfl (by decide +kernel) (by decide +kernel) rfl ?_
  refine at_iconst (n := 0) (0 : Int32) 9 rfl (by decide +kernel) (by decide +kernel) ?_
  refine at_istore (i := 4) (lc' := [(0, va_rf (some t)), (1, .int (l1)), (2, .long (mL m b2 8)), (4, .int ((0 : Int32)))]) [1, 2, 3, 0] 11 rfl (by decide +kernel) (by decide +kernel) rfl ?_
  exact h
set_option maxRecDepth 20000 in
set_option maxHeartbeats 4000000 in
theorem bk_Land_stillStored_14 (g : Gc) {lv : Nat} {t : Nat} {l1 : Int32} {m : Mm} {Q : Mm → Prop} (h : mK m t = 4 ∧ (∃ b2, mR m t 3 = some b2 ∧ (mK m b2 = 9 ∧ (if (mI m b2 1) ≤ (l1) then (Q m) else (∃ b6, mR m b2 0 = some b6 ∧ (mK m b6 = 21 ∧ (vp_in l1 (mN m b6) ∧ (∃ b10, mR m b6 l1.toNatClampNeg = some b10 ∧ (mK m b10 = 7 ∧ (∃ b13, mR m t 4 = some b13 ∧ (mK m b13 = 3 ∧ (if ((mI m t 9) - (mI m b10 2)) ≤ (mI m b13 6) then (At g M_Land_stillStored (lv + 1) 14 [(0, va_rf (some t)), (1, .int (l1 + (1 : Int32)))] [] m (QV Q)) else (CV g M_Land_credit lv [va_rf (some t), .int (mI m b10 0), .long (((mI m b10 1).toInt64) * (((mI m t 10) / (4 : Int32)).toInt64))] m (fun m17 => (∃ b27, mR m17 t 7 = some b27 ∧ (mK m17 b27 = 16 ∧ (vp_in (5 : Int32) (mN m17 b27) ∧ (vp_in (5 : Int32) (mN m17 b27) ∧ (∀ m32, m32 = sL m17 b27 (5 : Int32).toNatClampNeg ((mL m17 b27 (5 : Int32).toNatClampNeg) + ((mI m17 b10 1).toInt64)) → (∀ m45, m45 = sI m32 b10 1 (0 : Int32) → (At g M_Land_stillStored (lv + 1) 14 [(0, va_rf (some t)), (1, .int (l1 + (1 : Int32)))] [] m45 (QV Q)))))))))))))))))))))) : At g M_Land_stillStored (lv + 1) 14 [(0, va_rf (some t)), (1, .int (l1))] [] m (QV Q) := by
  refine at_iload_n (i := 1) 1 15 rfl (by decide +kernel) rfl ?_
  refine at_aload_n (i := 0) 0 16 rfl (by decide +kernel) rfl ?_
  obtain ⟨k1, h⟩ := h
  refine at_get (index := 26) (v := va_rf (mR m t 3)) cok3 3 19 rfl (by decide +kernel) k1 (by decide +kernel) tw_290 rfl ?_
  obtain ⟨b2, e3, h⟩ := h
  rw [e3]
  obtain ⟨k4, h⟩ := h
  refine at_get (index := 90) (v := .int (mI m b2 1)) cok8 1 22 rfl (by decide +kernel) k4 (by decide +kernel) tw_154 rfl ?_
  refine at_icmp_ge (off := 78) 100 25 rfl (by decide +kernel) (by decide +kernel) (fun c5 => ?_) (fun c5 => ?_)
  · rw [if_pos c5] at h
    exact at_vret rfl (by decide +kernel) h
  · rw [if_neg c5] at h
    refine at_aload_n (i := 0) 0 26 rfl (by decide +kernel) rfl ?_
    refine at_get (index := 26) (v := va_rf (mR m t 3)) cok3 3 29 rfl (by decide +kernel) k1 (by decide +kernel) tw_290 rfl ?_
    rw [e3]
    refine at_get (index := 212) (v := va_rf (mR m b2 0)) cok8 0 32 rfl (by decide +kernel) k4 (by decide +kernel) tw_152 rfl ?_
    obtain ⟨b6, e7, h⟩ := h
    rw [e7]
    refine at_iload_n (i := 1) 1 33 rfl (by decide +kernel) rfl ?_
    obtain ⟨k8, h⟩ := h
    obtain ⟨v9, h⟩ := h
    refine at_aaldReceipt 34 rfl (by decide +kernel) k8 v9 ?_
    refine at_astore_n (i := 2) (lc' := [(0, va_rf (some t)), (1, .int (l1)), (2, va_rf (mR m b6 l1.toNatClampNeg))]) [1, 2, 0] 35 rfl (by decide +kernel) (by decide +kernel) rfl ?_
    refine at_aload_n (i := 0) 0 36 rfl (by decide +kernel) rfl ?_
    refine at_get (index := 69) (v := .int (mI m t 9)) cok3 9 39 rfl (by decide +kernel) k1 (by decide +kernel) tw_299 rfl ?_
    refine at_aload_n (i := 2) 2 40 rfl (by decide +kernel) rfl ?_
    obtain ⟨b10, e11, h⟩ := h
    rw [e11]
    obtain ⟨k12, h⟩ := h
    refine at_get (index := 237) (v := .int (mI m b10 2)) cok6 2 43 rfl (by decide +kernel) k12 (by decide +kernel) tw_781 rfl ?_
    refine at_isub 44 rfl (by decide +kernel) ?_
    refine at_aload_n (i := 0) 0 45 rfl (by decide +kernel) rfl ?_
    refine at_get (index := 33) (v := va_rf (mR m t 4)) cok3 4 48 rfl (by decide +kernel) k1 (by decide +kernel) tw_292 rfl ?_
    obtain ⟨b13, e14, h⟩ := h
    rw [e14]
    obtain ⟨k15, h⟩ := h
    refine at_get (index := 234) (v := .int (mI m b13 6)) cok2 6 51 rfl (by decide +kernel) k15 (by decide +kernel) tw_176 rfl ?_
    refine at_icmp_le (off := 43) 94 54 rfl (by decide +kernel) (by decide +kernel) (fun c16 => ?_) (fun c16 => ?_)
    · rw [if_pos c16] at h
      refine at_iinc (i := 1) (n := 1) (lc' := [(0, va_rf (some t)), (1, .int (l1 + (1 : Int32)))]) (l1 + (1 : Int32)) 1 [1, 0] 97 rfl (by decide +kernel) rfl (by rw [show Int32.ofInt 1 = (1 : Int32) from by decide +kernel]) (by decide +kernel) rfl ?_
      refine at_goto (off := (-83)) 14 (by decide +kernel) (by decide +kernel) ?_
      exact h
    · rw [if_neg c16] at h
      refine at_aload_n (i := 0) 0 55 rfl (by decide +kernel) rfl ?_
      refine at_aload_n (i := 2) 2 56 rfl (by decide +kernel) rfl ?_
      refine at_get (index := 227) (v := .int (mI m b10 0)) cok6 0 59 rfl (by decide +kernel) k12 (by decide +kernel) tw_775 rfl ?_
      refine at_aload_n (i := 2) 2 60 rfl (by decide +kernel) rfl ?_
      refine at_get (index := 216) (v := .int (mI m b10 1)) cok6 1 63 rfl (by decide +kernel) k12 (by decide +kernel) tw_778 rfl ?_
      refine at_i2l 64 rfl (by decide +kernel) ?_
      refine at_aload_n (i := 0) 0 65 rfl (by decide +kernel) rfl ?_
      refine at_get (index := 48) (v := .int (mI m t 10)) cok3 10 68 rfl (by decide +kernel) k1 (by decide +kernel) tw_301 rfl ?_
      refine at_iconst (n := 4) (4 : Int32) 69 rfl (by decide +kernel) (by decide +kernel) ?_
      refine at_idiv 70 rfl (by decide +kernel) (by decide +kernel) ?_
      refine at_i2l 71 rfl (by decide +kernel) ?_
      refine at_lmul 72 rfl (by decide +kernel) ?_
      refine at_callV mb_Land_credit tw_807 tw_808 cok3 k1 (index := 230) tw_806 [.int (mI m b10 0), .long (((mI m b10 1).toInt64) * (((mI m t 10) / (4 : Int32)).toInt64))] [] rfl rfl (by decide) 75 rfl (by decide +kernel) (Call.toV (CV.monoE h (fun m17 h y18 => ?_)))
      have k19 : mK m17 t = 4 := y18.k k1 (by decide)
      have k20 : mK m17 b2 = 9 := y18.k k4 (by decide)
      have k21 : mK m17 b6 = 21 := y18.k k8 (by decide)
      have k22 : mK m17 b10 = 7 := y18.k k12 (by decide)
      have k23 : mK m17 b13 = 3 := y18.k k15 (by decide)
      have e24 : mR m17 t 3 = some b2 := y18.r k1 (by decide) rfl e3
      have e25 : mR m17 b2 0 = some b6 := y18.r k4 (by decide) rfl e7
      have e26 : mR m17 t 4 = some b13 := y18.r k1 (by decide) rfl e14
      refine at_aload_n (i := 0) 0 76 rfl (by decide +kernel) rfl ?_
      refine at_get (index := 44) (v := va_rf (mR m17 t 7)) cok3 7 79 rfl (by decide +kernel) k19 (by decide +kernel) tw_295 rfl ?_
      obtain ⟨b27, e28, h⟩ := h
      rw [e28]
      refine at_iconst (n := 5) (5 : Int32) 80 rfl (by decide +kernel) (by decide +kernel) ?_
      refine at_dup2_11 81 rfl (by decide +kernel) rfl (va_rf_cat _) ?_
      obtain ⟨k29, h⟩ := h
      obtain ⟨v30, h⟩ := h
      refine at_lald 82 rfl (by decide +kernel) k29 v30 ?_
      refine at_aload_n (i := 2) 2 83 rfl (by decide +kernel) rfl ?_
      refine at_get (index := 216) (v := .int (mI m17 b10 1)) cok6 1 86 rfl (by decide +kernel) k22 (by decide +kernel) tw_778 rfl ?_
      refine at_i2l 87 rfl (by decide +kernel) ?_
      refine at_ladd 88 rfl (by decide +kernel) ?_
      obtain ⟨v31, h⟩ := h
      refine at_last 89 rfl (by decide +kernel) k29 v31 (fun m32 e33 => ?_)
      replace h := h m32 e33
      have x34 : Ext m17 m32 := by rw [e33]; exact Ext.sL _ _ _ _
      have k35 : mK m32 t = 4 := x34.k k19 (by decide)
      have k36 : mK m32 b2 = 9 := x34.k k20 (by decide)
      have k37 : mK m32 b6 = 21 := x34.k k21 (by decide)
      have k38 : mK m32 b10 = 7 := x34.k k22 (by decide)
      have k39 : mK m32 b13 = 3 := x34.k k23 (by decide)
      have k40 : mK m32 b27 = 16 := x34.k k29 (by decide)
      have e41 : mR m32 t 3 = some b2 := x34.r k19 (by decide) rfl e24
      have e42 : mR m32 b2 0 = some b6 := x34.r k20 (by decide) rfl e25
      have e43 : mR m32 t 4 = some b13 := x34.r k19 (by decide) rfl e26
      have e44 : mR m32 t 7 = some b27 := x34.r k19 (by decide) rfl e28
      refine at_aload_n (i := 2) 2 90 rfl (by decide +kernel) rfl ?_
      refine at_iconst (n := 0) (0 : Int32) 91 rfl (by decide +kernel) (by decide +kernel) ?_
      refine at_putI (index := 216) cok6 1 94 rfl (by decide +kernel) k38 (by decide +kernel) tw_778 rfl rfl rfl (fun m45 e46 => ?_)
      replace h := h m45 e46
      have x47 : Ext m32 m45 := by rw [e46]; exact Ext.sI _ _ _ _
      have k48 : mK m45 t = 4 := x47.k k35 (by decide)
      have k49 : mK m45 b2 = 9 := x47.k k36 (by decide)
      have k50 : mK m45 b6 = 21 := x47.k k37 (by decide)
      have k51 : mK m45 b10 = 7 := x47.k k38 (by decide)
      have k52 : mK m45 b13 = 3 := x47.k k39 (by decide)
      have k53 : mK m45 b27 = 16 := x47.k k40 (by decide)
      have e54 : mR m45 t 3 = some b2 := x47.r k35 (by decide) rfl e41
      have e55 : mR m45 b2 0 = some b6 := x47.r k36 (by decide) rfl e42
      have e56 : mR m45 t 4 = some b13 := x47.r k35 (by decide) rfl e43
      have e57 : mR m45 t 7 = some b27 := x47.r k35 (by decide) rfl e44
      refine at_iinc (i := 1) (n := 1) (lc' := [(0, va_rf (some t)), (1, .int (l1 + (1 : Int32)))]) (l1 + (1 : Int32)) 1 [1, 0] 97 rfl (by decide +kernel) rfl (by rw [show Int32.ofInt 1 = (1 : Int32) from by decide +kernel]) (by decide +kernel) rfl ?_
      refine at_goto (off := (-83)) 14 (by decide +kernel) (by decide +kernel) ?_
      exact h
set_option maxRecDepth 20000 in
set_option maxHeartbeats 4000000 in
theorem en_Land_stillStored (g : Gc) {lv : Nat} {t : Nat} {m : Mm} {Q : Mm → Prop} (h : mK m t = 4 ∧ (∃ b2, mR m t 4 = some b2 ∧ (mK m b2 = 3 ∧ (if (mI m b2 6) = ((-1 : Int32)) then (Q m) else (At g M_Land_stillStored (lv + 1) 14 [(0, va_rf (some t)), (1, .int ((0 : Int32)))] [] m (QV Q)))))) : CV g M_Land_stillStored (lv + 1) [va_rf (some t)] m Q := by
  refine Call.of (by decide +kernel) (Nat.le_of_ble_eq_true rfl) ?_
  show At g M_Land_stillStored (lv + 1) 0 [(0, va_rf (some t))] [] m (QV Q)
  refine at_aload_n (i := 0) 0 1 rfl (by decide +kernel) rfl ?_
  obtain ⟨k1, h⟩ := h
  refine at_get (index := 33) (v := va_rf (mR m t 4)) cok3 4 4 rfl (by decide +kernel) k1 (by decide +kernel) tw_292 rfl ?_
  obtain ⟨b2, e3, h⟩ := h
  rw [e3]
  obtain ⟨k4, h⟩ := h
  refine at_get (index := 234) (v := .int (mI m b2 6)) cok2 6 7 rfl (by decide +kernel) k4 (by decide +kernel) tw_176 rfl ?_
  refine at_iconst (n := (-1)) (-1 : Int32) 8 rfl (by decide +kernel) (by decide +kernel) ?_
  refine at_icmp_ne (off := 4) 12 11 rfl (by decide +kernel) (by decide +kernel) (fun c5 => ?_) (fun c5 => ?_)
  · rw [if_neg c5] at h
    refine at_iconst (n := 0) (0 : Int32) 13 rfl (by decide +kernel) (by decide +kernel) ?_
    refine at_istore_n (i := 1) (lc' := [(0, va_rf (some t)), (1, .int ((0 : Int32)))]) [1, 0] 14 rfl (by decide +kernel) (by decide +kernel) rfl ?_
    exact h
  · rw [if_pos c5] at h
    exact at_vret rfl (by decide +kernel) h
set_option maxRecDepth 20000 in
set_option maxHeartbeats 4000000 in
theorem bk_Land_sellFree_92 (g : Gc) {lv : Nat} {t : Nat} {l3 : Int64} {l5 : Int64} {l7 : Int32} {m : Mm} {Q : Mm → Prop} (h : if ((12 : Int32)) ≤ (l7) then (mK m t = 4 ∧ (∃ b3, mR m t 7 = some b3 ∧ (mK m b3 = 16 ∧ (vp_in (2 : Int32) (mN m b3) ∧ (vp_in (2 : Int32) (mN m b3) ∧ (∀ m8, m8 = sL m b3 (2 : Int32).toNatClampNeg ((mL m b3 (2 : Int32).toNatClampNeg) + (l3 - l5)) → (Q m8))))))) else (if (l5) ≤ ((0 : Int64)) then (mK m t = 4 ∧ (∃ b16, mR m t 7 = some b16 ∧ (mK m b16 = 16 ∧ (vp_in (2 : Int32) (mN m b16) ∧ (vp_in (2 : Int32) (mN m b16) ∧ (∀ m21, m21 = sL m b16 (2 : Int32).toNatClampNeg ((mL m b16 (2 : Int32).toNatClampNeg) + (l3 - l5)) → (Q m21))))))) else (mK m t = 4 ∧ (CJ g M_Land_sellOneEach lv [va_rf (some t), .long (l5)] m (fun x28 m29 => (At g M_Land_sellFree (lv + 1) 92 [(0, va_rf (some t)), (3, .long (l3)), (5, .long (l5 - x28)), (7, .int (l7 + (1 : Int32)))] [] m29 (QV Q))))))) : At g M_Land_sellFree (lv + 1) 92 [(0, va_rf (some t)), (3, .long (l3)), (5, .long (l5)), (7, .int (l7))] [] m (QV Q) := by
  refine at_iload (i := 7) 3 94 rfl (by decide +kernel) rfl ?_
  refine at_bipush (n := 12) (12 : Int32) 96 rfl (by decide +kernel) (by decide +kernel) ?_
  refine at_icmp_ge (off := 27) 123 99 rfl (by decide +kernel) (by decide +kernel) (fun c1 => ?_) (fun c1 => ?_)
  · rw [if_pos c1] at h
    refine at_aload_n (i := 0) 0 124 rfl (by decide +kernel) rfl ?_
    obtain ⟨k2, h⟩ := h
    refine at_get (index := 44) (v := va_rf (mR m t 7)) cok3 7 127 rfl (by decide +kernel) k2 (by decide +kernel) tw_295 rfl ?_
    obtain ⟨b3, e4, h⟩ := h
    rw [e4]
    refine at_iconst (n := 2) (2 : Int32) 128 rfl (by decide +kernel) (by decide +kernel) ?_
    refine at_dup2_11 129 rfl (by decide +kernel) rfl (va_rf_cat _) ?_
    obtain ⟨k5, h⟩ := h
    obtain ⟨v6, h⟩ := h
    refine at_lald 130 rfl (by decide +kernel) k5 v6 ?_
    refine at_lload_n (i := 3) 1 131 rfl (by decide +kernel) rfl ?_
    refine at_lload (i := 5) 2 133 rfl (by decide +kernel) rfl ?_
    refine at_lsub 134 rfl (by decide +kernel) ?_
    refine at_ladd 135 rfl (by decide +kernel) ?_
    obtain ⟨v7, h⟩ := h
    refine at_last 136 rfl (by decide +kernel) k5 v7 (fun m8 e9 => ?_)
    replace h := h m8 e9
    have x10 : Ext m m8 := by rw [e9]; exact Ext.sL _ _ _ _
    have k11 : mK m8 t = 4 := x10.k k2 (by decide)
    have k12 : mK m8 b3 = 16 := x10.k k5 (by decide)
    have e13 : mR m8 t 7 = some b3 := x10.r k2 (by decide) rfl e4
    exact at_vret rfl (by decide +kernel) h
  · rw [if_neg c1] at h
    refine at_lload (i := 5) 2 101 rfl (by decide +kernel) rfl ?_
    refine at_lconst (n := 0) (0 : Int64) 102 rfl (by decide +kernel) (by decide +kernel) ?_
    refine at_lif_le (off := 20) 103 123 106 rfl rfl (by decide +kernel) (by decide +kernel) (by decide +kernel) (fun c14 => ?_) (fun c14 => ?_)
    · rw [if_pos c14] at h
      refine at_aload_n (i := 0) 0 124 rfl (by decide +kernel) rfl ?_
      obtain ⟨k15, h⟩ := h
      refine at_get (index := 44) (v := va_rf (mR m t 7)) cok3 7 127 rfl (by decide +kernel) k15 (by decide +kernel) tw_295 rfl ?_
      obtain ⟨b16, e17, h⟩ := h
      rw [e17]
      refine at_iconst (n := 2) (2 : Int32) 128 rfl (by decide +kernel) (by decide +kernel) ?_
      refine at_dup2_11 129 rfl (by decide +kernel) rfl (va_rf_cat _) ?_
      obtain ⟨k18, h⟩ := h
      obtain ⟨v19, h⟩ := h
      refine at_lald 130 rfl (by decide +kernel) k18 v19 ?_
      refine at_lload_n (i := 3) 1 131 rfl (by decide +kernel) rfl ?_
      refine at_lload (i := 5) 2 133 rfl (by decide +kernel) rfl ?_
      refine at_lsub 134 rfl (by decide +kernel) ?_
      refine at_ladd 135 rfl (by decide +kernel) ?_
      obtain ⟨v20, h⟩ := h
      refine at_last 136 rfl (by decide +kernel) k18 v20 (fun m21 e22 => ?_)
      replace h := h m21 e22
      have x23 : Ext m m21 := by rw [e22]; exact Ext.sL _ _ _ _
      have k24 : mK m21 t = 4 := x23.k k15 (by decide)
      have k25 : mK m21 b16 = 16 := x23.k k18 (by decide)
      have e26 : mR m21 t 7 = some b16 := x23.r k15 (by decide) rfl e17
      exact at_vret rfl (by decide +kernel) h
    · rw [if_neg c14] at h
      refine at_lload (i := 5) 2 108 rfl (by decide +kernel) rfl ?_
      refine at_aload_n (i := 0) 0 109 rfl (by decide +kernel) rfl ?_
      refine at_lload (i := 5) 2 111 rfl (by decide +kernel) rfl ?_
      obtain ⟨k27, h⟩ := h
      refine at_callV mb_Land_sellOneEach tw_828 tw_23 cok3 k27 (index := 241) tw_826 [.long (l5)] [.long (l5)] rfl rfl (by simp [va_rf_cat, cat_int, cat_long]) 114 rfl (by decide +kernel) (Call.toJ (CJ.monoE h (fun x28 m29 h y30 => ?_)))
      have k31 : mK m29 t = 4 := y30.k k27 (by decide)
      refine at_lsub 115 rfl (by decide +kernel) ?_
      refine at_lstore (i := 5) (lc' := [(0, va_rf (some t)), (3, .long (l3)), (5, .long (l5 - x28)), (7, .int (l7))]) [1, 2, 0, 3] 117 rfl (by decide +kernel) (by decide +kernel) rfl ?_
      refine at_iinc (i := 7) (n := 1) (lc' := [(0, va_rf (some t)), (3, .long (l3)), (5, .long (l5 - x28)), (7, .int (l7 + (1 : Int32)))]) (l7 + (1 : Int32)) 3 [1, 2, 3, 0] 120 rfl (by decide +kernel) rfl (by rw [show Int32.ofInt 1 = (1 : Int32) from by decide +kernel]) (by decide +kernel) rfl ?_
      refine at_goto (off := (-28)) 92 (by decide +kernel) (by decide +kernel) ?_
      exact h
set_option maxRecDepth 20000 in
set_option maxHeartbeats 4000000 in
theorem bk_Land_sellFree_32 (g : Gc) {lv : Nat} {t : Nat} {l1 : Int64} {l3 : Int64} {l5 : Int64} {l7 : Int32} {m : Mm} {Q : Mm → Prop} (h : mK m t = 4 ∧ (if (mI m t 8) ≤ (l7) then (At g M_Land_sellFree (lv + 1) 92 [(0, va_rf (some t)), (3, .long (l3)), (5, .long (l5)), (7, .int ((0 : Int32)))] [] m (QV Q)) else (∃ b3, mR m t 1 = some b3 ∧ (mK m b3 = 19 ∧ (vp_in l7 (mN m b3) ∧ (∃ b7, mR m b3 l7.toNatClampNeg = some b7 ∧ (mK m b7 = 2 ∧ (¬ l1 = 0 ∧ (vp_in l7 (mN m b3) ∧ (CV g M_Grower_sell lv [va_rf (some b7), .int (((((mI m b7 9).toInt64) * l3) / l1).toInt32), .int (mI m t 10)] m (fun m12 => (At g M_Land_sellFree (lv + 1) 32 [(0, va_rf (some t)), (1, .long (l1)), (3, .long (l3)), (5, .long (l5 - ((((((mI m b7 9).toInt64) * l3) / l1).toInt32).toInt64))), (7, .int (l7 + (1 : Int32)))] [] m12 (QV Q))))))))))))) : At g M_Land_sellFree (lv + 1) 32 [(0, va_rf (some t)), (1, .long (l1)), (3, .long (l3)), (5, .long (l5)), (7, .int (l7))] [] m (QV Q) := by
  refine at_iload (i := 7) 4 34 rfl (by decide +kernel) rfl ?_
  refine at_aload_n (i := 0) 0 35 rfl (by decide +kernel) rfl ?_
  obtain ⟨k1, h⟩ := h
  refine at_get (index := 58) (v := .int (mI m t 8)) cok3 8 38 rfl (by decide +kernel) k1 (by decide +kernel) tw_297 rfl ?_
  refine at_icmp_ge (off := 51) 89 41 rfl (by decide +kernel) (by decide +kernel) (fun c2 => ?_) (fun c2 => ?_)
  · rw [if_pos c2] at h
    refine at_iconst (n := 0) (0 : Int32) 90 rfl (by decide +kernel) (by decide +kernel) ?_
    refine at_istore (i := 7) (lc' := [(0, va_rf (some t)), (3, .long (l3)), (5, .long (l5)), (7, .int ((0 : Int32)))]) [1, 3, 4, 0] 92 rfl (by decide +kernel) (by decide +kernel) rfl ?_
    exact h
  · rw [if_neg c2] at h
    refine at_aload_n (i := 0) 0 42 rfl (by decide +kernel) rfl ?_
    refine at_get (index := 11) (v := va_rf (mR m t 1)) cok3 1 45 rfl (by decide +kernel) k1 (by decide +kernel) tw_286 rfl ?_
    obtain ⟨b3, e4, h⟩ := h
    rw [e4]
    refine at_iload (i := 7) 4 47 rfl (by decide +kernel) rfl ?_
    obtain ⟨k5, h⟩ := h
    obtain ⟨v6, h⟩ := h
    refine at_aaldGrower 48 rfl (by decide +kernel) k5 v6 ?_
    obtain ⟨b7, e8, h⟩ := h
    rw [e8]
    obtain ⟨k9, h⟩ := h
    refine at_get (index := 84) (v := .int (mI m b7 9)) cok1 9 51 rfl (by decide +kernel) k9 (by decide +kernel) tw_227 rfl ?_
    refine at_i2l 52 rfl (by decide +kernel) ?_
    refine at_lload_n (i := 3) 2 53 rfl (by decide +kernel) rfl ?_
    refine at_lmul 54 rfl (by decide +kernel) ?_
    refine at_lload_n (i := 1) 1 55 rfl (by decide +kernel) rfl ?_
    obtain ⟨c10, h⟩ := h
    refine at_ldiv 56 rfl (by decide +kernel) c10 ?_
    refine at_l2i 57 rfl (by decide +kernel) ?_
    refine at_istore (i := 8) (lc' := [(0, va_rf (some t)), (1, .long (l1)), (3, .long (l3)), (5, .long (l5)), (7, .int (l7)), (8, .int (((((mI m b7 9).toInt64) * l3) / l1).toInt32))]) [1, 2, 3, 4, 5, 0] 59 rfl (by decide +kernel) (by decide +kernel) rfl ?_
    refine at_aload_n (i := 0) 0 60 rfl (by decide +kernel) rfl ?_
    refine at_get (index := 11) (v := va_rf (mR m t 1)) cok3 1 63 rfl (by decide +kernel) k1 (by decide +kernel) tw_286 rfl ?_
    rw [e4]
    refine at_iload (i := 7) 4 65 rfl (by decide +kernel) rfl ?_
    obtain ⟨v11, h⟩ := h
    refine at_aaldGrower 66 rfl (by decide +kernel) k5 v11 ?_
    rw [e8]
    refine at_iload (i := 8) 5 68 rfl (by decide +kernel) rfl ?_
    refine at_aload_n (i := 0) 0 69 rfl (by decide +kernel) rfl ?_
    refine at_get (index := 48) (v := .int (mI m t 10)) cok3 10 72 rfl (by decide +kernel) k1 (by decide +kernel) tw_301 rfl ?_
    refine at_callV mb_Grower_sell tw_823 tw_824 cok1 k9 (index := 238) tw_822 [.int (((((mI m b7 9).toInt64) * l3) / l1).toInt32), .int (mI m t 10)] [] rfl rfl (by decide) 75 rfl (by decide +kernel) (Call.toV (CV.monoE h (fun m12 h y13 => ?_)))
    have k14 : mK m12 t = 4 := y13.k k1 (by decide)
    have k15 : mK m12 b3 = 19 := y13.k k5 (by decide)
    have k16 : mK m12 b7 = 2 := y13.k k9 (by decide)
    have e17 : mR m12 t 1 = some b3 := y13.r k1 (by decide) rfl e4
    have e18 : mR m12 b3 l7.toNatClampNeg = some b7 := y13.r k5 (by decide) rfl e8
    refine at_lload (i := 5) 3 77 rfl (by decide +kernel) rfl ?_
    refine at_iload (i := 8) 5 79 rfl (by decide +kernel) rfl ?_
    refine at_i2l 80 rfl (by decide +kernel) ?_
    refine at_lsub 81 rfl (by decide +kernel) ?_
    refine at_lstore (i := 5) (lc' := [(0, va_rf (some t)), (1, .long (l1)), (3, .long (l3)), (5, .long (l5 - ((((((mI m b7 9).toInt64) * l3) / l1).toInt32).toInt64))), (7, .int (l7))]) [1, 2, 3, 0, 4] 83 rfl (by decide +kernel) (by decide +kernel) rfl ?_
    refine at_iinc (i := 7) (n := 1) (lc' := [(0, va_rf (some t)), (1, .long (l1)), (3, .long (l3)), (5, .long (l5 - ((((((mI m b7 9).toInt64) * l3) / l1).toInt32).toInt64))), (7, .int (l7 + (1 : Int32)))]) (l7 + (1 : Int32)) 4 [1, 2, 3, 4, 0] 86 rfl (by decide +kernel) rfl (by rw [show Int32.ofInt 1 = (1 : Int32) from by decide +kernel]) (by decide +kernel) rfl ?_
    refine at_goto (off := (-54)) 32 (by decide +kernel) (by decide +kernel) ?_
    exact h
set_option maxRecDepth 20000 in
set_option maxHeartbeats 4000000 in
theorem en_Land_sellFree (g : Gc) {lv : Nat} {t : Nat} {l1 : Int64} {m : Mm} {Q : Mm → Prop} (h : if ((0 : Int64)) < (l1) then (mK m t = 4 ∧ (∃ b3, mR m t 4 = some b3 ∧ (mK m b3 = 3 ∧ (CJ g M_SL_cutTo lv [.long (((mI m t 11).toInt64) - (mL m b3 8)), .long ((0 : Int64)), .long (l1)] m (fun x6 m7 => (At g M_Land_sellFree (lv + 1) 32 [(0, va_rf (some t)), (1, .long (l1)), (3, .long (x6)), (5, .long (x6)), (7, .int ((0 : Int32)))] [] m7 (QV Q))))))) else (Q m)) : CV g M_Land_sellFree (lv + 1) [va_rf (some t), .long (l1)] m Q := by
  refine Call.of (by decide +kernel) (Nat.le_of_ble_eq_true rfl) ?_
  show At g M_Land_sellFree (lv + 1) 0 [(0, va_rf (some t)), (1, .long (l1))] [] m (QV Q)
  refine at_lload_n (i := 1) 1 1 rfl (by decide +kernel) rfl ?_
  refine at_lconst (n := 0) (0 : Int64) 2 rfl (by decide +kernel) (by decide +kernel) ?_
  refine at_lif_gt (off := 4) 3 7 6 rfl rfl (by decide +kernel) (by decide +kernel) (by decide +kernel) (fun c1 => ?_) (fun c1 => ?_)
  · rw [if_pos c1] at h
    refine at_aload_n (i := 0) 0 8 rfl (by decide +kernel) rfl ?_
    obtain ⟨k2, h⟩ := h
    refine at_get (index := 119) (v := .int (mI m t 11)) cok3 11 11 rfl (by decide +kernel) k2 (by decide +kernel) tw_303 rfl ?_
    refine at_i2l 12 rfl (by decide +kernel) ?_
    refine at_aload_n (i := 0) 0 13 rfl (by decide +kernel) rfl ?_
    refine at_get (index := 33) (v := va_rf (mR m t 4)) cok3 4 16 rfl (by decide +kernel) k2 (by decide +kernel) tw_292 rfl ?_
    obtain ⟨b3, e4, h⟩ := h
    rw [e4]
    obtain ⟨k5, h⟩ := h
    refine at_get (index := 209) (v := .long (mL m b3 8)) cok2 8 19 rfl (by decide +kernel) k5 (by decide +kernel) tw_179 rfl ?_
    refine at_lsub 20 rfl (by decide +kernel) ?_
    refine at_lconst (n := 0) (0 : Int64) 21 rfl (by decide +kernel) (by decide +kernel) ?_
    refine at_lload_n (i := 1) 1 22 rfl (by decide +kernel) rfl ?_
    refine at_callSN mb_SL_cutTo tw_741 (index := 201) (host := "SurplusLand") (by decide +kernel) [.long (((mI m t 11).toInt64) - (mL m b3 8)), .long ((0 : Int64)), .long (l1)] [] rfl rfl (by decide) 25 rfl (by decide +kernel) (Call.toJ (CJ.monoE h (fun x6 m7 h y8 => ?_)))
    have k9 : mK m7 t = 4 := y8.k k2 (by decide)
    have k10 : mK m7 b3 = 3 := y8.k k5 (by decide)
    have e11 : mR m7 t 4 = some b3 := y8.r k2 (by decide) rfl e4
    refine at_lstore_n (i := 3) (lc' := [(0, va_rf (some t)), (1, .long (l1)), (3, .long (x6))]) [1, 2, 0] 26 rfl (by decide +kernel) (by decide +kernel) rfl ?_
    refine at_lload_n (i := 3) 2 27 rfl (by decide +kernel) rfl ?_
    refine at_lstore (i := 5) (lc' := [(0, va_rf (some t)), (1, .long (l1)), (3, .long (x6)), (5, .long (x6))]) [1, 2, 3, 0] 29 rfl (by decide +kernel) (by decide +kernel) rfl ?_
    refine at_iconst (n := 0) (0 : Int32) 30 rfl (by decide +kernel) (by decide +kernel) ?_
    refine at_istore (i := 7) (lc' := [(0, va_rf (some t)), (1, .long (l1)), (3, .long (x6)), (5, .long (x6)), (7, .int ((0 : Int32)))]) [1, 2, 3, 4, 0] 32 rfl (by decide +kernel) (by decide +kernel) rfl ?_
    exact h
  · rw [if_neg c1] at h
    exact at_vret rfl (by decide +kernel) h
set_option maxRecDepth 20000 in
set_option maxHeartbeats 4000000 in
theorem bk_Land_sellOneEach_5 (g : Gc) {lv : Nat} {t : Nat} {l1 : Int64} {l3 : Int64} {l5 : Int32} {m : Mm} {Q : Int64 → Mm → Prop} (h : mK m t = 4 ∧ (if (mI m t 8) ≤ (l5) then (Q l3 m) else (if (l1) ≤ (l3) then (Q l3 m) else (∃ b4, mR m t 1 = some b4 ∧ (mK m b4 = 19 ∧ (vp_in l5 (mN m b4) ∧ (∃ b8, mR m b4 l5.toNatClampNeg = some b8 ∧ (mK m b8 = 2 ∧ (if (mI m b8 9) ≤ 0 then (At g M_Land_sellOneEach (lv + 1) 5 [(0, va_rf (some t)), (1, .long (l1)), (3, .long (l3)), (5, .int (l5 + (1 : Int32)))] [] m (QJ Q)) else (vp_in l5 (mN m b4) ∧ (CV g M_Grower_sell lv [va_rf (some b8), .int ((1 : Int32)), .int (mI m t 10)] m (fun m13 => (At g M_Land_sellOneEach (lv + 1) 5 [(0, va_rf (some t)), (1, .long (l1)), (3, .long (l3 + (1 : Int64))), (5, .int (l5 + (1 : Int32)))] [] m13 (QJ Q)))))))))))))) : At g M_Land_sellOneEach (lv + 1) 5 [(0, va_rf (some t)), (1, .long (l1)), (3, .long (l3)), (5, .int (l5))] [] m (QJ Q) := by
  refine at_iload (i := 5) 3 7 rfl (by decide +kernel) rfl ?_
  refine at_aload_n (i := 0) 0 8 rfl (by decide +kernel) rfl ?_
  obtain ⟨k1, h⟩ := h
  refine at_get (index := 58) (v := .int (mI m t 8)) cok3 8 11 rfl (by decide +kernel) k1 (by decide +kernel) tw_297 rfl ?_
  refine at_icmp_ge (off := 47) 58 14 rfl (by decide +kernel) (by decide +kernel) (fun c2 => ?_) (fun c2 => ?_)
  · rw [if_pos c2] at h
    refine at_lload_n (i := 3) 2 59 rfl (by decide +kernel) rfl ?_
    exact at_lret rfl (by decide +kernel) h
  · rw [if_neg c2] at h
    refine at_lload_n (i := 3) 2 15 rfl (by decide +kernel) rfl ?_
    refine at_lload_n (i := 1) 1 16 rfl (by decide +kernel) rfl ?_
    refine at_lif_ge (off := 41) 17 58 20 rfl rfl (by decide +kernel) (by decide +kernel) (by decide +kernel) (fun c3 => ?_) (fun c3 => ?_)
    · rw [if_pos c3] at h
      refine at_lload_n (i := 3) 2 59 rfl (by decide +kernel) rfl ?_
      exact at_lret rfl (by decide +kernel) h
    · rw [if_neg c3] at h
      refine at_aload_n (i := 0) 0 21 rfl (by decide +kernel) rfl ?_
      refine at_get (index := 11) (v := va_rf (mR m t 1)) cok3 1 24 rfl (by decide +kernel) k1 (by decide +kernel) tw_286 rfl ?_
      obtain ⟨b4, e5, h⟩ := h
      rw [e5]
      refine at_iload (i := 5) 3 26 rfl (by decide +kernel) rfl ?_
      obtain ⟨k6, h⟩ := h
      obtain ⟨v7, h⟩ := h
      refine at_aaldGrower 27 rfl (by decide +kernel) k6 v7 ?_
      obtain ⟨b8, e9, h⟩ := h
      rw [e9]
      obtain ⟨k10, h⟩ := h
      refine at_get (index := 84) (v := .int (mI m b8 9)) cok1 9 30 rfl (by decide +kernel) k10 (by decide +kernel) tw_227 rfl ?_
      refine at_if_le (off := 22) 52 33 rfl (by decide +kernel) (by decide +kernel) (fun c11 => ?_) (fun c11 => ?_)
      · rw [if_pos c11] at h
        refine at_iinc (i := 5) (n := 1) (lc' := [(0, va_rf (some t)), (1, .long (l1)), (3, .long (l3)), (5, .int (l5 + (1 : Int32)))]) (l5 + (1 : Int32)) 3 [1, 2, 3, 0] 55 rfl (by decide +kernel) rfl (by rw [show Int32.ofInt 1 = (1 : Int32) from by decide +kernel]) (by decide +kernel) rfl ?_
        refine at_goto (off := (-50)) 5 (by decide +kernel) (by decide +kernel) ?_
        exact h
      · rw [if_neg c11] at h
        refine at_aload_n (i := 0) 0 34 rfl (by decide +kernel) rfl ?_
        refine at_get (index := 11) (v := va_rf (mR m t 1)) cok3 1 37 rfl (by decide +kernel) k1 (by decide +kernel) tw_286 rfl ?_
        rw [e5]
        refine at_iload (i := 5) 3 39 rfl (by decide +kernel) rfl ?_
        obtain ⟨v12, h⟩ := h
        refine at_aaldGrower 40 rfl (by decide +kernel) k6 v12 ?_
        rw [e9]
        refine at_iconst (n := 1) (1 : Int32) 41 rfl (by decide +kernel) (by decide +kernel) ?_
        refine at_aload_n (i := 0) 0 42 rfl (by decide +kernel) rfl ?_
        refine at_get (index := 48) (v := .int (mI m t 10)) cok3 10 45 rfl (by decide +kernel) k1 (by decide +kernel) tw_301 rfl ?_
        refine at_callV mb_Grower_sell tw_823 tw_824 cok1 k10 (index := 238) tw_822 [.int ((1 : Int32)), .int (mI m t 10)] [] rfl rfl (by decide) 48 rfl (by decide +kernel) (Call.toV (CV.monoE h (fun m13 h y14 => ?_)))
        have k15 : mK m13 t = 4 := y14.k k1 (by decide)
        have k16 : mK m13 b4 = 19 := y14.k k6 (by decide)
        have k17 : mK m13 b8 = 2 := y14.k k10 (by decide)
        have e18 : mR m13 t 1 = some b4 := y14.r k1 (by decide) rfl e5
        have e19 : mR m13 b4 l5.toNatClampNeg = some b8 := y14.r k6 (by decide) rfl e9
        refine at_lload_n (i := 3) 2 49 rfl (by decide +kernel) rfl ?_
        refine at_lconst (n := 1) (1 : Int64) 50 rfl (by decide +kernel) (by decide +kernel) ?_
        refine at_ladd 51 rfl (by decide +kernel) ?_
        refine at_lstore_n (i := 3) (lc' := [(0, va_rf (some t)), (1, .long (l1)), (3, .long (l3 + (1 : Int64))), (5, .int (l5))]) [1, 2, 0, 3] 52 rfl (by decide +kernel) (by decide +kernel) rfl ?_
        refine at_iinc (i := 5) (n := 1) (lc' := [(0, va_rf (some t)), (1, .long (l1)), (3, .long (l3 + (1 : Int64))), (5, .int (l5 + (1 : Int32)))]) (l5 + (1 : Int32)) 3 [1, 2, 3, 0] 55 rfl (by decide +kernel) rfl (by rw [show Int32.ofInt 1 = (1 : Int32) from by decide +kernel]) (by decide +kernel) rfl ?_
        refine at_goto (off := (-50)) 5 (by decide +kernel) (by decide +kernel) ?_
        exact h
set_option maxRecDepth 20000 in
set_option maxHeartbeats 4000000 in
theorem en_Land_sellOneEach (g : Gc) {lv : Nat} {t : Nat} {l1 : Int64} {m : Mm} {Q : Int64 → Mm → Prop} (h : At g M_Land_sellOneEach (lv + 1) 5 [(0, va_rf (some t)), (1, .long (l1)), (3, .long ((0 : Int64))), (5, .int ((0 : Int32)))] [] m (QJ Q)) : CJ g M_Land_sellOneEach (lv + 1) [va_rf (some t), .long (l1)] m Q := by
  refine Call.of (by decide +kernel) (Nat.le_of_ble_eq_true rfl) ?_
  show At g M_Land_sellOneEach (lv + 1) 0 [(0, va_rf (some t)), (1, .long (l1))] [] m (QJ Q)
  refine at_lconst (n := 0) (0 : Int64) 1 rfl (by decide +kernel) (by decide +kernel) ?_
  refine at_lstore_n (i := 3) (lc' := [(0, va_rf (some t)), (1, .long (l1)), (3, .long ((0 : Int64)))]) [1, 2, 0] 2 rfl (by decide +kernel) (by decide +kernel) rfl ?_
  refine at_iconst (n := 0) (0 : Int32) 3 rfl (by decide +kernel) (by decide +kernel) ?_
  refine at_istore (i := 5) (lc' := [(0, va_rf (some t)), (1, .long (l1)), (3, .long ((0 : Int64))), (5, .int ((0 : Int32)))]) [1, 2, 3, 0] 5 rfl (by decide +kernel) (by decide +kernel) rfl ?_
  exact h
set_option maxRecDepth 20000 in
set_option maxHeartbeats 4000000 in
theorem bk_Land_stillFree_10 (g : Gc) {lv : Nat} {t : Nat} {l1 : Int32} {l2 : Int32} {m : Mm} {Q : Mm → Prop} (h : mK m t = 4 ∧ (if (mI m t 8) ≤ (l2) then (Q m) else (∃ b3, mR m t 1 = some b3 ∧ (mK m b3 = 19 ∧ (vp_in l2 (mN m b3) ∧ (∃ b7, mR m b3 l2.toNatClampNeg = some b7 ∧ (mK m b7 = 2 ∧ (vp_in l2 (mN m b3) ∧ (CV g M_Grower_sell lv [va_rf (some b7), .int (imn l1 (mI m b7 9)), .int ((mI m t 10) / (4 : Int32))] m (fun m11 => (∃ b18, mR m11 t 7 = some b18 ∧ (mK m11 b18 = 16 ∧ (vp_in (4 : Int32) (mN m11 b18) ∧ (vp_in (4 : Int32) (mN m11 b18) ∧ (∀ m23, m23 = sL m11 b18 (4 : Int32).toNatClampNeg ((mL m11 b18 (4 : Int32).toNatClampNeg) + ((imn l1 (mI m b7 9)).toInt64)) → (At g M_Land_stillFree (lv + 1) 10 [(0, va_rf (some t)), (1, .int (l1 - (imn l1 (mI m b7 9)))), (2, .int (l2 + (1 : Int32)))] [] m23 (QV Q))))))))))))))))) : At g M_Land_stillFree (lv + 1) 10 [(0, va_rf (some t)), (1, .int (l1)), (2, .int (l2))] [] m (QV Q) := by
  refine at_iload_n (i := 2) 2 11 rfl (by decide +kernel) rfl ?_
  refine at_aload_n (i := 0) 0 12 rfl (by decide +kernel) rfl ?_
  obtain ⟨k1, h⟩ := h
  refine at_get (index := 58) (v := .int (mI m t 8)) cok3 8 15 rfl (by decide +kernel) k1 (by decide +kernel) tw_297 rfl ?_
  refine at_icmp_ge (off := 54) 69 18 rfl (by decide +kernel) (by decide +kernel) (fun c2 => ?_) (fun c2 => ?_)
  · rw [if_pos c2] at h
    exact at_vret rfl (by decide +kernel) h
  · rw [if_neg c2] at h
    refine at_iload_n (i := 1) 1 19 rfl (by decide +kernel) rfl ?_
    refine at_aload_n (i := 0) 0 20 rfl (by decide +kernel) rfl ?_
    refine at_get (index := 11) (v := va_rf (mR m t 1)) cok3 1 23 rfl (by decide +kernel) k1 (by decide +kernel) tw_286 rfl ?_
    obtain ⟨b3, e4, h⟩ := h
    rw [e4]
    refine at_iload_n (i := 2) 2 24 rfl (by decide +kernel) rfl ?_
    obtain ⟨k5, h⟩ := h
    obtain ⟨v6, h⟩ := h
    refine at_aaldGrower 25 rfl (by decide +kernel) k5 v6 ?_
    obtain ⟨b7, e8, h⟩ := h
    rw [e8]
    obtain ⟨k9, h⟩ := h
    refine at_get (index := 84) (v := .int (mI m b7 9)) cok1 9 28 rfl (by decide +kernel) k9 (by decide +kernel) tw_227 rfl ?_
    refine at_imn (index := 248) 31 rfl (by decide +kernel) tw_834 (by decide) ?_
    refine at_istore_n (i := 3) (lc' := [(0, va_rf (some t)), (1, .int (l1)), (2, .int (l2)), (3, .int (imn l1 (mI m b7 9)))]) [1, 2, 3, 0] 32 rfl (by decide +kernel) (by decide +kernel) rfl ?_
    refine at_aload_n (i := 0) 0 33 rfl (by decide +kernel) rfl ?_
    refine at_get (index := 11) (v := va_rf (mR m t 1)) cok3 1 36 rfl (by decide +kernel) k1 (by decide +kernel) tw_286 rfl ?_
    rw [e4]
    refine at_iload_n (i := 2) 2 37 rfl (by decide +kernel) rfl ?_
    obtain ⟨v10, h⟩ := h
    refine at_aaldGrower 38 rfl (by decide +kernel) k5 v10 ?_
    rw [e8]
    refine at_iload_n (i := 3) 3 39 rfl (by decide +kernel) rfl ?_
    refine at_aload_n (i := 0) 0 40 rfl (by decide +kernel) rfl ?_
    refine at_get (index := 48) (v := .int (mI m t 10)) cok3 10 43 rfl (by decide +kernel) k1 (by decide +kernel) tw_301 rfl ?_
    refine at_iconst (n := 4) (4 : Int32) 44 rfl (by decide +kernel) (by decide +kernel) ?_
    refine at_idiv 45 rfl (by decide +kernel) (by decide +kernel) ?_
    refine at_callV mb_Grower_sell tw_823 tw_824 cok1 k9 (index := 238) tw_822 [.int (imn l1 (mI m b7 9)), .int ((mI m t 10) / (4 : Int32))] [] rfl rfl (by decide) 48 rfl (by decide +kernel) (Call.toV (CV.monoE h (fun m11 h y12 => ?_)))
    have k13 : mK m11 t = 4 := y12.k k1 (by decide)
    have k14 : mK m11 b3 = 19 := y12.k k5 (by decide)
    have k15 : mK m11 b7 = 2 := y12.k k9 (by decide)
    have e16 : mR m11 t 1 = some b3 := y12.r k1 (by decide) rfl e4
    have e17 : mR m11 b3 l2.toNatClampNeg = some b7 := y12.r k5 (by decide) rfl e8
    refine at_iload_n (i := 1) 1 49 rfl (by decide +kernel) rfl ?_
    refine at_iload_n (i := 3) 3 50 rfl (by decide +kernel) rfl ?_
    refine at_isub 51 rfl (by decide +kernel) ?_
    refine at_istore_n (i := 1) (lc' := [(0, va_rf (some t)), (1, .int (l1 - (imn l1 (mI m b7 9)))), (2, .int (l2)), (3, .int (imn l1 (mI m b7 9)))]) [1, 0, 2, 3] 52 rfl (by decide +kernel) (by decide +kernel) rfl ?_
    refine at_aload_n (i := 0) 0 53 rfl (by decide +kernel) rfl ?_
    refine at_get (index := 44) (v := va_rf (mR m11 t 7)) cok3 7 56 rfl (by decide +kernel) k13 (by decide +kernel) tw_295 rfl ?_
    obtain ⟨b18, e19, h⟩ := h
    rw [e19]
    refine at_iconst (n := 4) (4 : Int32) 57 rfl (by decide +kernel) (by decide +kernel) ?_
    refine at_dup2_11 58 rfl (by decide +kernel) rfl (va_rf_cat _) ?_
    obtain ⟨k20, h⟩ := h
    obtain ⟨v21, h⟩ := h
    refine at_lald 59 rfl (by decide +kernel) k20 v21 ?_
    refine at_iload_n (i := 3) 3 60 rfl (by decide +kernel) rfl ?_
    refine at_i2l 61 rfl (by decide +kernel) ?_
    refine at_ladd 62 rfl (by decide +kernel) ?_
    obtain ⟨v22, h⟩ := h
    refine at_last 63 rfl (by decide +kernel) k20 v22 (fun m23 e24 => ?_)
    replace h := h m23 e24
    have x25 : Ext m11 m23 := by rw [e24]; exact Ext.sL _ _ _ _
    have k26 : mK m23 t = 4 := x25.k k13 (by decide)
    have k27 : mK m23 b3 = 19 := x25.k k14 (by decide)
    have k28 : mK m23 b7 = 2 := x25.k k15 (by decide)
    have k29 : mK m23 b18 = 16 := x25.k k20 (by decide)
    have e30 : mR m23 t 1 = some b3 := x25.r k13 (by decide) rfl e16
    have e31 : mR m23 b3 l2.toNatClampNeg = some b7 := x25.r k14 (by decide) rfl e17
    have e32 : mR m23 t 7 = some b18 := x25.r k13 (by decide) rfl e19
    refine at_iinc (i := 2) (n := 1) (lc' := [(0, va_rf (some t)), (1, .int (l1 - (imn l1 (mI m b7 9)))), (2, .int (l2 + (1 : Int32)))]) (l2 + (1 : Int32)) 2 [1, 2, 0] 66 rfl (by decide +kernel) rfl (by rw [show Int32.ofInt 1 = (1 : Int32) from by decide +kernel]) (by decide +kernel) rfl ?_
    refine at_goto (off := (-56)) 10 (by decide +kernel) (by decide +kernel) ?_
    exact h
set_option maxRecDepth 20000 in
set_option maxHeartbeats 4000000 in
theorem en_Land_stillFree (g : Gc) {lv : Nat} {t : Nat} {m : Mm} {Q : Mm → Prop} (h : mK m t = 4 ∧ (∃ b2, mR m t 0 = some b2 ∧ (mK m b2 = 11 ∧ (At g M_Land_stillFree (lv + 1) 10 [(0, va_rf (some t)), (1, .int (mI m b2 3)), (2, .int ((0 : Int32)))] [] m (QV Q))))) : CV g M_Land_stillFree (lv + 1) [va_rf (some t)] m Q := by
  refine Call.of (by decide +kernel) (Nat.le_of_ble_eq_true rfl) ?_
  show At g M_Land_stillFree (lv + 1) 0 [(0, va_rf (some t))] [] m (QV Q)
  refine at_aload_n (i := 0) 0 1 rfl (by decide +kernel) rfl ?_
  obtain ⟨k1, h⟩ := h
  refine at_get (index := 52) (v := va_rf (mR m t 0)) cok3 0 4 rfl (by decide +kernel) k1 (by decide +kernel) tw_285 rfl ?_
  obtain ⟨b2, e3, h⟩ := h
  rw [e3]
  obtain ⟨k4, h⟩ := h
  refine at_get (index := 245) (v := .int (mI m b2 3)) cok10 3 7 rfl (by decide +kernel) k4 (by decide +kernel) tw_108 rfl ?_
  refine at_istore_n (i := 1) (lc' := [(0, va_rf (some t)), (1, .int (mI m b2 3))]) [1, 0] 8 rfl (by decide +kernel) (by decide +kernel) rfl ?_
  refine at_iconst (n := 0) (0 : Int32) 9 rfl (by decide +kernel) (by decide +kernel) ?_
  refine at_istore_n (i := 2) (lc' := [(0, va_rf (some t)), (1, .int (mI m b2 3)), (2, .int ((0 : Int32)))]) [1, 2, 0] 10 rfl (by decide +kernel) (by decide +kernel) rfl ?_
  exact h
set_option maxRecDepth 20000 in
set_option maxHeartbeats 4000000 in
theorem en_Land_movePrice (g : Gc) {lv : Nat} {t : Nat} {l1 : Int64} {m : Mm} {Q : Mm → Prop} (h : mK m t = 4 ∧ (∃ b2, mR m t 4 = some b2 ∧ (mK m b2 = 3 ∧ (∃ b5, mR m t 0 = some b5 ∧ (mK m b5 = 11 ∧ (CJ g M_SL_cutTo lv [.long (((mI m t 10).toInt64) + ((((((mI m t 11).toInt64) - l1) - (mL m b2 8)) * ((mI m b5 2).toInt64)) / (1000 : Int64))), .long ((1 : Int64)), .long ((10000 : Int64))] m (fun x8 m9 => (∀ m16, m16 = sI m9 t 10 x8.toInt32 → (Q m16))))))))) : CV g M_Land_movePrice (lv + 1) [va_rf (some t), .long (l1)] m Q := by
  refine Call.of (by decide +kernel) (Nat.le_of_ble_eq_true rfl) ?_
  show At g M_Land_movePrice (lv + 1) 0 [(0, va_rf (some t)), (1, .long (l1))] [] m (QV Q)
  refine at_aload_n (i := 0) 0 1 rfl (by decide +kernel) rfl ?_
  obtain ⟨k1, h⟩ := h
  refine at_get (index := 119) (v := .int (mI m t 11)) cok3 11 4 rfl (by decide +kernel) k1 (by decide +kernel) tw_303 rfl ?_
  refine at_i2l 5 rfl (by decide +kernel) ?_
  refine at_lload_n (i := 1) 1 6 rfl (by decide +kernel) rfl ?_
  refine at_lsub 7 rfl (by decide +kernel) ?_
  refine at_aload_n (i := 0) 0 8 rfl (by decide +kernel) rfl ?_
  refine at_get (index := 33) (v := va_rf (mR m t 4)) cok3 4 11 rfl (by decide +kernel) k1 (by decide +kernel) tw_292 rfl ?_
  obtain ⟨b2, e3, h⟩ := h
  rw [e3]
  obtain ⟨k4, h⟩ := h
  refine at_get (index := 209) (v := .long (mL m b2 8)) cok2 8 14 rfl (by decide +kernel) k4 (by decide +kernel) tw_179 rfl ?_
  refine at_lsub 15 rfl (by decide +kernel) ?_
  refine at_lstore_n (i := 3) (lc' := [(0, va_rf (some t)), (3, .long ((((mI m t 11).toInt64) - l1) - (mL m b2 8)))]) [1, 0] 16 rfl (by decide +kernel) (by decide +kernel) rfl ?_
  refine at_aload_n (i := 0) 0 17 rfl (by decide +kernel) rfl ?_
  refine at_aload_n (i := 0) 0 18 rfl (by decide +kernel) rfl ?_
  refine at_get (index := 48) (v := .int (mI m t 10)) cok3 10 21 rfl (by decide +kernel) k1 (by decide +kernel) tw_301 rfl ?_
  refine at_i2l 22 rfl (by decide +kernel) ?_
  refine at_lload_n (i := 3) 1 23 rfl (by decide +kernel) rfl ?_
  refine at_aload_n (i := 0) 0 24 rfl (by decide +kernel) rfl ?_
  refine at_get (index := 52) (v := va_rf (mR m t 0)) cok3 0 27 rfl (by decide +kernel) k1 (by decide +kernel) tw_285 rfl ?_
  obtain ⟨b5, e6, h⟩ := h
  rw [e6]
  obtain ⟨k7, h⟩ := h
  refine at_get (index := 250) (v := .int (mI m b5 2)) cok10 2 30 rfl (by decide +kernel) k7 (by decide +kernel) tw_105 rfl ?_
  refine at_i2l 31 rfl (by decide +kernel) ?_
  refine at_lmul 32 rfl (by decide +kernel) ?_
  refine at_ldc2 (index := 253) (1000 : Int64) 35 rfl (by decide +kernel) tw_844 ?_
  refine at_ldiv 36 rfl (by decide +kernel) (by decide +kernel) ?_
  refine at_ladd 37 rfl (by decide +kernel) ?_
  refine at_lconst (n := 1) (1 : Int64) 38 rfl (by decide +kernel) (by decide +kernel) ?_
  refine at_ldc2 (index := 255) (10000 : Int64) 41 rfl (by decide +kernel) tw_845 ?_
  refine at_callSN mb_SL_cutTo tw_741 (index := 201) (host := "SurplusLand") (by decide +kernel) [.long (((mI m t 10).toInt64) + ((((((mI m t 11).toInt64) - l1) - (mL m b2 8)) * ((mI m b5 2).toInt64)) / (1000 : Int64))), .long ((1 : Int64)), .long ((10000 : Int64))] [va_rf (some t)] rfl rfl (by simp [va_rf_cat, cat_int, cat_long]) 44 rfl (by decide +kernel) (Call.toJ (CJ.monoE h (fun x8 m9 h y10 => ?_)))
  have k11 : mK m9 t = 4 := y10.k k1 (by decide)
  have k12 : mK m9 b2 = 3 := y10.k k4 (by decide)
  have k13 : mK m9 b5 = 11 := y10.k k7 (by decide)
  have e14 : mR m9 t 4 = some b2 := y10.r k1 (by decide) rfl e3
  have e15 : mR m9 t 0 = some b5 := y10.r k1 (by decide) rfl e6
  refine at_l2i 45 rfl (by decide +kernel) ?_
  refine at_putI (index := 48) cok3 10 48 rfl (by decide +kernel) k11 (by decide +kernel) tw_301 rfl rfl rfl (fun m16 e17 => ?_)
  replace h := h m16 e17
  have x18 : Ext m9 m16 := by rw [e17]; exact Ext.sI _ _ _ _
  have k19 : mK m16 t = 4 := x18.k k11 (by decide)
  have k20 : mK m16 b2 = 3 := x18.k k12 (by decide)
  have k21 : mK m16 b5 = 11 := x18.k k13 (by decide)
  have e22 : mR m16 t 4 = some b2 := x18.r k11 (by decide) rfl e14
  have e23 : mR m16 t 0 = some b5 := x18.r k11 (by decide) rfl e15
  exact at_vret rfl (by decide +kernel) h
set_option maxRecDepth 20000 in
set_option maxHeartbeats 4000000 in
theorem bk_Land_tendVines_2 (g : Gc) {lv : Nat} {t : Nat} {l1 : Int32} {m : Mm} {Q : Mm → Prop} (h : mK m t = 4 ∧ (if (mI m t 8) ≤ (l1) then (Q m) else (∃ b3, mR m t 1 = some b3 ∧ (mK m b3 = 19 ∧ (vp_in l1 (mN m b3) ∧ (∃ b7, mR m b3 l1.toNatClampNeg = some b7 ∧ (mK m b7 = 2 ∧ (CV g M_Grower_growOlder lv [va_rf (some b7)] m (fun m10 => (∃ b17, mR m10 t 0 = some b17 ∧ (mK m10 b17 = 11 ∧ (if (mI m10 t 10) < (mI m10 b17 4) then (At g M_Land_tendVines (lv + 1) 2 [(0, va_rf (some t)), (1, .int (l1 + (1 : Int32)))] [] m10 (QV Q)) else (vp_in l1 (mN m10 b3) ∧ (if (mL m10 b7 11) < ((0 : Int64)) then (At g M_Land_tendVines (lv + 1) 2 [(0, va_rf (some t)), (1, .int (l1 + (1 : Int32)))] [] m10 (QV Q)) else (vp_in l1 (mN m10 b3) ∧ (CV g M_Grower_plant lv [va_rf (some b7), .int (mI m10 b17 5)] m10 (fun m24 => (At g M_Land_tendVines (lv + 1) 2 [(0, va_rf (some t)), (1, .int (l1 + (1 : Int32)))] [] m24 (QV Q))))))))))))))))))) : At g M_Land_tendVines (lv + 1) 2 [(0, va_rf (some t)), (1, .int (l1))] [] m (QV Q) := by
  refine at_iload_n (i := 1) 1 3 rfl (by decide +kernel) rfl ?_
  refine at_aload_n (i := 0) 0 4 rfl (by decide +kernel) rfl ?_
  obtain ⟨k1, h⟩ := h
  refine at_get (index := 58) (v := .int (mI m t 8)) cok3 8 7 rfl (by decide +kernel) k1 (by decide +kernel) tw_297 rfl ?_
  refine at_icmp_ge (off := 62) 69 10 rfl (by decide +kernel) (by decide +kernel) (fun c2 => ?_) (fun c2 => ?_)
  · rw [if_pos c2] at h
    exact at_vret rfl (by decide +kernel) h
  · rw [if_neg c2] at h
    refine at_aload_n (i := 0) 0 11 rfl (by decide +kernel) rfl ?_
    refine at_get (index := 11) (v := va_rf (mR m t 1)) cok3 1 14 rfl (by decide +kernel) k1 (by decide +kernel) tw_286 rfl ?_
    obtain ⟨b3, e4, h⟩ := h
    rw [e4]
    refine at_iload_n (i := 1) 1 15 rfl (by decide +kernel) rfl ?_
    obtain ⟨k5, h⟩ := h
    obtain ⟨v6, h⟩ := h
    refine at_aaldGrower 16 rfl (by decide +kernel) k5 v6 ?_
    obtain ⟨b7, e8, h⟩ := h
    rw [e8]
    obtain ⟨k9, h⟩ := h
    refine at_callV mb_Grower_growOlder tw_851 tw_852 cok1 k9 (index := 257) tw_850 [] [] rfl rfl (by decide) 19 rfl (by decide +kernel) (Call.toV (CV.monoE h (fun m10 h y11 => ?_)))
    have k12 : mK m10 t = 4 := y11.k k1 (by decide)
    have k13 : mK m10 b3 = 19 := y11.k k5 (by decide)
    have k14 : mK m10 b7 = 2 := y11.k k9 (by decide)
    have e15 : mR m10 t 1 = some b3 := y11.r k1 (by decide) rfl e4
    have e16 : mR m10 b3 l1.toNatClampNeg = some b7 := y11.r k5 (by decide) rfl e8
    refine at_aload_n (i := 0) 0 20 rfl (by decide +kernel) rfl ?_
    refine at_get (index := 48) (v := .int (mI m10 t 10)) cok3 10 23 rfl (by decide +kernel) k12 (by decide +kernel) tw_301 rfl ?_
    refine at_aload_n (i := 0) 0 24 rfl (by decide +kernel) rfl ?_
    refine at_get (index := 52) (v := va_rf (mR m10 t 0)) cok3 0 27 rfl (by decide +kernel) k12 (by decide +kernel) tw_285 rfl ?_
    obtain ⟨b17, e18, h⟩ := h
    rw [e18]
    obtain ⟨k19, h⟩ := h
    refine at_get (index := 260) (v := .int (mI m10 b17 4)) cok10 4 30 rfl (by decide +kernel) k19 (by decide +kernel) tw_111 rfl ?_
    refine at_icmp_lt (off := 33) 63 33 rfl (by decide +kernel) (by decide +kernel) (fun c20 => ?_) (fun c20 => ?_)
    · rw [if_pos c20] at h
      refine at_iinc (i := 1) (n := 1) (lc' := [(0, va_rf (some t)), (1, .int (l1 + (1 : Int32)))]) (l1 + (1 : Int32)) 1 [1, 0] 66 rfl (by decide +kernel) rfl (by rw [show Int32.ofInt 1 = (1 : Int32) from by decide +kernel]) (by decide +kernel) rfl ?_
      refine at_goto (off := (-64)) 2 (by decide +kernel) (by decide +kernel) ?_
      exact h
    · rw [if_neg c20] at h
      refine at_aload_n (i := 0) 0 34 rfl (by decide +kernel) rfl ?_
      refine at_get (index := 11) (v := va_rf (mR m10 t 1)) cok3 1 37 rfl (by decide +kernel) k12 (by decide +kernel) tw_286 rfl ?_
      rw [e15]
      refine at_iload_n (i := 1) 1 38 rfl (by decide +kernel) rfl ?_
      obtain ⟨v21, h⟩ := h
      refine at_aaldGrower 39 rfl (by decide +kernel) k13 v21 ?_
      rw [e16]
      refine at_get (index := 75) (v := .long (mL m10 b7 11)) cok1 11 42 rfl (by decide +kernel) k14 (by decide +kernel) tw_233 rfl ?_
      refine at_lconst (n := 0) (0 : Int64) 43 rfl (by decide +kernel) (by decide +kernel) ?_
      refine at_lif_lt (off := 19) 44 63 47 rfl rfl (by decide +kernel) (by decide +kernel) (by decide +kernel) (fun c22 => ?_) (fun c22 => ?_)
      · rw [if_pos c22] at h
        refine at_iinc (i := 1) (n := 1) (lc' := [(0, va_rf (some t)), (1, .int (l1 + (1 : Int32)))]) (l1 + (1 : Int32)) 1 [1, 0] 66 rfl (by decide +kernel) rfl (by rw [show Int32.ofInt 1 = (1 : Int32) from by decide +kernel]) (by decide +kernel) rfl ?_
        refine at_goto (off := (-64)) 2 (by decide +kernel) (by decide +kernel) ?_
        exact h
      · rw [if_neg c22] at h
        refine at_aload_n (i := 0) 0 48 rfl (by decide +kernel) rfl ?_
        refine at_get (index := 11) (v := va_rf (mR m10 t 1)) cok3 1 51 rfl (by decide +kernel) k12 (by decide +kernel) tw_286 rfl ?_
        rw [e15]
        refine at_iload_n (i := 1) 1 52 rfl (by decide +kernel) rfl ?_
        obtain ⟨v23, h⟩ := h
        refine at_aaldGrower 53 rfl (by decide +kernel) k13 v23 ?_
        rw [e16]
        refine at_aload_n (i := 0) 0 54 rfl (by decide +kernel) rfl ?_
        refine at_get (index := 52) (v := va_rf (mR m10 t 0)) cok3 0 57 rfl (by decide +kernel) k12 (by decide +kernel) tw_285 rfl ?_
        rw [e18]
        refine at_get (index := 263) (v := .int (mI m10 b17 5)) cok10 5 60 rfl (by decide +kernel) k19 (by decide +kernel) tw_114 rfl ?_
        refine at_callV mb_Grower_plant tw_855 tw_856 cok1 k14 (index := 266) tw_854 [.int (mI m10 b17 5)] [] rfl rfl (by decide) 63 rfl (by decide +kernel) (Call.toV (CV.monoE h (fun m24 h y25 => ?_)))
        have k26 : mK m24 t = 4 := y25.k k12 (by decide)
        have k27 : mK m24 b3 = 19 := y25.k k13 (by decide)
        have k28 : mK m24 b7 = 2 := y25.k k14 (by decide)
        have k29 : mK m24 b17 = 11 := y25.k k19 (by decide)
        have e30 : mR m24 t 1 = some b3 := y25.r k12 (by decide) rfl e15
        have e31 : mR m24 b3 l1.toNatClampNeg = some b7 := y25.r k13 (by decide) rfl e16
        have e32 : mR m24 t 0 = some b17 := y25.r k12 (by decide) rfl e18
        refine at_iinc (i := 1) (n := 1) (lc' := [(0, va_rf (some t)), (1, .int (l1 + (1 : Int32)))]) (l1 + (1 : Int32)) 1 [1, 0] 66 rfl (by decide +kernel) rfl (by rw [show Int32.ofInt 1 = (1 : Int32) from by decide +kernel]) (by decide +kernel) rfl ?_
        refine at_goto (off := (-64)) 2 (by decide +kernel) (by decide +kernel) ?_
        exact h
set_option maxRecDepth 20000 in
set_option maxHeartbeats 4000000 in
theorem en_Land_tendVines (g : Gc) {lv : Nat} {t : Nat} {m : Mm} {Q : Mm → Prop} (h : At g M_Land_tendVines (lv + 1) 2 [(0, va_rf (some t)), (1, .int ((0 : Int32)))] [] m (QV Q)) : CV g M_Land_tendVines (lv + 1) [va_rf (some t)] m Q := by
  refine Call.of (by decide +kernel) (Nat.le_of_ble_eq_true rfl) ?_
  show At g M_Land_tendVines (lv + 1) 0 [(0, va_rf (some t))] [] m (QV Q)
  refine at_iconst (n := 0) (0 : Int32) 1 rfl (by decide +kernel) (by decide +kernel) ?_
  refine at_istore_n (i := 1) (lc' := [(0, va_rf (some t)), (1, .int ((0 : Int32)))]) [1, 0] 2 rfl (by decide +kernel) (by decide +kernel) rfl ?_
  exact h
set_option maxRecDepth 20000 in
set_option maxHeartbeats 4000000 in
theorem bk_Land_putRight_41 (g : Gc) {lv : Nat} {l2 : Int32} {l3 : Int32} {l4 : Option Nat} {s0 : Int32} {m : Mm} {Q : Int32 → Mm → Prop} (h : ∃ b1, l4 = some b1 ∧ (mK m b1 = 2 ∧ (∀ m4, m4 = sL m b1 12 ((mL m b1 12) + ((100 : Int64) * s0.toInt64)) → (∃ b8, mR m4 b1 1 = some b8 ∧ (mK m4 b8 = 15 ∧ (vp_in l2 (mN m4 b8) ∧ (∀ m12, m12 = sI m4 b8 l2.toNatClampNeg l3 → (Q s0 m12)))))))) : At g M_Land_putRight (lv + 1) 41 [(2, .int (l2)), (3, .int (l3)), (4, va_rf (l4))] [.int (s0)] m (QI Q) := by
  refine at_istore (i := 5) (lc' := [(2, .int (l2)), (3, .int (l3)), (4, va_rf (l4)), (5, .int (s0))]) [1, 2, 3, 0] 43 rfl (by decide +kernel) (by decide +kernel) (by generalize l4 = rr; cases rr <;> rfl) ?_
  refine at_aload (i := 4) 2 45 rfl (by decide +kernel) rfl ?_
  refine at_dup 46 rfl (by decide +kernel) (va_rf_cat _) ?_
  obtain ⟨b1, e2, h⟩ := h
  rw [e2]
  obtain ⟨k3, h⟩ := h
  refine at_get (index := 196) (v := .long (mL m b1 12)) cok1 12 49 rfl (by decide +kernel) k3 (by decide +kernel) tw_236 rfl ?_
  refine at_ldc2 (index := 199) (100 : Int64) 52 rfl (by decide +kernel) tw_758 ?_
  refine at_iload (i := 5) 3 54 rfl (by decide +kernel) rfl ?_
  refine at_i2l 55 rfl (by decide +kernel) ?_
  refine at_lmul 56 rfl (by decide +kernel) ?_
  refine at_ladd 57 rfl (by decide +kernel) ?_
  refine at_putJ (index := 196) cok1 12 60 rfl (by decide +kernel) k3 (by decide +kernel) tw_236 rfl rfl rfl (fun m4 e5 => ?_)
  replace h := h m4 e5
  have x6 : Ext m m4 := by rw [e5]; exact Ext.sL _ _ _ _
  have k7 : mK m4 b1 = 2 := x6.k k3 (by decide)
  refine at_aload (i := 4) 2 62 rfl (by decide +kernel) rfl ?_
  refine at_get (index := 166) (v := va_rf (mR m4 b1 1)) cok1 1 65 rfl (by decide +kernel) k7 (by decide +kernel) tw_209 rfl ?_
  obtain ⟨b8, e9, h⟩ := h
  rw [e9]
  refine at_iload_n (i := 2) 0 66 rfl (by decide +kernel) rfl ?_
  refine at_iload_n (i := 3) 1 67 rfl (by decide +kernel) rfl ?_
  obtain ⟨k10, h⟩ := h
  obtain ⟨v11, h⟩ := h
  refine at_iast 68 rfl (by decide +kernel) k10 v11 (fun m12 e13 => ?_)
  replace h := h m12 e13
  have x14 : Ext m4 m12 := by rw [e13]; exact Ext.sI _ _ _ _
  have k15 : mK m12 b1 = 2 := x14.k k7 (by decide)
  have k16 : mK m12 b8 = 15 := x14.k k10 (by decide)
  have e17 : mR m12 b1 1 = some b8 := x14.r k7 (by decide) rfl e9
  refine at_iload (i := 5) 3 70 rfl (by decide +kernel) rfl ?_
  exact at_iret rfl (by decide +kernel) h
set_option maxRecDepth 20000 in
set_option maxHeartbeats 4000000 in
theorem en_Land_putRight (g : Gc) {lv : Nat} {t : Nat} {l1 : Int32} {l2 : Int32} {l3 : Int32} {m : Mm} {Q : Int32 → Mm → Prop} (h : mK m t = 4 ∧ (∃ b2, mR m t 1 = some b2 ∧ (mK m b2 = 19 ∧ (vp_in l1 (mN m b2) ∧ (∃ b6, mR m b2 l1.toNatClampNeg = some b6 ∧ (mK m b6 = 2 ∧ (∃ b9, mR m b6 2 = some b9 ∧ (mK m b9 = 17 ∧ (vp_in l2 (mN m b9) ∧ (if (mI m b9 l2.toNatClampNeg) = 0 then (∃ b14, mR m t 6 = some b14 ∧ (mK m b14 = 15 ∧ (vp_in l2 (mN m b14) ∧ (∃ b18, mR m b6 1 = some b18 ∧ (mK m b18 = 15 ∧ (vp_in l2 (mN m b18) ∧ (At g M_Land_putRight (lv + 1) 41 [(2, .int (l2)), (3, .int (l3)), (4, va_rf (some b6))] [.int (((mI m b14 l2.toNatClampNeg) * (l3 - (mI m b18 l2.toNatClampNeg))) / (100 : Int32))] m (QI Q)))))))) else (At g M_Land_putRight (lv + 1) 41 [(2, .int (l2)), (3, .int (l3)), (4, va_rf (some b6))] [.int ((0 : Int32))] m (QI Q)))))))))))) : CI g M_Land_putRight (lv + 1) [va_rf (some t), .int (l1), .int (l2), .int (l3)] m Q := by
  refine Call.of (by decide +kernel) (Nat.le_of_ble_eq_true rfl) ?_
  show At g M_Land_putRight (lv + 1) 0 [(0, va_rf (some t)), (1, .int (l1)), (2, .int (l2)), (3, .int (l3))] [] m (QI Q)
  refine at_aload_n (i := 0) 0 1 rfl (by decide +kernel) rfl ?_
  obtain ⟨k1, h⟩ := h
  refine at_get (index := 11) (v := va_rf (mR m t 1)) cok3 1 4 rfl (by decide +kernel) k1 (by decide +kernel) tw_286 rfl ?_
  obtain ⟨b2, e3, h⟩ := h
  rw [e3]
  refine at_iload_n (i := 1) 1 5 rfl (by decide +kernel) rfl ?_
  obtain ⟨k4, h⟩ := h
  obtain ⟨v5, h⟩ := h
  refine at_aaldGrower 6 rfl (by decide +kernel) k4 v5 ?_
  refine at_astore (i := 4) (lc' := [(0, va_rf (some t)), (2, .int (l2)), (3, .int (l3)), (4, va_rf (mR m b2 l1.toNatClampNeg))]) [1, 3, 4, 0] 8 rfl (by decide +kernel) (by decide +kernel) rfl ?_
  refine at_aload (i := 4) 3 10 rfl (by decide +kernel) rfl ?_
  obtain ⟨b6, e7, h⟩ := h
  rw [e7]
  obtain ⟨k8, h⟩ := h
  refine at_get (index := 188) (v := va_rf (mR m b6 2)) cok1 2 13 rfl (by decide +kernel) k8 (by decide +kernel) tw_211 rfl ?_
  obtain ⟨b9, e10, h⟩ := h
  rw [e10]
  refine at_iload_n (i := 2) 1 14 rfl (by decide +kernel) rfl ?_
  obtain ⟨k11, h⟩ := h
  obtain ⟨v12, h⟩ := h
  refine at_zald 15 rfl (by decide +kernel) k11 v12 ?_
  refine at_if_eq (off := 7) 22 18 rfl (by decide +kernel) (by decide +kernel) (fun c13 => ?_) (fun c13 => ?_)
  · rw [if_pos c13] at h
    refine at_aload_n (i := 0) 0 23 rfl (by decide +kernel) rfl ?_
    refine at_get (index := 41) (v := va_rf (mR m t 6)) cok3 6 26 rfl (by decide +kernel) k1 (by decide +kernel) tw_294 rfl ?_
    obtain ⟨b14, e15, h⟩ := h
    rw [e15]
    refine at_iload_n (i := 2) 1 27 rfl (by decide +kernel) rfl ?_
    obtain ⟨k16, h⟩ := h
    obtain ⟨v17, h⟩ := h
    refine at_iald 28 rfl (by decide +kernel) k16 v17 ?_
    refine at_iload_n (i := 3) 2 29 rfl (by decide +kernel) rfl ?_
    refine at_aload (i := 4) 3 31 rfl (by decide +kernel) rfl ?_
    refine at_get (index := 166) (v := va_rf (mR m b6 1)) cok1 1 34 rfl (by decide +kernel) k8 (by decide +kernel) tw_209 rfl ?_
    obtain ⟨b18, e19, h⟩ := h
    rw [e19]
    refine at_iload_n (i := 2) 1 35 rfl (by decide +kernel) rfl ?_
    obtain ⟨k20, h⟩ := h
    obtain ⟨v21, h⟩ := h
    refine at_iald 36 rfl (by decide +kernel) k20 v21 ?_
    refine at_isub 37 rfl (by decide +kernel) ?_
    refine at_imul 38 rfl (by decide +kernel) ?_
    refine at_bipush (n := 100) (100 : Int32) 40 rfl (by decide +kernel) (by decide +kernel) ?_
    refine at_idiv 41 rfl (by decide +kernel) (by decide +kernel) ?_
    exact At.sub [1, 2, 3] rfl h
  · rw [if_neg c13] at h
    refine at_iconst (n := 0) (0 : Int32) 19 rfl (by decide +kernel) (by decide +kernel) ?_
    refine at_goto (off := 22) 41 (by decide +kernel) (by decide +kernel) ?_
    exact At.sub [1, 2, 3] rfl h
set_option maxRecDepth 20000 in
set_option maxHeartbeats 4000000 in
theorem en_Land_offer (g : Gc) {lv : Nat} {t : Nat} {l1 : Option Nat} {l2 : Int32} {m : Mm} {Q : Int64 → Mm → Prop} (h : ∃ b1, l1 = some b1 ∧ (mK m b1 = 7 ∧ (mK m t = 4 ∧ (∃ b5, mR m t 2 = some b5 ∧ (mK m b5 = 18 ∧ (vp_in l2 (mN m b5) ∧ (∃ b9, mR m b5 l2.toNatClampNeg = some b9 ∧ (mK m b9 = 1 ∧ (if (mR m b1 3 : Option Nat) = none then (Q (((((mI m b1 1).toInt64) * ((mI m t 10).toInt64)) * ((mI m b9 0).toInt64)) / (100 : Int64)) m) else (Q ((((((mI m b1 1).toInt64) * ((mI m t 10).toInt64)) * ((mI m b9 0).toInt64)) / (100 : Int64)) / (2 : Int64)) m)))))))))) : CJ g M_Land_offer (lv + 1) [va_rf (some t), va_rf (l1), .int (l2)] m Q := by
  refine Call.of (by decide +kernel) (by simp [lg_sl, va_rf_cat, cat_int, cat_long, M_Land_offer]) ?_
  rw [show lv_args 0 [va_rf (some t), va_rf (l1), .int (l2)] = [(0, va_rf (some t)), (1, va_rf (l1)), (2, .int (l2))] from by simp [lv_args, va_rf_cat, cat_int, cat_long]]
  refine at_aload_n (i := 1) 1 1 rfl (by decide +kernel) rfl ?_
  obtain ⟨b1, e2, h⟩ := h
  rw [e2]
  obtain ⟨k3, h⟩ := h
  refine at_get (index := 216) (v := .int (mI m b1 1)) cok6 1 4 rfl (by decide +kernel) k3 (by decide +kernel) tw_778 rfl ?_
  refine at_i2l 5 rfl (by decide +kernel) ?_
  refine at_aload_n (i := 0) 0 6 rfl (by decide +kernel) rfl ?_
  obtain ⟨k4, h⟩ := h
  refine at_get (index := 48) (v := .int (mI m t 10)) cok3 10 9 rfl (by decide +kernel) k4 (by decide +kernel) tw_301 rfl ?_
  refine at_i2l 10 rfl (by decide +kernel) ?_
  refine at_lmul 11 rfl (by decide +kernel) ?_
  refine at_aload_n (i := 0) 0 12 rfl (by decide +kernel) rfl ?_
  refine at_get (index := 19) (v := va_rf (mR m t 2)) cok3 2 15 rfl (by decide +kernel) k4 (by decide +kernel) tw_288 rfl ?_
  obtain ⟨b5, e6, h⟩ := h
  rw [e6]
  refine at_iload_n (i := 2) 2 16 rfl (by decide +kernel) rfl ?_
  obtain ⟨k7, h⟩ := h
  obtain ⟨v8, h⟩ := h
  refine at_aaldBank 17 rfl (by decide +kernel) k7 v8 ?_
  obtain ⟨b9, e10, h⟩ := h
  rw [e10]
  obtain ⟨k11, h⟩ := h
  refine at_get (index := 268) (v := .int (mI m b9 0)) cok0 0 20 rfl (by decide +kernel) k11 (by decide +kernel) tw_273 rfl ?_
  refine at_i2l 21 rfl (by decide +kernel) ?_
  refine at_lmul 22 rfl (by decide +kernel) ?_
  refine at_ldc2 (index := 199) (100 : Int64) 25 rfl (by decide +kernel) tw_758 ?_
  refine at_ldiv 26 rfl (by decide +kernel) (by decide +kernel) ?_
  refine at_lstore_n (i := 3) (lc' := [(1, va_rf (some b1)), (3, .long (((((mI m b1 1).toInt64) * ((mI m t 10).toInt64)) * ((mI m b9 0).toInt64)) / (100 : Int64)))]) [2, 0] 27 rfl (by decide +kernel) (by decide +kernel) rfl ?_
  refine at_aload_n (i := 1) 0 28 rfl (by decide +kernel) rfl ?_
  refine at_get (index := 269) (v := va_rf (mR m b1 3)) cok6 3 31 rfl (by decide +kernel) k3 (by decide +kernel) tw_785 rfl ?_
  refine at_ifnonnull (off := 7) 38 34 rfl (by decide +kernel) (by decide +kernel) (fun c12 => ?_) (fun c12 => ?_)
  · rw [if_neg c12] at h
    refine at_lload_n (i := 3) 1 39 rfl (by decide +kernel) rfl ?_
    refine at_ldc2 (index := 273) (2 : Int64) 42 rfl (by decide +kernel) tw_928 ?_
    refine at_ldiv 43 rfl (by decide +kernel) (by decide +kernel) ?_
    exact at_lret rfl (by decide +kernel) h
  · rw [if_pos c12] at h
    refine at_lload_n (i := 3) 1 35 rfl (by decide +kernel) rfl ?_
    refine at_goto (off := 8) 43 (by decide +kernel) (by decide +kernel) ?_
    exact at_lret rfl (by decide +kernel) h
set_option maxRecDepth 20000 in
set_option maxHeartbeats 4000000 in
theorem en_Land_lend (g : Gc) {lv : Nat} {t : Nat} {l1 : Option Nat} {l2 : Int32} {l3 : Int64} {l5 : Int32} {m : Mm} {Q : Mm → Prop} (h : mK m (gz g + mC m) = 0 ∧ (∀ q2 m3, q2 = gz g + mC m → m3 = nw m q2 6 0 3 → (mK m3 t = 4 ∧ (∃ b9, mR m3 t 2 = some b9 ∧ (mK m3 b9 = 18 ∧ (vp_in l2 (mN m3 b9) ∧ (∃ b13, mR m3 b9 l2.toNatClampNeg = some b13 ∧ (mK m3 b13 = 1 ∧ (CV g M_Loan_init lv [va_rf (some q2), .int (l2), .int (l5), .long ((l3 * (((100 : Int32) + (mI m3 b13 1)).toInt64)) / (100 : Int64))] m3 (fun m16 => (∃ b24, l1 = some b24 ∧ (mK m16 b24 = 7 ∧ (CV g M_Receipt_bear lv [va_rf (some b24), va_rf (some q2)] m16 (fun m27 => (CV g M_Land_credit lv [va_rf (some t), .int (mI m27 b24 0), .long (l3)] m27 (fun m36 => (vp_in l2 (mN m36 b9) ∧ (∀ m46, m46 = sL m36 b13 2 ((mL m36 b13 2) - l3) → (Q m46))))))))))))))))))) : CV g M_Land_lend (lv + 1) [va_rf (some t), va_rf (l1), .int (l2), .long (l3), .int (l5)] m Q := by
  refine Call.of (by decide +kernel) (by simp [lg_sl, va_rf_cat, cat_int, cat_long, M_Land_lend]) ?_
  rw [show lv_args 0 [va_rf (some t), va_rf (l1), .int (l2), .long (l3), .int (l5)] = [(0, va_rf (some t)), (1, va_rf (l1)), (2, .int (l2)), (3, .long (l3)), (5, .int (l5))] from by simp [lv_args, va_rf_cat, cat_int, cat_long]]
  refine at_aload_n (i := 1) 1 1 rfl (by decide +kernel) rfl ?_
  obtain ⟨z1, h⟩ := h
  refine at_new (index := 275) cok5 4 rfl z1 (by decide +kernel) tw_934 tw_935 tw_84 (fun q2 m3 e4 e5 => ?_)
  replace h := h q2 m3 e4 e5
  have x6 : Ext m m3 := by rw [e5, e4]; exact Ext.nw z1 _ _ _
  have k7 : mK m3 q2 = 6 := by rw [e5]; exact if_pos rfl
  refine at_dup 5 rfl (by decide +kernel) (va_rf_cat _) ?_
  refine at_iload_n (i := 2) 2 6 rfl (by decide +kernel) rfl ?_
  refine at_iload (i := 5) 4 8 rfl (by decide +kernel) rfl ?_
  refine at_lload_n (i := 3) 3 9 rfl (by decide +kernel) rfl ?_
  refine at_bipush (n := 100) (100 : Int32) 11 rfl (by decide +kernel) (by decide +kernel) ?_
  refine at_aload_n (i := 0) 0 12 rfl (by decide +kernel) rfl ?_
  obtain ⟨k8, h⟩ := h
  refine at_get (index := 19) (v := va_rf (mR m3 t 2)) cok3 2 15 rfl (by decide +kernel) k8 (by decide +kernel) tw_288 rfl ?_
  obtain ⟨b9, e10, h⟩ := h
  rw [e10]
  refine at_iload_n (i := 2) 2 16 rfl (by decide +kernel) rfl ?_
  obtain ⟨k11, h⟩ := h
  obtain ⟨v12, h⟩ := h
  refine at_aaldBank 17 rfl (by decide +kernel) k11 v12 ?_
  obtain ⟨b13, e14, h⟩ := h
  rw [e14]
  obtain ⟨k15, h⟩ := h
  refine at_get (index := 277) (v := .int (mI m3 b13 1)) cok0 1 20 rfl (by decide +kernel) k15 (by decide +kernel) tw_276 rfl ?_
  refine at_iadd 21 rfl (by decide +kernel) ?_
  refine at_i2l 22 rfl (by decide +kernel) ?_
  refine at_lmul 23 rfl (by decide +kernel) ?_
  refine at_ldc2 (index := 199) (100 : Int64) 26 rfl (by decide +kernel) tw_758 ?_
  refine at_ldiv 27 rfl (by decide +kernel) (by decide +kernel) ?_
  refine at_callI mb_Loan_init tw_937 rfl rfl (index := 280) tw_936 [.int (l2), .int (l5), .long ((l3 * (((100 : Int32) + (mI m3 b13 1)).toInt64)) / (100 : Int64))] [va_rf (some q2), va_rf (l1)] rfl rfl (by simp [va_rf_cat, cat_int, cat_long]) 30 rfl (by decide +kernel) (Call.toV (CV.monoE h (fun m16 h y17 => ?_)))
  have k18 : mK m16 q2 = 6 := y17.k k7 (by decide)
  have k19 : mK m16 t = 4 := y17.k k8 (by decide)
  have k20 : mK m16 b9 = 18 := y17.k k11 (by decide)
  have k21 : mK m16 b13 = 1 := y17.k k15 (by decide)
  have e22 : mR m16 t 2 = some b9 := y17.r k8 (by decide) rfl e10
  have e23 : mR m16 b9 l2.toNatClampNeg = some b13 := y17.r k11 (by decide) rfl e14
  obtain ⟨b24, e25, h⟩ := h
  rw [e25]
  obtain ⟨k26, h⟩ := h
  refine at_callV mb_Receipt_bear tw_957 tw_958 cok6 k26 (index := 283) tw_956 [va_rf (some q2)] [] rfl rfl (by decide) 33 rfl (by decide +kernel) (Call.toV (CV.monoE h (fun m27 h y28 => ?_)))
  have k29 : mK m27 q2 = 6 := y28.k k18 (by decide)
  have k30 : mK m27 t = 4 := y28.k k19 (by decide)
  have k31 : mK m27 b9 = 18 := y28.k k20 (by decide)
  have k32 : mK m27 b13 = 1 := y28.k k21 (by decide)
  have k33 : mK m27 b24 = 7 := y28.k k26 (by decide)
  have e34 : mR m27 t 2 = some b9 := y28.r k19 (by decide) rfl e22
  have e35 : mR m27 b9 l2.toNatClampNeg = some b13 := y28.r k20 (by decide) rfl e23
  refine at_aload_n (i := 0) 0 34 rfl (by decide +kernel) rfl ?_
  refine at_aload_n (i := 1) 1 35 rfl (by decide +kernel) rfl ?_
  refine at_get (index := 227) (v := .int (mI m27 b24 0)) cok6 0 38 rfl (by decide +kernel) k33 (by decide +kernel) tw_775 rfl ?_
  refine at_lload_n (i := 3) 3 39 rfl (by decide +kernel) rfl ?_
  refine at_callV mb_Land_credit tw_807 tw_808 cok3 k30 (index := 230) tw_806 [.int (mI m27 b24 0), .long (l3)] [] rfl rfl (by decide) 42 rfl (by decide +kernel) (Call.toV (CV.monoE h (fun m36 h y37 => ?_)))
  have k38 : mK m36 q2 = 6 := y37.k k29 (by decide)
  have k39 : mK m36 t = 4 := y37.k k30 (by decide)
  have k40 : mK m36 b9 = 18 := y37.k k31 (by decide)
  have k41 : mK m36 b13 = 1 := y37.k k32 (by decide)
  have k42 : mK m36 b24 = 7 := y37.k k33 (by decide)
  have e43 : mR m36 t 2 = some b9 := y37.r k30 (by decide) rfl e34
  have e44 : mR m36 b9 l2.toNatClampNeg = some b13 := y37.r k31 (by decide) rfl e35
  refine at_aload_n (i := 0) 0 43 rfl (by decide +kernel) rfl ?_
  refine at_get (index := 19) (v := va_rf (mR m36 t 2)) cok3 2 46 rfl (by decide +kernel) k39 (by decide +kernel) tw_288 rfl ?_
  rw [e43]
  refine at_iload_n (i := 2) 2 47 rfl (by decide +kernel) rfl ?_
  obtain ⟨v45, h⟩ := h
  refine at_aaldBank 48 rfl (by decide +kernel) k40 v45 ?_
  rw [e44]
  refine at_dup 49 rfl (by decide +kernel) (va_rf_cat _) ?_
  refine at_get (index := 83) (v := .long (mL m36 b13 2)) cok0 2 52 rfl (by decide +kernel) k41 (by decide +kernel) tw_277 rfl ?_
  refine at_lload_n (i := 3) 3 53 rfl (by decide +kernel) rfl ?_
  refine at_lsub 54 rfl (by decide +kernel) ?_
  refine at_putJ (index := 83) cok0 2 57 rfl (by decide +kernel) k41 (by decide +kernel) tw_277 rfl rfl rfl (fun m46 e47 => ?_)
  replace h := h m46 e47
  have x48 : Ext m36 m46 := by rw [e47]; exact Ext.sL _ _ _ _
  have k49 : mK m46 q2 = 6 := x48.k k38 (by decide)
  have k50 : mK m46 t = 4 := x48.k k39 (by decide)
  have k51 : mK m46 b9 = 18 := x48.k k40 (by decide)
  have k52 : mK m46 b13 = 1 := x48.k k41 (by decide)
  have k53 : mK m46 b24 = 7 := x48.k k42 (by decide)
  have e54 : mR m46 t 2 = some b9 := x48.r k39 (by decide) rfl e43
  have e55 : mR m46 b9 l2.toNatClampNeg = some b13 := x48.r k40 (by decide) rfl e44
  exact at_vret rfl (by decide +kernel) h
set_option maxRecDepth 20000 in
set_option maxHeartbeats 4000000 in
theorem en_Land_payBack (g : Gc) {lv : Nat} {t : Nat} {l1 : Option Nat} {l2 : Option Nat} {m : Mm} {Q : Mm → Prop} (h : ∃ b1, l1 = some b1 ∧ (mK m b1 = 7 ∧ (∃ b4, l2 = some b4 ∧ (mK m b4 = 6 ∧ (mK m t = 4 ∧ (CV g M_Land_credit lv [va_rf (some t), .int (mI m b1 0), .long (-(mL m b4 2))] m (fun m8 => (∃ b13, mR m8 t 2 = some b13 ∧ (mK m8 b13 = 18 ∧ (vp_in (mI m8 b4 0) (mN m8 b13) ∧ (∃ b17, mR m8 b13 (mI m8 b4 0).toNatClampNeg = some b17 ∧ (mK m8 b17 = 1 ∧ (∀ m20, m20 = sL m8 b17 2 ((mL m8 b17 2) + (mL m8 b4 2)) → (CV g M_Receipt_drop lv [va_rf (some b1), va_rf (some b4)] m20 (fun m30 => (Q m30)))))))))))))))) : CV g M_Land_payBack (lv + 1) [va_rf (some t), va_rf (l1), va_rf (l2)] m Q := by
  refine Call.of (by decide +kernel) (by simp [lg_sl, va_rf_cat, cat_int, cat_long, M_Land_payBack]) ?_
  rw [show lv_args 0 [va_rf (some t), va_rf (l1), va_rf (l2)] = [(0, va_rf (some t)), (1, va_rf (l1)), (2, va_rf (l2))] from by simp [lv_args, va_rf_cat, cat_int, cat_long]]
  refine at_aload_n (i := 0) 0 1 rfl (by decide +kernel) rfl ?_
  refine at_aload_n (i := 1) 1 2 rfl (by decide +kernel) rfl ?_
  obtain ⟨b1, e2, h⟩ := h
  rw [e2]
  obtain ⟨k3, h⟩ := h
  refine at_get (index := 227) (v := .int (mI m b1 0)) cok6 0 5 rfl (by decide +kernel) k3 (by decide +kernel) tw_775 rfl ?_
  refine at_aload_n (i := 2) 2 6 rfl (by decide +kernel) rfl ?_
  obtain ⟨b4, e5, h⟩ := h
  rw [e5]
  obtain ⟨k6, h⟩ := h
  refine at_get (index := 287) (v := .long (mL m b4 2)) cok5 2 9 rfl (by decide +kernel) k6 (by decide +kernel) tw_948 rfl ?_
  refine at_lneg 10 rfl (by decide +kernel) ?_
  obtain ⟨k7, h⟩ := h
  refine at_callV mb_Land_credit tw_807 tw_808 cok3 k7 (index := 230) tw_806 [.int (mI m b1 0), .long (-(mL m b4 2))] [] rfl rfl (by decide) 13 rfl (by decide +kernel) (Call.toV (CV.monoE h (fun m8 h y9 => ?_)))
  have k10 : mK m8 b1 = 7 := y9.k k3 (by decide)
  have k11 : mK m8 b4 = 6 := y9.k k6 (by decide)
  have k12 : mK m8 t = 4 := y9.k k7 (by decide)
  refine at_aload_n (i := 0) 0 14 rfl (by decide +kernel) rfl ?_
  refine at_get (index := 19) (v := va_rf (mR m8 t 2)) cok3 2 17 rfl (by decide +kernel) k12 (by decide +kernel) tw_288 rfl ?_
  obtain ⟨b13, e14, h⟩ := h
  rw [e14]
  refine at_aload_n (i := 2) 2 18 rfl (by decide +kernel) rfl ?_
  refine at_get (index := 290) (v := .int (mI m8 b4 0)) cok5 0 21 rfl (by decide +kernel) k11 (by decide +kernel) tw_942 rfl ?_
  obtain ⟨k15, h⟩ := h
  obtain ⟨v16, h⟩ := h
  refine at_aaldBank 22 rfl (by decide +kernel) k15 v16 ?_
  refine at_dup 23 rfl (by decide +kernel) (va_rf_cat _) ?_
  obtain ⟨b17, e18, h⟩ := h
  rw [e18]
  obtain ⟨k19, h⟩ := h
  refine at_get (index := 83) (v := .long (mL m8 b17 2)) cok0 2 26 rfl (by decide +kernel) k19 (by decide +kernel) tw_277 rfl ?_
  refine at_aload_n (i := 2) 2 27 rfl (by decide +kernel) rfl ?_
  refine at_get (index := 287) (v := .long (mL m8 b4 2)) cok5 2 30 rfl (by decide +kernel) k11 (by decide +kernel) tw_948 rfl ?_
  refine at_ladd 31 rfl (by decide +kernel) ?_
  refine at_putJ (index := 83) cok0 2 34 rfl (by decide +kernel) k19 (by decide +kernel) tw_277 rfl rfl rfl (fun m20 e21 => ?_)
  replace h := h m20 e21
  have x22 : Ext m8 m20 := by rw [e21]; exact Ext.sL _ _ _ _
  have k23 : mK m20 b1 = 7 := x22.k k10 (by decide)
  have k24 : mK m20 b4 = 6 := x22.k k11 (by decide)
  have k25 : mK m20 t = 4 := x22.k k12 (by decide)
  have k26 : mK m20 b13 = 18 := x22.k k15 (by decide)
  have k27 : mK m20 b17 = 1 := x22.k k19 (by decide)
  have e28 : mR m20 t 2 = some b13 := x22.r k12 (by decide) rfl e14
  have e29 : mR m20 b13 (mI m8 b4 0).toNatClampNeg = some b17 := x22.r k15 (by decide) rfl e18
  refine at_aload_n (i := 1) 1 35 rfl (by decide +kernel) rfl ?_
  refine at_aload_n (i := 2) 2 36 rfl (by decide +kernel) rfl ?_
  refine at_callV mb_Receipt_drop tw_881 tw_882 cok6 k23 (index := 293) tw_880 [va_rf (some b4)] [] rfl rfl (by decide) 39 rfl (by decide +kernel) (Call.toV (CV.monoE h (fun m30 h y31 => ?_)))
  have k32 : mK m30 b1 = 7 := y31.k k23 (by decide)
  have k33 : mK m30 b4 = 6 := y31.k k24 (by decide)
  have k34 : mK m30 t = 4 := y31.k k25 (by decide)
  have k35 : mK m30 b13 = 18 := y31.k k26 (by decide)
  have k36 : mK m30 b17 = 1 := y31.k k27 (by decide)
  have e37 : mR m30 t 2 = some b13 := y31.r k25 (by decide) rfl e28
  have e38 : mR m30 b13 (mI m8 b4 0).toNatClampNeg = some b17 := y31.r k26 (by decide) rfl e29
  exact at_vret rfl (by decide +kernel) h
set_option maxRecDepth 20000 in
set_option maxHeartbeats 4000000 in
theorem bk_Land_settleLoans_10 (g : Gc) {lv : Nat} {t : Nat} {l1 : Int32} {l2 : Int32} {m : Mm} {Q : Mm → Prop} (h : if (l1) ≤ (l2) then (Q m) else (mK m t = 4 ∧ (∃ b3, mR m t 3 = some b3 ∧ (mK m b3 = 9 ∧ (∃ b6, mR m b3 0 = some b6 ∧ (mK m b6 = 21 ∧ (vp_in l2 (mN m b6) ∧ (∃ b10, mR m b6 l2.toNatClampNeg = some b10 ∧ (mK m b10 = 7 ∧ (CV g M_Land_closeIfDue lv [va_rf (some t), va_rf (some b10), va_rf (mR m b10 3)] m (fun m13 => (CV g M_Land_closeIfDue lv [va_rf (some t), va_rf (some b10), va_rf (mR m b10 4)] m13 (fun m21 => (At g M_Land_settleLoans (lv + 1) 10 [(0, va_rf (some t)), (1, .int (l1)), (2, .int (l2 + (1 : Int32)))] [] m21 (QV Q))))))))))))))) : At g M_Land_settleLoans (lv + 1) 10 [(0, va_rf (some t)), (1, .int (l1)), (2, .int (l2))] [] m (QV Q) := by
  refine at_iload_n (i := 2) 2 11 rfl (by decide +kernel) rfl ?_
  refine at_iload_n (i := 1) 1 12 rfl (by decide +kernel) rfl ?_
  refine at_icmp_ge (off := 45) 57 15 rfl (by decide +kernel) (by decide +kernel) (fun c1 => ?_) (fun c1 => ?_)
  · rw [if_pos c1] at h
    exact at_vret rfl (by decide +kernel) h
  · rw [if_neg c1] at h
    refine at_aload_n (i := 0) 0 16 rfl (by decide +kernel) rfl ?_
    obtain ⟨k2, h⟩ := h
    refine at_get (index := 26) (v := va_rf (mR m t 3)) cok3 3 19 rfl (by decide +kernel) k2 (by decide +kernel) tw_290 rfl ?_
    obtain ⟨b3, e4, h⟩ := h
    rw [e4]
    obtain ⟨k5, h⟩ := h
    refine at_get (index := 212) (v := va_rf (mR m b3 0)) cok8 0 22 rfl (by decide +kernel) k5 (by decide +kernel) tw_152 rfl ?_
    obtain ⟨b6, e7, h⟩ := h
    rw [e7]
    refine at_iload_n (i := 2) 2 23 rfl (by decide +kernel) rfl ?_
    obtain ⟨k8, h⟩ := h
    obtain ⟨v9, h⟩ := h
    refine at_aaldReceipt 24 rfl (by decide +kernel) k8 v9 ?_
    refine at_astore_n (i := 3) (lc' := [(0, va_rf (some t)), (1, .int (l1)), (2, .int (l2)), (3, va_rf (mR m b6 l2.toNatClampNeg))]) [1, 2, 3, 0] 25 rfl (by decide +kernel) (by decide +kernel) rfl ?_
    refine at_aload_n (i := 3) 3 26 rfl (by decide +kernel) rfl ?_
    obtain ⟨b10, e11, h⟩ := h
    rw [e11]
    obtain ⟨k12, h⟩ := h
    refine at_get (index := 269) (v := va_rf (mR m b10 3)) cok6 3 29 rfl (by decide +kernel) k12 (by decide +kernel) tw_785 rfl ?_
    refine at_astore (i := 4) (lc' := [(0, va_rf (some t)), (1, .int (l1)), (2, .int (l2)), (3, va_rf (some b10)), (4, va_rf (mR m b10 3))]) [1, 2, 3, 4, 0] 31 rfl (by decide +kernel) (by decide +kernel) rfl ?_
    refine at_aload_n (i := 3) 3 32 rfl (by decide +kernel) rfl ?_
    refine at_get (index := 296) (v := va_rf (mR m b10 4)) cok6 4 35 rfl (by decide +kernel) k12 (by decide +kernel) tw_789 rfl ?_
    refine at_astore (i := 5) (lc' := [(0, va_rf (some t)), (1, .int (l1)), (2, .int (l2)), (3, va_rf (some b10)), (4, va_rf (mR m b10 3)), (5, va_rf (mR m b10 4))]) [1, 2, 3, 4, 5, 0] 37 rfl (by decide +kernel) (by decide +kernel) (by generalize (mR m b10 3) = rr; cases rr <;> rfl) ?_
    refine at_aload_n (i := 0) 0 38 rfl (by decide +kernel) rfl ?_
    refine at_aload_n (i := 3) 3 39 rfl (by decide +kernel) rfl ?_
    refine at_aload (i := 4) 4 41 rfl (by decide +kernel) rfl ?_
    refine at_callV mb_Land_closeIfDue tw_866 tw_28 cok3 k2 (index := 299) tw_864 [va_rf (some b10), va_rf (mR m b10 3)] [] rfl rfl (by decide) 44 rfl (by decide +kernel) (Call.toV (CV.monoE h (fun m13 h y14 => ?_)))
    have k15 : mK m13 t = 4 := y14.k k2 (by decide)
    have k16 : mK m13 b3 = 9 := y14.k k5 (by decide)
    have k17 : mK m13 b6 = 21 := y14.k k8 (by decide)
    have k18 : mK m13 b10 = 7 := y14.k k12 (by decide)
    have e19 : mR m13 t 3 = some b3 := y14.r k2 (by decide) rfl e4
    have e20 : mR m13 b3 0 = some b6 := y14.r k5 (by decide) rfl e7
    refine at_aload_n (i := 0) 0 45 rfl (by decide +kernel) rfl ?_
    refine at_aload_n (i := 3) 3 46 rfl (by decide +kernel) rfl ?_
    refine at_aload (i := 5) 5 48 rfl (by decide +kernel) rfl ?_
    refine at_callV mb_Land_closeIfDue tw_866 tw_28 cok3 k15 (index := 299) tw_864 [va_rf (some b10), va_rf (mR m b10 4)] [] rfl rfl (by decide) 51 rfl (by decide +kernel) (Call.toV (CV.monoE h (fun m21 h y22 => ?_)))
    have k23 : mK m21 t = 4 := y22.k k15 (by decide)
    have k24 : mK m21 b3 = 9 := y22.k k16 (by decide)
    have k25 : mK m21 b6 = 21 := y22.k k17 (by decide)
    have k26 : mK m21 b10 = 7 := y22.k k18 (by decide)
    have e27 : mR m21 t 3 = some b3 := y22.r k15 (by decide) rfl e19
    have e28 : mR m21 b3 0 = some b6 := y22.r k16 (by decide) rfl e20
    refine at_iinc (i := 2) (n := 1) (lc' := [(0, va_rf (some t)), (1, .int (l1)), (2, .int (l2 + (1 : Int32)))]) (l2 + (1 : Int32)) 2 [1, 2, 0] 54 rfl (by decide +kernel) rfl (by rw [show Int32.ofInt 1 = (1 : Int32) from by decide +kernel]) (by decide +kernel) rfl ?_
    refine at_goto (off := (-44)) 10 (by decide +kernel) (by decide +kernel) ?_
    exact h
set_option maxRecDepth 20000 in
set_option maxHeartbeats 4000000 in
theorem en_Land_settleLoans (g : Gc) {lv : Nat} {t : Nat} {m : Mm} {Q : Mm → Prop} (h : mK m t = 4 ∧ (∃ b2, mR m t 3 = some b2 ∧ (mK m b2 = 9 ∧ (At g M_Land_settleLoans (lv + 1) 10 [(0, va_rf (some t)), (1, .int (mI m b2 1)), (2, .int ((0 : Int32)))] [] m (QV Q))))) : CV g M_Land_settleLoans (lv + 1) [va_rf (some t)] m Q := by
  refine Call.of (by decide +kernel) (Nat.le_of_ble_eq_true rfl) ?_
  show At g M_Land_settleLoans (lv + 1) 0 [(0, va_rf (some t))] [] m (QV Q)
  refine at_aload_n (i := 0) 0 1 rfl (by decide +kernel) rfl ?_
  obtain ⟨k1, h⟩ := h
  refine at_get (index := 26) (v := va_rf (mR m t 3)) cok3 3 4 rfl (by decide +kernel) k1 (by decide +kernel) tw_290 rfl ?_
  obtain ⟨b2, e3, h⟩ := h
  rw [e3]
  obtain ⟨k4, h⟩ := h
  refine at_get (index := 90) (v := .int (mI m b2 1)) cok8 1 7 rfl (by decide +kernel) k4 (by decide +kernel) tw_154 rfl ?_
  refine at_istore_n (i := 1) (lc' := [(0, va_rf (some t)), (1, .int (mI m b2 1))]) [1, 0] 8 rfl (by decide +kernel) (by decide +kernel) rfl ?_
  refine at_iconst (n := 0) (0 : Int32) 9 rfl (by decide +kernel) (by decide +kernel) ?_
  refine at_istore_n (i := 2) (lc' := [(0, va_rf (some t)), (1, .int (mI m b2 1)), (2, .int ((0 : Int32)))]) [1, 2, 0] 10 rfl (by decide +kernel) (by decide +kernel) rfl ?_
  exact h
set_option maxRecDepth 20000 in
set_option maxHeartbeats 4000000 in
theorem en_Land_closeIfDue (g : Gc) {lv : Nat} {t : Nat} {l1 : Option Nat} {l2 : Option Nat} {m : Mm} {Q : Mm → Prop} (h : ∃ b1, l1 = some b1 ∧ (mK m b1 = 7 ∧ (CI g M_Receipt_bears lv [va_rf (some b1), va_rf (l2)] m (fun x4 m5 => (if (x4) = 0 then (Q m5) else (∃ b9, l2 = some b9 ∧ (mK m5 b9 = 6 ∧ (mK m5 t = 4 ∧ (if (mI m5 b9 1) ≤ (mI m5 t 9) then (CJ g M_Land_moneyOf lv [va_rf (some t), .int (mI m5 b1 0)] m5 (fun x14 m15 => (if (x14) < (mL m15 b9 2) then (CV g M_Land_seize lv [va_rf (some t), va_rf (some b1), va_rf (some b9)] m15 (fun m21 => (Q m21))) else (CV g M_Land_payBack lv [va_rf (some t), va_rf (some b1), va_rf (some b9)] m15 (fun m26 => (Q m26)))))) else (Q m5)))))))))) : CV g M_Land_closeIfDue (lv + 1) [va_rf (some t), va_rf (l1), va_rf (l2)] m Q := by
  refine Call.of (by decide +kernel) (by simp [lg_sl, va_rf_cat, cat_int, cat_long, M_Land_closeIfDue]) ?_
  rw [show lv_args 0 [va_rf (some t), va_rf (l1), va_rf (l2)] = [(0, va_rf (some t)), (1, va_rf (l1)), (2, va_rf (l2))] from by simp [lv_args, va_rf_cat, cat_int, cat_long]]
  refine at_aload_n (i := 1) 1 1 rfl (by decide +kernel) rfl ?_
  refine at_aload_n (i := 2) 2 2 rfl (by decide +kernel) rfl ?_
  obtain ⟨b1, e2, h⟩ := h
  rw [e2]
  obtain ⟨k3, h⟩ := h
  refine at_callV mb_Receipt_bears tw_869 tw_870 cok6 k3 (index := 303) tw_868 [va_rf (l2)] [] rfl rfl (by decide) 5 rfl (by decide +kernel) (Call.toI (CI.monoE h (fun x4 m5 h y6 => ?_)))
  have k7 : mK m5 b1 = 7 := y6.k k3 (by decide)
  refine at_if_eq (off := 14) 19 8 rfl (by decide +kernel) (by decide +kernel) (fun c8 => ?_) (fun c8 => ?_)
  · rw [if_pos c8] at h
    exact at_vret rfl (by decide +kernel) h
  · rw [if_neg c8] at h
    refine at_aload_n (i := 2) 2 9 rfl (by decide +kernel) rfl ?_
    obtain ⟨b9, e10, h⟩ := h
    rw [e10]
    obtain ⟨k11, h⟩ := h
    refine at_get (index := 307) (v := .int (mI m5 b9 1)) cok5 1 12 rfl (by decide +kernel) k11 (by decide +kernel) tw_945 rfl ?_
    refine at_aload_n (i := 0) 0 13 rfl (by decide +kernel) rfl ?_
    obtain ⟨k12, h⟩ := h
    refine at_get (index := 69) (v := .int (mI m5 t 9)) cok3 9 16 rfl (by decide +kernel) k12 (by decide +kernel) tw_299 rfl ?_
    refine at_icmp_le (off := 4) 20 19 rfl (by decide +kernel) (by decide +kernel) (fun c13 => ?_) (fun c13 => ?_)
    · rw [if_pos c13] at h
      refine at_aload_n (i := 0) 0 21 rfl (by decide +kernel) rfl ?_
      refine at_aload_n (i := 1) 1 22 rfl (by decide +kernel) rfl ?_
      refine at_get (index := 227) (v := .int (mI m5 b1 0)) cok6 0 25 rfl (by decide +kernel) k7 (by decide +kernel) tw_775 rfl ?_
      refine at_callV mb_Land_moneyOf tw_873 tw_874 cok3 k12 (index := 310) tw_872 [.int (mI m5 b1 0)] [] rfl rfl (by decide) 28 rfl (by decide +kernel) (Call.toJ (CJ.monoE h (fun x14 m15 h y16 => ?_)))
      have k17 : mK m15 b1 = 7 := y16.k k7 (by decide)
      have k18 : mK m15 b9 = 6 := y16.k k11 (by decide)
      have k19 : mK m15 t = 4 := y16.k k12 (by decide)
      refine at_aload_n (i := 2) 2 29 rfl (by decide +kernel) rfl ?_
      refine at_get (index := 287) (v := .long (mL m15 b9 2)) cok5 2 32 rfl (by decide +kernel) k18 (by decide +kernel) tw_948 rfl ?_
      refine at_lif_lt (off := 12) 33 45 36 rfl rfl (by decide +kernel) (by decide +kernel) (by decide +kernel) (fun c20 => ?_) (fun c20 => ?_)
      · rw [if_pos c20] at h
        refine at_aload_n (i := 0) 0 46 rfl (by decide +kernel) rfl ?_
        refine at_aload_n (i := 1) 1 47 rfl (by decide +kernel) rfl ?_
        refine at_aload_n (i := 2) 2 48 rfl (by decide +kernel) rfl ?_
        refine at_callV mb_Land_seize tw_886 tw_29 cok3 k19 (index := 316) tw_884 [va_rf (some b1), va_rf (some b9)] [] rfl rfl (by decide) 51 rfl (by decide +kernel) (Call.toV (CV.monoE h (fun m21 h y22 => ?_)))
        have k23 : mK m21 b1 = 7 := y22.k k17 (by decide)
        have k24 : mK m21 b9 = 6 := y22.k k18 (by decide)
        have k25 : mK m21 t = 4 := y22.k k19 (by decide)
        exact at_vret rfl (by decide +kernel) h
      · rw [if_neg c20] at h
        refine at_aload_n (i := 0) 0 37 rfl (by decide +kernel) rfl ?_
        refine at_aload_n (i := 1) 1 38 rfl (by decide +kernel) rfl ?_
        refine at_aload_n (i := 2) 2 39 rfl (by decide +kernel) rfl ?_
        refine at_callV mb_Land_payBack tw_877 tw_878 cok3 k19 (index := 313) tw_876 [va_rf (some b1), va_rf (some b9)] [] rfl rfl (by decide) 42 rfl (by decide +kernel) (Call.toV (CV.monoE h (fun m26 h y27 => ?_)))
        have k28 : mK m26 b1 = 7 := y27.k k17 (by decide)
        have k29 : mK m26 b9 = 6 := y27.k k18 (by decide)
        have k30 : mK m26 t = 4 := y27.k k19 (by decide)
        refine at_goto (off := 9) 51 (by decide +kernel) (by decide +kernel) ?_
        exact at_vret rfl (by decide +kernel) h
    · rw [if_neg c13] at h
      exact at_vret rfl (by decide +kernel) h
set_option maxRecDepth 20000 in
set_option maxHeartbeats 4000000 in
theorem en_Land_seize (g : Gc) {lv : Nat} {t : Nat} {l1 : Option Nat} {l2 : Option Nat} {m : Mm} {Q : Mm → Prop} (h : mK m t = 4 ∧ (∀ m2, m2 = sI m t 13 ((mI m t 13) + (1 : Int32)) → (∃ b6, l2 = some b6 ∧ (mK m2 b6 = 6 ∧ (¬ ((imx (1 : Int32) (mI m2 t 10)).toInt64) = 0 ∧ (∃ b10, l1 = some b10 ∧ (mK m2 b10 = 7 ∧ (if ((mI m2 b10 1).toInt64) ≤ ((((mL m2 b6 2) + ((imx (1 : Int32) (mI m2 t 10)).toInt64)) - (1 : Int64)) / ((imx (1 : Int32) (mI m2 t 10)).toInt64)) then (∀ m14, m14 = sI m2 b10 0 ((12 : Int32) + (mI m2 b6 0)) → (∀ m20, m20 = sR m14 b10 3 none → (∀ m26, m26 = sR m20 b10 4 none → (Q m26)))) else (∃ b32, mR m2 t 3 = some b32 ∧ (mK m2 b32 = 9 ∧ (CI g M_Store_isFull lv [va_rf (some b32)] m2 (fun x35 m36 => (if (x35) = 0 then (∀ m44, m44 = sI m36 b10 1 ((mI m36 b10 1) - (((((mL m2 b6 2) + ((imx (1 : Int32) (mI m2 t 10)).toInt64)) - (1 : Int64)) / ((imx (1 : Int32) (mI m2 t 10)).toInt64)).toInt32)) → (CI g M_Store_issue lv [va_rf (some b32), .int ((12 : Int32) + (mI m44 b6 0)), .int (((((mL m2 b6 2) + ((imx (1 : Int32) (mI m2 t 10)).toInt64)) - (1 : Int64)) / ((imx (1 : Int32) (mI m2 t 10)).toInt64)).toInt32), .int (mI m44 b10 2)] m44 (fun x52 m53 => (CV g M_Receipt_drop lv [va_rf (some b10), va_rf (some b6)] m53 (fun m60 => (Q m60)))))) else (∀ m67, m67 = sI m36 b10 0 ((12 : Int32) + (mI m36 b6 0)) → (∀ m75, m75 = sR m67 b10 3 none → (∀ m83, m83 = sR m75 b10 4 none → (Q m83))))))))))))))))) : CV g M_Land_seize (lv + 1) [va_rf (some t), va_rf (l1), va_rf (l2)] m Q := by
  refine Call.of (by decide +kernel) (by simp [lg_sl, va_rf_cat, cat_int, cat_long, M_Land_seize]) ?_
  rw [show lv_args 0 [va_rf (some t), va_rf (l1), va_rf (l2)] = [(0, va_rf (some t)), (1, va_rf (l1)), (2, va_rf (l2))] from by simp [lv_args, va_rf_cat, cat_int, cat_long]]
  refine at_aload_n (i := 0) 0 1 rfl (by decide +kernel) rfl ?_
  refine at_dup 2 rfl (by decide +kernel) (va_rf_cat _) ?_
  obtain ⟨k1, h⟩ := h
  refine at_get (index := 319) (v := .int (mI m t 13)) cok3 13 5 rfl (by decide +kernel) k1 (by decide +kernel) tw_308 rfl ?_
  refine at_iconst (n := 1) (1 : Int32) 6 rfl (by decide +kernel) (by decide +kernel) ?_
  refine at_iadd 7 rfl (by decide +kernel) ?_
  refine at_putI (index := 319) cok3 13 10 rfl (by decide +kernel) k1 (by decide +kernel) tw_308 rfl rfl rfl (fun m2 e3 => ?_)
  replace h := h m2 e3
  have x4 : Ext m m2 := by rw [e3]; exact Ext.sI _ _ _ _
  have k5 : mK m2 t = 4 := x4.k k1 (by decide)
  refine at_iconst (n := 1) (1 : Int32) 11 rfl (by decide +kernel) (by decide +kernel) ?_
  refine at_aload_n (i := 0) 0 12 rfl (by decide +kernel) rfl ?_
  refine at_get (index := 48) (v := .int (mI m2 t 10)) cok3 10 15 rfl (by decide +kernel) k5 (by decide +kernel) tw_301 rfl ?_
  refine at_imx (index := 322) 18 rfl (by decide +kernel) tw_888 (by decide) ?_
  refine at_istore_n (i := 3) (lc' := [(0, va_rf (some t)), (1, va_rf (l1)), (2, va_rf (l2)), (3, .int (imx (1 : Int32) (mI m2 t 10)))]) [1, 2, 3, 0] 19 rfl (by decide +kernel) (by decide +kernel) (by generalize l2 = rr; cases rr <;> rfl) ?_
  refine at_aload_n (i := 2) 2 20 rfl (by decide +kernel) rfl ?_
  obtain ⟨b6, e7, h⟩ := h
  rw [e7]
  obtain ⟨k8, h⟩ := h
  refine at_get (index := 287) (v := .long (mL m2 b6 2)) cok5 2 23 rfl (by decide +kernel) k8 (by decide +kernel) tw_948 rfl ?_
  refine at_iload_n (i := 3) 3 24 rfl (by decide +kernel) rfl ?_
  refine at_i2l 25 rfl (by decide +kernel) ?_
  refine at_ladd 26 rfl (by decide +kernel) ?_
  refine at_lconst (n := 1) (1 : Int64) 27 rfl (by decide +kernel) (by decide +kernel) ?_
  refine at_lsub 28 rfl (by decide +kernel) ?_
  refine at_iload_n (i := 3) 3 29 rfl (by decide +kernel) rfl ?_
  refine at_i2l 30 rfl (by decide +kernel) ?_
  obtain ⟨c9, h⟩ := h
  refine at_ldiv 31 rfl (by decide +kernel) c9 ?_
  refine at_lstore (i := 4) (lc' := [(0, va_rf (some t)), (1, va_rf (l1)), (2, va_rf (some b6)), (4, .long ((((mL m2 b6 2) + ((imx (1 : Int32) (mI m2 t 10)).toInt64)) - (1 : Int64)) / ((imx (1 : Int32) (mI m2 t 10)).toInt64)))]) [1, 2, 3, 0] 33 rfl (by decide +kernel) (by decide +kernel) rfl ?_
  refine at_lload (i := 4) 3 35 rfl (by decide +kernel) rfl ?_
  refine at_aload_n (i := 1) 1 36 rfl (by decide +kernel) rfl ?_
  obtain ⟨b10, e11, h⟩ := h
  rw [e11]
  obtain ⟨k12, h⟩ := h
  refine at_get (index := 216) (v := .int (mI m2 b10 1)) cok6 1 39 rfl (by decide +kernel) k12 (by decide +kernel) tw_778 rfl ?_
  refine at_i2l 40 rfl (by decide +kernel) ?_
  refine at_lif_ge (off := 13) 41 54 44 rfl rfl (by decide +kernel) (by decide +kernel) (by decide +kernel) (fun c13 => ?_) (fun c13 => ?_)
  · rw [if_pos c13] at h
    refine at_aload_n (i := 1) 1 55 rfl (by decide +kernel) rfl ?_
    refine at_bipush (n := 12) (12 : Int32) 57 rfl (by decide +kernel) (by decide +kernel) ?_
    refine at_aload_n (i := 2) 2 58 rfl (by decide +kernel) rfl ?_
    refine at_get (index := 290) (v := .int (mI m2 b6 0)) cok5 0 61 rfl (by decide +kernel) k8 (by decide +kernel) tw_942 rfl ?_
    refine at_iadd 62 rfl (by decide +kernel) ?_
    refine at_putI (index := 227) cok6 0 65 rfl (by decide +kernel) k12 (by decide +kernel) tw_775 rfl rfl rfl (fun m14 e15 => ?_)
    replace h := h m14 e15
    have x16 : Ext m2 m14 := by rw [e15]; exact Ext.sI _ _ _ _
    have k17 : mK m14 t = 4 := x16.k k5 (by decide)
    have k18 : mK m14 b6 = 6 := x16.k k8 (by decide)
    have k19 : mK m14 b10 = 7 := x16.k k12 (by decide)
    refine at_aload_n (i := 1) 1 66 rfl (by decide +kernel) rfl ?_
    refine at_null 67 rfl (by decide +kernel) ?_
    refine at_putR (index := 269) cok6 3 70 rfl (by decide +kernel) k19 rfl (by decide +kernel) tw_785 rfl rfl (Or.inl ⟨_, rfl⟩) (fun m20 e21 => ?_)
    replace h := h m20 e21
    have x22 : Ext m14 m20 := by rw [e21]; exact Ext.sR _ (Or.inl (by rw [k19]; rfl))
    have k23 : mK m20 t = 4 := x22.k k17 (by decide)
    have k24 : mK m20 b6 = 6 := x22.k k18 (by decide)
    have k25 : mK m20 b10 = 7 := x22.k k19 (by decide)
    refine at_aload_n (i := 1) 1 71 rfl (by decide +kernel) rfl ?_
    refine at_null 72 rfl (by decide +kernel) ?_
    refine at_putR (index := 296) cok6 4 75 rfl (by decide +kernel) k25 rfl (by decide +kernel) tw_789 rfl rfl (Or.inl ⟨_, rfl⟩) (fun m26 e27 => ?_)
    replace h := h m26 e27
    have x28 : Ext m20 m26 := by rw [e27]; exact Ext.sR _ (Or.inl (by rw [k25]; rfl))
    have k29 : mK m26 t = 4 := x28.k k23 (by decide)
    have k30 : mK m26 b6 = 6 := x28.k k24 (by decide)
    have k31 : mK m26 b10 = 7 := x28.k k25 (by decide)
    exact at_vret rfl (by decide +kernel) h
  · rw [if_neg c13] at h
    refine at_aload_n (i := 0) 0 45 rfl (by decide +kernel) rfl ?_
    refine at_get (index := 26) (v := va_rf (mR m2 t 3)) cok3 3 48 rfl (by decide +kernel) k5 (by decide +kernel) tw_290 rfl ?_
    obtain ⟨b32, e33, h⟩ := h
    rw [e33]
    obtain ⟨k34, h⟩ := h
    refine at_callV mb_Store_isFull tw_765 tw_766 cok8 k34 (index := 325) tw_889 [] [] rfl rfl (by decide) 51 rfl (by decide +kernel) (Call.toI (CI.monoE h (fun x35 m36 h y37 => ?_)))
    have k38 : mK m36 t = 4 := y37.k k5 (by decide)
    have k39 : mK m36 b6 = 6 := y37.k k8 (by decide)
    have k40 : mK m36 b10 = 7 := y37.k k12 (by decide)
    have k41 : mK m36 b32 = 9 := y37.k k34 (by decide)
    have e42 : mR m36 t 3 = some b32 := y37.r k5 (by decide) rfl e33
    refine at_if_eq (off := 25) 76 54 rfl (by decide +kernel) (by decide +kernel) (fun c43 => ?_) (fun c43 => ?_)
    · rw [if_pos c43] at h
      refine at_aload_n (i := 1) 1 77 rfl (by decide +kernel) rfl ?_
      refine at_dup 78 rfl (by decide +kernel) (va_rf_cat _) ?_
      refine at_get (index := 216) (v := .int (mI m36 b10 1)) cok6 1 81 rfl (by decide +kernel) k40 (by decide +kernel) tw_778 rfl ?_
      refine at_lload (i := 4) 3 83 rfl (by decide +kernel) rfl ?_
      refine at_l2i 84 rfl (by decide +kernel) ?_
      refine at_isub 85 rfl (by decide +kernel) ?_
      refine at_putI (index := 216) cok6 1 88 rfl (by decide +kernel) k40 (by decide +kernel) tw_778 rfl rfl rfl (fun m44 e45 => ?_)
      replace h := h m44 e45
      have x46 : Ext m36 m44 := by rw [e45]; exact Ext.sI _ _ _ _
      have k47 : mK m44 t = 4 := x46.k k38 (by decide)
      have k48 : mK m44 b6 = 6 := x46.k k39 (by decide)
      have k49 : mK m44 b10 = 7 := x46.k k40 (by decide)
      have k50 : mK m44 b32 = 9 := x46.k k41 (by decide)
      have e51 : mR m44 t 3 = some b32 := x46.r k38 (by decide) rfl e42
      refine at_aload_n (i := 0) 0 89 rfl (by decide +kernel) rfl ?_
      refine at_get (index := 26) (v := va_rf (mR m44 t 3)) cok3 3 92 rfl (by decide +kernel) k47 (by decide +kernel) tw_290 rfl ?_
      rw [e51]
      refine at_bipush (n := 12) (12 : Int32) 94 rfl (by decide +kernel) (by decide +kernel) ?_
      refine at_aload_n (i := 2) 2 95 rfl (by decide +kernel) rfl ?_
      refine at_get (index := 290) (v := .int (mI m44 b6 0)) cok5 0 98 rfl (by decide +kernel) k48 (by decide +kernel) tw_942 rfl ?_
      refine at_iadd 99 rfl (by decide +kernel) ?_
      refine at_lload (i := 4) 3 101 rfl (by decide +kernel) rfl ?_
      refine at_l2i 102 rfl (by decide +kernel) ?_
      refine at_aload_n (i := 1) 1 103 rfl (by decide +kernel) rfl ?_
      refine at_get (index := 237) (v := .int (mI m44 b10 2)) cok6 2 106 rfl (by decide +kernel) k49 (by decide +kernel) tw_781 rfl ?_
      refine at_callV mb_Store_issue tw_761 tw_762 cok8 k50 (index := 205) tw_760 [.int ((12 : Int32) + (mI m44 b6 0)), .int (((((mL m2 b6 2) + ((imx (1 : Int32) (mI m2 t 10)).toInt64)) - (1 : Int64)) / ((imx (1 : Int32) (mI m2 t 10)).toInt64)).toInt32), .int (mI m44 b10 2)] [] rfl rfl (by decide) 109 rfl (by decide +kernel) (Call.toI (CI.monoE h (fun x52 m53 h y54 => ?_)))
      have k55 : mK m53 t = 4 := y54.k k47 (by decide)
      have k56 : mK m53 b6 = 6 := y54.k k48 (by decide)
      have k57 : mK m53 b10 = 7 := y54.k k49 (by decide)
      have k58 : mK m53 b32 = 9 := y54.k k50 (by decide)
      have e59 : mR m53 t 3 = some b32 := y54.r k47 (by decide) rfl e51
      refine at_pop 110 rfl (by decide +kernel) rfl ?_
      refine at_aload_n (i := 1) 1 111 rfl (by decide +kernel) rfl ?_
      refine at_aload_n (i := 2) 2 112 rfl (by decide +kernel) rfl ?_
      refine at_callV mb_Receipt_drop tw_881 tw_882 cok6 k57 (index := 293) tw_880 [va_rf (some b6)] [] rfl rfl (by decide) 115 rfl (by decide +kernel) (Call.toV (CV.monoE h (fun m60 h y61 => ?_)))
      have k62 : mK m60 t = 4 := y61.k k55 (by decide)
      have k63 : mK m60 b6 = 6 := y61.k k56 (by decide)
      have k64 : mK m60 b10 = 7 := y61.k k57 (by decide)
      have k65 : mK m60 b32 = 9 := y61.k k58 (by decide)
      have e66 : mR m60 t 3 = some b32 := y61.r k55 (by decide) rfl e59
      exact at_vret rfl (by decide +kernel) h
    · rw [if_neg c43] at h
      refine at_aload_n (i := 1) 1 55 rfl (by decide +kernel) rfl ?_
      refine at_bipush (n := 12) (12 : Int32) 57 rfl (by decide +kernel) (by decide +kernel) ?_
      refine at_aload_n (i := 2) 2 58 rfl (by decide +kernel) rfl ?_
      refine at_get (index := 290) (v := .int (mI m36 b6 0)) cok5 0 61 rfl (by decide +kernel) k39 (by decide +kernel) tw_942 rfl ?_
      refine at_iadd 62 rfl (by decide +kernel) ?_
      refine at_putI (index := 227) cok6 0 65 rfl (by decide +kernel) k40 (by decide +kernel) tw_775 rfl rfl rfl (fun m67 e68 => ?_)
      replace h := h m67 e68
      have x69 : Ext m36 m67 := by rw [e68]; exact Ext.sI _ _ _ _
      have k70 : mK m67 t = 4 := x69.k k38 (by decide)
      have k71 : mK m67 b6 = 6 := x69.k k39 (by decide)
      have k72 : mK m67 b10 = 7 := x69.k k40 (by decide)
      have k73 : mK m67 b32 = 9 := x69.k k41 (by decide)
      have e74 : mR m67 t 3 = some b32 := x69.r k38 (by decide) rfl e42
      refine at_aload_n (i := 1) 1 66 rfl (by decide +kernel) rfl ?_
      refine at_null 67 rfl (by decide +kernel) ?_
      refine at_putR (index := 269) cok6 3 70 rfl (by decide +kernel) k72 rfl (by decide +kernel) tw_785 rfl rfl (Or.inl ⟨_, rfl⟩) (fun m75 e76 => ?_)
      replace h := h m75 e76
      have x77 : Ext m67 m75 := by rw [e76]; exact Ext.sR _ (Or.inl (by rw [k72]; rfl))
      have k78 : mK m75 t = 4 := x77.k k70 (by decide)
      have k79 : mK m75 b6 = 6 := x77.k k71 (by decide)
      have k80 : mK m75 b10 = 7 := x77.k k72 (by decide)
      have k81 : mK m75 b32 = 9 := x77.k k73 (by decide)
      have e82 : mR m75 t 3 = some b32 := x77.r k70 (by decide) rfl e74
      refine at_aload_n (i := 1) 1 71 rfl (by decide +kernel) rfl ?_
      refine at_null 72 rfl (by decide +kernel) ?_
      refine at_putR (index := 296) cok6 4 75 rfl (by decide +kernel) k80 rfl (by decide +kernel) tw_789 rfl rfl (Or.inl ⟨_, rfl⟩) (fun m83 e84 => ?_)
      replace h := h m83 e84
      have x85 : Ext m75 m83 := by rw [e84]; exact Ext.sR _ (Or.inl (by rw [k80]; rfl))
      have k86 : mK m83 t = 4 := x85.k k78 (by decide)
      have k87 : mK m83 b6 = 6 := x85.k k79 (by decide)
      have k88 : mK m83 b10 = 7 := x85.k k80 (by decide)
      have k89 : mK m83 b32 = 9 := x85.k k81 (by decide)
      have e90 : mR m83 t 3 = some b32 := x85.r k78 (by decide) rfl e82
      exact at_vret rfl (by decide +kernel) h
