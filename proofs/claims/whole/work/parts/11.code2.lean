set_option maxRecDepth 20000 in
set_option maxHeartbeats 4000000 in
theorem en_Judge_init (g : Gc) {lv : Nat} {t : Nat} {m : Mm} {Q : Mm → Prop} (h : mK m (gz g + mC m) = 0 ∧ (∀ q2 m3, q2 = gz g + mC m → m3 = nw m q2 16 ((6 : Int32).toNatClampNeg) ((6 : Int32).toNatClampNeg) → (mK m3 t = 3 ∧ (∀ m9, m9 = sR m3 t 0 (some q2) → (mK m9 (gz g + mC m9) = 0 ∧ (∀ q14 m15, q14 = gz g + mC m9 → m15 = nw m9 q14 16 ((32 : Int32).toNatClampNeg) ((32 : Int32).toNatClampNeg) → (∀ m22, m22 = sR m15 t 1 (some q14) → (mK m22 (gz g + mC m22) = 0 ∧ (∀ q28 m29, q28 = gz g + mC m22 → m29 = nw m22 q28 17 ((8 : Int32).toNatClampNeg) ((8 : Int32).toNatClampNeg) → (∀ m37, m37 = sR m29 t 2 (some q28) → (Q m37))))))))))) : CV g M_Judge_init (lv + 1) [va_rf (some t)] m Q := by
  refine Call.of (by decide +kernel) (Nat.le_of_ble_eq_true rfl) ?_
  show At g M_Judge_init (lv + 1) 0 [(0, va_rf (some t))] [] m (QV Q)
  refine at_aload_n (i := 0) 0 1 rfl (by decide +kernel) rfl ?_
  refine at_objInit 4 rfl (by decide +kernel) tw_166 tw_91 tw_92 (by decide) ?_
  refine at_aload_n (i := 0) 0 5 rfl (by decide +kernel) rfl ?_
  refine at_bipush (n := 6) (6 : Int32) 7 rfl (by decide +kernel) (by decide +kernel) ?_
  obtain ⟨z1, h⟩ := h
  refine at_newaJ 9 rfl z1 (by decide +kernel) tw_199 (by decide +kernel) (by decide +kernel) (fun q2 m3 e4 e5 => ?_)
  replace h := h q2 m3 e4 e5
  have x6 : Ext m m3 := by rw [e5, e4]; exact Ext.nw z1 _ _ _
  have k7 : mK m3 q2 = 16 := by rw [e5]; exact if_pos rfl
  obtain ⟨k8, h⟩ := h
  refine at_putRF (index := 9) cok2 0 12 rfl (by decide +kernel) k8 (by decide +kernel) tw_167 rfl rfl rfl rfl (Or.inr ⟨_, rfl⟩) (fun m9 e10 => ?_)
  replace h := h m9 e10
  have k11 : mK m9 q2 = 16 := by rw [e10]; exact k7
  have k12 : mK m9 t = 3 := by rw [e10]; exact k8
  refine at_aload_n (i := 0) 0 13 rfl (by decide +kernel) rfl ?_
  refine at_bipush (n := 32) (32 : Int32) 15 rfl (by decide +kernel) (by decide +kernel) ?_
  obtain ⟨z13, h⟩ := h
  refine at_newaJ 17 rfl z13 (by decide +kernel) tw_199 (by decide +kernel) (by decide +kernel) (fun q14 m15 e16 e17 => ?_)
  replace h := h q14 m15 e16 e17
  have x18 : Ext m9 m15 := by rw [e17, e16]; exact Ext.nw z13 _ _ _
  have k19 : mK m15 q2 = 16 := x18.k k11 (by decide)
  have k20 : mK m15 t = 3 := x18.k k12 (by decide)
  have k21 : mK m15 q14 = 16 := by rw [e17]; exact if_pos rfl
  refine at_putRF (index := 15) cok2 1 20 rfl (by decide +kernel) k20 (by decide +kernel) tw_169 rfl rfl rfl rfl (Or.inr ⟨_, rfl⟩) (fun m22 e23 => ?_)
  replace h := h m22 e23
  have k24 : mK m22 q2 = 16 := by rw [e23]; exact k19
  have k25 : mK m22 t = 3 := by rw [e23]; exact k20
  have k26 : mK m22 q14 = 16 := by rw [e23]; exact k21
  refine at_aload_n (i := 0) 0 21 rfl (by decide +kernel) rfl ?_
  refine at_bipush (n := 8) (8 : Int32) 23 rfl (by decide +kernel) (by decide +kernel) ?_
  obtain ⟨z27, h⟩ := h
  refine at_newaZ 25 rfl z27 (by decide +kernel) tw_200 (by decide +kernel) (by decide +kernel) (fun q28 m29 e30 e31 => ?_)
  replace h := h q28 m29 e30 e31
  have x32 : Ext m22 m29 := by rw [e31, e30]; exact Ext.nw z27 _ _ _
  have k33 : mK m29 q2 = 16 := x32.k k24 (by decide)
  have k34 : mK m29 t = 3 := x32.k k25 (by decide)
  have k35 : mK m29 q14 = 16 := x32.k k26 (by decide)
  have k36 : mK m29 q28 = 17 := by rw [e31]; exact if_pos rfl
  refine at_putRF (index := 18) cok2 2 28 rfl (by decide +kernel) k34 (by decide +kernel) tw_170 rfl rfl rfl rfl (Or.inr ⟨_, rfl⟩) (fun m37 e38 => ?_)
  replace h := h m37 e38
  have k39 : mK m37 q2 = 16 := by rw [e38]; exact k33
  have k40 : mK m37 t = 3 := by rw [e38]; exact k34
  have k41 : mK m37 q14 = 16 := by rw [e38]; exact k35
  have k42 : mK m37 q28 = 17 := by rw [e38]; exact k36
  exact at_vret rfl (by decide +kernel) h
set_option maxRecDepth 20000 in
set_option maxHeartbeats 4000000 in
theorem en_Judge_frees (g : Gc) {lv : Nat} {t : Nat} {l1 : Int32} {l2 : Int32} {m : Mm} {Q : Int32 → Mm → Prop} (h : mK m t = 3 ∧ (if (l2.toInt64) < (mL m t 7) then (Q (1 : Int32) m) else (CI g M_SL_isWithin lv [.int (l1), .int ((0 : Int32)), .int ((7 : Int32))] m (fun x3 m4 => (if (x3) = 0 then (Q (0 : Int32) m4) else (∃ b8, mR m4 t 2 = some b8 ∧ (mK m4 b8 = 17 ∧ (vp_in l1 (mN m4 b8) ∧ (if (mI m4 b8 l1.toNatClampNeg) = 0 then (Q (0 : Int32) m4) else (Q (1 : Int32) m4)))))))))) : CI g M_Judge_frees (lv + 1) [va_rf (some t), .int (l1), .int (l2)] m Q := by
  refine Call.of (by decide +kernel) (Nat.le_of_ble_eq_true rfl) ?_
  show At g M_Judge_frees (lv + 1) 0 [(0, va_rf (some t)), (1, .int (l1)), (2, .int (l2))] [] m (QI Q)
  refine at_iload_n (i := 2) 2 1 rfl (by decide +kernel) rfl ?_
  refine at_i2l 2 rfl (by decide +kernel) ?_
  refine at_aload_n (i := 0) 0 3 rfl (by decide +kernel) rfl ?_
  obtain ⟨k1, h⟩ := h
  refine at_get (index := 22) (v := .long (mL m t 7)) cok2 7 6 rfl (by decide +kernel) k1 (by decide +kernel) tw_177 rfl ?_
  refine at_lif_lt (off := 22) 7 29 10 rfl rfl (by decide +kernel) (by decide +kernel) (by decide +kernel) (fun c2 => ?_) (fun c2 => ?_)
  · rw [if_pos c2] at h
    refine at_iconst (n := 1) (1 : Int32) 30 rfl (by decide +kernel) (by decide +kernel) ?_
    refine at_goto (off := 4) 34 (by decide +kernel) (by decide +kernel) ?_
    exact at_zret rfl (by decide +kernel) (Or.inr rfl) h
  · rw [if_neg c2] at h
    refine at_iload_n (i := 1) 1 11 rfl (by decide +kernel) rfl ?_
    refine at_iconst (n := 0) (0 : Int32) 12 rfl (by decide +kernel) (by decide +kernel) ?_
    refine at_bipush (n := 7) (7 : Int32) 14 rfl (by decide +kernel) (by decide +kernel) ?_
    refine at_callSN mb_SL_isWithin tw_471 (index := 26) (host := "SurplusLand") (by decide +kernel) [.int (l1), .int ((0 : Int32)), .int ((7 : Int32))] [] rfl rfl (by decide) 17 rfl (by decide +kernel) (Call.toI (CI.monoE h (fun x3 m4 h y5 => ?_)))
    have k6 : mK m4 t = 3 := y5.k k1 (by decide)
    refine at_if_eq (off := 16) 33 20 rfl (by decide +kernel) (by decide +kernel) (fun c7 => ?_) (fun c7 => ?_)
    · rw [if_pos c7] at h
      refine at_iconst (n := 0) (0 : Int32) 34 rfl (by decide +kernel) (by decide +kernel) ?_
      exact at_zret rfl (by decide +kernel) (Or.inl rfl) h
    · rw [if_neg c7] at h
      refine at_aload_n (i := 0) 0 21 rfl (by decide +kernel) rfl ?_
      refine at_get (index := 18) (v := va_rf (mR m4 t 2)) cok2 2 24 rfl (by decide +kernel) k6 (by decide +kernel) tw_170 rfl ?_
      refine at_iload_n (i := 1) 1 25 rfl (by decide +kernel) rfl ?_
      obtain ⟨b8, e9, h⟩ := h
      rw [e9]
      obtain ⟨k10, h⟩ := h
      obtain ⟨v11, h⟩ := h
      refine at_zald 26 rfl (by decide +kernel) k10 v11 ?_
      refine at_if_eq (off := 7) 33 29 rfl (by decide +kernel) (by decide +kernel) (fun c12 => ?_) (fun c12 => ?_)
      · rw [if_pos c12] at h
        refine at_iconst (n := 0) (0 : Int32) 34 rfl (by decide +kernel) (by decide +kernel) ?_
        exact at_zret rfl (by decide +kernel) (Or.inl rfl) h
      · rw [if_neg c12] at h
        refine at_iconst (n := 1) (1 : Int32) 30 rfl (by decide +kernel) (by decide +kernel) ?_
        refine at_goto (off := 4) 34 (by decide +kernel) (by decide +kernel) ?_
        exact at_zret rfl (by decide +kernel) (Or.inr rfl) h
set_option maxRecDepth 20000 in
set_option maxHeartbeats 4000000 in
theorem bk_Judge_hear_108 (g : Gc) {lv : Nat} {t : Nat} {l1 : Option Nat} {l2 : Int32} {s0 : Int32} {m : Mm} {Q : Mm → Prop} (h : if (s0) = 0 then (At g M_Judge_hear (lv + 1) 58 [(0, va_rf (some t)), (1, va_rf (l1)), (2, .int (l2 + (1 : Int32)))] [] m (QV Q)) else (∃ b2, l1 = some b2 ∧ (mK m b2 = 5 ∧ (∃ b5, mR m b2 0 = some b5 ∧ (mK m b5 = 15 ∧ (vp_in l2 (mN m b5) ∧ (∃ b9, mR m b2 1 = some b9 ∧ (mK m b9 = 15 ∧ (vp_in l2 (mN m b9) ∧ (∃ b13, mR m b2 2 = some b13 ∧ (mK m b13 = 15 ∧ (vp_in l2 (mN m b13) ∧ (mK m t = 3 ∧ (CJ g M_Judge_run lv [va_rf (some t), va_rf (some b2), .int (mI m b9 l2.toNatClampNeg), .int (mI m b13 l2.toNatClampNeg)] m (fun x18 m19 => (CV g M_Judge_obey lv [va_rf (some t), .int (mI m b5 l2.toNatClampNeg), .long (x18)] m19 (fun m26 => (At g M_Judge_hear (lv + 1) 58 [(0, va_rf (some t)), (1, va_rf (some b2)), (2, .int (l2 + (1 : Int32)))] [] m26 (QV Q))))))))))))))))))) : At g M_Judge_hear (lv + 1) 108 [(0, va_rf (some t)), (1, va_rf (l1)), (2, .int (l2))] [.int (s0)] m (QV Q) := by
  refine at_istore_n (i := 3) (lc' := [(0, va_rf (some t)), (1, va_rf (l1)), (2, .int (l2)), (3, .int (s0))]) [1, 2, 3, 0] 109 rfl (by decide +kernel) (by decide +kernel) rfl ?_
  refine at_iload_n (i := 3) 3 110 rfl (by decide +kernel) rfl ?_
  refine at_if_eq (off := 30) 140 113 rfl (by decide +kernel) (by decide +kernel) (fun c1 => ?_) (fun c1 => ?_)
  · rw [if_pos c1] at h
    refine at_iinc (i := 2) (n := 1) (lc' := [(0, va_rf (some t)), (1, va_rf (l1)), (2, .int (l2 + (1 : Int32)))]) (l2 + (1 : Int32)) 2 [1, 2, 0] 143 rfl (by decide +kernel) rfl (by rw [show Int32.ofInt 1 = (1 : Int32) from by decide +kernel]) (by decide +kernel) (by generalize l1 = rr; cases rr <;> rfl) ?_
    refine at_goto (off := (-85)) 58 (by decide +kernel) (by decide +kernel) ?_
    exact h
  · rw [if_neg c1] at h
    refine at_aload_n (i := 0) 0 114 rfl (by decide +kernel) rfl ?_
    refine at_aload_n (i := 1) 1 115 rfl (by decide +kernel) rfl ?_
    obtain ⟨b2, e3, h⟩ := h
    rw [e3]
    obtain ⟨k4, h⟩ := h
    refine at_get (index := 63) (v := va_rf (mR m b2 0)) cok4 0 118 rfl (by decide +kernel) k4 (by decide +kernel) tw_385 rfl ?_
    refine at_iload_n (i := 2) 2 119 rfl (by decide +kernel) rfl ?_
    obtain ⟨b5, e6, h⟩ := h
    rw [e6]
    obtain ⟨k7, h⟩ := h
    obtain ⟨v8, h⟩ := h
    refine at_iald 120 rfl (by decide +kernel) k7 v8 ?_
    refine at_aload_n (i := 0) 0 121 rfl (by decide +kernel) rfl ?_
    refine at_aload_n (i := 1) 1 122 rfl (by decide +kernel) rfl ?_
    refine at_aload_n (i := 1) 1 123 rfl (by decide +kernel) rfl ?_
    refine at_get (index := 66) (v := va_rf (mR m b2 1)) cok4 1 126 rfl (by decide +kernel) k4 (by decide +kernel) tw_387 rfl ?_
    refine at_iload_n (i := 2) 2 127 rfl (by decide +kernel) rfl ?_
    obtain ⟨b9, e10, h⟩ := h
    rw [e10]
    obtain ⟨k11, h⟩ := h
    obtain ⟨v12, h⟩ := h
    refine at_iald 128 rfl (by decide +kernel) k11 v12 ?_
    refine at_aload_n (i := 1) 1 129 rfl (by decide +kernel) rfl ?_
    refine at_get (index := 52) (v := va_rf (mR m b2 2)) cok4 2 132 rfl (by decide +kernel) k4 (by decide +kernel) tw_389 rfl ?_
    refine at_iload_n (i := 2) 2 133 rfl (by decide +kernel) rfl ?_
    obtain ⟨b13, e14, h⟩ := h
    rw [e14]
    obtain ⟨k15, h⟩ := h
    obtain ⟨v16, h⟩ := h
    refine at_iald 134 rfl (by decide +kernel) k15 v16 ?_
    obtain ⟨k17, h⟩ := h
    refine at_callV mb_Judge_run tw_729 tw_17 cok2 k17 (index := 59) tw_727 [va_rf (some b2), .int (mI m b9 l2.toNatClampNeg), .int (mI m b13 l2.toNatClampNeg)] [.int (mI m b5 l2.toNatClampNeg), va_rf (some t)] rfl rfl (by simp [va_rf_cat, cat_int, cat_long]) 137 rfl (by decide +kernel) (Call.toJ (CJ.monoE h (fun x18 m19 h y20 => ?_)))
    have k21 : mK m19 b2 = 5 := y20.k k4 (by decide)
    have k22 : mK m19 b5 = 15 := y20.k k7 (by decide)
    have k23 : mK m19 b9 = 15 := y20.k k11 (by decide)
    have k24 : mK m19 b13 = 15 := y20.k k15 (by decide)
    have k25 : mK m19 t = 3 := y20.k k17 (by decide)
    refine at_callV mb_Judge_obey tw_737 tw_18 cok2 k25 (index := 69) tw_735 [.int (mI m b5 l2.toNatClampNeg), .long (x18)] [] rfl rfl (by decide) 140 rfl (by decide +kernel) (Call.toV (CV.monoE h (fun m26 h y27 => ?_)))
    have k28 : mK m26 b2 = 5 := y27.k k21 (by decide)
    have k29 : mK m26 b5 = 15 := y27.k k22 (by decide)
    have k30 : mK m26 b9 = 15 := y27.k k23 (by decide)
    have k31 : mK m26 b13 = 15 := y27.k k24 (by decide)
    have k32 : mK m26 t = 3 := y27.k k25 (by decide)
    refine at_iinc (i := 2) (n := 1) (lc' := [(0, va_rf (some t)), (1, va_rf (some b2)), (2, .int (l2 + (1 : Int32)))]) (l2 + (1 : Int32)) 2 [1, 2, 0] 143 rfl (by decide +kernel) rfl (by rw [show Int32.ofInt 1 = (1 : Int32) from by decide +kernel]) (by decide +kernel) rfl ?_
    refine at_goto (off := (-85)) 58 (by decide +kernel) (by decide +kernel) ?_
    exact h
set_option maxRecDepth 20000 in
set_option maxHeartbeats 4000000 in
theorem bk_Judge_hear_103 (g : Gc) {lv : Nat} {t : Nat} {l1 : Option Nat} {l2 : Int32} {m : Mm} {Q : Mm → Prop} (h : At g M_Judge_hear (lv + 1) 108 [(0, va_rf (some t)), (1, va_rf (l1)), (2, .int (l2))] [.int ((1 : Int32))] m (QV Q)) : At g M_Judge_hear (lv + 1) 103 [(0, va_rf (some t)), (1, va_rf (l1)), (2, .int (l2))] [] m (QV Q) := by
  refine at_iconst (n := 1) (1 : Int32) 104 rfl (by decide +kernel) (by decide +kernel) ?_
  refine at_goto (off := 4) 108 (by decide +kernel) (by decide +kernel) ?_
  exact h
set_option maxRecDepth 20000 in
set_option maxHeartbeats 4000000 in
theorem bk_Judge_hear_58 (g : Gc) {lv : Nat} {t : Nat} {l1 : Option Nat} {l2 : Int32} {m : Mm} {Q : Mm → Prop} (h : ∃ b1, l1 = some b1 ∧ (mK m b1 = 5 ∧ (if (mI m b1 5) ≤ (l2) then (Q m) else (∃ b5, mR m b1 2 = some b5 ∧ (mK m b5 = 15 ∧ (vp_in l2 (mN m b5) ∧ (∃ b9, mR m b1 3 = some b9 ∧ (mK m b9 = 15 ∧ (vp_in l2 (mN m b9) ∧ (if (mI m b5 l2.toNatClampNeg) = (mI m b9 l2.toNatClampNeg) then (At g M_Judge_hear (lv + 1) 103 [(0, va_rf (some t)), (1, va_rf (some b1)), (2, .int (l2))] [] m (QV Q)) else (vp_in l2 (mN m b5) ∧ (vp_in l2 (mN m b9) ∧ (mK m t = 3 ∧ (CJ g M_Judge_run lv [va_rf (some t), va_rf (some b1), .int (mI m b5 l2.toNatClampNeg), .int (mI m b9 l2.toNatClampNeg)] m (fun x17 m18 => (if (x17) = ((0 : Int64)) then (At g M_Judge_hear (lv + 1) 108 [(0, va_rf (some t)), (1, va_rf (some b1)), (2, .int (l2))] [.int ((0 : Int32))] m18 (QV Q)) else (At g M_Judge_hear (lv + 1) 103 [(0, va_rf (some t)), (1, va_rf (some b1)), (2, .int (l2))] [] m18 (QV Q)))))))))))))))))) : At g M_Judge_hear (lv + 1) 58 [(0, va_rf (some t)), (1, va_rf (l1)), (2, .int (l2))] [] m (QV Q) := by
  refine at_iload_n (i := 2) 2 59 rfl (by decide +kernel) rfl ?_
  refine at_aload_n (i := 1) 1 60 rfl (by decide +kernel) rfl ?_
  obtain ⟨b1, e2, h⟩ := h
  rw [e2]
  obtain ⟨k3, h⟩ := h
  refine at_get (index := 47) (v := .int (mI m b1 5)) cok4 5 63 rfl (by decide +kernel) k3 (by decide +kernel) tw_396 rfl ?_
  refine at_icmp_ge (off := 83) 146 66 rfl (by decide +kernel) (by decide +kernel) (fun c4 => ?_) (fun c4 => ?_)
  · rw [if_pos c4] at h
    exact at_vret rfl (by decide +kernel) h
  · rw [if_neg c4] at h
    refine at_aload_n (i := 1) 1 67 rfl (by decide +kernel) rfl ?_
    refine at_get (index := 52) (v := va_rf (mR m b1 2)) cok4 2 70 rfl (by decide +kernel) k3 (by decide +kernel) tw_389 rfl ?_
    refine at_iload_n (i := 2) 2 71 rfl (by decide +kernel) rfl ?_
    obtain ⟨b5, e6, h⟩ := h
    rw [e6]
    obtain ⟨k7, h⟩ := h
    obtain ⟨v8, h⟩ := h
    refine at_iald 72 rfl (by decide +kernel) k7 v8 ?_
    refine at_aload_n (i := 1) 1 73 rfl (by decide +kernel) rfl ?_
    refine at_get (index := 56) (v := va_rf (mR m b1 3)) cok4 3 76 rfl (by decide +kernel) k3 (by decide +kernel) tw_391 rfl ?_
    refine at_iload_n (i := 2) 2 77 rfl (by decide +kernel) rfl ?_
    obtain ⟨b9, e10, h⟩ := h
    rw [e10]
    obtain ⟨k11, h⟩ := h
    obtain ⟨v12, h⟩ := h
    refine at_iald 78 rfl (by decide +kernel) k11 v12 ?_
    refine at_icmp_eq (off := 25) 103 81 rfl (by decide +kernel) (by decide +kernel) (fun c13 => ?_) (fun c13 => ?_)
    · rw [if_pos c13] at h
      exact h
    · rw [if_neg c13] at h
      refine at_aload_n (i := 0) 0 82 rfl (by decide +kernel) rfl ?_
      refine at_aload_n (i := 1) 1 83 rfl (by decide +kernel) rfl ?_
      refine at_aload_n (i := 1) 1 84 rfl (by decide +kernel) rfl ?_
      refine at_get (index := 52) (v := va_rf (mR m b1 2)) cok4 2 87 rfl (by decide +kernel) k3 (by decide +kernel) tw_389 rfl ?_
      rw [e6]
      refine at_iload_n (i := 2) 2 88 rfl (by decide +kernel) rfl ?_
      obtain ⟨v14, h⟩ := h
      refine at_iald 89 rfl (by decide +kernel) k7 v14 ?_
      refine at_aload_n (i := 1) 1 90 rfl (by decide +kernel) rfl ?_
      refine at_get (index := 56) (v := va_rf (mR m b1 3)) cok4 3 93 rfl (by decide +kernel) k3 (by decide +kernel) tw_391 rfl ?_
      rw [e10]
      refine at_iload_n (i := 2) 2 94 rfl (by decide +kernel) rfl ?_
      obtain ⟨v15, h⟩ := h
      refine at_iald 95 rfl (by decide +kernel) k11 v15 ?_
      obtain ⟨k16, h⟩ := h
      refine at_callV mb_Judge_run tw_729 tw_17 cok2 k16 (index := 59) tw_727 [va_rf (some b1), .int (mI m b5 l2.toNatClampNeg), .int (mI m b9 l2.toNatClampNeg)] [] rfl rfl (by decide) 98 rfl (by decide +kernel) (Call.toJ (CJ.monoE h (fun x17 m18 h y19 => ?_)))
      have k20 : mK m18 b1 = 5 := y19.k k3 (by decide)
      have k21 : mK m18 b5 = 15 := y19.k k7 (by decide)
      have k22 : mK m18 b9 = 15 := y19.k k11 (by decide)
      have k23 : mK m18 t = 3 := y19.k k16 (by decide)
      refine at_lconst (n := 0) (0 : Int64) 99 rfl (by decide +kernel) (by decide +kernel) ?_
      refine at_lif_eq (off := 7) 100 107 103 rfl rfl (by decide +kernel) (by decide +kernel) (by decide +kernel) (fun c24 => ?_) (fun c24 => ?_)
      · rw [if_pos c24] at h
        refine at_iconst (n := 0) (0 : Int32) 108 rfl (by decide +kernel) (by decide +kernel) ?_
        exact h
      · rw [if_neg c24] at h
        exact h
set_option maxRecDepth 20000 in
set_option maxHeartbeats 4000000 in
theorem bk_Judge_hear_32 (g : Gc) {lv : Nat} {t : Nat} {l1 : Option Nat} {l2 : Int32} {m : Mm} {Q : Mm → Prop} (h : if ((8 : Int32)) ≤ (l2) then (if (l1 : Option Nat) = none then (Q m) else (At g M_Judge_hear (lv + 1) 58 [(0, va_rf (some t)), (1, va_rf (l1)), (2, .int ((0 : Int32)))] [] m (QV Q))) else (mK m t = 3 ∧ (∃ b4, mR m t 2 = some b4 ∧ (mK m b4 = 17 ∧ (vp_in l2 (mN m b4) ∧ (∀ m8, m8 = sI m b4 l2.toNatClampNeg (0 : Int32) → (At g M_Judge_hear (lv + 1) 32 [(0, va_rf (some t)), (1, va_rf (l1)), (2, .int (l2 + (1 : Int32)))] [] m8 (QV Q)))))))) : At g M_Judge_hear (lv + 1) 32 [(0, va_rf (some t)), (1, va_rf (l1)), (2, .int (l2))] [] m (QV Q) := by
  refine at_iload_n (i := 2) 2 33 rfl (by decide +kernel) rfl ?_
  refine at_bipush (n := 8) (8 : Int32) 35 rfl (by decide +kernel) (by decide +kernel) ?_
  refine at_icmp_ge (off := 16) 51 38 rfl (by decide +kernel) (by decide +kernel) (fun c1 => ?_) (fun c1 => ?_)
  · rw [if_pos c1] at h
    refine at_aload_n (i := 1) 1 52 rfl (by decide +kernel) rfl ?_
    refine at_ifnonnull (off := 4) 56 55 rfl (by decide +kernel) (by decide +kernel) (fun c2 => ?_) (fun c2 => ?_)
    · rw [if_neg c2] at h
      refine at_iconst (n := 0) (0 : Int32) 57 rfl (by decide +kernel) (by decide +kernel) ?_
      refine at_istore_n (i := 2) (lc' := [(0, va_rf (some t)), (1, va_rf (l1)), (2, .int ((0 : Int32)))]) [1, 2, 0] 58 rfl (by decide +kernel) (by decide +kernel) (by generalize l1 = rr; cases rr <;> rfl) ?_
      exact h
    · rw [if_pos c2] at h
      exact at_vret rfl (by decide +kernel) h
  · rw [if_neg c1] at h
    refine at_aload_n (i := 0) 0 39 rfl (by decide +kernel) rfl ?_
    obtain ⟨k3, h⟩ := h
    refine at_get (index := 18) (v := va_rf (mR m t 2)) cok2 2 42 rfl (by decide +kernel) k3 (by decide +kernel) tw_170 rfl ?_
    refine at_iload_n (i := 2) 2 43 rfl (by decide +kernel) rfl ?_
    refine at_iconst (n := 0) (0 : Int32) 44 rfl (by decide +kernel) (by decide +kernel) ?_
    obtain ⟨b4, e5, h⟩ := h
    rw [e5]
    obtain ⟨k6, h⟩ := h
    obtain ⟨v7, h⟩ := h
    refine at_zast 45 rfl (by decide +kernel) k6 v7 (Or.inl rfl) (fun m8 e9 => ?_)
    replace h := h m8 e9
    have k10 : mK m8 t = 3 := by rw [e9]; exact k3
    have k11 : mK m8 b4 = 17 := by rw [e9]; exact k6
    refine at_iinc (i := 2) (n := 1) (lc' := [(0, va_rf (some t)), (1, va_rf (l1)), (2, .int (l2 + (1 : Int32)))]) (l2 + (1 : Int32)) 2 [1, 2, 0] 48 rfl (by decide +kernel) rfl (by rw [show Int32.ofInt 1 = (1 : Int32) from by decide +kernel]) (by decide +kernel) (by generalize l1 = rr; cases rr <;> rfl) ?_
    refine at_goto (off := (-16)) 32 (by decide +kernel) (by decide +kernel) ?_
    exact h
set_option maxRecDepth 20000 in
set_option maxHeartbeats 4000000 in
theorem en_Judge_hear (g : Gc) {lv : Nat} {t : Nat} {l1 : Option Nat} {m : Mm} {Q : Mm → Prop} (h : mK m t = 3 ∧ (∀ m2, m2 = sI m t 3 (0 : Int32) → (∀ m5, m5 = sI m2 t 4 (0 : Int32) → (∀ m8, m8 = sI m5 t 5 (0 : Int32) → (∀ m11, m11 = sL m8 t 8 (0 : Int64) → (∀ m14, m14 = sL m11 t 7 (0 : Int64) → (∀ m17, m17 = sI m14 t 6 (-1 : Int32) → (At g M_Judge_hear (lv + 1) 32 [(0, va_rf (some t)), (1, va_rf (l1)), (2, .int ((0 : Int32)))] [] m17 (QV Q))))))))) : CV g M_Judge_hear (lv + 1) [va_rf (some t), va_rf (l1)] m Q := by
  refine Call.of (by decide +kernel) (by simp [lg_sl, va_rf_cat, cat_int, cat_long, M_Judge_hear]) ?_
  rw [show lv_args 0 [va_rf (some t), va_rf (l1)] = [(0, va_rf (some t)), (1, va_rf (l1))] from by simp [lv_args, va_rf_cat, cat_int, cat_long]]
  refine at_aload_n (i := 0) 0 1 rfl (by decide +kernel) rfl ?_
  refine at_iconst (n := 0) (0 : Int32) 2 rfl (by decide +kernel) (by decide +kernel) ?_
  obtain ⟨k1, h⟩ := h
  refine at_putZ (index := 30) cok2 3 5 rfl (by decide +kernel) k1 (by decide +kernel) tw_171 rfl rfl rfl (Or.inl rfl) (fun m2 e3 => ?_)
  replace h := h m2 e3
  have k4 : mK m2 t = 3 := by rw [e3]; exact k1
  refine at_aload_n (i := 0) 0 6 rfl (by decide +kernel) rfl ?_
  refine at_iconst (n := 0) (0 : Int32) 7 rfl (by decide +kernel) (by decide +kernel) ?_
  refine at_putZ (index := 34) cok2 4 10 rfl (by decide +kernel) k4 (by decide +kernel) tw_172 rfl rfl rfl (Or.inl rfl) (fun m5 e6 => ?_)
  replace h := h m5 e6
  have k7 : mK m5 t = 3 := by rw [e6]; exact k4
  refine at_aload_n (i := 0) 0 11 rfl (by decide +kernel) rfl ?_
  refine at_iconst (n := 0) (0 : Int32) 12 rfl (by decide +kernel) (by decide +kernel) ?_
  refine at_putI (index := 37) cok2 5 15 rfl (by decide +kernel) k7 (by decide +kernel) tw_173 rfl rfl rfl (fun m8 e9 => ?_)
  replace h := h m8 e9
  have k10 : mK m8 t = 3 := by rw [e9]; exact k7
  refine at_aload_n (i := 0) 0 16 rfl (by decide +kernel) rfl ?_
  refine at_lconst (n := 0) (0 : Int64) 17 rfl (by decide +kernel) (by decide +kernel) ?_
  refine at_putJ (index := 41) cok2 8 20 rfl (by decide +kernel) k10 (by decide +kernel) tw_178 rfl rfl rfl (fun m11 e12 => ?_)
  replace h := h m11 e12
  have k13 : mK m11 t = 3 := by rw [e12]; exact k10
  refine at_aload_n (i := 0) 0 21 rfl (by decide +kernel) rfl ?_
  refine at_lconst (n := 0) (0 : Int64) 22 rfl (by decide +kernel) (by decide +kernel) ?_
  refine at_putJ (index := 22) cok2 7 25 rfl (by decide +kernel) k13 (by decide +kernel) tw_177 rfl rfl rfl (fun m14 e15 => ?_)
  replace h := h m14 e15
  have k16 : mK m14 t = 3 := by rw [e15]; exact k13
  refine at_aload_n (i := 0) 0 26 rfl (by decide +kernel) rfl ?_
  refine at_iconst (n := (-1)) (-1 : Int32) 27 rfl (by decide +kernel) (by decide +kernel) ?_
  refine at_putI (index := 44) cok2 6 30 rfl (by decide +kernel) k16 (by decide +kernel) tw_175 rfl rfl rfl (fun m17 e18 => ?_)
  replace h := h m17 e18
  have k19 : mK m17 t = 3 := by rw [e18]; exact k16
  refine at_iconst (n := 0) (0 : Int32) 31 rfl (by decide +kernel) (by decide +kernel) ?_
  refine at_istore_n (i := 2) (lc' := [(0, va_rf (some t)), (1, va_rf (l1)), (2, .int ((0 : Int32)))]) [1, 2, 0] 32 rfl (by decide +kernel) (by decide +kernel) (by generalize l1 = rr; cases rr <;> rfl) ?_
  exact h
set_option maxRecDepth 20000 in
set_option maxHeartbeats 4000000 in
theorem en_Judge_obey (g : Gc) {lv : Nat} {t : Nat} {l1 : Int32} {l2 : Int64} {m : Mm} {Q : Mm → Prop} (h : if l1 = (14 : Int32) then (mK m t = 3 ∧ (if (mI m t 3) = 0 then (CJ g M_SL_cutTo lv [.long (l2), .long ((0 : Int64)), .long ((100 : Int64))] m (fun x5 m6 => (∀ m9, m9 = sI m6 t 5 x5.toInt32 → (∀ m12, m12 = sI m9 t 3 (1 : Int32) → (Q m12))))) else (∀ m15, m15 = sI m t 5 (mI m t 5) → (∀ m18, m18 = sI m15 t 3 (1 : Int32) → (Q m18))))) else (if l1 = (15 : Int32) then (mK m t = 3 ∧ (if (mI m t 4) = 0 then (∃ b24, mR m t 0 = some b24 ∧ (mK m b24 = 16 ∧ (vp_in (1 : Int32) (mN m b24) ∧ (CJ g M_SL_cutTo lv [.long (l2), .long ((0 : Int64)), .long (mL m b24 (1 : Int32).toNatClampNeg)] m (fun x28 m29 => (∀ m33, m33 = sL m29 t 8 x28 → (∀ m37, m37 = sI m33 t 4 (1 : Int32) → (Q m37)))))))) else (∀ m41, m41 = sL m t 8 (mL m t 8) → (∀ m44, m44 = sI m41 t 4 (1 : Int32) → (Q m44))))) else (if l1 = (16 : Int32) then (if (l2) < ((0 : Int64)) then (Q m) else (if ((8 : Int64)) ≤ (l2) then (Q m) else (mK m t = 3 ∧ (∃ b51, mR m t 2 = some b51 ∧ (mK m b51 = 17 ∧ (vp_in l2.toInt32 (mN m b51) ∧ (∀ m55, m55 = sI m b51 l2.toInt32.toNatClampNeg (1 : Int32) → (Q m55)))))))) else (if l1 = (17 : Int32) then (mK m t = 3 ∧ (∀ m61, m61 = sL m t 7 (lmx (mL m t 7) l2) → (Q m61))) else (mK m t = 3 ∧ (if (mI m t 6) = ((-1 : Int32)) then (∀ m69, m69 = sI m t 6 l2.toInt32 → (Q m69)) else (∀ m66, m66 = sI m t 6 (imn (mI m t 6) l2.toInt32) → (Q m66)))))))) : CV g M_Judge_obey (lv + 1) [va_rf (some t), .int (l1), .long (l2)] m Q := by
  refine Call.of (by decide +kernel) (Nat.le_of_ble_eq_true rfl) ?_
  show At g M_Judge_obey (lv + 1) 0 [(0, va_rf (some t)), (1, .int (l1)), (2, .long (l2))] [] m (QV Q)
  refine at_iload_n (i := 1) 1 1 rfl (by decide +kernel) rfl ?_
  by_cases c2 : l1 = (14 : Int32)
  · rw [if_pos c2] at h
    have w1 : l1.toInt = 14 := by rw [c2]; decide +kernel
    refine at_tabIn (dflt := 143) (lo := 14) (hi := 17) (offs := #[31, 66, 103, 128]) (len := 31) (off := 31) 32 (by decide +kernel) (by rw [w1]; decide) (by rw [w1]; decide) (by rw [w1]; decide +kernel) (by decide +kernel) ?_
    refine at_aload_n (i := 0) 0 33 rfl (by decide +kernel) rfl ?_
    refine at_aload_n (i := 0) 0 34 rfl (by decide +kernel) rfl ?_
    obtain ⟨k3, h⟩ := h
    refine at_get (index := 30) (v := .int (mI m t 3)) cok2 3 37 rfl (by decide +kernel) k3 (by decide +kernel) tw_171 rfl ?_
    refine at_if_eq (off := 10) 47 40 rfl (by decide +kernel) (by decide +kernel) (fun c4 => ?_) (fun c4 => ?_)
    · rw [if_pos c4] at h
      refine at_lload_n (i := 2) 2 48 rfl (by decide +kernel) rfl ?_
      refine at_lconst (n := 0) (0 : Int64) 49 rfl (by decide +kernel) (by decide +kernel) ?_
      refine at_ldc2 (index := 73) (100 : Int64) 52 rfl (by decide +kernel) tw_739 ?_
      refine at_callSN mb_SL_cutTo tw_741 (index := 75) (host := "SurplusLand") (by decide +kernel) [.long (l2), .long ((0 : Int64)), .long ((100 : Int64))] [va_rf (some t)] rfl rfl (by simp [va_rf_cat, cat_int, cat_long]) 55 rfl (by decide +kernel) (Call.toJ (CJ.monoE h (fun x5 m6 h y7 => ?_)))
      have k8 : mK m6 t = 3 := y7.k k3 (by decide)
      refine at_l2i 56 rfl (by decide +kernel) ?_
      refine at_putI (index := 37) cok2 5 59 rfl (by decide +kernel) k8 (by decide +kernel) tw_173 rfl rfl rfl (fun m9 e10 => ?_)
      replace h := h m9 e10
      have k11 : mK m9 t = 3 := by rw [e10]; exact k8
      refine at_aload_n (i := 0) 0 60 rfl (by decide +kernel) rfl ?_
      refine at_iconst (n := 1) (1 : Int32) 61 rfl (by decide +kernel) (by decide +kernel) ?_
      refine at_putZ (index := 30) cok2 3 64 rfl (by decide +kernel) k11 (by decide +kernel) tw_171 rfl rfl rfl (Or.inr rfl) (fun m12 e13 => ?_)
      replace h := h m12 e13
      have k14 : mK m12 t = 3 := by rw [e13]; exact k11
      refine at_goto (off := 106) 170 (by decide +kernel) (by decide +kernel) ?_
      exact at_vret rfl (by decide +kernel) h
    · rw [if_neg c4] at h
      refine at_aload_n (i := 0) 0 41 rfl (by decide +kernel) rfl ?_
      refine at_get (index := 37) (v := .int (mI m t 5)) cok2 5 44 rfl (by decide +kernel) k3 (by decide +kernel) tw_173 rfl ?_
      refine at_goto (off := 12) 56 (by decide +kernel) (by decide +kernel) ?_
      refine at_putI (index := 37) cok2 5 59 rfl (by decide +kernel) k3 (by decide +kernel) tw_173 rfl rfl rfl (fun m15 e16 => ?_)
      replace h := h m15 e16
      have k17 : mK m15 t = 3 := by rw [e16]; exact k3
      refine at_aload_n (i := 0) 0 60 rfl (by decide +kernel) rfl ?_
      refine at_iconst (n := 1) (1 : Int32) 61 rfl (by decide +kernel) (by decide +kernel) ?_
      refine at_putZ (index := 30) cok2 3 64 rfl (by decide +kernel) k17 (by decide +kernel) tw_171 rfl rfl rfl (Or.inr rfl) (fun m18 e19 => ?_)
      replace h := h m18 e19
      have k20 : mK m18 t = 3 := by rw [e19]; exact k17
      refine at_goto (off := 106) 170 (by decide +kernel) (by decide +kernel) ?_
      exact at_vret rfl (by decide +kernel) h
  rw [if_neg c2] at h
  by_cases c21 : l1 = (15 : Int32)
  · rw [if_pos c21] at h
    have w1 : l1.toInt = 15 := by rw [c21]; decide +kernel
    refine at_tabIn (dflt := 143) (lo := 14) (hi := 17) (offs := #[31, 66, 103, 128]) (len := 31) (off := 66) 67 (by decide +kernel) (by rw [w1]; decide) (by rw [w1]; decide) (by rw [w1]; decide +kernel) (by decide +kernel) ?_
    refine at_aload_n (i := 0) 0 68 rfl (by decide +kernel) rfl ?_
    refine at_aload_n (i := 0) 0 69 rfl (by decide +kernel) rfl ?_
    obtain ⟨k22, h⟩ := h
    refine at_get (index := 34) (v := .int (mI m t 4)) cok2 4 72 rfl (by decide +kernel) k22 (by decide +kernel) tw_172 rfl ?_
    refine at_if_eq (off := 10) 82 75 rfl (by decide +kernel) (by decide +kernel) (fun c23 => ?_) (fun c23 => ?_)
    · rw [if_pos c23] at h
      refine at_lload_n (i := 2) 2 83 rfl (by decide +kernel) rfl ?_
      refine at_lconst (n := 0) (0 : Int64) 84 rfl (by decide +kernel) (by decide +kernel) ?_
      refine at_aload_n (i := 0) 0 85 rfl (by decide +kernel) rfl ?_
      refine at_get (index := 9) (v := va_rf (mR m t 0)) cok2 0 88 rfl (by decide +kernel) k22 (by decide +kernel) tw_167 rfl ?_
      refine at_iconst (n := 1) (1 : Int32) 89 rfl (by decide +kernel) (by decide +kernel) ?_
      obtain ⟨b24, e25, h⟩ := h
      rw [e25]
      obtain ⟨k26, h⟩ := h
      obtain ⟨v27, h⟩ := h
      refine at_lald 90 rfl (by decide +kernel) k26 v27 ?_
      refine at_callSN mb_SL_cutTo tw_741 (index := 75) (host := "SurplusLand") (by decide +kernel) [.long (l2), .long ((0 : Int64)), .long (mL m b24 (1 : Int32).toNatClampNeg)] [va_rf (some t)] rfl rfl (by simp [va_rf_cat, cat_int, cat_long]) 93 rfl (by decide +kernel) (Call.toJ (CJ.monoE h (fun x28 m29 h y30 => ?_)))
      have k31 : mK m29 t = 3 := y30.k k22 (by decide)
      have k32 : mK m29 b24 = 16 := y30.k k26 (by decide)
      refine at_putJ (index := 41) cok2 8 96 rfl (by decide +kernel) k31 (by decide +kernel) tw_178 rfl rfl rfl (fun m33 e34 => ?_)
      replace h := h m33 e34
      have k35 : mK m33 t = 3 := by rw [e34]; exact k31
      have k36 : mK m33 b24 = 16 := by rw [e34]; exact k32
      refine at_aload_n (i := 0) 0 97 rfl (by decide +kernel) rfl ?_
      refine at_iconst (n := 1) (1 : Int32) 98 rfl (by decide +kernel) (by decide +kernel) ?_
      refine at_putZ (index := 34) cok2 4 101 rfl (by decide +kernel) k35 (by decide +kernel) tw_172 rfl rfl rfl (Or.inr rfl) (fun m37 e38 => ?_)
      replace h := h m37 e38
      have k39 : mK m37 t = 3 := by rw [e38]; exact k35
      have k40 : mK m37 b24 = 16 := by rw [e38]; exact k36
      refine at_goto (off := 69) 170 (by decide +kernel) (by decide +kernel) ?_
      exact at_vret rfl (by decide +kernel) h
    · rw [if_neg c23] at h
      refine at_aload_n (i := 0) 0 76 rfl (by decide +kernel) rfl ?_
      refine at_get (index := 41) (v := .long (mL m t 8)) cok2 8 79 rfl (by decide +kernel) k22 (by decide +kernel) tw_178 rfl ?_
      refine at_goto (off := 14) 93 (by decide +kernel) (by decide +kernel) ?_
      refine at_putJ (index := 41) cok2 8 96 rfl (by decide +kernel) k22 (by decide +kernel) tw_178 rfl rfl rfl (fun m41 e42 => ?_)
      replace h := h m41 e42
      have k43 : mK m41 t = 3 := by rw [e42]; exact k22
      refine at_aload_n (i := 0) 0 97 rfl (by decide +kernel) rfl ?_
      refine at_iconst (n := 1) (1 : Int32) 98 rfl (by decide +kernel) (by decide +kernel) ?_
      refine at_putZ (index := 34) cok2 4 101 rfl (by decide +kernel) k43 (by decide +kernel) tw_172 rfl rfl rfl (Or.inr rfl) (fun m44 e45 => ?_)
      replace h := h m44 e45
      have k46 : mK m44 t = 3 := by rw [e45]; exact k43
      refine at_goto (off := 69) 170 (by decide +kernel) (by decide +kernel) ?_
      exact at_vret rfl (by decide +kernel) h
  rw [if_neg c21] at h
  by_cases c47 : l1 = (16 : Int32)
  · rw [if_pos c47] at h
    have w1 : l1.toInt = 16 := by rw [c47]; decide +kernel
    refine at_tabIn (dflt := 143) (lo := 14) (hi := 17) (offs := #[31, 66, 103, 128]) (len := 31) (off := 103) 104 (by decide +kernel) (by rw [w1]; decide) (by rw [w1]; decide) (by rw [w1]; decide +kernel) (by decide +kernel) ?_
    refine at_lload_n (i := 2) 2 105 rfl (by decide +kernel) rfl ?_
    refine at_lconst (n := 0) (0 : Int64) 106 rfl (by decide +kernel) (by decide +kernel) ?_
    refine at_lif_lt (off := 63) 107 170 110 rfl rfl (by decide +kernel) (by decide +kernel) (by decide +kernel) (fun c48 => ?_) (fun c48 => ?_)
    · rw [if_pos c48] at h
      exact at_vret rfl (by decide +kernel) h
    · rw [if_neg c48] at h
      refine at_lload_n (i := 2) 2 111 rfl (by decide +kernel) rfl ?_
      refine at_ldc2 (index := 79) (8 : Int64) 114 rfl (by decide +kernel) tw_747 ?_
      refine at_lif_ge (off := 55) 115 170 118 rfl rfl (by decide +kernel) (by decide +kernel) (by decide +kernel) (fun c49 => ?_) (fun c49 => ?_)
      · rw [if_pos c49] at h
        exact at_vret rfl (by decide +kernel) h
      · rw [if_neg c49] at h
        refine at_aload_n (i := 0) 0 119 rfl (by decide +kernel) rfl ?_
        obtain ⟨k50, h⟩ := h
        refine at_get (index := 18) (v := va_rf (mR m t 2)) cok2 2 122 rfl (by decide +kernel) k50 (by decide +kernel) tw_170 rfl ?_
        refine at_lload_n (i := 2) 2 123 rfl (by decide +kernel) rfl ?_
        refine at_l2i 124 rfl (by decide +kernel) ?_
        refine at_iconst (n := 1) (1 : Int32) 125 rfl (by decide +kernel) (by decide +kernel) ?_
        obtain ⟨b51, e52, h⟩ := h
        rw [e52]
        obtain ⟨k53, h⟩ := h
        obtain ⟨v54, h⟩ := h
        refine at_zast 126 rfl (by decide +kernel) k53 v54 (Or.inr rfl) (fun m55 e56 => ?_)
        replace h := h m55 e56
        have k57 : mK m55 t = 3 := by rw [e56]; exact k50
        have k58 : mK m55 b51 = 17 := by rw [e56]; exact k53
        refine at_goto (off := 44) 170 (by decide +kernel) (by decide +kernel) ?_
        exact at_vret rfl (by decide +kernel) h
  rw [if_neg c47] at h
  by_cases c59 : l1 = (17 : Int32)
  · rw [if_pos c59] at h
    have w1 : l1.toInt = 17 := by rw [c59]; decide +kernel
    refine at_tabIn (dflt := 143) (lo := 14) (hi := 17) (offs := #[31, 66, 103, 128]) (len := 31) (off := 128) 129 (by decide +kernel) (by rw [w1]; decide) (by rw [w1]; decide) (by rw [w1]; decide +kernel) (by decide +kernel) ?_
    refine at_aload_n (i := 0) 0 130 rfl (by decide +kernel) rfl ?_
    refine at_aload_n (i := 0) 0 131 rfl (by decide +kernel) rfl ?_
    obtain ⟨k60, h⟩ := h
    refine at_get (index := 22) (v := .long (mL m t 7)) cok2 7 134 rfl (by decide +kernel) k60 (by decide +kernel) tw_177 rfl ?_
    refine at_lload_n (i := 2) 2 135 rfl (by decide +kernel) rfl ?_
    refine at_lmx (index := 81) 138 rfl (by decide +kernel) tw_748 (by simp [va_rf_cat, cat_int, cat_long]) ?_
    refine at_putJ (index := 22) cok2 7 141 rfl (by decide +kernel) k60 (by decide +kernel) tw_177 rfl rfl rfl (fun m61 e62 => ?_)
    replace h := h m61 e62
    have k63 : mK m61 t = 3 := by rw [e62]; exact k60
    refine at_goto (off := 29) 170 (by decide +kernel) (by decide +kernel) ?_
    exact at_vret rfl (by decide +kernel) h
  rw [if_neg c59] at h
  have c2e : l1.toInt ≠ 14 := fun e => c2 (Int32.toInt_inj.mp (e.trans (by decide +kernel)))
  have c21e : l1.toInt ≠ 15 := fun e => c21 (Int32.toInt_inj.mp (e.trans (by decide +kernel)))
  have c47e : l1.toInt ≠ 16 := fun e => c47 (Int32.toInt_inj.mp (e.trans (by decide +kernel)))
  have c59e : l1.toInt ≠ 17 := fun e => c59 (Int32.toInt_inj.mp (e.trans (by decide +kernel)))
  refine at_tabOut (dflt := 143) (lo := 14) (hi := 17) (offs := #[31, 66, 103, 128]) (len := 31) 144 (by decide +kernel) (by omega) (by decide +kernel) ?_
  refine at_aload_n (i := 0) 0 145 rfl (by decide +kernel) rfl ?_
  refine at_aload_n (i := 0) 0 146 rfl (by decide +kernel) rfl ?_
  obtain ⟨k64, h⟩ := h
  refine at_get (index := 44) (v := .int (mI m t 6)) cok2 6 149 rfl (by decide +kernel) k64 (by decide +kernel) tw_175 rfl ?_
  refine at_iconst (n := (-1)) (-1 : Int32) 150 rfl (by decide +kernel) (by decide +kernel) ?_
  refine at_icmp_ne (off := 8) 158 153 rfl (by decide +kernel) (by decide +kernel) (fun c65 => ?_) (fun c65 => ?_)
  · rw [if_neg c65] at h
    refine at_aload_n (i := 0) 0 159 rfl (by decide +kernel) rfl ?_
    refine at_get (index := 44) (v := .int (mI m t 6)) cok2 6 162 rfl (by decide +kernel) k64 (by decide +kernel) tw_175 rfl ?_
    refine at_lload_n (i := 2) 2 163 rfl (by decide +kernel) rfl ?_
    refine at_l2i 164 rfl (by decide +kernel) ?_
    refine at_imn (index := 87) 167 rfl (by decide +kernel) tw_749 (by simp [va_rf_cat, cat_int, cat_long]) ?_
    refine at_putI (index := 44) cok2 6 170 rfl (by decide +kernel) k64 (by decide +kernel) tw_175 rfl rfl rfl (fun m66 e67 => ?_)
    replace h := h m66 e67
    have k68 : mK m66 t = 3 := by rw [e67]; exact k64
    exact at_vret rfl (by decide +kernel) h
  · rw [if_pos c65] at h
    refine at_lload_n (i := 2) 2 154 rfl (by decide +kernel) rfl ?_
    refine at_l2i 155 rfl (by decide +kernel) ?_
    refine at_goto (off := 12) 167 (by decide +kernel) (by decide +kernel) ?_
    refine at_putI (index := 44) cok2 6 170 rfl (by decide +kernel) k64 (by decide +kernel) tw_175 rfl rfl rfl (fun m69 e70 => ?_)
    replace h := h m69 e70
    have k71 : mK m69 t = 3 := by rw [e70]; exact k64
    exact at_vret rfl (by decide +kernel) h
set_option maxRecDepth 20000 in
set_option maxHeartbeats 4000000 in
theorem bk_Judge_run_43 (g : Gc) {lv : Nat} {t : Nat} {l1 : Option Nat} {l3 : Int32} {l4 : Int32} {l5 : Int32} {l6 : Int32} {l7 : Int32} {m : Mm} {Q : Int64 → Mm → Prop} (h : if ((32 : Int32)) ≤ (l4) then (At g M_Judge_run (lv + 1) 6 [(0, va_rf (some t)), (1, va_rf (l1)), (3, .int (l3)), (4, .int (l4)), (5, .int (l5 + (1 : Int32)))] [] m (QJ Q)) else (mK m t = 3 ∧ (if (l7) = 0 then (∃ b4, mR m t 1 = some b4 ∧ (mK m b4 = 16 ∧ (vp_in l4 (mN m b4) ∧ (∀ m8, m8 = sL m b4 l4.toNatClampNeg l6.toInt64 → (At g M_Judge_run (lv + 1) 6 [(0, va_rf (some t)), (1, va_rf (l1)), (3, .int (l3)), (4, .int (l4 + (1 : Int32))), (5, .int (l5 + (1 : Int32)))] [] m8 (QJ Q)))))) else (∃ b12, mR m t 0 = some b12 ∧ (mK m b12 = 16 ∧ (vp_in ((-l6) - (21 : Int32)) (mN m b12) ∧ (∃ b16, mR m t 1 = some b16 ∧ (mK m b16 = 16 ∧ (vp_in l4 (mN m b16) ∧ (∀ m20, m20 = sL m b16 l4.toNatClampNeg (mL m b12 ((-l6) - (21 : Int32)).toNatClampNeg) → (At g M_Judge_run (lv + 1) 6 [(0, va_rf (some t)), (1, va_rf (l1)), (3, .int (l3)), (4, .int (l4 + (1 : Int32))), (5, .int (l5 + (1 : Int32)))] [] m20 (QJ Q)))))))))))) : At g M_Judge_run (lv + 1) 43 [(0, va_rf (some t)), (1, va_rf (l1)), (3, .int (l3)), (4, .int (l4)), (5, .int (l5)), (6, .int (l6)), (7, .int (l7))] [] m (QJ Q) := by
  refine at_iload (i := 4) 3 45 rfl (by decide +kernel) rfl ?_
  refine at_bipush (n := 32) (32 : Int32) 47 rfl (by decide +kernel) (by decide +kernel) ?_
  refine at_icmp_ge (off := 80) 127 50 rfl (by decide +kernel) (by decide +kernel) (fun c1 => ?_) (fun c1 => ?_)
  · rw [if_pos c1] at h
    refine at_iinc (i := 5) (n := 1) (lc' := [(0, va_rf (some t)), (1, va_rf (l1)), (3, .int (l3)), (4, .int (l4)), (5, .int (l5 + (1 : Int32)))]) (l5 + (1 : Int32)) 4 [1, 2, 3, 4, 0] 130 rfl (by decide +kernel) rfl (by rw [show Int32.ofInt 1 = (1 : Int32) from by decide +kernel]) (by decide +kernel) rfl ?_
    refine at_goto (off := (-124)) 6 (by decide +kernel) (by decide +kernel) ?_
    exact h
  · rw [if_neg c1] at h
    refine at_aload_n (i := 0) 0 51 rfl (by decide +kernel) rfl ?_
    obtain ⟨k2, h⟩ := h
    refine at_get (index := 15) (v := va_rf (mR m t 1)) cok2 1 54 rfl (by decide +kernel) k2 (by decide +kernel) tw_169 rfl ?_
    refine at_iload (i := 4) 3 56 rfl (by decide +kernel) rfl ?_
    refine at_iload (i := 7) 6 58 rfl (by decide +kernel) rfl ?_
    refine at_if_eq (off := 17) 75 61 rfl (by decide +kernel) (by decide +kernel) (fun c3 => ?_) (fun c3 => ?_)
    · rw [if_pos c3] at h
      refine at_iload (i := 6) 5 77 rfl (by decide +kernel) rfl ?_
      refine at_i2l 78 rfl (by decide +kernel) ?_
      obtain ⟨b4, e5, h⟩ := h
      rw [e5]
      obtain ⟨k6, h⟩ := h
      obtain ⟨v7, h⟩ := h
      refine at_last 79 rfl (by decide +kernel) k6 v7 (fun m8 e9 => ?_)
      replace h := h m8 e9
      have k10 : mK m8 t = 3 := by rw [e9]; exact k2
      have k11 : mK m8 b4 = 16 := by rw [e9]; exact k6
      refine at_iinc (i := 4) (n := 1) (lc' := [(0, va_rf (some t)), (1, va_rf (l1)), (3, .int (l3)), (4, .int (l4 + (1 : Int32))), (5, .int (l5))]) (l4 + (1 : Int32)) 3 [1, 2, 3, 0, 4] 82 rfl (by decide +kernel) rfl (by rw [show Int32.ofInt 1 = (1 : Int32) from by decide +kernel]) (by decide +kernel) rfl ?_
      refine at_goto (off := 45) 127 (by decide +kernel) (by decide +kernel) ?_
      refine at_iinc (i := 5) (n := 1) (lc' := [(0, va_rf (some t)), (1, va_rf (l1)), (3, .int (l3)), (4, .int (l4 + (1 : Int32))), (5, .int (l5 + (1 : Int32)))]) (l5 + (1 : Int32)) 4 [1, 2, 3, 4, 0] 130 rfl (by decide +kernel) rfl (by rw [show Int32.ofInt 1 = (1 : Int32) from by decide +kernel]) (by decide +kernel) rfl ?_
      refine at_goto (off := (-124)) 6 (by decide +kernel) (by decide +kernel) ?_
      exact h
    · rw [if_neg c3] at h
      refine at_aload_n (i := 0) 0 62 rfl (by decide +kernel) rfl ?_
      refine at_get (index := 9) (v := va_rf (mR m t 0)) cok2 0 65 rfl (by decide +kernel) k2 (by decide +kernel) tw_167 rfl ?_
      refine at_iload (i := 6) 5 67 rfl (by decide +kernel) rfl ?_
      refine at_ineg 68 rfl (by decide +kernel) ?_
      refine at_bipush (n := 21) (21 : Int32) 70 rfl (by decide +kernel) (by decide +kernel) ?_
      refine at_isub 71 rfl (by decide +kernel) ?_
      obtain ⟨b12, e13, h⟩ := h
      rw [e13]
      obtain ⟨k14, h⟩ := h
      obtain ⟨v15, h⟩ := h
      refine at_lald 72 rfl (by decide +kernel) k14 v15 ?_
      refine at_goto (off := 6) 78 (by decide +kernel) (by decide +kernel) ?_
      obtain ⟨b16, e17, h⟩ := h
      rw [e17]
      obtain ⟨k18, h⟩ := h
      obtain ⟨v19, h⟩ := h
      refine at_last 79 rfl (by decide +kernel) k18 v19 (fun m20 e21 => ?_)
      replace h := h m20 e21
      have k22 : mK m20 t = 3 := by rw [e21]; exact k2
      have k23 : mK m20 b12 = 16 := by rw [e21]; exact k14
      have k24 : mK m20 b16 = 16 := by rw [e21]; exact k18
      refine at_iinc (i := 4) (n := 1) (lc' := [(0, va_rf (some t)), (1, va_rf (l1)), (3, .int (l3)), (4, .int (l4 + (1 : Int32))), (5, .int (l5))]) (l4 + (1 : Int32)) 3 [1, 2, 3, 0, 4] 82 rfl (by decide +kernel) rfl (by rw [show Int32.ofInt 1 = (1 : Int32) from by decide +kernel]) (by decide +kernel) rfl ?_
      refine at_goto (off := 45) 127 (by decide +kernel) (by decide +kernel) ?_
      refine at_iinc (i := 5) (n := 1) (lc' := [(0, va_rf (some t)), (1, va_rf (l1)), (3, .int (l3)), (4, .int (l4 + (1 : Int32))), (5, .int (l5 + (1 : Int32)))]) (l5 + (1 : Int32)) 4 [1, 2, 3, 4, 0] 130 rfl (by decide +kernel) rfl (by rw [show Int32.ofInt 1 = (1 : Int32) from by decide +kernel]) (by decide +kernel) rfl ?_
      refine at_goto (off := (-124)) 6 (by decide +kernel) (by decide +kernel) ?_
      exact h
set_option maxRecDepth 20000 in
set_option maxHeartbeats 4000000 in
theorem bk_Judge_run_6 (g : Gc) {lv : Nat} {t : Nat} {l1 : Option Nat} {l3 : Int32} {l4 : Int32} {l5 : Int32} {m : Mm} {Q : Int64 → Mm → Prop} (h : if (l3) ≤ (l5) then (if (l4) ≤ 0 then (Q (0 : Int64) m) else (mK m t = 3 ∧ (∃ b4, mR m t 1 = some b4 ∧ (mK m b4 = 16 ∧ (vp_in (0 : Int32) (mN m b4) ∧ (Q (mL m b4 (0 : Int32).toNatClampNeg) m)))))) else (∃ b8, l1 = some b8 ∧ (mK m b8 = 5 ∧ (∃ b11, mR m b8 4 = some b11 ∧ (mK m b11 = 15 ∧ (vp_in l5 (mN m b11) ∧ (CI g M_SL_isWithin lv [.int (-(mI m b11 l5.toNatClampNeg)), .int ((21 : Int32)), .int ((26 : Int32))] m (fun x15 m16 => (if 0 ≤ (mI m b11 l5.toNatClampNeg) then (At g M_Judge_run (lv + 1) 43 [(0, va_rf (some t)), (1, va_rf (some b8)), (3, .int (l3)), (4, .int (l4)), (5, .int (l5)), (6, .int (mI m b11 l5.toNatClampNeg)), (7, .int (x15))] [] m16 (QJ Q)) else (if (x15) = 0 then (if (l4) < ((2 : Int32)) then (At g M_Judge_run (lv + 1) 6 [(0, va_rf (some t)), (1, va_rf (some b8)), (3, .int (l3)), (4, .int (l4)), (5, .int (l5 + (1 : Int32)))] [] m16 (QJ Q)) else (mK m16 t = 3 ∧ (∃ b24, mR m16 t 1 = some b24 ∧ (mK m16 b24 = 16 ∧ (vp_in (l4 - (2 : Int32)) (mN m16 b24) ∧ (vp_in (l4 - (1 : Int32)) (mN m16 b24) ∧ (CJ g M_Judge_join lv [.int (-(mI m b11 l5.toNatClampNeg)), .long (mL m16 b24 (l4 - (2 : Int32)).toNatClampNeg), .long (mL m16 b24 (l4 - (1 : Int32)).toNatClampNeg)] m16 (fun x29 m30 => (vp_in (l4 - (2 : Int32)) (mN m30 b24) ∧ (∀ m37, m37 = sL m30 b24 (l4 - (2 : Int32)).toNatClampNeg x29 → (At g M_Judge_run (lv + 1) 6 [(0, va_rf (some t)), (1, va_rf (some b8)), (3, .int (l3)), (4, .int (l4 + (-1 : Int32))), (5, .int (l5 + (1 : Int32)))] [] m37 (QJ Q)))))))))))) else (At g M_Judge_run (lv + 1) 43 [(0, va_rf (some t)), (1, va_rf (some b8)), (3, .int (l3)), (4, .int (l4)), (5, .int (l5)), (6, .int (mI m b11 l5.toNatClampNeg)), (7, .int (x15))] [] m16 (QJ Q)))))))))))) : At g M_Judge_run (lv + 1) 6 [(0, va_rf (some t)), (1, va_rf (l1)), (3, .int (l3)), (4, .int (l4)), (5, .int (l5))] [] m (QJ Q) := by
  refine at_iload (i := 5) 4 8 rfl (by decide +kernel) rfl ?_
  refine at_iload_n (i := 3) 2 9 rfl (by decide +kernel) rfl ?_
  refine at_icmp_ge (off := 124) 133 12 rfl (by decide +kernel) (by decide +kernel) (fun c1 => ?_) (fun c1 => ?_)
  · rw [if_pos c1] at h
    refine at_iload (i := 4) 3 135 rfl (by decide +kernel) rfl ?_
    refine at_if_le (off := 12) 147 138 rfl (by decide +kernel) (by decide +kernel) (fun c2 => ?_) (fun c2 => ?_)
    · rw [if_pos c2] at h
      refine at_lconst (n := 0) (0 : Int64) 148 rfl (by decide +kernel) (by decide +kernel) ?_
      exact at_lret rfl (by decide +kernel) h
    · rw [if_neg c2] at h
      refine at_aload_n (i := 0) 0 139 rfl (by decide +kernel) rfl ?_
      obtain ⟨k3, h⟩ := h
      refine at_get (index := 15) (v := va_rf (mR m t 1)) cok2 1 142 rfl (by decide +kernel) k3 (by decide +kernel) tw_169 rfl ?_
      refine at_iconst (n := 0) (0 : Int32) 143 rfl (by decide +kernel) (by decide +kernel) ?_
      obtain ⟨b4, e5, h⟩ := h
      rw [e5]
      obtain ⟨k6, h⟩ := h
      obtain ⟨v7, h⟩ := h
      refine at_lald 144 rfl (by decide +kernel) k6 v7 ?_
      refine at_goto (off := 4) 148 (by decide +kernel) (by decide +kernel) ?_
      exact at_lret rfl (by decide +kernel) h
  · rw [if_neg c1] at h
    refine at_aload_n (i := 1) 1 13 rfl (by decide +kernel) rfl ?_
    obtain ⟨b8, e9, h⟩ := h
    rw [e9]
    obtain ⟨k10, h⟩ := h
    refine at_get (index := 91) (v := va_rf (mR m b8 4)) cok4 4 16 rfl (by decide +kernel) k10 (by decide +kernel) tw_393 rfl ?_
    refine at_iload (i := 5) 4 18 rfl (by decide +kernel) rfl ?_
    obtain ⟨b11, e12, h⟩ := h
    rw [e12]
    obtain ⟨k13, h⟩ := h
    obtain ⟨v14, h⟩ := h
    refine at_iald 19 rfl (by decide +kernel) k13 v14 ?_
    refine at_istore (i := 6) (lc' := [(0, va_rf (some t)), (1, va_rf (some b8)), (3, .int (l3)), (4, .int (l4)), (5, .int (l5)), (6, .int (mI m b11 l5.toNatClampNeg))]) [1, 2, 3, 4, 5, 0] 21 rfl (by decide +kernel) (by decide +kernel) rfl ?_
    refine at_iload (i := 6) 5 23 rfl (by decide +kernel) rfl ?_
    refine at_ineg 24 rfl (by decide +kernel) ?_
    refine at_bipush (n := 21) (21 : Int32) 26 rfl (by decide +kernel) (by decide +kernel) ?_
    refine at_bipush (n := 26) (26 : Int32) 28 rfl (by decide +kernel) (by decide +kernel) ?_
    refine at_callSN mb_SL_isWithin tw_471 (index := 26) (host := "SurplusLand") (by decide +kernel) [.int (-(mI m b11 l5.toNatClampNeg)), .int ((21 : Int32)), .int ((26 : Int32))] [] rfl rfl (by decide) 31 rfl (by decide +kernel) (Call.toI (CI.monoE h (fun x15 m16 h y17 => ?_)))
    have k18 : mK m16 b8 = 5 := y17.k k10 (by decide)
    have k19 : mK m16 b11 = 15 := y17.k k13 (by decide)
    refine at_istore (i := 7) (lc' := [(0, va_rf (some t)), (1, va_rf (some b8)), (3, .int (l3)), (4, .int (l4)), (5, .int (l5)), (6, .int (mI m b11 l5.toNatClampNeg)), (7, .int (x15))]) [1, 2, 3, 4, 5, 6, 0] 33 rfl (by decide +kernel) (by decide +kernel) rfl ?_
    refine at_iload (i := 6) 5 35 rfl (by decide +kernel) rfl ?_
    refine at_if_ge (off := 8) 43 38 rfl (by decide +kernel) (by decide +kernel) (fun c20 => ?_) (fun c20 => ?_)
    · rw [if_pos c20] at h
      exact h
    · rw [if_neg c20] at h
      refine at_iload (i := 7) 6 40 rfl (by decide +kernel) rfl ?_
      refine at_if_eq (off := 45) 85 43 rfl (by decide +kernel) (by decide +kernel) (fun c21 => ?_) (fun c21 => ?_)
      · rw [if_pos c21] at h
        refine at_iload (i := 4) 3 87 rfl (by decide +kernel) rfl ?_
        refine at_iconst (n := 2) (2 : Int32) 88 rfl (by decide +kernel) (by decide +kernel) ?_
        refine at_icmp_lt (off := 39) 127 91 rfl (by decide +kernel) (by decide +kernel) (fun c22 => ?_) (fun c22 => ?_)
        · rw [if_pos c22] at h
          refine at_iinc (i := 5) (n := 1) (lc' := [(0, va_rf (some t)), (1, va_rf (some b8)), (3, .int (l3)), (4, .int (l4)), (5, .int (l5 + (1 : Int32)))]) (l5 + (1 : Int32)) 4 [1, 2, 3, 4, 0] 130 rfl (by decide +kernel) rfl (by rw [show Int32.ofInt 1 = (1 : Int32) from by decide +kernel]) (by decide +kernel) rfl ?_
          refine at_goto (off := (-124)) 6 (by decide +kernel) (by decide +kernel) ?_
          exact h
        · rw [if_neg c22] at h
          refine at_aload_n (i := 0) 0 92 rfl (by decide +kernel) rfl ?_
          obtain ⟨k23, h⟩ := h
          refine at_get (index := 15) (v := va_rf (mR m16 t 1)) cok2 1 95 rfl (by decide +kernel) k23 (by decide +kernel) tw_169 rfl ?_
          refine at_iload (i := 4) 3 97 rfl (by decide +kernel) rfl ?_
          refine at_iconst (n := 2) (2 : Int32) 98 rfl (by decide +kernel) (by decide +kernel) ?_
          refine at_isub 99 rfl (by decide +kernel) ?_
          refine at_iload (i := 6) 5 101 rfl (by decide +kernel) rfl ?_
          refine at_ineg 102 rfl (by decide +kernel) ?_
          refine at_aload_n (i := 0) 0 103 rfl (by decide +kernel) rfl ?_
          refine at_get (index := 15) (v := va_rf (mR m16 t 1)) cok2 1 106 rfl (by decide +kernel) k23 (by decide +kernel) tw_169 rfl ?_
          refine at_iload (i := 4) 3 108 rfl (by decide +kernel) rfl ?_
          refine at_iconst (n := 2) (2 : Int32) 109 rfl (by decide +kernel) (by decide +kernel) ?_
          refine at_isub 110 rfl (by decide +kernel) ?_
          obtain ⟨b24, e25, h⟩ := h
          rw [e25]
          obtain ⟨k26, h⟩ := h
          obtain ⟨v27, h⟩ := h
          refine at_lald 111 rfl (by decide +kernel) k26 v27 ?_
          refine at_aload_n (i := 0) 0 112 rfl (by decide +kernel) rfl ?_
          refine at_get (index := 15) (v := va_rf (mR m16 t 1)) cok2 1 115 rfl (by decide +kernel) k23 (by decide +kernel) tw_169 rfl ?_
          rw [e25]
          refine at_iload (i := 4) 3 117 rfl (by decide +kernel) rfl ?_
          refine at_iconst (n := 1) (1 : Int32) 118 rfl (by decide +kernel) (by decide +kernel) ?_
          refine at_isub 119 rfl (by decide +kernel) ?_
          obtain ⟨v28, h⟩ := h
          refine at_lald 120 rfl (by decide +kernel) k26 v28 ?_
          refine at_callS mb_Judge_join tw_733 (index := 94) tw_732 [.int (-(mI m b11 l5.toNatClampNeg)), .long (mL m16 b24 (l4 - (2 : Int32)).toNatClampNeg), .long (mL m16 b24 (l4 - (1 : Int32)).toNatClampNeg)] [.int (l4 - (2 : Int32)), va_rf (some b24)] rfl rfl (by simp [va_rf_cat, cat_int, cat_long]) 123 rfl (by decide +kernel) (Call.toJ (CJ.monoE h (fun x29 m30 h y31 => ?_)))
          have k32 : mK m30 b8 = 5 := y31.k k18 (by decide)
          have k33 : mK m30 b11 = 15 := y31.k k19 (by decide)
          have k34 : mK m30 t = 3 := y31.k k23 (by decide)
          have k35 : mK m30 b24 = 16 := y31.k k26 (by decide)
          obtain ⟨v36, h⟩ := h
          refine at_last 124 rfl (by decide +kernel) k35 v36 (fun m37 e38 => ?_)
          replace h := h m37 e38
          have k39 : mK m37 b8 = 5 := by rw [e38]; exact k32
          have k40 : mK m37 b11 = 15 := by rw [e38]; exact k33
          have k41 : mK m37 t = 3 := by rw [e38]; exact k34
          have k42 : mK m37 b24 = 16 := by rw [e38]; exact k35
          refine at_iinc (i := 4) (n := (-1)) (lc' := [(0, va_rf (some t)), (1, va_rf (some b8)), (3, .int (l3)), (4, .int (l4 + (-1 : Int32))), (5, .int (l5))]) (l4 + (-1 : Int32)) 3 [1, 2, 3, 0, 4] 127 rfl (by decide +kernel) rfl (by rw [show Int32.ofInt (-1) = (-1 : Int32) from by decide +kernel]) (by decide +kernel) rfl ?_
          refine at_iinc (i := 5) (n := 1) (lc' := [(0, va_rf (some t)), (1, va_rf (some b8)), (3, .int (l3)), (4, .int (l4 + (-1 : Int32))), (5, .int (l5 + (1 : Int32)))]) (l5 + (1 : Int32)) 4 [1, 2, 3, 4, 0] 130 rfl (by decide +kernel) rfl (by rw [show Int32.ofInt 1 = (1 : Int32) from by decide +kernel]) (by decide +kernel) rfl ?_
          refine at_goto (off := (-124)) 6 (by decide +kernel) (by decide +kernel) ?_
          exact h
      · rw [if_neg c21] at h
        exact h
set_option maxRecDepth 20000 in
set_option maxHeartbeats 4000000 in
theorem en_Judge_run (g : Gc) {lv : Nat} {t : Nat} {l1 : Option Nat} {l2 : Int32} {l3 : Int32} {m : Mm} {Q : Int64 → Mm → Prop} (h : At g M_Judge_run (lv + 1) 6 [(0, va_rf (some t)), (1, va_rf (l1)), (3, .int (l3)), (4, .int ((0 : Int32))), (5, .int (l2))] [] m (QJ Q)) : CJ g M_Judge_run (lv + 1) [va_rf (some t), va_rf (l1), .int (l2), .int (l3)] m Q := by
  refine Call.of (by decide +kernel) (by simp [lg_sl, va_rf_cat, cat_int, cat_long, M_Judge_run]) ?_
  rw [show lv_args 0 [va_rf (some t), va_rf (l1), .int (l2), .int (l3)] = [(0, va_rf (some t)), (1, va_rf (l1)), (2, .int (l2)), (3, .int (l3))] from by simp [lv_args, va_rf_cat, cat_int, cat_long]]
  refine at_iconst (n := 0) (0 : Int32) 1 rfl (by decide +kernel) (by decide +kernel) ?_
  refine at_istore (i := 4) (lc' := [(0, va_rf (some t)), (1, va_rf (l1)), (2, .int (l2)), (3, .int (l3)), (4, .int ((0 : Int32)))]) [1, 2, 3, 4, 0] 3 rfl (by decide +kernel) (by decide +kernel) rfl ?_
  refine at_iload_n (i := 2) 2 4 rfl (by decide +kernel) rfl ?_
  refine at_istore (i := 5) (lc' := [(0, va_rf (some t)), (1, va_rf (l1)), (3, .int (l3)), (4, .int ((0 : Int32))), (5, .int (l2))]) [1, 2, 4, 5, 0] 6 rfl (by decide +kernel) (by decide +kernel) rfl ?_
  exact h
set_option maxRecDepth 20000 in
set_option maxHeartbeats 4000000 in
theorem en_Judge_join (g : Gc) {lv : Nat} {l0 : Int32} {l1 : Int64} {l3 : Int64} {m : Mm} {Q : Int64 → Mm → Prop} (h : if l0 = (4 : Int32) then (Q (l1 + l3) m) else (if l0 = (5 : Int32) then (Q (l1 - l3) m) else (if l0 = (6 : Int32) then (Q (l1 * l3) m) else (if l0 = (7 : Int32) then (if (l3) = ((0 : Int64)) then (Q (0 : Int64) m) else (¬ l3 = 0 ∧ (Q (l1 / l3) m))) else (if l0 = (8 : Int32) then (Q (l1 &&& l3) m) else (if l0 = (9 : Int32) then (Q (l1 &&& l3) m) else (if l0 = (10 : Int32) then (if (l3) ≤ (l1) then (Q (0 : Int64) m) else (Q (1 : Int64) m)) else (if l0 = (11 : Int32) then (if (l1) ≤ (l3) then (Q (0 : Int64) m) else (Q (1 : Int64) m)) else (if l0 = (12 : Int32) then (if (l1) = (l3) then (Q (1 : Int64) m) else (Q (0 : Int64) m)) else (Q (l1 &&& l3) m)))))))))) : CJ g M_Judge_join (lv + 1) [.int (l0), .long (l1), .long (l3)] m Q := by
  refine Call.of (by decide +kernel) (Nat.le_of_ble_eq_true rfl) ?_
  show At g M_Judge_join (lv + 1) 0 [(0, .int (l0)), (1, .long (l1)), (3, .long (l3))] [] m (QJ Q)
  refine at_iload_n (i := 0) 0 1 rfl (by decide +kernel) rfl ?_
  by_cases c2 : l0 = (4 : Int32)
  · rw [if_pos c2] at h
    have w1 : l0.toInt = 4 := by rw [c2]; decide +kernel
    refine at_tabIn (dflt := 113) (lo := 4) (hi := 12) (offs := #[51, 55, 59, 63, 113, 113, 77, 89, 101]) (len := 51) (off := 51) 52 (by decide +kernel) (by rw [w1]; decide) (by rw [w1]; decide) (by rw [w1]; decide +kernel) (by decide +kernel) ?_
    refine at_lload_n (i := 1) 1 53 rfl (by decide +kernel) rfl ?_
    refine at_lload_n (i := 3) 2 54 rfl (by decide +kernel) rfl ?_
    refine at_ladd 55 rfl (by decide +kernel) ?_
    exact at_lret rfl (by decide +kernel) h
  rw [if_neg c2] at h
  by_cases c3 : l0 = (5 : Int32)
  · rw [if_pos c3] at h
    have w1 : l0.toInt = 5 := by rw [c3]; decide +kernel
    refine at_tabIn (dflt := 113) (lo := 4) (hi := 12) (offs := #[51, 55, 59, 63, 113, 113, 77, 89, 101]) (len := 51) (off := 55) 56 (by decide +kernel) (by rw [w1]; decide) (by rw [w1]; decide) (by rw [w1]; decide +kernel) (by decide +kernel) ?_
    refine at_lload_n (i := 1) 1 57 rfl (by decide +kernel) rfl ?_
    refine at_lload_n (i := 3) 2 58 rfl (by decide +kernel) rfl ?_
    refine at_lsub 59 rfl (by decide +kernel) ?_
    exact at_lret rfl (by decide +kernel) h
  rw [if_neg c3] at h
  by_cases c4 : l0 = (6 : Int32)
  · rw [if_pos c4] at h
    have w1 : l0.toInt = 6 := by rw [c4]; decide +kernel
    refine at_tabIn (dflt := 113) (lo := 4) (hi := 12) (offs := #[51, 55, 59, 63, 113, 113, 77, 89, 101]) (len := 51) (off := 59) 60 (by decide +kernel) (by rw [w1]; decide) (by rw [w1]; decide) (by rw [w1]; decide +kernel) (by decide +kernel) ?_
    refine at_lload_n (i := 1) 1 61 rfl (by decide +kernel) rfl ?_
    refine at_lload_n (i := 3) 2 62 rfl (by decide +kernel) rfl ?_
    refine at_lmul 63 rfl (by decide +kernel) ?_
    exact at_lret rfl (by decide +kernel) h
  rw [if_neg c4] at h
  by_cases c5 : l0 = (7 : Int32)
  · rw [if_pos c5] at h
    have w1 : l0.toInt = 7 := by rw [c5]; decide +kernel
    refine at_tabIn (dflt := 113) (lo := 4) (hi := 12) (offs := #[51, 55, 59, 63, 113, 113, 77, 89, 101]) (len := 51) (off := 63) 64 (by decide +kernel) (by rw [w1]; decide) (by rw [w1]; decide) (by rw [w1]; decide +kernel) (by decide +kernel) ?_
    refine at_lload_n (i := 3) 2 65 rfl (by decide +kernel) rfl ?_
    refine at_lconst (n := 0) (0 : Int64) 66 rfl (by decide +kernel) (by decide +kernel) ?_
    refine at_lif_ne (off := 7) 67 74 70 rfl rfl (by decide +kernel) (by decide +kernel) (by decide +kernel) (fun c6 => ?_) (fun c6 => ?_)
    · rw [if_neg c6] at h
      refine at_lload_n (i := 1) 1 75 rfl (by decide +kernel) rfl ?_
      refine at_lload_n (i := 3) 2 76 rfl (by decide +kernel) rfl ?_
      obtain ⟨c7, h⟩ := h
      refine at_ldiv 77 rfl (by decide +kernel) c7 ?_
      exact at_lret rfl (by decide +kernel) h
    · rw [if_pos c6] at h
      refine at_lconst (n := 0) (0 : Int64) 71 rfl (by decide +kernel) (by decide +kernel) ?_
      refine at_goto (off := 6) 77 (by decide +kernel) (by decide +kernel) ?_
      exact at_lret rfl (by decide +kernel) h
  rw [if_neg c5] at h
  by_cases c8 : l0 = (8 : Int32)
  · rw [if_pos c8] at h
    have w1 : l0.toInt = 8 := by rw [c8]; decide +kernel
    refine at_tabIn (dflt := 113) (lo := 4) (hi := 12) (offs := #[51, 55, 59, 63, 113, 113, 77, 89, 101]) (len := 51) (off := 113) 114 (by decide +kernel) (by rw [w1]; decide) (by rw [w1]; decide) (by rw [w1]; decide +kernel) (by decide +kernel) ?_
    refine at_lload_n (i := 1) 1 115 rfl (by decide +kernel) rfl ?_
    refine at_lload_n (i := 3) 2 116 rfl (by decide +kernel) rfl ?_
    refine at_land 117 rfl (by decide +kernel) ?_
    exact at_lret rfl (by decide +kernel) h
  rw [if_neg c8] at h
  by_cases c9 : l0 = (9 : Int32)
  · rw [if_pos c9] at h
    have w1 : l0.toInt = 9 := by rw [c9]; decide +kernel
    refine at_tabIn (dflt := 113) (lo := 4) (hi := 12) (offs := #[51, 55, 59, 63, 113, 113, 77, 89, 101]) (len := 51) (off := 113) 114 (by decide +kernel) (by rw [w1]; decide) (by rw [w1]; decide) (by rw [w1]; decide +kernel) (by decide +kernel) ?_
    refine at_lload_n (i := 1) 1 115 rfl (by decide +kernel) rfl ?_
    refine at_lload_n (i := 3) 2 116 rfl (by decide +kernel) rfl ?_
    refine at_land 117 rfl (by decide +kernel) ?_
    exact at_lret rfl (by decide +kernel) h
  rw [if_neg c9] at h
  by_cases c10 : l0 = (10 : Int32)
  · rw [if_pos c10] at h
    have w1 : l0.toInt = 10 := by rw [c10]; decide +kernel
    refine at_tabIn (dflt := 113) (lo := 4) (hi := 12) (offs := #[51, 55, 59, 63, 113, 113, 77, 89, 101]) (len := 51) (off := 77) 78 (by decide +kernel) (by rw [w1]; decide) (by rw [w1]; decide) (by rw [w1]; decide +kernel) (by decide +kernel) ?_
    refine at_lload_n (i := 1) 1 79 rfl (by decide +kernel) rfl ?_
    refine at_lload_n (i := 3) 2 80 rfl (by decide +kernel) rfl ?_
    refine at_lif_ge (off := 7) 81 88 84 rfl rfl (by decide +kernel) (by decide +kernel) (by decide +kernel) (fun c11 => ?_) (fun c11 => ?_)
    · rw [if_pos c11] at h
      refine at_lconst (n := 0) (0 : Int64) 89 rfl (by decide +kernel) (by decide +kernel) ?_
      exact at_lret rfl (by decide +kernel) h
    · rw [if_neg c11] at h
      refine at_lconst (n := 1) (1 : Int64) 85 rfl (by decide +kernel) (by decide +kernel) ?_
      refine at_goto (off := 4) 89 (by decide +kernel) (by decide +kernel) ?_
      exact at_lret rfl (by decide +kernel) h
  rw [if_neg c10] at h
  by_cases c12 : l0 = (11 : Int32)
  · rw [if_pos c12] at h
    have w1 : l0.toInt = 11 := by rw [c12]; decide +kernel
    refine at_tabIn (dflt := 113) (lo := 4) (hi := 12) (offs := #[51, 55, 59, 63, 113, 113, 77, 89, 101]) (len := 51) (off := 89) 90 (by decide +kernel) (by rw [w1]; decide) (by rw [w1]; decide) (by rw [w1]; decide +kernel) (by decide +kernel) ?_
    refine at_lload_n (i := 1) 1 91 rfl (by decide +kernel) rfl ?_
    refine at_lload_n (i := 3) 2 92 rfl (by decide +kernel) rfl ?_
    refine at_lif_le (off := 7) 93 100 96 rfl rfl (by decide +kernel) (by decide +kernel) (by decide +kernel) (fun c13 => ?_) (fun c13 => ?_)
    · rw [if_pos c13] at h
      refine at_lconst (n := 0) (0 : Int64) 101 rfl (by decide +kernel) (by decide +kernel) ?_
      exact at_lret rfl (by decide +kernel) h
    · rw [if_neg c13] at h
      refine at_lconst (n := 1) (1 : Int64) 97 rfl (by decide +kernel) (by decide +kernel) ?_
      refine at_goto (off := 4) 101 (by decide +kernel) (by decide +kernel) ?_
      exact at_lret rfl (by decide +kernel) h
  rw [if_neg c12] at h
  by_cases c14 : l0 = (12 : Int32)
  · rw [if_pos c14] at h
    have w1 : l0.toInt = 12 := by rw [c14]; decide +kernel
    refine at_tabIn (dflt := 113) (lo := 4) (hi := 12) (offs := #[51, 55, 59, 63, 113, 113, 77, 89, 101]) (len := 51) (off := 101) 102 (by decide +kernel) (by rw [w1]; decide) (by rw [w1]; decide) (by rw [w1]; decide +kernel) (by decide +kernel) ?_
    refine at_lload_n (i := 1) 1 103 rfl (by decide +kernel) rfl ?_
    refine at_lload_n (i := 3) 2 104 rfl (by decide +kernel) rfl ?_
    refine at_lif_ne (off := 7) 105 112 108 rfl rfl (by decide +kernel) (by decide +kernel) (by decide +kernel) (fun c15 => ?_) (fun c15 => ?_)
    · rw [if_neg c15] at h
      refine at_lconst (n := 0) (0 : Int64) 113 rfl (by decide +kernel) (by decide +kernel) ?_
      exact at_lret rfl (by decide +kernel) h
    · rw [if_pos c15] at h
      refine at_lconst (n := 1) (1 : Int64) 109 rfl (by decide +kernel) (by decide +kernel) ?_
      refine at_goto (off := 4) 113 (by decide +kernel) (by decide +kernel) ?_
      exact at_lret rfl (by decide +kernel) h
  rw [if_neg c14] at h
  have c2e : l0.toInt ≠ 4 := fun e => c2 (Int32.toInt_inj.mp (e.trans (by decide +kernel)))
  have c3e : l0.toInt ≠ 5 := fun e => c3 (Int32.toInt_inj.mp (e.trans (by decide +kernel)))
  have c4e : l0.toInt ≠ 6 := fun e => c4 (Int32.toInt_inj.mp (e.trans (by decide +kernel)))
  have c5e : l0.toInt ≠ 7 := fun e => c5 (Int32.toInt_inj.mp (e.trans (by decide +kernel)))
  have c8e : l0.toInt ≠ 8 := fun e => c8 (Int32.toInt_inj.mp (e.trans (by decide +kernel)))
  have c9e : l0.toInt ≠ 9 := fun e => c9 (Int32.toInt_inj.mp (e.trans (by decide +kernel)))
  have c10e : l0.toInt ≠ 10 := fun e => c10 (Int32.toInt_inj.mp (e.trans (by decide +kernel)))
  have c12e : l0.toInt ≠ 11 := fun e => c12 (Int32.toInt_inj.mp (e.trans (by decide +kernel)))
  have c14e : l0.toInt ≠ 12 := fun e => c14 (Int32.toInt_inj.mp (e.trans (by decide +kernel)))
  refine at_tabOut (dflt := 113) (lo := 4) (hi := 12) (offs := #[51, 55, 59, 63, 113, 113, 77, 89, 101]) (len := 51) 114 (by decide +kernel) (by omega) (by decide +kernel) ?_
  refine at_lload_n (i := 1) 1 115 rfl (by decide +kernel) rfl ?_
  refine at_lload_n (i := 3) 2 116 rfl (by decide +kernel) rfl ?_
  refine at_land 117 rfl (by decide +kernel) ?_
  exact at_lret rfl (by decide +kernel) h
set_option maxRecDepth 20000 in
set_option maxHeartbeats 4000000 in
theorem bk_Land_init_107 (g : Gc) {lv : Nat} {t : Nat} {l2 : Int32} {m : Mm} {Q : Mm → Prop} (h : if ((3 : Int32)) ≤ (l2) then (Q m) else (mK m t = 4 ∧ (mK m (gz g + mC m) = 0 ∧ (∀ q4 m5, q4 = gz g + mC m → m5 = nw m q4 1 0 3 → (CV g M_Bank_init lv [va_rf (some q4)] m5 (fun m11 => (∃ b15, mR m t 2 = some b15 ∧ (mK m11 b15 = 18 ∧ (vp_in l2 (mN m11 b15) ∧ (∀ m19, m19 = sR m11 b15 l2.toNatClampNeg (some q4) → (At g M_Land_init (lv + 1) 107 [(0, va_rf (some t)), (2, .int (l2 + (1 : Int32)))] [] m19 (QV Q)))))))))))) : At g M_Land_init (lv + 1) 107 [(0, va_rf (some t)), (2, .int (l2))] [] m (QV Q) := by
  refine at_iload_n (i := 2) 1 108 rfl (by decide +kernel) rfl ?_
  refine at_iconst (n := 3) (3 : Int32) 109 rfl (by decide +kernel) (by decide +kernel) ?_
  refine at_icmp_ge (off := 22) 131 112 rfl (by decide +kernel) (by decide +kernel) (fun c1 => ?_) (fun c1 => ?_)
  · rw [if_pos c1] at h
    exact at_vret rfl (by decide +kernel) h
  · rw [if_neg c1] at h
    refine at_aload_n (i := 0) 0 113 rfl (by decide +kernel) rfl ?_
    obtain ⟨k2, h⟩ := h
    refine at_get (index := 19) (v := va_rf (mR m t 2)) cok3 2 116 rfl (by decide +kernel) k2 (by decide +kernel) tw_288 rfl ?_
    refine at_iload_n (i := 2) 1 117 rfl (by decide +kernel) rfl ?_
    obtain ⟨z3, h⟩ := h
    refine at_new (index := 17) cok0 120 rfl z3 (by decide +kernel) tw_141 tw_266 tw_71 (fun q4 m5 e6 e7 => ?_)
    replace h := h q4 m5 e6 e7
    have x8 : Ext m m5 := by rw [e7, e6]; exact Ext.nw z3 _ _ _
    have k9 : mK m5 t = 4 := x8.k k2 (by decide)
    have k10 : mK m5 q4 = 1 := by rw [e7]; exact if_pos rfl
    refine at_dup 121 rfl (by decide +kernel) (va_rf_cat _) ?_
    refine at_callIN mb_Bank_init tw_268 rfl rfl (index := 57) (host := "SurplusLand") (by decide +kernel) [] [va_rf (some q4), .int (l2), va_rf (mR m t 2)] rfl rfl (by simp [va_rf_cat, cat_int, cat_long]) 124 rfl (by decide +kernel) (Call.toV (CV.monoE h (fun m11 h y12 => ?_)))
    have k13 : mK m11 t = 4 := y12.k k9 (by decide)
    have k14 : mK m11 q4 = 1 := y12.k k10 (by decide)
    obtain ⟨b15, e16, h⟩ := h
    rw [e16]
    obtain ⟨k17, h⟩ := h
    obtain ⟨v18, h⟩ := h
    refine at_aastBank 125 rfl (by decide +kernel) k17 v18 k14 (fun m19 e20 => ?_)
    replace h := h m19 e20
    have k21 : mK m19 t = 4 := by rw [e20]; exact k13
    have k22 : mK m19 q4 = 1 := by rw [e20]; exact k14
    have k23 : mK m19 b15 = 18 := by rw [e20]; exact k17
    refine at_iinc (i := 2) (n := 1) (lc' := [(0, va_rf (some t)), (2, .int (l2 + (1 : Int32)))]) (l2 + (1 : Int32)) 1 [1, 0] 128 rfl (by decide +kernel) rfl (by rw [show Int32.ofInt 1 = (1 : Int32) from by decide +kernel]) (by decide +kernel) rfl ?_
    refine at_goto (off := (-21)) 107 (by decide +kernel) (by decide +kernel) ?_
    exact h
set_option maxRecDepth 20000 in
set_option maxHeartbeats 4000000 in
theorem bk_Land_init_80 (g : Gc) {lv : Nat} {t : Nat} {l2 : Int32} {m : Mm} {Q : Mm → Prop} (h : if ((12 : Int32)) ≤ (l2) then (At g M_Land_init (lv + 1) 107 [(0, va_rf (some t)), (2, .int ((0 : Int32)))] [] m (QV Q)) else (mK m t = 4 ∧ (mK m (gz g + mC m) = 0 ∧ (∀ q4 m5, q4 = gz g + mC m → m5 = nw m q4 2 0 13 → (CV g M_Grower_init lv [va_rf (some q4)] m5 (fun m11 => (∃ b15, mR m t 1 = some b15 ∧ (mK m11 b15 = 19 ∧ (vp_in l2 (mN m11 b15) ∧ (∀ m19, m19 = sR m11 b15 l2.toNatClampNeg (some q4) → (At g M_Land_init (lv + 1) 80 [(0, va_rf (some t)), (2, .int (l2 + (1 : Int32)))] [] m19 (QV Q)))))))))))) : At g M_Land_init (lv + 1) 80 [(0, va_rf (some t)), (2, .int (l2))] [] m (QV Q) := by
  refine at_iload_n (i := 2) 1 81 rfl (by decide +kernel) rfl ?_
  refine at_bipush (n := 12) (12 : Int32) 83 rfl (by decide +kernel) (by decide +kernel) ?_
  refine at_icmp_ge (off := 22) 105 86 rfl (by decide +kernel) (by decide +kernel) (fun c1 => ?_) (fun c1 => ?_)
  · rw [if_pos c1] at h
    refine at_iconst (n := 0) (0 : Int32) 106 rfl (by decide +kernel) (by decide +kernel) ?_
    refine at_istore_n (i := 2) (lc' := [(0, va_rf (some t)), (2, .int ((0 : Int32)))]) [1, 0] 107 rfl (by decide +kernel) (by decide +kernel) rfl ?_
    exact h
  · rw [if_neg c1] at h
    refine at_aload_n (i := 0) 0 87 rfl (by decide +kernel) rfl ?_
    obtain ⟨k2, h⟩ := h
    refine at_get (index := 11) (v := va_rf (mR m t 1)) cok3 1 90 rfl (by decide +kernel) k2 (by decide +kernel) tw_286 rfl ?_
    refine at_iload_n (i := 2) 1 91 rfl (by decide +kernel) rfl ?_
    obtain ⟨z3, h⟩ := h
    refine at_new (index := 9) cok1 94 rfl z3 (by decide +kernel) tw_139 tw_201 tw_70 (fun q4 m5 e6 e7 => ?_)
    replace h := h q4 m5 e6 e7
    have x8 : Ext m m5 := by rw [e7, e6]; exact Ext.nw z3 _ _ _
    have k9 : mK m5 t = 4 := x8.k k2 (by decide)
    have k10 : mK m5 q4 = 2 := by rw [e7]; exact if_pos rfl
    refine at_dup 95 rfl (by decide +kernel) (va_rf_cat _) ?_
    refine at_callIN mb_Grower_init tw_203 rfl rfl (index := 56) (host := "SurplusLand") (by decide +kernel) [] [va_rf (some q4), .int (l2), va_rf (mR m t 1)] rfl rfl (by simp [va_rf_cat, cat_int, cat_long]) 98 rfl (by decide +kernel) (Call.toV (CV.monoE h (fun m11 h y12 => ?_)))
    have k13 : mK m11 t = 4 := y12.k k9 (by decide)
    have k14 : mK m11 q4 = 2 := y12.k k10 (by decide)
    obtain ⟨b15, e16, h⟩ := h
    rw [e16]
    obtain ⟨k17, h⟩ := h
    obtain ⟨v18, h⟩ := h
    refine at_aastGrower 99 rfl (by decide +kernel) k17 v18 k14 (fun m19 e20 => ?_)
    replace h := h m19 e20
    have k21 : mK m19 t = 4 := by rw [e20]; exact k13
    have k22 : mK m19 q4 = 2 := by rw [e20]; exact k14
    have k23 : mK m19 b15 = 19 := by rw [e20]; exact k17
    refine at_iinc (i := 2) (n := 1) (lc' := [(0, va_rf (some t)), (2, .int (l2 + (1 : Int32)))]) (l2 + (1 : Int32)) 1 [1, 0] 102 rfl (by decide +kernel) rfl (by rw [show Int32.ofInt 1 = (1 : Int32) from by decide +kernel]) (by decide +kernel) rfl ?_
    refine at_goto (off := (-22)) 80 (by decide +kernel) (by decide +kernel) ?_
    exact h
set_option maxRecDepth 20000 in
set_option maxHeartbeats 4000000 in
theorem en_Land_init (g : Gc) {lv : Nat} {t : Nat} {l1 : Option Nat} {m : Mm} {Q : Mm → Prop} (h : mK m (gz g + mC m) = 0 ∧ (∀ q2 m3, q2 = gz g + mC m → m3 = nw m q2 19 ((12 : Int32).toNatClampNeg) ((12 : Int32).toNatClampNeg) → (mK m3 t = 4 ∧ (∀ m9, m9 = sR m3 t 1 (some q2) → (mK m9 (gz g + mC m9) = 0 ∧ (∀ q14 m15, q14 = gz g + mC m9 → m15 = nw m9 q14 18 ((3 : Int32).toNatClampNeg) ((3 : Int32).toNatClampNeg) → (∀ m22, m22 = sR m15 t 2 (some q14) → (mK m22 (gz g + mC m22) = 0 ∧ (∀ q28 m29, q28 = gz g + mC m22 → m29 = nw m22 q28 9 0 2 → (CV g M_Store_init lv [va_rf (some q28)] m29 (fun m37 => (∀ m43, m43 = sR m37 t 3 (some q28) → (mK m43 (gz g + mC m43) = 0 ∧ (∀ q50 m51, q50 = gz g + mC m43 → m51 = nw m43 q50 3 0 9 → (CV g M_Judge_init lv [va_rf (some q50)] m51 (fun m60 => (∀ m67, m67 = sR m60 t 4 (some q50) → (mK m67 (gz g + mC m67) = 0 ∧ (∀ q75 m76, q75 = gz g + mC m67 → m76 = nw m67 q75 15 ((30 : Int32).toNatClampNeg) ((30 : Int32).toNatClampNeg) → (∀ m86, m86 = sR m76 t 5 (some q75) → (mK m86 (gz g + mC m86) = 0 ∧ (∀ q95 m96, q95 = gz g + mC m86 → m96 = nw m86 q95 15 ((30 : Int32).toNatClampNeg) ((30 : Int32).toNatClampNeg) → (∀ m107, m107 = sR m96 t 6 (some q95) → (mK m107 (gz g + mC m107) = 0 ∧ (∀ q117 m118, q117 = gz g + mC m107 → m118 = nw m107 q117 16 ((8 : Int32).toNatClampNeg) ((8 : Int32).toNatClampNeg) → (∀ m130, m130 = sR m118 t 7 (some q117) → (∀ m140, m140 = sI m130 t 10 (100 : Int32) → (∀ m150, m150 = sR m140 t 0 l1 → (At g M_Land_init (lv + 1) 80 [(0, va_rf (some t)), (2, .int ((0 : Int32)))] [] m150 (QV Q)))))))))))))))))))))))))))))) : CV g M_Land_init (lv + 1) [va_rf (some t), va_rf (l1)] m Q := by
  refine Call.of (by decide +kernel) (by simp [lg_sl, va_rf_cat, cat_int, cat_long, M_Land_init]) ?_
  rw [show lv_args 0 [va_rf (some t), va_rf (l1)] = [(0, va_rf (some t)), (1, va_rf (l1))] from by simp [lv_args, va_rf_cat, cat_int, cat_long]]
  refine at_aload_n (i := 0) 0 1 rfl (by decide +kernel) rfl ?_
  refine at_objInit 4 rfl (by decide +kernel) tw_138 tw_91 tw_92 (by decide) ?_
  refine at_aload_n (i := 0) 0 5 rfl (by decide +kernel) rfl ?_
  refine at_bipush (n := 12) (12 : Int32) 7 rfl (by decide +kernel) (by decide +kernel) ?_
  obtain ⟨z1, h⟩ := h
  refine at_anewGrower (index := 9) 10 rfl z1 (by decide +kernel) tw_139 (by decide +kernel) (by decide +kernel) (fun q2 m3 e4 e5 => ?_)
  replace h := h q2 m3 e4 e5
  have x6 : Ext m m3 := by rw [e5, e4]; exact Ext.nw z1 _ _ _
  have k7 : mK m3 q2 = 19 := by rw [e5]; exact if_pos rfl
  obtain ⟨k8, h⟩ := h
  refine at_putRF (index := 11) cok3 1 13 rfl (by decide +kernel) k8 (by decide +kernel) tw_286 rfl rfl rfl rfl (Or.inr ⟨_, rfl⟩) (fun m9 e10 => ?_)
  replace h := h m9 e10
  have k11 : mK m9 q2 = 19 := by rw [e10]; exact k7
  have k12 : mK m9 t = 4 := by rw [e10]; exact k8
  refine at_aload_n (i := 0) 0 14 rfl (by decide +kernel) rfl ?_
  refine at_iconst (n := 3) (3 : Int32) 15 rfl (by decide +kernel) (by decide +kernel) ?_
  obtain ⟨z13, h⟩ := h
  refine at_anewBank (index := 17) 18 rfl z13 (by decide +kernel) tw_141 (by decide +kernel) (by decide +kernel) (fun q14 m15 e16 e17 => ?_)
  replace h := h q14 m15 e16 e17
  have x18 : Ext m9 m15 := by rw [e17, e16]; exact Ext.nw z13 _ _ _
  have k19 : mK m15 q2 = 19 := x18.k k11 (by decide)
  have k20 : mK m15 t = 4 := x18.k k12 (by decide)
  have k21 : mK m15 q14 = 18 := by rw [e17]; exact if_pos rfl
  refine at_putRF (index := 19) cok3 2 21 rfl (by decide +kernel) k20 (by decide +kernel) tw_288 rfl rfl rfl rfl (Or.inr ⟨_, rfl⟩) (fun m22 e23 => ?_)
  replace h := h m22 e23
  have k24 : mK m22 q2 = 19 := by rw [e23]; exact k19
  have k25 : mK m22 t = 4 := by rw [e23]; exact k20
  have k26 : mK m22 q14 = 18 := by rw [e23]; exact k21
  refine at_aload_n (i := 0) 0 22 rfl (by decide +kernel) rfl ?_
  obtain ⟨z27, h⟩ := h
  refine at_new (index := 23) cok8 25 rfl z27 (by decide +kernel) tw_143 tw_144 tw_68 (fun q28 m29 e30 e31 => ?_)
  replace h := h q28 m29 e30 e31
  have x32 : Ext m22 m29 := by rw [e31, e30]; exact Ext.nw z27 _ _ _
  have k33 : mK m29 q2 = 19 := x32.k k24 (by decide)
  have k34 : mK m29 t = 4 := x32.k k25 (by decide)
  have k35 : mK m29 q14 = 18 := x32.k k26 (by decide)
  have k36 : mK m29 q28 = 9 := by rw [e31]; exact if_pos rfl
  refine at_dup 26 rfl (by decide +kernel) (va_rf_cat _) ?_
  refine at_callIN mb_Store_init tw_146 rfl rfl (index := 25) (host := "SurplusLand") (by decide +kernel) [] [va_rf (some q28), va_rf (some t)] rfl rfl (by simp [va_rf_cat, cat_int, cat_long]) 29 rfl (by decide +kernel) (Call.toV (CV.monoE h (fun m37 h y38 => ?_)))
  have k39 : mK m37 q2 = 19 := y38.k k33 (by decide)
  have k40 : mK m37 t = 4 := y38.k k34 (by decide)
  have k41 : mK m37 q14 = 18 := y38.k k35 (by decide)
  have k42 : mK m37 q28 = 9 := y38.k k36 (by decide)
  refine at_putRF (index := 26) cok3 3 32 rfl (by decide +kernel) k40 (by decide +kernel) tw_290 rfl rfl rfl rfl (Or.inl ⟨_, rfl⟩) (fun m43 e44 => ?_)
  replace h := h m43 e44
  have k45 : mK m43 q2 = 19 := by rw [e44]; exact k39
  have k46 : mK m43 t = 4 := by rw [e44]; exact k40
  have k47 : mK m43 q14 = 18 := by rw [e44]; exact k41
  have k48 : mK m43 q28 = 9 := by rw [e44]; exact k42
  refine at_aload_n (i := 0) 0 33 rfl (by decide +kernel) rfl ?_
  obtain ⟨z49, h⟩ := h
  refine at_new (index := 30) cok2 36 rfl z49 (by decide +kernel) tw_161 tw_162 tw_69 (fun q50 m51 e52 e53 => ?_)
  replace h := h q50 m51 e52 e53
  have x54 : Ext m43 m51 := by rw [e53, e52]; exact Ext.nw z49 _ _ _
  have k55 : mK m51 q2 = 19 := x54.k k45 (by decide)
  have k56 : mK m51 t = 4 := x54.k k46 (by decide)
  have k57 : mK m51 q14 = 18 := x54.k k47 (by decide)
  have k58 : mK m51 q28 = 9 := x54.k k48 (by decide)
  have k59 : mK m51 q50 = 3 := by rw [e53]; exact if_pos rfl
  refine at_dup 37 rfl (by decide +kernel) (va_rf_cat _) ?_
  refine at_callIN mb_Judge_init tw_164 rfl rfl (index := 32) (host := "SurplusLand") (by decide +kernel) [] [va_rf (some q50), va_rf (some t)] rfl rfl (by simp [va_rf_cat, cat_int, cat_long]) 40 rfl (by decide +kernel) (Call.toV (CV.monoE h (fun m60 h y61 => ?_)))
  have k62 : mK m60 q2 = 19 := y61.k k55 (by decide)
  have k63 : mK m60 t = 4 := y61.k k56 (by decide)
  have k64 : mK m60 q14 = 18 := y61.k k57 (by decide)
  have k65 : mK m60 q28 = 9 := y61.k k58 (by decide)
  have k66 : mK m60 q50 = 3 := y61.k k59 (by decide)
  refine at_putRF (index := 33) cok3 4 43 rfl (by decide +kernel) k63 (by decide +kernel) tw_292 rfl rfl rfl rfl (Or.inl ⟨_, rfl⟩) (fun m67 e68 => ?_)
  replace h := h m67 e68
  have k69 : mK m67 q2 = 19 := by rw [e68]; exact k62
  have k70 : mK m67 t = 4 := by rw [e68]; exact k63
  have k71 : mK m67 q14 = 18 := by rw [e68]; exact k64
  have k72 : mK m67 q28 = 9 := by rw [e68]; exact k65
  have k73 : mK m67 q50 = 3 := by rw [e68]; exact k66
  refine at_aload_n (i := 0) 0 44 rfl (by decide +kernel) rfl ?_
  refine at_bipush (n := 30) (30 : Int32) 46 rfl (by decide +kernel) (by decide +kernel) ?_
  obtain ⟨z74, h⟩ := h
  refine at_newaI 48 rfl z74 (by decide +kernel) tw_265 (by decide +kernel) (by decide +kernel) (fun q75 m76 e77 e78 => ?_)
  replace h := h q75 m76 e77 e78
  have x79 : Ext m67 m76 := by rw [e78, e77]; exact Ext.nw z74 _ _ _
  have k80 : mK m76 q2 = 19 := x79.k k69 (by decide)
  have k81 : mK m76 t = 4 := x79.k k70 (by decide)
  have k82 : mK m76 q14 = 18 := x79.k k71 (by decide)
  have k83 : mK m76 q28 = 9 := x79.k k72 (by decide)
  have k84 : mK m76 q50 = 3 := x79.k k73 (by decide)
  have k85 : mK m76 q75 = 15 := by rw [e78]; exact if_pos rfl
  refine at_putRF (index := 37) cok3 5 51 rfl (by decide +kernel) k81 (by decide +kernel) tw_293 rfl rfl rfl rfl (Or.inr ⟨_, rfl⟩) (fun m86 e87 => ?_)
  replace h := h m86 e87
  have k88 : mK m86 q2 = 19 := by rw [e87]; exact k80
  have k89 : mK m86 t = 4 := by rw [e87]; exact k81
  have k90 : mK m86 q14 = 18 := by rw [e87]; exact k82
  have k91 : mK m86 q28 = 9 := by rw [e87]; exact k83
  have k92 : mK m86 q50 = 3 := by rw [e87]; exact k84
  have k93 : mK m86 q75 = 15 := by rw [e87]; exact k85
  refine at_aload_n (i := 0) 0 52 rfl (by decide +kernel) rfl ?_
  refine at_bipush (n := 30) (30 : Int32) 54 rfl (by decide +kernel) (by decide +kernel) ?_
  obtain ⟨z94, h⟩ := h
  refine at_newaI 56 rfl z94 (by decide +kernel) tw_265 (by decide +kernel) (by decide +kernel) (fun q95 m96 e97 e98 => ?_)
  replace h := h q95 m96 e97 e98
  have x99 : Ext m86 m96 := by rw [e98, e97]; exact Ext.nw z94 _ _ _
  have k100 : mK m96 q2 = 19 := x99.k k88 (by decide)
  have k101 : mK m96 t = 4 := x99.k k89 (by decide)
  have k102 : mK m96 q14 = 18 := x99.k k90 (by decide)
  have k103 : mK m96 q28 = 9 := x99.k k91 (by decide)
  have k104 : mK m96 q50 = 3 := x99.k k92 (by decide)
  have k105 : mK m96 q75 = 15 := x99.k k93 (by decide)
  have k106 : mK m96 q95 = 15 := by rw [e98]; exact if_pos rfl
  refine at_putRF (index := 41) cok3 6 59 rfl (by decide +kernel) k101 (by decide +kernel) tw_294 rfl rfl rfl rfl (Or.inr ⟨_, rfl⟩) (fun m107 e108 => ?_)
  replace h := h m107 e108
  have k109 : mK m107 q2 = 19 := by rw [e108]; exact k100
  have k110 : mK m107 t = 4 := by rw [e108]; exact k101
  have k111 : mK m107 q14 = 18 := by rw [e108]; exact k102
  have k112 : mK m107 q28 = 9 := by rw [e108]; exact k103
  have k113 : mK m107 q50 = 3 := by rw [e108]; exact k104
  have k114 : mK m107 q75 = 15 := by rw [e108]; exact k105
  have k115 : mK m107 q95 = 15 := by rw [e108]; exact k106
  refine at_aload_n (i := 0) 0 60 rfl (by decide +kernel) rfl ?_
  refine at_bipush (n := 8) (8 : Int32) 62 rfl (by decide +kernel) (by decide +kernel) ?_
  obtain ⟨z116, h⟩ := h
  refine at_newaJ 64 rfl z116 (by decide +kernel) tw_199 (by decide +kernel) (by decide +kernel) (fun q117 m118 e119 e120 => ?_)
  replace h := h q117 m118 e119 e120
  have x121 : Ext m107 m118 := by rw [e120, e119]; exact Ext.nw z116 _ _ _
  have k122 : mK m118 q2 = 19 := x121.k k109 (by decide)
  have k123 : mK m118 t = 4 := x121.k k110 (by decide)
  have k124 : mK m118 q14 = 18 := x121.k k111 (by decide)
  have k125 : mK m118 q28 = 9 := x121.k k112 (by decide)
  have k126 : mK m118 q50 = 3 := x121.k k113 (by decide)
  have k127 : mK m118 q75 = 15 := x121.k k114 (by decide)
  have k128 : mK m118 q95 = 15 := x121.k k115 (by decide)
  have k129 : mK m118 q117 = 16 := by rw [e120]; exact if_pos rfl
  refine at_putRF (index := 44) cok3 7 67 rfl (by decide +kernel) k123 (by decide +kernel) tw_295 rfl rfl rfl rfl (Or.inr ⟨_, rfl⟩) (fun m130 e131 => ?_)
  replace h := h m130 e131
  have k132 : mK m130 q2 = 19 := by rw [e131]; exact k122
  have k133 : mK m130 t = 4 := by rw [e131]; exact k123
  have k134 : mK m130 q14 = 18 := by rw [e131]; exact k124
  have k135 : mK m130 q28 = 9 := by rw [e131]; exact k125
  have k136 : mK m130 q50 = 3 := by rw [e131]; exact k126
  have k137 : mK m130 q75 = 15 := by rw [e131]; exact k127
  have k138 : mK m130 q95 = 15 := by rw [e131]; exact k128
  have k139 : mK m130 q117 = 16 := by rw [e131]; exact k129
  refine at_aload_n (i := 0) 0 68 rfl (by decide +kernel) rfl ?_
  refine at_bipush (n := 100) (100 : Int32) 70 rfl (by decide +kernel) (by decide +kernel) ?_
  refine at_putI (index := 48) cok3 10 73 rfl (by decide +kernel) k133 (by decide +kernel) tw_301 rfl rfl rfl (fun m140 e141 => ?_)
  replace h := h m140 e141
  have k142 : mK m140 q2 = 19 := by rw [e141]; exact k132
  have k143 : mK m140 t = 4 := by rw [e141]; exact k133
  have k144 : mK m140 q14 = 18 := by rw [e141]; exact k134
  have k145 : mK m140 q28 = 9 := by rw [e141]; exact k135
  have k146 : mK m140 q50 = 3 := by rw [e141]; exact k136
  have k147 : mK m140 q75 = 15 := by rw [e141]; exact k137
  have k148 : mK m140 q95 = 15 := by rw [e141]; exact k138
  have k149 : mK m140 q117 = 16 := by rw [e141]; exact k139
  refine at_aload_n (i := 0) 0 74 rfl (by decide +kernel) rfl ?_
  refine at_aload_n (i := 1) 1 75 rfl (by decide +kernel) rfl ?_
  refine at_putRF (index := 52) cok3 0 78 rfl (by decide +kernel) k143 (by decide +kernel) tw_285 rfl rfl rfl rfl (Or.inl ⟨_, rfl⟩) (fun m150 e151 => ?_)
  replace h := h m150 e151
  have k152 : mK m150 q2 = 19 := by rw [e151]; exact k142
  have k153 : mK m150 t = 4 := by rw [e151]; exact k143
  have k154 : mK m150 q14 = 18 := by rw [e151]; exact k144
  have k155 : mK m150 q28 = 9 := by rw [e151]; exact k145
  have k156 : mK m150 q50 = 3 := by rw [e151]; exact k146
  have k157 : mK m150 q75 = 15 := by rw [e151]; exact k147
  have k158 : mK m150 q95 = 15 := by rw [e151]; exact k148
  have k159 : mK m150 q117 = 16 := by rw [e151]; exact k149
  refine at_iconst (n := 0) (0 : Int32) 79 rfl (by decide +kernel) (by decide +kernel) ?_
  refine at_istore_n (i := 2) (lc' := [(0, va_rf (some t)), (2, .int ((0 : Int32)))]) [1, 0] 80 rfl (by decide +kernel) (by decide +kernel) (by generalize l1 = rr; cases rr <;> rfl) ?_
  exact h
set_option maxRecDepth 20000 in
set_option maxHeartbeats 4000000 in
theorem en_Land_hasGrower (g : Gc) {lv : Nat} {t : Nat} {l1 : Int32} {m : Mm} {Q : Int32 → Mm → Prop} (h : if (l1) < 0 then (Q (0 : Int32) m) else (mK m t = 4 ∧ (if (mI m t 8) ≤ (l1) then (Q (0 : Int32) m) else (Q (1 : Int32) m)))) : CI g M_Land_hasGrower (lv + 1) [va_rf (some t), .int (l1)] m Q := by
  refine Call.of (by decide +kernel) (Nat.le_of_ble_eq_true rfl) ?_
  show At g M_Land_hasGrower (lv + 1) 0 [(0, va_rf (some t)), (1, .int (l1))] [] m (QI Q)
  refine at_iload_n (i := 1) 1 1 rfl (by decide +kernel) rfl ?_
  refine at_if_lt (off := 15) 16 4 rfl (by decide +kernel) (by decide +kernel) (fun c1 => ?_) (fun c1 => ?_)
  · rw [if_pos c1] at h
    refine at_iconst (n := 0) (0 : Int32) 17 rfl (by decide +kernel) (by decide +kernel) ?_
    exact at_zret rfl (by decide +kernel) (Or.inl rfl) h
  · rw [if_neg c1] at h
    refine at_iload_n (i := 1) 1 5 rfl (by decide +kernel) rfl ?_
    refine at_aload_n (i := 0) 0 6 rfl (by decide +kernel) rfl ?_
    obtain ⟨k2, h⟩ := h
    refine at_get (index := 58) (v := .int (mI m t 8)) cok3 8 9 rfl (by decide +kernel) k2 (by decide +kernel) tw_297 rfl ?_
    refine at_icmp_ge (off := 7) 16 12 rfl (by decide +kernel) (by decide +kernel) (fun c3 => ?_) (fun c3 => ?_)
    · rw [if_pos c3] at h
      refine at_iconst (n := 0) (0 : Int32) 17 rfl (by decide +kernel) (by decide +kernel) ?_
      exact at_zret rfl (by decide +kernel) (Or.inl rfl) h
    · rw [if_neg c3] at h
      refine at_iconst (n := 1) (1 : Int32) 13 rfl (by decide +kernel) (by decide +kernel) ?_
      refine at_goto (off := 4) 17 (by decide +kernel) (by decide +kernel) ?_
      exact at_zret rfl (by decide +kernel) (Or.inr rfl) h
set_option maxRecDepth 20000 in
set_option maxHeartbeats 4000000 in
theorem en_Land_settle (g : Gc) {lv : Nat} {t : Nat} {l1 : Int32} {l2 : Int32} {m : Mm} {Q : Int32 → Mm → Prop} (h : mK m t = 4 ∧ (if (mI m t 8) < ((12 : Int32)) then (∃ b3, mR m t 1 = some b3 ∧ (mK m b3 = 19 ∧ (vp_in (mI m t 8) (mN m b3) ∧ (∃ b7, mR m b3 (mI m t 8).toNatClampNeg = some b7 ∧ (mK m b7 = 2 ∧ (CV g M_Grower_arrive lv [va_rf (some b7), .int (l1), .int (l2)] m (fun m10 => (∀ m15, m15 = sI m10 t 8 ((mI m10 t 8) + (1 : Int32)) → (Q ((mI m15 t 8) - (1 : Int32)) m15))))))))) else (Q (-1 : Int32) m))) : CI g M_Land_settle (lv + 1) [va_rf (some t), .int (l1), .int (l2)] m Q := by
  refine Call.of (by decide +kernel) (Nat.le_of_ble_eq_true rfl) ?_
  show At g M_Land_settle (lv + 1) 0 [(0, va_rf (some t)), (1, .int (l1)), (2, .int (l2))] [] m (QI Q)
  refine at_aload_n (i := 0) 0 1 rfl (by decide +kernel) rfl ?_
  obtain ⟨k1, h⟩ := h
  refine at_get (index := 58) (v := .int (mI m t 8)) cok3 8 4 rfl (by decide +kernel) k1 (by decide +kernel) tw_297 rfl ?_
  refine at_bipush (n := 12) (12 : Int32) 6 rfl (by decide +kernel) (by decide +kernel) ?_
  refine at_icmp_lt (off := 5) 11 9 rfl (by decide +kernel) (by decide +kernel) (fun c2 => ?_) (fun c2 => ?_)
  · rw [if_pos c2] at h
    refine at_aload_n (i := 0) 0 12 rfl (by decide +kernel) rfl ?_
    refine at_get (index := 11) (v := va_rf (mR m t 1)) cok3 1 15 rfl (by decide +kernel) k1 (by decide +kernel) tw_286 rfl ?_
    refine at_aload_n (i := 0) 0 16 rfl (by decide +kernel) rfl ?_
    refine at_get (index := 58) (v := .int (mI m t 8)) cok3 8 19 rfl (by decide +kernel) k1 (by decide +kernel) tw_297 rfl ?_
    obtain ⟨b3, e4, h⟩ := h
    rw [e4]
    obtain ⟨k5, h⟩ := h
    obtain ⟨v6, h⟩ := h
    refine at_aaldGrower 20 rfl (by decide +kernel) k5 v6 ?_
    refine at_iload_n (i := 1) 1 21 rfl (by decide +kernel) rfl ?_
    refine at_iload_n (i := 2) 2 22 rfl (by decide +kernel) rfl ?_
    obtain ⟨b7, e8, h⟩ := h
    rw [e8]
    obtain ⟨k9, h⟩ := h
    refine at_callV mb_Grower_arrive tw_487 tw_488 cok1 k9 (index := 61) tw_486 [.int (l1), .int (l2)] [] rfl rfl (by decide) 25 rfl (by decide +kernel) (Call.toV (CV.monoE h (fun m10 h y11 => ?_)))
    have k12 : mK m10 t = 4 := y11.k k1 (by decide)
    have k13 : mK m10 b3 = 19 := y11.k k5 (by decide)
    have k14 : mK m10 b7 = 2 := y11.k k9 (by decide)
    refine at_aload_n (i := 0) 0 26 rfl (by decide +kernel) rfl ?_
    refine at_dup 27 rfl (by decide +kernel) (va_rf_cat _) ?_
    refine at_get (index := 58) (v := .int (mI m10 t 8)) cok3 8 30 rfl (by decide +kernel) k12 (by decide +kernel) tw_297 rfl ?_
    refine at_iconst (n := 1) (1 : Int32) 31 rfl (by decide +kernel) (by decide +kernel) ?_
    refine at_iadd 32 rfl (by decide +kernel) ?_
    refine at_putI (index := 58) cok3 8 35 rfl (by decide +kernel) k12 (by decide +kernel) tw_297 rfl rfl rfl (fun m15 e16 => ?_)
    replace h := h m15 e16
    have k17 : mK m15 t = 4 := by rw [e16]; exact k12
    have k18 : mK m15 b3 = 19 := by rw [e16]; exact k13
    have k19 : mK m15 b7 = 2 := by rw [e16]; exact k14
    refine at_aload_n (i := 0) 0 36 rfl (by decide +kernel) rfl ?_
    refine at_get (index := 58) (v := .int (mI m15 t 8)) cok3 8 39 rfl (by decide +kernel) k17 (by decide +kernel) tw_297 rfl ?_
    refine at_iconst (n := 1) (1 : Int32) 40 rfl (by decide +kernel) (by decide +kernel) ?_
    refine at_isub 41 rfl (by decide +kernel) ?_
    exact at_iret rfl (by decide +kernel) h
  · rw [if_neg c2] at h
    refine at_iconst (n := (-1)) (-1 : Int32) 10 rfl (by decide +kernel) (by decide +kernel) ?_
    exact at_iret rfl (by decide +kernel) h
set_option maxRecDepth 20000 in
set_option maxHeartbeats 4000000 in
theorem en_Land_tellCrop (g : Gc) {lv : Nat} {t : Nat} {l1 : Int32} {l2 : Int32} {m : Mm} {Q : Mm → Prop} (h : mK m t = 4 ∧ (CI g M_Land_hasGrower lv [va_rf (some t), .int (l1)] m (fun x2 m3 => (if (x2) = 0 then (Q m3) else (if ((30 : Int32)) ≤ (mI m3 t 9) then (Q m3) else (∃ b8, mR m3 t 1 = some b8 ∧ (mK m3 b8 = 19 ∧ (vp_in l1 (mN m3 b8) ∧ (∃ b12, mR m3 b8 l1.toNatClampNeg = some b12 ∧ (mK m3 b12 = 2 ∧ (∃ b15, mR m3 b12 0 = some b15 ∧ (mK m3 b15 = 15 ∧ (vp_in (mI m3 t 9) (mN m3 b15) ∧ (∀ m19, m19 = sI m3 b15 (mI m3 t 9).toNatClampNeg l2 → (Q m19))))))))))))))) : CV g M_Land_tellCrop (lv + 1) [va_rf (some t), .int (l1), .int (l2)] m Q := by
  refine Call.of (by decide +kernel) (Nat.le_of_ble_eq_true rfl) ?_
  show At g M_Land_tellCrop (lv + 1) 0 [(0, va_rf (some t)), (1, .int (l1)), (2, .int (l2))] [] m (QV Q)
  refine at_aload_n (i := 0) 0 1 rfl (by decide +kernel) rfl ?_
  refine at_iload_n (i := 1) 1 2 rfl (by decide +kernel) rfl ?_
  obtain ⟨k1, h⟩ := h
  refine at_callV mb_Land_hasGrower tw_666 tw_667 cok3 k1 (index := 65) tw_674 [.int (l1)] [] rfl rfl (by decide) 5 rfl (by decide +kernel) (Call.toI (CI.monoE h (fun x2 m3 h y4 => ?_)))
  have k5 : mK m3 t = 4 := y4.k k1 (by decide)
  refine at_if_eq (off := 27) 32 8 rfl (by decide +kernel) (by decide +kernel) (fun c6 => ?_) (fun c6 => ?_)
  · rw [if_pos c6] at h
    exact at_vret rfl (by decide +kernel) h
  · rw [if_neg c6] at h
    refine at_aload_n (i := 0) 0 9 rfl (by decide +kernel) rfl ?_
    refine at_get (index := 69) (v := .int (mI m3 t 9)) cok3 9 12 rfl (by decide +kernel) k5 (by decide +kernel) tw_299 rfl ?_
    refine at_bipush (n := 30) (30 : Int32) 14 rfl (by decide +kernel) (by decide +kernel) ?_
    refine at_icmp_ge (off := 18) 32 17 rfl (by decide +kernel) (by decide +kernel) (fun c7 => ?_) (fun c7 => ?_)
    · rw [if_pos c7] at h
      exact at_vret rfl (by decide +kernel) h
    · rw [if_neg c7] at h
      refine at_aload_n (i := 0) 0 18 rfl (by decide +kernel) rfl ?_
      refine at_get (index := 11) (v := va_rf (mR m3 t 1)) cok3 1 21 rfl (by decide +kernel) k5 (by decide +kernel) tw_286 rfl ?_
      refine at_iload_n (i := 1) 1 22 rfl (by decide +kernel) rfl ?_
      obtain ⟨b8, e9, h⟩ := h
      rw [e9]
      obtain ⟨k10, h⟩ := h
      obtain ⟨v11, h⟩ := h
      refine at_aaldGrower 23 rfl (by decide +kernel) k10 v11 ?_
      obtain ⟨b12, e13, h⟩ := h
      rw [e13]
      obtain ⟨k14, h⟩ := h
      refine at_get (index := 72) (v := va_rf (mR m3 b12 0)) cok1 0 26 rfl (by decide +kernel) k14 (by decide +kernel) tw_207 rfl ?_
      refine at_aload_n (i := 0) 0 27 rfl (by decide +kernel) rfl ?_
      refine at_get (index := 69) (v := .int (mI m3 t 9)) cok3 9 30 rfl (by decide +kernel) k5 (by decide +kernel) tw_299 rfl ?_
      refine at_iload_n (i := 2) 2 31 rfl (by decide +kernel) rfl ?_
      obtain ⟨b15, e16, h⟩ := h
      rw [e16]
      obtain ⟨k17, h⟩ := h
      obtain ⟨v18, h⟩ := h
      refine at_iast 32 rfl (by decide +kernel) k17 v18 (fun m19 e20 => ?_)
      replace h := h m19 e20
      have k21 : mK m19 t = 4 := by rw [e20]; exact k5
      have k22 : mK m19 b8 = 19 := by rw [e20]; exact k10
      have k23 : mK m19 b12 = 2 := by rw [e20]; exact k14
      have k24 : mK m19 b15 = 15 := by rw [e20]; exact k17
      exact at_vret rfl (by decide +kernel) h
set_option maxRecDepth 20000 in
set_option maxHeartbeats 4000000 in
theorem en_Land_moneyOf (g : Gc) {lv : Nat} {t : Nat} {l1 : Int32} {m : Mm} {Q : Int64 → Mm → Prop} (h : mK m t = 4 ∧ (CI g M_Land_hasGrower lv [va_rf (some t), .int (l1)] m (fun x2 m3 => (if (x2) = 0 then (CI g M_SL_isWithin lv [.int (l1), .int ((12 : Int32)), .int ((14 : Int32))] m3 (fun x7 m8 => (if (x7) = 0 then (Q (0 : Int64) m8) else (∃ b12, mR m8 t 2 = some b12 ∧ (mK m8 b12 = 18 ∧ (vp_in (l1 - (12 : Int32)) (mN m8 b12) ∧ (∃ b16, mR m8 b12 (l1 - (12 : Int32)).toNatClampNeg = some b16 ∧ (mK m8 b16 = 1 ∧ (Q (mL m8 b16 2) m8))))))))) else (∃ b19, mR m3 t 1 = some b19 ∧ (mK m3 b19 = 19 ∧ (vp_in l1 (mN m3 b19) ∧ (∃ b23, mR m3 b19 l1.toNatClampNeg = some b23 ∧ (mK m3 b23 = 2 ∧ (Q (mL m3 b23 11) m3)))))))))) : CJ g M_Land_moneyOf (lv + 1) [va_rf (some t), .int (l1)] m Q := by
  refine Call.of (by decide +kernel) (Nat.le_of_ble_eq_true rfl) ?_
  show At g M_Land_moneyOf (lv + 1) 0 [(0, va_rf (some t)), (1, .int (l1))] [] m (QJ Q)
  refine at_aload_n (i := 0) 0 1 rfl (by decide +kernel) rfl ?_
  refine at_iload_n (i := 1) 1 2 rfl (by decide +kernel) rfl ?_
  obtain ⟨k1, h⟩ := h
  refine at_callV mb_Land_hasGrower tw_666 tw_667 cok3 k1 (index := 65) tw_674 [.int (l1)] [] rfl rfl (by decide) 5 rfl (by decide +kernel) (Call.toI (CI.monoE h (fun x2 m3 h y4 => ?_)))
  have k5 : mK m3 t = 4 := y4.k k1 (by decide)
  refine at_if_eq (off := 13) 18 8 rfl (by decide +kernel) (by decide +kernel) (fun c6 => ?_) (fun c6 => ?_)
  · rw [if_pos c6] at h
    refine at_iload_n (i := 1) 1 19 rfl (by decide +kernel) rfl ?_
    refine at_bipush (n := 12) (12 : Int32) 21 rfl (by decide +kernel) (by decide +kernel) ?_
    refine at_bipush (n := 14) (14 : Int32) 23 rfl (by decide +kernel) (by decide +kernel) ?_
    refine at_callSN mb_SL_isWithin tw_471 (index := 79) (host := "SurplusLand") (by decide +kernel) [.int (l1), .int ((12 : Int32)), .int ((14 : Int32))] [] rfl rfl (by decide) 26 rfl (by decide +kernel) (Call.toI (CI.monoE h (fun x7 m8 h y9 => ?_)))
    have k10 : mK m8 t = 4 := y9.k k5 (by decide)
    refine at_if_eq (off := 18) 44 29 rfl (by decide +kernel) (by decide +kernel) (fun c11 => ?_) (fun c11 => ?_)
    · rw [if_pos c11] at h
      refine at_lconst (n := 0) (0 : Int64) 45 rfl (by decide +kernel) (by decide +kernel) ?_
      exact at_lret rfl (by decide +kernel) h
    · rw [if_neg c11] at h
      refine at_aload_n (i := 0) 0 30 rfl (by decide +kernel) rfl ?_
      refine at_get (index := 19) (v := va_rf (mR m8 t 2)) cok3 2 33 rfl (by decide +kernel) k10 (by decide +kernel) tw_288 rfl ?_
      refine at_iload_n (i := 1) 1 34 rfl (by decide +kernel) rfl ?_
      refine at_bipush (n := 12) (12 : Int32) 36 rfl (by decide +kernel) (by decide +kernel) ?_
      refine at_isub 37 rfl (by decide +kernel) ?_
      obtain ⟨b12, e13, h⟩ := h
      rw [e13]
      obtain ⟨k14, h⟩ := h
      obtain ⟨v15, h⟩ := h
      refine at_aaldBank 38 rfl (by decide +kernel) k14 v15 ?_
      obtain ⟨b16, e17, h⟩ := h
      rw [e17]
      obtain ⟨k18, h⟩ := h
      refine at_get (index := 83) (v := .long (mL m8 b16 2)) cok0 2 41 rfl (by decide +kernel) k18 (by decide +kernel) tw_277 rfl ?_
      refine at_goto (off := 4) 45 (by decide +kernel) (by decide +kernel) ?_
      exact at_lret rfl (by decide +kernel) h
  · rw [if_neg c6] at h
    refine at_aload_n (i := 0) 0 9 rfl (by decide +kernel) rfl ?_
    refine at_get (index := 11) (v := va_rf (mR m3 t 1)) cok3 1 12 rfl (by decide +kernel) k5 (by decide +kernel) tw_286 rfl ?_
    refine at_iload_n (i := 1) 1 13 rfl (by decide +kernel) rfl ?_
    obtain ⟨b19, e20, h⟩ := h
    rw [e20]
    obtain ⟨k21, h⟩ := h
    obtain ⟨v22, h⟩ := h
    refine at_aaldGrower 14 rfl (by decide +kernel) k21 v22 ?_
    obtain ⟨b23, e24, h⟩ := h
    rw [e24]
    obtain ⟨k25, h⟩ := h
    refine at_get (index := 75) (v := .long (mL m3 b23 11)) cok1 11 17 rfl (by decide +kernel) k25 (by decide +kernel) tw_233 rfl ?_
    exact at_lret rfl (by decide +kernel) h
set_option maxRecDepth 20000 in
set_option maxHeartbeats 4000000 in
theorem en_Land_credit (g : Gc) {lv : Nat} {t : Nat} {l1 : Int32} {l2 : Int64} {m : Mm} {Q : Mm → Prop} (h : mK m t = 4 ∧ (CI g M_Land_hasGrower lv [va_rf (some t), .int (l1)] m (fun x2 m3 => (if (x2) = 0 then (CI g M_SL_isWithin lv [.int (l1), .int ((12 : Int32)), .int ((14 : Int32))] m3 (fun x7 m8 => (if (x7) = 0 then (Q m8) else (∃ b12, mR m8 t 2 = some b12 ∧ (mK m8 b12 = 18 ∧ (vp_in (l1 - (12 : Int32)) (mN m8 b12) ∧ (∃ b16, mR m8 b12 (l1 - (12 : Int32)).toNatClampNeg = some b16 ∧ (mK m8 b16 = 1 ∧ (∀ m19, m19 = sL m8 b16 2 ((mL m8 b16 2) + l2) → (Q m19)))))))))) else (∃ b24, mR m3 t 1 = some b24 ∧ (mK m3 b24 = 19 ∧ (vp_in l1 (mN m3 b24) ∧ (∃ b28, mR m3 b24 l1.toNatClampNeg = some b28 ∧ (mK m3 b28 = 2 ∧ (∀ m31, m31 = sL m3 b28 11 ((mL m3 b28 11) + l2) → (Q m31))))))))))) : CV g M_Land_credit (lv + 1) [va_rf (some t), .int (l1), .long (l2)] m Q := by
  refine Call.of (by decide +kernel) (Nat.le_of_ble_eq_true rfl) ?_
  show At g M_Land_credit (lv + 1) 0 [(0, va_rf (some t)), (1, .int (l1)), (2, .long (l2))] [] m (QV Q)
  refine at_aload_n (i := 0) 0 1 rfl (by decide +kernel) rfl ?_
  refine at_iload_n (i := 1) 1 2 rfl (by decide +kernel) rfl ?_
  obtain ⟨k1, h⟩ := h
  refine at_callV mb_Land_hasGrower tw_666 tw_667 cok3 k1 (index := 65) tw_674 [.int (l1)] [] rfl rfl (by decide) 5 rfl (by decide +kernel) (Call.toI (CI.monoE h (fun x2 m3 h y4 => ?_)))
  have k5 : mK m3 t = 4 := y4.k k1 (by decide)
  refine at_if_eq (off := 21) 26 8 rfl (by decide +kernel) (by decide +kernel) (fun c6 => ?_) (fun c6 => ?_)
  · rw [if_pos c6] at h
    refine at_iload_n (i := 1) 1 27 rfl (by decide +kernel) rfl ?_
    refine at_bipush (n := 12) (12 : Int32) 29 rfl (by decide +kernel) (by decide +kernel) ?_
    refine at_bipush (n := 14) (14 : Int32) 31 rfl (by decide +kernel) (by decide +kernel) ?_
    refine at_callSN mb_SL_isWithin tw_471 (index := 79) (host := "SurplusLand") (by decide +kernel) [.int (l1), .int ((12 : Int32)), .int ((14 : Int32))] [] rfl rfl (by decide) 34 rfl (by decide +kernel) (Call.toI (CI.monoE h (fun x7 m8 h y9 => ?_)))
    have k10 : mK m8 t = 4 := y9.k k5 (by decide)
    refine at_if_eq (off := 21) 55 37 rfl (by decide +kernel) (by decide +kernel) (fun c11 => ?_) (fun c11 => ?_)
    · rw [if_pos c11] at h
      exact at_vret rfl (by decide +kernel) h
    · rw [if_neg c11] at h
      refine at_aload_n (i := 0) 0 38 rfl (by decide +kernel) rfl ?_
      refine at_get (index := 19) (v := va_rf (mR m8 t 2)) cok3 2 41 rfl (by decide +kernel) k10 (by decide +kernel) tw_288 rfl ?_
      refine at_iload_n (i := 1) 1 42 rfl (by decide +kernel) rfl ?_
      refine at_bipush (n := 12) (12 : Int32) 44 rfl (by decide +kernel) (by decide +kernel) ?_
      refine at_isub 45 rfl (by decide +kernel) ?_
      obtain ⟨b12, e13, h⟩ := h
      rw [e13]
      obtain ⟨k14, h⟩ := h
      obtain ⟨v15, h⟩ := h
      refine at_aaldBank 46 rfl (by decide +kernel) k14 v15 ?_
      refine at_dup 47 rfl (by decide +kernel) (va_rf_cat _) ?_
      obtain ⟨b16, e17, h⟩ := h
      rw [e17]
      obtain ⟨k18, h⟩ := h
      refine at_get (index := 83) (v := .long (mL m8 b16 2)) cok0 2 50 rfl (by decide +kernel) k18 (by decide +kernel) tw_277 rfl ?_
      refine at_lload_n (i := 2) 2 51 rfl (by decide +kernel) rfl ?_
      refine at_ladd 52 rfl (by decide +kernel) ?_
      refine at_putJ (index := 83) cok0 2 55 rfl (by decide +kernel) k18 (by decide +kernel) tw_277 rfl rfl rfl (fun m19 e20 => ?_)
      replace h := h m19 e20
      have k21 : mK m19 t = 4 := by rw [e20]; exact k10
      have k22 : mK m19 b12 = 18 := by rw [e20]; exact k14
      have k23 : mK m19 b16 = 1 := by rw [e20]; exact k18
      exact at_vret rfl (by decide +kernel) h
  · rw [if_neg c6] at h
    refine at_aload_n (i := 0) 0 9 rfl (by decide +kernel) rfl ?_
    refine at_get (index := 11) (v := va_rf (mR m3 t 1)) cok3 1 12 rfl (by decide +kernel) k5 (by decide +kernel) tw_286 rfl ?_
    refine at_iload_n (i := 1) 1 13 rfl (by decide +kernel) rfl ?_
    obtain ⟨b24, e25, h⟩ := h
    rw [e25]
    obtain ⟨k26, h⟩ := h
    obtain ⟨v27, h⟩ := h
    refine at_aaldGrower 14 rfl (by decide +kernel) k26 v27 ?_
    refine at_dup 15 rfl (by decide +kernel) (va_rf_cat _) ?_
    obtain ⟨b28, e29, h⟩ := h
    rw [e29]
    obtain ⟨k30, h⟩ := h
    refine at_get (index := 75) (v := .long (mL m3 b28 11)) cok1 11 18 rfl (by decide +kernel) k30 (by decide +kernel) tw_233 rfl ?_
    refine at_lload_n (i := 2) 2 19 rfl (by decide +kernel) rfl ?_
    refine at_ladd 20 rfl (by decide +kernel) ?_
    refine at_putJ (index := 75) cok1 11 23 rfl (by decide +kernel) k30 (by decide +kernel) tw_233 rfl rfl rfl (fun m31 e32 => ?_)
    replace h := h m31 e32
    have k33 : mK m31 t = 4 := by rw [e32]; exact k5
    have k34 : mK m31 b24 = 19 := by rw [e32]; exact k26
    have k35 : mK m31 b28 = 2 := by rw [e32]; exact k30
    refine at_goto (off := 32) 55 (by decide +kernel) (by decide +kernel) ?_
    exact at_vret rfl (by decide +kernel) h
set_option maxRecDepth 20000 in
set_option maxHeartbeats 4000000 in
theorem bk_Land_freeInAll_4 (g : Gc) {lv : Nat} {t : Nat} {l1 : Int64} {l3 : Int32} {m : Mm} {Q : Int64 → Mm → Prop} (h : mK m t = 4 ∧ (if (mI m t 8) ≤ (l3) then (Q l1 m) else (∃ b3, mR m t 1 = some b3 ∧ (mK m b3 = 19 ∧ (vp_in l3 (mN m b3) ∧ (∃ b7, mR m b3 l3.toNatClampNeg = some b7 ∧ (mK m b7 = 2 ∧ (At g M_Land_freeInAll (lv + 1) 4 [(0, va_rf (some t)), (1, .long (l1 + ((mI m b7 9).toInt64))), (3, .int (l3 + (1 : Int32)))] [] m (QJ Q))))))))) : At g M_Land_freeInAll (lv + 1) 4 [(0, va_rf (some t)), (1, .long (l1)), (3, .int (l3))] [] m (QJ Q) := by
  refine at_iload_n (i := 3) 2 5 rfl (by decide +kernel) rfl ?_
  refine at_aload_n (i := 0) 0 6 rfl (by decide +kernel) rfl ?_
  obtain ⟨k1, h⟩ := h
  refine at_get (index := 58) (v := .int (mI m t 8)) cok3 8 9 rfl (by decide +kernel) k1 (by decide +kernel) tw_297 rfl ?_
  refine at_icmp_ge (off := 22) 31 12 rfl (by decide +kernel) (by decide +kernel) (fun c2 => ?_) (fun c2 => ?_)
  · rw [if_pos c2] at h
    refine at_lload_n (i := 1) 1 32 rfl (by decide +kernel) rfl ?_
    exact at_lret rfl (by decide +kernel) h
  · rw [if_neg c2] at h
    refine at_lload_n (i := 1) 1 13 rfl (by decide +kernel) rfl ?_
    refine at_aload_n (i := 0) 0 14 rfl (by decide +kernel) rfl ?_
    refine at_get (index := 11) (v := va_rf (mR m t 1)) cok3 1 17 rfl (by decide +kernel) k1 (by decide +kernel) tw_286 rfl ?_
    refine at_iload_n (i := 3) 2 18 rfl (by decide +kernel) rfl ?_
    obtain ⟨b3, e4, h⟩ := h
    rw [e4]
    obtain ⟨k5, h⟩ := h
    obtain ⟨v6, h⟩ := h
    refine at_aaldGrower 19 rfl (by decide +kernel) k5 v6 ?_
    obtain ⟨b7, e8, h⟩ := h
    rw [e8]
    obtain ⟨k9, h⟩ := h
    refine at_get (index := 84) (v := .int (mI m b7 9)) cok1 9 22 rfl (by decide +kernel) k9 (by decide +kernel) tw_227 rfl ?_
    refine at_i2l 23 rfl (by decide +kernel) ?_
    refine at_ladd 24 rfl (by decide +kernel) ?_
    refine at_lstore_n (i := 1) (lc' := [(0, va_rf (some t)), (1, .long (l1 + ((mI m b7 9).toInt64))), (3, .int (l3))]) [1, 0, 2] 25 rfl (by decide +kernel) (by decide +kernel) rfl ?_
    refine at_iinc (i := 3) (n := 1) (lc' := [(0, va_rf (some t)), (1, .long (l1 + ((mI m b7 9).toInt64))), (3, .int (l3 + (1 : Int32)))]) (l3 + (1 : Int32)) 2 [1, 2, 0] 28 rfl (by decide +kernel) rfl (by rw [show Int32.ofInt 1 = (1 : Int32) from by decide +kernel]) (by decide +kernel) rfl ?_
    refine at_goto (off := (-24)) 4 (by decide +kernel) (by decide +kernel) ?_
    exact h
set_option maxRecDepth 20000 in
set_option maxHeartbeats 4000000 in
theorem en_Land_freeInAll (g : Gc) {lv : Nat} {t : Nat} {m : Mm} {Q : Int64 → Mm → Prop} (h : At g M_Land_freeInAll (lv + 1) 4 [(0, va_rf (some t)), (1, .long ((0 : Int64))), (3, .int ((0 : Int32)))] [] m (QJ Q)) : CJ g M_Land_freeInAll (lv + 1) [va_rf (some t)] m Q := by
  refine Call.of (by decide +kernel) (Nat.le_of_ble_eq_true rfl) ?_
  show At g M_Land_freeInAll (lv + 1) 0 [(0, va_rf (some t))] [] m (QJ Q)
  refine at_lconst (n := 0) (0 : Int64) 1 rfl (by decide +kernel) (by decide +kernel) ?_
  refine at_lstore_n (i := 1) (lc' := [(0, va_rf (some t)), (1, .long ((0 : Int64)))]) [1, 0] 2 rfl (by decide +kernel) (by decide +kernel) rfl ?_
  refine at_iconst (n := 0) (0 : Int32) 3 rfl (by decide +kernel) (by decide +kernel) ?_
  refine at_istore_n (i := 3) (lc' := [(0, va_rf (some t)), (1, .long ((0 : Int64))), (3, .int ((0 : Int32)))]) [1, 2, 0] 4 rfl (by decide +kernel) (by decide +kernel) rfl ?_
  exact h
set_option maxRecDepth 20000 in
set_option maxHeartbeats 4000000 in
theorem bk_Land_moneyInAll_4 (g : Gc) {lv : Nat} {t : Nat} {l1 : Int64} {l3 : Int32} {m : Mm} {Q : Int64 → Mm → Prop} (h : mK m t = 4 ∧ (if (mI m t 8) ≤ (l3) then (Q l1 m) else (∃ b3, mR m t 1 = some b3 ∧ (mK m b3 = 19 ∧ (vp_in l3 (mN m b3) ∧ (∃ b7, mR m b3 l3.toNatClampNeg = some b7 ∧ (mK m b7 = 2 ∧ (At g M_Land_moneyInAll (lv + 1) 4 [(0, va_rf (some t)), (1, .long (l1 + (mL m b7 11))), (3, .int (l3 + (1 : Int32)))] [] m (QJ Q))))))))) : At g M_Land_moneyInAll (lv + 1) 4 [(0, va_rf (some t)), (1, .long (l1)), (3, .int (l3))] [] m (QJ Q) := by
  refine at_iload_n (i := 3) 2 5 rfl (by decide +kernel) rfl ?_
  refine at_aload_n (i := 0) 0 6 rfl (by decide +kernel) rfl ?_
  obtain ⟨k1, h⟩ := h
  refine at_get (index := 58) (v := .int (mI m t 8)) cok3 8 9 rfl (by decide +kernel) k1 (by decide +kernel) tw_297 rfl ?_
  refine at_icmp_ge (off := 21) 30 12 rfl (by decide +kernel) (by decide +kernel) (fun c2 => ?_) (fun c2 => ?_)
  · rw [if_pos c2] at h
    refine at_lload_n (i := 1) 1 31 rfl (by decide +kernel) rfl ?_
    exact at_lret rfl (by decide +kernel) h
  · rw [if_neg c2] at h
    refine at_lload_n (i := 1) 1 13 rfl (by decide +kernel) rfl ?_
    refine at_aload_n (i := 0) 0 14 rfl (by decide +kernel) rfl ?_
    refine at_get (index := 11) (v := va_rf (mR m t 1)) cok3 1 17 rfl (by decide +kernel) k1 (by decide +kernel) tw_286 rfl ?_
    refine at_iload_n (i := 3) 2 18 rfl (by decide +kernel) rfl ?_
    obtain ⟨b3, e4, h⟩ := h
    rw [e4]
    obtain ⟨k5, h⟩ := h
    obtain ⟨v6, h⟩ := h
    refine at_aaldGrower 19 rfl (by decide +kernel) k5 v6 ?_
    obtain ⟨b7, e8, h⟩ := h
    rw [e8]
    obtain ⟨k9, h⟩ := h
    refine at_get (index := 75) (v := .long (mL m b7 11)) cok1 11 22 rfl (by decide +kernel) k9 (by decide +kernel) tw_233 rfl ?_
    refine at_ladd 23 rfl (by decide +kernel) ?_
    refine at_lstore_n (i := 1) (lc' := [(0, va_rf (some t)), (1, .long (l1 + (mL m b7 11))), (3, .int (l3))]) [1, 0, 2] 24 rfl (by decide +kernel) (by decide +kernel) rfl ?_
    refine at_iinc (i := 3) (n := 1) (lc' := [(0, va_rf (some t)), (1, .long (l1 + (mL m b7 11))), (3, .int (l3 + (1 : Int32)))]) (l3 + (1 : Int32)) 2 [1, 2, 0] 27 rfl (by decide +kernel) rfl (by rw [show Int32.ofInt 1 = (1 : Int32) from by decide +kernel]) (by decide +kernel) rfl ?_
    refine at_goto (off := (-23)) 4 (by decide +kernel) (by decide +kernel) ?_
    exact h
set_option maxRecDepth 20000 in
set_option maxHeartbeats 4000000 in
theorem en_Land_moneyInAll (g : Gc) {lv : Nat} {t : Nat} {m : Mm} {Q : Int64 → Mm → Prop} (h : At g M_Land_moneyInAll (lv + 1) 4 [(0, va_rf (some t)), (1, .long ((0 : Int64))), (3, .int ((0 : Int32)))] [] m (QJ Q)) : CJ g M_Land_moneyInAll (lv + 1) [va_rf (some t)] m Q := by
  refine Call.of (by decide +kernel) (Nat.le_of_ble_eq_true rfl) ?_
  show At g M_Land_moneyInAll (lv + 1) 0 [(0, va_rf (some t))] [] m (QJ Q)
  refine at_lconst (n := 0) (0 : Int64) 1 rfl (by decide +kernel) (by decide +kernel) ?_
  refine at_lstore_n (i := 1) (lc' := [(0, va_rf (some t)), (1, .long ((0 : Int64)))]) [1, 0] 2 rfl (by decide +kernel) (by decide +kernel) rfl ?_
  refine at_iconst (n := 0) (0 : Int32) 3 rfl (by decide +kernel) (by decide +kernel) ?_
  refine at_istore_n (i := 3) (lc' := [(0, va_rf (some t)), (1, .long ((0 : Int64))), (3, .int ((0 : Int32)))]) [1, 2, 0] 4 rfl (by decide +kernel) (by decide +kernel) rfl ?_
  exact h
set_option maxRecDepth 20000 in
set_option maxHeartbeats 4000000 in
theorem bk_Land_bearingInAll_4 (g : Gc) {lv : Nat} {t : Nat} {l1 : Int64} {l3 : Int32} {m : Mm} {Q : Int64 → Mm → Prop} (h : mK m t = 4 ∧ (if (mI m t 8) ≤ (l3) then (Q l1 m) else (∃ b3, mR m t 1 = some b3 ∧ (mK m b3 = 19 ∧ (vp_in l3 (mN m b3) ∧ (∃ b7, mR m b3 l3.toNatClampNeg = some b7 ∧ (mK m b7 = 2 ∧ (At g M_Land_bearingInAll (lv + 1) 4 [(0, va_rf (some t)), (1, .long (l1 + ((mI m b7 5).toInt64))), (3, .int (l3 + (1 : Int32)))] [] m (QJ Q))))))))) : At g M_Land_bearingInAll (lv + 1) 4 [(0, va_rf (some t)), (1, .long (l1)), (3, .int (l3))] [] m (QJ Q) := by
  refine at_iload_n (i := 3) 2 5 rfl (by decide +kernel) rfl ?_
  refine at_aload_n (i := 0) 0 6 rfl (by decide +kernel) rfl ?_
  obtain ⟨k1, h⟩ := h
  refine at_get (index := 58) (v := .int (mI m t 8)) cok3 8 9 rfl (by decide +kernel) k1 (by decide +kernel) tw_297 rfl ?_
  refine at_icmp_ge (off := 22) 31 12 rfl (by decide +kernel) (by decide +kernel) (fun c2 => ?_) (fun c2 => ?_)
  · rw [if_pos c2] at h
    refine at_lload_n (i := 1) 1 32 rfl (by decide +kernel) rfl ?_
    exact at_lret rfl (by decide +kernel) h
  · rw [if_neg c2] at h
    refine at_lload_n (i := 1) 1 13 rfl (by decide +kernel) rfl ?_
    refine at_aload_n (i := 0) 0 14 rfl (by decide +kernel) rfl ?_
    refine at_get (index := 11) (v := va_rf (mR m t 1)) cok3 1 17 rfl (by decide +kernel) k1 (by decide +kernel) tw_286 rfl ?_
    refine at_iload_n (i := 3) 2 18 rfl (by decide +kernel) rfl ?_
    obtain ⟨b3, e4, h⟩ := h
    rw [e4]
    obtain ⟨k5, h⟩ := h
    obtain ⟨v6, h⟩ := h
    refine at_aaldGrower 19 rfl (by decide +kernel) k5 v6 ?_
    obtain ⟨b7, e8, h⟩ := h
    rw [e8]
    obtain ⟨k9, h⟩ := h
    refine at_get (index := 87) (v := .int (mI m b7 5)) cok1 5 22 rfl (by decide +kernel) k9 (by decide +kernel) tw_218 rfl ?_
    refine at_i2l 23 rfl (by decide +kernel) ?_
    refine at_ladd 24 rfl (by decide +kernel) ?_
    refine at_lstore_n (i := 1) (lc' := [(0, va_rf (some t)), (1, .long (l1 + ((mI m b7 5).toInt64))), (3, .int (l3))]) [1, 0, 2] 25 rfl (by decide +kernel) (by decide +kernel) rfl ?_
    refine at_iinc (i := 3) (n := 1) (lc' := [(0, va_rf (some t)), (1, .long (l1 + ((mI m b7 5).toInt64))), (3, .int (l3 + (1 : Int32)))]) (l3 + (1 : Int32)) 2 [1, 2, 0] 28 rfl (by decide +kernel) rfl (by rw [show Int32.ofInt 1 = (1 : Int32) from by decide +kernel]) (by decide +kernel) rfl ?_
    refine at_goto (off := (-24)) 4 (by decide +kernel) (by decide +kernel) ?_
    exact h
set_option maxRecDepth 20000 in
set_option maxHeartbeats 4000000 in
theorem en_Land_bearingInAll (g : Gc) {lv : Nat} {t : Nat} {m : Mm} {Q : Int64 → Mm → Prop} (h : At g M_Land_bearingInAll (lv + 1) 4 [(0, va_rf (some t)), (1, .long ((0 : Int64))), (3, .int ((0 : Int32)))] [] m (QJ Q)) : CJ g M_Land_bearingInAll (lv + 1) [va_rf (some t)] m Q := by
  refine Call.of (by decide +kernel) (Nat.le_of_ble_eq_true rfl) ?_
  show At g M_Land_bearingInAll (lv + 1) 0 [(0, va_rf (some t))] [] m (QJ Q)
  refine at_lconst (n := 0) (0 : Int64) 1 rfl (by decide +kernel) (by decide +kernel) ?_
  refine at_lstore_n (i := 1) (lc' := [(0, va_rf (some t)), (1, .long ((0 : Int64)))]) [1, 0] 2 rfl (by decide +kernel) (by decide +kernel) rfl ?_
  refine at_iconst (n := 0) (0 : Int32) 3 rfl (by decide +kernel) (by decide +kernel) ?_
  refine at_istore_n (i := 3) (lc' := [(0, va_rf (some t)), (1, .long ((0 : Int64))), (3, .int ((0 : Int32)))]) [1, 2, 0] 4 rfl (by decide +kernel) (by decide +kernel) rfl ?_
  exact h
set_option maxRecDepth 20000 in
set_option maxHeartbeats 4000000 in
theorem bk_Land_liveAgain_90 (g : Gc) {lv : Nat} {t : Nat} {l1 : Option Nat} {l2 : Option Nat} {l3 : Int32} {m : Mm} {Q : Mm → Prop} (h : ∃ b1, l1 = some b1 ∧ (mK m b1 = 4 ∧ (if (mI m b1 9) ≤ (l3) then (Q m) else (if ((30 : Int32)) ≤ (l3) then (Q m) else (∃ b6, mR m b1 5 = some b6 ∧ (mK m b6 = 15 ∧ (vp_in l3 (mN m b6) ∧ (mK m t = 4 ∧ (CV g M_Land_passYear lv [va_rf (some t), .int (mI m b6 l3.toNatClampNeg), va_rf (l2)] m (fun m11 => (At g M_Land_liveAgain (lv + 1) 90 [(0, va_rf (some t)), (1, va_rf (some b1)), (2, va_rf (l2)), (3, .int (l3 + (1 : Int32)))] [] m11 (QV Q)))))))))))) : At g M_Land_liveAgain (lv + 1) 90 [(0, va_rf (some t)), (1, va_rf (l1)), (2, va_rf (l2)), (3, .int (l3))] [] m (QV Q) := by
  refine at_iload_n (i := 3) 3 91 rfl (by decide +kernel) rfl ?_
  refine at_aload_n (i := 1) 1 92 rfl (by decide +kernel) rfl ?_
  obtain ⟨b1, e2, h⟩ := h
  rw [e2]
  obtain ⟨k3, h⟩ := h
  refine at_get (index := 69) (v := .int (mI m b1 9)) cok3 9 95 rfl (by decide +kernel) k3 (by decide +kernel) tw_299 rfl ?_
  refine at_icmp_ge (off := 26) 121 98 rfl (by decide +kernel) (by decide +kernel) (fun c4 => ?_) (fun c4 => ?_)
  · rw [if_pos c4] at h
    exact at_vret rfl (by decide +kernel) h
  · rw [if_neg c4] at h
    refine at_iload_n (i := 3) 3 99 rfl (by decide +kernel) rfl ?_
    refine at_bipush (n := 30) (30 : Int32) 101 rfl (by decide +kernel) (by decide +kernel) ?_
    refine at_icmp_ge (off := 20) 121 104 rfl (by decide +kernel) (by decide +kernel) (fun c5 => ?_) (fun c5 => ?_)
    · rw [if_pos c5] at h
      exact at_vret rfl (by decide +kernel) h
    · rw [if_neg c5] at h
      refine at_aload_n (i := 0) 0 105 rfl (by decide +kernel) rfl ?_
      refine at_aload_n (i := 1) 1 106 rfl (by decide +kernel) rfl ?_
      refine at_get (index := 37) (v := va_rf (mR m b1 5)) cok3 5 109 rfl (by decide +kernel) k3 (by decide +kernel) tw_293 rfl ?_
      refine at_iload_n (i := 3) 3 110 rfl (by decide +kernel) rfl ?_
      obtain ⟨b6, e7, h⟩ := h
      rw [e7]
      obtain ⟨k8, h⟩ := h
      obtain ⟨v9, h⟩ := h
      refine at_iald 111 rfl (by decide +kernel) k8 v9 ?_
      refine at_aload_n (i := 2) 2 112 rfl (by decide +kernel) rfl ?_
      obtain ⟨k10, h⟩ := h
      refine at_callV mb_Land_passYear tw_694 tw_695 cok3 k10 (index := 109) tw_1024 [.int (mI m b6 l3.toNatClampNeg), va_rf (l2)] [] rfl rfl (by decide) 115 rfl (by decide +kernel) (Call.toV (CV.monoE h (fun m11 h y12 => ?_)))
      have k13 : mK m11 b1 = 4 := y12.k k3 (by decide)
      have k14 : mK m11 b6 = 15 := y12.k k8 (by decide)
      have k15 : mK m11 t = 4 := y12.k k10 (by decide)
      refine at_iinc (i := 3) (n := 1) (lc' := [(0, va_rf (some t)), (1, va_rf (some b1)), (2, va_rf (l2)), (3, .int (l3 + (1 : Int32)))]) (l3 + (1 : Int32)) 3 [1, 2, 3, 0] 118 rfl (by decide +kernel) rfl (by rw [show Int32.ofInt 1 = (1 : Int32) from by decide +kernel]) (by decide +kernel) (by generalize l2 = rr; cases rr <;> rfl) ?_
      refine at_goto (off := (-28)) 90 (by decide +kernel) (by decide +kernel) ?_
      exact h
set_option maxRecDepth 20000 in
set_option maxHeartbeats 4000000 in
theorem bk_Land_liveAgain_26 (g : Gc) {lv : Nat} {t : Nat} {l1 : Option Nat} {l2 : Option Nat} {l3 : Int32} {m : Mm} {Q : Mm → Prop} (h : ∃ b1, l1 = some b1 ∧ (mK m b1 = 4 ∧ (if (mI m b1 8) ≤ (l3) then (At g M_Land_liveAgain (lv + 1) 90 [(0, va_rf (some t)), (1, va_rf (some b1)), (2, va_rf (l2)), (3, .int ((0 : Int32)))] [] m (QV Q)) else (∃ b5, mR m b1 1 = some b5 ∧ (mK m b5 = 19 ∧ (vp_in l3 (mN m b5) ∧ (∃ b9, mR m b5 l3.toNatClampNeg = some b9 ∧ (mK m b9 = 2 ∧ (vp_in l3 (mN m b5) ∧ (mK m t = 4 ∧ (CI g M_Land_settle lv [va_rf (some t), .int (mI m b9 3), .int (mI m b9 4)] m (fun x14 m15 => (∃ b21, mR m15 b1 1 = some b21 ∧ (mK m15 b21 = 19 ∧ (vp_in l3 (mN m15 b21) ∧ (∃ b25, mR m15 b21 l3.toNatClampNeg = some b25 ∧ (mK m15 b25 = 2 ∧ (∃ b28, mR m15 t 1 = some b28 ∧ (mK m15 b28 = 19 ∧ (vp_in l3 (mN m15 b28) ∧ (∃ b32, mR m15 b28 l3.toNatClampNeg = some b32 ∧ (mK m15 b32 = 2 ∧ (∃ b35, mR m15 b25 0 = some b35 ∧ (mK m15 b35 = 15 ∧ (∃ b38, mR m15 b32 0 = some b38 ∧ (mK m15 b38 = 15 ∧ (¬ (0 : Int32) < 0 ∧ ¬ (0 : Int32) < 0 ∧ ¬ (30 : Int32) < 0 ∧ (0 : Int32).toNatClampNeg + (30 : Int32).toNatClampNeg ≤ mN m15 b35 ∧ (0 : Int32).toNatClampNeg + (30 : Int32).toNatClampNeg ≤ mN m15 b38 ∧ (∀ m46, m46 = rI m15 b38 (va_cpy (mI m15 b35) (mI m15 b38) (0 : Int32).toNatClampNeg (0 : Int32).toNatClampNeg (30 : Int32).toNatClampNeg) → (At g M_Land_liveAgain (lv + 1) 26 [(0, va_rf (some t)), (1, va_rf (some b1)), (2, va_rf (l2)), (3, .int (l3 + (1 : Int32)))] [] m46 (QV Q)))))))))))))))))))))))))))))) : At g M_Land_liveAgain (lv + 1) 26 [(0, va_rf (some t)), (1, va_rf (l1)), (2, va_rf (l2)), (3, .int (l3))] [] m (QV Q) := by
  refine at_iload_n (i := 3) 3 27 rfl (by decide +kernel) rfl ?_
  refine at_aload_n (i := 1) 1 28 rfl (by decide +kernel) rfl ?_
  obtain ⟨b1, e2, h⟩ := h
  rw [e2]
  obtain ⟨k3, h⟩ := h
  refine at_get (index := 58) (v := .int (mI m b1 8)) cok3 8 31 rfl (by decide +kernel) k3 (by decide +kernel) tw_297 rfl ?_
  refine at_icmp_ge (off := 57) 88 34 rfl (by decide +kernel) (by decide +kernel) (fun c4 => ?_) (fun c4 => ?_)
  · rw [if_pos c4] at h
    refine at_iconst (n := 0) (0 : Int32) 89 rfl (by decide +kernel) (by decide +kernel) ?_
    refine at_istore_n (i := 3) (lc' := [(0, va_rf (some t)), (1, va_rf (some b1)), (2, va_rf (l2)), (3, .int ((0 : Int32)))]) [1, 2, 3, 0] 90 rfl (by decide +kernel) (by decide +kernel) (by generalize l2 = rr; cases rr <;> rfl) ?_
    exact h
  · rw [if_neg c4] at h
    refine at_aload_n (i := 0) 0 35 rfl (by decide +kernel) rfl ?_
    refine at_aload_n (i := 1) 1 36 rfl (by decide +kernel) rfl ?_
    refine at_get (index := 11) (v := va_rf (mR m b1 1)) cok3 1 39 rfl (by decide +kernel) k3 (by decide +kernel) tw_286 rfl ?_
    refine at_iload_n (i := 3) 3 40 rfl (by decide +kernel) rfl ?_
    obtain ⟨b5, e6, h⟩ := h
    rw [e6]
    obtain ⟨k7, h⟩ := h
    obtain ⟨v8, h⟩ := h
    refine at_aaldGrower 41 rfl (by decide +kernel) k7 v8 ?_
    obtain ⟨b9, e10, h⟩ := h
    rw [e10]
    obtain ⟨k11, h⟩ := h
    refine at_get (index := 93) (v := .int (mI m b9 3)) cok1 3 44 rfl (by decide +kernel) k11 (by decide +kernel) tw_213 rfl ?_
    refine at_aload_n (i := 1) 1 45 rfl (by decide +kernel) rfl ?_
    refine at_get (index := 11) (v := va_rf (mR m b1 1)) cok3 1 48 rfl (by decide +kernel) k3 (by decide +kernel) tw_286 rfl ?_
    rw [e6]
    refine at_iload_n (i := 3) 3 49 rfl (by decide +kernel) rfl ?_
    obtain ⟨v12, h⟩ := h
    refine at_aaldGrower 50 rfl (by decide +kernel) k7 v12 ?_
    rw [e10]
    refine at_get (index := 96) (v := .int (mI m b9 4)) cok1 4 53 rfl (by decide +kernel) k11 (by decide +kernel) tw_216 rfl ?_
    obtain ⟨k13, h⟩ := h
    refine at_callV mb_Land_settle tw_483 tw_484 cok3 k13 (index := 99) tw_1022 [.int (mI m b9 3), .int (mI m b9 4)] [] rfl rfl (by decide) 56 rfl (by decide +kernel) (Call.toI (CI.monoE h (fun x14 m15 h y16 => ?_)))
    have k17 : mK m15 b1 = 4 := y16.k k3 (by decide)
    have k18 : mK m15 b5 = 19 := y16.k k7 (by decide)
    have k19 : mK m15 b9 = 2 := y16.k k11 (by decide)
    have k20 : mK m15 t = 4 := y16.k k13 (by decide)
    refine at_pop 57 rfl (by decide +kernel) rfl ?_
    refine at_aload_n (i := 1) 1 58 rfl (by decide +kernel) rfl ?_
    refine at_get (index := 11) (v := va_rf (mR m15 b1 1)) cok3 1 61 rfl (by decide +kernel) k17 (by decide +kernel) tw_286 rfl ?_
    refine at_iload_n (i := 3) 3 62 rfl (by decide +kernel) rfl ?_
    obtain ⟨b21, e22, h⟩ := h
    rw [e22]
    obtain ⟨k23, h⟩ := h
    obtain ⟨v24, h⟩ := h
    refine at_aaldGrower 63 rfl (by decide +kernel) k23 v24 ?_
    obtain ⟨b25, e26, h⟩ := h
    rw [e26]
    obtain ⟨k27, h⟩ := h
    refine at_get (index := 72) (v := va_rf (mR m15 b25 0)) cok1 0 66 rfl (by decide +kernel) k27 (by decide +kernel) tw_207 rfl ?_
    refine at_iconst (n := 0) (0 : Int32) 67 rfl (by decide +kernel) (by decide +kernel) ?_
    refine at_aload_n (i := 0) 0 68 rfl (by decide +kernel) rfl ?_
    refine at_get (index := 11) (v := va_rf (mR m15 t 1)) cok3 1 71 rfl (by decide +kernel) k20 (by decide +kernel) tw_286 rfl ?_
    refine at_iload_n (i := 3) 3 72 rfl (by decide +kernel) rfl ?_
    obtain ⟨b28, e29, h⟩ := h
    rw [e29]
    obtain ⟨k30, h⟩ := h
    obtain ⟨v31, h⟩ := h
    refine at_aaldGrower 73 rfl (by decide +kernel) k30 v31 ?_
    obtain ⟨b32, e33, h⟩ := h
    rw [e33]
    obtain ⟨k34, h⟩ := h
    refine at_get (index := 72) (v := va_rf (mR m15 b32 0)) cok1 0 76 rfl (by decide +kernel) k34 (by decide +kernel) tw_207 rfl ?_
    refine at_iconst (n := 0) (0 : Int32) 77 rfl (by decide +kernel) (by decide +kernel) ?_
    refine at_bipush (n := 30) (30 : Int32) 79 rfl (by decide +kernel) (by decide +kernel) ?_
    obtain ⟨b35, e36, h⟩ := h
    rw [e36]
    obtain ⟨k37, h⟩ := h
    obtain ⟨b38, e39, h⟩ := h
    rw [e39]
    obtain ⟨k40, h⟩ := h
    obtain ⟨c41, c42, c43, c44, c45, h⟩ := h
    refine at_copyI 82 rfl (by decide +kernel) tw_1023 tw_655 tw_654 tw_82 k37 k40 c41 c42 c43 c44 c45 (by decide) (fun m46 e47 => ?_)
    replace h := h m46 e47
    have k48 : mK m46 b1 = 4 := by rw [e47]; exact k17
    have k49 : mK m46 b5 = 19 := by rw [e47]; exact k18
    have k50 : mK m46 b9 = 2 := by rw [e47]; exact k19
    have k51 : mK m46 t = 4 := by rw [e47]; exact k20
    have k52 : mK m46 b21 = 19 := by rw [e47]; exact k23
    have k53 : mK m46 b25 = 2 := by rw [e47]; exact k27
    have k54 : mK m46 b28 = 19 := by rw [e47]; exact k30
    have k55 : mK m46 b32 = 2 := by rw [e47]; exact k34
    have k56 : mK m46 b35 = 15 := by rw [e47]; exact k37
    have k57 : mK m46 b38 = 15 := by rw [e47]; exact k40
    refine at_iinc (i := 3) (n := 1) (lc' := [(0, va_rf (some t)), (1, va_rf (some b1)), (2, va_rf (l2)), (3, .int (l3 + (1 : Int32)))]) (l3 + (1 : Int32)) 3 [1, 2, 3, 0] 85 rfl (by decide +kernel) rfl (by rw [show Int32.ofInt 1 = (1 : Int32) from by decide +kernel]) (by decide +kernel) (by generalize l2 = rr; cases rr <;> rfl) ?_
    refine at_goto (off := (-59)) 26 (by decide +kernel) (by decide +kernel) ?_
    exact h
set_option maxRecDepth 20000 in
set_option maxHeartbeats 4000000 in
theorem en_Land_liveAgain (g : Gc) {lv : Nat} {t : Nat} {l1 : Option Nat} {l2 : Option Nat} {m : Mm} {Q : Mm → Prop} (h : mK m t = 4 ∧ (∀ m2, m2 = sI m t 9 (0 : Int32) → (∀ m5, m5 = sI m2 t 10 (100 : Int32) → (∃ b8, mR m5 t 3 = some b8 ∧ (mK m5 b8 = 9 ∧ (∀ m11, m11 = sI m5 b8 1 (0 : Int32) → (∀ m15, m15 = sI m11 t 8 (0 : Int32) → (At g M_Land_liveAgain (lv + 1) 26 [(0, va_rf (some t)), (1, va_rf (l1)), (2, va_rf (l2)), (3, .int ((0 : Int32)))] [] m15 (QV Q))))))))) : CV g M_Land_liveAgain (lv + 1) [va_rf (some t), va_rf (l1), va_rf (l2)] m Q := by
  refine Call.of (by decide +kernel) (by simp [lg_sl, va_rf_cat, cat_int, cat_long, M_Land_liveAgain]) ?_
  rw [show lv_args 0 [va_rf (some t), va_rf (l1), va_rf (l2)] = [(0, va_rf (some t)), (1, va_rf (l1)), (2, va_rf (l2))] from by simp [lv_args, va_rf_cat, cat_int, cat_long]]
  refine at_aload_n (i := 0) 0 1 rfl (by decide +kernel) rfl ?_
  refine at_iconst (n := 0) (0 : Int32) 2 rfl (by decide +kernel) (by decide +kernel) ?_
  obtain ⟨k1, h⟩ := h
  refine at_putI (index := 69) cok3 9 5 rfl (by decide +kernel) k1 (by decide +kernel) tw_299 rfl rfl rfl (fun m2 e3 => ?_)
  replace h := h m2 e3
  have k4 : mK m2 t = 4 := by rw [e3]; exact k1
  refine at_aload_n (i := 0) 0 6 rfl (by decide +kernel) rfl ?_
  refine at_bipush (n := 100) (100 : Int32) 8 rfl (by decide +kernel) (by decide +kernel) ?_
  refine at_putI (index := 48) cok3 10 11 rfl (by decide +kernel) k4 (by decide +kernel) tw_301 rfl rfl rfl (fun m5 e6 => ?_)
  replace h := h m5 e6
  have k7 : mK m5 t = 4 := by rw [e6]; exact k4
  refine at_aload_n (i := 0) 0 12 rfl (by decide +kernel) rfl ?_
  refine at_get (index := 26) (v := va_rf (mR m5 t 3)) cok3 3 15 rfl (by decide +kernel) k7 (by decide +kernel) tw_290 rfl ?_
  refine at_iconst (n := 0) (0 : Int32) 16 rfl (by decide +kernel) (by decide +kernel) ?_
  obtain ⟨b8, e9, h⟩ := h
  rw [e9]
  obtain ⟨k10, h⟩ := h
  refine at_putI (index := 90) cok8 1 19 rfl (by decide +kernel) k10 (by decide +kernel) tw_154 rfl rfl rfl (fun m11 e12 => ?_)
  replace h := h m11 e12
  have k13 : mK m11 t = 4 := by rw [e12]; exact k7
  have k14 : mK m11 b8 = 9 := by rw [e12]; exact k10
  refine at_aload_n (i := 0) 0 20 rfl (by decide +kernel) rfl ?_
  refine at_iconst (n := 0) (0 : Int32) 21 rfl (by decide +kernel) (by decide +kernel) ?_
  refine at_putI (index := 58) cok3 8 24 rfl (by decide +kernel) k13 (by decide +kernel) tw_297 rfl rfl rfl (fun m15 e16 => ?_)
  replace h := h m15 e16
  have k17 : mK m15 t = 4 := by rw [e16]; exact k13
  have k18 : mK m15 b8 = 9 := by rw [e16]; exact k14
  refine at_iconst (n := 0) (0 : Int32) 25 rfl (by decide +kernel) (by decide +kernel) ?_
  refine at_istore_n (i := 3) (lc' := [(0, va_rf (some t)), (1, va_rf (l1)), (2, va_rf (l2)), (3, .int ((0 : Int32)))]) [1, 2, 3, 0] 26 rfl (by decide +kernel) (by decide +kernel) (by generalize l2 = rr; cases rr <;> rfl) ?_
  exact h
set_option maxRecDepth 20000 in
set_option maxHeartbeats 4000000 in
theorem en_Land_passYear (g : Gc) {lv : Nat} {t : Nat} {l1 : Int32} {l2 : Option Nat} {m : Mm} {Q : Mm → Prop} (h : mK m t = 4 ∧ (CI g M_SL_isWithin lv [.int (mI m t 9), .int ((0 : Int32)), .int ((29 : Int32))] m (fun x2 m3 => (if (x2) = 0 then (Q m3) else (∃ b7, mR m3 t 3 = some b7 ∧ (mK m3 b7 = 9 ∧ (∃ b10, mR m3 t 0 = some b10 ∧ (mK m3 b10 = 11 ∧ (CI g M_Terms_wantedAt lv [va_rf (some b10), .int (mI m3 t 10)] m3 (fun x13 m14 => (∀ m19, m19 = sI m14 t 11 x13 → (∃ b24, mR m19 t 5 = some b24 ∧ (mK m19 b24 = 15 ∧ (vp_in (mI m19 t 9) (mN m19 b24) ∧ (∀ m28, m28 = sI m19 b24 (mI m19 t 9).toNatClampNeg l1 → (CV g M_Land_gatherCrops lv [va_rf (some t), .int (l1)] m28 (fun m34 => (CV g M_Land_applyLaw lv [va_rf (some t), va_rf (l2)] m34 (fun m40 => (CV g M_Land_keepParts lv [va_rf (some t)] m40 (fun m46 => (CV g M_Land_sellStored lv [va_rf (some t), .int (mI m3 b7 1)] m46 (fun m52 => (CV g M_Land_stillStored lv [va_rf (some t)] m52 (fun m58 => (CJ g M_Land_freeInAll lv [va_rf (some t)] m58 (fun x64 m65 => (CV g M_Land_sellFree lv [va_rf (some t), .long (x64)] m65 (fun m71 => (CV g M_Land_stillFree lv [va_rf (some t)] m71 (fun m77 => (∃ b83, mR m77 t 7 = some b83 ∧ (mK m77 b83 = 16 ∧ (vp_in (6 : Int32) (mN m77 b83) ∧ (∃ b87, mR m77 t 0 = some b87 ∧ (mK m77 b87 = 11 ∧ (∃ b90, mR m77 t 3 = some b90 ∧ (mK m77 b90 = 9 ∧ (CJ g M_Store_rot lv [va_rf (some b90), .int (mI m77 b87 6)] m77 (fun x93 m94 => (vp_in (6 : Int32) (mN m94 b83) ∧ (∀ m104, m104 = sL m94 b83 (6 : Int32).toNatClampNeg ((mL m77 b83 (6 : Int32).toNatClampNeg) + x93) → (CV g M_Land_movePrice lv [va_rf (some t), .long (x64)] m104 (fun m113 => (CV g M_Land_tendVines lv [va_rf (some t)] m113 (fun m122 => (CV g M_Land_settleLoans lv [va_rf (some t)] m122 (fun m131 => (∀ m140, m140 = sI m131 t 9 ((mI m131 t 9) + (1 : Int32)) → (Q m140)))))))))))))))))))))))))))))))))))))))))))))))))) : CV g M_Land_passYear (lv + 1) [va_rf (some t), .int (l1), va_rf (l2)] m Q := by
  refine Call.of (by decide +kernel) (by simp [lg_sl, va_rf_cat, cat_int, cat_long, M_Land_passYear]) ?_
  rw [show lv_args 0 [va_rf (some t), .int (l1), va_rf (l2)] = [(0, va_rf (some t)), (1, .int (l1)), (2, va_rf (l2))] from by simp [lv_args, va_rf_cat, cat_int, cat_long]]
  refine at_aload_n (i := 0) 0 1 rfl (by decide +kernel) rfl ?_
  obtain ⟨k1, h⟩ := h
  refine at_get (index := 69) (v := .int (mI m t 9)) cok3 9 4 rfl (by decide +kernel) k1 (by decide +kernel) tw_299 rfl ?_
  refine at_iconst (n := 0) (0 : Int32) 5 rfl (by decide +kernel) (by decide +kernel) ?_
  refine at_bipush (n := 29) (29 : Int32) 7 rfl (by decide +kernel) (by decide +kernel) ?_
  refine at_callSN mb_SL_isWithin tw_471 (index := 79) (host := "SurplusLand") (by decide +kernel) [.int (mI m t 9), .int ((0 : Int32)), .int ((29 : Int32))] [] rfl rfl (by decide) 10 rfl (by decide +kernel) (Call.toI (CI.monoE h (fun x2 m3 h y4 => ?_)))
  have k5 : mK m3 t = 4 := y4.k k1 (by decide)
  refine at_if_ne (off := 4) 14 13 rfl (by decide +kernel) (by decide +kernel) (fun c6 => ?_) (fun c6 => ?_)
  · rw [if_neg c6] at h
    refine at_aload_n (i := 0) 0 15 rfl (by decide +kernel) rfl ?_
    refine at_get (index := 26) (v := va_rf (mR m3 t 3)) cok3 3 18 rfl (by decide +kernel) k5 (by decide +kernel) tw_290 rfl ?_
    obtain ⟨b7, e8, h⟩ := h
    rw [e8]
    obtain ⟨k9, h⟩ := h
    refine at_get (index := 90) (v := .int (mI m3 b7 1)) cok8 1 21 rfl (by decide +kernel) k9 (by decide +kernel) tw_154 rfl ?_
    refine at_istore_n (i := 3) (lc' := [(0, va_rf (some t)), (1, .int (l1)), (2, va_rf (l2)), (3, .int (mI m3 b7 1))]) [1, 2, 3, 0] 22 rfl (by decide +kernel) (by decide +kernel) (by generalize l2 = rr; cases rr <;> rfl) ?_
    refine at_aload_n (i := 0) 0 23 rfl (by decide +kernel) rfl ?_
    refine at_aload_n (i := 0) 0 24 rfl (by decide +kernel) rfl ?_
    refine at_get (index := 52) (v := va_rf (mR m3 t 0)) cok3 0 27 rfl (by decide +kernel) k5 (by decide +kernel) tw_285 rfl ?_
    refine at_aload_n (i := 0) 0 28 rfl (by decide +kernel) rfl ?_
    refine at_get (index := 48) (v := .int (mI m3 t 10)) cok3 10 31 rfl (by decide +kernel) k5 (by decide +kernel) tw_301 rfl ?_
    obtain ⟨b10, e11, h⟩ := h
    rw [e11]
    obtain ⟨k12, h⟩ := h
    refine at_callV mb_Terms_wantedAt tw_699 tw_700 cok10 k12 (index := 113) tw_698 [.int (mI m3 t 10)] [va_rf (some t)] rfl rfl (by simp [va_rf_cat, cat_int, cat_long]) 34 rfl (by decide +kernel) (Call.toI (CI.monoE h (fun x13 m14 h y15 => ?_)))
    have k16 : mK m14 t = 4 := y15.k k5 (by decide)
    have k17 : mK m14 b7 = 9 := y15.k k9 (by decide)
    have k18 : mK m14 b10 = 11 := y15.k k12 (by decide)
    refine at_putI (index := 119) cok3 11 37 rfl (by decide +kernel) k16 (by decide +kernel) tw_303 rfl rfl rfl (fun m19 e20 => ?_)
    replace h := h m19 e20
    have k21 : mK m19 t = 4 := by rw [e20]; exact k16
    have k22 : mK m19 b7 = 9 := by rw [e20]; exact k17
    have k23 : mK m19 b10 = 11 := by rw [e20]; exact k18
    refine at_aload_n (i := 0) 0 38 rfl (by decide +kernel) rfl ?_
    refine at_get (index := 37) (v := va_rf (mR m19 t 5)) cok3 5 41 rfl (by decide +kernel) k21 (by decide +kernel) tw_293 rfl ?_
    refine at_aload_n (i := 0) 0 42 rfl (by decide +kernel) rfl ?_
    refine at_get (index := 69) (v := .int (mI m19 t 9)) cok3 9 45 rfl (by decide +kernel) k21 (by decide +kernel) tw_299 rfl ?_
    refine at_iload_n (i := 1) 1 46 rfl (by decide +kernel) rfl ?_
    obtain ⟨b24, e25, h⟩ := h
    rw [e25]
    obtain ⟨k26, h⟩ := h
    obtain ⟨v27, h⟩ := h
    refine at_iast 47 rfl (by decide +kernel) k26 v27 (fun m28 e29 => ?_)
    replace h := h m28 e29
    have k30 : mK m28 t = 4 := by rw [e29]; exact k21
    have k31 : mK m28 b7 = 9 := by rw [e29]; exact k22
    have k32 : mK m28 b10 = 11 := by rw [e29]; exact k23
    have k33 : mK m28 b24 = 15 := by rw [e29]; exact k26
    refine at_aload_n (i := 0) 0 48 rfl (by decide +kernel) rfl ?_
    refine at_iload_n (i := 1) 1 49 rfl (by decide +kernel) rfl ?_
    refine at_callV mb_Land_gatherCrops tw_708 tw_15 cok3 k30 (index := 122) tw_706 [.int (l1)] [] rfl rfl (by decide) 52 rfl (by decide +kernel) (Call.toV (CV.monoE h (fun m34 h y35 => ?_)))
    have k36 : mK m34 t = 4 := y35.k k30 (by decide)
    have k37 : mK m34 b7 = 9 := y35.k k31 (by decide)
    have k38 : mK m34 b10 = 11 := y35.k k32 (by decide)
    have k39 : mK m34 b24 = 15 := y35.k k33 (by decide)
    refine at_aload_n (i := 0) 0 53 rfl (by decide +kernel) rfl ?_
    refine at_aload_n (i := 2) 2 54 rfl (by decide +kernel) rfl ?_
    refine at_callV mb_Land_applyLaw tw_712 tw_16 cok3 k36 (index := 126) tw_710 [va_rf (l2)] [] rfl rfl (by decide) 57 rfl (by decide +kernel) (Call.toV (CV.monoE h (fun m40 h y41 => ?_)))
    have k42 : mK m40 t = 4 := y41.k k36 (by decide)
    have k43 : mK m40 b7 = 9 := y41.k k37 (by decide)
    have k44 : mK m40 b10 = 11 := y41.k k38 (by decide)
    have k45 : mK m40 b24 = 15 := y41.k k39 (by decide)
    refine at_aload_n (i := 0) 0 58 rfl (by decide +kernel) rfl ?_
    refine at_callV mb_Land_keepParts tw_752 tw_19 cok3 k42 (index := 130) tw_750 [] [] rfl rfl (by decide) 61 rfl (by decide +kernel) (Call.toV (CV.monoE h (fun m46 h y47 => ?_)))
    have k48 : mK m46 t = 4 := y47.k k42 (by decide)
    have k49 : mK m46 b7 = 9 := y47.k k43 (by decide)
    have k50 : mK m46 b10 = 11 := y47.k k44 (by decide)
    have k51 : mK m46 b24 = 15 := y47.k k45 (by decide)
    refine at_aload_n (i := 0) 0 62 rfl (by decide +kernel) rfl ?_
    refine at_iload_n (i := 3) 3 63 rfl (by decide +kernel) rfl ?_
    refine at_callV mb_Land_sellStored tw_803 tw_20 cok3 k48 (index := 133) tw_801 [.int (mI m3 b7 1)] [] rfl rfl (by decide) 66 rfl (by decide +kernel) (Call.toV (CV.monoE h (fun m52 h y53 => ?_)))
    have k54 : mK m52 t = 4 := y53.k k48 (by decide)
    have k55 : mK m52 b7 = 9 := y53.k k49 (by decide)
    have k56 : mK m52 b10 = 11 := y53.k k50 (by decide)
    have k57 : mK m52 b24 = 15 := y53.k k51 (by decide)
    refine at_aload_n (i := 0) 0 67 rfl (by decide +kernel) rfl ?_
    refine at_callV mb_Land_stillStored tw_812 tw_21 cok3 k54 (index := 136) tw_810 [] [] rfl rfl (by decide) 70 rfl (by decide +kernel) (Call.toV (CV.monoE h (fun m58 h y59 => ?_)))
    have k60 : mK m58 t = 4 := y59.k k54 (by decide)
    have k61 : mK m58 b7 = 9 := y59.k k55 (by decide)
    have k62 : mK m58 b10 = 11 := y59.k k56 (by decide)
    have k63 : mK m58 b24 = 15 := y59.k k57 (by decide)
    refine at_aload_n (i := 0) 0 71 rfl (by decide +kernel) rfl ?_
    refine at_callV mb_Land_freeInAll tw_815 tw_816 cok3 k60 (index := 139) tw_814 [] [] rfl rfl (by decide) 74 rfl (by decide +kernel) (Call.toJ (CJ.monoE h (fun x64 m65 h y66 => ?_)))
    have k67 : mK m65 t = 4 := y66.k k60 (by decide)
    have k68 : mK m65 b7 = 9 := y66.k k61 (by decide)
    have k69 : mK m65 b10 = 11 := y66.k k62 (by decide)
    have k70 : mK m65 b24 = 15 := y66.k k63 (by decide)
    refine at_lstore (i := 4) (lc' := [(0, va_rf (some t)), (4, .long (x64))]) [1, 0] 76 rfl (by decide +kernel) (by decide +kernel) rfl ?_
    refine at_aload_n (i := 0) 0 77 rfl (by decide +kernel) rfl ?_
    refine at_lload (i := 4) 1 79 rfl (by decide +kernel) rfl ?_
    refine at_callV mb_Land_sellFree tw_820 tw_22 cok3 k67 (index := 143) tw_818 [.long (x64)] [] rfl rfl (by decide) 82 rfl (by decide +kernel) (Call.toV (CV.monoE h (fun m71 h y72 => ?_)))
    have k73 : mK m71 t = 4 := y72.k k67 (by decide)
    have k74 : mK m71 b7 = 9 := y72.k k68 (by decide)
    have k75 : mK m71 b10 = 11 := y72.k k69 (by decide)
    have k76 : mK m71 b24 = 15 := y72.k k70 (by decide)
    refine at_aload_n (i := 0) 0 83 rfl (by decide +kernel) rfl ?_
    refine at_callV mb_Land_stillFree tw_832 tw_24 cok3 k73 (index := 147) tw_830 [] [] rfl rfl (by decide) 86 rfl (by decide +kernel) (Call.toV (CV.monoE h (fun m77 h y78 => ?_)))
    have k79 : mK m77 t = 4 := y78.k k73 (by decide)
    have k80 : mK m77 b7 = 9 := y78.k k74 (by decide)
    have k81 : mK m77 b10 = 11 := y78.k k75 (by decide)
    have k82 : mK m77 b24 = 15 := y78.k k76 (by decide)
    refine at_aload_n (i := 0) 0 87 rfl (by decide +kernel) rfl ?_
    refine at_get (index := 44) (v := va_rf (mR m77 t 7)) cok3 7 90 rfl (by decide +kernel) k79 (by decide +kernel) tw_295 rfl ?_
    refine at_bipush (n := 6) (6 : Int32) 92 rfl (by decide +kernel) (by decide +kernel) ?_
    refine at_dup2_11 93 rfl (by decide +kernel) rfl (va_rf_cat _) ?_
    obtain ⟨b83, e84, h⟩ := h
    rw [e84]
    obtain ⟨k85, h⟩ := h
    obtain ⟨v86, h⟩ := h
    refine at_lald 94 rfl (by decide +kernel) k85 v86 ?_
    refine at_aload_n (i := 0) 0 95 rfl (by decide +kernel) rfl ?_
    refine at_get (index := 26) (v := va_rf (mR m77 t 3)) cok3 3 98 rfl (by decide +kernel) k79 (by decide +kernel) tw_290 rfl ?_
    refine at_aload_n (i := 0) 0 99 rfl (by decide +kernel) rfl ?_
    refine at_get (index := 52) (v := va_rf (mR m77 t 0)) cok3 0 102 rfl (by decide +kernel) k79 (by decide +kernel) tw_285 rfl ?_
    obtain ⟨b87, e88, h⟩ := h
    rw [e88]
    obtain ⟨k89, h⟩ := h
    refine at_get (index := 150) (v := .int (mI m77 b87 6)) cok10 6 105 rfl (by decide +kernel) k89 (by decide +kernel) tw_117 rfl ?_
    obtain ⟨b90, e91, h⟩ := h
    rw [e91]
    obtain ⟨k92, h⟩ := h
    refine at_callV mb_Store_rot tw_836 tw_837 cok8 k92 (index := 153) tw_835 [.int (mI m77 b87 6)] [.long (mL m77 b83 (6 : Int32).toNatClampNeg), .int ((6 : Int32)), va_rf (some b83)] rfl rfl (by simp [va_rf_cat, cat_int, cat_long]) 108 rfl (by decide +kernel) (Call.toJ (CJ.monoE h (fun x93 m94 h y95 => ?_)))
    have k96 : mK m94 t = 4 := y95.k k79 (by decide)
    have k97 : mK m94 b7 = 9 := y95.k k80 (by decide)
    have k98 : mK m94 b10 = 11 := y95.k k81 (by decide)
    have k99 : mK m94 b24 = 15 := y95.k k82 (by decide)
    have k100 : mK m94 b83 = 16 := y95.k k85 (by decide)
    have k101 : mK m94 b87 = 11 := y95.k k89 (by decide)
    have k102 : mK m94 b90 = 9 := y95.k k92 (by decide)
    refine at_ladd 109 rfl (by decide +kernel) ?_
    obtain ⟨v103, h⟩ := h
    refine at_last 110 rfl (by decide +kernel) k100 v103 (fun m104 e105 => ?_)
    replace h := h m104 e105
    have k106 : mK m104 t = 4 := by rw [e105]; exact k96
    have k107 : mK m104 b7 = 9 := by rw [e105]; exact k97
    have k108 : mK m104 b10 = 11 := by rw [e105]; exact k98
    have k109 : mK m104 b24 = 15 := by rw [e105]; exact k99
    have k110 : mK m104 b83 = 16 := by rw [e105]; exact k100
    have k111 : mK m104 b87 = 11 := by rw [e105]; exact k101
    have k112 : mK m104 b90 = 9 := by rw [e105]; exact k102
    refine at_aload_n (i := 0) 0 111 rfl (by decide +kernel) rfl ?_
    refine at_lload (i := 4) 1 113 rfl (by decide +kernel) rfl ?_
    refine at_callV mb_Land_movePrice tw_842 tw_25 cok3 k106 (index := 157) tw_840 [.long (x64)] [] rfl rfl (by decide) 116 rfl (by decide +kernel) (Call.toV (CV.monoE h (fun m113 h y114 => ?_)))
    have k115 : mK m113 t = 4 := y114.k k106 (by decide)
    have k116 : mK m113 b7 = 9 := y114.k k107 (by decide)
    have k117 : mK m113 b10 = 11 := y114.k k108 (by decide)
    have k118 : mK m113 b24 = 15 := y114.k k109 (by decide)
    have k119 : mK m113 b83 = 16 := y114.k k110 (by decide)
    have k120 : mK m113 b87 = 11 := y114.k k111 (by decide)
    have k121 : mK m113 b90 = 9 := y114.k k112 (by decide)
    refine at_aload_n (i := 0) 0 117 rfl (by decide +kernel) rfl ?_
    refine at_callV mb_Land_tendVines tw_848 tw_26 cok3 k115 (index := 160) tw_846 [] [] rfl rfl (by decide) 120 rfl (by decide +kernel) (Call.toV (CV.monoE h (fun m122 h y123 => ?_)))
    have k124 : mK m122 t = 4 := y123.k k115 (by decide)
    have k125 : mK m122 b7 = 9 := y123.k k116 (by decide)
    have k126 : mK m122 b10 = 11 := y123.k k117 (by decide)
    have k127 : mK m122 b24 = 15 := y123.k k118 (by decide)
    have k128 : mK m122 b83 = 16 := y123.k k119 (by decide)
    have k129 : mK m122 b87 = 11 := y123.k k120 (by decide)
    have k130 : mK m122 b90 = 9 := y123.k k121 (by decide)
    refine at_aload_n (i := 0) 0 121 rfl (by decide +kernel) rfl ?_
    refine at_callV mb_Land_settleLoans tw_862 tw_27 cok3 k124 (index := 163) tw_860 [] [] rfl rfl (by decide) 124 rfl (by decide +kernel) (Call.toV (CV.monoE h (fun m131 h y132 => ?_)))
    have k133 : mK m131 t = 4 := y132.k k124 (by decide)
    have k134 : mK m131 b7 = 9 := y132.k k125 (by decide)
    have k135 : mK m131 b10 = 11 := y132.k k126 (by decide)
    have k136 : mK m131 b24 = 15 := y132.k k127 (by decide)
    have k137 : mK m131 b83 = 16 := y132.k k128 (by decide)
    have k138 : mK m131 b87 = 11 := y132.k k129 (by decide)
    have k139 : mK m131 b90 = 9 := y132.k k130 (by decide)
    refine at_aload_n (i := 0) 0 125 rfl (by decide +kernel) rfl ?_
    refine at_dup 126 rfl (by decide +kernel) (va_rf_cat _) ?_
    refine at_get (index := 69) (v := .int (mI m131 t 9)) cok3 9 129 rfl (by decide +kernel) k133 (by decide +kernel) tw_299 rfl ?_
    refine at_iconst (n := 1) (1 : Int32) 130 rfl (by decide +kernel) (by decide +kernel) ?_
    refine at_iadd 131 rfl (by decide +kernel) ?_
    refine at_putI (index := 69) cok3 9 134 rfl (by decide +kernel) k133 (by decide +kernel) tw_299 rfl rfl rfl (fun m140 e141 => ?_)
    replace h := h m140 e141
    have k142 : mK m140 t = 4 := by rw [e141]; exact k133
    have k143 : mK m140 b7 = 9 := by rw [e141]; exact k134
    have k144 : mK m140 b10 = 11 := by rw [e141]; exact k135
    have k145 : mK m140 b24 = 15 := by rw [e141]; exact k136
    have k146 : mK m140 b83 = 16 := by rw [e141]; exact k137
    have k147 : mK m140 b87 = 11 := by rw [e141]; exact k138
    have k148 : mK m140 b90 = 9 := by rw [e141]; exact k139
    exact at_vret rfl (by decide +kernel) h
  · rw [if_pos c6] at h
    exact at_vret rfl (by decide +kernel) h
set_option maxRecDepth 20000 in
set_option maxHeartbeats 4000000 in
theorem bk_Land_gatherCrops_48 (g : Gc) {lv : Nat} {t : Nat} {l1 : Int32} {l2 : Int32} {l3 : Option Nat} {s0 : Int32} {m : Mm} {Q : Mm → Prop} (h : ∃ b1, l3 = some b1 ∧ (mK m b1 = 2 ∧ (mK m t = 4 ∧ (∃ b5, mR m b1 1 = some b5 ∧ (mK m b5 = 15 ∧ (vp_in (mI m t 9) (mN m b5) ∧ (∀ m9, m9 = sI m b5 (mI m t 9).toNatClampNeg s0 → (∀ m14, m14 = sI m9 b1 9 ((mI m9 b1 9) + s0) → (∃ b19, mR m14 t 7 = some b19 ∧ (mK m14 b19 = 16 ∧ (vp_in (0 : Int32) (mN m14 b19) ∧ (vp_in (0 : Int32) (mN m14 b19) ∧ (∀ m24, m24 = sL m14 b19 (0 : Int32).toNatClampNeg ((mL m14 b19 (0 : Int32).toNatClampNeg) + s0.toInt64) → (At g M_Land_gatherCrops (lv + 1) 2 [(0, va_rf (some t)), (1, .int (l1)), (2, .int (l2 + (1 : Int32)))] [] m24 (QV Q))))))))))))))) : At g M_Land_gatherCrops (lv + 1) 48 [(0, va_rf (some t)), (1, .int (l1)), (2, .int (l2)), (3, va_rf (l3))] [.int (s0)] m (QV Q) := by
  refine at_istore (i := 4) (lc' := [(0, va_rf (some t)), (1, .int (l1)), (2, .int (l2)), (3, va_rf (l3)), (4, .int (s0))]) [1, 2, 3, 4, 0] 50 rfl (by decide +kernel) (by decide +kernel) (by generalize l3 = rr; cases rr <;> rfl) ?_
  refine at_aload_n (i := 3) 3 51 rfl (by decide +kernel) rfl ?_
  obtain ⟨b1, e2, h⟩ := h
  rw [e2]
  obtain ⟨k3, h⟩ := h
  refine at_get (index := 166) (v := va_rf (mR m b1 1)) cok1 1 54 rfl (by decide +kernel) k3 (by decide +kernel) tw_209 rfl ?_
  refine at_aload_n (i := 0) 0 55 rfl (by decide +kernel) rfl ?_
  obtain ⟨k4, h⟩ := h
  refine at_get (index := 69) (v := .int (mI m t 9)) cok3 9 58 rfl (by decide +kernel) k4 (by decide +kernel) tw_299 rfl ?_
  refine at_iload (i := 4) 4 60 rfl (by decide +kernel) rfl ?_
  obtain ⟨b5, e6, h⟩ := h
  rw [e6]
  obtain ⟨k7, h⟩ := h
  obtain ⟨v8, h⟩ := h
  refine at_iast 61 rfl (by decide +kernel) k7 v8 (fun m9 e10 => ?_)
  replace h := h m9 e10
  have k11 : mK m9 b1 = 2 := by rw [e10]; exact k3
  have k12 : mK m9 t = 4 := by rw [e10]; exact k4
  have k13 : mK m9 b5 = 15 := by rw [e10]; exact k7
  refine at_aload_n (i := 3) 3 62 rfl (by decide +kernel) rfl ?_
  refine at_dup 63 rfl (by decide +kernel) (va_rf_cat _) ?_
  refine at_get (index := 84) (v := .int (mI m9 b1 9)) cok1 9 66 rfl (by decide +kernel) k11 (by decide +kernel) tw_227 rfl ?_
  refine at_iload (i := 4) 4 68 rfl (by decide +kernel) rfl ?_
  refine at_iadd 69 rfl (by decide +kernel) ?_
  refine at_putI (index := 84) cok1 9 72 rfl (by decide +kernel) k11 (by decide +kernel) tw_227 rfl rfl rfl (fun m14 e15 => ?_)
  replace h := h m14 e15
  have k16 : mK m14 b1 = 2 := by rw [e15]; exact k11
  have k17 : mK m14 t = 4 := by rw [e15]; exact k12
  have k18 : mK m14 b5 = 15 := by rw [e15]; exact k13
  refine at_aload_n (i := 0) 0 73 rfl (by decide +kernel) rfl ?_
  refine at_get (index := 44) (v := va_rf (mR m14 t 7)) cok3 7 76 rfl (by decide +kernel) k17 (by decide +kernel) tw_295 rfl ?_
  refine at_iconst (n := 0) (0 : Int32) 77 rfl (by decide +kernel) (by decide +kernel) ?_
  refine at_dup2_11 78 rfl (by decide +kernel) rfl (va_rf_cat _) ?_
  obtain ⟨b19, e20, h⟩ := h
  rw [e20]
  obtain ⟨k21, h⟩ := h
  obtain ⟨v22, h⟩ := h
  refine at_lald 79 rfl (by decide +kernel) k21 v22 ?_
  refine at_iload (i := 4) 4 81 rfl (by decide +kernel) rfl ?_
  refine at_i2l 82 rfl (by decide +kernel) ?_
  refine at_ladd 83 rfl (by decide +kernel) ?_
  obtain ⟨v23, h⟩ := h
  refine at_last 84 rfl (by decide +kernel) k21 v23 (fun m24 e25 => ?_)
  replace h := h m24 e25
  have k26 : mK m24 b1 = 2 := by rw [e25]; exact k16
  have k27 : mK m24 t = 4 := by rw [e25]; exact k17
  have k28 : mK m24 b5 = 15 := by rw [e25]; exact k18
  have k29 : mK m24 b19 = 16 := by rw [e25]; exact k21
  refine at_iinc (i := 2) (n := 1) (lc' := [(0, va_rf (some t)), (1, .int (l1)), (2, .int (l2 + (1 : Int32)))]) (l2 + (1 : Int32)) 2 [1, 2, 0] 87 rfl (by decide +kernel) rfl (by rw [show Int32.ofInt 1 = (1 : Int32) from by decide +kernel]) (by decide +kernel) rfl ?_
  refine at_goto (off := (-85)) 2 (by decide +kernel) (by decide +kernel) ?_
  exact h
set_option maxRecDepth 20000 in
set_option maxHeartbeats 4000000 in
theorem bk_Land_gatherCrops_2 (g : Gc) {lv : Nat} {t : Nat} {l1 : Int32} {l2 : Int32} {m : Mm} {Q : Mm → Prop} (h : mK m t = 4 ∧ (if (mI m t 8) ≤ (l2) then (Q m) else (∃ b3, mR m t 1 = some b3 ∧ (mK m b3 = 19 ∧ (vp_in l2 (mN m b3) ∧ (∃ b7, mR m b3 l2.toNatClampNeg = some b7 ∧ (mK m b7 = 2 ∧ (∃ b10, mR m b7 0 = some b10 ∧ (mK m b10 = 15 ∧ (vp_in (mI m t 9) (mN m b10) ∧ (if (mI m b10 (mI m t 9).toNatClampNeg) = ((-1 : Int32)) then (At g M_Land_gatherCrops (lv + 1) 48 [(0, va_rf (some t)), (1, .int (l1)), (2, .int (l2)), (3, va_rf (some b7))] [.int ((mI m b7 5) * l1)] m (QV Q)) else (vp_in (mI m t 9) (mN m b10) ∧ (At g M_Land_gatherCrops (lv + 1) 48 [(0, va_rf (some t)), (1, .int (l1)), (2, .int (l2)), (3, va_rf (some b7))] [.int (mI m b10 (mI m t 9).toNatClampNeg)] m (QV Q)))))))))))))) : At g M_Land_gatherCrops (lv + 1) 2 [(0, va_rf (some t)), (1, .int (l1)), (2, .int (l2))] [] m (QV Q) := by
  refine at_iload_n (i := 2) 2 3 rfl (by decide +kernel) rfl ?_
  refine at_aload_n (i := 0) 0 4 rfl (by decide +kernel) rfl ?_
  obtain ⟨k1, h⟩ := h
  refine at_get (index := 58) (v := .int (mI m t 8)) cok3 8 7 rfl (by decide +kernel) k1 (by decide +kernel) tw_297 rfl ?_
  refine at_icmp_ge (off := 83) 90 10 rfl (by decide +kernel) (by decide +kernel) (fun c2 => ?_) (fun c2 => ?_)
  · rw [if_pos c2] at h
    exact at_vret rfl (by decide +kernel) h
  · rw [if_neg c2] at h
    refine at_aload_n (i := 0) 0 11 rfl (by decide +kernel) rfl ?_
    refine at_get (index := 11) (v := va_rf (mR m t 1)) cok3 1 14 rfl (by decide +kernel) k1 (by decide +kernel) tw_286 rfl ?_
    refine at_iload_n (i := 2) 2 15 rfl (by decide +kernel) rfl ?_
    obtain ⟨b3, e4, h⟩ := h
    rw [e4]
    obtain ⟨k5, h⟩ := h
    obtain ⟨v6, h⟩ := h
    refine at_aaldGrower 16 rfl (by decide +kernel) k5 v6 ?_
    refine at_astore_n (i := 3) (lc' := [(0, va_rf (some t)), (1, .int (l1)), (2, .int (l2)), (3, va_rf (mR m b3 l2.toNatClampNeg))]) [1, 2, 3, 0] 17 rfl (by decide +kernel) (by decide +kernel) rfl ?_
    refine at_aload_n (i := 3) 3 18 rfl (by decide +kernel) rfl ?_
    obtain ⟨b7, e8, h⟩ := h
    rw [e8]
    obtain ⟨k9, h⟩ := h
    refine at_get (index := 72) (v := va_rf (mR m b7 0)) cok1 0 21 rfl (by decide +kernel) k9 (by decide +kernel) tw_207 rfl ?_
    refine at_aload_n (i := 0) 0 22 rfl (by decide +kernel) rfl ?_
    refine at_get (index := 69) (v := .int (mI m t 9)) cok3 9 25 rfl (by decide +kernel) k1 (by decide +kernel) tw_299 rfl ?_
    obtain ⟨b10, e11, h⟩ := h
    rw [e11]
    obtain ⟨k12, h⟩ := h
    obtain ⟨v13, h⟩ := h
    refine at_iald 26 rfl (by decide +kernel) k12 v13 ?_
    refine at_iconst (n := (-1)) (-1 : Int32) 27 rfl (by decide +kernel) (by decide +kernel) ?_
    refine at_icmp_ne (off := 12) 39 30 rfl (by decide +kernel) (by decide +kernel) (fun c14 => ?_) (fun c14 => ?_)
    · rw [if_neg c14] at h
      refine at_aload_n (i := 3) 3 40 rfl (by decide +kernel) rfl ?_
      refine at_get (index := 72) (v := va_rf (mR m b7 0)) cok1 0 43 rfl (by decide +kernel) k9 (by decide +kernel) tw_207 rfl ?_
      rw [e11]
      refine at_aload_n (i := 0) 0 44 rfl (by decide +kernel) rfl ?_
      refine at_get (index := 69) (v := .int (mI m t 9)) cok3 9 47 rfl (by decide +kernel) k1 (by decide +kernel) tw_299 rfl ?_
      obtain ⟨v15, h⟩ := h
      refine at_iald 48 rfl (by decide +kernel) k12 v15 ?_
      exact h
    · rw [if_pos c14] at h
      refine at_aload_n (i := 3) 3 31 rfl (by decide +kernel) rfl ?_
      refine at_get (index := 87) (v := .int (mI m b7 5)) cok1 5 34 rfl (by decide +kernel) k9 (by decide +kernel) tw_218 rfl ?_
      refine at_iload_n (i := 1) 1 35 rfl (by decide +kernel) rfl ?_
      refine at_imul 36 rfl (by decide +kernel) ?_
      refine at_goto (off := 12) 48 (by decide +kernel) (by decide +kernel) ?_
      exact h
set_option maxRecDepth 20000 in
set_option maxHeartbeats 4000000 in
theorem en_Land_gatherCrops (g : Gc) {lv : Nat} {t : Nat} {l1 : Int32} {m : Mm} {Q : Mm → Prop} (h : At g M_Land_gatherCrops (lv + 1) 2 [(0, va_rf (some t)), (1, .int (l1)), (2, .int ((0 : Int32)))] [] m (QV Q)) : CV g M_Land_gatherCrops (lv + 1) [va_rf (some t), .int (l1)] m Q := by
  refine Call.of (by decide +kernel) (Nat.le_of_ble_eq_true rfl) ?_
  show At g M_Land_gatherCrops (lv + 1) 0 [(0, va_rf (some t)), (1, .int (l1))] [] m (QV Q)
  refine at_iconst (n := 0) (0 : Int32) 1 rfl (by decide +kernel) (by decide +kernel) ?_
  refine at_istore_n (i := 2) (lc' := [(0, va_rf (some t)), (1, .int (l1)), (2, .int ((0 : Int32)))]) [1, 2, 0] 2 rfl (by decide +kernel) (by decide +kernel) rfl ?_
  exact h
set_option maxRecDepth 20000 in
set_option maxHeartbeats 4000000 in
theorem bk_Land_applyLaw_5 (g : Gc) {lv : Nat} {t : Nat} {l1 : Option Nat} {l2 : Int64} {l4 : Int32} {m : Mm} {Q : Mm → Prop} (h : mK m t = 4 ∧ (if (mI m t 8) ≤ (l4) then (∃ b3, mR m t 4 = some b3 ∧ (mK m b3 = 3 ∧ (∃ b6, mR m b3 0 = some b6 ∧ (mK m b6 = 16 ∧ (vp_in (0 : Int32) (mN m b6) ∧ (∀ m10, m10 = sL m b6 (0 : Int32).toNatClampNeg l2 → (∃ b15, mR m10 t 4 = some b15 ∧ (mK m10 b15 = 3 ∧ (∃ b18, mR m10 t 3 = some b18 ∧ (mK m10 b18 = 9 ∧ (CJ g M_Store_sacksInAll lv [va_rf (some b18)] m10 (fun x21 m22 => (∃ b29, mR m10 b15 0 = some b29 ∧ (mK m22 b29 = 16 ∧ (vp_in (1 : Int32) (mN m22 b29) ∧ (∀ m33, m33 = sL m22 b29 (1 : Int32).toNatClampNeg x21 → (∃ b41, mR m33 t 4 = some b41 ∧ (mK m33 b41 = 3 ∧ (∃ b44, mR m33 t 3 = some b44 ∧ (mK m33 b44 = 9 ∧ (CJ g M_Store_sacksBefore lv [va_rf (some b44), .int ((mI m33 t 9) - (1 : Int32))] m33 (fun x47 m48 => (∃ b58, mR m33 b41 0 = some b58 ∧ (mK m48 b58 = 16 ∧ (vp_in (2 : Int32) (mN m48 b58) ∧ (∀ m62, m62 = sL m48 b58 (2 : Int32).toNatClampNeg x47 → (∃ b73, mR m62 t 4 = some b73 ∧ (mK m62 b73 = 3 ∧ (∃ b76, mR m62 b73 0 = some b76 ∧ (mK m62 b76 = 16 ∧ (vp_in (3 : Int32) (mN m62 b76) ∧ (∀ m80, m80 = sL m62 b76 (3 : Int32).toNatClampNeg ((mI m62 t 10).toInt64) → (∃ b93, mR m80 t 4 = some b93 ∧ (mK m80 b93 = 3 ∧ (∃ b96, mR m80 b93 0 = some b96 ∧ (mK m80 b96 = 16 ∧ (vp_in (4 : Int32) (mN m80 b96) ∧ (∀ m100, m100 = sL m80 b96 (4 : Int32).toNatClampNeg ((mI m80 t 11).toInt64) → (∃ b115, mR m100 t 4 = some b115 ∧ (mK m100 b115 = 3 ∧ (∃ b118, mR m100 b115 0 = some b118 ∧ (mK m100 b118 = 16 ∧ (vp_in (5 : Int32) (mN m100 b118) ∧ (∀ m122, m122 = sL m100 b118 (5 : Int32).toNatClampNeg ((mI m100 t 9).toInt64) → (∃ b139, mR m122 t 4 = some b139 ∧ (mK m122 b139 = 3 ∧ (CV g M_Judge_hear lv [va_rf (some b139), va_rf (l1)] m122 (fun m142 => (∃ b160, mR m142 t 4 = some b160 ∧ (mK m142 b160 = 3 ∧ (∀ m163, m163 = sI m142 t 12 (mI m142 b160 5) → (∃ b182, mR m163 t 6 = some b182 ∧ (mK m163 b182 = 15 ∧ (vp_in (mI m163 t 9) (mN m163 b182) ∧ (∀ m186, m186 = sI m163 b182 (mI m163 t 9).toNatClampNeg (mI m163 t 12) → (Q m186)))))))))))))))))))))))))))))))))))))))))))))))))))))))) else (∃ b206, mR m t 1 = some b206 ∧ (mK m b206 = 19 ∧ (vp_in l4 (mN m b206) ∧ (∃ b210, mR m b206 l4.toNatClampNeg = some b210 ∧ (mK m b210 = 2 ∧ (∃ b213, mR m b210 1 = some b213 ∧ (mK m b213 = 15 ∧ (vp_in (mI m t 9) (mN m b213) ∧ (At g M_Land_applyLaw (lv + 1) 5 [(0, va_rf (some t)), (1, va_rf (l1)), (2, .long (l2 + ((mI m b213 (mI m t 9).toNatClampNeg).toInt64))), (4, .int (l4 + (1 : Int32)))] [] m (QV Q)))))))))))) : At g M_Land_applyLaw (lv + 1) 5 [(0, va_rf (some t)), (1, va_rf (l1)), (2, .long (l2)), (4, .int (l4))] [] m (QV Q) := by
  refine at_iload (i := 4) 3 7 rfl (by decide +kernel) rfl ?_
  refine at_aload_n (i := 0) 0 8 rfl (by decide +kernel) rfl ?_
  obtain ⟨k1, h⟩ := h
  refine at_get (index := 58) (v := .int (mI m t 8)) cok3 8 11 rfl (by decide +kernel) k1 (by decide +kernel) tw_297 rfl ?_
  refine at_icmp_ge (off := 28) 39 14 rfl (by decide +kernel) (by decide +kernel) (fun c2 => ?_) (fun c2 => ?_)
  · rw [if_pos c2] at h
    refine at_aload_n (i := 0) 0 40 rfl (by decide +kernel) rfl ?_
    refine at_get (index := 33) (v := va_rf (mR m t 4)) cok3 4 43 rfl (by decide +kernel) k1 (by decide +kernel) tw_292 rfl ?_
    obtain ⟨b3, e4, h⟩ := h
    rw [e4]
    obtain ⟨k5, h⟩ := h
    refine at_get (index := 169) (v := va_rf (mR m b3 0)) cok2 0 46 rfl (by decide +kernel) k5 (by decide +kernel) tw_168 rfl ?_
    refine at_iconst (n := 0) (0 : Int32) 47 rfl (by decide +kernel) (by decide +kernel) ?_
    refine at_lload_n (i := 2) 2 48 rfl (by decide +kernel) rfl ?_
    obtain ⟨b6, e7, h⟩ := h
    rw [e7]
    obtain ⟨k8, h⟩ := h
    obtain ⟨v9, h⟩ := h
    refine at_last 49 rfl (by decide +kernel) k8 v9 (fun m10 e11 => ?_)
    replace h := h m10 e11
    have k12 : mK m10 t = 4 := by rw [e11]; exact k1
    have k13 : mK m10 b3 = 3 := by rw [e11]; exact k5
    have k14 : mK m10 b6 = 16 := by rw [e11]; exact k8
    refine at_aload_n (i := 0) 0 50 rfl (by decide +kernel) rfl ?_
    refine at_get (index := 33) (v := va_rf (mR m10 t 4)) cok3 4 53 rfl (by decide +kernel) k12 (by decide +kernel) tw_292 rfl ?_
    obtain ⟨b15, e16, h⟩ := h
    rw [e16]
    obtain ⟨k17, h⟩ := h
    refine at_get (index := 169) (v := va_rf (mR m10 b15 0)) cok2 0 56 rfl (by decide +kernel) k17 (by decide +kernel) tw_168 rfl ?_
    refine at_iconst (n := 1) (1 : Int32) 57 rfl (by decide +kernel) (by decide +kernel) ?_
    refine at_aload_n (i := 0) 0 58 rfl (by decide +kernel) rfl ?_
    refine at_get (index := 26) (v := va_rf (mR m10 t 3)) cok3 3 61 rfl (by decide +kernel) k12 (by decide +kernel) tw_290 rfl ?_
    obtain ⟨b18, e19, h⟩ := h
    rw [e19]
    obtain ⟨k20, h⟩ := h
    refine at_callV mb_Store_sacksInAll tw_715 tw_716 cok8 k20 (index := 172) tw_714 [] [.int ((1 : Int32)), va_rf (mR m10 b15 0)] rfl rfl (by simp [va_rf_cat, cat_int, cat_long]) 64 rfl (by decide +kernel) (Call.toJ (CJ.monoE h (fun x21 m22 h y23 => ?_)))
    have k24 : mK m22 t = 4 := y23.k k12 (by decide)
    have k25 : mK m22 b3 = 3 := y23.k k13 (by decide)
    have k26 : mK m22 b6 = 16 := y23.k k14 (by decide)
    have k27 : mK m22 b15 = 3 := y23.k k17 (by decide)
    have k28 : mK m22 b18 = 9 := y23.k k20 (by decide)
    obtain ⟨b29, e30, h⟩ := h
    rw [e30]
    obtain ⟨k31, h⟩ := h
    obtain ⟨v32, h⟩ := h
    refine at_last 65 rfl (by decide +kernel) k31 v32 (fun m33 e34 => ?_)
    replace h := h m33 e34
    have k35 : mK m33 t = 4 := by rw [e34]; exact k24
    have k36 : mK m33 b3 = 3 := by rw [e34]; exact k25
    have k37 : mK m33 b6 = 16 := by rw [e34]; exact k26
    have k38 : mK m33 b15 = 3 := by rw [e34]; exact k27
    have k39 : mK m33 b18 = 9 := by rw [e34]; exact k28
    have k40 : mK m33 b29 = 16 := by rw [e34]; exact k31
    refine at_aload_n (i := 0) 0 66 rfl (by decide +kernel) rfl ?_
    refine at_get (index := 33) (v := va_rf (mR m33 t 4)) cok3 4 69 rfl (by decide +kernel) k35 (by decide +kernel) tw_292 rfl ?_
    obtain ⟨b41, e42, h⟩ := h
    rw [e42]
    obtain ⟨k43, h⟩ := h
    refine at_get (index := 169) (v := va_rf (mR m33 b41 0)) cok2 0 72 rfl (by decide +kernel) k43 (by decide +kernel) tw_168 rfl ?_
    refine at_iconst (n := 2) (2 : Int32) 73 rfl (by decide +kernel) (by decide +kernel) ?_
    refine at_aload_n (i := 0) 0 74 rfl (by decide +kernel) rfl ?_
    refine at_get (index := 26) (v := va_rf (mR m33 t 3)) cok3 3 77 rfl (by decide +kernel) k35 (by decide +kernel) tw_290 rfl ?_
    refine at_aload_n (i := 0) 0 78 rfl (by decide +kernel) rfl ?_
    refine at_get (index := 69) (v := .int (mI m33 t 9)) cok3 9 81 rfl (by decide +kernel) k35 (by decide +kernel) tw_299 rfl ?_
    refine at_iconst (n := 1) (1 : Int32) 82 rfl (by decide +kernel) (by decide +kernel) ?_
    refine at_isub 83 rfl (by decide +kernel) ?_
    obtain ⟨b44, e45, h⟩ := h
    rw [e45]
    obtain ⟨k46, h⟩ := h
    refine at_callV mb_Store_sacksBefore tw_719 tw_720 cok8 k46 (index := 175) tw_722 [.int ((mI m33 t 9) - (1 : Int32))] [.int ((2 : Int32)), va_rf (mR m33 b41 0)] rfl rfl (by simp [va_rf_cat, cat_int, cat_long]) 86 rfl (by decide +kernel) (Call.toJ (CJ.monoE h (fun x47 m48 h y49 => ?_)))
    have k50 : mK m48 t = 4 := y49.k k35 (by decide)
    have k51 : mK m48 b3 = 3 := y49.k k36 (by decide)
    have k52 : mK m48 b6 = 16 := y49.k k37 (by decide)
    have k53 : mK m48 b15 = 3 := y49.k k38 (by decide)
    have k54 : mK m48 b18 = 9 := y49.k k39 (by decide)
    have k55 : mK m48 b29 = 16 := y49.k k40 (by decide)
    have k56 : mK m48 b41 = 3 := y49.k k43 (by decide)
    have k57 : mK m48 b44 = 9 := y49.k k46 (by decide)
    obtain ⟨b58, e59, h⟩ := h
    rw [e59]
    obtain ⟨k60, h⟩ := h
    obtain ⟨v61, h⟩ := h
    refine at_last 87 rfl (by decide +kernel) k60 v61 (fun m62 e63 => ?_)
    replace h := h m62 e63
    have k64 : mK m62 t = 4 := by rw [e63]; exact k50
    have k65 : mK m62 b3 = 3 := by rw [e63]; exact k51
    have k66 : mK m62 b6 = 16 := by rw [e63]; exact k52
    have k67 : mK m62 b15 = 3 := by rw [e63]; exact k53
    have k68 : mK m62 b18 = 9 := by rw [e63]; exact k54
    have k69 : mK m62 b29 = 16 := by rw [e63]; exact k55
    have k70 : mK m62 b41 = 3 := by rw [e63]; exact k56
    have k71 : mK m62 b44 = 9 := by rw [e63]; exact k57
    have k72 : mK m62 b58 = 16 := by rw [e63]; exact k60
    refine at_aload_n (i := 0) 0 88 rfl (by decide +kernel) rfl ?_
    refine at_get (index := 33) (v := va_rf (mR m62 t 4)) cok3 4 91 rfl (by decide +kernel) k64 (by decide +kernel) tw_292 rfl ?_
    obtain ⟨b73, e74, h⟩ := h
    rw [e74]
    obtain ⟨k75, h⟩ := h
    refine at_get (index := 169) (v := va_rf (mR m62 b73 0)) cok2 0 94 rfl (by decide +kernel) k75 (by decide +kernel) tw_168 rfl ?_
    refine at_iconst (n := 3) (3 : Int32) 95 rfl (by decide +kernel) (by decide +kernel) ?_
    refine at_aload_n (i := 0) 0 96 rfl (by decide +kernel) rfl ?_
    refine at_get (index := 48) (v := .int (mI m62 t 10)) cok3 10 99 rfl (by decide +kernel) k64 (by decide +kernel) tw_301 rfl ?_
    refine at_i2l 100 rfl (by decide +kernel) ?_
    obtain ⟨b76, e77, h⟩ := h
    rw [e77]
    obtain ⟨k78, h⟩ := h
    obtain ⟨v79, h⟩ := h
    refine at_last 101 rfl (by decide +kernel) k78 v79 (fun m80 e81 => ?_)
    replace h := h m80 e81
    have k82 : mK m80 t = 4 := by rw [e81]; exact k64
    have k83 : mK m80 b3 = 3 := by rw [e81]; exact k65
    have k84 : mK m80 b6 = 16 := by rw [e81]; exact k66
    have k85 : mK m80 b15 = 3 := by rw [e81]; exact k67
    have k86 : mK m80 b18 = 9 := by rw [e81]; exact k68
    have k87 : mK m80 b29 = 16 := by rw [e81]; exact k69
    have k88 : mK m80 b41 = 3 := by rw [e81]; exact k70
    have k89 : mK m80 b44 = 9 := by rw [e81]; exact k71
    have k90 : mK m80 b58 = 16 := by rw [e81]; exact k72
    have k91 : mK m80 b73 = 3 := by rw [e81]; exact k75
    have k92 : mK m80 b76 = 16 := by rw [e81]; exact k78
    refine at_aload_n (i := 0) 0 102 rfl (by decide +kernel) rfl ?_
    refine at_get (index := 33) (v := va_rf (mR m80 t 4)) cok3 4 105 rfl (by decide +kernel) k82 (by decide +kernel) tw_292 rfl ?_
    obtain ⟨b93, e94, h⟩ := h
    rw [e94]
    obtain ⟨k95, h⟩ := h
    refine at_get (index := 169) (v := va_rf (mR m80 b93 0)) cok2 0 108 rfl (by decide +kernel) k95 (by decide +kernel) tw_168 rfl ?_
    refine at_iconst (n := 4) (4 : Int32) 109 rfl (by decide +kernel) (by decide +kernel) ?_
    refine at_aload_n (i := 0) 0 110 rfl (by decide +kernel) rfl ?_
    refine at_get (index := 119) (v := .int (mI m80 t 11)) cok3 11 113 rfl (by decide +kernel) k82 (by decide +kernel) tw_303 rfl ?_
    refine at_i2l 114 rfl (by decide +kernel) ?_
    obtain ⟨b96, e97, h⟩ := h
    rw [e97]
    obtain ⟨k98, h⟩ := h
    obtain ⟨v99, h⟩ := h
    refine at_last 115 rfl (by decide +kernel) k98 v99 (fun m100 e101 => ?_)
    replace h := h m100 e101
    have k102 : mK m100 t = 4 := by rw [e101]; exact k82
    have k103 : mK m100 b3 = 3 := by rw [e101]; exact k83
    have k104 : mK m100 b6 = 16 := by rw [e101]; exact k84
    have k105 : mK m100 b15 = 3 := by rw [e101]; exact k85
    have k106 : mK m100 b18 = 9 := by rw [e101]; exact k86
    have k107 : mK m100 b29 = 16 := by rw [e101]; exact k87
    have k108 : mK m100 b41 = 3 := by rw [e101]; exact k88
    have k109 : mK m100 b44 = 9 := by rw [e101]; exact k89
    have k110 : mK m100 b58 = 16 := by rw [e101]; exact k90
    have k111 : mK m100 b73 = 3 := by rw [e101]; exact k91
    have k112 : mK m100 b76 = 16 := by rw [e101]; exact k92
    have k113 : mK m100 b93 = 3 := by rw [e101]; exact k95
    have k114 : mK m100 b96 = 16 := by rw [e101]; exact k98
    refine at_aload_n (i := 0) 0 116 rfl (by decide +kernel) rfl ?_
    refine at_get (index := 33) (v := va_rf (mR m100 t 4)) cok3 4 119 rfl (by decide +kernel) k102 (by decide +kernel) tw_292 rfl ?_
    obtain ⟨b115, e116, h⟩ := h
    rw [e116]
    obtain ⟨k117, h⟩ := h
    refine at_get (index := 169) (v := va_rf (mR m100 b115 0)) cok2 0 122 rfl (by decide +kernel) k117 (by decide +kernel) tw_168 rfl ?_
    refine at_iconst (n := 5) (5 : Int32) 123 rfl (by decide +kernel) (by decide +kernel) ?_
    refine at_aload_n (i := 0) 0 124 rfl (by decide +kernel) rfl ?_
    refine at_get (index := 69) (v := .int (mI m100 t 9)) cok3 9 127 rfl (by decide +kernel) k102 (by decide +kernel) tw_299 rfl ?_
    refine at_i2l 128 rfl (by decide +kernel) ?_
    obtain ⟨b118, e119, h⟩ := h
    rw [e119]
    obtain ⟨k120, h⟩ := h
    obtain ⟨v121, h⟩ := h
    refine at_last 129 rfl (by decide +kernel) k120 v121 (fun m122 e123 => ?_)
    replace h := h m122 e123
    have k124 : mK m122 t = 4 := by rw [e123]; exact k102
    have k125 : mK m122 b3 = 3 := by rw [e123]; exact k103
    have k126 : mK m122 b6 = 16 := by rw [e123]; exact k104
    have k127 : mK m122 b15 = 3 := by rw [e123]; exact k105
    have k128 : mK m122 b18 = 9 := by rw [e123]; exact k106
    have k129 : mK m122 b29 = 16 := by rw [e123]; exact k107
    have k130 : mK m122 b41 = 3 := by rw [e123]; exact k108
    have k131 : mK m122 b44 = 9 := by rw [e123]; exact k109
    have k132 : mK m122 b58 = 16 := by rw [e123]; exact k110
    have k133 : mK m122 b73 = 3 := by rw [e123]; exact k111
    have k134 : mK m122 b76 = 16 := by rw [e123]; exact k112
    have k135 : mK m122 b93 = 3 := by rw [e123]; exact k113
    have k136 : mK m122 b96 = 16 := by rw [e123]; exact k114
    have k137 : mK m122 b115 = 3 := by rw [e123]; exact k117
    have k138 : mK m122 b118 = 16 := by rw [e123]; exact k120
    refine at_aload_n (i := 0) 0 130 rfl (by decide +kernel) rfl ?_
    refine at_get (index := 33) (v := va_rf (mR m122 t 4)) cok3 4 133 rfl (by decide +kernel) k124 (by decide +kernel) tw_292 rfl ?_
    refine at_aload_n (i := 1) 1 134 rfl (by decide +kernel) rfl ?_
    obtain ⟨b139, e140, h⟩ := h
    rw [e140]
    obtain ⟨k141, h⟩ := h
    refine at_callV mb_Judge_hear tw_724 tw_725 cok2 k141 (index := 178) tw_723 [va_rf (l1)] [] rfl rfl (by decide) 137 rfl (by decide +kernel) (Call.toV (CV.monoE h (fun m142 h y143 => ?_)))
    have k144 : mK m142 t = 4 := y143.k k124 (by decide)
    have k145 : mK m142 b3 = 3 := y143.k k125 (by decide)
    have k146 : mK m142 b6 = 16 := y143.k k126 (by decide)
    have k147 : mK m142 b15 = 3 := y143.k k127 (by decide)
    have k148 : mK m142 b18 = 9 := y143.k k128 (by decide)
    have k149 : mK m142 b29 = 16 := y143.k k129 (by decide)
    have k150 : mK m142 b41 = 3 := y143.k k130 (by decide)
    have k151 : mK m142 b44 = 9 := y143.k k131 (by decide)
    have k152 : mK m142 b58 = 16 := y143.k k132 (by decide)
    have k153 : mK m142 b73 = 3 := y143.k k133 (by decide)
    have k154 : mK m142 b76 = 16 := y143.k k134 (by decide)
    have k155 : mK m142 b93 = 3 := y143.k k135 (by decide)
    have k156 : mK m142 b96 = 16 := y143.k k136 (by decide)
    have k157 : mK m142 b115 = 3 := y143.k k137 (by decide)
    have k158 : mK m142 b118 = 16 := y143.k k138 (by decide)
    have k159 : mK m142 b139 = 3 := y143.k k141 (by decide)
    refine at_aload_n (i := 0) 0 138 rfl (by decide +kernel) rfl ?_
    refine at_aload_n (i := 0) 0 139 rfl (by decide +kernel) rfl ?_
    refine at_get (index := 33) (v := va_rf (mR m142 t 4)) cok3 4 142 rfl (by decide +kernel) k144 (by decide +kernel) tw_292 rfl ?_
    obtain ⟨b160, e161, h⟩ := h
    rw [e161]
    obtain ⟨k162, h⟩ := h
    refine at_get (index := 181) (v := .int (mI m142 b160 5)) cok2 5 145 rfl (by decide +kernel) k162 (by decide +kernel) tw_174 rfl ?_
    refine at_putI (index := 184) cok3 12 148 rfl (by decide +kernel) k144 (by decide +kernel) tw_305 rfl rfl rfl (fun m163 e164 => ?_)
    replace h := h m163 e164
    have k165 : mK m163 t = 4 := by rw [e164]; exact k144
    have k166 : mK m163 b3 = 3 := by rw [e164]; exact k145
    have k167 : mK m163 b6 = 16 := by rw [e164]; exact k146
    have k168 : mK m163 b15 = 3 := by rw [e164]; exact k147
    have k169 : mK m163 b18 = 9 := by rw [e164]; exact k148
    have k170 : mK m163 b29 = 16 := by rw [e164]; exact k149
    have k171 : mK m163 b41 = 3 := by rw [e164]; exact k150
    have k172 : mK m163 b44 = 9 := by rw [e164]; exact k151
    have k173 : mK m163 b58 = 16 := by rw [e164]; exact k152
    have k174 : mK m163 b73 = 3 := by rw [e164]; exact k153
    have k175 : mK m163 b76 = 16 := by rw [e164]; exact k154
    have k176 : mK m163 b93 = 3 := by rw [e164]; exact k155
    have k177 : mK m163 b96 = 16 := by rw [e164]; exact k156
    have k178 : mK m163 b115 = 3 := by rw [e164]; exact k157
    have k179 : mK m163 b118 = 16 := by rw [e164]; exact k158
    have k180 : mK m163 b139 = 3 := by rw [e164]; exact k159
    have k181 : mK m163 b160 = 3 := by rw [e164]; exact k162
    refine at_aload_n (i := 0) 0 149 rfl (by decide +kernel) rfl ?_
    refine at_get (index := 41) (v := va_rf (mR m163 t 6)) cok3 6 152 rfl (by decide +kernel) k165 (by decide +kernel) tw_294 rfl ?_
    refine at_aload_n (i := 0) 0 153 rfl (by decide +kernel) rfl ?_
    refine at_get (index := 69) (v := .int (mI m163 t 9)) cok3 9 156 rfl (by decide +kernel) k165 (by decide +kernel) tw_299 rfl ?_
    refine at_aload_n (i := 0) 0 157 rfl (by decide +kernel) rfl ?_
    refine at_get (index := 184) (v := .int (mI m163 t 12)) cok3 12 160 rfl (by decide +kernel) k165 (by decide +kernel) tw_305 rfl ?_
    obtain ⟨b182, e183, h⟩ := h
    rw [e183]
    obtain ⟨k184, h⟩ := h
    obtain ⟨v185, h⟩ := h
    refine at_iast 161 rfl (by decide +kernel) k184 v185 (fun m186 e187 => ?_)
    replace h := h m186 e187
    have k188 : mK m186 t = 4 := by rw [e187]; exact k165
    have k189 : mK m186 b3 = 3 := by rw [e187]; exact k166
    have k190 : mK m186 b6 = 16 := by rw [e187]; exact k167
    have k191 : mK m186 b15 = 3 := by rw [e187]; exact k168
    have k192 : mK m186 b18 = 9 := by rw [e187]; exact k169
    have k193 : mK m186 b29 = 16 := by rw [e187]; exact k170
    have k194 : mK m186 b41 = 3 := by rw [e187]; exact k171
    have k195 : mK m186 b44 = 9 := by rw [e187]; exact k172
    have k196 : mK m186 b58 = 16 := by rw [e187]; exact k173
    have k197 : mK m186 b73 = 3 := by rw [e187]; exact k174
    have k198 : mK m186 b76 = 16 := by rw [e187]; exact k175
    have k199 : mK m186 b93 = 3 := by rw [e187]; exact k176
    have k200 : mK m186 b96 = 16 := by rw [e187]; exact k177
    have k201 : mK m186 b115 = 3 := by rw [e187]; exact k178
    have k202 : mK m186 b118 = 16 := by rw [e187]; exact k179
    have k203 : mK m186 b139 = 3 := by rw [e187]; exact k180
    have k204 : mK m186 b160 = 3 := by rw [e187]; exact k181
    have k205 : mK m186 b182 = 15 := by rw [e187]; exact k184
    exact at_vret rfl (by decide +kernel) h
  · rw [if_neg c2] at h
    refine at_lload_n (i := 2) 2 15 rfl (by decide +kernel) rfl ?_
    refine at_aload_n (i := 0) 0 16 rfl (by decide +kernel) rfl ?_
    refine at_get (index := 11) (v := va_rf (mR m t 1)) cok3 1 19 rfl (by decide +kernel) k1 (by decide +kernel) tw_286 rfl ?_
    refine at_iload (i := 4) 3 21 rfl (by decide +kernel) rfl ?_
    obtain ⟨b206, e207, h⟩ := h
    rw [e207]
    obtain ⟨k208, h⟩ := h
    obtain ⟨v209, h⟩ := h
    refine at_aaldGrower 22 rfl (by decide +kernel) k208 v209 ?_
    obtain ⟨b210, e211, h⟩ := h
    rw [e211]
    obtain ⟨k212, h⟩ := h
    refine at_get (index := 166) (v := va_rf (mR m b210 1)) cok1 1 25 rfl (by decide +kernel) k212 (by decide +kernel) tw_209 rfl ?_
    refine at_aload_n (i := 0) 0 26 rfl (by decide +kernel) rfl ?_
    refine at_get (index := 69) (v := .int (mI m t 9)) cok3 9 29 rfl (by decide +kernel) k1 (by decide +kernel) tw_299 rfl ?_
    obtain ⟨b213, e214, h⟩ := h
    rw [e214]
    obtain ⟨k215, h⟩ := h
    obtain ⟨v216, h⟩ := h
    refine at_iald 30 rfl (by decide +kernel) k215 v216 ?_
    refine at_i2l 31 rfl (by decide +kernel) ?_
    refine at_ladd 32 rfl (by decide +kernel) ?_
    refine at_lstore_n (i := 2) (lc' := [(0, va_rf (some t)), (1, va_rf (l1)), (2, .long (l2 + ((mI m b213 (mI m t 9).toNatClampNeg).toInt64))), (4, .int (l4))]) [1, 2, 0, 3] 33 rfl (by decide +kernel) (by decide +kernel) (by generalize l1 = rr; cases rr <;> rfl) ?_
    refine at_iinc (i := 4) (n := 1) (lc' := [(0, va_rf (some t)), (1, va_rf (l1)), (2, .long (l2 + ((mI m b213 (mI m t 9).toNatClampNeg).toInt64))), (4, .int (l4 + (1 : Int32)))]) (l4 + (1 : Int32)) 3 [1, 2, 3, 0] 36 rfl (by decide +kernel) rfl (by rw [show Int32.ofInt 1 = (1 : Int32) from by decide +kernel]) (by decide +kernel) rfl ?_
    refine at_goto (off := (-31)) 5 (by decide +kernel) (by decide +kernel) ?_
    exact h
set_option maxRecDepth 20000 in
set_option maxHeartbeats 4000000 in
theorem en_Land_applyLaw (g : Gc) {lv : Nat} {t : Nat} {l1 : Option Nat} {m : Mm} {Q : Mm → Prop} (h : At g M_Land_applyLaw (lv + 1) 5 [(0, va_rf (some t)), (1, va_rf (l1)), (2, .long ((0 : Int64))), (4, .int ((0 : Int32)))] [] m (QV Q)) : CV g M_Land_applyLaw (lv + 1) [va_rf (some t), va_rf (l1)] m Q := by
  refine Call.of (by decide +kernel) (by simp [lg_sl, va_rf_cat, cat_int, cat_long, M_Land_applyLaw]) ?_
  rw [show lv_args 0 [va_rf (some t), va_rf (l1)] = [(0, va_rf (some t)), (1, va_rf (l1))] from by simp [lv_args, va_rf_cat, cat_int, cat_long]]
  refine at_lconst (n := 0) (0 : Int64) 1 rfl (by decide +kernel) (by decide +kernel) ?_
  refine at_lstore_n (i := 2) (lc' := [(0, va_rf (some t)), (1, va_rf (l1)), (2, .long ((0 : Int64)))]) [1, 2, 0] 2 rfl (by decide +kernel) (by decide +kernel) (by generalize l1 = rr; cases rr <;> rfl) ?_
  refine at_iconst (n := 0) (0 : Int32) 3 rfl (by decide +kernel) (by decide +kernel) ?_
  refine at_istore (i := 4) (lc' := [(0, va_rf (some t)), (1, va_rf (l1)), (2, .long ((0 : Int64))), (4, .int ((0 : Int32)))]) [1, 2, 3, 0] 5 rfl (by decide +kernel) (by decide +kernel) rfl ?_
  exact h
set_option maxRecDepth 20000 in
set_option maxHeartbeats 4000000 in
theorem bk_Land_keepParts_2 (g : Gc) {lv : Nat} {t : Nat} {l1 : Int32} {m : Mm} {Q : Mm → Prop} (h : mK m t = 4 ∧ (if (mI m t 8) ≤ (l1) then (Q m) else (∃ b3, mR m t 1 = some b3 ∧ (mK m b3 = 19 ∧ (vp_in l1 (mN m b3) ∧ (∃ b7, mR m b3 l1.toNatClampNeg = some b7 ∧ (mK m b7 = 2 ∧ (∃ b10, mR m b7 1 = some b10 ∧ (mK m b10 = 15 ∧ (vp_in (mI m t 9) (mN m b10) ∧ (∀ m14, m14 = sI m b7 10 (0 : Int32) → (∃ b20, mR m14 t 4 = some b20 ∧ (mK m14 b20 = 3 ∧ (CI g M_Judge_frees lv [va_rf (some b20), .int (mI m14 b7 3), .int (mI m b10 (mI m t 9).toNatClampNeg)] m14 (fun x23 m24 => (∃ b31, mR m14 b7 2 = some b31 ∧ (mK m24 b31 = 17 ∧ (vp_in (mI m14 t 9) (mN m24 b31) ∧ (b01 x23 ∧ (∀ m36, m36 = sI m24 b31 (mI m14 t 9).toNatClampNeg x23 → (∃ b44, mR m36 b7 2 = some b44 ∧ (mK m36 b44 = 17 ∧ (vp_in (mI m36 t 9) (mN m36 b44) ∧ (if (mI m36 b44 (mI m36 t 9).toNatClampNeg) = 0 then (CJ g M_SL_cutTo lv [.long (((((mI m36 t 12).toInt64) * ((mI m b10 (mI m t 9).toNatClampNeg).toInt64)) + (mL m36 b7 12)) / (100 : Int64)), .long ((0 : Int64)), .long ((mI m b10 (mI m t 9).toNatClampNeg).toInt64)] m36 (fun x49 m50 => (∀ m59, m59 = sI m50 b7 10 x49.toInt32 → (∀ m68, m68 = sL m59 b7 12 (((((mI m36 t 12).toInt64) * ((mI m b10 (mI m t 9).toNatClampNeg).toInt64)) + (mL m36 b7 12)) - ((100 : Int64) * ((mI m59 b7 10).toInt64))) → (if (mI m68 b7 10) ≤ 0 then (At g M_Land_keepParts (lv + 1) 2 [(0, va_rf (some t)), (1, .int (l1 + (1 : Int32)))] [] m68 (QV Q)) else (∀ m78, m78 = sI m68 b7 9 ((mI m68 b7 9) - (mI m68 b7 10)) → (∃ b87, mR m78 t 3 = some b87 ∧ (mK m78 b87 = 9 ∧ (CI g M_Store_issue lv [va_rf (some b87), .int (l1), .int (mI m78 b7 10), .int (mI m78 t 9)] m78 (fun x90 m91 => (∃ b101, mR m91 t 7 = some b101 ∧ (mK m91 b101 = 16 ∧ (vp_in (1 : Int32) (mN m91 b101) ∧ (vp_in (1 : Int32) (mN m91 b101) ∧ (∀ m106, m106 = sL m91 b101 (1 : Int32).toNatClampNeg ((mL m91 b101 (1 : Int32).toNatClampNeg) + ((mI m91 b7 10).toInt64)) → (At g M_Land_keepParts (lv + 1) 2 [(0, va_rf (some t)), (1, .int (l1 + (1 : Int32)))] [] m106 (QV Q))))))))))))))))) else (At g M_Land_keepParts (lv + 1) 2 [(0, va_rf (some t)), (1, .int (l1 + (1 : Int32)))] [] m36 (QV Q)))))))))))))))))))))))))) : At g M_Land_keepParts (lv + 1) 2 [(0, va_rf (some t)), (1, .int (l1))] [] m (QV Q) := by
  refine at_iload_n (i := 1) 1 3 rfl (by decide +kernel) rfl ?_
  refine at_aload_n (i := 0) 0 4 rfl (by decide +kernel) rfl ?_
  obtain ⟨k1, h⟩ := h
  refine at_get (index := 58) (v := .int (mI m t 8)) cok3 8 7 rfl (by decide +kernel) k1 (by decide +kernel) tw_297 rfl ?_
  refine at_icmp_ge (off := 166) 173 10 rfl (by decide +kernel) (by decide +kernel) (fun c2 => ?_) (fun c2 => ?_)
  · rw [if_pos c2] at h
    exact at_vret rfl (by decide +kernel) h
  · rw [if_neg c2] at h
    refine at_aload_n (i := 0) 0 11 rfl (by decide +kernel) rfl ?_
    refine at_get (index := 11) (v := va_rf (mR m t 1)) cok3 1 14 rfl (by decide +kernel) k1 (by decide +kernel) tw_286 rfl ?_
    refine at_iload_n (i := 1) 1 15 rfl (by decide +kernel) rfl ?_
    obtain ⟨b3, e4, h⟩ := h
    rw [e4]
    obtain ⟨k5, h⟩ := h
    obtain ⟨v6, h⟩ := h
    refine at_aaldGrower 16 rfl (by decide +kernel) k5 v6 ?_
    refine at_astore_n (i := 2) (lc' := [(0, va_rf (some t)), (1, .int (l1)), (2, va_rf (mR m b3 l1.toNatClampNeg))]) [1, 2, 0] 17 rfl (by decide +kernel) (by decide +kernel) rfl ?_
    refine at_aload_n (i := 2) 2 18 rfl (by decide +kernel) rfl ?_
    obtain ⟨b7, e8, h⟩ := h
    rw [e8]
    obtain ⟨k9, h⟩ := h
    refine at_get (index := 166) (v := va_rf (mR m b7 1)) cok1 1 21 rfl (by decide +kernel) k9 (by decide +kernel) tw_209 rfl ?_
    refine at_aload_n (i := 0) 0 22 rfl (by decide +kernel) rfl ?_
    refine at_get (index := 69) (v := .int (mI m t 9)) cok3 9 25 rfl (by decide +kernel) k1 (by decide +kernel) tw_299 rfl ?_
    obtain ⟨b10, e11, h⟩ := h
    rw [e11]
    obtain ⟨k12, h⟩ := h
    obtain ⟨v13, h⟩ := h
    refine at_iald 26 rfl (by decide +kernel) k12 v13 ?_
    refine at_istore_n (i := 3) (lc' := [(0, va_rf (some t)), (1, .int (l1)), (2, va_rf (some b7)), (3, .int (mI m b10 (mI m t 9).toNatClampNeg))]) [1, 2, 3, 0] 27 rfl (by decide +kernel) (by decide +kernel) rfl ?_
    refine at_aload_n (i := 2) 2 28 rfl (by decide +kernel) rfl ?_
    refine at_iconst (n := 0) (0 : Int32) 29 rfl (by decide +kernel) (by decide +kernel) ?_
    refine at_putI (index := 185) cok1 10 32 rfl (by decide +kernel) k9 (by decide +kernel) tw_230 rfl rfl rfl (fun m14 e15 => ?_)
    replace h := h m14 e15
    have k16 : mK m14 t = 4 := by rw [e15]; exact k1
    have k17 : mK m14 b3 = 19 := by rw [e15]; exact k5
    have k18 : mK m14 b7 = 2 := by rw [e15]; exact k9
    have k19 : mK m14 b10 = 15 := by rw [e15]; exact k12
    refine at_aload_n (i := 2) 2 33 rfl (by decide +kernel) rfl ?_
    refine at_get (index := 188) (v := va_rf (mR m14 b7 2)) cok1 2 36 rfl (by decide +kernel) k18 (by decide +kernel) tw_211 rfl ?_
    refine at_aload_n (i := 0) 0 37 rfl (by decide +kernel) rfl ?_
    refine at_get (index := 69) (v := .int (mI m14 t 9)) cok3 9 40 rfl (by decide +kernel) k16 (by decide +kernel) tw_299 rfl ?_
    refine at_aload_n (i := 0) 0 41 rfl (by decide +kernel) rfl ?_
    refine at_get (index := 33) (v := va_rf (mR m14 t 4)) cok3 4 44 rfl (by decide +kernel) k16 (by decide +kernel) tw_292 rfl ?_
    refine at_aload_n (i := 2) 2 45 rfl (by decide +kernel) rfl ?_
    refine at_get (index := 93) (v := .int (mI m14 b7 3)) cok1 3 48 rfl (by decide +kernel) k18 (by decide +kernel) tw_213 rfl ?_
    refine at_iload_n (i := 3) 3 49 rfl (by decide +kernel) rfl ?_
    obtain ⟨b20, e21, h⟩ := h
    rw [e21]
    obtain ⟨k22, h⟩ := h
    refine at_callV mb_Judge_frees tw_755 tw_756 cok2 k22 (index := 192) tw_754 [.int (mI m14 b7 3), .int (mI m b10 (mI m t 9).toNatClampNeg)] [.int (mI m14 t 9), va_rf (mR m14 b7 2)] rfl rfl (by simp [va_rf_cat, cat_int, cat_long]) 52 rfl (by decide +kernel) (Call.toI (CI.monoE h (fun x23 m24 h y25 => ?_)))
    have k26 : mK m24 t = 4 := y25.k k16 (by decide)
    have k27 : mK m24 b3 = 19 := y25.k k17 (by decide)
    have k28 : mK m24 b7 = 2 := y25.k k18 (by decide)
    have k29 : mK m24 b10 = 15 := y25.k k19 (by decide)
    have k30 : mK m24 b20 = 3 := y25.k k22 (by decide)
    obtain ⟨b31, e32, h⟩ := h
    rw [e32]
    obtain ⟨k33, h⟩ := h
    obtain ⟨v34, h⟩ := h
    obtain ⟨d35, h⟩ := h
    refine at_zast 53 rfl (by decide +kernel) k33 v34 d35 (fun m36 e37 => ?_)
    replace h := h m36 e37
    have k38 : mK m36 t = 4 := by rw [e37]; exact k26
    have k39 : mK m36 b3 = 19 := by rw [e37]; exact k27
    have k40 : mK m36 b7 = 2 := by rw [e37]; exact k28
    have k41 : mK m36 b10 = 15 := by rw [e37]; exact k29
    have k42 : mK m36 b20 = 3 := by rw [e37]; exact k30
    have k43 : mK m36 b31 = 17 := by rw [e37]; exact k33
    refine at_aload_n (i := 2) 2 54 rfl (by decide +kernel) rfl ?_
    refine at_get (index := 188) (v := va_rf (mR m36 b7 2)) cok1 2 57 rfl (by decide +kernel) k40 (by decide +kernel) tw_211 rfl ?_
    refine at_aload_n (i := 0) 0 58 rfl (by decide +kernel) rfl ?_
    refine at_get (index := 69) (v := .int (mI m36 t 9)) cok3 9 61 rfl (by decide +kernel) k38 (by decide +kernel) tw_299 rfl ?_
    obtain ⟨b44, e45, h⟩ := h
    rw [e45]
    obtain ⟨k46, h⟩ := h
    obtain ⟨v47, h⟩ := h
    refine at_zald 62 rfl (by decide +kernel) k46 v47 ?_
    refine at_if_eq (off := 6) 68 65 rfl (by decide +kernel) (by decide +kernel) (fun c48 => ?_) (fun c48 => ?_)
    · rw [if_pos c48] at h
      refine at_aload_n (i := 0) 0 69 rfl (by decide +kernel) rfl ?_
      refine at_get (index := 184) (v := .int (mI m36 t 12)) cok3 12 72 rfl (by decide +kernel) k38 (by decide +kernel) tw_305 rfl ?_
      refine at_i2l 73 rfl (by decide +kernel) ?_
      refine at_iload_n (i := 3) 3 74 rfl (by decide +kernel) rfl ?_
      refine at_i2l 75 rfl (by decide +kernel) ?_
      refine at_lmul 76 rfl (by decide +kernel) ?_
      refine at_aload_n (i := 2) 2 77 rfl (by decide +kernel) rfl ?_
      refine at_get (index := 196) (v := .long (mL m36 b7 12)) cok1 12 80 rfl (by decide +kernel) k40 (by decide +kernel) tw_236 rfl ?_
      refine at_ladd 81 rfl (by decide +kernel) ?_
      refine at_lstore (i := 4) (lc' := [(0, va_rf (some t)), (1, .int (l1)), (2, va_rf (some b7)), (3, .int (mI m b10 (mI m t 9).toNatClampNeg)), (4, .long ((((mI m36 t 12).toInt64) * ((mI m b10 (mI m t 9).toNatClampNeg).toInt64)) + (mL m36 b7 12)))]) [1, 2, 3, 4, 0] 83 rfl (by decide +kernel) (by decide +kernel) rfl ?_
      refine at_aload_n (i := 2) 2 84 rfl (by decide +kernel) rfl ?_
      refine at_lload (i := 4) 4 86 rfl (by decide +kernel) rfl ?_
      refine at_ldc2 (index := 199) (100 : Int64) 89 rfl (by decide +kernel) tw_758 ?_
      refine at_ldiv 90 rfl (by decide +kernel) (by decide +kernel) ?_
      refine at_lconst (n := 0) (0 : Int64) 91 rfl (by decide +kernel) (by decide +kernel) ?_
      refine at_iload_n (i := 3) 3 92 rfl (by decide +kernel) rfl ?_
      refine at_i2l 93 rfl (by decide +kernel) ?_
      refine at_callSN mb_SL_cutTo tw_741 (index := 201) (host := "SurplusLand") (by decide +kernel) [.long (((((mI m36 t 12).toInt64) * ((mI m b10 (mI m t 9).toNatClampNeg).toInt64)) + (mL m36 b7 12)) / (100 : Int64)), .long ((0 : Int64)), .long ((mI m b10 (mI m t 9).toNatClampNeg).toInt64)] [va_rf (some b7)] rfl rfl (by simp [va_rf_cat, cat_int, cat_long]) 96 rfl (by decide +kernel) (Call.toJ (CJ.monoE h (fun x49 m50 h y51 => ?_)))
      have k52 : mK m50 t = 4 := y51.k k38 (by decide)
      have k53 : mK m50 b3 = 19 := y51.k k39 (by decide)
      have k54 : mK m50 b7 = 2 := y51.k k40 (by decide)
      have k55 : mK m50 b10 = 15 := y51.k k41 (by decide)
      have k56 : mK m50 b20 = 3 := y51.k k42 (by decide)
      have k57 : mK m50 b31 = 17 := y51.k k43 (by decide)
      have k58 : mK m50 b44 = 17 := y51.k k46 (by decide)
      refine at_l2i 97 rfl (by decide +kernel) ?_
      refine at_putI (index := 185) cok1 10 100 rfl (by decide +kernel) k54 (by decide +kernel) tw_230 rfl rfl rfl (fun m59 e60 => ?_)
      replace h := h m59 e60
      have k61 : mK m59 t = 4 := by rw [e60]; exact k52
      have k62 : mK m59 b3 = 19 := by rw [e60]; exact k53
      have k63 : mK m59 b7 = 2 := by rw [e60]; exact k54
      have k64 : mK m59 b10 = 15 := by rw [e60]; exact k55
      have k65 : mK m59 b20 = 3 := by rw [e60]; exact k56
      have k66 : mK m59 b31 = 17 := by rw [e60]; exact k57
      have k67 : mK m59 b44 = 17 := by rw [e60]; exact k58
      refine at_aload_n (i := 2) 2 101 rfl (by decide +kernel) rfl ?_
      refine at_lload (i := 4) 4 103 rfl (by decide +kernel) rfl ?_
      refine at_ldc2 (index := 199) (100 : Int64) 106 rfl (by decide +kernel) tw_758 ?_
      refine at_aload_n (i := 2) 2 107 rfl (by decide +kernel) rfl ?_
      refine at_get (index := 185) (v := .int (mI m59 b7 10)) cok1 10 110 rfl (by decide +kernel) k63 (by decide +kernel) tw_230 rfl ?_
      refine at_i2l 111 rfl (by decide +kernel) ?_
      refine at_lmul 112 rfl (by decide +kernel) ?_
      refine at_lsub 113 rfl (by decide +kernel) ?_
      refine at_putJ (index := 196) cok1 12 116 rfl (by decide +kernel) k63 (by decide +kernel) tw_236 rfl rfl rfl (fun m68 e69 => ?_)
      replace h := h m68 e69
      have k70 : mK m68 t = 4 := by rw [e69]; exact k61
      have k71 : mK m68 b3 = 19 := by rw [e69]; exact k62
      have k72 : mK m68 b7 = 2 := by rw [e69]; exact k63
      have k73 : mK m68 b10 = 15 := by rw [e69]; exact k64
      have k74 : mK m68 b20 = 3 := by rw [e69]; exact k65
      have k75 : mK m68 b31 = 17 := by rw [e69]; exact k66
      have k76 : mK m68 b44 = 17 := by rw [e69]; exact k67
      refine at_aload_n (i := 2) 2 117 rfl (by decide +kernel) rfl ?_
      refine at_get (index := 185) (v := .int (mI m68 b7 10)) cok1 10 120 rfl (by decide +kernel) k72 (by decide +kernel) tw_230 rfl ?_
      refine at_if_le (off := 47) 167 123 rfl (by decide +kernel) (by decide +kernel) (fun c77 => ?_) (fun c77 => ?_)
      · rw [if_pos c77] at h
        refine at_iinc (i := 1) (n := 1) (lc' := [(0, va_rf (some t)), (1, .int (l1 + (1 : Int32)))]) (l1 + (1 : Int32)) 1 [1, 0] 170 rfl (by decide +kernel) rfl (by rw [show Int32.ofInt 1 = (1 : Int32) from by decide +kernel]) (by decide +kernel) rfl ?_
        refine at_goto (off := (-168)) 2 (by decide +kernel) (by decide +kernel) ?_
        exact h
      · rw [if_neg c77] at h
        refine at_aload_n (i := 2) 2 124 rfl (by decide +kernel) rfl ?_
        refine at_dup 125 rfl (by decide +kernel) (va_rf_cat _) ?_
        refine at_get (index := 84) (v := .int (mI m68 b7 9)) cok1 9 128 rfl (by decide +kernel) k72 (by decide +kernel) tw_227 rfl ?_
        refine at_aload_n (i := 2) 2 129 rfl (by decide +kernel) rfl ?_
        refine at_get (index := 185) (v := .int (mI m68 b7 10)) cok1 10 132 rfl (by decide +kernel) k72 (by decide +kernel) tw_230 rfl ?_
        refine at_isub 133 rfl (by decide +kernel) ?_
        refine at_putI (index := 84) cok1 9 136 rfl (by decide +kernel) k72 (by decide +kernel) tw_227 rfl rfl rfl (fun m78 e79 => ?_)
        replace h := h m78 e79
        have k80 : mK m78 t = 4 := by rw [e79]; exact k70
        have k81 : mK m78 b3 = 19 := by rw [e79]; exact k71
        have k82 : mK m78 b7 = 2 := by rw [e79]; exact k72
        have k83 : mK m78 b10 = 15 := by rw [e79]; exact k73
        have k84 : mK m78 b20 = 3 := by rw [e79]; exact k74
        have k85 : mK m78 b31 = 17 := by rw [e79]; exact k75
        have k86 : mK m78 b44 = 17 := by rw [e79]; exact k76
        refine at_aload_n (i := 0) 0 137 rfl (by decide +kernel) rfl ?_
        refine at_get (index := 26) (v := va_rf (mR m78 t 3)) cok3 3 140 rfl (by decide +kernel) k80 (by decide +kernel) tw_290 rfl ?_
        refine at_iload_n (i := 1) 1 141 rfl (by decide +kernel) rfl ?_
        refine at_aload_n (i := 2) 2 142 rfl (by decide +kernel) rfl ?_
        refine at_get (index := 185) (v := .int (mI m78 b7 10)) cok1 10 145 rfl (by decide +kernel) k82 (by decide +kernel) tw_230 rfl ?_
        refine at_aload_n (i := 0) 0 146 rfl (by decide +kernel) rfl ?_
        refine at_get (index := 69) (v := .int (mI m78 t 9)) cok3 9 149 rfl (by decide +kernel) k80 (by decide +kernel) tw_299 rfl ?_
        obtain ⟨b87, e88, h⟩ := h
        rw [e88]
        obtain ⟨k89, h⟩ := h
        refine at_callV mb_Store_issue tw_761 tw_762 cok8 k89 (index := 205) tw_760 [.int (l1), .int (mI m78 b7 10), .int (mI m78 t 9)] [] rfl rfl (by decide) 152 rfl (by decide +kernel) (Call.toI (CI.monoE h (fun x90 m91 h y92 => ?_)))
        have k93 : mK m91 t = 4 := y92.k k80 (by decide)
        have k94 : mK m91 b3 = 19 := y92.k k81 (by decide)
        have k95 : mK m91 b7 = 2 := y92.k k82 (by decide)
        have k96 : mK m91 b10 = 15 := y92.k k83 (by decide)
        have k97 : mK m91 b20 = 3 := y92.k k84 (by decide)
        have k98 : mK m91 b31 = 17 := y92.k k85 (by decide)
        have k99 : mK m91 b44 = 17 := y92.k k86 (by decide)
        have k100 : mK m91 b87 = 9 := y92.k k89 (by decide)
        refine at_pop 153 rfl (by decide +kernel) rfl ?_
        refine at_aload_n (i := 0) 0 154 rfl (by decide +kernel) rfl ?_
        refine at_get (index := 44) (v := va_rf (mR m91 t 7)) cok3 7 157 rfl (by decide +kernel) k93 (by decide +kernel) tw_295 rfl ?_
        refine at_iconst (n := 1) (1 : Int32) 158 rfl (by decide +kernel) (by decide +kernel) ?_
        refine at_dup2_11 159 rfl (by decide +kernel) rfl (va_rf_cat _) ?_
        obtain ⟨b101, e102, h⟩ := h
        rw [e102]
        obtain ⟨k103, h⟩ := h
        obtain ⟨v104, h⟩ := h
        refine at_lald 160 rfl (by decide +kernel) k103 v104 ?_
        refine at_aload_n (i := 2) 2 161 rfl (by decide +kernel) rfl ?_
        refine at_get (index := 185) (v := .int (mI m91 b7 10)) cok1 10 164 rfl (by decide +kernel) k95 (by decide +kernel) tw_230 rfl ?_
        refine at_i2l 165 rfl (by decide +kernel) ?_
        refine at_ladd 166 rfl (by decide +kernel) ?_
        obtain ⟨v105, h⟩ := h
        refine at_last 167 rfl (by decide +kernel) k103 v105 (fun m106 e107 => ?_)
        replace h := h m106 e107
        have k108 : mK m106 t = 4 := by rw [e107]; exact k93
        have k109 : mK m106 b3 = 19 := by rw [e107]; exact k94
        have k110 : mK m106 b7 = 2 := by rw [e107]; exact k95
        have k111 : mK m106 b10 = 15 := by rw [e107]; exact k96
        have k112 : mK m106 b20 = 3 := by rw [e107]; exact k97
        have k113 : mK m106 b31 = 17 := by rw [e107]; exact k98
        have k114 : mK m106 b44 = 17 := by rw [e107]; exact k99
        have k115 : mK m106 b87 = 9 := by rw [e107]; exact k100
        have k116 : mK m106 b101 = 16 := by rw [e107]; exact k103
        refine at_iinc (i := 1) (n := 1) (lc' := [(0, va_rf (some t)), (1, .int (l1 + (1 : Int32)))]) (l1 + (1 : Int32)) 1 [1, 0] 170 rfl (by decide +kernel) rfl (by rw [show Int32.ofInt 1 = (1 : Int32) from by decide +kernel]) (by decide +kernel) rfl ?_
        refine at_goto (off := (-168)) 2 (by decide +kernel) (by decide +kernel) ?_
        exact h
    · rw [if_neg c48] at h
      refine at_goto (off := 102) 167 (by decide +kernel) (by decide +kernel) ?_
      refine at_iinc (i := 1) (n := 1) (lc' := [(0, va_rf (some t)), (1, .int (l1 + (1 : Int32)))]) (l1 + (1 : Int32)) 1 [1, 0] 170 rfl (by decide +kernel) rfl (by rw [show Int32.ofInt 1 = (1 : Int32) from by decide +kernel]) (by decide +kernel) rfl ?_
      refine at_goto (off := (-168)) 2 (by decide +kernel) (by decide +kernel) ?_
      exact h
set_option maxRecDepth 20000 in
set_option maxHeartbeats 4000000 in
theorem en_Land_keepParts (g : Gc) {lv : Nat} {t : Nat} {m : Mm} {Q : Mm → Prop} (h : At g M_Land_keepParts (lv + 1) 2 [(0, va_rf (some t)), (1, .int ((0 : Int32)))] [] m (QV Q)) : CV g M_Land_keepParts (lv + 1) [va_rf (some t)] m Q := by
  refine Call.of (by decide +kernel) (Nat.le_of_ble_eq_true rfl) ?_
  show At g M_Land_keepParts (lv + 1) 0 [(0, va_rf (some t))] [] m (QV Q)
  refine at_iconst (n := 0) (0 : Int32) 1 rfl (by decide +kernel) (by decide +kernel) ?_
  refine at_istore_n (i := 1) (lc' := [(0, va_rf (some t)), (1, .int ((0 : Int32)))]) [1, 0] 2 rfl (by decide +kernel) (by decide +kernel) rfl ?_
  exact h
set_option maxRecDepth 20000 in
set_option maxHeartbeats 4000000 in
theorem bk_Land_sellStored_11 (g : Gc) {lv : Nat} {t : Nat} {l1 : Int32} {l2 : Int64} {l4 : Int32} {m : Mm} {Q : Mm → Prop} (h : if (l1) ≤ (l4) then (Q m) else (mK m t = 4 ∧ (∃ b3, mR m t 3 = some b3 ∧ (mK m b3 = 9 ∧ (if (mI m b3 1) ≤ (l4) then (Q m) else (∃ b7, mR m b3 0 = some b7 ∧ (mK m b7 = 21 ∧ (vp_in l4 (mN m b7) ∧ (∃ b11, mR m b7 l4.toNatClampNeg = some b11 ∧ (mK m b11 = 7 ∧ (∀ m14, m14 = sI m b11 1 ((mI m b11 1) - ((lmn l2 ((mI m b11 1).toInt64)).toInt32)) → (CV g M_Land_credit lv [va_rf (some t), .int (mI m14 b11 0), .long ((((lmn l2 ((mI m b11 1).toInt64)).toInt32).toInt64) * ((mI m14 t 10).toInt64))] m14 (fun m20 => (∃ b26, mR m20 t 7 = some b26 ∧ (mK m20 b26 = 16 ∧ (vp_in (3 : Int32) (mN m20 b26) ∧ (vp_in (3 : Int32) (mN m20 b26) ∧ (∀ m31, m31 = sL m20 b26 (3 : Int32).toNatClampNeg ((mL m20 b26 (3 : Int32).toNatClampNeg) + (((lmn l2 ((mI m b11 1).toInt64)).toInt32).toInt64)) → (At g M_Land_sellStored (lv + 1) 11 [(0, va_rf (some t)), (1, .int (l1)), (2, .long (l2 - (((lmn l2 ((mI m b11 1).toInt64)).toInt32).toInt64))), (4, .int (l4 + (1 : Int32)))] [] m31 (QV Q)))))))))))))))))))) : At g M_Land_sellStored (lv + 1) 11 [(0, va_rf (some t)), (1, .int (l1)), (2, .long (l2)), (4, .int (l4))] [] m (QV Q) := by
  refine at_iload (i := 4) 3 13 rfl (by decide +kernel) rfl ?_
  refine at_iload_n (i := 1) 1 14 rfl (by decide +kernel) rfl ?_
  refine at_icmp_ge (off := 94) 108 17 rfl (by decide +kernel) (by decide +kernel) (fun c1 => ?_) (fun c1 => ?_)
  · rw [if_pos c1] at h
    exact at_vret rfl (by decide +kernel) h
  · rw [if_neg c1] at h
    refine at_iload (i := 4) 3 19 rfl (by decide +kernel) rfl ?_
    refine at_aload_n (i := 0) 0 20 rfl (by decide +kernel) rfl ?_
    obtain ⟨k2, h⟩ := h
    refine at_get (index := 26) (v := va_rf (mR m t 3)) cok3 3 23 rfl (by decide +kernel) k2 (by decide +kernel) tw_290 rfl ?_
    obtain ⟨b3, e4, h⟩ := h
    rw [e4]
    obtain ⟨k5, h⟩ := h
    refine at_get (index := 90) (v := .int (mI m b3 1)) cok8 1 26 rfl (by decide +kernel) k5 (by decide +kernel) tw_154 rfl ?_
    refine at_icmp_ge (off := 82) 108 29 rfl (by decide +kernel) (by decide +kernel) (fun c6 => ?_) (fun c6 => ?_)
    · rw [if_pos c6] at h
      exact at_vret rfl (by decide +kernel) h
    · rw [if_neg c6] at h
      refine at_aload_n (i := 0) 0 30 rfl (by decide +kernel) rfl ?_
      refine at_get (index := 26) (v := va_rf (mR m t 3)) cok3 3 33 rfl (by decide +kernel) k2 (by decide +kernel) tw_290 rfl ?_
      rw [e4]
      refine at_get (index := 212) (v := va_rf (mR m b3 0)) cok8 0 36 rfl (by decide +kernel) k5 (by decide +kernel) tw_152 rfl ?_
      refine at_iload (i := 4) 3 38 rfl (by decide +kernel) rfl ?_
      obtain ⟨b7, e8, h⟩ := h
      rw [e8]
      obtain ⟨k9, h⟩ := h
      obtain ⟨v10, h⟩ := h
      refine at_aaldReceipt 39 rfl (by decide +kernel) k9 v10 ?_
      refine at_astore (i := 5) (lc' := [(0, va_rf (some t)), (1, .int (l1)), (2, .long (l2)), (4, .int (l4)), (5, va_rf (mR m b7 l4.toNatClampNeg))]) [1, 2, 3, 4, 0] 41 rfl (by decide +kernel) (by decide +kernel) rfl ?_
      refine at_lload_n (i := 2) 2 42 rfl (by decide +kernel) rfl ?_
      refine at_aload (i := 5) 4 44 rfl (by decide +kernel) rfl ?_
      obtain ⟨b11, e12, h⟩ := h
      rw [e12]
      obtain ⟨k13, h⟩ := h
      refine at_get (index := 216) (v := .int (mI m b11 1)) cok6 1 47 rfl (by decide +kernel) k13 (by decide +kernel) tw_778 rfl ?_
      refine at_i2l 48 rfl (by decide +kernel) ?_
      refine at_lmn (index := 221) 51 rfl (by decide +kernel) tw_805 (by decide) ?_
      refine at_l2i 52 rfl (by decide +kernel) ?_
      refine at_istore (i := 6) (lc' := [(0, va_rf (some t)), (1, .int (l1)), (2, .long (l2)), (4, .int (l4)), (5, va_rf (some b11)), (6, .int ((lmn l2 ((mI m b11 1).toInt64)).toInt32))]) [1, 2, 3, 4, 5, 0] 54 rfl (by decide +kernel) (by decide +kernel) rfl ?_
      refine at_aload (i := 5) 4 56 rfl (by decide +kernel) rfl ?_
      refine at_dup 57 rfl (by decide +kernel) (va_rf_cat _) ?_
      refine at_get (index := 216) (v := .int (mI m b11 1)) cok6 1 60 rfl (by decide +kernel) k13 (by decide +kernel) tw_778 rfl ?_
      refine at_iload (i := 6) 5 62 rfl (by decide +kernel) rfl ?_
      refine at_isub 63 rfl (by decide +kernel) ?_
      refine at_putI (index := 216) cok6 1 66 rfl (by decide +kernel) k13 (by decide +kernel) tw_778 rfl rfl rfl (fun m14 e15 => ?_)
      replace h := h m14 e15
      have k16 : mK m14 t = 4 := by rw [e15]; exact k2
      have k17 : mK m14 b3 = 9 := by rw [e15]; exact k5
      have k18 : mK m14 b7 = 21 := by rw [e15]; exact k9
      have k19 : mK m14 b11 = 7 := by rw [e15]; exact k13
      refine at_lload_n (i := 2) 2 67 rfl (by decide +kernel) rfl ?_
      refine at_iload (i := 6) 5 69 rfl (by decide +kernel) rfl ?_
      refine at_i2l 70 rfl (by decide +kernel) ?_
      refine at_lsub 71 rfl (by decide +kernel) ?_
      refine at_lstore_n (i := 2) (lc' := [(0, va_rf (some t)), (1, .int (l1)), (2, .long (l2 - (((lmn l2 ((mI m b11 1).toInt64)).toInt32).toInt64))), (4, .int (l4)), (5, va_rf (some b11)), (6, .int ((lmn l2 ((mI m b11 1).toInt64)).toInt32))]) [1, 2, 0, 3, 4, 5] 72 rfl (by decide +kernel) (by decide +kernel) rfl ?_
      refine at_aload_n (i := 0) 0 73 rfl (by decide +kernel) rfl ?_
      refine at_aload (i := 5) 4 75 rfl (by decide +kernel) rfl ?_
      refine at_get (index := 227) (v := .int (mI m14 b11 0)) cok6 0 78 rfl (by decide +kernel) k19 (by decide +kernel) tw_775 rfl ?_
      refine at_iload (i := 6) 5 80 rfl (by decide +kernel) rfl ?_
      refine at_i2l 81 rfl (by decide +kernel) ?_
      refine at_aload_n (i := 0) 0 82 rfl (by decide +kernel) rfl ?_
      refine at_get (index := 48) (v := .int (mI m14 t 10)) cok3 10 85 rfl (by decide +kernel) k16 (by decide +kernel) tw_301 rfl ?_
      refine at_i2l 86 rfl (by decide +kernel) ?_
      refine at_lmul 87 rfl (by decide +kernel) ?_
      refine at_callV mb_Land_credit tw_807 tw_808 cok3 k16 (index := 230) tw_806 [.int (mI m14 b11 0), .long ((((lmn l2 ((mI m b11 1).toInt64)).toInt32).toInt64) * ((mI m14 t 10).toInt64))] [] rfl rfl (by decide) 90 rfl (by decide +kernel) (Call.toV (CV.monoE h (fun m20 h y21 => ?_)))
      have k22 : mK m20 t = 4 := y21.k k16 (by decide)
      have k23 : mK m20 b3 = 9 := y21.k k17 (by decide)
      have k24 : mK m20 b7 = 21 := y21.k k18 (by decide)
      have k25 : mK m20 b11 = 7 := y21.k k19 (by decide)
      refine at_aload_n (i := 0) 0 91 rfl (by decide +kernel) rfl ?_
      refine at_get (index := 44) (v := va_rf (mR m20 t 7)) cok3 7 94 rfl (by decide +kernel) k22 (by decide +kernel) tw_295 rfl ?_
      refine at_iconst (n := 3) (3 : Int32) 95 rfl (by decide +kernel) (by decide +kernel) ?_
      refine at_dup2_11 96 rfl (by decide +kernel) rfl (va_rf_cat _) ?_
      obtain ⟨b26, e27, h⟩ := h
      rw [e27]
      obtain ⟨k28, h⟩ := h
      obtain ⟨v29, h⟩ := h
      refine at_lald 97 rfl (by decide +kernel) k28 v29 ?_
      refine at_iload (i := 6) 5 99 rfl (by decide +kernel) rfl ?_
      refine at_i2l 100 rfl (by decide +kernel) ?_
      refine at_ladd 101 rfl (by decide +kernel) ?_
      obtain ⟨v30, h⟩ := h
      refine at_last 102 rfl (by decide +kernel) k28 v30 (fun m31 e32 => ?_)
      replace h := h m31 e32
      have k33 : mK m31 t = 4 := by rw [e32]; exact k22
      have k34 : mK m31 b3 = 9 := by rw [e32]; exact k23
      have k35 : mK m31 b7 = 21 := by rw [e32]; exact k24
      have k36 : mK m31 b11 = 7 := by rw [e32]; exact k25
      have k37 : mK m31 b26 = 16 := by rw [e32]; exact k28
      refine at_iinc (i := 4) (n := 1) (lc' := [(0, va_rf (some t)), (1, .int (l1)), (2, .long (l2 - (((lmn l2 ((mI m b11 1).toInt64)).toInt32).toInt64))), (4, .int (l4 + (1 : Int32)))]) (l4 + (1 : Int32)) 3 [1, 2, 3, 0] 105 rfl (by decide +kernel) rfl (by rw [show Int32.ofInt 1 = (1 : Int32) from by decide +kernel]) (by decide +kernel) rfl ?_
      refine at_goto (off := (-94)) 11 (by decide +kernel) (by decide +kernel) ?_
      exact h
set_option maxRecDepth 20000 in
set_option maxHeartbeats 4000000 in
theorem en_Land_sellStored (g : Gc) {lv : Nat} {t : Nat} {l1 : Int32} {m : Mm} {Q : Mm → Prop} (h : mK m t = 4 ∧ (∃ b2, mR m t 4 = some b2 ∧ (mK m b2 = 3 ∧ (At g M_Land_sellStored (lv + 1) 11 [(0, va_rf (some t)), (1, .int (l1)), (2, .long (mL m b2 8)), (4, .int ((0 : Int32)))] [] m (QV Q))))) : CV g M_Land_sellStored (lv + 1) [va_rf (some t), .int (l1)] m Q := by
  refine Call.of (by decide +kernel) (Nat.le_of_ble_eq_true rfl) ?_
  show At g M_Land_sellStored (lv + 1) 0 [(0, va_rf (some t)), (1, .int (l1))] [] m (QV Q)
  refine at_aload_n (i := 0) 0 1 rfl (by decide +kernel) rfl ?_
  obtain ⟨k1, h⟩ := h
  refine at_get (index := 33) (v := va_rf (mR m t 4)) cok3 4 4 rfl (by decide +kernel) k1 (by decide +kernel) tw_292 rfl ?_
  obtain ⟨b2, e3, h⟩ := h
  rw [e3]
  obtain ⟨k4, h⟩ := h
  refine at_get (index := 209) (v := .long (mL m b2 8)) cok2 8 7 rfl (by decide +kernel) k4 (by decide +kernel) tw_179 rfl ?_
  refine at_lstore_n (i := 2) (lc' := [(0, va_rf (some t)), (1, .int (l1)), (2, .long (mL m b2 8))]) [1, 2, 0] 8 rfl (by decide +kernel) (by decide +kernel) rfl ?_
  refine at_iconst (n := 0) (0 : Int32) 9 rfl (by decide +kernel) (by decide +kernel) ?_
  refine at_istore (i := 4) (lc' := [(0, va_rf (some t)), (1, .int (l1)), (2, .long (mL m b2 8)), (4, .int ((0 : Int32)))]) [1, 2, 3, 0] 11 rfl (by decide +kernel) (by decide +kernel) rfl ?_
  exact h
set_option maxRecDepth 20000 in
set_option maxHeartbeats 4000000 in
theorem bk_Land_stillStored_14 (g : Gc) {lv : Nat} {t : Nat} {l1 : Int32} {m : Mm} {Q : Mm → Prop} (h : mK m t = 4 ∧ (∃ b2, mR m t 3 = some b2 ∧ (mK m b2 = 9 ∧ (if (mI m b2 1) ≤ (l1) then (Q m) else (∃ b6, mR m b2 0 = some b6 ∧ (mK m b6 = 21 ∧ (vp_in l1 (mN m b6) ∧ (∃ b10, mR m b6 l1.toNatClampNeg = some b10 ∧ (mK m b10 = 7 ∧ (∃ b13, mR m t 4 = some b13 ∧ (mK m b13 = 3 ∧ (if ((mI m t 9) - (mI m b10 2)) ≤ (mI m b13 6) then (At g M_Land_stillStored (lv + 1) 14 [(0, va_rf (some t)), (1, .int (l1 + (1 : Int32)))] [] m (QV Q)) else (CV g M_Land_credit lv [va_rf (some t), .int (mI m b10 0), .long (((mI m b10 1).toInt64) * (((mI m t 10) / (4 : Int32)).toInt64))] m (fun m17 => (∃ b24, mR m17 t 7 = some b24 ∧ (mK m17 b24 = 16 ∧ (vp_in (5 : Int32) (mN m17 b24) ∧ (vp_in (5 : Int32) (mN m17 b24) ∧ (∀ m29, m29 = sL m17 b24 (5 : Int32).toNatClampNeg ((mL m17 b24 (5 : Int32).toNatClampNeg) + ((mI m17 b10 1).toInt64)) → (∀ m37, m37 = sI m29 b10 1 (0 : Int32) → (At g M_Land_stillStored (lv + 1) 14 [(0, va_rf (some t)), (1, .int (l1 + (1 : Int32)))] [] m37 (QV Q)))))))))))))))))))))) : At g M_Land_stillStored (lv + 1) 14 [(0, va_rf (some t)), (1, .int (l1))] [] m (QV Q) := by
  refine at_iload_n (i := 1) 1 15 rfl (by decide +kernel) rfl ?_
  refine at_aload_n (i := 0) 0 16 rfl (by decide +kernel) rfl ?_
  obtain ⟨k1, h⟩ := h
  refine at_get (index := 26) (v := va_rf (mR m t 3)) cok3 3 19 rfl (by decide +kernel) k1 (by decide +kernel) tw_290 rfl ?_
  obtain ⟨b2, e3, h⟩ := h
  rw [e3]
  obtain ⟨k4, h⟩ := h
  refine at_get (index := 90) (v := .int (mI m b2 1)) cok8 1 22 rfl (by decide +kernel) k4 (by decide +kernel) tw_154 rfl ?_
  refine at_icmp_ge (off := 78) 100 25 rfl (by decide +kernel) (by decide +kernel) (fun c5 => ?_) (fun c5 => ?_)
  · rw [if_pos c5] at h
    exact at_vret rfl (by decide +kernel) h
  · rw [if_neg c5] at h
    refine at_aload_n (i := 0) 0 26 rfl (by decide +kernel) rfl ?_
    refine at_get (index := 26) (v := va_rf (mR m t 3)) cok3 3 29 rfl (by decide +kernel) k1 (by decide +kernel) tw_290 rfl ?_
    rw [e3]
    refine at_get (index := 212) (v := va_rf (mR m b2 0)) cok8 0 32 rfl (by decide +kernel) k4 (by decide +kernel) tw_152 rfl ?_
    refine at_iload_n (i := 1) 1 33 rfl (by decide +kernel) rfl ?_
    obtain ⟨b6, e7, h⟩ := h
    rw [e7]
    obtain ⟨k8, h⟩ := h
    obtain ⟨v9, h⟩ := h
    refine at_aaldReceipt 34 rfl (by decide +kernel) k8 v9 ?_
    refine at_astore_n (i := 2) (lc' := [(0, va_rf (some t)), (1, .int (l1)), (2, va_rf (mR m b6 l1.toNatClampNeg))]) [1, 2, 0] 35 rfl (by decide +kernel) (by decide +kernel) rfl ?_
    refine at_aload_n (i := 0) 0 36 rfl (by decide +kernel) rfl ?_
    refine at_get (index := 69) (v := .int (mI m t 9)) cok3 9 39 rfl (by decide +kernel) k1 (by decide +kernel) tw_299 rfl ?_
    refine at_aload_n (i := 2) 2 40 rfl (by decide +kernel) rfl ?_
    obtain ⟨b10, e11, h⟩ := h
    rw [e11]
    obtain ⟨k12, h⟩ := h
    refine at_get (index := 237) (v := .int (mI m b10 2)) cok6 2 43 rfl (by decide +kernel) k12 (by decide +kernel) tw_781 rfl ?_
    refine at_isub 44 rfl (by decide +kernel) ?_
    refine at_aload_n (i := 0) 0 45 rfl (by decide +kernel) rfl ?_
    refine at_get (index := 33) (v := va_rf (mR m t 4)) cok3 4 48 rfl (by decide +kernel) k1 (by decide +kernel) tw_292 rfl ?_
    obtain ⟨b13, e14, h⟩ := h
    rw [e14]
    obtain ⟨k15, h⟩ := h
    refine at_get (index := 234) (v := .int (mI m b13 6)) cok2 6 51 rfl (by decide +kernel) k15 (by decide +kernel) tw_176 rfl ?_
    refine at_icmp_le (off := 43) 94 54 rfl (by decide +kernel) (by decide +kernel) (fun c16 => ?_) (fun c16 => ?_)
    · rw [if_pos c16] at h
      refine at_iinc (i := 1) (n := 1) (lc' := [(0, va_rf (some t)), (1, .int (l1 + (1 : Int32)))]) (l1 + (1 : Int32)) 1 [1, 0] 97 rfl (by decide +kernel) rfl (by rw [show Int32.ofInt 1 = (1 : Int32) from by decide +kernel]) (by decide +kernel) rfl ?_
      refine at_goto (off := (-83)) 14 (by decide +kernel) (by decide +kernel) ?_
      exact h
    · rw [if_neg c16] at h
      refine at_aload_n (i := 0) 0 55 rfl (by decide +kernel) rfl ?_
      refine at_aload_n (i := 2) 2 56 rfl (by decide +kernel) rfl ?_
      refine at_get (index := 227) (v := .int (mI m b10 0)) cok6 0 59 rfl (by decide +kernel) k12 (by decide +kernel) tw_775 rfl ?_
      refine at_aload_n (i := 2) 2 60 rfl (by decide +kernel) rfl ?_
      refine at_get (index := 216) (v := .int (mI m b10 1)) cok6 1 63 rfl (by decide +kernel) k12 (by decide +kernel) tw_778 rfl ?_
      refine at_i2l 64 rfl (by decide +kernel) ?_
      refine at_aload_n (i := 0) 0 65 rfl (by decide +kernel) rfl ?_
      refine at_get (index := 48) (v := .int (mI m t 10)) cok3 10 68 rfl (by decide +kernel) k1 (by decide +kernel) tw_301 rfl ?_
      refine at_iconst (n := 4) (4 : Int32) 69 rfl (by decide +kernel) (by decide +kernel) ?_
      refine at_idiv 70 rfl (by decide +kernel) (by decide +kernel) ?_
      refine at_i2l 71 rfl (by decide +kernel) ?_
      refine at_lmul 72 rfl (by decide +kernel) ?_
      refine at_callV mb_Land_credit tw_807 tw_808 cok3 k1 (index := 230) tw_806 [.int (mI m b10 0), .long (((mI m b10 1).toInt64) * (((mI m t 10) / (4 : Int32)).toInt64))] [] rfl rfl (by decide) 75 rfl (by decide +kernel) (Call.toV (CV.monoE h (fun m17 h y18 => ?_)))
      have k19 : mK m17 t = 4 := y18.k k1 (by decide)
      have k20 : mK m17 b2 = 9 := y18.k k4 (by decide)
      have k21 : mK m17 b6 = 21 := y18.k k8 (by decide)
      have k22 : mK m17 b10 = 7 := y18.k k12 (by decide)
      have k23 : mK m17 b13 = 3 := y18.k k15 (by decide)
      refine at_aload_n (i := 0) 0 76 rfl (by decide +kernel) rfl ?_
      refine at_get (index := 44) (v := va_rf (mR m17 t 7)) cok3 7 79 rfl (by decide +kernel) k19 (by decide +kernel) tw_295 rfl ?_
      refine at_iconst (n := 5) (5 : Int32) 80 rfl (by decide +kernel) (by decide +kernel) ?_
      refine at_dup2_11 81 rfl (by decide +kernel) rfl (va_rf_cat _) ?_
      obtain ⟨b24, e25, h⟩ := h
      rw [e25]
      obtain ⟨k26, h⟩ := h
      obtain ⟨v27, h⟩ := h
      refine at_lald 82 rfl (by decide +kernel) k26 v27 ?_
      refine at_aload_n (i := 2) 2 83 rfl (by decide +kernel) rfl ?_
      refine at_get (index := 216) (v := .int (mI m17 b10 1)) cok6 1 86 rfl (by decide +kernel) k22 (by decide +kernel) tw_778 rfl ?_
      refine at_i2l 87 rfl (by decide +kernel) ?_
      refine at_ladd 88 rfl (by decide +kernel) ?_
      obtain ⟨v28, h⟩ := h
      refine at_last 89 rfl (by decide +kernel) k26 v28 (fun m29 e30 => ?_)
      replace h := h m29 e30
      have k31 : mK m29 t = 4 := by rw [e30]; exact k19
      have k32 : mK m29 b2 = 9 := by rw [e30]; exact k20
      have k33 : mK m29 b6 = 21 := by rw [e30]; exact k21
      have k34 : mK m29 b10 = 7 := by rw [e30]; exact k22
      have k35 : mK m29 b13 = 3 := by rw [e30]; exact k23
      have k36 : mK m29 b24 = 16 := by rw [e30]; exact k26
      refine at_aload_n (i := 2) 2 90 rfl (by decide +kernel) rfl ?_
      refine at_iconst (n := 0) (0 : Int32) 91 rfl (by decide +kernel) (by decide +kernel) ?_
      refine at_putI (index := 216) cok6 1 94 rfl (by decide +kernel) k34 (by decide +kernel) tw_778 rfl rfl rfl (fun m37 e38 => ?_)
      replace h := h m37 e38
      have k39 : mK m37 t = 4 := by rw [e38]; exact k31
      have k40 : mK m37 b2 = 9 := by rw [e38]; exact k32
      have k41 : mK m37 b6 = 21 := by rw [e38]; exact k33
      have k42 : mK m37 b10 = 7 := by rw [e38]; exact k34
      have k43 : mK m37 b13 = 3 := by rw [e38]; exact k35
      have k44 : mK m37 b24 = 16 := by rw [e38]; exact k36
      refine at_iinc (i := 1) (n := 1) (lc' := [(0, va_rf (some t)), (1, .int (l1 + (1 : Int32)))]) (l1 + (1 : Int32)) 1 [1, 0] 97 rfl (by decide +kernel) rfl (by rw [show Int32.ofInt 1 = (1 : Int32) from by decide +kernel]) (by decide +kernel) rfl ?_
      refine at_goto (off := (-83)) 14 (by decide +kernel) (by decide +kernel) ?_
      exact h
set_option maxRecDepth 20000 in
set_option maxHeartbeats 4000000 in
theorem en_Land_stillStored (g : Gc) {lv : Nat} {t : Nat} {m : Mm} {Q : Mm → Prop} (h : mK m t = 4 ∧ (∃ b2, mR m t 4 = some b2 ∧ (mK m b2 = 3 ∧ (if (mI m b2 6) = ((-1 : Int32)) then (Q m) else (At g M_Land_stillStored (lv + 1) 14 [(0, va_rf (some t)), (1, .int ((0 : Int32)))] [] m (QV Q)))))) : CV g M_Land_stillStored (lv + 1) [va_rf (some t)] m Q := by
  refine Call.of (by decide +kernel) (Nat.le_of_ble_eq_true rfl) ?_
  show At g M_Land_stillStored (lv + 1) 0 [(0, va_rf (some t))] [] m (QV Q)
  refine at_aload_n (i := 0) 0 1 rfl (by decide +kernel) rfl ?_
  obtain ⟨k1, h⟩ := h
  refine at_get (index := 33) (v := va_rf (mR m t 4)) cok3 4 4 rfl (by decide +kernel) k1 (by decide +kernel) tw_292 rfl ?_
  obtain ⟨b2, e3, h⟩ := h
  rw [e3]
  obtain ⟨k4, h⟩ := h
  refine at_get (index := 234) (v := .int (mI m b2 6)) cok2 6 7 rfl (by decide +kernel) k4 (by decide +kernel) tw_176 rfl ?_
  refine at_iconst (n := (-1)) (-1 : Int32) 8 rfl (by decide +kernel) (by decide +kernel) ?_
  refine at_icmp_ne (off := 4) 12 11 rfl (by decide +kernel) (by decide +kernel) (fun c5 => ?_) (fun c5 => ?_)
  · rw [if_neg c5] at h
    refine at_iconst (n := 0) (0 : Int32) 13 rfl (by decide +kernel) (by decide +kernel) ?_
    refine at_istore_n (i := 1) (lc' := [(0, va_rf (some t)), (1, .int ((0 : Int32)))]) [1, 0] 14 rfl (by decide +kernel) (by decide +kernel) rfl ?_
    exact h
  · rw [if_pos c5] at h
    exact at_vret rfl (by decide +kernel) h
set_option maxRecDepth 20000 in
set_option maxHeartbeats 4000000 in
theorem bk_Land_sellFree_92 (g : Gc) {lv : Nat} {t : Nat} {l3 : Int64} {l5 : Int64} {l7 : Int32} {m : Mm} {Q : Mm → Prop} (h : if ((12 : Int32)) ≤ (l7) then (mK m t = 4 ∧ (∃ b3, mR m t 7 = some b3 ∧ (mK m b3 = 16 ∧ (vp_in (2 : Int32) (mN m b3) ∧ (vp_in (2 : Int32) (mN m b3) ∧ (∀ m8, m8 = sL m b3 (2 : Int32).toNatClampNeg ((mL m b3 (2 : Int32).toNatClampNeg) + (l3 - l5)) → (Q m8))))))) else (if (l5) ≤ ((0 : Int64)) then (mK m t = 4 ∧ (∃ b14, mR m t 7 = some b14 ∧ (mK m b14 = 16 ∧ (vp_in (2 : Int32) (mN m b14) ∧ (vp_in (2 : Int32) (mN m b14) ∧ (∀ m19, m19 = sL m b14 (2 : Int32).toNatClampNeg ((mL m b14 (2 : Int32).toNatClampNeg) + (l3 - l5)) → (Q m19))))))) else (mK m t = 4 ∧ (CJ g M_Land_sellOneEach lv [va_rf (some t), .long (l5)] m (fun x24 m25 => (At g M_Land_sellFree (lv + 1) 92 [(0, va_rf (some t)), (3, .long (l3)), (5, .long (l5 - x24)), (7, .int (l7 + (1 : Int32)))] [] m25 (QV Q))))))) : At g M_Land_sellFree (lv + 1) 92 [(0, va_rf (some t)), (3, .long (l3)), (5, .long (l5)), (7, .int (l7))] [] m (QV Q) := by
  refine at_iload (i := 7) 3 94 rfl (by decide +kernel) rfl ?_
  refine at_bipush (n := 12) (12 : Int32) 96 rfl (by decide +kernel) (by decide +kernel) ?_
  refine at_icmp_ge (off := 27) 123 99 rfl (by decide +kernel) (by decide +kernel) (fun c1 => ?_) (fun c1 => ?_)
  · rw [if_pos c1] at h
    refine at_aload_n (i := 0) 0 124 rfl (by decide +kernel) rfl ?_
    obtain ⟨k2, h⟩ := h
    refine at_get (index := 44) (v := va_rf (mR m t 7)) cok3 7 127 rfl (by decide +kernel) k2 (by decide +kernel) tw_295 rfl ?_
    refine at_iconst (n := 2) (2 : Int32) 128 rfl (by decide +kernel) (by decide +kernel) ?_
    refine at_dup2_11 129 rfl (by decide +kernel) rfl (va_rf_cat _) ?_
    obtain ⟨b3, e4, h⟩ := h
    rw [e4]
    obtain ⟨k5, h⟩ := h
    obtain ⟨v6, h⟩ := h
    refine at_lald 130 rfl (by decide +kernel) k5 v6 ?_
    refine at_lload_n (i := 3) 1 131 rfl (by decide +kernel) rfl ?_
    refine at_lload (i := 5) 2 133 rfl (by decide +kernel) rfl ?_
    refine at_lsub 134 rfl (by decide +kernel) ?_
    refine at_ladd 135 rfl (by decide +kernel) ?_
    obtain ⟨v7, h⟩ := h
    refine at_last 136 rfl (by decide +kernel) k5 v7 (fun m8 e9 => ?_)
    replace h := h m8 e9
    have k10 : mK m8 t = 4 := by rw [e9]; exact k2
    have k11 : mK m8 b3 = 16 := by rw [e9]; exact k5
    exact at_vret rfl (by decide +kernel) h
  · rw [if_neg c1] at h
    refine at_lload (i := 5) 2 101 rfl (by decide +kernel) rfl ?_
    refine at_lconst (n := 0) (0 : Int64) 102 rfl (by decide +kernel) (by decide +kernel) ?_
    refine at_lif_le (off := 20) 103 123 106 rfl rfl (by decide +kernel) (by decide +kernel) (by decide +kernel) (fun c12 => ?_) (fun c12 => ?_)
    · rw [if_pos c12] at h
      refine at_aload_n (i := 0) 0 124 rfl (by decide +kernel) rfl ?_
      obtain ⟨k13, h⟩ := h
      refine at_get (index := 44) (v := va_rf (mR m t 7)) cok3 7 127 rfl (by decide +kernel) k13 (by decide +kernel) tw_295 rfl ?_
      refine at_iconst (n := 2) (2 : Int32) 128 rfl (by decide +kernel) (by decide +kernel) ?_
      refine at_dup2_11 129 rfl (by decide +kernel) rfl (va_rf_cat _) ?_
      obtain ⟨b14, e15, h⟩ := h
      rw [e15]
      obtain ⟨k16, h⟩ := h
      obtain ⟨v17, h⟩ := h
      refine at_lald 130 rfl (by decide +kernel) k16 v17 ?_
      refine at_lload_n (i := 3) 1 131 rfl (by decide +kernel) rfl ?_
      refine at_lload (i := 5) 2 133 rfl (by decide +kernel) rfl ?_
      refine at_lsub 134 rfl (by decide +kernel) ?_
      refine at_ladd 135 rfl (by decide +kernel) ?_
      obtain ⟨v18, h⟩ := h
      refine at_last 136 rfl (by decide +kernel) k16 v18 (fun m19 e20 => ?_)
      replace h := h m19 e20
      have k21 : mK m19 t = 4 := by rw [e20]; exact k13
      have k22 : mK m19 b14 = 16 := by rw [e20]; exact k16
      exact at_vret rfl (by decide +kernel) h
    · rw [if_neg c12] at h
      refine at_lload (i := 5) 2 108 rfl (by decide +kernel) rfl ?_
      refine at_aload_n (i := 0) 0 109 rfl (by decide +kernel) rfl ?_
      refine at_lload (i := 5) 2 111 rfl (by decide +kernel) rfl ?_
      obtain ⟨k23, h⟩ := h
      refine at_callV mb_Land_sellOneEach tw_828 tw_23 cok3 k23 (index := 241) tw_826 [.long (l5)] [.long (l5)] rfl rfl (by simp [va_rf_cat, cat_int, cat_long]) 114 rfl (by decide +kernel) (Call.toJ (CJ.monoE h (fun x24 m25 h y26 => ?_)))
      have k27 : mK m25 t = 4 := y26.k k23 (by decide)
      refine at_lsub 115 rfl (by decide +kernel) ?_
      refine at_lstore (i := 5) (lc' := [(0, va_rf (some t)), (3, .long (l3)), (5, .long (l5 - x24)), (7, .int (l7))]) [1, 2, 0, 3] 117 rfl (by decide +kernel) (by decide +kernel) rfl ?_
      refine at_iinc (i := 7) (n := 1) (lc' := [(0, va_rf (some t)), (3, .long (l3)), (5, .long (l5 - x24)), (7, .int (l7 + (1 : Int32)))]) (l7 + (1 : Int32)) 3 [1, 2, 3, 0] 120 rfl (by decide +kernel) rfl (by rw [show Int32.ofInt 1 = (1 : Int32) from by decide +kernel]) (by decide +kernel) rfl ?_
      refine at_goto (off := (-28)) 92 (by decide +kernel) (by decide +kernel) ?_
      exact h
set_option maxRecDepth 20000 in
set_option maxHeartbeats 4000000 in
theorem bk_Land_sellFree_32 (g : Gc) {lv : Nat} {t : Nat} {l1 : Int64} {l3 : Int64} {l5 : Int64} {l7 : Int32} {m : Mm} {Q : Mm → Prop} (h : mK m t = 4 ∧ (if (mI m t 8) ≤ (l7) then (At g M_Land_sellFree (lv + 1) 92 [(0, va_rf (some t)), (3, .long (l3)), (5, .long (l5)), (7, .int ((0 : Int32)))] [] m (QV Q)) else (∃ b3, mR m t 1 = some b3 ∧ (mK m b3 = 19 ∧ (vp_in l7 (mN m b3) ∧ (∃ b7, mR m b3 l7.toNatClampNeg = some b7 ∧ (mK m b7 = 2 ∧ (¬ l1 = 0 ∧ (vp_in l7 (mN m b3) ∧ (CV g M_Grower_sell lv [va_rf (some b7), .int (((((mI m b7 9).toInt64) * l3) / l1).toInt32), .int (mI m t 10)] m (fun m12 => (At g M_Land_sellFree (lv + 1) 32 [(0, va_rf (some t)), (1, .long (l1)), (3, .long (l3)), (5, .long (l5 - ((((((mI m b7 9).toInt64) * l3) / l1).toInt32).toInt64))), (7, .int (l7 + (1 : Int32)))] [] m12 (QV Q))))))))))))) : At g M_Land_sellFree (lv + 1) 32 [(0, va_rf (some t)), (1, .long (l1)), (3, .long (l3)), (5, .long (l5)), (7, .int (l7))] [] m (QV Q) := by
  refine at_iload (i := 7) 4 34 rfl (by decide +kernel) rfl ?_
  refine at_aload_n (i := 0) 0 35 rfl (by decide +kernel) rfl ?_
  obtain ⟨k1, h⟩ := h
  refine at_get (index := 58) (v := .int (mI m t 8)) cok3 8 38 rfl (by decide +kernel) k1 (by decide +kernel) tw_297 rfl ?_
  refine at_icmp_ge (off := 51) 89 41 rfl (by decide +kernel) (by decide +kernel) (fun c2 => ?_) (fun c2 => ?_)
  · rw [if_pos c2] at h
    refine at_iconst (n := 0) (0 : Int32) 90 rfl (by decide +kernel) (by decide +kernel) ?_
    refine at_istore (i := 7) (lc' := [(0, va_rf (some t)), (3, .long (l3)), (5, .long (l5)), (7, .int ((0 : Int32)))]) [1, 3, 4, 0] 92 rfl (by decide +kernel) (by decide +kernel) rfl ?_
    exact h
  · rw [if_neg c2] at h
    refine at_aload_n (i := 0) 0 42 rfl (by decide +kernel) rfl ?_
    refine at_get (index := 11) (v := va_rf (mR m t 1)) cok3 1 45 rfl (by decide +kernel) k1 (by decide +kernel) tw_286 rfl ?_
    refine at_iload (i := 7) 4 47 rfl (by decide +kernel) rfl ?_
    obtain ⟨b3, e4, h⟩ := h
    rw [e4]
    obtain ⟨k5, h⟩ := h
    obtain ⟨v6, h⟩ := h
    refine at_aaldGrower 48 rfl (by decide +kernel) k5 v6 ?_
    obtain ⟨b7, e8, h⟩ := h
    rw [e8]
    obtain ⟨k9, h⟩ := h
    refine at_get (index := 84) (v := .int (mI m b7 9)) cok1 9 51 rfl (by decide +kernel) k9 (by decide +kernel) tw_227 rfl ?_
    refine at_i2l 52 rfl (by decide +kernel) ?_
    refine at_lload_n (i := 3) 2 53 rfl (by decide +kernel) rfl ?_
    refine at_lmul 54 rfl (by decide +kernel) ?_
    refine at_lload_n (i := 1) 1 55 rfl (by decide +kernel) rfl ?_
    obtain ⟨c10, h⟩ := h
    refine at_ldiv 56 rfl (by decide +kernel) c10 ?_
    refine at_l2i 57 rfl (by decide +kernel) ?_
    refine at_istore (i := 8) (lc' := [(0, va_rf (some t)), (1, .long (l1)), (3, .long (l3)), (5, .long (l5)), (7, .int (l7)), (8, .int (((((mI m b7 9).toInt64) * l3) / l1).toInt32))]) [1, 2, 3, 4, 5, 0] 59 rfl (by decide +kernel) (by decide +kernel) rfl ?_
    refine at_aload_n (i := 0) 0 60 rfl (by decide +kernel) rfl ?_
    refine at_get (index := 11) (v := va_rf (mR m t 1)) cok3 1 63 rfl (by decide +kernel) k1 (by decide +kernel) tw_286 rfl ?_
    rw [e4]
    refine at_iload (i := 7) 4 65 rfl (by decide +kernel) rfl ?_
    obtain ⟨v11, h⟩ := h
    refine at_aaldGrower 66 rfl (by decide +kernel) k5 v11 ?_
    rw [e8]
    refine at_iload (i := 8) 5 68 rfl (by decide +kernel) rfl ?_
    refine at_aload_n (i := 0) 0 69 rfl (by decide +kernel) rfl ?_
    refine at_get (index := 48) (v := .int (mI m t 10)) cok3 10 72 rfl (by decide +kernel) k1 (by decide +kernel) tw_301 rfl ?_
    refine at_callV mb_Grower_sell tw_823 tw_824 cok1 k9 (index := 238) tw_822 [.int (((((mI m b7 9).toInt64) * l3) / l1).toInt32), .int (mI m t 10)] [] rfl rfl (by decide) 75 rfl (by decide +kernel) (Call.toV (CV.monoE h (fun m12 h y13 => ?_)))
    have k14 : mK m12 t = 4 := y13.k k1 (by decide)
    have k15 : mK m12 b3 = 19 := y13.k k5 (by decide)
    have k16 : mK m12 b7 = 2 := y13.k k9 (by decide)
    refine at_lload (i := 5) 3 77 rfl (by decide +kernel) rfl ?_
    refine at_iload (i := 8) 5 79 rfl (by decide +kernel) rfl ?_
    refine at_i2l 80 rfl (by decide +kernel) ?_
    refine at_lsub 81 rfl (by decide +kernel) ?_
    refine at_lstore (i := 5) (lc' := [(0, va_rf (some t)), (1, .long (l1)), (3, .long (l3)), (5, .long (l5 - ((((((mI m b7 9).toInt64) * l3) / l1).toInt32).toInt64))), (7, .int (l7))]) [1, 2, 3, 0, 4] 83 rfl (by decide +kernel) (by decide +kernel) rfl ?_
    refine at_iinc (i := 7) (n := 1) (lc' := [(0, va_rf (some t)), (1, .long (l1)), (3, .long (l3)), (5, .long (l5 - ((((((mI m b7 9).toInt64) * l3) / l1).toInt32).toInt64))), (7, .int (l7 + (1 : Int32)))]) (l7 + (1 : Int32)) 4 [1, 2, 3, 4, 0] 86 rfl (by decide +kernel) rfl (by rw [show Int32.ofInt 1 = (1 : Int32) from by decide +kernel]) (by decide +kernel) rfl ?_
    refine at_goto (off := (-54)) 32 (by decide +kernel) (by decide +kernel) ?_
    exact h
set_option maxRecDepth 20000 in
set_option maxHeartbeats 4000000 in
theorem en_Land_sellFree (g : Gc) {lv : Nat} {t : Nat} {l1 : Int64} {m : Mm} {Q : Mm → Prop} (h : if ((0 : Int64)) < (l1) then (mK m t = 4 ∧ (∃ b3, mR m t 4 = some b3 ∧ (mK m b3 = 3 ∧ (CJ g M_SL_cutTo lv [.long (((mI m t 11).toInt64) - (mL m b3 8)), .long ((0 : Int64)), .long (l1)] m (fun x6 m7 => (At g M_Land_sellFree (lv + 1) 32 [(0, va_rf (some t)), (1, .long (l1)), (3, .long (x6)), (5, .long (x6)), (7, .int ((0 : Int32)))] [] m7 (QV Q))))))) else (Q m)) : CV g M_Land_sellFree (lv + 1) [va_rf (some t), .long (l1)] m Q := by
  refine Call.of (by decide +kernel) (Nat.le_of_ble_eq_true rfl) ?_
  show At g M_Land_sellFree (lv + 1) 0 [(0, va_rf (some t)), (1, .long (l1))] [] m (QV Q)
  refine at_lload_n (i := 1) 1 1 rfl (by decide +kernel) rfl ?_
  refine at_lconst (n := 0) (0 : Int64) 2 rfl (by decide +kernel) (by decide +kernel) ?_
  refine at_lif_gt (off := 4) 3 7 6 rfl rfl (by decide +kernel) (by decide +kernel) (by decide +kernel) (fun c1 => ?_) (fun c1 => ?_)
  · rw [if_pos c1] at h
    refine at_aload_n (i := 0) 0 8 rfl (by decide +kernel) rfl ?_
    obtain ⟨k2, h⟩ := h
    refine at_get (index := 119) (v := .int (mI m t 11)) cok3 11 11 rfl (by decide +kernel) k2 (by decide +kernel) tw_303 rfl ?_
    refine at_i2l 12 rfl (by decide +kernel) ?_
    refine at_aload_n (i := 0) 0 13 rfl (by decide +kernel) rfl ?_
    refine at_get (index := 33) (v := va_rf (mR m t 4)) cok3 4 16 rfl (by decide +kernel) k2 (by decide +kernel) tw_292 rfl ?_
    obtain ⟨b3, e4, h⟩ := h
    rw [e4]
    obtain ⟨k5, h⟩ := h
    refine at_get (index := 209) (v := .long (mL m b3 8)) cok2 8 19 rfl (by decide +kernel) k5 (by decide +kernel) tw_179 rfl ?_
    refine at_lsub 20 rfl (by decide +kernel) ?_
    refine at_lconst (n := 0) (0 : Int64) 21 rfl (by decide +kernel) (by decide +kernel) ?_
    refine at_lload_n (i := 1) 1 22 rfl (by decide +kernel) rfl ?_
    refine at_callSN mb_SL_cutTo tw_741 (index := 201) (host := "SurplusLand") (by decide +kernel) [.long (((mI m t 11).toInt64) - (mL m b3 8)), .long ((0 : Int64)), .long (l1)] [] rfl rfl (by decide) 25 rfl (by decide +kernel) (Call.toJ (CJ.monoE h (fun x6 m7 h y8 => ?_)))
    have k9 : mK m7 t = 4 := y8.k k2 (by decide)
    have k10 : mK m7 b3 = 3 := y8.k k5 (by decide)
    refine at_lstore_n (i := 3) (lc' := [(0, va_rf (some t)), (1, .long (l1)), (3, .long (x6))]) [1, 2, 0] 26 rfl (by decide +kernel) (by decide +kernel) rfl ?_
    refine at_lload_n (i := 3) 2 27 rfl (by decide +kernel) rfl ?_
    refine at_lstore (i := 5) (lc' := [(0, va_rf (some t)), (1, .long (l1)), (3, .long (x6)), (5, .long (x6))]) [1, 2, 3, 0] 29 rfl (by decide +kernel) (by decide +kernel) rfl ?_
    refine at_iconst (n := 0) (0 : Int32) 30 rfl (by decide +kernel) (by decide +kernel) ?_
    refine at_istore (i := 7) (lc' := [(0, va_rf (some t)), (1, .long (l1)), (3, .long (x6)), (5, .long (x6)), (7, .int ((0 : Int32)))]) [1, 2, 3, 4, 0] 32 rfl (by decide +kernel) (by decide +kernel) rfl ?_
    exact h
  · rw [if_neg c1] at h
    exact at_vret rfl (by decide +kernel) h
set_option maxRecDepth 20000 in
set_option maxHeartbeats 4000000 in
theorem bk_Land_sellOneEach_5 (g : Gc) {lv : Nat} {t : Nat} {l1 : Int64} {l3 : Int64} {l5 : Int32} {m : Mm} {Q : Int64 → Mm → Prop} (h : mK m t = 4 ∧ (if (mI m t 8) ≤ (l5) then (Q l3 m) else (if (l1) ≤ (l3) then (Q l3 m) else (∃ b4, mR m t 1 = some b4 ∧ (mK m b4 = 19 ∧ (vp_in l5 (mN m b4) ∧ (∃ b8, mR m b4 l5.toNatClampNeg = some b8 ∧ (mK m b8 = 2 ∧ (if (mI m b8 9) ≤ 0 then (At g M_Land_sellOneEach (lv + 1) 5 [(0, va_rf (some t)), (1, .long (l1)), (3, .long (l3)), (5, .int (l5 + (1 : Int32)))] [] m (QJ Q)) else (vp_in l5 (mN m b4) ∧ (CV g M_Grower_sell lv [va_rf (some b8), .int ((1 : Int32)), .int (mI m t 10)] m (fun m13 => (At g M_Land_sellOneEach (lv + 1) 5 [(0, va_rf (some t)), (1, .long (l1)), (3, .long (l3 + (1 : Int64))), (5, .int (l5 + (1 : Int32)))] [] m13 (QJ Q)))))))))))))) : At g M_Land_sellOneEach (lv + 1) 5 [(0, va_rf (some t)), (1, .long (l1)), (3, .long (l3)), (5, .int (l5))] [] m (QJ Q) := by
  refine at_iload (i := 5) 3 7 rfl (by decide +kernel) rfl ?_
  refine at_aload_n (i := 0) 0 8 rfl (by decide +kernel) rfl ?_
  obtain ⟨k1, h⟩ := h
  refine at_get (index := 58) (v := .int (mI m t 8)) cok3 8 11 rfl (by decide +kernel) k1 (by decide +kernel) tw_297 rfl ?_
  refine at_icmp_ge (off := 47) 58 14 rfl (by decide +kernel) (by decide +kernel) (fun c2 => ?_) (fun c2 => ?_)
  · rw [if_pos c2] at h
    refine at_lload_n (i := 3) 2 59 rfl (by decide +kernel) rfl ?_
    exact at_lret rfl (by decide +kernel) h
  · rw [if_neg c2] at h
    refine at_lload_n (i := 3) 2 15 rfl (by decide +kernel) rfl ?_
    refine at_lload_n (i := 1) 1 16 rfl (by decide +kernel) rfl ?_
    refine at_lif_ge (off := 41) 17 58 20 rfl rfl (by decide +kernel) (by decide +kernel) (by decide +kernel) (fun c3 => ?_) (fun c3 => ?_)
    · rw [if_pos c3] at h
      refine at_lload_n (i := 3) 2 59 rfl (by decide +kernel) rfl ?_
      exact at_lret rfl (by decide +kernel) h
    · rw [if_neg c3] at h
      refine at_aload_n (i := 0) 0 21 rfl (by decide +kernel) rfl ?_
      refine at_get (index := 11) (v := va_rf (mR m t 1)) cok3 1 24 rfl (by decide +kernel) k1 (by decide +kernel) tw_286 rfl ?_
      refine at_iload (i := 5) 3 26 rfl (by decide +kernel) rfl ?_
      obtain ⟨b4, e5, h⟩ := h
      rw [e5]
      obtain ⟨k6, h⟩ := h
      obtain ⟨v7, h⟩ := h
      refine at_aaldGrower 27 rfl (by decide +kernel) k6 v7 ?_
      obtain ⟨b8, e9, h⟩ := h
      rw [e9]
      obtain ⟨k10, h⟩ := h
      refine at_get (index := 84) (v := .int (mI m b8 9)) cok1 9 30 rfl (by decide +kernel) k10 (by decide +kernel) tw_227 rfl ?_
      refine at_if_le (off := 22) 52 33 rfl (by decide +kernel) (by decide +kernel) (fun c11 => ?_) (fun c11 => ?_)
      · rw [if_pos c11] at h
        refine at_iinc (i := 5) (n := 1) (lc' := [(0, va_rf (some t)), (1, .long (l1)), (3, .long (l3)), (5, .int (l5 + (1 : Int32)))]) (l5 + (1 : Int32)) 3 [1, 2, 3, 0] 55 rfl (by decide +kernel) rfl (by rw [show Int32.ofInt 1 = (1 : Int32) from by decide +kernel]) (by decide +kernel) rfl ?_
        refine at_goto (off := (-50)) 5 (by decide +kernel) (by decide +kernel) ?_
        exact h
      · rw [if_neg c11] at h
        refine at_aload_n (i := 0) 0 34 rfl (by decide +kernel) rfl ?_
        refine at_get (index := 11) (v := va_rf (mR m t 1)) cok3 1 37 rfl (by decide +kernel) k1 (by decide +kernel) tw_286 rfl ?_
        rw [e5]
        refine at_iload (i := 5) 3 39 rfl (by decide +kernel) rfl ?_
        obtain ⟨v12, h⟩ := h
        refine at_aaldGrower 40 rfl (by decide +kernel) k6 v12 ?_
        rw [e9]
        refine at_iconst (n := 1) (1 : Int32) 41 rfl (by decide +kernel) (by decide +kernel) ?_
        refine at_aload_n (i := 0) 0 42 rfl (by decide +kernel) rfl ?_
        refine at_get (index := 48) (v := .int (mI m t 10)) cok3 10 45 rfl (by decide +kernel) k1 (by decide +kernel) tw_301 rfl ?_
        refine at_callV mb_Grower_sell tw_823 tw_824 cok1 k10 (index := 238) tw_822 [.int ((1 : Int32)), .int (mI m t 10)] [] rfl rfl (by decide) 48 rfl (by decide +kernel) (Call.toV (CV.monoE h (fun m13 h y14 => ?_)))
        have k15 : mK m13 t = 4 := y14.k k1 (by decide)
        have k16 : mK m13 b4 = 19 := y14.k k6 (by decide)
        have k17 : mK m13 b8 = 2 := y14.k k10 (by decide)
        refine at_lload_n (i := 3) 2 49 rfl (by decide +kernel) rfl ?_
        refine at_lconst (n := 1) (1 : Int64) 50 rfl (by decide +kernel) (by decide +kernel) ?_
        refine at_ladd 51 rfl (by decide +kernel) ?_
        refine at_lstore_n (i := 3) (lc' := [(0, va_rf (some t)), (1, .long (l1)), (3, .long (l3 + (1 : Int64))), (5, .int (l5))]) [1, 2, 0, 3] 52 rfl (by decide +kernel) (by decide +kernel) rfl ?_
        refine at_iinc (i := 5) (n := 1) (lc' := [(0, va_rf (some t)), (1, .long (l1)), (3, .long (l3 + (1 : Int64))), (5, .int (l5 + (1 : Int32)))]) (l5 + (1 : Int32)) 3 [1, 2, 3, 0] 55 rfl (by decide +kernel) rfl (by rw [show Int32.ofInt 1 = (1 : Int32) from by decide +kernel]) (by decide +kernel) rfl ?_
        refine at_goto (off := (-50)) 5 (by decide +kernel) (by decide +kernel) ?_
        exact h
set_option maxRecDepth 20000 in
set_option maxHeartbeats 4000000 in
theorem en_Land_sellOneEach (g : Gc) {lv : Nat} {t : Nat} {l1 : Int64} {m : Mm} {Q : Int64 → Mm → Prop} (h : At g M_Land_sellOneEach (lv + 1) 5 [(0, va_rf (some t)), (1, .long (l1)), (3, .long ((0 : Int64))), (5, .int ((0 : Int32)))] [] m (QJ Q)) : CJ g M_Land_sellOneEach (lv + 1) [va_rf (some t), .long (l1)] m Q := by
  refine Call.of (by decide +kernel) (Nat.le_of_ble_eq_true rfl) ?_
  show At g M_Land_sellOneEach (lv + 1) 0 [(0, va_rf (some t)), (1, .long (l1))] [] m (QJ Q)
  refine at_lconst (n := 0) (0 : Int64) 1 rfl (by decide +kernel) (by decide +kernel) ?_
  refine at_lstore_n (i := 3) (lc' := [(0, va_rf (some t)), (1, .long (l1)), (3, .long ((0 : Int64)))]) [1, 2, 0] 2 rfl (by decide +kernel) (by decide +kernel) rfl ?_
  refine at_iconst (n := 0) (0 : Int32) 3 rfl (by decide +kernel) (by decide +kernel) ?_
  refine at_istore (i := 5) (lc' := [(0, va_rf (some t)), (1, .long (l1)), (3, .long ((0 : Int64))), (5, .int ((0 : Int32)))]) [1, 2, 3, 0] 5 rfl (by decide +kernel) (by decide +kernel) rfl ?_
  exact h
set_option maxRecDepth 20000 in
set_option maxHeartbeats 4000000 in
theorem bk_Land_stillFree_10 (g : Gc) {lv : Nat} {t : Nat} {l1 : Int32} {l2 : Int32} {m : Mm} {Q : Mm → Prop} (h : mK m t = 4 ∧ (if (mI m t 8) ≤ (l2) then (Q m) else (∃ b3, mR m t 1 = some b3 ∧ (mK m b3 = 19 ∧ (vp_in l2 (mN m b3) ∧ (∃ b7, mR m b3 l2.toNatClampNeg = some b7 ∧ (mK m b7 = 2 ∧ (vp_in l2 (mN m b3) ∧ (CV g M_Grower_sell lv [va_rf (some b7), .int (imn l1 (mI m b7 9)), .int ((mI m t 10) / (4 : Int32))] m (fun m11 => (∃ b16, mR m11 t 7 = some b16 ∧ (mK m11 b16 = 16 ∧ (vp_in (4 : Int32) (mN m11 b16) ∧ (vp_in (4 : Int32) (mN m11 b16) ∧ (∀ m21, m21 = sL m11 b16 (4 : Int32).toNatClampNeg ((mL m11 b16 (4 : Int32).toNatClampNeg) + ((imn l1 (mI m b7 9)).toInt64)) → (At g M_Land_stillFree (lv + 1) 10 [(0, va_rf (some t)), (1, .int (l1 - (imn l1 (mI m b7 9)))), (2, .int (l2 + (1 : Int32)))] [] m21 (QV Q))))))))))))))))) : At g M_Land_stillFree (lv + 1) 10 [(0, va_rf (some t)), (1, .int (l1)), (2, .int (l2))] [] m (QV Q) := by
  refine at_iload_n (i := 2) 2 11 rfl (by decide +kernel) rfl ?_
  refine at_aload_n (i := 0) 0 12 rfl (by decide +kernel) rfl ?_
  obtain ⟨k1, h⟩ := h
  refine at_get (index := 58) (v := .int (mI m t 8)) cok3 8 15 rfl (by decide +kernel) k1 (by decide +kernel) tw_297 rfl ?_
  refine at_icmp_ge (off := 54) 69 18 rfl (by decide +kernel) (by decide +kernel) (fun c2 => ?_) (fun c2 => ?_)
  · rw [if_pos c2] at h
    exact at_vret rfl (by decide +kernel) h
  · rw [if_neg c2] at h
    refine at_iload_n (i := 1) 1 19 rfl (by decide +kernel) rfl ?_
    refine at_aload_n (i := 0) 0 20 rfl (by decide +kernel) rfl ?_
    refine at_get (index := 11) (v := va_rf (mR m t 1)) cok3 1 23 rfl (by decide +kernel) k1 (by decide +kernel) tw_286 rfl ?_
    refine at_iload_n (i := 2) 2 24 rfl (by decide +kernel) rfl ?_
    obtain ⟨b3, e4, h⟩ := h
    rw [e4]
    obtain ⟨k5, h⟩ := h
    obtain ⟨v6, h⟩ := h
    refine at_aaldGrower 25 rfl (by decide +kernel) k5 v6 ?_
    obtain ⟨b7, e8, h⟩ := h
    rw [e8]
    obtain ⟨k9, h⟩ := h
    refine at_get (index := 84) (v := .int (mI m b7 9)) cok1 9 28 rfl (by decide +kernel) k9 (by decide +kernel) tw_227 rfl ?_
    refine at_imn (index := 248) 31 rfl (by decide +kernel) tw_834 (by decide) ?_
    refine at_istore_n (i := 3) (lc' := [(0, va_rf (some t)), (1, .int (l1)), (2, .int (l2)), (3, .int (imn l1 (mI m b7 9)))]) [1, 2, 3, 0] 32 rfl (by decide +kernel) (by decide +kernel) rfl ?_
    refine at_aload_n (i := 0) 0 33 rfl (by decide +kernel) rfl ?_
    refine at_get (index := 11) (v := va_rf (mR m t 1)) cok3 1 36 rfl (by decide +kernel) k1 (by decide +kernel) tw_286 rfl ?_
    rw [e4]
    refine at_iload_n (i := 2) 2 37 rfl (by decide +kernel) rfl ?_
    obtain ⟨v10, h⟩ := h
    refine at_aaldGrower 38 rfl (by decide +kernel) k5 v10 ?_
    rw [e8]
    refine at_iload_n (i := 3) 3 39 rfl (by decide +kernel) rfl ?_
    refine at_aload_n (i := 0) 0 40 rfl (by decide +kernel) rfl ?_
    refine at_get (index := 48) (v := .int (mI m t 10)) cok3 10 43 rfl (by decide +kernel) k1 (by decide +kernel) tw_301 rfl ?_
    refine at_iconst (n := 4) (4 : Int32) 44 rfl (by decide +kernel) (by decide +kernel) ?_
    refine at_idiv 45 rfl (by decide +kernel) (by decide +kernel) ?_
    refine at_callV mb_Grower_sell tw_823 tw_824 cok1 k9 (index := 238) tw_822 [.int (imn l1 (mI m b7 9)), .int ((mI m t 10) / (4 : Int32))] [] rfl rfl (by decide) 48 rfl (by decide +kernel) (Call.toV (CV.monoE h (fun m11 h y12 => ?_)))
    have k13 : mK m11 t = 4 := y12.k k1 (by decide)
    have k14 : mK m11 b3 = 19 := y12.k k5 (by decide)
    have k15 : mK m11 b7 = 2 := y12.k k9 (by decide)
    refine at_iload_n (i := 1) 1 49 rfl (by decide +kernel) rfl ?_
    refine at_iload_n (i := 3) 3 50 rfl (by decide +kernel) rfl ?_
    refine at_isub 51 rfl (by decide +kernel) ?_
    refine at_istore_n (i := 1) (lc' := [(0, va_rf (some t)), (1, .int (l1 - (imn l1 (mI m b7 9)))), (2, .int (l2)), (3, .int (imn l1 (mI m b7 9)))]) [1, 0, 2, 3] 52 rfl (by decide +kernel) (by decide +kernel) rfl ?_
    refine at_aload_n (i := 0) 0 53 rfl (by decide +kernel) rfl ?_
    refine at_get (index := 44) (v := va_rf (mR m11 t 7)) cok3 7 56 rfl (by decide +kernel) k13 (by decide +kernel) tw_295 rfl ?_
    refine at_iconst (n := 4) (4 : Int32) 57 rfl (by decide +kernel) (by decide +kernel) ?_
    refine at_dup2_11 58 rfl (by decide +kernel) rfl (va_rf_cat _) ?_
    obtain ⟨b16, e17, h⟩ := h
    rw [e17]
    obtain ⟨k18, h⟩ := h
    obtain ⟨v19, h⟩ := h
    refine at_lald 59 rfl (by decide +kernel) k18 v19 ?_
    refine at_iload_n (i := 3) 3 60 rfl (by decide +kernel) rfl ?_
    refine at_i2l 61 rfl (by decide +kernel) ?_
    refine at_ladd 62 rfl (by decide +kernel) ?_
    obtain ⟨v20, h⟩ := h
    refine at_last 63 rfl (by decide +kernel) k18 v20 (fun m21 e22 => ?_)
    replace h := h m21 e22
    have k23 : mK m21 t = 4 := by rw [e22]; exact k13
    have k24 : mK m21 b3 = 19 := by rw [e22]; exact k14
    have k25 : mK m21 b7 = 2 := by rw [e22]; exact k15
    have k26 : mK m21 b16 = 16 := by rw [e22]; exact k18
    refine at_iinc (i := 2) (n := 1) (lc' := [(0, va_rf (some t)), (1, .int (l1 - (imn l1 (mI m b7 9)))), (2, .int (l2 + (1 : Int32)))]) (l2 + (1 : Int32)) 2 [1, 2, 0] 66 rfl (by decide +kernel) rfl (by rw [show Int32.ofInt 1 = (1 : Int32) from by decide +kernel]) (by decide +kernel) rfl ?_
    refine at_goto (off := (-56)) 10 (by decide +kernel) (by decide +kernel) ?_
    exact h
set_option maxRecDepth 20000 in
set_option maxHeartbeats 4000000 in
theorem en_Land_stillFree (g : Gc) {lv : Nat} {t : Nat} {m : Mm} {Q : Mm → Prop} (h : mK m t = 4 ∧ (∃ b2, mR m t 0 = some b2 ∧ (mK m b2 = 11 ∧ (At g M_Land_stillFree (lv + 1) 10 [(0, va_rf (some t)), (1, .int (mI m b2 3)), (2, .int ((0 : Int32)))] [] m (QV Q))))) : CV g M_Land_stillFree (lv + 1) [va_rf (some t)] m Q := by
  refine Call.of (by decide +kernel) (Nat.le_of_ble_eq_true rfl) ?_
  show At g M_Land_stillFree (lv + 1) 0 [(0, va_rf (some t))] [] m (QV Q)
  refine at_aload_n (i := 0) 0 1 rfl (by decide +kernel) rfl ?_
  obtain ⟨k1, h⟩ := h
  refine at_get (index := 52) (v := va_rf (mR m t 0)) cok3 0 4 rfl (by decide +kernel) k1 (by decide +kernel) tw_285 rfl ?_
  obtain ⟨b2, e3, h⟩ := h
  rw [e3]
  obtain ⟨k4, h⟩ := h
  refine at_get (index := 245) (v := .int (mI m b2 3)) cok10 3 7 rfl (by decide +kernel) k4 (by decide +kernel) tw_108 rfl ?_
  refine at_istore_n (i := 1) (lc' := [(0, va_rf (some t)), (1, .int (mI m b2 3))]) [1, 0] 8 rfl (by decide +kernel) (by decide +kernel) rfl ?_
  refine at_iconst (n := 0) (0 : Int32) 9 rfl (by decide +kernel) (by decide +kernel) ?_
  refine at_istore_n (i := 2) (lc' := [(0, va_rf (some t)), (1, .int (mI m b2 3)), (2, .int ((0 : Int32)))]) [1, 2, 0] 10 rfl (by decide +kernel) (by decide +kernel) rfl ?_
  exact h
set_option maxRecDepth 20000 in
set_option maxHeartbeats 4000000 in
theorem en_Land_movePrice (g : Gc) {lv : Nat} {t : Nat} {l1 : Int64} {m : Mm} {Q : Mm → Prop} (h : mK m t = 4 ∧ (∃ b2, mR m t 4 = some b2 ∧ (mK m b2 = 3 ∧ (∃ b5, mR m t 0 = some b5 ∧ (mK m b5 = 11 ∧ (CJ g M_SL_cutTo lv [.long (((mI m t 10).toInt64) + ((((((mI m t 11).toInt64) - l1) - (mL m b2 8)) * ((mI m b5 2).toInt64)) / (1000 : Int64))), .long ((1 : Int64)), .long ((10000 : Int64))] m (fun x8 m9 => (∀ m14, m14 = sI m9 t 10 x8.toInt32 → (Q m14))))))))) : CV g M_Land_movePrice (lv + 1) [va_rf (some t), .long (l1)] m Q := by
  refine Call.of (by decide +kernel) (Nat.le_of_ble_eq_true rfl) ?_
  show At g M_Land_movePrice (lv + 1) 0 [(0, va_rf (some t)), (1, .long (l1))] [] m (QV Q)
  refine at_aload_n (i := 0) 0 1 rfl (by decide +kernel) rfl ?_
  obtain ⟨k1, h⟩ := h
  refine at_get (index := 119) (v := .int (mI m t 11)) cok3 11 4 rfl (by decide +kernel) k1 (by decide +kernel) tw_303 rfl ?_
  refine at_i2l 5 rfl (by decide +kernel) ?_
  refine at_lload_n (i := 1) 1 6 rfl (by decide +kernel) rfl ?_
  refine at_lsub 7 rfl (by decide +kernel) ?_
  refine at_aload_n (i := 0) 0 8 rfl (by decide +kernel) rfl ?_
  refine at_get (index := 33) (v := va_rf (mR m t 4)) cok3 4 11 rfl (by decide +kernel) k1 (by decide +kernel) tw_292 rfl ?_
  obtain ⟨b2, e3, h⟩ := h
  rw [e3]
  obtain ⟨k4, h⟩ := h
  refine at_get (index := 209) (v := .long (mL m b2 8)) cok2 8 14 rfl (by decide +kernel) k4 (by decide +kernel) tw_179 rfl ?_
  refine at_lsub 15 rfl (by decide +kernel) ?_
  refine at_lstore_n (i := 3) (lc' := [(0, va_rf (some t)), (3, .long ((((mI m t 11).toInt64) - l1) - (mL m b2 8)))]) [1, 0] 16 rfl (by decide +kernel) (by decide +kernel) rfl ?_
  refine at_aload_n (i := 0) 0 17 rfl (by decide +kernel) rfl ?_
  refine at_aload_n (i := 0) 0 18 rfl (by decide +kernel) rfl ?_
  refine at_get (index := 48) (v := .int (mI m t 10)) cok3 10 21 rfl (by decide +kernel) k1 (by decide +kernel) tw_301 rfl ?_
  refine at_i2l 22 rfl (by decide +kernel) ?_
  refine at_lload_n (i := 3) 1 23 rfl (by decide +kernel) rfl ?_
  refine at_aload_n (i := 0) 0 24 rfl (by decide +kernel) rfl ?_
  refine at_get (index := 52) (v := va_rf (mR m t 0)) cok3 0 27 rfl (by decide +kernel) k1 (by decide +kernel) tw_285 rfl ?_
  obtain ⟨b5, e6, h⟩ := h
  rw [e6]
  obtain ⟨k7, h⟩ := h
  refine at_get (index := 250) (v := .int (mI m b5 2)) cok10 2 30 rfl (by decide +kernel) k7 (by decide +kernel) tw_105 rfl ?_
  refine at_i2l 31 rfl (by decide +kernel) ?_
  refine at_lmul 32 rfl (by decide +kernel) ?_
  refine at_ldc2 (index := 253) (1000 : Int64) 35 rfl (by decide +kernel) tw_844 ?_
  refine at_ldiv 36 rfl (by decide +kernel) (by decide +kernel) ?_
  refine at_ladd 37 rfl (by decide +kernel) ?_
  refine at_lconst (n := 1) (1 : Int64) 38 rfl (by decide +kernel) (by decide +kernel) ?_
  refine at_ldc2 (index := 255) (10000 : Int64) 41 rfl (by decide +kernel) tw_845 ?_
  refine at_callSN mb_SL_cutTo tw_741 (index := 201) (host := "SurplusLand") (by decide +kernel) [.long (((mI m t 10).toInt64) + ((((((mI m t 11).toInt64) - l1) - (mL m b2 8)) * ((mI m b5 2).toInt64)) / (1000 : Int64))), .long ((1 : Int64)), .long ((10000 : Int64))] [va_rf (some t)] rfl rfl (by simp [va_rf_cat, cat_int, cat_long]) 44 rfl (by decide +kernel) (Call.toJ (CJ.monoE h (fun x8 m9 h y10 => ?_)))
  have k11 : mK m9 t = 4 := y10.k k1 (by decide)
  have k12 : mK m9 b2 = 3 := y10.k k4 (by decide)
  have k13 : mK m9 b5 = 11 := y10.k k7 (by decide)
  refine at_l2i 45 rfl (by decide +kernel) ?_
  refine at_putI (index := 48) cok3 10 48 rfl (by decide +kernel) k11 (by decide +kernel) tw_301 rfl rfl rfl (fun m14 e15 => ?_)
  replace h := h m14 e15
  have k16 : mK m14 t = 4 := by rw [e15]; exact k11
  have k17 : mK m14 b2 = 3 := by rw [e15]; exact k12
  have k18 : mK m14 b5 = 11 := by rw [e15]; exact k13
  exact at_vret rfl (by decide +kernel) h
set_option maxRecDepth 20000 in
set_option maxHeartbeats 4000000 in
theorem bk_Land_tendVines_2 (g : Gc) {lv : Nat} {t : Nat} {l1 : Int32} {m : Mm} {Q : Mm → Prop} (h : mK m t = 4 ∧ (if (mI m t 8) ≤ (l1) then (Q m) else (∃ b3, mR m t 1 = some b3 ∧ (mK m b3 = 19 ∧ (vp_in l1 (mN m b3) ∧ (∃ b7, mR m b3 l1.toNatClampNeg = some b7 ∧ (mK m b7 = 2 ∧ (CV g M_Grower_growOlder lv [va_rf (some b7)] m (fun m10 => (∃ b15, mR m10 t 0 = some b15 ∧ (mK m10 b15 = 11 ∧ (if (mI m10 t 10) < (mI m10 b15 4) then (At g M_Land_tendVines (lv + 1) 2 [(0, va_rf (some t)), (1, .int (l1 + (1 : Int32)))] [] m10 (QV Q)) else (∃ b19, mR m10 t 1 = some b19 ∧ (mK m10 b19 = 19 ∧ (vp_in l1 (mN m10 b19) ∧ (∃ b23, mR m10 b19 l1.toNatClampNeg = some b23 ∧ (mK m10 b23 = 2 ∧ (if (mL m10 b23 11) < ((0 : Int64)) then (At g M_Land_tendVines (lv + 1) 2 [(0, va_rf (some t)), (1, .int (l1 + (1 : Int32)))] [] m10 (QV Q)) else (vp_in l1 (mN m10 b19) ∧ (CV g M_Grower_plant lv [va_rf (some b23), .int (mI m10 b15 5)] m10 (fun m28 => (At g M_Land_tendVines (lv + 1) 2 [(0, va_rf (some t)), (1, .int (l1 + (1 : Int32)))] [] m28 (QV Q))))))))))))))))))))))) : At g M_Land_tendVines (lv + 1) 2 [(0, va_rf (some t)), (1, .int (l1))] [] m (QV Q) := by
  refine at_iload_n (i := 1) 1 3 rfl (by decide +kernel) rfl ?_
  refine at_aload_n (i := 0) 0 4 rfl (by decide +kernel) rfl ?_
  obtain ⟨k1, h⟩ := h
  refine at_get (index := 58) (v := .int (mI m t 8)) cok3 8 7 rfl (by decide +kernel) k1 (by decide +kernel) tw_297 rfl ?_
  refine at_icmp_ge (off := 62) 69 10 rfl (by decide +kernel) (by decide +kernel) (fun c2 => ?_) (fun c2 => ?_)
  · rw [if_pos c2] at h
    exact at_vret rfl (by decide +kernel) h
  · rw [if_neg c2] at h
    refine at_aload_n (i := 0) 0 11 rfl (by decide +kernel) rfl ?_
    refine at_get (index := 11) (v := va_rf (mR m t 1)) cok3 1 14 rfl (by decide +kernel) k1 (by decide +kernel) tw_286 rfl ?_
    refine at_iload_n (i := 1) 1 15 rfl (by decide +kernel) rfl ?_
    obtain ⟨b3, e4, h⟩ := h
    rw [e4]
    obtain ⟨k5, h⟩ := h
    obtain ⟨v6, h⟩ := h
    refine at_aaldGrower 16 rfl (by decide +kernel) k5 v6 ?_
    obtain ⟨b7, e8, h⟩ := h
    rw [e8]
    obtain ⟨k9, h⟩ := h
    refine at_callV mb_Grower_growOlder tw_851 tw_852 cok1 k9 (index := 257) tw_850 [] [] rfl rfl (by decide) 19 rfl (by decide +kernel) (Call.toV (CV.monoE h (fun m10 h y11 => ?_)))
    have k12 : mK m10 t = 4 := y11.k k1 (by decide)
    have k13 : mK m10 b3 = 19 := y11.k k5 (by decide)
    have k14 : mK m10 b7 = 2 := y11.k k9 (by decide)
    refine at_aload_n (i := 0) 0 20 rfl (by decide +kernel) rfl ?_
    refine at_get (index := 48) (v := .int (mI m10 t 10)) cok3 10 23 rfl (by decide +kernel) k12 (by decide +kernel) tw_301 rfl ?_
    refine at_aload_n (i := 0) 0 24 rfl (by decide +kernel) rfl ?_
    refine at_get (index := 52) (v := va_rf (mR m10 t 0)) cok3 0 27 rfl (by decide +kernel) k12 (by decide +kernel) tw_285 rfl ?_
    obtain ⟨b15, e16, h⟩ := h
    rw [e16]
    obtain ⟨k17, h⟩ := h
    refine at_get (index := 260) (v := .int (mI m10 b15 4)) cok10 4 30 rfl (by decide +kernel) k17 (by decide +kernel) tw_111 rfl ?_
    refine at_icmp_lt (off := 33) 63 33 rfl (by decide +kernel) (by decide +kernel) (fun c18 => ?_) (fun c18 => ?_)
    · rw [if_pos c18] at h
      refine at_iinc (i := 1) (n := 1) (lc' := [(0, va_rf (some t)), (1, .int (l1 + (1 : Int32)))]) (l1 + (1 : Int32)) 1 [1, 0] 66 rfl (by decide +kernel) rfl (by rw [show Int32.ofInt 1 = (1 : Int32) from by decide +kernel]) (by decide +kernel) rfl ?_
      refine at_goto (off := (-64)) 2 (by decide +kernel) (by decide +kernel) ?_
      exact h
    · rw [if_neg c18] at h
      refine at_aload_n (i := 0) 0 34 rfl (by decide +kernel) rfl ?_
      refine at_get (index := 11) (v := va_rf (mR m10 t 1)) cok3 1 37 rfl (by decide +kernel) k12 (by decide +kernel) tw_286 rfl ?_
      refine at_iload_n (i := 1) 1 38 rfl (by decide +kernel) rfl ?_
      obtain ⟨b19, e20, h⟩ := h
      rw [e20]
      obtain ⟨k21, h⟩ := h
      obtain ⟨v22, h⟩ := h
      refine at_aaldGrower 39 rfl (by decide +kernel) k21 v22 ?_
      obtain ⟨b23, e24, h⟩ := h
      rw [e24]
      obtain ⟨k25, h⟩ := h
      refine at_get (index := 75) (v := .long (mL m10 b23 11)) cok1 11 42 rfl (by decide +kernel) k25 (by decide +kernel) tw_233 rfl ?_
      refine at_lconst (n := 0) (0 : Int64) 43 rfl (by decide +kernel) (by decide +kernel) ?_
      refine at_lif_lt (off := 19) 44 63 47 rfl rfl (by decide +kernel) (by decide +kernel) (by decide +kernel) (fun c26 => ?_) (fun c26 => ?_)
      · rw [if_pos c26] at h
        refine at_iinc (i := 1) (n := 1) (lc' := [(0, va_rf (some t)), (1, .int (l1 + (1 : Int32)))]) (l1 + (1 : Int32)) 1 [1, 0] 66 rfl (by decide +kernel) rfl (by rw [show Int32.ofInt 1 = (1 : Int32) from by decide +kernel]) (by decide +kernel) rfl ?_
        refine at_goto (off := (-64)) 2 (by decide +kernel) (by decide +kernel) ?_
        exact h
      · rw [if_neg c26] at h
        refine at_aload_n (i := 0) 0 48 rfl (by decide +kernel) rfl ?_
        refine at_get (index := 11) (v := va_rf (mR m10 t 1)) cok3 1 51 rfl (by decide +kernel) k12 (by decide +kernel) tw_286 rfl ?_
        rw [e20]
        refine at_iload_n (i := 1) 1 52 rfl (by decide +kernel) rfl ?_
        obtain ⟨v27, h⟩ := h
        refine at_aaldGrower 53 rfl (by decide +kernel) k21 v27 ?_
        rw [e24]
        refine at_aload_n (i := 0) 0 54 rfl (by decide +kernel) rfl ?_
        refine at_get (index := 52) (v := va_rf (mR m10 t 0)) cok3 0 57 rfl (by decide +kernel) k12 (by decide +kernel) tw_285 rfl ?_
        rw [e16]
        refine at_get (index := 263) (v := .int (mI m10 b15 5)) cok10 5 60 rfl (by decide +kernel) k17 (by decide +kernel) tw_114 rfl ?_
        refine at_callV mb_Grower_plant tw_855 tw_856 cok1 k25 (index := 266) tw_854 [.int (mI m10 b15 5)] [] rfl rfl (by decide) 63 rfl (by decide +kernel) (Call.toV (CV.monoE h (fun m28 h y29 => ?_)))
        have k30 : mK m28 t = 4 := y29.k k12 (by decide)
        have k31 : mK m28 b3 = 19 := y29.k k13 (by decide)
        have k32 : mK m28 b7 = 2 := y29.k k14 (by decide)
        have k33 : mK m28 b15 = 11 := y29.k k17 (by decide)
        have k34 : mK m28 b19 = 19 := y29.k k21 (by decide)
        have k35 : mK m28 b23 = 2 := y29.k k25 (by decide)
        refine at_iinc (i := 1) (n := 1) (lc' := [(0, va_rf (some t)), (1, .int (l1 + (1 : Int32)))]) (l1 + (1 : Int32)) 1 [1, 0] 66 rfl (by decide +kernel) rfl (by rw [show Int32.ofInt 1 = (1 : Int32) from by decide +kernel]) (by decide +kernel) rfl ?_
        refine at_goto (off := (-64)) 2 (by decide +kernel) (by decide +kernel) ?_
        exact h
set_option maxRecDepth 20000 in
set_option maxHeartbeats 4000000 in
theorem en_Land_tendVines (g : Gc) {lv : Nat} {t : Nat} {m : Mm} {Q : Mm → Prop} (h : At g M_Land_tendVines (lv + 1) 2 [(0, va_rf (some t)), (1, .int ((0 : Int32)))] [] m (QV Q)) : CV g M_Land_tendVines (lv + 1) [va_rf (some t)] m Q := by
  refine Call.of (by decide +kernel) (Nat.le_of_ble_eq_true rfl) ?_
  show At g M_Land_tendVines (lv + 1) 0 [(0, va_rf (some t))] [] m (QV Q)
  refine at_iconst (n := 0) (0 : Int32) 1 rfl (by decide +kernel) (by decide +kernel) ?_
  refine at_istore_n (i := 1) (lc' := [(0, va_rf (some t)), (1, .int ((0 : Int32)))]) [1, 0] 2 rfl (by decide +kernel) (by decide +kernel) rfl ?_
  exact h
set_option maxRecDepth 20000 in
set_option maxHeartbeats 4000000 in
theorem bk_Land_putRight_41 (g : Gc) {lv : Nat} {l2 : Int32} {l3 : Int32} {l4 : Option Nat} {s0 : Int32} {m : Mm} {Q : Int32 → Mm → Prop} (h : ∃ b1, l4 = some b1 ∧ (mK m b1 = 2 ∧ (∀ m4, m4 = sL m b1 12 ((mL m b1 12) + ((100 : Int64) * s0.toInt64)) → (∃ b7, mR m4 b1 1 = some b7 ∧ (mK m4 b7 = 15 ∧ (vp_in l2 (mN m4 b7) ∧ (∀ m11, m11 = sI m4 b7 l2.toNatClampNeg l3 → (Q s0 m11)))))))) : At g M_Land_putRight (lv + 1) 41 [(2, .int (l2)), (3, .int (l3)), (4, va_rf (l4))] [.int (s0)] m (QI Q) := by
  refine at_istore (i := 5) (lc' := [(2, .int (l2)), (3, .int (l3)), (4, va_rf (l4)), (5, .int (s0))]) [1, 2, 3, 0] 43 rfl (by decide +kernel) (by decide +kernel) (by generalize l4 = rr; cases rr <;> rfl) ?_
  refine at_aload (i := 4) 2 45 rfl (by decide +kernel) rfl ?_
  refine at_dup 46 rfl (by decide +kernel) (va_rf_cat _) ?_
  obtain ⟨b1, e2, h⟩ := h
  rw [e2]
  obtain ⟨k3, h⟩ := h
  refine at_get (index := 196) (v := .long (mL m b1 12)) cok1 12 49 rfl (by decide +kernel) k3 (by decide +kernel) tw_236 rfl ?_
  refine at_ldc2 (index := 199) (100 : Int64) 52 rfl (by decide +kernel) tw_758 ?_
  refine at_iload (i := 5) 3 54 rfl (by decide +kernel) rfl ?_
  refine at_i2l 55 rfl (by decide +kernel) ?_
  refine at_lmul 56 rfl (by decide +kernel) ?_
  refine at_ladd 57 rfl (by decide +kernel) ?_
  refine at_putJ (index := 196) cok1 12 60 rfl (by decide +kernel) k3 (by decide +kernel) tw_236 rfl rfl rfl (fun m4 e5 => ?_)
  replace h := h m4 e5
  have k6 : mK m4 b1 = 2 := by rw [e5]; exact k3
  refine at_aload (i := 4) 2 62 rfl (by decide +kernel) rfl ?_
  refine at_get (index := 166) (v := va_rf (mR m4 b1 1)) cok1 1 65 rfl (by decide +kernel) k6 (by decide +kernel) tw_209 rfl ?_
  refine at_iload_n (i := 2) 0 66 rfl (by decide +kernel) rfl ?_
  refine at_iload_n (i := 3) 1 67 rfl (by decide +kernel) rfl ?_
  obtain ⟨b7, e8, h⟩ := h
  rw [e8]
  obtain ⟨k9, h⟩ := h
  obtain ⟨v10, h⟩ := h
  refine at_iast 68 rfl (by decide +kernel) k9 v10 (fun m11 e12 => ?_)
  replace h := h m11 e12
  have k13 : mK m11 b1 = 2 := by rw [e12]; exact k6
  have k14 : mK m11 b7 = 15 := by rw [e12]; exact k9
  refine at_iload (i := 5) 3 70 rfl (by decide +kernel) rfl ?_
  exact at_iret rfl (by decide +kernel) h
set_option maxRecDepth 20000 in
set_option maxHeartbeats 4000000 in
theorem en_Land_putRight (g : Gc) {lv : Nat} {t : Nat} {l1 : Int32} {l2 : Int32} {l3 : Int32} {m : Mm} {Q : Int32 → Mm → Prop} (h : mK m t = 4 ∧ (∃ b2, mR m t 1 = some b2 ∧ (mK m b2 = 19 ∧ (vp_in l1 (mN m b2) ∧ (∃ b6, mR m b2 l1.toNatClampNeg = some b6 ∧ (mK m b6 = 2 ∧ (∃ b9, mR m b6 2 = some b9 ∧ (mK m b9 = 17 ∧ (vp_in l2 (mN m b9) ∧ (if (mI m b9 l2.toNatClampNeg) = 0 then (∃ b14, mR m t 6 = some b14 ∧ (mK m b14 = 15 ∧ (vp_in l2 (mN m b14) ∧ (∃ b18, mR m b6 1 = some b18 ∧ (mK m b18 = 15 ∧ (vp_in l2 (mN m b18) ∧ (At g M_Land_putRight (lv + 1) 41 [(2, .int (l2)), (3, .int (l3)), (4, va_rf (some b6))] [.int (((mI m b14 l2.toNatClampNeg) * (l3 - (mI m b18 l2.toNatClampNeg))) / (100 : Int32))] m (QI Q)))))))) else (At g M_Land_putRight (lv + 1) 41 [(2, .int (l2)), (3, .int (l3)), (4, va_rf (some b6))] [.int ((0 : Int32))] m (QI Q)))))))))))) : CI g M_Land_putRight (lv + 1) [va_rf (some t), .int (l1), .int (l2), .int (l3)] m Q := by
  refine Call.of (by decide +kernel) (Nat.le_of_ble_eq_true rfl) ?_
  show At g M_Land_putRight (lv + 1) 0 [(0, va_rf (some t)), (1, .int (l1)), (2, .int (l2)), (3, .int (l3))] [] m (QI Q)
  refine at_aload_n (i := 0) 0 1 rfl (by decide +kernel) rfl ?_
  obtain ⟨k1, h⟩ := h
  refine at_get (index := 11) (v := va_rf (mR m t 1)) cok3 1 4 rfl (by decide +kernel) k1 (by decide +kernel) tw_286 rfl ?_
  refine at_iload_n (i := 1) 1 5 rfl (by decide +kernel) rfl ?_
  obtain ⟨b2, e3, h⟩ := h
  rw [e3]
  obtain ⟨k4, h⟩ := h
  obtain ⟨v5, h⟩ := h
  refine at_aaldGrower 6 rfl (by decide +kernel) k4 v5 ?_
  refine at_astore (i := 4) (lc' := [(0, va_rf (some t)), (2, .int (l2)), (3, .int (l3)), (4, va_rf (mR m b2 l1.toNatClampNeg))]) [1, 3, 4, 0] 8 rfl (by decide +kernel) (by decide +kernel) rfl ?_
  refine at_aload (i := 4) 3 10 rfl (by decide +kernel) rfl ?_
  obtain ⟨b6, e7, h⟩ := h
  rw [e7]
  obtain ⟨k8, h⟩ := h
  refine at_get (index := 188) (v := va_rf (mR m b6 2)) cok1 2 13 rfl (by decide +kernel) k8 (by decide +kernel) tw_211 rfl ?_
  refine at_iload_n (i := 2) 1 14 rfl (by decide +kernel) rfl ?_
  obtain ⟨b9, e10, h⟩ := h
  rw [e10]
  obtain ⟨k11, h⟩ := h
  obtain ⟨v12, h⟩ := h
  refine at_zald 15 rfl (by decide +kernel) k11 v12 ?_
  refine at_if_eq (off := 7) 22 18 rfl (by decide +kernel) (by decide +kernel) (fun c13 => ?_) (fun c13 => ?_)
  · rw [if_pos c13] at h
    refine at_aload_n (i := 0) 0 23 rfl (by decide +kernel) rfl ?_
    refine at_get (index := 41) (v := va_rf (mR m t 6)) cok3 6 26 rfl (by decide +kernel) k1 (by decide +kernel) tw_294 rfl ?_
    refine at_iload_n (i := 2) 1 27 rfl (by decide +kernel) rfl ?_
    obtain ⟨b14, e15, h⟩ := h
    rw [e15]
    obtain ⟨k16, h⟩ := h
    obtain ⟨v17, h⟩ := h
    refine at_iald 28 rfl (by decide +kernel) k16 v17 ?_
    refine at_iload_n (i := 3) 2 29 rfl (by decide +kernel) rfl ?_
    refine at_aload (i := 4) 3 31 rfl (by decide +kernel) rfl ?_
    refine at_get (index := 166) (v := va_rf (mR m b6 1)) cok1 1 34 rfl (by decide +kernel) k8 (by decide +kernel) tw_209 rfl ?_
    refine at_iload_n (i := 2) 1 35 rfl (by decide +kernel) rfl ?_
    obtain ⟨b18, e19, h⟩ := h
    rw [e19]
    obtain ⟨k20, h⟩ := h
    obtain ⟨v21, h⟩ := h
    refine at_iald 36 rfl (by decide +kernel) k20 v21 ?_
    refine at_isub 37 rfl (by decide +kernel) ?_
    refine at_imul 38 rfl (by decide +kernel) ?_
    refine at_bipush (n := 100) (100 : Int32) 40 rfl (by decide +kernel) (by decide +kernel) ?_
    refine at_idiv 41 rfl (by decide +kernel) (by decide +kernel) ?_
    exact At.sub [1, 2, 3] rfl h
  · rw [if_neg c13] at h
    refine at_iconst (n := 0) (0 : Int32) 19 rfl (by decide +kernel) (by decide +kernel) ?_
    refine at_goto (off := 22) 41 (by decide +kernel) (by decide +kernel) ?_
    exact At.sub [1, 2, 3] rfl h
set_option maxRecDepth 20000 in
set_option maxHeartbeats 4000000 in
theorem en_Land_offer (g : Gc) {lv : Nat} {t : Nat} {l1 : Option Nat} {l2 : Int32} {m : Mm} {Q : Int64 → Mm → Prop} (h : ∃ b1, l1 = some b1 ∧ (mK m b1 = 7 ∧ (mK m t = 4 ∧ (∃ b5, mR m t 2 = some b5 ∧ (mK m b5 = 18 ∧ (vp_in l2 (mN m b5) ∧ (∃ b9, mR m b5 l2.toNatClampNeg = some b9 ∧ (mK m b9 = 1 ∧ (if (mR m b1 3 : Option Nat) = none then (Q (((((mI m b1 1).toInt64) * ((mI m t 10).toInt64)) * ((mI m b9 0).toInt64)) / (100 : Int64)) m) else (Q ((((((mI m b1 1).toInt64) * ((mI m t 10).toInt64)) * ((mI m b9 0).toInt64)) / (100 : Int64)) / (2 : Int64)) m)))))))))) : CJ g M_Land_offer (lv + 1) [va_rf (some t), va_rf (l1), .int (l2)] m Q := by
  refine Call.of (by decide +kernel) (by simp [lg_sl, va_rf_cat, cat_int, cat_long, M_Land_offer]) ?_
  rw [show lv_args 0 [va_rf (some t), va_rf (l1), .int (l2)] = [(0, va_rf (some t)), (1, va_rf (l1)), (2, .int (l2))] from by simp [lv_args, va_rf_cat, cat_int, cat_long]]
  refine at_aload_n (i := 1) 1 1 rfl (by decide +kernel) rfl ?_
  obtain ⟨b1, e2, h⟩ := h
  rw [e2]
  obtain ⟨k3, h⟩ := h
  refine at_get (index := 216) (v := .int (mI m b1 1)) cok6 1 4 rfl (by decide +kernel) k3 (by decide +kernel) tw_778 rfl ?_
  refine at_i2l 5 rfl (by decide +kernel) ?_
  refine at_aload_n (i := 0) 0 6 rfl (by decide +kernel) rfl ?_
  obtain ⟨k4, h⟩ := h
  refine at_get (index := 48) (v := .int (mI m t 10)) cok3 10 9 rfl (by decide +kernel) k4 (by decide +kernel) tw_301 rfl ?_
  refine at_i2l 10 rfl (by decide +kernel) ?_
  refine at_lmul 11 rfl (by decide +kernel) ?_
  refine at_aload_n (i := 0) 0 12 rfl (by decide +kernel) rfl ?_
  refine at_get (index := 19) (v := va_rf (mR m t 2)) cok3 2 15 rfl (by decide +kernel) k4 (by decide +kernel) tw_288 rfl ?_
  refine at_iload_n (i := 2) 2 16 rfl (by decide +kernel) rfl ?_
  obtain ⟨b5, e6, h⟩ := h
  rw [e6]
  obtain ⟨k7, h⟩ := h
  obtain ⟨v8, h⟩ := h
  refine at_aaldBank 17 rfl (by decide +kernel) k7 v8 ?_
  obtain ⟨b9, e10, h⟩ := h
  rw [e10]
  obtain ⟨k11, h⟩ := h
  refine at_get (index := 268) (v := .int (mI m b9 0)) cok0 0 20 rfl (by decide +kernel) k11 (by decide +kernel) tw_273 rfl ?_
  refine at_i2l 21 rfl (by decide +kernel) ?_
  refine at_lmul 22 rfl (by decide +kernel) ?_
  refine at_ldc2 (index := 199) (100 : Int64) 25 rfl (by decide +kernel) tw_758 ?_
  refine at_ldiv 26 rfl (by decide +kernel) (by decide +kernel) ?_
  refine at_lstore_n (i := 3) (lc' := [(1, va_rf (some b1)), (3, .long (((((mI m b1 1).toInt64) * ((mI m t 10).toInt64)) * ((mI m b9 0).toInt64)) / (100 : Int64)))]) [2, 0] 27 rfl (by decide +kernel) (by decide +kernel) rfl ?_
  refine at_aload_n (i := 1) 0 28 rfl (by decide +kernel) rfl ?_
  refine at_get (index := 269) (v := va_rf (mR m b1 3)) cok6 3 31 rfl (by decide +kernel) k3 (by decide +kernel) tw_785 rfl ?_
  refine at_ifnonnull (off := 7) 38 34 rfl (by decide +kernel) (by decide +kernel) (fun c12 => ?_) (fun c12 => ?_)
  · rw [if_neg c12] at h
    refine at_lload_n (i := 3) 1 39 rfl (by decide +kernel) rfl ?_
    refine at_ldc2 (index := 273) (2 : Int64) 42 rfl (by decide +kernel) tw_928 ?_
    refine at_ldiv 43 rfl (by decide +kernel) (by decide +kernel) ?_
    exact at_lret rfl (by decide +kernel) h
  · rw [if_pos c12] at h
    refine at_lload_n (i := 3) 1 35 rfl (by decide +kernel) rfl ?_
    refine at_goto (off := 8) 43 (by decide +kernel) (by decide +kernel) ?_
    exact at_lret rfl (by decide +kernel) h
set_option maxRecDepth 20000 in
set_option maxHeartbeats 4000000 in
theorem en_Land_lend (g : Gc) {lv : Nat} {t : Nat} {l1 : Option Nat} {l2 : Int32} {l3 : Int64} {l5 : Int32} {m : Mm} {Q : Mm → Prop} (h : mK m (gz g + mC m) = 0 ∧ (∀ q2 m3, q2 = gz g + mC m → m3 = nw m q2 6 0 3 → (mK m3 t = 4 ∧ (∃ b9, mR m3 t 2 = some b9 ∧ (mK m3 b9 = 18 ∧ (vp_in l2 (mN m3 b9) ∧ (∃ b13, mR m3 b9 l2.toNatClampNeg = some b13 ∧ (mK m3 b13 = 1 ∧ (CV g M_Loan_init lv [va_rf (some q2), .int (l2), .int (l5), .long ((l3 * (((100 : Int32) + (mI m3 b13 1)).toInt64)) / (100 : Int64))] m3 (fun m16 => (∃ b22, l1 = some b22 ∧ (mK m16 b22 = 7 ∧ (CV g M_Receipt_bear lv [va_rf (some b22), va_rf (some q2)] m16 (fun m25 => (CV g M_Land_credit lv [va_rf (some t), .int (mI m25 b22 0), .long (l3)] m25 (fun m32 => (∃ b39, mR m32 t 2 = some b39 ∧ (mK m32 b39 = 18 ∧ (vp_in l2 (mN m32 b39) ∧ (∃ b43, mR m32 b39 l2.toNatClampNeg = some b43 ∧ (mK m32 b43 = 1 ∧ (∀ m46, m46 = sL m32 b43 2 ((mL m32 b43 2) - l3) → (Q m46))))))))))))))))))))))) : CV g M_Land_lend (lv + 1) [va_rf (some t), va_rf (l1), .int (l2), .long (l3), .int (l5)] m Q := by
  refine Call.of (by decide +kernel) (by simp [lg_sl, va_rf_cat, cat_int, cat_long, M_Land_lend]) ?_
  rw [show lv_args 0 [va_rf (some t), va_rf (l1), .int (l2), .long (l3), .int (l5)] = [(0, va_rf (some t)), (1, va_rf (l1)), (2, .int (l2)), (3, .long (l3)), (5, .int (l5))] from by simp [lv_args, va_rf_cat, cat_int, cat_long]]
  refine at_aload_n (i := 1) 1 1 rfl (by decide +kernel) rfl ?_
  obtain ⟨z1, h⟩ := h
  refine at_new (index := 275) cok5 4 rfl z1 (by decide +kernel) tw_934 tw_935 tw_84 (fun q2 m3 e4 e5 => ?_)
  replace h := h q2 m3 e4 e5
  have x6 : Ext m m3 := by rw [e5, e4]; exact Ext.nw z1 _ _ _
  have k7 : mK m3 q2 = 6 := by rw [e5]; exact if_pos rfl
  refine at_dup 5 rfl (by decide +kernel) (va_rf_cat _) ?_
  refine at_iload_n (i := 2) 2 6 rfl (by decide +kernel) rfl ?_
  refine at_iload (i := 5) 4 8 rfl (by decide +kernel) rfl ?_
  refine at_lload_n (i := 3) 3 9 rfl (by decide +kernel) rfl ?_
  refine at_bipush (n := 100) (100 : Int32) 11 rfl (by decide +kernel) (by decide +kernel) ?_
  refine at_aload_n (i := 0) 0 12 rfl (by decide +kernel) rfl ?_
  obtain ⟨k8, h⟩ := h
  refine at_get (index := 19) (v := va_rf (mR m3 t 2)) cok3 2 15 rfl (by decide +kernel) k8 (by decide +kernel) tw_288 rfl ?_
  refine at_iload_n (i := 2) 2 16 rfl (by decide +kernel) rfl ?_
  obtain ⟨b9, e10, h⟩ := h
  rw [e10]
  obtain ⟨k11, h⟩ := h
  obtain ⟨v12, h⟩ := h
  refine at_aaldBank 17 rfl (by decide +kernel) k11 v12 ?_
  obtain ⟨b13, e14, h⟩ := h
  rw [e14]
  obtain ⟨k15, h⟩ := h
  refine at_get (index := 277) (v := .int (mI m3 b13 1)) cok0 1 20 rfl (by decide +kernel) k15 (by decide +kernel) tw_276 rfl ?_
  refine at_iadd 21 rfl (by decide +kernel) ?_
  refine at_i2l 22 rfl (by decide +kernel) ?_
  refine at_lmul 23 rfl (by decide +kernel) ?_
  refine at_ldc2 (index := 199) (100 : Int64) 26 rfl (by decide +kernel) tw_758 ?_
  refine at_ldiv 27 rfl (by decide +kernel) (by decide +kernel) ?_
  refine at_callI mb_Loan_init tw_937 rfl rfl (index := 280) tw_936 [.int (l2), .int (l5), .long ((l3 * (((100 : Int32) + (mI m3 b13 1)).toInt64)) / (100 : Int64))] [va_rf (some q2), va_rf (l1)] rfl rfl (by simp [va_rf_cat, cat_int, cat_long]) 30 rfl (by decide +kernel) (Call.toV (CV.monoE h (fun m16 h y17 => ?_)))
  have k18 : mK m16 q2 = 6 := y17.k k7 (by decide)
  have k19 : mK m16 t = 4 := y17.k k8 (by decide)
  have k20 : mK m16 b9 = 18 := y17.k k11 (by decide)
  have k21 : mK m16 b13 = 1 := y17.k k15 (by decide)
  obtain ⟨b22, e23, h⟩ := h
  rw [e23]
  obtain ⟨k24, h⟩ := h
  refine at_callV mb_Receipt_bear tw_957 tw_958 cok6 k24 (index := 283) tw_956 [va_rf (some q2)] [] rfl rfl (by decide) 33 rfl (by decide +kernel) (Call.toV (CV.monoE h (fun m25 h y26 => ?_)))
  have k27 : mK m25 q2 = 6 := y26.k k18 (by decide)
  have k28 : mK m25 t = 4 := y26.k k19 (by decide)
  have k29 : mK m25 b9 = 18 := y26.k k20 (by decide)
  have k30 : mK m25 b13 = 1 := y26.k k21 (by decide)
  have k31 : mK m25 b22 = 7 := y26.k k24 (by decide)
  refine at_aload_n (i := 0) 0 34 rfl (by decide +kernel) rfl ?_
  refine at_aload_n (i := 1) 1 35 rfl (by decide +kernel) rfl ?_
  refine at_get (index := 227) (v := .int (mI m25 b22 0)) cok6 0 38 rfl (by decide +kernel) k31 (by decide +kernel) tw_775 rfl ?_
  refine at_lload_n (i := 3) 3 39 rfl (by decide +kernel) rfl ?_
  refine at_callV mb_Land_credit tw_807 tw_808 cok3 k28 (index := 230) tw_806 [.int (mI m25 b22 0), .long (l3)] [] rfl rfl (by decide) 42 rfl (by decide +kernel) (Call.toV (CV.monoE h (fun m32 h y33 => ?_)))
  have k34 : mK m32 q2 = 6 := y33.k k27 (by decide)
  have k35 : mK m32 t = 4 := y33.k k28 (by decide)
  have k36 : mK m32 b9 = 18 := y33.k k29 (by decide)
  have k37 : mK m32 b13 = 1 := y33.k k30 (by decide)
  have k38 : mK m32 b22 = 7 := y33.k k31 (by decide)
  refine at_aload_n (i := 0) 0 43 rfl (by decide +kernel) rfl ?_
  refine at_get (index := 19) (v := va_rf (mR m32 t 2)) cok3 2 46 rfl (by decide +kernel) k35 (by decide +kernel) tw_288 rfl ?_
  refine at_iload_n (i := 2) 2 47 rfl (by decide +kernel) rfl ?_
  obtain ⟨b39, e40, h⟩ := h
  rw [e40]
  obtain ⟨k41, h⟩ := h
  obtain ⟨v42, h⟩ := h
  refine at_aaldBank 48 rfl (by decide +kernel) k41 v42 ?_
  refine at_dup 49 rfl (by decide +kernel) (va_rf_cat _) ?_
  obtain ⟨b43, e44, h⟩ := h
  rw [e44]
  obtain ⟨k45, h⟩ := h
  refine at_get (index := 83) (v := .long (mL m32 b43 2)) cok0 2 52 rfl (by decide +kernel) k45 (by decide +kernel) tw_277 rfl ?_
  refine at_lload_n (i := 3) 3 53 rfl (by decide +kernel) rfl ?_
  refine at_lsub 54 rfl (by decide +kernel) ?_
  refine at_putJ (index := 83) cok0 2 57 rfl (by decide +kernel) k45 (by decide +kernel) tw_277 rfl rfl rfl (fun m46 e47 => ?_)
  replace h := h m46 e47
  have k48 : mK m46 q2 = 6 := by rw [e47]; exact k34
  have k49 : mK m46 t = 4 := by rw [e47]; exact k35
  have k50 : mK m46 b9 = 18 := by rw [e47]; exact k36
  have k51 : mK m46 b13 = 1 := by rw [e47]; exact k37
  have k52 : mK m46 b22 = 7 := by rw [e47]; exact k38
  have k53 : mK m46 b39 = 18 := by rw [e47]; exact k41
  have k54 : mK m46 b43 = 1 := by rw [e47]; exact k45
  exact at_vret rfl (by decide +kernel) h
set_option maxRecDepth 20000 in
set_option maxHeartbeats 4000000 in
theorem en_Land_payBack (g : Gc) {lv : Nat} {t : Nat} {l1 : Option Nat} {l2 : Option Nat} {m : Mm} {Q : Mm → Prop} (h : ∃ b1, l1 = some b1 ∧ (mK m b1 = 7 ∧ (∃ b4, l2 = some b4 ∧ (mK m b4 = 6 ∧ (mK m t = 4 ∧ (CV g M_Land_credit lv [va_rf (some t), .int (mI m b1 0), .long (-(mL m b4 2))] m (fun m8 => (∃ b13, mR m8 t 2 = some b13 ∧ (mK m8 b13 = 18 ∧ (vp_in (mI m8 b4 0) (mN m8 b13) ∧ (∃ b17, mR m8 b13 (mI m8 b4 0).toNatClampNeg = some b17 ∧ (mK m8 b17 = 1 ∧ (∀ m20, m20 = sL m8 b17 2 ((mL m8 b17 2) + (mL m8 b4 2)) → (CV g M_Receipt_drop lv [va_rf (some b1), va_rf (some b4)] m20 (fun m27 => (Q m27)))))))))))))))) : CV g M_Land_payBack (lv + 1) [va_rf (some t), va_rf (l1), va_rf (l2)] m Q := by
  refine Call.of (by decide +kernel) (by simp [lg_sl, va_rf_cat, cat_int, cat_long, M_Land_payBack]) ?_
  rw [show lv_args 0 [va_rf (some t), va_rf (l1), va_rf (l2)] = [(0, va_rf (some t)), (1, va_rf (l1)), (2, va_rf (l2))] from by simp [lv_args, va_rf_cat, cat_int, cat_long]]
  refine at_aload_n (i := 0) 0 1 rfl (by decide +kernel) rfl ?_
  refine at_aload_n (i := 1) 1 2 rfl (by decide +kernel) rfl ?_
  obtain ⟨b1, e2, h⟩ := h
  rw [e2]
  obtain ⟨k3, h⟩ := h
  refine at_get (index := 227) (v := .int (mI m b1 0)) cok6 0 5 rfl (by decide +kernel) k3 (by decide +kernel) tw_775 rfl ?_
  refine at_aload_n (i := 2) 2 6 rfl (by decide +kernel) rfl ?_
  obtain ⟨b4, e5, h⟩ := h
  rw [e5]
  obtain ⟨k6, h⟩ := h
  refine at_get (index := 287) (v := .long (mL m b4 2)) cok5 2 9 rfl (by decide +kernel) k6 (by decide +kernel) tw_948 rfl ?_
  refine at_lneg 10 rfl (by decide +kernel) ?_
  obtain ⟨k7, h⟩ := h
  refine at_callV mb_Land_credit tw_807 tw_808 cok3 k7 (index := 230) tw_806 [.int (mI m b1 0), .long (-(mL m b4 2))] [] rfl rfl (by decide) 13 rfl (by decide +kernel) (Call.toV (CV.monoE h (fun m8 h y9 => ?_)))
  have k10 : mK m8 b1 = 7 := y9.k k3 (by decide)
  have k11 : mK m8 b4 = 6 := y9.k k6 (by decide)
  have k12 : mK m8 t = 4 := y9.k k7 (by decide)
  refine at_aload_n (i := 0) 0 14 rfl (by decide +kernel) rfl ?_
  refine at_get (index := 19) (v := va_rf (mR m8 t 2)) cok3 2 17 rfl (by decide +kernel) k12 (by decide +kernel) tw_288 rfl ?_
  refine at_aload_n (i := 2) 2 18 rfl (by decide +kernel) rfl ?_
  refine at_get (index := 290) (v := .int (mI m8 b4 0)) cok5 0 21 rfl (by decide +kernel) k11 (by decide +kernel) tw_942 rfl ?_
  obtain ⟨b13, e14, h⟩ := h
  rw [e14]
  obtain ⟨k15, h⟩ := h
  obtain ⟨v16, h⟩ := h
  refine at_aaldBank 22 rfl (by decide +kernel) k15 v16 ?_
  refine at_dup 23 rfl (by decide +kernel) (va_rf_cat _) ?_
  obtain ⟨b17, e18, h⟩ := h
  rw [e18]
  obtain ⟨k19, h⟩ := h
  refine at_get (index := 83) (v := .long (mL m8 b17 2)) cok0 2 26 rfl (by decide +kernel) k19 (by decide +kernel) tw_277 rfl ?_
  refine at_aload_n (i := 2) 2 27 rfl (by decide +kernel) rfl ?_
  refine at_get (index := 287) (v := .long (mL m8 b4 2)) cok5 2 30 rfl (by decide +kernel) k11 (by decide +kernel) tw_948 rfl ?_
  refine at_ladd 31 rfl (by decide +kernel) ?_
  refine at_putJ (index := 83) cok0 2 34 rfl (by decide +kernel) k19 (by decide +kernel) tw_277 rfl rfl rfl (fun m20 e21 => ?_)
  replace h := h m20 e21
  have k22 : mK m20 b1 = 7 := by rw [e21]; exact k10
  have k23 : mK m20 b4 = 6 := by rw [e21]; exact k11
  have k24 : mK m20 t = 4 := by rw [e21]; exact k12
  have k25 : mK m20 b13 = 18 := by rw [e21]; exact k15
  have k26 : mK m20 b17 = 1 := by rw [e21]; exact k19
  refine at_aload_n (i := 1) 1 35 rfl (by decide +kernel) rfl ?_
  refine at_aload_n (i := 2) 2 36 rfl (by decide +kernel) rfl ?_
  refine at_callV mb_Receipt_drop tw_881 tw_882 cok6 k22 (index := 293) tw_880 [va_rf (some b4)] [] rfl rfl (by decide) 39 rfl (by decide +kernel) (Call.toV (CV.monoE h (fun m27 h y28 => ?_)))
  have k29 : mK m27 b1 = 7 := y28.k k22 (by decide)
  have k30 : mK m27 b4 = 6 := y28.k k23 (by decide)
  have k31 : mK m27 t = 4 := y28.k k24 (by decide)
  have k32 : mK m27 b13 = 18 := y28.k k25 (by decide)
  have k33 : mK m27 b17 = 1 := y28.k k26 (by decide)
  exact at_vret rfl (by decide +kernel) h
set_option maxRecDepth 20000 in
set_option maxHeartbeats 4000000 in
theorem bk_Land_settleLoans_10 (g : Gc) {lv : Nat} {t : Nat} {l1 : Int32} {l2 : Int32} {m : Mm} {Q : Mm → Prop} (h : if (l1) ≤ (l2) then (Q m) else (mK m t = 4 ∧ (∃ b3, mR m t 3 = some b3 ∧ (mK m b3 = 9 ∧ (∃ b6, mR m b3 0 = some b6 ∧ (mK m b6 = 21 ∧ (vp_in l2 (mN m b6) ∧ (∃ b10, mR m b6 l2.toNatClampNeg = some b10 ∧ (mK m b10 = 7 ∧ (CV g M_Land_closeIfDue lv [va_rf (some t), va_rf (some b10), va_rf (mR m b10 3)] m (fun m13 => (CV g M_Land_closeIfDue lv [va_rf (some t), va_rf (some b10), va_rf (mR m b10 4)] m13 (fun m19 => (At g M_Land_settleLoans (lv + 1) 10 [(0, va_rf (some t)), (1, .int (l1)), (2, .int (l2 + (1 : Int32)))] [] m19 (QV Q))))))))))))))) : At g M_Land_settleLoans (lv + 1) 10 [(0, va_rf (some t)), (1, .int (l1)), (2, .int (l2))] [] m (QV Q) := by
  refine at_iload_n (i := 2) 2 11 rfl (by decide +kernel) rfl ?_
  refine at_iload_n (i := 1) 1 12 rfl (by decide +kernel) rfl ?_
  refine at_icmp_ge (off := 45) 57 15 rfl (by decide +kernel) (by decide +kernel) (fun c1 => ?_) (fun c1 => ?_)
  · rw [if_pos c1] at h
    exact at_vret rfl (by decide +kernel) h
  · rw [if_neg c1] at h
    refine at_aload_n (i := 0) 0 16 rfl (by decide +kernel) rfl ?_
    obtain ⟨k2, h⟩ := h
    refine at_get (index := 26) (v := va_rf (mR m t 3)) cok3 3 19 rfl (by decide +kernel) k2 (by decide +kernel) tw_290 rfl ?_
    obtain ⟨b3, e4, h⟩ := h
    rw [e4]
    obtain ⟨k5, h⟩ := h
    refine at_get (index := 212) (v := va_rf (mR m b3 0)) cok8 0 22 rfl (by decide +kernel) k5 (by decide +kernel) tw_152 rfl ?_
    refine at_iload_n (i := 2) 2 23 rfl (by decide +kernel) rfl ?_
    obtain ⟨b6, e7, h⟩ := h
    rw [e7]
    obtain ⟨k8, h⟩ := h
    obtain ⟨v9, h⟩ := h
    refine at_aaldReceipt 24 rfl (by decide +kernel) k8 v9 ?_
    refine at_astore_n (i := 3) (lc' := [(0, va_rf (some t)), (1, .int (l1)), (2, .int (l2)), (3, va_rf (mR m b6 l2.toNatClampNeg))]) [1, 2, 3, 0] 25 rfl (by decide +kernel) (by decide +kernel) rfl ?_
    refine at_aload_n (i := 3) 3 26 rfl (by decide +kernel) rfl ?_
    obtain ⟨b10, e11, h⟩ := h
    rw [e11]
    obtain ⟨k12, h⟩ := h
    refine at_get (index := 269) (v := va_rf (mR m b10 3)) cok6 3 29 rfl (by decide +kernel) k12 (by decide +kernel) tw_785 rfl ?_
    refine at_astore (i := 4) (lc' := [(0, va_rf (some t)), (1, .int (l1)), (2, .int (l2)), (3, va_rf (some b10)), (4, va_rf (mR m b10 3))]) [1, 2, 3, 4, 0] 31 rfl (by decide +kernel) (by decide +kernel) rfl ?_
    refine at_aload_n (i := 3) 3 32 rfl (by decide +kernel) rfl ?_
    refine at_get (index := 296) (v := va_rf (mR m b10 4)) cok6 4 35 rfl (by decide +kernel) k12 (by decide +kernel) tw_789 rfl ?_
    refine at_astore (i := 5) (lc' := [(0, va_rf (some t)), (1, .int (l1)), (2, .int (l2)), (3, va_rf (some b10)), (4, va_rf (mR m b10 3)), (5, va_rf (mR m b10 4))]) [1, 2, 3, 4, 5, 0] 37 rfl (by decide +kernel) (by decide +kernel) (by generalize (mR m b10 3) = rr; cases rr <;> rfl) ?_
    refine at_aload_n (i := 0) 0 38 rfl (by decide +kernel) rfl ?_
    refine at_aload_n (i := 3) 3 39 rfl (by decide +kernel) rfl ?_
    refine at_aload (i := 4) 4 41 rfl (by decide +kernel) rfl ?_
    refine at_callV mb_Land_closeIfDue tw_866 tw_28 cok3 k2 (index := 299) tw_864 [va_rf (some b10), va_rf (mR m b10 3)] [] rfl rfl (by decide) 44 rfl (by decide +kernel) (Call.toV (CV.monoE h (fun m13 h y14 => ?_)))
    have k15 : mK m13 t = 4 := y14.k k2 (by decide)
    have k16 : mK m13 b3 = 9 := y14.k k5 (by decide)
    have k17 : mK m13 b6 = 21 := y14.k k8 (by decide)
    have k18 : mK m13 b10 = 7 := y14.k k12 (by decide)
    refine at_aload_n (i := 0) 0 45 rfl (by decide +kernel) rfl ?_
    refine at_aload_n (i := 3) 3 46 rfl (by decide +kernel) rfl ?_
    refine at_aload (i := 5) 5 48 rfl (by decide +kernel) rfl ?_
    refine at_callV mb_Land_closeIfDue tw_866 tw_28 cok3 k15 (index := 299) tw_864 [va_rf (some b10), va_rf (mR m b10 4)] [] rfl rfl (by decide) 51 rfl (by decide +kernel) (Call.toV (CV.monoE h (fun m19 h y20 => ?_)))
    have k21 : mK m19 t = 4 := y20.k k15 (by decide)
    have k22 : mK m19 b3 = 9 := y20.k k16 (by decide)
    have k23 : mK m19 b6 = 21 := y20.k k17 (by decide)
    have k24 : mK m19 b10 = 7 := y20.k k18 (by decide)
    refine at_iinc (i := 2) (n := 1) (lc' := [(0, va_rf (some t)), (1, .int (l1)), (2, .int (l2 + (1 : Int32)))]) (l2 + (1 : Int32)) 2 [1, 2, 0] 54 rfl (by decide +kernel) rfl (by rw [show Int32.ofInt 1 = (1 : Int32) from by decide +kernel]) (by decide +kernel) rfl ?_
    refine at_goto (off := (-44)) 10 (by decide +kernel) (by decide +kernel) ?_
    exact h
set_option maxRecDepth 20000 in
set_option maxHeartbeats 4000000 in
theorem en_Land_settleLoans (g : Gc) {lv : Nat} {t : Nat} {m : Mm} {Q : Mm → Prop} (h : mK m t = 4 ∧ (∃ b2, mR m t 3 = some b2 ∧ (mK m b2 = 9 ∧ (At g M_Land_settleLoans (lv + 1) 10 [(0, va_rf (some t)), (1, .int (mI m b2 1)), (2, .int ((0 : Int32)))] [] m (QV Q))))) : CV g M_Land_settleLoans (lv + 1) [va_rf (some t)] m Q := by
  refine Call.of (by decide +kernel) (Nat.le_of_ble_eq_true rfl) ?_
  show At g M_Land_settleLoans (lv + 1) 0 [(0, va_rf (some t))] [] m (QV Q)
  refine at_aload_n (i := 0) 0 1 rfl (by decide +kernel) rfl ?_
  obtain ⟨k1, h⟩ := h
  refine at_get (index := 26) (v := va_rf (mR m t 3)) cok3 3 4 rfl (by decide +kernel) k1 (by decide +kernel) tw_290 rfl ?_
  obtain ⟨b2, e3, h⟩ := h
  rw [e3]
  obtain ⟨k4, h⟩ := h
  refine at_get (index := 90) (v := .int (mI m b2 1)) cok8 1 7 rfl (by decide +kernel) k4 (by decide +kernel) tw_154 rfl ?_
  refine at_istore_n (i := 1) (lc' := [(0, va_rf (some t)), (1, .int (mI m b2 1))]) [1, 0] 8 rfl (by decide +kernel) (by decide +kernel) rfl ?_
  refine at_iconst (n := 0) (0 : Int32) 9 rfl (by decide +kernel) (by decide +kernel) ?_
  refine at_istore_n (i := 2) (lc' := [(0, va_rf (some t)), (1, .int (mI m b2 1)), (2, .int ((0 : Int32)))]) [1, 2, 0] 10 rfl (by decide +kernel) (by decide +kernel) rfl ?_
  exact h
set_option maxRecDepth 20000 in
set_option maxHeartbeats 4000000 in
theorem en_Land_closeIfDue (g : Gc) {lv : Nat} {t : Nat} {l1 : Option Nat} {l2 : Option Nat} {m : Mm} {Q : Mm → Prop} (h : ∃ b1, l1 = some b1 ∧ (mK m b1 = 7 ∧ (CI g M_Receipt_bears lv [va_rf (some b1), va_rf (l2)] m (fun x4 m5 => (if (x4) = 0 then (Q m5) else (∃ b9, l2 = some b9 ∧ (mK m5 b9 = 6 ∧ (mK m5 t = 4 ∧ (if (mI m5 b9 1) ≤ (mI m5 t 9) then (CJ g M_Land_moneyOf lv [va_rf (some t), .int (mI m5 b1 0)] m5 (fun x14 m15 => (if (x14) < (mL m15 b9 2) then (CV g M_Land_seize lv [va_rf (some t), va_rf (some b1), va_rf (some b9)] m15 (fun m21 => (Q m21))) else (CV g M_Land_payBack lv [va_rf (some t), va_rf (some b1), va_rf (some b9)] m15 (fun m26 => (Q m26)))))) else (Q m5)))))))))) : CV g M_Land_closeIfDue (lv + 1) [va_rf (some t), va_rf (l1), va_rf (l2)] m Q := by
  refine Call.of (by decide +kernel) (by simp [lg_sl, va_rf_cat, cat_int, cat_long, M_Land_closeIfDue]) ?_
  rw [show lv_args 0 [va_rf (some t), va_rf (l1), va_rf (l2)] = [(0, va_rf (some t)), (1, va_rf (l1)), (2, va_rf (l2))] from by simp [lv_args, va_rf_cat, cat_int, cat_long]]
  refine at_aload_n (i := 1) 1 1 rfl (by decide +kernel) rfl ?_
  refine at_aload_n (i := 2) 2 2 rfl (by decide +kernel) rfl ?_
  obtain ⟨b1, e2, h⟩ := h
  rw [e2]
  obtain ⟨k3, h⟩ := h
  refine at_callV mb_Receipt_bears tw_869 tw_870 cok6 k3 (index := 303) tw_868 [va_rf (l2)] [] rfl rfl (by decide) 5 rfl (by decide +kernel) (Call.toI (CI.monoE h (fun x4 m5 h y6 => ?_)))
  have k7 : mK m5 b1 = 7 := y6.k k3 (by decide)
  refine at_if_eq (off := 14) 19 8 rfl (by decide +kernel) (by decide +kernel) (fun c8 => ?_) (fun c8 => ?_)
  · rw [if_pos c8] at h
    exact at_vret rfl (by decide +kernel) h
  · rw [if_neg c8] at h
    refine at_aload_n (i := 2) 2 9 rfl (by decide +kernel) rfl ?_
    obtain ⟨b9, e10, h⟩ := h
    rw [e10]
    obtain ⟨k11, h⟩ := h
    refine at_get (index := 307) (v := .int (mI m5 b9 1)) cok5 1 12 rfl (by decide +kernel) k11 (by decide +kernel) tw_945 rfl ?_
    refine at_aload_n (i := 0) 0 13 rfl (by decide +kernel) rfl ?_
    obtain ⟨k12, h⟩ := h
    refine at_get (index := 69) (v := .int (mI m5 t 9)) cok3 9 16 rfl (by decide +kernel) k12 (by decide +kernel) tw_299 rfl ?_
    refine at_icmp_le (off := 4) 20 19 rfl (by decide +kernel) (by decide +kernel) (fun c13 => ?_) (fun c13 => ?_)
    · rw [if_pos c13] at h
      refine at_aload_n (i := 0) 0 21 rfl (by decide +kernel) rfl ?_
      refine at_aload_n (i := 1) 1 22 rfl (by decide +kernel) rfl ?_
      refine at_get (index := 227) (v := .int (mI m5 b1 0)) cok6 0 25 rfl (by decide +kernel) k7 (by decide +kernel) tw_775 rfl ?_
      refine at_callV mb_Land_moneyOf tw_873 tw_874 cok3 k12 (index := 310) tw_872 [.int (mI m5 b1 0)] [] rfl rfl (by decide) 28 rfl (by decide +kernel) (Call.toJ (CJ.monoE h (fun x14 m15 h y16 => ?_)))
      have k17 : mK m15 b1 = 7 := y16.k k7 (by decide)
      have k18 : mK m15 b9 = 6 := y16.k k11 (by decide)
      have k19 : mK m15 t = 4 := y16.k k12 (by decide)
      refine at_aload_n (i := 2) 2 29 rfl (by decide +kernel) rfl ?_
      refine at_get (index := 287) (v := .long (mL m15 b9 2)) cok5 2 32 rfl (by decide +kernel) k18 (by decide +kernel) tw_948 rfl ?_
      refine at_lif_lt (off := 12) 33 45 36 rfl rfl (by decide +kernel) (by decide +kernel) (by decide +kernel) (fun c20 => ?_) (fun c20 => ?_)
      · rw [if_pos c20] at h
        refine at_aload_n (i := 0) 0 46 rfl (by decide +kernel) rfl ?_
        refine at_aload_n (i := 1) 1 47 rfl (by decide +kernel) rfl ?_
        refine at_aload_n (i := 2) 2 48 rfl (by decide +kernel) rfl ?_
        refine at_callV mb_Land_seize tw_886 tw_29 cok3 k19 (index := 316) tw_884 [va_rf (some b1), va_rf (some b9)] [] rfl rfl (by decide) 51 rfl (by decide +kernel) (Call.toV (CV.monoE h (fun m21 h y22 => ?_)))
        have k23 : mK m21 b1 = 7 := y22.k k17 (by decide)
        have k24 : mK m21 b9 = 6 := y22.k k18 (by decide)
        have k25 : mK m21 t = 4 := y22.k k19 (by decide)
        exact at_vret rfl (by decide +kernel) h
      · rw [if_neg c20] at h
        refine at_aload_n (i := 0) 0 37 rfl (by decide +kernel) rfl ?_
        refine at_aload_n (i := 1) 1 38 rfl (by decide +kernel) rfl ?_
        refine at_aload_n (i := 2) 2 39 rfl (by decide +kernel) rfl ?_
        refine at_callV mb_Land_payBack tw_877 tw_878 cok3 k19 (index := 313) tw_876 [va_rf (some b1), va_rf (some b9)] [] rfl rfl (by decide) 42 rfl (by decide +kernel) (Call.toV (CV.monoE h (fun m26 h y27 => ?_)))
        have k28 : mK m26 b1 = 7 := y27.k k17 (by decide)
        have k29 : mK m26 b9 = 6 := y27.k k18 (by decide)
        have k30 : mK m26 t = 4 := y27.k k19 (by decide)
        refine at_goto (off := 9) 51 (by decide +kernel) (by decide +kernel) ?_
        exact at_vret rfl (by decide +kernel) h
    · rw [if_neg c13] at h
      exact at_vret rfl (by decide +kernel) h
set_option maxRecDepth 20000 in
set_option maxHeartbeats 4000000 in
theorem en_Land_seize (g : Gc) {lv : Nat} {t : Nat} {l1 : Option Nat} {l2 : Option Nat} {m : Mm} {Q : Mm → Prop} (h : mK m t = 4 ∧ (∀ m2, m2 = sI m t 13 ((mI m t 13) + (1 : Int32)) → (∃ b5, l2 = some b5 ∧ (mK m2 b5 = 6 ∧ (¬ ((imx (1 : Int32) (mI m2 t 10)).toInt64) = 0 ∧ (∃ b9, l1 = some b9 ∧ (mK m2 b9 = 7 ∧ (if ((mI m2 b9 1).toInt64) ≤ ((((mL m2 b5 2) + ((imx (1 : Int32) (mI m2 t 10)).toInt64)) - (1 : Int64)) / ((imx (1 : Int32) (mI m2 t 10)).toInt64)) then (∀ m13, m13 = sI m2 b9 0 ((12 : Int32) + (mI m2 b5 0)) → (∀ m18, m18 = sR m13 b9 3 none → (∀ m23, m23 = sR m18 b9 4 none → (Q m23)))) else (∃ b28, mR m2 t 3 = some b28 ∧ (mK m2 b28 = 9 ∧ (CI g M_Store_isFull lv [va_rf (some b28)] m2 (fun x31 m32 => (if (x31) = 0 then (∀ m39, m39 = sI m32 b9 1 ((mI m32 b9 1) - (((((mL m2 b5 2) + ((imx (1 : Int32) (mI m2 t 10)).toInt64)) - (1 : Int64)) / ((imx (1 : Int32) (mI m2 t 10)).toInt64)).toInt32)) → (∃ b45, mR m39 t 3 = some b45 ∧ (mK m39 b45 = 9 ∧ (CI g M_Store_issue lv [va_rf (some b45), .int ((12 : Int32) + (mI m39 b5 0)), .int (((((mL m2 b5 2) + ((imx (1 : Int32) (mI m2 t 10)).toInt64)) - (1 : Int64)) / ((imx (1 : Int32) (mI m2 t 10)).toInt64)).toInt32), .int (mI m39 b9 2)] m39 (fun x48 m49 => (CV g M_Receipt_drop lv [va_rf (some b9), va_rf (some b5)] m49 (fun m56 => (Q m56)))))))) else (∀ m63, m63 = sI m32 b9 0 ((12 : Int32) + (mI m32 b5 0)) → (∀ m69, m69 = sR m63 b9 3 none → (∀ m75, m75 = sR m69 b9 4 none → (Q m75))))))))))))))))) : CV g M_Land_seize (lv + 1) [va_rf (some t), va_rf (l1), va_rf (l2)] m Q := by
  refine Call.of (by decide +kernel) (by simp [lg_sl, va_rf_cat, cat_int, cat_long, M_Land_seize]) ?_
  rw [show lv_args 0 [va_rf (some t), va_rf (l1), va_rf (l2)] = [(0, va_rf (some t)), (1, va_rf (l1)), (2, va_rf (l2))] from by simp [lv_args, va_rf_cat, cat_int, cat_long]]
  refine at_aload_n (i := 0) 0 1 rfl (by decide +kernel) rfl ?_
  refine at_dup 2 rfl (by decide +kernel) (va_rf_cat _) ?_
  obtain ⟨k1, h⟩ := h
  refine at_get (index := 319) (v := .int (mI m t 13)) cok3 13 5 rfl (by decide +kernel) k1 (by decide +kernel) tw_308 rfl ?_
  refine at_iconst (n := 1) (1 : Int32) 6 rfl (by decide +kernel) (by decide +kernel) ?_
  refine at_iadd 7 rfl (by decide +kernel) ?_
  refine at_putI (index := 319) cok3 13 10 rfl (by decide +kernel) k1 (by decide +kernel) tw_308 rfl rfl rfl (fun m2 e3 => ?_)
  replace h := h m2 e3
  have k4 : mK m2 t = 4 := by rw [e3]; exact k1
  refine at_iconst (n := 1) (1 : Int32) 11 rfl (by decide +kernel) (by decide +kernel) ?_
  refine at_aload_n (i := 0) 0 12 rfl (by decide +kernel) rfl ?_
  refine at_get (index := 48) (v := .int (mI m2 t 10)) cok3 10 15 rfl (by decide +kernel) k4 (by decide +kernel) tw_301 rfl ?_
  refine at_imx (index := 322) 18 rfl (by decide +kernel) tw_888 (by decide) ?_
  refine at_istore_n (i := 3) (lc' := [(0, va_rf (some t)), (1, va_rf (l1)), (2, va_rf (l2)), (3, .int (imx (1 : Int32) (mI m2 t 10)))]) [1, 2, 3, 0] 19 rfl (by decide +kernel) (by decide +kernel) (by generalize l2 = rr; cases rr <;> rfl) ?_
  refine at_aload_n (i := 2) 2 20 rfl (by decide +kernel) rfl ?_
  obtain ⟨b5, e6, h⟩ := h
  rw [e6]
  obtain ⟨k7, h⟩ := h
  refine at_get (index := 287) (v := .long (mL m2 b5 2)) cok5 2 23 rfl (by decide +kernel) k7 (by decide +kernel) tw_948 rfl ?_
  refine at_iload_n (i := 3) 3 24 rfl (by decide +kernel) rfl ?_
  refine at_i2l 25 rfl (by decide +kernel) ?_
  refine at_ladd 26 rfl (by decide +kernel) ?_
  refine at_lconst (n := 1) (1 : Int64) 27 rfl (by decide +kernel) (by decide +kernel) ?_
  refine at_lsub 28 rfl (by decide +kernel) ?_
  refine at_iload_n (i := 3) 3 29 rfl (by decide +kernel) rfl ?_
  refine at_i2l 30 rfl (by decide +kernel) ?_
  obtain ⟨c8, h⟩ := h
  refine at_ldiv 31 rfl (by decide +kernel) c8 ?_
  refine at_lstore (i := 4) (lc' := [(0, va_rf (some t)), (1, va_rf (l1)), (2, va_rf (some b5)), (4, .long ((((mL m2 b5 2) + ((imx (1 : Int32) (mI m2 t 10)).toInt64)) - (1 : Int64)) / ((imx (1 : Int32) (mI m2 t 10)).toInt64)))]) [1, 2, 3, 0] 33 rfl (by decide +kernel) (by decide +kernel) rfl ?_
  refine at_lload (i := 4) 3 35 rfl (by decide +kernel) rfl ?_
  refine at_aload_n (i := 1) 1 36 rfl (by decide +kernel) rfl ?_
  obtain ⟨b9, e10, h⟩ := h
  rw [e10]
  obtain ⟨k11, h⟩ := h
  refine at_get (index := 216) (v := .int (mI m2 b9 1)) cok6 1 39 rfl (by decide +kernel) k11 (by decide +kernel) tw_778 rfl ?_
  refine at_i2l 40 rfl (by decide +kernel) ?_
  refine at_lif_ge (off := 13) 41 54 44 rfl rfl (by decide +kernel) (by decide +kernel) (by decide +kernel) (fun c12 => ?_) (fun c12 => ?_)
  · rw [if_pos c12] at h
    refine at_aload_n (i := 1) 1 55 rfl (by decide +kernel) rfl ?_
    refine at_bipush (n := 12) (12 : Int32) 57 rfl (by decide +kernel) (by decide +kernel) ?_
    refine at_aload_n (i := 2) 2 58 rfl (by decide +kernel) rfl ?_
    refine at_get (index := 290) (v := .int (mI m2 b5 0)) cok5 0 61 rfl (by decide +kernel) k7 (by decide +kernel) tw_942 rfl ?_
    refine at_iadd 62 rfl (by decide +kernel) ?_
    refine at_putI (index := 227) cok6 0 65 rfl (by decide +kernel) k11 (by decide +kernel) tw_775 rfl rfl rfl (fun m13 e14 => ?_)
    replace h := h m13 e14
    have k15 : mK m13 t = 4 := by rw [e14]; exact k4
    have k16 : mK m13 b5 = 6 := by rw [e14]; exact k7
    have k17 : mK m13 b9 = 7 := by rw [e14]; exact k11
    refine at_aload_n (i := 1) 1 66 rfl (by decide +kernel) rfl ?_
    refine at_null 67 rfl (by decide +kernel) ?_
    refine at_putR (index := 269) cok6 3 70 rfl (by decide +kernel) k17 (by decide +kernel) tw_785 rfl rfl (Or.inl ⟨_, rfl⟩) (fun m18 e19 => ?_)
    replace h := h m18 e19
    have k20 : mK m18 t = 4 := by rw [e19]; exact k15
    have k21 : mK m18 b5 = 6 := by rw [e19]; exact k16
    have k22 : mK m18 b9 = 7 := by rw [e19]; exact k17
    refine at_aload_n (i := 1) 1 71 rfl (by decide +kernel) rfl ?_
    refine at_null 72 rfl (by decide +kernel) ?_
    refine at_putR (index := 296) cok6 4 75 rfl (by decide +kernel) k22 (by decide +kernel) tw_789 rfl rfl (Or.inl ⟨_, rfl⟩) (fun m23 e24 => ?_)
    replace h := h m23 e24
    have k25 : mK m23 t = 4 := by rw [e24]; exact k20
    have k26 : mK m23 b5 = 6 := by rw [e24]; exact k21
    have k27 : mK m23 b9 = 7 := by rw [e24]; exact k22
    exact at_vret rfl (by decide +kernel) h
  · rw [if_neg c12] at h
    refine at_aload_n (i := 0) 0 45 rfl (by decide +kernel) rfl ?_
    refine at_get (index := 26) (v := va_rf (mR m2 t 3)) cok3 3 48 rfl (by decide +kernel) k4 (by decide +kernel) tw_290 rfl ?_
    obtain ⟨b28, e29, h⟩ := h
    rw [e29]
    obtain ⟨k30, h⟩ := h
    refine at_callV mb_Store_isFull tw_765 tw_766 cok8 k30 (index := 325) tw_889 [] [] rfl rfl (by decide) 51 rfl (by decide +kernel) (Call.toI (CI.monoE h (fun x31 m32 h y33 => ?_)))
    have k34 : mK m32 t = 4 := y33.k k4 (by decide)
    have k35 : mK m32 b5 = 6 := y33.k k7 (by decide)
    have k36 : mK m32 b9 = 7 := y33.k k11 (by decide)
    have k37 : mK m32 b28 = 9 := y33.k k30 (by decide)
    refine at_if_eq (off := 25) 76 54 rfl (by decide +kernel) (by decide +kernel) (fun c38 => ?_) (fun c38 => ?_)
    · rw [if_pos c38] at h
      refine at_aload_n (i := 1) 1 77 rfl (by decide +kernel) rfl ?_
      refine at_dup 78 rfl (by decide +kernel) (va_rf_cat _) ?_
      refine at_get (index := 216) (v := .int (mI m32 b9 1)) cok6 1 81 rfl (by decide +kernel) k36 (by decide +kernel) tw_778 rfl ?_
      refine at_lload (i := 4) 3 83 rfl (by decide +kernel) rfl ?_
      refine at_l2i 84 rfl (by decide +kernel) ?_
      refine at_isub 85 rfl (by decide +kernel) ?_
      refine at_putI (index := 216) cok6 1 88 rfl (by decide +kernel) k36 (by decide +kernel) tw_778 rfl rfl rfl (fun m39 e40 => ?_)
      replace h := h m39 e40
      have k41 : mK m39 t = 4 := by rw [e40]; exact k34
      have k42 : mK m39 b5 = 6 := by rw [e40]; exact k35
      have k43 : mK m39 b9 = 7 := by rw [e40]; exact k36
      have k44 : mK m39 b28 = 9 := by rw [e40]; exact k37
      refine at_aload_n (i := 0) 0 89 rfl (by decide +kernel) rfl ?_
      refine at_get (index := 26) (v := va_rf (mR m39 t 3)) cok3 3 92 rfl (by decide +kernel) k41 (by decide +kernel) tw_290 rfl ?_
      refine at_bipush (n := 12) (12 : Int32) 94 rfl (by decide +kernel) (by decide +kernel) ?_
      refine at_aload_n (i := 2) 2 95 rfl (by decide +kernel) rfl ?_
      refine at_get (index := 290) (v := .int (mI m39 b5 0)) cok5 0 98 rfl (by decide +kernel) k42 (by decide +kernel) tw_942 rfl ?_
      refine at_iadd 99 rfl (by decide +kernel) ?_
      refine at_lload (i := 4) 3 101 rfl (by decide +kernel) rfl ?_
      refine at_l2i 102 rfl (by decide +kernel) ?_
      refine at_aload_n (i := 1) 1 103 rfl (by decide +kernel) rfl ?_
      refine at_get (index := 237) (v := .int (mI m39 b9 2)) cok6 2 106 rfl (by decide +kernel) k43 (by decide +kernel) tw_781 rfl ?_
      obtain ⟨b45, e46, h⟩ := h
      rw [e46]
      obtain ⟨k47, h⟩ := h
      refine at_callV mb_Store_issue tw_761 tw_762 cok8 k47 (index := 205) tw_760 [.int ((12 : Int32) + (mI m39 b5 0)), .int (((((mL m2 b5 2) + ((imx (1 : Int32) (mI m2 t 10)).toInt64)) - (1 : Int64)) / ((imx (1 : Int32) (mI m2 t 10)).toInt64)).toInt32), .int (mI m39 b9 2)] [] rfl rfl (by decide) 109 rfl (by decide +kernel) (Call.toI (CI.monoE h (fun x48 m49 h y50 => ?_)))
      have k51 : mK m49 t = 4 := y50.k k41 (by decide)
      have k52 : mK m49 b5 = 6 := y50.k k42 (by decide)
      have k53 : mK m49 b9 = 7 := y50.k k43 (by decide)
      have k54 : mK m49 b28 = 9 := y50.k k44 (by decide)
      have k55 : mK m49 b45 = 9 := y50.k k47 (by decide)
      refine at_pop 110 rfl (by decide +kernel) rfl ?_
      refine at_aload_n (i := 1) 1 111 rfl (by decide +kernel) rfl ?_
      refine at_aload_n (i := 2) 2 112 rfl (by decide +kernel) rfl ?_
      refine at_callV mb_Receipt_drop tw_881 tw_882 cok6 k53 (index := 293) tw_880 [va_rf (some b5)] [] rfl rfl (by decide) 115 rfl (by decide +kernel) (Call.toV (CV.monoE h (fun m56 h y57 => ?_)))
      have k58 : mK m56 t = 4 := y57.k k51 (by decide)
      have k59 : mK m56 b5 = 6 := y57.k k52 (by decide)
      have k60 : mK m56 b9 = 7 := y57.k k53 (by decide)
      have k61 : mK m56 b28 = 9 := y57.k k54 (by decide)
      have k62 : mK m56 b45 = 9 := y57.k k55 (by decide)
      exact at_vret rfl (by decide +kernel) h
    · rw [if_neg c38] at h
      refine at_aload_n (i := 1) 1 55 rfl (by decide +kernel) rfl ?_
      refine at_bipush (n := 12) (12 : Int32) 57 rfl (by decide +kernel) (by decide +kernel) ?_
      refine at_aload_n (i := 2) 2 58 rfl (by decide +kernel) rfl ?_
      refine at_get (index := 290) (v := .int (mI m32 b5 0)) cok5 0 61 rfl (by decide +kernel) k35 (by decide +kernel) tw_942 rfl ?_
      refine at_iadd 62 rfl (by decide +kernel) ?_
      refine at_putI (index := 227) cok6 0 65 rfl (by decide +kernel) k36 (by decide +kernel) tw_775 rfl rfl rfl (fun m63 e64 => ?_)
      replace h := h m63 e64
      have k65 : mK m63 t = 4 := by rw [e64]; exact k34
      have k66 : mK m63 b5 = 6 := by rw [e64]; exact k35
      have k67 : mK m63 b9 = 7 := by rw [e64]; exact k36
      have k68 : mK m63 b28 = 9 := by rw [e64]; exact k37
      refine at_aload_n (i := 1) 1 66 rfl (by decide +kernel) rfl ?_
      refine at_null 67 rfl (by decide +kernel) ?_
      refine at_putR (index := 269) cok6 3 70 rfl (by decide +kernel) k67 (by decide +kernel) tw_785 rfl rfl (Or.inl ⟨_, rfl⟩) (fun m69 e70 => ?_)
      replace h := h m69 e70
      have k71 : mK m69 t = 4 := by rw [e70]; exact k65
      have k72 : mK m69 b5 = 6 := by rw [e70]; exact k66
      have k73 : mK m69 b9 = 7 := by rw [e70]; exact k67
      have k74 : mK m69 b28 = 9 := by rw [e70]; exact k68
      refine at_aload_n (i := 1) 1 71 rfl (by decide +kernel) rfl ?_
      refine at_null 72 rfl (by decide +kernel) ?_
      refine at_putR (index := 296) cok6 4 75 rfl (by decide +kernel) k73 (by decide +kernel) tw_789 rfl rfl (Or.inl ⟨_, rfl⟩) (fun m75 e76 => ?_)
      replace h := h m75 e76
      have k77 : mK m75 t = 4 := by rw [e76]; exact k71
      have k78 : mK m75 b5 = 6 := by rw [e76]; exact k72
      have k79 : mK m75 b9 = 7 := by rw [e76]; exact k73
      have k80 : mK m75 b28 = 9 := by rw [e76]; exact k74
      exact at_vret rfl (by decide +kernel) h
