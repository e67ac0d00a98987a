set_option maxRecDepth 20000 in
set_option maxHeartbeats 4000000 in
theorem en_SL_init (g : Gc) {lv : Nat} {t : Nat} {m : Mm} {Q : Mm → Prop} (h : mK m (gz g + mC m) = 0 ∧ (∀ q2 m3, q2 = gz g + mC m → m3 = nw m q2 11 0 7 → (CV g M_Terms_init lv [va_rf (some q2)] m3 (fun m8 => (mK m8 t = 12 ∧ (mR m8 t 0 = none ∧ (∀ m13, m13 = sR m8 t 0 (some q2) → (mK m13 (gz g + mC m13) = 0 ∧ (∀ q20 m21, q20 = gz g + mC m13 → m21 = nw m13 q20 4 0 14 → (CV g M_Land_init lv [va_rf (some q20), va_rf (some q2)] m21 (fun m29 => (mR m29 t 1 = none ∧ (∀ m36, m36 = sR m29 t 1 (some q20) → (mK m36 (gz g + mC m36) = 0 ∧ (∀ q45 m46, q45 = gz g + mC m36 → m46 = nw m36 q45 4 0 14 → (CV g M_Land_init lv [va_rf (some q45), va_rf (some q2)] m46 (fun m56 => (mR m56 t 2 = none ∧ (∀ m65, m65 = sR m56 t 2 (some q45) → (mK m65 (gz g + mC m65) = 0 ∧ (∀ q76 m77, q76 = gz g + mC m65 → m77 = nw m65 q76 10 0 9 → (CV g M_Tape_init lv [va_rf (some q76)] m77 (fun m89 => (mR m89 t 3 = none ∧ (∀ m100, m100 = sR m89 t 3 (some q76) → (mK m100 (gz g + mC m100) = 0 ∧ (∀ q113 m114, q113 = gz g + mC m100 → m114 = nw m100 q113 5 0 7 → (CV g M_Law_init lv [va_rf (some q113), .int ((12 : Int32)), .int ((300 : Int32))] m114 (fun m128 => (mR m128 t 4 = none ∧ (∀ m141, m141 = sR m128 t 4 (some q113) → (mK m141 (gz g + mC m141) = 0 ∧ (∀ q156 m157, q156 = gz g + mC m141 → m157 = nw m141 q156 20 ((30 : Int32).toNatClampNeg) ((30 : Int32).toNatClampNeg) → (mR m157 t 5 = none ∧ (∀ m174, m174 = sR m157 t 5 (some q156) → (mK m174 (gz g + mC m174) = 0 ∧ (∀ q191 m192, q191 = gz g + mC m174 → m192 = nw m174 q191 8 0 3 → (CV g M_Rows_init lv [va_rf (some q191)] m192 (fun m210 => (mR m210 t 6 = none ∧ (∀ m227, m227 = sR m210 t 6 (some q191) → (CR g M_SL_countSets lv [] m227 (fun x245 m246 => (mR m246 t 7 = none ∧ (∀ m264, m264 = sR m246 t 7 x245 → (Q m264)))))))))))))))))))))))))))))))))))))))))))))) : CV g M_SL_init (lv + 1) [va_rf (some t)] m Q := by
  refine Call.of (by decide +kernel) (Nat.le_of_ble_eq_true rfl) ?_
  show At g M_SL_init (lv + 1) 0 [(0, va_rf (some t))] [] m (QV Q)
  refine at_aload_n (i := 0) 0 1 rfl (by decide +kernel) rfl ?_
  refine at_objInit 4 rfl (by decide +kernel) tw_90 tw_91 tw_92 (by decide) ?_
  refine at_aload_n (i := 0) 0 5 rfl (by decide +kernel) rfl ?_
  obtain ⟨z1, h⟩ := h
  refine at_new (index := 7) cok10 8 rfl z1 (by decide +kernel) tw_93 tw_94 tw_66 (fun q2 m3 e4 e5 => ?_)
  replace h := h q2 m3 e4 e5
  have x6 : Ext m m3 := by rw [e5, e4]; exact Ext.nw z1 _ _ _
  have k7 : mK m3 q2 = 11 := by rw [e5]; exact if_pos rfl
  refine at_dup 9 rfl (by decide +kernel) (va_rf_cat _) ?_
  refine at_callIN mb_Terms_init tw_96 rfl rfl (index := 9) (host := "SurplusLand") (by decide +kernel) [] [va_rf (some q2), va_rf (some t)] rfl rfl (by simp [va_rf_cat, cat_int, cat_long]) 12 rfl (by decide +kernel) (Call.toV (CV.monoE h (fun m8 h y9 => ?_)))
  have k10 : mK m8 q2 = 11 := y9.k k7 (by decide)
  obtain ⟨k11, h⟩ := h
  obtain ⟨n12, h⟩ := h
  refine at_putRF (index := 10) cok11 0 15 rfl (by decide +kernel) k11 n12 (by decide +kernel) tw_440 rfl rfl rfl rfl (Or.inl ⟨_, rfl⟩) (fun m13 e14 => ?_)
  replace h := h m13 e14
  have x15 : Ext m8 m13 := by rw [e14]; exact Ext.sR _ (Or.inr n12)
  have k16 : mK m13 q2 = 11 := x15.k k10 (by decide)
  have k17 : mK m13 t = 12 := x15.k k11 (by decide)
  have e18 : mR m13 t 0 = some q2 := by rw [e14]; simp [mR, sR, up2]
  refine at_aload_n (i := 0) 0 16 rfl (by decide +kernel) rfl ?_
  obtain ⟨z19, h⟩ := h
  refine at_new (index := 16) cok3 19 rfl z19 (by decide +kernel) tw_133 tw_134 tw_67 (fun q20 m21 e22 e23 => ?_)
  replace h := h q20 m21 e22 e23
  have x24 : Ext m13 m21 := by rw [e23, e22]; exact Ext.nw z19 _ _ _
  have k25 : mK m21 q2 = 11 := x24.k k16 (by decide)
  have k26 : mK m21 t = 12 := x24.k k17 (by decide)
  have e27 : mR m21 t 0 = some q2 := x24.r k17 (by decide) rfl e18
  have k28 : mK m21 q20 = 4 := by rw [e23]; exact if_pos rfl
  refine at_dup 20 rfl (by decide +kernel) (va_rf_cat _) ?_
  refine at_aload_n (i := 0) 0 21 rfl (by decide +kernel) rfl ?_
  refine at_get (index := 10) (v := va_rf (mR m21 t 0)) cok11 0 24 rfl (by decide +kernel) k26 (by decide +kernel) tw_440 rfl ?_
  rw [e27]
  refine at_callI mb_Land_init tw_136 rfl rfl (index := 18) tw_135 [va_rf (some q2)] [va_rf (some q20), va_rf (some t)] rfl rfl (by simp [va_rf_cat, cat_int, cat_long]) 27 rfl (by decide +kernel) (Call.toV (CV.monoE h (fun m29 h y30 => ?_)))
  have k31 : mK m29 q2 = 11 := y30.k k25 (by decide)
  have k32 : mK m29 t = 12 := y30.k k26 (by decide)
  have k33 : mK m29 q20 = 4 := y30.k k28 (by decide)
  have e34 : mR m29 t 0 = some q2 := y30.r k26 (by decide) rfl e27
  obtain ⟨n35, h⟩ := h
  refine at_putRF (index := 21) cok11 1 30 rfl (by decide +kernel) k32 n35 (by decide +kernel) tw_441 rfl rfl rfl rfl (Or.inl ⟨_, rfl⟩) (fun m36 e37 => ?_)
  replace h := h m36 e37
  have x38 : Ext m29 m36 := by rw [e37]; exact Ext.sR _ (Or.inr n35)
  have k39 : mK m36 q2 = 11 := x38.k k31 (by decide)
  have k40 : mK m36 t = 12 := x38.k k32 (by decide)
  have k41 : mK m36 q20 = 4 := x38.k k33 (by decide)
  have e42 : mR m36 t 0 = some q2 := x38.r k32 (by decide) rfl e34
  have e43 : mR m36 t 1 = some q20 := by rw [e37]; simp [mR, sR, up2]
  refine at_aload_n (i := 0) 0 31 rfl (by decide +kernel) rfl ?_
  obtain ⟨z44, h⟩ := h
  refine at_new (index := 16) cok3 34 rfl z44 (by decide +kernel) tw_133 tw_134 tw_67 (fun q45 m46 e47 e48 => ?_)
  replace h := h q45 m46 e47 e48
  have x49 : Ext m36 m46 := by rw [e48, e47]; exact Ext.nw z44 _ _ _
  have k50 : mK m46 q2 = 11 := x49.k k39 (by decide)
  have k51 : mK m46 t = 12 := x49.k k40 (by decide)
  have k52 : mK m46 q20 = 4 := x49.k k41 (by decide)
  have e53 : mR m46 t 0 = some q2 := x49.r k40 (by decide) rfl e42
  have e54 : mR m46 t 1 = some q20 := x49.r k40 (by decide) rfl e43
  have k55 : mK m46 q45 = 4 := by rw [e48]; exact if_pos rfl
  refine at_dup 35 rfl (by decide +kernel) (va_rf_cat _) ?_
  refine at_aload_n (i := 0) 0 36 rfl (by decide +kernel) rfl ?_
  refine at_get (index := 10) (v := va_rf (mR m46 t 0)) cok11 0 39 rfl (by decide +kernel) k51 (by decide +kernel) tw_440 rfl ?_
  rw [e53]
  refine at_callI mb_Land_init tw_136 rfl rfl (index := 18) tw_135 [va_rf (some q2)] [va_rf (some q45), va_rf (some t)] rfl rfl (by simp [va_rf_cat, cat_int, cat_long]) 42 rfl (by decide +kernel) (Call.toV (CV.monoE h (fun m56 h y57 => ?_)))
  have k58 : mK m56 q2 = 11 := y57.k k50 (by decide)
  have k59 : mK m56 t = 12 := y57.k k51 (by decide)
  have k60 : mK m56 q20 = 4 := y57.k k52 (by decide)
  have k61 : mK m56 q45 = 4 := y57.k k55 (by decide)
  have e62 : mR m56 t 0 = some q2 := y57.r k51 (by decide) rfl e53
  have e63 : mR m56 t 1 = some q20 := y57.r k51 (by decide) rfl e54
  obtain ⟨n64, h⟩ := h
  refine at_putRF (index := 25) cok11 2 45 rfl (by decide +kernel) k59 n64 (by decide +kernel) tw_442 rfl rfl rfl rfl (Or.inl ⟨_, rfl⟩) (fun m65 e66 => ?_)
  replace h := h m65 e66
  have x67 : Ext m56 m65 := by rw [e66]; exact Ext.sR _ (Or.inr n64)
  have k68 : mK m65 q2 = 11 := x67.k k58 (by decide)
  have k69 : mK m65 t = 12 := x67.k k59 (by decide)
  have k70 : mK m65 q20 = 4 := x67.k k60 (by decide)
  have k71 : mK m65 q45 = 4 := x67.k k61 (by decide)
  have e72 : mR m65 t 0 = some q2 := x67.r k59 (by decide) rfl e62
  have e73 : mR m65 t 1 = some q20 := x67.r k59 (by decide) rfl e63
  have e74 : mR m65 t 2 = some q45 := by rw [e66]; simp [mR, sR, up2]
  refine at_aload_n (i := 0) 0 46 rfl (by decide +kernel) rfl ?_
  obtain ⟨z75, h⟩ := h
  refine at_new (index := 28) cok9 49 rfl z75 (by decide +kernel) tw_338 tw_339 tw_72 (fun q76 m77 e78 e79 => ?_)
  replace h := h q76 m77 e78 e79
  have x80 : Ext m65 m77 := by rw [e79, e78]; exact Ext.nw z75 _ _ _
  have k81 : mK m77 q2 = 11 := x80.k k68 (by decide)
  have k82 : mK m77 t = 12 := x80.k k69 (by decide)
  have k83 : mK m77 q20 = 4 := x80.k k70 (by decide)
  have k84 : mK m77 q45 = 4 := x80.k k71 (by decide)
  have e85 : mR m77 t 0 = some q2 := x80.r k69 (by decide) rfl e72
  have e86 : mR m77 t 1 = some q20 := x80.r k69 (by decide) rfl e73
  have e87 : mR m77 t 2 = some q45 := x80.r k69 (by decide) rfl e74
  have k88 : mK m77 q76 = 10 := by rw [e79]; exact if_pos rfl
  refine at_dup 50 rfl (by decide +kernel) (va_rf_cat _) ?_
  refine at_callIN mb_Tape_init tw_341 rfl rfl (index := 30) (host := "SurplusLand") (by decide +kernel) [] [va_rf (some q76), va_rf (some t)] rfl rfl (by simp [va_rf_cat, cat_int, cat_long]) 53 rfl (by decide +kernel) (Call.toV (CV.monoE h (fun m89 h y90 => ?_)))
  have k91 : mK m89 q2 = 11 := y90.k k81 (by decide)
  have k92 : mK m89 t = 12 := y90.k k82 (by decide)
  have k93 : mK m89 q20 = 4 := y90.k k83 (by decide)
  have k94 : mK m89 q45 = 4 := y90.k k84 (by decide)
  have k95 : mK m89 q76 = 10 := y90.k k88 (by decide)
  have e96 : mR m89 t 0 = some q2 := y90.r k82 (by decide) rfl e85
  have e97 : mR m89 t 1 = some q20 := y90.r k82 (by decide) rfl e86
  have e98 : mR m89 t 2 = some q45 := y90.r k82 (by decide) rfl e87
  obtain ⟨n99, h⟩ := h
  refine at_putRF (index := 31) cok11 3 56 rfl (by decide +kernel) k92 n99 (by decide +kernel) tw_443 rfl rfl rfl rfl (Or.inl ⟨_, rfl⟩) (fun m100 e101 => ?_)
  replace h := h m100 e101
  have x102 : Ext m89 m100 := by rw [e101]; exact Ext.sR _ (Or.inr n99)
  have k103 : mK m100 q2 = 11 := x102.k k91 (by decide)
  have k104 : mK m100 t = 12 := x102.k k92 (by decide)
  have k105 : mK m100 q20 = 4 := x102.k k93 (by decide)
  have k106 : mK m100 q45 = 4 := x102.k k94 (by decide)
  have k107 : mK m100 q76 = 10 := x102.k k95 (by decide)
  have e108 : mR m100 t 0 = some q2 := x102.r k92 (by decide) rfl e96
  have e109 : mR m100 t 1 = some q20 := x102.r k92 (by decide) rfl e97
  have e110 : mR m100 t 2 = some q45 := x102.r k92 (by decide) rfl e98
  have e111 : mR m100 t 3 = some q76 := by rw [e101]; simp [mR, sR, up2]
  refine at_aload_n (i := 0) 0 57 rfl (by decide +kernel) rfl ?_
  obtain ⟨z112, h⟩ := h
  refine at_new (index := 35) cok4 60 rfl z112 (by decide +kernel) tw_375 tw_376 tw_73 (fun q113 m114 e115 e116 => ?_)
  replace h := h q113 m114 e115 e116
  have x117 : Ext m100 m114 := by rw [e116, e115]; exact Ext.nw z112 _ _ _
  have k118 : mK m114 q2 = 11 := x117.k k103 (by decide)
  have k119 : mK m114 t = 12 := x117.k k104 (by decide)
  have k120 : mK m114 q20 = 4 := x117.k k105 (by decide)
  have k121 : mK m114 q45 = 4 := x117.k k106 (by decide)
  have k122 : mK m114 q76 = 10 := x117.k k107 (by decide)
  have e123 : mR m114 t 0 = some q2 := x117.r k104 (by decide) rfl e108
  have e124 : mR m114 t 1 = some q20 := x117.r k104 (by decide) rfl e109
  have e125 : mR m114 t 2 = some q45 := x117.r k104 (by decide) rfl e110
  have e126 : mR m114 t 3 = some q76 := x117.r k104 (by decide) rfl e111
  have k127 : mK m114 q113 = 5 := by rw [e116]; exact if_pos rfl
  refine at_dup 61 rfl (by decide +kernel) (va_rf_cat _) ?_
  refine at_bipush (n := 12) (12 : Int32) 63 rfl (by decide +kernel) (by decide +kernel) ?_
  refine at_sipush (n := 300) (300 : Int32) 66 rfl (by decide +kernel) (by decide +kernel) ?_
  refine at_callI mb_Law_init tw_378 rfl rfl (index := 37) tw_377 [.int ((12 : Int32)), .int ((300 : Int32))] [va_rf (some q113), va_rf (some t)] rfl rfl (by simp [va_rf_cat, cat_int, cat_long]) 69 rfl (by decide +kernel) (Call.toV (CV.monoE h (fun m128 h y129 => ?_)))
  have k130 : mK m128 q2 = 11 := y129.k k118 (by decide)
  have k131 : mK m128 t = 12 := y129.k k119 (by decide)
  have k132 : mK m128 q20 = 4 := y129.k k120 (by decide)
  have k133 : mK m128 q45 = 4 := y129.k k121 (by decide)
  have k134 : mK m128 q76 = 10 := y129.k k122 (by decide)
  have k135 : mK m128 q113 = 5 := y129.k k127 (by decide)
  have e136 : mR m128 t 0 = some q2 := y129.r k119 (by decide) rfl e123
  have e137 : mR m128 t 1 = some q20 := y129.r k119 (by decide) rfl e124
  have e138 : mR m128 t 2 = some q45 := y129.r k119 (by decide) rfl e125
  have e139 : mR m128 t 3 = some q76 := y129.r k119 (by decide) rfl e126
  obtain ⟨n140, h⟩ := h
  refine at_putRF (index := 40) cok11 4 72 rfl (by decide +kernel) k131 n140 (by decide +kernel) tw_444 rfl rfl rfl rfl (Or.inl ⟨_, rfl⟩) (fun m141 e142 => ?_)
  replace h := h m141 e142
  have x143 : Ext m128 m141 := by rw [e142]; exact Ext.sR _ (Or.inr n140)
  have k144 : mK m141 q2 = 11 := x143.k k130 (by decide)
  have k145 : mK m141 t = 12 := x143.k k131 (by decide)
  have k146 : mK m141 q20 = 4 := x143.k k132 (by decide)
  have k147 : mK m141 q45 = 4 := x143.k k133 (by decide)
  have k148 : mK m141 q76 = 10 := x143.k k134 (by decide)
  have k149 : mK m141 q113 = 5 := x143.k k135 (by decide)
  have e150 : mR m141 t 0 = some q2 := x143.r k131 (by decide) rfl e136
  have e151 : mR m141 t 1 = some q20 := x143.r k131 (by decide) rfl e137
  have e152 : mR m141 t 2 = some q45 := x143.r k131 (by decide) rfl e138
  have e153 : mR m141 t 3 = some q76 := x143.r k131 (by decide) rfl e139
  have e154 : mR m141 t 4 = some q113 := by rw [e142]; simp [mR, sR, up2]
  refine at_aload_n (i := 0) 0 73 rfl (by decide +kernel) rfl ?_
  refine at_bipush (n := 30) (30 : Int32) 75 rfl (by decide +kernel) (by decide +kernel) ?_
  obtain ⟨z155, h⟩ := h
  refine at_anewLaw (index := 35) 78 rfl z155 (by decide +kernel) tw_375 (by decide +kernel) (by decide +kernel) (fun q156 m157 e158 e159 => ?_)
  replace h := h q156 m157 e158 e159
  have x160 : Ext m141 m157 := by rw [e159, e158]; exact Ext.nw z155 _ _ _
  have k161 : mK m157 q2 = 11 := x160.k k144 (by decide)
  have k162 : mK m157 t = 12 := x160.k k145 (by decide)
  have k163 : mK m157 q20 = 4 := x160.k k146 (by decide)
  have k164 : mK m157 q45 = 4 := x160.k k147 (by decide)
  have k165 : mK m157 q76 = 10 := x160.k k148 (by decide)
  have k166 : mK m157 q113 = 5 := x160.k k149 (by decide)
  have e167 : mR m157 t 0 = some q2 := x160.r k145 (by decide) rfl e150
  have e168 : mR m157 t 1 = some q20 := x160.r k145 (by decide) rfl e151
  have e169 : mR m157 t 2 = some q45 := x160.r k145 (by decide) rfl e152
  have e170 : mR m157 t 3 = some q76 := x160.r k145 (by decide) rfl e153
  have e171 : mR m157 t 4 = some q113 := x160.r k145 (by decide) rfl e154
  have k172 : mK m157 q156 = 20 := by rw [e159]; exact if_pos rfl
  obtain ⟨n173, h⟩ := h
  refine at_putRF (index := 44) cok11 5 81 rfl (by decide +kernel) k162 n173 (by decide +kernel) tw_445 rfl rfl rfl rfl (Or.inr ⟨_, rfl⟩) (fun m174 e175 => ?_)
  replace h := h m174 e175
  have x176 : Ext m157 m174 := by rw [e175]; exact Ext.sR _ (Or.inr n173)
  have k177 : mK m174 q2 = 11 := x176.k k161 (by decide)
  have k178 : mK m174 t = 12 := x176.k k162 (by decide)
  have k179 : mK m174 q20 = 4 := x176.k k163 (by decide)
  have k180 : mK m174 q45 = 4 := x176.k k164 (by decide)
  have k181 : mK m174 q76 = 10 := x176.k k165 (by decide)
  have k182 : mK m174 q113 = 5 := x176.k k166 (by decide)
  have k183 : mK m174 q156 = 20 := x176.k k172 (by decide)
  have e184 : mR m174 t 0 = some q2 := x176.r k162 (by decide) rfl e167
  have e185 : mR m174 t 1 = some q20 := x176.r k162 (by decide) rfl e168
  have e186 : mR m174 t 2 = some q45 := x176.r k162 (by decide) rfl e169
  have e187 : mR m174 t 3 = some q76 := x176.r k162 (by decide) rfl e170
  have e188 : mR m174 t 4 = some q113 := x176.r k162 (by decide) rfl e171
  have e189 : mR m174 t 5 = some q156 := by rw [e175]; simp [mR, sR, up2]
  refine at_aload_n (i := 0) 0 82 rfl (by decide +kernel) rfl ?_
  obtain ⟨z190, h⟩ := h
  refine at_new (index := 48) cok7 85 rfl z190 (by decide +kernel) tw_416 tw_417 tw_75 (fun q191 m192 e193 e194 => ?_)
  replace h := h q191 m192 e193 e194
  have x195 : Ext m174 m192 := by rw [e194, e193]; exact Ext.nw z190 _ _ _
  have k196 : mK m192 q2 = 11 := x195.k k177 (by decide)
  have k197 : mK m192 t = 12 := x195.k k178 (by decide)
  have k198 : mK m192 q20 = 4 := x195.k k179 (by decide)
  have k199 : mK m192 q45 = 4 := x195.k k180 (by decide)
  have k200 : mK m192 q76 = 10 := x195.k k181 (by decide)
  have k201 : mK m192 q113 = 5 := x195.k k182 (by decide)
  have k202 : mK m192 q156 = 20 := x195.k k183 (by decide)
  have e203 : mR m192 t 0 = some q2 := x195.r k178 (by decide) rfl e184
  have e204 : mR m192 t 1 = some q20 := x195.r k178 (by decide) rfl e185
  have e205 : mR m192 t 2 = some q45 := x195.r k178 (by decide) rfl e186
  have e206 : mR m192 t 3 = some q76 := x195.r k178 (by decide) rfl e187
  have e207 : mR m192 t 4 = some q113 := x195.r k178 (by decide) rfl e188
  have e208 : mR m192 t 5 = some q156 := x195.r k178 (by decide) rfl e189
  have k209 : mK m192 q191 = 8 := by rw [e194]; exact if_pos rfl
  refine at_dup 86 rfl (by decide +kernel) (va_rf_cat _) ?_
  refine at_callI mb_Rows_init tw_419 rfl rfl (index := 50) tw_418 [] [va_rf (some q191), va_rf (some t)] rfl rfl (by simp [va_rf_cat, cat_int, cat_long]) 89 rfl (by decide +kernel) (Call.toV (CV.monoE h (fun m210 h y211 => ?_)))
  have k212 : mK m210 q2 = 11 := y211.k k196 (by decide)
  have k213 : mK m210 t = 12 := y211.k k197 (by decide)
  have k214 : mK m210 q20 = 4 := y211.k k198 (by decide)
  have k215 : mK m210 q45 = 4 := y211.k k199 (by decide)
  have k216 : mK m210 q76 = 10 := y211.k k200 (by decide)
  have k217 : mK m210 q113 = 5 := y211.k k201 (by decide)
  have k218 : mK m210 q156 = 20 := y211.k k202 (by decide)
  have k219 : mK m210 q191 = 8 := y211.k k209 (by decide)
  have e220 : mR m210 t 0 = some q2 := y211.r k197 (by decide) rfl e203
  have e221 : mR m210 t 1 = some q20 := y211.r k197 (by decide) rfl e204
  have e222 : mR m210 t 2 = some q45 := y211.r k197 (by decide) rfl e205
  have e223 : mR m210 t 3 = some q76 := y211.r k197 (by decide) rfl e206
  have e224 : mR m210 t 4 = some q113 := y211.r k197 (by decide) rfl e207
  have e225 : mR m210 t 5 = some q156 := y211.r k197 (by decide) rfl e208
  obtain ⟨n226, h⟩ := h
  refine at_putRF (index := 51) cok11 6 92 rfl (by decide +kernel) k213 n226 (by decide +kernel) tw_446 rfl rfl rfl rfl (Or.inl ⟨_, rfl⟩) (fun m227 e228 => ?_)
  replace h := h m227 e228
  have x229 : Ext m210 m227 := by rw [e228]; exact Ext.sR _ (Or.inr n226)
  have k230 : mK m227 q2 = 11 := x229.k k212 (by decide)
  have k231 : mK m227 t = 12 := x229.k k213 (by decide)
  have k232 : mK m227 q20 = 4 := x229.k k214 (by decide)
  have k233 : mK m227 q45 = 4 := x229.k k215 (by decide)
  have k234 : mK m227 q76 = 10 := x229.k k216 (by decide)
  have k235 : mK m227 q113 = 5 := x229.k k217 (by decide)
  have k236 : mK m227 q156 = 20 := x229.k k218 (by decide)
  have k237 : mK m227 q191 = 8 := x229.k k219 (by decide)
  have e238 : mR m227 t 0 = some q2 := x229.r k213 (by decide) rfl e220
  have e239 : mR m227 t 1 = some q20 := x229.r k213 (by decide) rfl e221
  have e240 : mR m227 t 2 = some q45 := x229.r k213 (by decide) rfl e222
  have e241 : mR m227 t 3 = some q76 := x229.r k213 (by decide) rfl e223
  have e242 : mR m227 t 4 = some q113 := x229.r k213 (by decide) rfl e224
  have e243 : mR m227 t 5 = some q156 := x229.r k213 (by decide) rfl e225
  have e244 : mR m227 t 6 = some q191 := by rw [e228]; simp [mR, sR, up2]
  refine at_aload_n (i := 0) 0 93 rfl (by decide +kernel) rfl ?_
  refine at_callS mb_SL_countSets tw_438 (index := 55) tw_437 [] [va_rf (some t)] rfl rfl (by simp [va_rf_cat, cat_int, cat_long]) 96 rfl (by decide +kernel) (Call.toR (CR.monoE h (fun x245 m246 h y247 => ?_)))
  have k248 : mK m246 q2 = 11 := y247.k k230 (by decide)
  have k249 : mK m246 t = 12 := y247.k k231 (by decide)
  have k250 : mK m246 q20 = 4 := y247.k k232 (by decide)
  have k251 : mK m246 q45 = 4 := y247.k k233 (by decide)
  have k252 : mK m246 q76 = 10 := y247.k k234 (by decide)
  have k253 : mK m246 q113 = 5 := y247.k k235 (by decide)
  have k254 : mK m246 q156 = 20 := y247.k k236 (by decide)
  have k255 : mK m246 q191 = 8 := y247.k k237 (by decide)
  have e256 : mR m246 t 0 = some q2 := y247.r k231 (by decide) rfl e238
  have e257 : mR m246 t 1 = some q20 := y247.r k231 (by decide) rfl e239
  have e258 : mR m246 t 2 = some q45 := y247.r k231 (by decide) rfl e240
  have e259 : mR m246 t 3 = some q76 := y247.r k231 (by decide) rfl e241
  have e260 : mR m246 t 4 = some q113 := y247.r k231 (by decide) rfl e242
  have e261 : mR m246 t 5 = some q156 := y247.r k231 (by decide) rfl e243
  have e262 : mR m246 t 6 = some q191 := y247.r k231 (by decide) rfl e244
  obtain ⟨n263, h⟩ := h
  refine at_putRF (index := 59) cok11 7 99 rfl (by decide +kernel) k249 n263 (by decide +kernel) tw_447 rfl rfl rfl rfl (Or.inr ⟨_, rfl⟩) (fun m264 e265 => ?_)
  replace h := h m264 e265
  have x266 : Ext m246 m264 := by rw [e265]; exact Ext.sR _ (Or.inr n263)
  have k267 : mK m264 q2 = 11 := x266.k k248 (by decide)
  have k268 : mK m264 t = 12 := x266.k k249 (by decide)
  have k269 : mK m264 q20 = 4 := x266.k k250 (by decide)
  have k270 : mK m264 q45 = 4 := x266.k k251 (by decide)
  have k271 : mK m264 q76 = 10 := x266.k k252 (by decide)
  have k272 : mK m264 q113 = 5 := x266.k k253 (by decide)
  have k273 : mK m264 q156 = 20 := x266.k k254 (by decide)
  have k274 : mK m264 q191 = 8 := x266.k k255 (by decide)
  have e275 : mR m264 t 0 = some q2 := x266.r k249 (by decide) rfl e256
  have e276 : mR m264 t 1 = some q20 := x266.r k249 (by decide) rfl e257
  have e277 : mR m264 t 2 = some q45 := x266.r k249 (by decide) rfl e258
  have e278 : mR m264 t 3 = some q76 := x266.r k249 (by decide) rfl e259
  have e279 : mR m264 t 4 = some q113 := x266.r k249 (by decide) rfl e260
  have e280 : mR m264 t 5 = some q156 := x266.r k249 (by decide) rfl e261
  have e281 : mR m264 t 6 = some q191 := x266.r k249 (by decide) rfl e262
  exact at_vret rfl (by decide +kernel) h
set_option maxRecDepth 20000 in
set_option maxHeartbeats 4000000 in
theorem bk_SL_terms_89 (g : Gc) {lv : Nat} {t : Nat} {l1 : Int32} {l2 : Int32} {l3 : Int32} {l4 : Int32} {l5 : Int32} {l6 : Int32} {l7 : Int32} {l8 : Int32} {s0 : Int32} {m : Mm} {Q : Int32 → Mm → Prop} (h : if (l8) = 0 then (Q (-2 : Int32) m) else (if (s0) = 0 then (Q (-2 : Int32) m) else (mK m t = 12 ∧ (∃ b4, mR m t 0 = some b4 ∧ (mK m b4 = 11 ∧ (∀ m7, m7 = sI m b4 0 l1 → (∀ m13, m13 = sI m7 b4 1 l2 → (∀ m19, m19 = sI m13 b4 2 l3 → (∀ m25, m25 = sI m19 b4 3 l4 → (∀ m31, m31 = sI m25 b4 4 l5 → (∀ m37, m37 = sI m31 b4 5 l6 → (∀ m43, m43 = sI m37 b4 6 l7 → (Q (0 : Int32) m43))))))))))))) : At g M_SL_terms (lv + 1) 89 [(0, va_rf (some t)), (1, .int (l1)), (2, .int (l2)), (3, .int (l3)), (4, .int (l4)), (5, .int (l5)), (6, .int (l6)), (7, .int (l7)), (8, .int (l8))] [.int (s0)] m (QI Q) := by
  refine at_istore (i := 9) (lc' := [(0, va_rf (some t)), (1, .int (l1)), (2, .int (l2)), (3, .int (l3)), (4, .int (l4)), (5, .int (l5)), (6, .int (l6)), (7, .int (l7)), (8, .int (l8)), (9, .int (s0))]) [1, 2, 3, 4, 5, 6, 7, 8, 9, 0] 91 rfl (by decide +kernel) (by decide +kernel) rfl ?_
  refine at_iload (i := 8) 8 93 rfl (by decide +kernel) rfl ?_
  refine at_if_eq (off := 8) 101 96 rfl (by decide +kernel) (by decide +kernel) (fun c1 => ?_) (fun c1 => ?_)
  · rw [if_pos c1] at h
    refine at_bipush (n := (-2)) (-2 : Int32) 103 rfl (by decide +kernel) (by decide +kernel) ?_
    exact at_iret rfl (by decide +kernel) h
  · rw [if_neg c1] at h
    refine at_iload (i := 9) 9 98 rfl (by decide +kernel) rfl ?_
    refine at_if_ne (off := 6) 104 101 rfl (by decide +kernel) (by decide +kernel) (fun c2 => ?_) (fun c2 => ?_)
    · rw [if_neg c2] at h
      refine at_aload_n (i := 0) 0 105 rfl (by decide +kernel) rfl ?_
      obtain ⟨k3, h⟩ := h
      refine at_get (index := 10) (v := va_rf (mR m t 0)) cok11 0 108 rfl (by decide +kernel) k3 (by decide +kernel) tw_440 rfl ?_
      obtain ⟨b4, e5, h⟩ := h
      rw [e5]
      refine at_iload_n (i := 1) 1 109 rfl (by decide +kernel) rfl ?_
      obtain ⟨k6, h⟩ := h
      refine at_putI (index := 69) cok10 0 112 rfl (by decide +kernel) k6 (by decide +kernel) tw_100 rfl rfl rfl (fun m7 e8 => ?_)
      replace h := h m7 e8
      have x9 : Ext m m7 := by rw [e8]; exact Ext.sI _ _ _ _
      have k10 : mK m7 t = 12 := x9.k k3 (by decide)
      have k11 : mK m7 b4 = 11 := x9.k k6 (by decide)
      have e12 : mR m7 t 0 = some b4 := x9.r k3 (by decide) rfl e5
      refine at_aload_n (i := 0) 0 113 rfl (by decide +kernel) rfl ?_
      refine at_get (index := 10) (v := va_rf (mR m7 t 0)) cok11 0 116 rfl (by decide +kernel) k10 (by decide +kernel) tw_440 rfl ?_
      rw [e12]
      refine at_iload_n (i := 2) 2 117 rfl (by decide +kernel) rfl ?_
      refine at_putI (index := 73) cok10 1 120 rfl (by decide +kernel) k11 (by decide +kernel) tw_102 rfl rfl rfl (fun m13 e14 => ?_)
      replace h := h m13 e14
      have x15 : Ext m7 m13 := by rw [e14]; exact Ext.sI _ _ _ _
      have k16 : mK m13 t = 12 := x15.k k10 (by decide)
      have k17 : mK m13 b4 = 11 := x15.k k11 (by decide)
      have e18 : mR m13 t 0 = some b4 := x15.r k10 (by decide) rfl e12
      refine at_aload_n (i := 0) 0 121 rfl (by decide +kernel) rfl ?_
      refine at_get (index := 10) (v := va_rf (mR m13 t 0)) cok11 0 124 rfl (by decide +kernel) k16 (by decide +kernel) tw_440 rfl ?_
      rw [e18]
      refine at_iload_n (i := 3) 3 125 rfl (by decide +kernel) rfl ?_
      refine at_putI (index := 76) cok10 2 128 rfl (by decide +kernel) k17 (by decide +kernel) tw_104 rfl rfl rfl (fun m19 e20 => ?_)
      replace h := h m19 e20
      have x21 : Ext m13 m19 := by rw [e20]; exact Ext.sI _ _ _ _
      have k22 : mK m19 t = 12 := x21.k k16 (by decide)
      have k23 : mK m19 b4 = 11 := x21.k k17 (by decide)
      have e24 : mR m19 t 0 = some b4 := x21.r k16 (by decide) rfl e18
      refine at_aload_n (i := 0) 0 129 rfl (by decide +kernel) rfl ?_
      refine at_get (index := 10) (v := va_rf (mR m19 t 0)) cok11 0 132 rfl (by decide +kernel) k22 (by decide +kernel) tw_440 rfl ?_
      rw [e24]
      refine at_iload (i := 4) 4 134 rfl (by decide +kernel) rfl ?_
      refine at_putI (index := 79) cok10 3 137 rfl (by decide +kernel) k23 (by decide +kernel) tw_107 rfl rfl rfl (fun m25 e26 => ?_)
      replace h := h m25 e26
      have x27 : Ext m19 m25 := by rw [e26]; exact Ext.sI _ _ _ _
      have k28 : mK m25 t = 12 := x27.k k22 (by decide)
      have k29 : mK m25 b4 = 11 := x27.k k23 (by decide)
      have e30 : mR m25 t 0 = some b4 := x27.r k22 (by decide) rfl e24
      refine at_aload_n (i := 0) 0 138 rfl (by decide +kernel) rfl ?_
      refine at_get (index := 10) (v := va_rf (mR m25 t 0)) cok11 0 141 rfl (by decide +kernel) k28 (by decide +kernel) tw_440 rfl ?_
      rw [e30]
      refine at_iload (i := 5) 5 143 rfl (by decide +kernel) rfl ?_
      refine at_putI (index := 82) cok10 4 146 rfl (by decide +kernel) k29 (by decide +kernel) tw_110 rfl rfl rfl (fun m31 e32 => ?_)
      replace h := h m31 e32
      have x33 : Ext m25 m31 := by rw [e32]; exact Ext.sI _ _ _ _
      have k34 : mK m31 t = 12 := x33.k k28 (by decide)
      have k35 : mK m31 b4 = 11 := x33.k k29 (by decide)
      have e36 : mR m31 t 0 = some b4 := x33.r k28 (by decide) rfl e30
      refine at_aload_n (i := 0) 0 147 rfl (by decide +kernel) rfl ?_
      refine at_get (index := 10) (v := va_rf (mR m31 t 0)) cok11 0 150 rfl (by decide +kernel) k34 (by decide +kernel) tw_440 rfl ?_
      rw [e36]
      refine at_iload (i := 6) 6 152 rfl (by decide +kernel) rfl ?_
      refine at_putI (index := 85) cok10 5 155 rfl (by decide +kernel) k35 (by decide +kernel) tw_113 rfl rfl rfl (fun m37 e38 => ?_)
      replace h := h m37 e38
      have x39 : Ext m31 m37 := by rw [e38]; exact Ext.sI _ _ _ _
      have k40 : mK m37 t = 12 := x39.k k34 (by decide)
      have k41 : mK m37 b4 = 11 := x39.k k35 (by decide)
      have e42 : mR m37 t 0 = some b4 := x39.r k34 (by decide) rfl e36
      refine at_aload_n (i := 0) 0 156 rfl (by decide +kernel) rfl ?_
      refine at_get (index := 10) (v := va_rf (mR m37 t 0)) cok11 0 159 rfl (by decide +kernel) k40 (by decide +kernel) tw_440 rfl ?_
      rw [e42]
      refine at_iload (i := 7) 7 161 rfl (by decide +kernel) rfl ?_
      refine at_putI (index := 88) cok10 6 164 rfl (by decide +kernel) k41 (by decide +kernel) tw_116 rfl rfl rfl (fun m43 e44 => ?_)
      replace h := h m43 e44
      have x45 : Ext m37 m43 := by rw [e44]; exact Ext.sI _ _ _ _
      have k46 : mK m43 t = 12 := x45.k k40 (by decide)
      have k47 : mK m43 b4 = 11 := x45.k k41 (by decide)
      have e48 : mR m43 t 0 = some b4 := x45.r k40 (by decide) rfl e42
      refine at_iconst (n := 0) (0 : Int32) 165 rfl (by decide +kernel) (by decide +kernel) ?_
      exact at_iret rfl (by decide +kernel) h
    · rw [if_pos c2] at h
      refine at_bipush (n := (-2)) (-2 : Int32) 103 rfl (by decide +kernel) (by decide +kernel) ?_
      exact at_iret rfl (by decide +kernel) h
set_option maxRecDepth 20000 in
set_option maxHeartbeats 4000000 in
theorem bk_SL_terms_88 (g : Gc) {lv : Nat} {t : Nat} {l1 : Int32} {l2 : Int32} {l3 : Int32} {l4 : Int32} {l5 : Int32} {l6 : Int32} {l7 : Int32} {l8 : Int32} {m : Mm} {Q : Int32 → Mm → Prop} (h : At g M_SL_terms (lv + 1) 89 [(0, va_rf (some t)), (1, .int (l1)), (2, .int (l2)), (3, .int (l3)), (4, .int (l4)), (5, .int (l5)), (6, .int (l6)), (7, .int (l7)), (8, .int (l8))] [.int ((0 : Int32))] m (QI Q)) : At g M_SL_terms (lv + 1) 88 [(0, va_rf (some t)), (1, .int (l1)), (2, .int (l2)), (3, .int (l3)), (4, .int (l4)), (5, .int (l5)), (6, .int (l6)), (7, .int (l7)), (8, .int (l8))] [] m (QI Q) := by
  refine at_iconst (n := 0) (0 : Int32) 89 rfl (by decide +kernel) (by decide +kernel) ?_
  exact h
set_option maxRecDepth 20000 in
set_option maxHeartbeats 4000000 in
theorem bk_SL_terms_36 (g : Gc) {lv : Nat} {t : Nat} {l1 : Int32} {l2 : Int32} {l3 : Int32} {l4 : Int32} {l5 : Int32} {l6 : Int32} {l7 : Int32} {s0 : Int32} {m : Mm} {Q : Int32 → Mm → Prop} (h : CI g M_SL_isWithin lv [.int (l4), .int ((0 : Int32)), .int ((10000000 : Int32))] m (fun x1 m2 => (if (x1) = 0 then (At g M_SL_terms (lv + 1) 88 [(0, va_rf (some t)), (1, .int (l1)), (2, .int (l2)), (3, .int (l3)), (4, .int (l4)), (5, .int (l5)), (6, .int (l6)), (7, .int (l7)), (8, .int (s0))] [] m2 (QI Q)) else (CI g M_SL_isWithin lv [.int (l5), .int ((1 : Int32)), .int ((10000 : Int32))] m2 (fun x5 m6 => (if (x5) = 0 then (At g M_SL_terms (lv + 1) 88 [(0, va_rf (some t)), (1, .int (l1)), (2, .int (l2)), (3, .int (l3)), (4, .int (l4)), (5, .int (l5)), (6, .int (l6)), (7, .int (l7)), (8, .int (s0))] [] m6 (QI Q)) else (CI g M_SL_isWithin lv [.int (l6), .int ((0 : Int32)), .int ((100 : Int32))] m6 (fun x9 m10 => (if (x9) = 0 then (At g M_SL_terms (lv + 1) 88 [(0, va_rf (some t)), (1, .int (l1)), (2, .int (l2)), (3, .int (l3)), (4, .int (l4)), (5, .int (l5)), (6, .int (l6)), (7, .int (l7)), (8, .int (s0))] [] m10 (QI Q)) else (CI g M_SL_isWithin lv [.int (l7), .int ((0 : Int32)), .int ((200 : Int32))] m10 (fun x13 m14 => (if (x13) = 0 then (At g M_SL_terms (lv + 1) 88 [(0, va_rf (some t)), (1, .int (l1)), (2, .int (l2)), (3, .int (l3)), (4, .int (l4)), (5, .int (l5)), (6, .int (l6)), (7, .int (l7)), (8, .int (s0))] [] m14 (QI Q)) else (At g M_SL_terms (lv + 1) 89 [(0, va_rf (some t)), (1, .int (l1)), (2, .int (l2)), (3, .int (l3)), (4, .int (l4)), (5, .int (l5)), (6, .int (l6)), (7, .int (l7)), (8, .int (s0))] [.int ((1 : Int32))] m14 (QI Q)))))))))))))) : At g M_SL_terms (lv + 1) 36 [(0, va_rf (some t)), (1, .int (l1)), (2, .int (l2)), (3, .int (l3)), (4, .int (l4)), (5, .int (l5)), (6, .int (l6)), (7, .int (l7))] [.int (s0)] m (QI Q) := by
  refine at_istore (i := 8) (lc' := [(0, va_rf (some t)), (1, .int (l1)), (2, .int (l2)), (3, .int (l3)), (4, .int (l4)), (5, .int (l5)), (6, .int (l6)), (7, .int (l7)), (8, .int (s0))]) [1, 2, 3, 4, 5, 6, 7, 8, 0] 38 rfl (by decide +kernel) (by decide +kernel) rfl ?_
  refine at_iload (i := 4) 4 40 rfl (by decide +kernel) rfl ?_
  refine at_iconst (n := 0) (0 : Int32) 41 rfl (by decide +kernel) (by decide +kernel) ?_
  refine at_ldc (index := 63) (10000000 : Int32) 43 rfl (by decide +kernel) tw_469 ?_
  refine at_callS mb_SL_isWithin tw_471 (index := 64) tw_470 [.int (l4), .int ((0 : Int32)), .int ((10000000 : Int32))] [] rfl rfl (by decide) 46 rfl (by decide +kernel) (Call.toI (CI.monoE h (fun x1 m2 h y3 => ?_)))
  refine at_if_eq (off := 42) 88 49 rfl (by decide +kernel) (by decide +kernel) (fun c4 => ?_) (fun c4 => ?_)
  · rw [if_pos c4] at h
    exact h
  · rw [if_neg c4] at h
    refine at_iload (i := 5) 5 51 rfl (by decide +kernel) rfl ?_
    refine at_iconst (n := 1) (1 : Int32) 52 rfl (by decide +kernel) (by decide +kernel) ?_
    refine at_sipush (n := 10000) (10000 : Int32) 55 rfl (by decide +kernel) (by decide +kernel) ?_
    refine at_callS mb_SL_isWithin tw_471 (index := 64) tw_470 [.int (l5), .int ((1 : Int32)), .int ((10000 : Int32))] [] rfl rfl (by decide) 58 rfl (by decide +kernel) (Call.toI (CI.monoE h (fun x5 m6 h y7 => ?_)))
    refine at_if_eq (off := 30) 88 61 rfl (by decide +kernel) (by decide +kernel) (fun c8 => ?_) (fun c8 => ?_)
    · rw [if_pos c8] at h
      exact h
    · rw [if_neg c8] at h
      refine at_iload (i := 6) 6 63 rfl (by decide +kernel) rfl ?_
      refine at_iconst (n := 0) (0 : Int32) 64 rfl (by decide +kernel) (by decide +kernel) ?_
      refine at_bipush (n := 100) (100 : Int32) 66 rfl (by decide +kernel) (by decide +kernel) ?_
      refine at_callS mb_SL_isWithin tw_471 (index := 64) tw_470 [.int (l6), .int ((0 : Int32)), .int ((100 : Int32))] [] rfl rfl (by decide) 69 rfl (by decide +kernel) (Call.toI (CI.monoE h (fun x9 m10 h y11 => ?_)))
      refine at_if_eq (off := 19) 88 72 rfl (by decide +kernel) (by decide +kernel) (fun c12 => ?_) (fun c12 => ?_)
      · rw [if_pos c12] at h
        exact h
      · rw [if_neg c12] at h
        refine at_iload (i := 7) 7 74 rfl (by decide +kernel) rfl ?_
        refine at_iconst (n := 0) (0 : Int32) 75 rfl (by decide +kernel) (by decide +kernel) ?_
        refine at_sipush (n := 200) (200 : Int32) 78 rfl (by decide +kernel) (by decide +kernel) ?_
        refine at_callS mb_SL_isWithin tw_471 (index := 64) tw_470 [.int (l7), .int ((0 : Int32)), .int ((200 : Int32))] [] rfl rfl (by decide) 81 rfl (by decide +kernel) (Call.toI (CI.monoE h (fun x13 m14 h y15 => ?_)))
        refine at_if_eq (off := 7) 88 84 rfl (by decide +kernel) (by decide +kernel) (fun c16 => ?_) (fun c16 => ?_)
        · rw [if_pos c16] at h
          exact h
        · rw [if_neg c16] at h
          refine at_iconst (n := 1) (1 : Int32) 85 rfl (by decide +kernel) (by decide +kernel) ?_
          refine at_goto (off := 4) 89 (by decide +kernel) (by decide +kernel) ?_
          exact h
set_option maxRecDepth 20000 in
set_option maxHeartbeats 4000000 in
theorem bk_SL_terms_35 (g : Gc) {lv : Nat} {t : Nat} {l1 : Int32} {l2 : Int32} {l3 : Int32} {l4 : Int32} {l5 : Int32} {l6 : Int32} {l7 : Int32} {m : Mm} {Q : Int32 → Mm → Prop} (h : At g M_SL_terms (lv + 1) 36 [(0, va_rf (some t)), (1, .int (l1)), (2, .int (l2)), (3, .int (l3)), (4, .int (l4)), (5, .int (l5)), (6, .int (l6)), (7, .int (l7))] [.int ((0 : Int32))] m (QI Q)) : At g M_SL_terms (lv + 1) 35 [(0, va_rf (some t)), (1, .int (l1)), (2, .int (l2)), (3, .int (l3)), (4, .int (l4)), (5, .int (l5)), (6, .int (l6)), (7, .int (l7))] [] m (QI Q) := by
  refine at_iconst (n := 0) (0 : Int32) 36 rfl (by decide +kernel) (by decide +kernel) ?_
  exact h
set_option maxRecDepth 20000 in
set_option maxHeartbeats 4000000 in
theorem en_SL_terms (g : Gc) {lv : Nat} {t : Nat} {l1 : Int32} {l2 : Int32} {l3 : Int32} {l4 : Int32} {l5 : Int32} {l6 : Int32} {l7 : Int32} {m : Mm} {Q : Int32 → Mm → Prop} (h : CI g M_SL_isWithin lv [.int (l1), .int ((0 : Int32)), .int ((10000000 : Int32))] m (fun x1 m2 => (if (x1) = 0 then (At g M_SL_terms (lv + 1) 35 [(0, va_rf (some t)), (1, .int (l1)), (2, .int (l2)), (3, .int (l3)), (4, .int (l4)), (5, .int (l5)), (6, .int (l6)), (7, .int (l7))] [] m2 (QI Q)) else (CI g M_SL_isWithin lv [.int (l2), .int ((0 : Int32)), .int ((1000000 : Int32))] m2 (fun x5 m6 => (if (x5) = 0 then (At g M_SL_terms (lv + 1) 35 [(0, va_rf (some t)), (1, .int (l1)), (2, .int (l2)), (3, .int (l3)), (4, .int (l4)), (5, .int (l5)), (6, .int (l6)), (7, .int (l7))] [] m6 (QI Q)) else (CI g M_SL_isWithin lv [.int (l3), .int ((0 : Int32)), .int ((1000 : Int32))] m6 (fun x9 m10 => (if (x9) = 0 then (At g M_SL_terms (lv + 1) 35 [(0, va_rf (some t)), (1, .int (l1)), (2, .int (l2)), (3, .int (l3)), (4, .int (l4)), (5, .int (l5)), (6, .int (l6)), (7, .int (l7))] [] m10 (QI Q)) else (At g M_SL_terms (lv + 1) 36 [(0, va_rf (some t)), (1, .int (l1)), (2, .int (l2)), (3, .int (l3)), (4, .int (l4)), (5, .int (l5)), (6, .int (l6)), (7, .int (l7))] [.int ((1 : Int32))] m10 (QI Q))))))))))) : CI g M_SL_terms (lv + 1) [va_rf (some t), .int (l1), .int (l2), .int (l3), .int (l4), .int (l5), .int (l6), .int (l7)] m Q := by
  refine Call.of (by decide +kernel) (Nat.le_of_ble_eq_true rfl) ?_
  show At g M_SL_terms (lv + 1) 0 [(0, va_rf (some t)), (1, .int (l1)), (2, .int (l2)), (3, .int (l3)), (4, .int (l4)), (5, .int (l5)), (6, .int (l6)), (7, .int (l7))] [] m (QI Q)
  refine at_iload_n (i := 1) 1 1 rfl (by decide +kernel) rfl ?_
  refine at_iconst (n := 0) (0 : Int32) 2 rfl (by decide +kernel) (by decide +kernel) ?_
  refine at_ldc (index := 63) (10000000 : Int32) 4 rfl (by decide +kernel) tw_469 ?_
  refine at_callS mb_SL_isWithin tw_471 (index := 64) tw_470 [.int (l1), .int ((0 : Int32)), .int ((10000000 : Int32))] [] rfl rfl (by decide) 7 rfl (by decide +kernel) (Call.toI (CI.monoE h (fun x1 m2 h y3 => ?_)))
  refine at_if_eq (off := 28) 35 10 rfl (by decide +kernel) (by decide +kernel) (fun c4 => ?_) (fun c4 => ?_)
  · rw [if_pos c4] at h
    exact h
  · rw [if_neg c4] at h
    refine at_iload_n (i := 2) 2 11 rfl (by decide +kernel) rfl ?_
    refine at_iconst (n := 0) (0 : Int32) 12 rfl (by decide +kernel) (by decide +kernel) ?_
    refine at_ldc (index := 68) (1000000 : Int32) 14 rfl (by decide +kernel) tw_473 ?_
    refine at_callS mb_SL_isWithin tw_471 (index := 64) tw_470 [.int (l2), .int ((0 : Int32)), .int ((1000000 : Int32))] [] rfl rfl (by decide) 17 rfl (by decide +kernel) (Call.toI (CI.monoE h (fun x5 m6 h y7 => ?_)))
    refine at_if_eq (off := 18) 35 20 rfl (by decide +kernel) (by decide +kernel) (fun c8 => ?_) (fun c8 => ?_)
    · rw [if_pos c8] at h
      exact h
    · rw [if_neg c8] at h
      refine at_iload_n (i := 3) 3 21 rfl (by decide +kernel) rfl ?_
      refine at_iconst (n := 0) (0 : Int32) 22 rfl (by decide +kernel) (by decide +kernel) ?_
      refine at_sipush (n := 1000) (1000 : Int32) 25 rfl (by decide +kernel) (by decide +kernel) ?_
      refine at_callS mb_SL_isWithin tw_471 (index := 64) tw_470 [.int (l3), .int ((0 : Int32)), .int ((1000 : Int32))] [] rfl rfl (by decide) 28 rfl (by decide +kernel) (Call.toI (CI.monoE h (fun x9 m10 h y11 => ?_)))
      refine at_if_eq (off := 7) 35 31 rfl (by decide +kernel) (by decide +kernel) (fun c12 => ?_) (fun c12 => ?_)
      · rw [if_pos c12] at h
        exact h
      · rw [if_neg c12] at h
        refine at_iconst (n := 1) (1 : Int32) 32 rfl (by decide +kernel) (by decide +kernel) ?_
        refine at_goto (off := 4) 36 (by decide +kernel) (by decide +kernel) ?_
        exact h
set_option maxRecDepth 20000 in
set_option maxHeartbeats 4000000 in
theorem en_SL_bank (g : Gc) {lv : Nat} {t : Nat} {l1 : Int32} {l2 : Int32} {l3 : Int32} {m : Mm} {Q : Int32 → Mm → Prop} (h : CI g M_SL_isWithin lv [.int (l1), .int ((0 : Int32)), .int ((2 : Int32))] m (fun x1 m2 => (if (x1) = 0 then (Q (-2 : Int32) m2) else (CI g M_SL_isWithin lv [.int (l2), .int ((0 : Int32)), .int ((100 : Int32))] m2 (fun x5 m6 => (if (x5) = 0 then (Q (-2 : Int32) m6) else (CI g M_SL_isWithin lv [.int (l3), .int ((0 : Int32)), .int ((100 : Int32))] m6 (fun x9 m10 => (if (x9) = 0 then (Q (-2 : Int32) m10) else (mK m10 t = 12 ∧ (∃ b14, mR m10 t 1 = some b14 ∧ (mK m10 b14 = 4 ∧ (∃ b17, mR m10 b14 2 = some b17 ∧ (mK m10 b17 = 18 ∧ (vp_in l1 (mN m10 b17) ∧ (∃ b21, mR m10 b17 l1.toNatClampNeg = some b21 ∧ (mK m10 b21 = 1 ∧ (∀ m24, m24 = sI m10 b21 0 l2 → (vp_in l1 (mN m24 b17) ∧ (∀ m35, m35 = sI m24 b21 1 l3 → (Q (0 : Int32) m35))))))))))))))))))))) : CI g M_SL_bank (lv + 1) [va_rf (some t), .int (l1), .int (l2), .int (l3)] m Q := by
  refine Call.of (by decide +kernel) (Nat.le_of_ble_eq_true rfl) ?_
  show At g M_SL_bank (lv + 1) 0 [(0, va_rf (some t)), (1, .int (l1)), (2, .int (l2)), (3, .int (l3))] [] m (QI Q)
  refine at_iload_n (i := 1) 1 1 rfl (by decide +kernel) rfl ?_
  refine at_iconst (n := 0) (0 : Int32) 2 rfl (by decide +kernel) (by decide +kernel) ?_
  refine at_iconst (n := 2) (2 : Int32) 3 rfl (by decide +kernel) (by decide +kernel) ?_
  refine at_callS mb_SL_isWithin tw_471 (index := 64) tw_470 [.int (l1), .int ((0 : Int32)), .int ((2 : Int32))] [] rfl rfl (by decide) 6 rfl (by decide +kernel) (Call.toI (CI.monoE h (fun x1 m2 h y3 => ?_)))
  refine at_if_eq (off := 23) 29 9 rfl (by decide +kernel) (by decide +kernel) (fun c4 => ?_) (fun c4 => ?_)
  · rw [if_pos c4] at h
    refine at_bipush (n := (-2)) (-2 : Int32) 31 rfl (by decide +kernel) (by decide +kernel) ?_
    exact at_iret rfl (by decide +kernel) h
  · rw [if_neg c4] at h
    refine at_iload_n (i := 2) 2 10 rfl (by decide +kernel) rfl ?_
    refine at_iconst (n := 0) (0 : Int32) 11 rfl (by decide +kernel) (by decide +kernel) ?_
    refine at_bipush (n := 100) (100 : Int32) 13 rfl (by decide +kernel) (by decide +kernel) ?_
    refine at_callS mb_SL_isWithin tw_471 (index := 64) tw_470 [.int (l2), .int ((0 : Int32)), .int ((100 : Int32))] [] rfl rfl (by decide) 16 rfl (by decide +kernel) (Call.toI (CI.monoE h (fun x5 m6 h y7 => ?_)))
    refine at_if_eq (off := 13) 29 19 rfl (by decide +kernel) (by decide +kernel) (fun c8 => ?_) (fun c8 => ?_)
    · rw [if_pos c8] at h
      refine at_bipush (n := (-2)) (-2 : Int32) 31 rfl (by decide +kernel) (by decide +kernel) ?_
      exact at_iret rfl (by decide +kernel) h
    · rw [if_neg c8] at h
      refine at_iload_n (i := 3) 3 20 rfl (by decide +kernel) rfl ?_
      refine at_iconst (n := 0) (0 : Int32) 21 rfl (by decide +kernel) (by decide +kernel) ?_
      refine at_bipush (n := 100) (100 : Int32) 23 rfl (by decide +kernel) (by decide +kernel) ?_
      refine at_callS mb_SL_isWithin tw_471 (index := 64) tw_470 [.int (l3), .int ((0 : Int32)), .int ((100 : Int32))] [] rfl rfl (by decide) 26 rfl (by decide +kernel) (Call.toI (CI.monoE h (fun x9 m10 h y11 => ?_)))
      refine at_if_ne (off := 6) 32 29 rfl (by decide +kernel) (by decide +kernel) (fun c12 => ?_) (fun c12 => ?_)
      · rw [if_neg c12] at h
        refine at_aload_n (i := 0) 0 33 rfl (by decide +kernel) rfl ?_
        obtain ⟨k13, h⟩ := h
        refine at_get (index := 21) (v := va_rf (mR m10 t 1)) cok11 1 36 rfl (by decide +kernel) k13 (by decide +kernel) tw_441 rfl ?_
        obtain ⟨b14, e15, h⟩ := h
        rw [e15]
        obtain ⟨k16, h⟩ := h
        refine at_get (index := 91) (v := va_rf (mR m10 b14 2)) cok3 2 39 rfl (by decide +kernel) k16 (by decide +kernel) tw_289 rfl ?_
        obtain ⟨b17, e18, h⟩ := h
        rw [e18]
        refine at_iload_n (i := 1) 1 40 rfl (by decide +kernel) rfl ?_
        obtain ⟨k19, h⟩ := h
        obtain ⟨v20, h⟩ := h
        refine at_aaldBank 41 rfl (by decide +kernel) k19 v20 ?_
        refine at_iload_n (i := 2) 2 42 rfl (by decide +kernel) rfl ?_
        obtain ⟨b21, e22, h⟩ := h
        rw [e22]
        obtain ⟨k23, h⟩ := h
        refine at_putI (index := 95) cok0 0 45 rfl (by decide +kernel) k23 (by decide +kernel) tw_272 rfl rfl rfl (fun m24 e25 => ?_)
        replace h := h m24 e25
        have x26 : Ext m10 m24 := by rw [e25]; exact Ext.sI _ _ _ _
        have k27 : mK m24 t = 12 := x26.k k13 (by decide)
        have k28 : mK m24 b14 = 4 := x26.k k16 (by decide)
        have k29 : mK m24 b17 = 18 := x26.k k19 (by decide)
        have k30 : mK m24 b21 = 1 := x26.k k23 (by decide)
        have e31 : mR m24 t 1 = some b14 := x26.r k13 (by decide) rfl e15
        have e32 : mR m24 b14 2 = some b17 := x26.r k16 (by decide) rfl e18
        have e33 : mR m24 b17 l1.toNatClampNeg = some b21 := x26.r k19 (by decide) rfl e22
        refine at_aload_n (i := 0) 0 46 rfl (by decide +kernel) rfl ?_
        refine at_get (index := 21) (v := va_rf (mR m24 t 1)) cok11 1 49 rfl (by decide +kernel) k27 (by decide +kernel) tw_441 rfl ?_
        rw [e31]
        refine at_get (index := 91) (v := va_rf (mR m24 b14 2)) cok3 2 52 rfl (by decide +kernel) k28 (by decide +kernel) tw_289 rfl ?_
        rw [e32]
        refine at_iload_n (i := 1) 1 53 rfl (by decide +kernel) rfl ?_
        obtain ⟨v34, h⟩ := h
        refine at_aaldBank 54 rfl (by decide +kernel) k29 v34 ?_
        rw [e33]
        refine at_iload_n (i := 3) 3 55 rfl (by decide +kernel) rfl ?_
        refine at_putI (index := 100) cok0 1 58 rfl (by decide +kernel) k30 (by decide +kernel) tw_275 rfl rfl rfl (fun m35 e36 => ?_)
        replace h := h m35 e36
        have x37 : Ext m24 m35 := by rw [e36]; exact Ext.sI _ _ _ _
        have k38 : mK m35 t = 12 := x37.k k27 (by decide)
        have k39 : mK m35 b14 = 4 := x37.k k28 (by decide)
        have k40 : mK m35 b17 = 18 := x37.k k29 (by decide)
        have k41 : mK m35 b21 = 1 := x37.k k30 (by decide)
        have e42 : mR m35 t 1 = some b14 := x37.r k27 (by decide) rfl e31
        have e43 : mR m35 b14 2 = some b17 := x37.r k28 (by decide) rfl e32
        have e44 : mR m35 b17 l1.toNatClampNeg = some b21 := x37.r k29 (by decide) rfl e33
        refine at_iconst (n := 0) (0 : Int32) 59 rfl (by decide +kernel) (by decide +kernel) ?_
        exact at_iret rfl (by decide +kernel) h
      · rw [if_pos c12] at h
        refine at_bipush (n := (-2)) (-2 : Int32) 31 rfl (by decide +kernel) (by decide +kernel) ?_
        exact at_iret rfl (by decide +kernel) h
set_option maxRecDepth 20000 in
set_option maxHeartbeats 4000000 in
theorem en_SL_grower (g : Gc) {lv : Nat} {t : Nat} {l1 : Int32} {l2 : Int32} {m : Mm} {Q : Int32 → Mm → Prop} (h : CI g M_SL_isWithin lv [.int (l1), .int ((0 : Int32)), .int ((7 : Int32))] m (fun x1 m2 => (if (x1) = 0 then (Q (-2 : Int32) m2) else (CI g M_SL_isWithin lv [.int (l2), .int ((0 : Int32)), .int ((1000 : Int32))] m2 (fun x5 m6 => (if (x5) = 0 then (Q (-2 : Int32) m6) else (mK m6 t = 12 ∧ (∃ b10, mR m6 t 1 = some b10 ∧ (mK m6 b10 = 4 ∧ (if (mI m6 b10 8) < ((12 : Int32)) then (if (mI m6 b10 9) ≤ 0 then (CI g M_Land_settle lv [va_rf (some b10), .int (l1), .int (l2)] m6 (fun x15 m16 => (Q x15 m16))) else (Q (-9 : Int32) m6)) else (Q (-3 : Int32) m6))))))))))) : CI g M_SL_grower (lv + 1) [va_rf (some t), .int (l1), .int (l2)] m Q := by
  refine Call.of (by decide +kernel) (Nat.le_of_ble_eq_true rfl) ?_
  show At g M_SL_grower (lv + 1) 0 [(0, va_rf (some t)), (1, .int (l1)), (2, .int (l2))] [] m (QI Q)
  refine at_iload_n (i := 1) 1 1 rfl (by decide +kernel) rfl ?_
  refine at_iconst (n := 0) (0 : Int32) 2 rfl (by decide +kernel) (by decide +kernel) ?_
  refine at_bipush (n := 7) (7 : Int32) 4 rfl (by decide +kernel) (by decide +kernel) ?_
  refine at_callS mb_SL_isWithin tw_471 (index := 64) tw_470 [.int (l1), .int ((0 : Int32)), .int ((7 : Int32))] [] rfl rfl (by decide) 7 rfl (by decide +kernel) (Call.toI (CI.monoE h (fun x1 m2 h y3 => ?_)))
  refine at_if_eq (off := 14) 21 10 rfl (by decide +kernel) (by decide +kernel) (fun c4 => ?_) (fun c4 => ?_)
  · rw [if_pos c4] at h
    refine at_bipush (n := (-2)) (-2 : Int32) 23 rfl (by decide +kernel) (by decide +kernel) ?_
    exact at_iret rfl (by decide +kernel) h
  · rw [if_neg c4] at h
    refine at_iload_n (i := 2) 2 11 rfl (by decide +kernel) rfl ?_
    refine at_iconst (n := 0) (0 : Int32) 12 rfl (by decide +kernel) (by decide +kernel) ?_
    refine at_sipush (n := 1000) (1000 : Int32) 15 rfl (by decide +kernel) (by decide +kernel) ?_
    refine at_callS mb_SL_isWithin tw_471 (index := 64) tw_470 [.int (l2), .int ((0 : Int32)), .int ((1000 : Int32))] [] rfl rfl (by decide) 18 rfl (by decide +kernel) (Call.toI (CI.monoE h (fun x5 m6 h y7 => ?_)))
    refine at_if_ne (off := 6) 24 21 rfl (by decide +kernel) (by decide +kernel) (fun c8 => ?_) (fun c8 => ?_)
    · rw [if_neg c8] at h
      refine at_aload_n (i := 0) 0 25 rfl (by decide +kernel) rfl ?_
      obtain ⟨k9, h⟩ := h
      refine at_get (index := 21) (v := va_rf (mR m6 t 1)) cok11 1 28 rfl (by decide +kernel) k9 (by decide +kernel) tw_441 rfl ?_
      obtain ⟨b10, e11, h⟩ := h
      rw [e11]
      obtain ⟨k12, h⟩ := h
      refine at_get (index := 103) (v := .int (mI m6 b10 8)) cok3 8 31 rfl (by decide +kernel) k12 (by decide +kernel) tw_298 rfl ?_
      refine at_bipush (n := 12) (12 : Int32) 33 rfl (by decide +kernel) (by decide +kernel) ?_
      refine at_icmp_lt (off := 6) 39 36 rfl (by decide +kernel) (by decide +kernel) (fun c13 => ?_) (fun c13 => ?_)
      · rw [if_pos c13] at h
        refine at_aload_n (i := 0) 0 40 rfl (by decide +kernel) rfl ?_
        refine at_get (index := 21) (v := va_rf (mR m6 t 1)) cok11 1 43 rfl (by decide +kernel) k9 (by decide +kernel) tw_441 rfl ?_
        rw [e11]
        refine at_get (index := 106) (v := .int (mI m6 b10 9)) cok3 9 46 rfl (by decide +kernel) k12 (by decide +kernel) tw_300 rfl ?_
        refine at_if_le (off := 6) 52 49 rfl (by decide +kernel) (by decide +kernel) (fun c14 => ?_) (fun c14 => ?_)
        · rw [if_pos c14] at h
          refine at_aload_n (i := 0) 0 53 rfl (by decide +kernel) rfl ?_
          refine at_get (index := 21) (v := va_rf (mR m6 t 1)) cok11 1 56 rfl (by decide +kernel) k9 (by decide +kernel) tw_441 rfl ?_
          rw [e11]
          refine at_iload_n (i := 1) 1 57 rfl (by decide +kernel) rfl ?_
          refine at_iload_n (i := 2) 2 58 rfl (by decide +kernel) rfl ?_
          refine at_callV mb_Land_settle tw_483 tw_484 cok3 k12 (index := 109) tw_482 [.int (l1), .int (l2)] [] rfl rfl (by decide) 61 rfl (by decide +kernel) (Call.toI (CI.monoE h (fun x15 m16 h y17 => ?_)))
          have k18 : mK m16 t = 12 := y17.k k9 (by decide)
          have k19 : mK m16 b10 = 4 := y17.k k12 (by decide)
          have e20 : mR m16 t 1 = some b10 := y17.r k9 (by decide) rfl e11
          exact at_iret rfl (by decide +kernel) h
        · rw [if_neg c14] at h
          refine at_bipush (n := (-9)) (-9 : Int32) 51 rfl (by decide +kernel) (by decide +kernel) ?_
          exact at_iret rfl (by decide +kernel) h
      · rw [if_neg c13] at h
        refine at_bipush (n := (-3)) (-3 : Int32) 38 rfl (by decide +kernel) (by decide +kernel) ?_
        exact at_iret rfl (by decide +kernel) h
    · rw [if_pos c8] at h
      refine at_bipush (n := (-2)) (-2 : Int32) 23 rfl (by decide +kernel) (by decide +kernel) ?_
      exact at_iret rfl (by decide +kernel) h
set_option maxRecDepth 20000 in
set_option maxHeartbeats 4000000 in
theorem en_SL_feed (g : Gc) {lv : Nat} {t : Nat} {l1 : Int32} {l2 : Int32} {l3 : Int32} {l4 : Int32} {l5 : Int32} {m : Mm} {Q : Int32 → Mm → Prop} (h : mK m t = 12 ∧ (∃ b2, mR m t 3 = some b2 ∧ (mK m b2 = 10 ∧ (if ((mI m b2 4) + (20 : Int32)) ≤ ((300 : Int32)) then (CV g M_Tape_append lv [va_rf (some b2), .int (l1)] m (fun m6 => (CV g M_Tape_append lv [va_rf (some b2), .int (l2)] m6 (fun m11 => (CV g M_Tape_append lv [va_rf (some b2), .int (l3)] m11 (fun m16 => (CV g M_Tape_append lv [va_rf (some b2), .int (l4)] m16 (fun m21 => (CV g M_Tape_append lv [va_rf (some b2), .int (l5)] m21 (fun m26 => (Q (mI m26 b2 4) m26))))))))))) else (Q (-1 : Int32) m))))) : CI g M_SL_feed (lv + 1) [va_rf (some t), .int (l1), .int (l2), .int (l3), .int (l4), .int (l5)] m Q := by
  refine Call.of (by decide +kernel) (Nat.le_of_ble_eq_true rfl) ?_
  show At g M_SL_feed (lv + 1) 0 [(0, va_rf (some t)), (1, .int (l1)), (2, .int (l2)), (3, .int (l3)), (4, .int (l4)), (5, .int (l5))] [] m (QI Q)
  refine at_aload_n (i := 0) 0 1 rfl (by decide +kernel) rfl ?_
  obtain ⟨k1, h⟩ := h
  refine at_get (index := 31) (v := va_rf (mR m t 3)) cok11 3 4 rfl (by decide +kernel) k1 (by decide +kernel) tw_443 rfl ?_
  obtain ⟨b2, e3, h⟩ := h
  rw [e3]
  obtain ⟨k4, h⟩ := h
  refine at_get (index := 113) (v := .int (mI m b2 4)) cok9 4 7 rfl (by decide +kernel) k4 (by decide +kernel) tw_349 rfl ?_
  refine at_bipush (n := 20) (20 : Int32) 9 rfl (by decide +kernel) (by decide +kernel) ?_
  refine at_iadd 10 rfl (by decide +kernel) ?_
  refine at_sipush (n := 300) (300 : Int32) 13 rfl (by decide +kernel) (by decide +kernel) ?_
  refine at_icmp_le (off := 5) 18 16 rfl (by decide +kernel) (by decide +kernel) (fun c5 => ?_) (fun c5 => ?_)
  · rw [if_pos c5] at h
    refine at_aload_n (i := 0) 0 19 rfl (by decide +kernel) rfl ?_
    refine at_get (index := 31) (v := va_rf (mR m t 3)) cok11 3 22 rfl (by decide +kernel) k1 (by decide +kernel) tw_443 rfl ?_
    rw [e3]
    refine at_iload_n (i := 1) 1 23 rfl (by decide +kernel) rfl ?_
    refine at_callV mb_Tape_append tw_496 tw_497 cok9 k4 (index := 116) tw_495 [.int (l1)] [] rfl rfl (by decide) 26 rfl (by decide +kernel) (Call.toV (CV.monoE h (fun m6 h y7 => ?_)))
    have k8 : mK m6 t = 12 := y7.k k1 (by decide)
    have k9 : mK m6 b2 = 10 := y7.k k4 (by decide)
    have e10 : mR m6 t 3 = some b2 := y7.r k1 (by decide) rfl e3
    refine at_aload_n (i := 0) 0 27 rfl (by decide +kernel) rfl ?_
    refine at_get (index := 31) (v := va_rf (mR m6 t 3)) cok11 3 30 rfl (by decide +kernel) k8 (by decide +kernel) tw_443 rfl ?_
    rw [e10]
    refine at_iload_n (i := 2) 2 31 rfl (by decide +kernel) rfl ?_
    refine at_callV mb_Tape_append tw_496 tw_497 cok9 k9 (index := 116) tw_495 [.int (l2)] [] rfl rfl (by decide) 34 rfl (by decide +kernel) (Call.toV (CV.monoE h (fun m11 h y12 => ?_)))
    have k13 : mK m11 t = 12 := y12.k k8 (by decide)
    have k14 : mK m11 b2 = 10 := y12.k k9 (by decide)
    have e15 : mR m11 t 3 = some b2 := y12.r k8 (by decide) rfl e10
    refine at_aload_n (i := 0) 0 35 rfl (by decide +kernel) rfl ?_
    refine at_get (index := 31) (v := va_rf (mR m11 t 3)) cok11 3 38 rfl (by decide +kernel) k13 (by decide +kernel) tw_443 rfl ?_
    rw [e15]
    refine at_iload_n (i := 3) 3 39 rfl (by decide +kernel) rfl ?_
    refine at_callV mb_Tape_append tw_496 tw_497 cok9 k14 (index := 116) tw_495 [.int (l3)] [] rfl rfl (by decide) 42 rfl (by decide +kernel) (Call.toV (CV.monoE h (fun m16 h y17 => ?_)))
    have k18 : mK m16 t = 12 := y17.k k13 (by decide)
    have k19 : mK m16 b2 = 10 := y17.k k14 (by decide)
    have e20 : mR m16 t 3 = some b2 := y17.r k13 (by decide) rfl e15
    refine at_aload_n (i := 0) 0 43 rfl (by decide +kernel) rfl ?_
    refine at_get (index := 31) (v := va_rf (mR m16 t 3)) cok11 3 46 rfl (by decide +kernel) k18 (by decide +kernel) tw_443 rfl ?_
    rw [e20]
    refine at_iload (i := 4) 4 48 rfl (by decide +kernel) rfl ?_
    refine at_callV mb_Tape_append tw_496 tw_497 cok9 k19 (index := 116) tw_495 [.int (l4)] [] rfl rfl (by decide) 51 rfl (by decide +kernel) (Call.toV (CV.monoE h (fun m21 h y22 => ?_)))
    have k23 : mK m21 t = 12 := y22.k k18 (by decide)
    have k24 : mK m21 b2 = 10 := y22.k k19 (by decide)
    have e25 : mR m21 t 3 = some b2 := y22.r k18 (by decide) rfl e20
    refine at_aload_n (i := 0) 0 52 rfl (by decide +kernel) rfl ?_
    refine at_get (index := 31) (v := va_rf (mR m21 t 3)) cok11 3 55 rfl (by decide +kernel) k23 (by decide +kernel) tw_443 rfl ?_
    rw [e25]
    refine at_iload (i := 5) 5 57 rfl (by decide +kernel) rfl ?_
    refine at_callV mb_Tape_append tw_496 tw_497 cok9 k24 (index := 116) tw_495 [.int (l5)] [] rfl rfl (by decide) 60 rfl (by decide +kernel) (Call.toV (CV.monoE h (fun m26 h y27 => ?_)))
    have k28 : mK m26 t = 12 := y27.k k23 (by decide)
    have k29 : mK m26 b2 = 10 := y27.k k24 (by decide)
    have e30 : mR m26 t 3 = some b2 := y27.r k23 (by decide) rfl e25
    refine at_aload_n (i := 0) 0 61 rfl (by decide +kernel) rfl ?_
    refine at_get (index := 31) (v := va_rf (mR m26 t 3)) cok11 3 64 rfl (by decide +kernel) k28 (by decide +kernel) tw_443 rfl ?_
    rw [e30]
    refine at_get (index := 113) (v := .int (mI m26 b2 4)) cok9 4 67 rfl (by decide +kernel) k29 (by decide +kernel) tw_349 rfl ?_
    exact at_iret rfl (by decide +kernel) h
  · rw [if_neg c5] at h
    refine at_iconst (n := (-1)) (-1 : Int32) 17 rfl (by decide +kernel) (by decide +kernel) ?_
    exact at_iret rfl (by decide +kernel) h
set_option maxRecDepth 20000 in
set_option maxHeartbeats 4000000 in
theorem en_SL_end (g : Gc) {lv : Nat} {t : Nat} {l1 : Int32} {m : Mm} {Q : Int32 → Mm → Prop} (h : mK m t = 12 ∧ (∃ b2, mR m t 3 = some b2 ∧ (mK m b2 = 10 ∧ (CI g M_SL_isWithin lv [.int (l1), .int ((0 : Int32)), .int (mI m b2 4)] m (fun x5 m6 => (if (x5) = 0 then (Q (-1 : Int32) m6) else (∀ m12, m12 = sI m6 b2 4 l1 → (Q l1 m12)))))))) : CI g M_SL_end (lv + 1) [va_rf (some t), .int (l1)] m Q := by
  refine Call.of (by decide +kernel) (Nat.le_of_ble_eq_true rfl) ?_
  show At g M_SL_end (lv + 1) 0 [(0, va_rf (some t)), (1, .int (l1))] [] m (QI Q)
  refine at_iload_n (i := 1) 1 1 rfl (by decide +kernel) rfl ?_
  refine at_iconst (n := 0) (0 : Int32) 2 rfl (by decide +kernel) (by decide +kernel) ?_
  refine at_aload_n (i := 0) 0 3 rfl (by decide +kernel) rfl ?_
  obtain ⟨k1, h⟩ := h
  refine at_get (index := 31) (v := va_rf (mR m t 3)) cok11 3 6 rfl (by decide +kernel) k1 (by decide +kernel) tw_443 rfl ?_
  obtain ⟨b2, e3, h⟩ := h
  rw [e3]
  obtain ⟨k4, h⟩ := h
  refine at_get (index := 113) (v := .int (mI m b2 4)) cok9 4 9 rfl (by decide +kernel) k4 (by decide +kernel) tw_349 rfl ?_
  refine at_callS mb_SL_isWithin tw_471 (index := 64) tw_470 [.int (l1), .int ((0 : Int32)), .int (mI m b2 4)] [] rfl rfl (by decide) 12 rfl (by decide +kernel) (Call.toI (CI.monoE h (fun x5 m6 h y7 => ?_)))
  have k8 : mK m6 t = 12 := y7.k k1 (by decide)
  have k9 : mK m6 b2 = 10 := y7.k k4 (by decide)
  have e10 : mR m6 t 3 = some b2 := y7.r k1 (by decide) rfl e3
  refine at_if_ne (off := 5) 17 15 rfl (by decide +kernel) (by decide +kernel) (fun c11 => ?_) (fun c11 => ?_)
  · rw [if_neg c11] at h
    refine at_aload_n (i := 0) 0 18 rfl (by decide +kernel) rfl ?_
    refine at_get (index := 31) (v := va_rf (mR m6 t 3)) cok11 3 21 rfl (by decide +kernel) k8 (by decide +kernel) tw_443 rfl ?_
    rw [e10]
    refine at_iload_n (i := 1) 1 22 rfl (by decide +kernel) rfl ?_
    refine at_putI (index := 113) cok9 4 25 rfl (by decide +kernel) k9 (by decide +kernel) tw_349 rfl rfl rfl (fun m12 e13 => ?_)
    replace h := h m12 e13
    have x14 : Ext m6 m12 := by rw [e13]; exact Ext.sI _ _ _ _
    have k15 : mK m12 t = 12 := x14.k k8 (by decide)
    have k16 : mK m12 b2 = 10 := x14.k k9 (by decide)
    have e17 : mR m12 t 3 = some b2 := x14.r k8 (by decide) rfl e10
    refine at_iload_n (i := 1) 1 26 rfl (by decide +kernel) rfl ?_
    exact at_iret rfl (by decide +kernel) h
  · rw [if_pos c11] at h
    refine at_iconst (n := (-1)) (-1 : Int32) 16 rfl (by decide +kernel) (by decide +kernel) ?_
    exact at_iret rfl (by decide +kernel) h
set_option maxRecDepth 20000 in
set_option maxHeartbeats 4000000 in
theorem bk_SL_law_57 (g : Gc) {lv : Nat} {t : Nat} {l2 : Int32} {l3 : Option Nat} {l4 : Int32} {m : Mm} {Q : Int32 → Mm → Prop} (h : if (l2) < (l4) then (∃ b2, l3 = some b2 ∧ (mK m b2 = 5 ∧ (Q (mI m b2 5) m))) else (mK m t = 12 ∧ (∃ b6, mR m t 5 = some b6 ∧ (mK m b6 = 20 ∧ (if (nI (mN m b6)) ≤ (l4) then (∃ b10, l3 = some b10 ∧ (mK m b10 = 5 ∧ (Q (mI m b10 5) m))) else (∃ b13, l3 = some b13 ∧ (mK m b13 = 5 ∧ (vp_in l4 (mN m b6) ∧ (∀ m17, m17 = sR m b6 l4.toNatClampNeg (some b13) → (At g M_SL_law (lv + 1) 57 [(0, va_rf (some t)), (2, .int (l2)), (3, va_rf (some b13)), (4, .int (l4 + (1 : Int32)))] [] m17 (QI Q))))))))))) : At g M_SL_law (lv + 1) 57 [(0, va_rf (some t)), (2, .int (l2)), (3, va_rf (l3)), (4, .int (l4))] [] m (QI Q) := by
  refine at_iload (i := 4) 3 59 rfl (by decide +kernel) rfl ?_
  refine at_iload_n (i := 2) 1 60 rfl (by decide +kernel) rfl ?_
  refine at_icmp_gt (off := 27) 87 63 rfl (by decide +kernel) (by decide +kernel) (fun c1 => ?_) (fun c1 => ?_)
  · rw [if_pos c1] at h
    refine at_aload_n (i := 3) 2 88 rfl (by decide +kernel) rfl ?_
    obtain ⟨b2, e3, h⟩ := h
    rw [e3]
    obtain ⟨k4, h⟩ := h
    refine at_get (index := 133) (v := .int (mI m b2 5)) cok4 5 91 rfl (by decide +kernel) k4 (by decide +kernel) tw_397 rfl ?_
    exact at_iret rfl (by decide +kernel) h
  · rw [if_neg c1] at h
    refine at_iload (i := 4) 3 65 rfl (by decide +kernel) rfl ?_
    refine at_aload_n (i := 0) 0 66 rfl (by decide +kernel) rfl ?_
    obtain ⟨k5, h⟩ := h
    refine at_get (index := 44) (v := va_rf (mR m t 5)) cok11 5 69 rfl (by decide +kernel) k5 (by decide +kernel) tw_445 rfl ?_
    obtain ⟨b6, e7, h⟩ := h
    rw [e7]
    obtain ⟨k8, h⟩ := h
    refine at_alen 70 rfl (by decide +kernel) k8 (by decide) ?_
    refine at_icmp_ge (off := 17) 87 73 rfl (by decide +kernel) (by decide +kernel) (fun c9 => ?_) (fun c9 => ?_)
    · rw [if_pos c9] at h
      refine at_aload_n (i := 3) 2 88 rfl (by decide +kernel) rfl ?_
      obtain ⟨b10, e11, h⟩ := h
      rw [e11]
      obtain ⟨k12, h⟩ := h
      refine at_get (index := 133) (v := .int (mI m b10 5)) cok4 5 91 rfl (by decide +kernel) k12 (by decide +kernel) tw_397 rfl ?_
      exact at_iret rfl (by decide +kernel) h
    · rw [if_neg c9] at h
      refine at_aload_n (i := 0) 0 74 rfl (by decide +kernel) rfl ?_
      refine at_get (index := 44) (v := va_rf (mR m t 5)) cok11 5 77 rfl (by decide +kernel) k5 (by decide +kernel) tw_445 rfl ?_
      rw [e7]
      refine at_iload (i := 4) 3 79 rfl (by decide +kernel) rfl ?_
      refine at_aload_n (i := 3) 2 80 rfl (by decide +kernel) rfl ?_
      obtain ⟨b13, e14, h⟩ := h
      rw [e14]
      obtain ⟨k15, h⟩ := h
      obtain ⟨v16, h⟩ := h
      refine at_aastLaw 81 rfl (by decide +kernel) k8 v16 k15 (fun m17 e18 => ?_)
      replace h := h m17 e18
      have x19 : Ext m m17 := by rw [e18]; exact Ext.sR _ (Or.inl (by rw [k8]; rfl))
      have k20 : mK m17 t = 12 := x19.k k5 (by decide)
      have k21 : mK m17 b6 = 20 := x19.k k8 (by decide)
      have k22 : mK m17 b13 = 5 := x19.k k15 (by decide)
      have e23 : mR m17 t 5 = some b6 := x19.r k5 (by decide) rfl e7
      refine at_iinc (i := 4) (n := 1) (lc' := [(0, va_rf (some t)), (2, .int (l2)), (3, va_rf (some b13)), (4, .int (l4 + (1 : Int32)))]) (l4 + (1 : Int32)) 3 [1, 2, 3, 0] 84 rfl (by decide +kernel) rfl (by rw [show Int32.ofInt 1 = (1 : Int32) from by decide +kernel]) (by decide +kernel) rfl ?_
      refine at_goto (off := (-27)) 57 (by decide +kernel) (by decide +kernel) ?_
      exact h
set_option maxRecDepth 20000 in
set_option maxHeartbeats 4000000 in
theorem en_SL_law (g : Gc) {lv : Nat} {t : Nat} {l1 : Int32} {l2 : Int32} {m : Mm} {Q : Int32 → Mm → Prop} (h : mK m t = 12 ∧ (∃ b2, mR m t 1 = some b2 ∧ (mK m b2 = 4 ∧ (if (l1) < (mI m b2 9) then (Q (-2 : Int32) m) else (if (l2) < (l1) then (Q (-2 : Int32) m) else (if (l2) < ((30 : Int32)) then (∃ b8, mR m t 3 = some b8 ∧ (∃ b10, mR m t 4 = some b10 ∧ (mK m b8 = 10 ∧ (CI g M_Tape_readLaw lv [va_rf (some b8), va_rf (some b10)] m (fun x13 m14 => (if (x13) = 0 then (Q (-4 : Int32) m14) else (mK m14 b10 = 5 ∧ (CR g M_Law_copy lv [va_rf (some b10)] m14 (fun x24 m25 => (At g M_SL_law (lv + 1) 57 [(0, va_rf (some t)), (2, .int (l2)), (3, va_rf (x24)), (4, .int (imx l1 (0 : Int32)))] [] m25 (QI Q))))))))))) else (Q (-2 : Int32) m))))))) : CI g M_SL_law (lv + 1) [va_rf (some t), .int (l1), .int (l2)] m Q := by
  refine Call.of (by decide +kernel) (Nat.le_of_ble_eq_true rfl) ?_
  show At g M_SL_law (lv + 1) 0 [(0, va_rf (some t)), (1, .int (l1)), (2, .int (l2))] [] m (QI Q)
  refine at_iload_n (i := 1) 1 1 rfl (by decide +kernel) rfl ?_
  refine at_aload_n (i := 0) 0 2 rfl (by decide +kernel) rfl ?_
  obtain ⟨k1, h⟩ := h
  refine at_get (index := 21) (v := va_rf (mR m t 1)) cok11 1 5 rfl (by decide +kernel) k1 (by decide +kernel) tw_441 rfl ?_
  obtain ⟨b2, e3, h⟩ := h
  rw [e3]
  obtain ⟨k4, h⟩ := h
  refine at_get (index := 106) (v := .int (mI m b2 9)) cok3 9 8 rfl (by decide +kernel) k4 (by decide +kernel) tw_300 rfl ?_
  refine at_icmp_lt (off := 14) 22 11 rfl (by decide +kernel) (by decide +kernel) (fun c5 => ?_) (fun c5 => ?_)
  · rw [if_pos c5] at h
    refine at_bipush (n := (-2)) (-2 : Int32) 24 rfl (by decide +kernel) (by decide +kernel) ?_
    exact at_iret rfl (by decide +kernel) h
  · rw [if_neg c5] at h
    refine at_iload_n (i := 2) 2 12 rfl (by decide +kernel) rfl ?_
    refine at_iload_n (i := 1) 1 13 rfl (by decide +kernel) rfl ?_
    refine at_icmp_lt (off := 9) 22 16 rfl (by decide +kernel) (by decide +kernel) (fun c6 => ?_) (fun c6 => ?_)
    · rw [if_pos c6] at h
      refine at_bipush (n := (-2)) (-2 : Int32) 24 rfl (by decide +kernel) (by decide +kernel) ?_
      exact at_iret rfl (by decide +kernel) h
    · rw [if_neg c6] at h
      refine at_iload_n (i := 2) 2 17 rfl (by decide +kernel) rfl ?_
      refine at_bipush (n := 30) (30 : Int32) 19 rfl (by decide +kernel) (by decide +kernel) ?_
      refine at_icmp_lt (off := 6) 25 22 rfl (by decide +kernel) (by decide +kernel) (fun c7 => ?_) (fun c7 => ?_)
      · rw [if_pos c7] at h
        refine at_aload_n (i := 0) 0 26 rfl (by decide +kernel) rfl ?_
        refine at_get (index := 31) (v := va_rf (mR m t 3)) cok11 3 29 rfl (by decide +kernel) k1 (by decide +kernel) tw_443 rfl ?_
        obtain ⟨b8, e9, h⟩ := h
        rw [e9]
        refine at_aload_n (i := 0) 0 30 rfl (by decide +kernel) rfl ?_
        refine at_get (index := 40) (v := va_rf (mR m t 4)) cok11 4 33 rfl (by decide +kernel) k1 (by decide +kernel) tw_444 rfl ?_
        obtain ⟨b10, e11, h⟩ := h
        rw [e11]
        obtain ⟨k12, h⟩ := h
        refine at_callV mb_Tape_readLaw tw_508 tw_509 cok9 k12 (index := 120) tw_507 [va_rf (some b10)] [] rfl rfl (by decide) 36 rfl (by decide +kernel) (Call.toI (CI.monoE h (fun x13 m14 h y15 => ?_)))
        have k16 : mK m14 t = 12 := y15.k k1 (by decide)
        have k17 : mK m14 b2 = 4 := y15.k k4 (by decide)
        have k18 : mK m14 b8 = 10 := y15.k k12 (by decide)
        have e19 : mR m14 t 1 = some b2 := y15.r k1 (by decide) rfl e3
        have e20 : mR m14 t 3 = some b8 := y15.r k1 (by decide) rfl e9
        have e21 : mR m14 t 4 = some b10 := y15.r k1 (by decide) rfl e11
        refine at_if_ne (off := 6) 42 39 rfl (by decide +kernel) (by decide +kernel) (fun c22 => ?_) (fun c22 => ?_)
        · rw [if_neg c22] at h
          refine at_aload_n (i := 0) 0 43 rfl (by decide +kernel) rfl ?_
          refine at_get (index := 40) (v := va_rf (mR m14 t 4)) cok11 4 46 rfl (by decide +kernel) k16 (by decide +kernel) tw_444 rfl ?_
          rw [e21]
          obtain ⟨k23, h⟩ := h
          refine at_callV mb_Law_copy tw_648 tw_649 cok4 k23 (index := 124) tw_647 [] [] rfl rfl (by decide) 49 rfl (by decide +kernel) (Call.toR (CR.monoE h (fun x24 m25 h y26 => ?_)))
          have k27 : mK m25 t = 12 := y26.k k16 (by decide)
          have k28 : mK m25 b2 = 4 := y26.k k17 (by decide)
          have k29 : mK m25 b8 = 10 := y26.k k18 (by decide)
          have k30 : mK m25 b10 = 5 := y26.k k23 (by decide)
          have e31 : mR m25 t 1 = some b2 := y26.r k16 (by decide) rfl e19
          have e32 : mR m25 t 3 = some b8 := y26.r k16 (by decide) rfl e20
          have e33 : mR m25 t 4 = some b10 := y26.r k16 (by decide) rfl e21
          refine at_astore_n (i := 3) (lc' := [(0, va_rf (some t)), (1, .int (l1)), (2, .int (l2)), (3, va_rf (x24))]) [1, 2, 3, 0] 50 rfl (by decide +kernel) (by decide +kernel) rfl ?_
          refine at_iload_n (i := 1) 1 51 rfl (by decide +kernel) rfl ?_
          refine at_iconst (n := 0) (0 : Int32) 52 rfl (by decide +kernel) (by decide +kernel) ?_
          refine at_imx (index := 128) 55 rfl (by decide +kernel) tw_656 (by decide) ?_
          refine at_istore (i := 4) (lc' := [(0, va_rf (some t)), (2, .int (l2)), (3, va_rf (x24)), (4, .int (imx l1 (0 : Int32)))]) [1, 3, 4, 0] 57 rfl (by decide +kernel) (by decide +kernel) (by generalize x24 = rr; cases rr <;> rfl) ?_
          exact h
        · rw [if_pos c22] at h
          refine at_bipush (n := (-4)) (-4 : Int32) 41 rfl (by decide +kernel) (by decide +kernel) ?_
          exact at_iret rfl (by decide +kernel) h
      · rw [if_neg c7] at h
        refine at_bipush (n := (-2)) (-2 : Int32) 24 rfl (by decide +kernel) (by decide +kernel) ?_
        exact at_iret rfl (by decide +kernel) h
set_option maxRecDepth 20000 in
set_option maxHeartbeats 4000000 in
theorem en_SL_fault (g : Gc) {lv : Nat} {t : Nat} {m : Mm} {Q : Int32 → Mm → Prop} (h : mK m t = 12 ∧ (∃ b2, mR m t 3 = some b2 ∧ (mK m b2 = 10 ∧ (Q (mI m b2 5) m)))) : CI g M_SL_fault (lv + 1) [va_rf (some t)] m Q := by
  refine Call.of (by decide +kernel) (Nat.le_of_ble_eq_true rfl) ?_
  show At g M_SL_fault (lv + 1) 0 [(0, va_rf (some t))] [] m (QI Q)
  refine at_aload_n (i := 0) 0 1 rfl (by decide +kernel) rfl ?_
  obtain ⟨k1, h⟩ := h
  refine at_get (index := 31) (v := va_rf (mR m t 3)) cok11 3 4 rfl (by decide +kernel) k1 (by decide +kernel) tw_443 rfl ?_
  obtain ⟨b2, e3, h⟩ := h
  rw [e3]
  obtain ⟨k4, h⟩ := h
  refine at_get (index := 136) (v := .int (mI m b2 5)) cok9 5 7 rfl (by decide +kernel) k4 (by decide +kernel) tw_351 rfl ?_
  exact at_iret rfl (by decide +kernel) h
set_option maxRecDepth 20000 in
set_option maxHeartbeats 4000000 in
theorem en_SL_crop (g : Gc) {lv : Nat} {t : Nat} {l1 : Int32} {l2 : Int32} {m : Mm} {Q : Int32 → Mm → Prop} (h : mK m t = 12 ∧ (∃ b2, mR m t 1 = some b2 ∧ (mK m b2 = 4 ∧ (CI g M_Land_hasGrower lv [va_rf (some b2), .int (l1)] m (fun x5 m6 => (if (x5) = 0 then (Q (-2 : Int32) m6) else (CI g M_SL_isWithin lv [.int (l2), .int ((0 : Int32)), .int ((500000 : Int32))] m6 (fun x12 m13 => (if (x12) = 0 then (Q (-2 : Int32) m13) else (CV g M_Land_tellCrop lv [va_rf (some b2), .int (l1), .int (l2)] m13 (fun m19 => (Q (0 : Int32) m19)))))))))))) : CI g M_SL_crop (lv + 1) [va_rf (some t), .int (l1), .int (l2)] m Q := by
  refine Call.of (by decide +kernel) (Nat.le_of_ble_eq_true rfl) ?_
  show At g M_SL_crop (lv + 1) 0 [(0, va_rf (some t)), (1, .int (l1)), (2, .int (l2))] [] m (QI Q)
  refine at_aload_n (i := 0) 0 1 rfl (by decide +kernel) rfl ?_
  obtain ⟨k1, h⟩ := h
  refine at_get (index := 21) (v := va_rf (mR m t 1)) cok11 1 4 rfl (by decide +kernel) k1 (by decide +kernel) tw_441 rfl ?_
  obtain ⟨b2, e3, h⟩ := h
  rw [e3]
  refine at_iload_n (i := 1) 1 5 rfl (by decide +kernel) rfl ?_
  obtain ⟨k4, h⟩ := h
  refine at_callV mb_Land_hasGrower tw_666 tw_667 cok3 k4 (index := 139) tw_665 [.int (l1)] [] rfl rfl (by decide) 8 rfl (by decide +kernel) (Call.toI (CI.monoE h (fun x5 m6 h y7 => ?_)))
  have k8 : mK m6 t = 12 := y7.k k1 (by decide)
  have k9 : mK m6 b2 = 4 := y7.k k4 (by decide)
  have e10 : mR m6 t 1 = some b2 := y7.r k1 (by decide) rfl e3
  refine at_if_eq (off := 13) 21 11 rfl (by decide +kernel) (by decide +kernel) (fun c11 => ?_) (fun c11 => ?_)
  · rw [if_pos c11] at h
    refine at_bipush (n := (-2)) (-2 : Int32) 23 rfl (by decide +kernel) (by decide +kernel) ?_
    exact at_iret rfl (by decide +kernel) h
  · rw [if_neg c11] at h
    refine at_iload_n (i := 2) 2 12 rfl (by decide +kernel) rfl ?_
    refine at_iconst (n := 0) (0 : Int32) 13 rfl (by decide +kernel) (by decide +kernel) ?_
    refine at_ldc (index := 143) (500000 : Int32) 15 rfl (by decide +kernel) tw_669 ?_
    refine at_callS mb_SL_isWithin tw_471 (index := 64) tw_470 [.int (l2), .int ((0 : Int32)), .int ((500000 : Int32))] [] rfl rfl (by decide) 18 rfl (by decide +kernel) (Call.toI (CI.monoE h (fun x12 m13 h y14 => ?_)))
    have k15 : mK m13 t = 12 := y14.k k8 (by decide)
    have k16 : mK m13 b2 = 4 := y14.k k9 (by decide)
    have e17 : mR m13 t 1 = some b2 := y14.r k8 (by decide) rfl e10
    refine at_if_ne (off := 6) 24 21 rfl (by decide +kernel) (by decide +kernel) (fun c18 => ?_) (fun c18 => ?_)
    · rw [if_neg c18] at h
      refine at_aload_n (i := 0) 0 25 rfl (by decide +kernel) rfl ?_
      refine at_get (index := 21) (v := va_rf (mR m13 t 1)) cok11 1 28 rfl (by decide +kernel) k15 (by decide +kernel) tw_441 rfl ?_
      rw [e17]
      refine at_iload_n (i := 1) 1 29 rfl (by decide +kernel) rfl ?_
      refine at_iload_n (i := 2) 2 30 rfl (by decide +kernel) rfl ?_
      refine at_callV mb_Land_tellCrop tw_671 tw_672 cok3 k16 (index := 144) tw_670 [.int (l1), .int (l2)] [] rfl rfl (by decide) 33 rfl (by decide +kernel) (Call.toV (CV.monoE h (fun m19 h y20 => ?_)))
      have k21 : mK m19 t = 12 := y20.k k15 (by decide)
      have k22 : mK m19 b2 = 4 := y20.k k16 (by decide)
      have e23 : mR m19 t 1 = some b2 := y20.r k15 (by decide) rfl e17
      refine at_iconst (n := 0) (0 : Int32) 34 rfl (by decide +kernel) (by decide +kernel) ?_
      exact at_iret rfl (by decide +kernel) h
    · rw [if_pos c18] at h
      refine at_bipush (n := (-2)) (-2 : Int32) 23 rfl (by decide +kernel) (by decide +kernel) ?_
      exact at_iret rfl (by decide +kernel) h
set_option maxRecDepth 20000 in
set_option maxHeartbeats 4000000 in
theorem bk_SL_crops_96 (g : Gc) {lv : Nat} {t : Nat} {l1 : Int32} {l2 : Int32} {m : Mm} {Q : Int32 → Mm → Prop} (h : mK m t = 12 ∧ (∃ b2, mR m t 1 = some b2 ∧ (mK m b2 = 4 ∧ (if (mI m b2 8) ≤ (l2) then (Q (mI m b2 8) m) else (∃ b6, mR m t 6 = some b6 ∧ (mK m b6 = 8 ∧ (CJ g M_Rows_numberAt lv [va_rf (some b6), .int (l1), .int (l2)] m (fun x9 m10 => (CV g M_Land_tellCrop lv [va_rf (some b2), .int (l2), .int (x9.toInt32)] m10 (fun m17 => (At g M_SL_crops (lv + 1) 96 [(0, va_rf (some t)), (1, .int (l1)), (2, .int (l2 + (1 : Int32)))] [] m17 (QI Q)))))))))))) : At g M_SL_crops (lv + 1) 96 [(0, va_rf (some t)), (1, .int (l1)), (2, .int (l2))] [] m (QI Q) := by
  refine at_iload_n (i := 2) 2 97 rfl (by decide +kernel) rfl ?_
  refine at_aload_n (i := 0) 0 98 rfl (by decide +kernel) rfl ?_
  obtain ⟨k1, h⟩ := h
  refine at_get (index := 21) (v := va_rf (mR m t 1)) cok11 1 101 rfl (by decide +kernel) k1 (by decide +kernel) tw_441 rfl ?_
  obtain ⟨b2, e3, h⟩ := h
  rw [e3]
  obtain ⟨k4, h⟩ := h
  refine at_get (index := 103) (v := .int (mI m b2 8)) cok3 8 104 rfl (by decide +kernel) k4 (by decide +kernel) tw_298 rfl ?_
  refine at_icmp_ge (off := 27) 131 107 rfl (by decide +kernel) (by decide +kernel) (fun c5 => ?_) (fun c5 => ?_)
  · rw [if_pos c5] at h
    refine at_aload_n (i := 0) 0 132 rfl (by decide +kernel) rfl ?_
    refine at_get (index := 21) (v := va_rf (mR m t 1)) cok11 1 135 rfl (by decide +kernel) k1 (by decide +kernel) tw_441 rfl ?_
    rw [e3]
    refine at_get (index := 103) (v := .int (mI m b2 8)) cok3 8 138 rfl (by decide +kernel) k4 (by decide +kernel) tw_298 rfl ?_
    exact at_iret rfl (by decide +kernel) h
  · rw [if_neg c5] at h
    refine at_aload_n (i := 0) 0 108 rfl (by decide +kernel) rfl ?_
    refine at_get (index := 21) (v := va_rf (mR m t 1)) cok11 1 111 rfl (by decide +kernel) k1 (by decide +kernel) tw_441 rfl ?_
    rw [e3]
    refine at_iload_n (i := 2) 2 112 rfl (by decide +kernel) rfl ?_
    refine at_aload_n (i := 0) 0 113 rfl (by decide +kernel) rfl ?_
    refine at_get (index := 51) (v := va_rf (mR m t 6)) cok11 6 116 rfl (by decide +kernel) k1 (by decide +kernel) tw_446 rfl ?_
    obtain ⟨b6, e7, h⟩ := h
    rw [e7]
    refine at_iload_n (i := 1) 1 117 rfl (by decide +kernel) rfl ?_
    refine at_iload_n (i := 2) 2 118 rfl (by decide +kernel) rfl ?_
    obtain ⟨k8, h⟩ := h
    refine at_callV mb_Rows_numberAt tw_685 tw_686 cok7 k8 (index := 154) tw_684 [.int (l1), .int (l2)] [.int (l2), va_rf (some b2)] rfl rfl (by simp [va_rf_cat, cat_int, cat_long]) 121 rfl (by decide +kernel) (Call.toJ (CJ.monoE h (fun x9 m10 h y11 => ?_)))
    have k12 : mK m10 t = 12 := y11.k k1 (by decide)
    have k13 : mK m10 b2 = 4 := y11.k k4 (by decide)
    have k14 : mK m10 b6 = 8 := y11.k k8 (by decide)
    have e15 : mR m10 t 1 = some b2 := y11.r k1 (by decide) rfl e3
    have e16 : mR m10 t 6 = some b6 := y11.r k1 (by decide) rfl e7
    refine at_l2i 122 rfl (by decide +kernel) ?_
    refine at_callV mb_Land_tellCrop tw_671 tw_672 cok3 k13 (index := 144) tw_670 [.int (l2), .int (x9.toInt32)] [] rfl rfl (by decide) 125 rfl (by decide +kernel) (Call.toV (CV.monoE h (fun m17 h y18 => ?_)))
    have k19 : mK m17 t = 12 := y18.k k12 (by decide)
    have k20 : mK m17 b2 = 4 := y18.k k13 (by decide)
    have k21 : mK m17 b6 = 8 := y18.k k14 (by decide)
    have e22 : mR m17 t 1 = some b2 := y18.r k12 (by decide) rfl e15
    have e23 : mR m17 t 6 = some b6 := y18.r k12 (by decide) rfl e16
    refine at_iinc (i := 2) (n := 1) (lc' := [(0, va_rf (some t)), (1, .int (l1)), (2, .int (l2 + (1 : Int32)))]) (l2 + (1 : Int32)) 2 [1, 2, 0] 128 rfl (by decide +kernel) rfl (by rw [show Int32.ofInt 1 = (1 : Int32) from by decide +kernel]) (by decide +kernel) rfl ?_
    refine at_goto (off := (-32)) 96 (by decide +kernel) (by decide +kernel) ?_
    exact h
set_option maxRecDepth 20000 in
set_option maxHeartbeats 4000000 in
theorem bk_SL_crops_50 (g : Gc) {lv : Nat} {t : Nat} {l1 : Int32} {l2 : Int32} {m : Mm} {Q : Int32 → Mm → Prop} (h : mK m t = 12 ∧ (∃ b2, mR m t 1 = some b2 ∧ (mK m b2 = 4 ∧ (if (mI m b2 8) ≤ (l2) then (At g M_SL_crops (lv + 1) 96 [(0, va_rf (some t)), (1, .int (l1)), (2, .int ((0 : Int32)))] [] m (QI Q)) else (∃ b6, mR m t 6 = some b6 ∧ (mK m b6 = 8 ∧ (CJ g M_Rows_numberAt lv [va_rf (some b6), .int (l1), .int (l2)] m (fun x9 m10 => (if (x9) < ((0 : Int64)) then (Q (-4 : Int32) m10) else (if (x9) ≤ ((500000 : Int64)) then (At g M_SL_crops (lv + 1) 50 [(0, va_rf (some t)), (1, .int (l1)), (2, .int (l2 + (1 : Int32)))] [] m10 (QI Q)) else (Q (-4 : Int32) m10))))))))))) : At g M_SL_crops (lv + 1) 50 [(0, va_rf (some t)), (1, .int (l1)), (2, .int (l2))] [] m (QI Q) := by
  refine at_iload_n (i := 2) 2 51 rfl (by decide +kernel) rfl ?_
  refine at_aload_n (i := 0) 0 52 rfl (by decide +kernel) rfl ?_
  obtain ⟨k1, h⟩ := h
  refine at_get (index := 21) (v := va_rf (mR m t 1)) cok11 1 55 rfl (by decide +kernel) k1 (by decide +kernel) tw_441 rfl ?_
  obtain ⟨b2, e3, h⟩ := h
  rw [e3]
  obtain ⟨k4, h⟩ := h
  refine at_get (index := 103) (v := .int (mI m b2 8)) cok3 8 58 rfl (by decide +kernel) k4 (by decide +kernel) tw_298 rfl ?_
  refine at_icmp_ge (off := 36) 94 61 rfl (by decide +kernel) (by decide +kernel) (fun c5 => ?_) (fun c5 => ?_)
  · rw [if_pos c5] at h
    refine at_iconst (n := 0) (0 : Int32) 95 rfl (by decide +kernel) (by decide +kernel) ?_
    refine at_istore_n (i := 2) (lc' := [(0, va_rf (some t)), (1, .int (l1)), (2, .int ((0 : Int32)))]) [1, 2, 0] 96 rfl (by decide +kernel) (by decide +kernel) rfl ?_
    exact h
  · rw [if_neg c5] at h
    refine at_aload_n (i := 0) 0 62 rfl (by decide +kernel) rfl ?_
    refine at_get (index := 51) (v := va_rf (mR m t 6)) cok11 6 65 rfl (by decide +kernel) k1 (by decide +kernel) tw_446 rfl ?_
    obtain ⟨b6, e7, h⟩ := h
    rw [e7]
    refine at_iload_n (i := 1) 1 66 rfl (by decide +kernel) rfl ?_
    refine at_iload_n (i := 2) 2 67 rfl (by decide +kernel) rfl ?_
    obtain ⟨k8, h⟩ := h
    refine at_callV mb_Rows_numberAt tw_685 tw_686 cok7 k8 (index := 154) tw_684 [.int (l1), .int (l2)] [] rfl rfl (by decide) 70 rfl (by decide +kernel) (Call.toJ (CJ.monoE h (fun x9 m10 h y11 => ?_)))
    have k12 : mK m10 t = 12 := y11.k k1 (by decide)
    have k13 : mK m10 b2 = 4 := y11.k k4 (by decide)
    have k14 : mK m10 b6 = 8 := y11.k k8 (by decide)
    have e15 : mR m10 t 1 = some b2 := y11.r k1 (by decide) rfl e3
    have e16 : mR m10 t 6 = some b6 := y11.r k1 (by decide) rfl e7
    refine at_lstore_n (i := 3) (lc' := [(0, va_rf (some t)), (1, .int (l1)), (2, .int (l2)), (3, .long (x9))]) [1, 2, 3, 0] 71 rfl (by decide +kernel) (by decide +kernel) rfl ?_
    refine at_lload_n (i := 3) 3 72 rfl (by decide +kernel) rfl ?_
    refine at_lconst (n := 0) (0 : Int64) 73 rfl (by decide +kernel) (by decide +kernel) ?_
    refine at_lif_lt (off := 11) 74 85 77 rfl rfl (by decide +kernel) (by decide +kernel) (by decide +kernel) (fun c17 => ?_) (fun c17 => ?_)
    · rw [if_pos c17] at h
      refine at_bipush (n := (-4)) (-4 : Int32) 87 rfl (by decide +kernel) (by decide +kernel) ?_
      exact at_iret rfl (by decide +kernel) h
    · rw [if_neg c17] at h
      refine at_lload_n (i := 3) 3 78 rfl (by decide +kernel) rfl ?_
      refine at_ldc2 (index := 158) (500000 : Int64) 81 rfl (by decide +kernel) tw_688 ?_
      refine at_lif_le (off := 6) 82 88 85 rfl rfl (by decide +kernel) (by decide +kernel) (by decide +kernel) (fun c18 => ?_) (fun c18 => ?_)
      · rw [if_pos c18] at h
        refine at_iinc (i := 2) (n := 1) (lc' := [(0, va_rf (some t)), (1, .int (l1)), (2, .int (l2 + (1 : Int32)))]) (l2 + (1 : Int32)) 2 [1, 2, 0] 91 rfl (by decide +kernel) rfl (by rw [show Int32.ofInt 1 = (1 : Int32) from by decide +kernel]) (by decide +kernel) rfl ?_
        refine at_goto (off := (-41)) 50 (by decide +kernel) (by decide +kernel) ?_
        exact h
      · rw [if_neg c18] at h
        refine at_bipush (n := (-4)) (-4 : Int32) 87 rfl (by decide +kernel) (by decide +kernel) ?_
        exact at_iret rfl (by decide +kernel) h
set_option maxRecDepth 20000 in
set_option maxHeartbeats 4000000 in
theorem en_SL_crops (g : Gc) {lv : Nat} {t : Nat} {l1 : Int32} {m : Mm} {Q : Int32 → Mm → Prop} (h : CI g M_SL_isWithin lv [.int (l1), .int ((0 : Int32)), .int ((3 : Int32))] m (fun x1 m2 => (if (x1) = 0 then (Q (-2 : Int32) m2) else (mK m2 t = 12 ∧ (∃ b6, mR m2 t 6 = some b6 ∧ (mK m2 b6 = 8 ∧ (CI g M_Rows_hasRow lv [va_rf (some b6), .int (l1)] m2 (fun x9 m10 => (if (x9) = 0 then (Q (-5 : Int32) m10) else (∃ b16, mR m10 b6 2 = some b16 ∧ (mK m10 b16 = 15 ∧ (vp_in l1 (mN m10 b16) ∧ (∃ b20, mR m10 t 1 = some b20 ∧ (mK m10 b20 = 4 ∧ (if (mI m10 b20 8) ≤ (mI m10 b16 l1.toNatClampNeg) then (At g M_SL_crops (lv + 1) 50 [(0, va_rf (some t)), (1, .int (l1)), (2, .int ((0 : Int32)))] [] m10 (QI Q)) else (Q (-6 : Int32) m10)))))))))))))))) : CI g M_SL_crops (lv + 1) [va_rf (some t), .int (l1)] m Q := by
  refine Call.of (by decide +kernel) (Nat.le_of_ble_eq_true rfl) ?_
  show At g M_SL_crops (lv + 1) 0 [(0, va_rf (some t)), (1, .int (l1))] [] m (QI Q)
  refine at_iload_n (i := 1) 1 1 rfl (by decide +kernel) rfl ?_
  refine at_iconst (n := 0) (0 : Int32) 2 rfl (by decide +kernel) (by decide +kernel) ?_
  refine at_iconst (n := 3) (3 : Int32) 3 rfl (by decide +kernel) (by decide +kernel) ?_
  refine at_callS mb_SL_isWithin tw_471 (index := 64) tw_470 [.int (l1), .int ((0 : Int32)), .int ((3 : Int32))] [] rfl rfl (by decide) 6 rfl (by decide +kernel) (Call.toI (CI.monoE h (fun x1 m2 h y3 => ?_)))
  refine at_if_ne (off := 6) 12 9 rfl (by decide +kernel) (by decide +kernel) (fun c4 => ?_) (fun c4 => ?_)
  · rw [if_neg c4] at h
    refine at_aload_n (i := 0) 0 13 rfl (by decide +kernel) rfl ?_
    obtain ⟨k5, h⟩ := h
    refine at_get (index := 51) (v := va_rf (mR m2 t 6)) cok11 6 16 rfl (by decide +kernel) k5 (by decide +kernel) tw_446 rfl ?_
    obtain ⟨b6, e7, h⟩ := h
    rw [e7]
    refine at_iload_n (i := 1) 1 17 rfl (by decide +kernel) rfl ?_
    obtain ⟨k8, h⟩ := h
    refine at_callV mb_Rows_hasRow tw_680 tw_681 cok7 k8 (index := 147) tw_679 [.int (l1)] [] rfl rfl (by decide) 20 rfl (by decide +kernel) (Call.toI (CI.monoE h (fun x9 m10 h y11 => ?_)))
    have k12 : mK m10 t = 12 := y11.k k5 (by decide)
    have k13 : mK m10 b6 = 8 := y11.k k8 (by decide)
    have e14 : mR m10 t 6 = some b6 := y11.r k5 (by decide) rfl e7
    refine at_if_ne (off := 6) 26 23 rfl (by decide +kernel) (by decide +kernel) (fun c15 => ?_) (fun c15 => ?_)
    · rw [if_neg c15] at h
      refine at_aload_n (i := 0) 0 27 rfl (by decide +kernel) rfl ?_
      refine at_get (index := 51) (v := va_rf (mR m10 t 6)) cok11 6 30 rfl (by decide +kernel) k12 (by decide +kernel) tw_446 rfl ?_
      rw [e14]
      refine at_get (index := 150) (v := va_rf (mR m10 b6 2)) cok7 2 33 rfl (by decide +kernel) k13 (by decide +kernel) tw_429 rfl ?_
      obtain ⟨b16, e17, h⟩ := h
      rw [e17]
      refine at_iload_n (i := 1) 1 34 rfl (by decide +kernel) rfl ?_
      obtain ⟨k18, h⟩ := h
      obtain ⟨v19, h⟩ := h
      refine at_iald 35 rfl (by decide +kernel) k18 v19 ?_
      refine at_aload_n (i := 0) 0 36 rfl (by decide +kernel) rfl ?_
      refine at_get (index := 21) (v := va_rf (mR m10 t 1)) cok11 1 39 rfl (by decide +kernel) k12 (by decide +kernel) tw_441 rfl ?_
      obtain ⟨b20, e21, h⟩ := h
      rw [e21]
      obtain ⟨k22, h⟩ := h
      refine at_get (index := 103) (v := .int (mI m10 b20 8)) cok3 8 42 rfl (by decide +kernel) k22 (by decide +kernel) tw_298 rfl ?_
      refine at_icmp_ge (off := 6) 48 45 rfl (by decide +kernel) (by decide +kernel) (fun c23 => ?_) (fun c23 => ?_)
      · rw [if_pos c23] at h
        refine at_iconst (n := 0) (0 : Int32) 49 rfl (by decide +kernel) (by decide +kernel) ?_
        refine at_istore_n (i := 2) (lc' := [(0, va_rf (some t)), (1, .int (l1)), (2, .int ((0 : Int32)))]) [1, 2, 0] 50 rfl (by decide +kernel) (by decide +kernel) rfl ?_
        exact h
      · rw [if_neg c23] at h
        refine at_bipush (n := (-6)) (-6 : Int32) 47 rfl (by decide +kernel) (by decide +kernel) ?_
        exact at_iret rfl (by decide +kernel) h
    · rw [if_pos c15] at h
      refine at_bipush (n := (-5)) (-5 : Int32) 25 rfl (by decide +kernel) (by decide +kernel) ?_
      exact at_iret rfl (by decide +kernel) h
  · rw [if_pos c4] at h
    refine at_bipush (n := (-2)) (-2 : Int32) 11 rfl (by decide +kernel) (by decide +kernel) ?_
    exact at_iret rfl (by decide +kernel) h
set_option maxRecDepth 20000 in
set_option maxHeartbeats 4000000 in
theorem en_SL_go (g : Gc) {lv : Nat} {t : Nat} {l1 : Int32} {m : Mm} {Q : Int32 → Mm → Prop} (h : CI g M_SL_isWithin lv [.int (l1), .int ((0 : Int32)), .int ((100 : Int32))] m (fun x1 m2 => (if (x1) = 0 then (Q (-2 : Int32) m2) else (mK m2 t = 12 ∧ (∃ b6, mR m2 t 1 = some b6 ∧ (mK m2 b6 = 4 ∧ (CI g M_SL_isWithin lv [.int (mI m2 b6 9), .int ((0 : Int32)), .int ((29 : Int32))] m2 (fun x9 m10 => (if (x9) = 0 then (Q (-9 : Int32) m10) else (∃ b16, mR m10 b6 3 = some b16 ∧ (mK m10 b16 = 9 ∧ (if (mI m10 b6 8) ≤ ((400 : Int32) - (mI m10 b16 1)) then (∃ b20, mR m10 t 5 = some b20 ∧ (mK m10 b20 = 20 ∧ (vp_in (mI m10 b6 9) (mN m10 b20) ∧ (CV g M_Land_passYear lv [va_rf (some b6), .int (l1), va_rf (mR m10 b20 (mI m10 b6 9).toNatClampNeg)] m10 (fun m24 => (Q (mI m24 b6 9) m24)))))) else (Q (-3 : Int32) m10))))))))))))) : CI g M_SL_go (lv + 1) [va_rf (some t), .int (l1)] m Q := by
  refine Call.of (by decide +kernel) (Nat.le_of_ble_eq_true rfl) ?_
  show At g M_SL_go (lv + 1) 0 [(0, va_rf (some t)), (1, .int (l1))] [] m (QI Q)
  refine at_iload_n (i := 1) 1 1 rfl (by decide +kernel) rfl ?_
  refine at_iconst (n := 0) (0 : Int32) 2 rfl (by decide +kernel) (by decide +kernel) ?_
  refine at_bipush (n := 100) (100 : Int32) 4 rfl (by decide +kernel) (by decide +kernel) ?_
  refine at_callS mb_SL_isWithin tw_471 (index := 64) tw_470 [.int (l1), .int ((0 : Int32)), .int ((100 : Int32))] [] rfl rfl (by decide) 7 rfl (by decide +kernel) (Call.toI (CI.monoE h (fun x1 m2 h y3 => ?_)))
  refine at_if_ne (off := 6) 13 10 rfl (by decide +kernel) (by decide +kernel) (fun c4 => ?_) (fun c4 => ?_)
  · rw [if_neg c4] at h
    refine at_aload_n (i := 0) 0 14 rfl (by decide +kernel) rfl ?_
    obtain ⟨k5, h⟩ := h
    refine at_get (index := 21) (v := va_rf (mR m2 t 1)) cok11 1 17 rfl (by decide +kernel) k5 (by decide +kernel) tw_441 rfl ?_
    obtain ⟨b6, e7, h⟩ := h
    rw [e7]
    obtain ⟨k8, h⟩ := h
    refine at_get (index := 106) (v := .int (mI m2 b6 9)) cok3 9 20 rfl (by decide +kernel) k8 (by decide +kernel) tw_300 rfl ?_
    refine at_iconst (n := 0) (0 : Int32) 21 rfl (by decide +kernel) (by decide +kernel) ?_
    refine at_bipush (n := 29) (29 : Int32) 23 rfl (by decide +kernel) (by decide +kernel) ?_
    refine at_callS mb_SL_isWithin tw_471 (index := 64) tw_470 [.int (mI m2 b6 9), .int ((0 : Int32)), .int ((29 : Int32))] [] rfl rfl (by decide) 26 rfl (by decide +kernel) (Call.toI (CI.monoE h (fun x9 m10 h y11 => ?_)))
    have k12 : mK m10 t = 12 := y11.k k5 (by decide)
    have k13 : mK m10 b6 = 4 := y11.k k8 (by decide)
    have e14 : mR m10 t 1 = some b6 := y11.r k5 (by decide) rfl e7
    refine at_if_ne (off := 6) 32 29 rfl (by decide +kernel) (by decide +kernel) (fun c15 => ?_) (fun c15 => ?_)
    · rw [if_neg c15] at h
      refine at_sipush (n := 400) (400 : Int32) 35 rfl (by decide +kernel) (by decide +kernel) ?_
      refine at_aload_n (i := 0) 0 36 rfl (by decide +kernel) rfl ?_
      refine at_get (index := 21) (v := va_rf (mR m10 t 1)) cok11 1 39 rfl (by decide +kernel) k12 (by decide +kernel) tw_441 rfl ?_
      rw [e14]
      refine at_get (index := 160) (v := va_rf (mR m10 b6 3)) cok3 3 42 rfl (by decide +kernel) k13 (by decide +kernel) tw_291 rfl ?_
      obtain ⟨b16, e17, h⟩ := h
      rw [e17]
      obtain ⟨k18, h⟩ := h
      refine at_get (index := 164) (v := .int (mI m10 b16 1)) cok8 1 45 rfl (by decide +kernel) k18 (by decide +kernel) tw_155 rfl ?_
      refine at_isub 46 rfl (by decide +kernel) ?_
      refine at_aload_n (i := 0) 0 47 rfl (by decide +kernel) rfl ?_
      refine at_get (index := 21) (v := va_rf (mR m10 t 1)) cok11 1 50 rfl (by decide +kernel) k12 (by decide +kernel) tw_441 rfl ?_
      rw [e14]
      refine at_get (index := 103) (v := .int (mI m10 b6 8)) cok3 8 53 rfl (by decide +kernel) k13 (by decide +kernel) tw_298 rfl ?_
      refine at_icmp_ge (off := 6) 59 56 rfl (by decide +kernel) (by decide +kernel) (fun c19 => ?_) (fun c19 => ?_)
      · rw [if_pos c19] at h
        refine at_aload_n (i := 0) 0 60 rfl (by decide +kernel) rfl ?_
        refine at_get (index := 21) (v := va_rf (mR m10 t 1)) cok11 1 63 rfl (by decide +kernel) k12 (by decide +kernel) tw_441 rfl ?_
        rw [e14]
        refine at_iload_n (i := 1) 1 64 rfl (by decide +kernel) rfl ?_
        refine at_aload_n (i := 0) 0 65 rfl (by decide +kernel) rfl ?_
        refine at_get (index := 44) (v := va_rf (mR m10 t 5)) cok11 5 68 rfl (by decide +kernel) k12 (by decide +kernel) tw_445 rfl ?_
        obtain ⟨b20, e21, h⟩ := h
        rw [e21]
        refine at_aload_n (i := 0) 0 69 rfl (by decide +kernel) rfl ?_
        refine at_get (index := 21) (v := va_rf (mR m10 t 1)) cok11 1 72 rfl (by decide +kernel) k12 (by decide +kernel) tw_441 rfl ?_
        rw [e14]
        refine at_get (index := 106) (v := .int (mI m10 b6 9)) cok3 9 75 rfl (by decide +kernel) k13 (by decide +kernel) tw_300 rfl ?_
        obtain ⟨k22, h⟩ := h
        obtain ⟨v23, h⟩ := h
        refine at_aaldLaw 76 rfl (by decide +kernel) k22 v23 ?_
        refine at_callV mb_Land_passYear tw_694 tw_695 cok3 k13 (index := 169) tw_693 [.int (l1), va_rf (mR m10 b20 (mI m10 b6 9).toNatClampNeg)] [] rfl rfl (by decide) 79 rfl (by decide +kernel) (Call.toV (CV.monoE h (fun m24 h y25 => ?_)))
        have k26 : mK m24 t = 12 := y25.k k12 (by decide)
        have k27 : mK m24 b6 = 4 := y25.k k13 (by decide)
        have k28 : mK m24 b16 = 9 := y25.k k18 (by decide)
        have k29 : mK m24 b20 = 20 := y25.k k22 (by decide)
        have e30 : mR m24 t 1 = some b6 := y25.r k12 (by decide) rfl e14
        have e31 : mR m24 b6 3 = some b16 := y25.r k13 (by decide) rfl e17
        have e32 : mR m24 t 5 = some b20 := y25.r k12 (by decide) rfl e21
        refine at_aload_n (i := 0) 0 80 rfl (by decide +kernel) rfl ?_
        refine at_get (index := 21) (v := va_rf (mR m24 t 1)) cok11 1 83 rfl (by decide +kernel) k26 (by decide +kernel) tw_441 rfl ?_
        rw [e30]
        refine at_get (index := 106) (v := .int (mI m24 b6 9)) cok3 9 86 rfl (by decide +kernel) k27 (by decide +kernel) tw_300 rfl ?_
        exact at_iret rfl (by decide +kernel) h
      · rw [if_neg c19] at h
        refine at_bipush (n := (-3)) (-3 : Int32) 58 rfl (by decide +kernel) (by decide +kernel) ?_
        exact at_iret rfl (by decide +kernel) h
    · rw [if_pos c15] at h
      refine at_bipush (n := (-9)) (-9 : Int32) 31 rfl (by decide +kernel) (by decide +kernel) ?_
      exact at_iret rfl (by decide +kernel) h
  · rw [if_pos c4] at h
    refine at_bipush (n := (-2)) (-2 : Int32) 12 rfl (by decide +kernel) (by decide +kernel) ?_
    exact at_iret rfl (by decide +kernel) h
set_option maxRecDepth 20000 in
set_option maxHeartbeats 4000000 in
theorem en_SL_right (g : Gc) {lv : Nat} {t : Nat} {l1 : Int32} {l2 : Int32} {l3 : Int32} {m : Mm} {Q : Int32 → Mm → Prop} (h : mK m t = 12 ∧ (∃ b2, mR m t 1 = some b2 ∧ (mK m b2 = 4 ∧ (CI g M_Land_hasGrower lv [va_rf (some b2), .int (l1)] m (fun x5 m6 => (if (x5) = 0 then (Q (-1000000 : Int32) m6) else (CI g M_SL_isWithin lv [.int (l2), .int ((0 : Int32)), .int ((mI m6 b2 9) - (1 : Int32))] m6 (fun x12 m13 => (if (x12) = 0 then (Q (-1000000 : Int32) m13) else (CI g M_SL_isWithin lv [.int (l3), .int ((0 : Int32)), .int ((500000 : Int32))] m13 (fun x19 m20 => (if (x19) = 0 then (Q (-1000000 : Int32) m20) else (CI g M_Land_putRight lv [va_rf (some b2), .int (l1), .int (l2), .int (l3)] m20 (fun x26 m27 => (Q x26 m27))))))))))))))) : CI g M_SL_right (lv + 1) [va_rf (some t), .int (l1), .int (l2), .int (l3)] m Q := by
  refine Call.of (by decide +kernel) (Nat.le_of_ble_eq_true rfl) ?_
  show At g M_SL_right (lv + 1) 0 [(0, va_rf (some t)), (1, .int (l1)), (2, .int (l2)), (3, .int (l3))] [] m (QI Q)
  refine at_aload_n (i := 0) 0 1 rfl (by decide +kernel) rfl ?_
  obtain ⟨k1, h⟩ := h
  refine at_get (index := 21) (v := va_rf (mR m t 1)) cok11 1 4 rfl (by decide +kernel) k1 (by decide +kernel) tw_441 rfl ?_
  obtain ⟨b2, e3, h⟩ := h
  rw [e3]
  refine at_iload_n (i := 1) 1 5 rfl (by decide +kernel) rfl ?_
  obtain ⟨k4, h⟩ := h
  refine at_callV mb_Land_hasGrower tw_666 tw_667 cok3 k4 (index := 139) tw_665 [.int (l1)] [] rfl rfl (by decide) 8 rfl (by decide +kernel) (Call.toI (CI.monoE h (fun x5 m6 h y7 => ?_)))
  have k8 : mK m6 t = 12 := y7.k k1 (by decide)
  have k9 : mK m6 b2 = 4 := y7.k k4 (by decide)
  have e10 : mR m6 t 1 = some b2 := y7.r k1 (by decide) rfl e3
  refine at_if_eq (off := 30) 38 11 rfl (by decide +kernel) (by decide +kernel) (fun c11 => ?_) (fun c11 => ?_)
  · rw [if_pos c11] at h
    refine at_ldc (index := 173) (-1000000 : Int32) 40 rfl (by decide +kernel) tw_894 ?_
    exact at_iret rfl (by decide +kernel) h
  · rw [if_neg c11] at h
    refine at_iload_n (i := 2) 2 12 rfl (by decide +kernel) rfl ?_
    refine at_iconst (n := 0) (0 : Int32) 13 rfl (by decide +kernel) (by decide +kernel) ?_
    refine at_aload_n (i := 0) 0 14 rfl (by decide +kernel) rfl ?_
    refine at_get (index := 21) (v := va_rf (mR m6 t 1)) cok11 1 17 rfl (by decide +kernel) k8 (by decide +kernel) tw_441 rfl ?_
    rw [e10]
    refine at_get (index := 106) (v := .int (mI m6 b2 9)) cok3 9 20 rfl (by decide +kernel) k9 (by decide +kernel) tw_300 rfl ?_
    refine at_iconst (n := 1) (1 : Int32) 21 rfl (by decide +kernel) (by decide +kernel) ?_
    refine at_isub 22 rfl (by decide +kernel) ?_
    refine at_callS mb_SL_isWithin tw_471 (index := 64) tw_470 [.int (l2), .int ((0 : Int32)), .int ((mI m6 b2 9) - (1 : Int32))] [] rfl rfl (by decide) 25 rfl (by decide +kernel) (Call.toI (CI.monoE h (fun x12 m13 h y14 => ?_)))
    have k15 : mK m13 t = 12 := y14.k k8 (by decide)
    have k16 : mK m13 b2 = 4 := y14.k k9 (by decide)
    have e17 : mR m13 t 1 = some b2 := y14.r k8 (by decide) rfl e10
    refine at_if_eq (off := 13) 38 28 rfl (by decide +kernel) (by decide +kernel) (fun c18 => ?_) (fun c18 => ?_)
    · rw [if_pos c18] at h
      refine at_ldc (index := 173) (-1000000 : Int32) 40 rfl (by decide +kernel) tw_894 ?_
      exact at_iret rfl (by decide +kernel) h
    · rw [if_neg c18] at h
      refine at_iload_n (i := 3) 3 29 rfl (by decide +kernel) rfl ?_
      refine at_iconst (n := 0) (0 : Int32) 30 rfl (by decide +kernel) (by decide +kernel) ?_
      refine at_ldc (index := 143) (500000 : Int32) 32 rfl (by decide +kernel) tw_669 ?_
      refine at_callS mb_SL_isWithin tw_471 (index := 64) tw_470 [.int (l3), .int ((0 : Int32)), .int ((500000 : Int32))] [] rfl rfl (by decide) 35 rfl (by decide +kernel) (Call.toI (CI.monoE h (fun x19 m20 h y21 => ?_)))
      have k22 : mK m20 t = 12 := y21.k k15 (by decide)
      have k23 : mK m20 b2 = 4 := y21.k k16 (by decide)
      have e24 : mR m20 t 1 = some b2 := y21.r k15 (by decide) rfl e17
      refine at_if_ne (off := 6) 41 38 rfl (by decide +kernel) (by decide +kernel) (fun c25 => ?_) (fun c25 => ?_)
      · rw [if_neg c25] at h
        refine at_aload_n (i := 0) 0 42 rfl (by decide +kernel) rfl ?_
        refine at_get (index := 21) (v := va_rf (mR m20 t 1)) cok11 1 45 rfl (by decide +kernel) k22 (by decide +kernel) tw_441 rfl ?_
        rw [e24]
        refine at_iload_n (i := 1) 1 46 rfl (by decide +kernel) rfl ?_
        refine at_iload_n (i := 2) 2 47 rfl (by decide +kernel) rfl ?_
        refine at_iload_n (i := 3) 3 48 rfl (by decide +kernel) rfl ?_
        refine at_callV mb_Land_putRight tw_896 tw_897 cok3 k23 (index := 174) tw_895 [.int (l1), .int (l2), .int (l3)] [] rfl rfl (by decide) 51 rfl (by decide +kernel) (Call.toI (CI.monoE h (fun x26 m27 h y28 => ?_)))
        have k29 : mK m27 t = 12 := y28.k k22 (by decide)
        have k30 : mK m27 b2 = 4 := y28.k k23 (by decide)
        have e31 : mR m27 t 1 = some b2 := y28.r k22 (by decide) rfl e24
        exact at_iret rfl (by decide +kernel) h
      · rw [if_pos c25] at h
        refine at_ldc (index := 173) (-1000000 : Int32) 40 rfl (by decide +kernel) tw_894 ?_
        exact at_iret rfl (by decide +kernel) h
set_option maxRecDepth 20000 in
set_option maxHeartbeats 4000000 in
theorem en_SL_split (g : Gc) {lv : Nat} {t : Nat} {l1 : Int32} {l2 : Int32} {m : Mm} {Q : Int32 → Mm → Prop} (h : mK m t = 12 ∧ (∃ b2, mR m t 1 = some b2 ∧ (mK m b2 = 4 ∧ (∃ b5, mR m b2 3 = some b5 ∧ (mK m b5 = 9 ∧ (CR g M_Store_find lv [va_rf (some b5), .int (l1)] m (fun x8 m9 => (if (x8 : Option Nat) = none then (Q (-2 : Int32) m9) else (if (l2) < ((1 : Int32)) then (Q (-2 : Int32) m9) else (∃ b18, x8 = some b18 ∧ (mK m9 b18 = 7 ∧ (if (l2) < (mI m9 b18 1) then (CI g M_Store_isFull lv [va_rf (some b5)] m9 (fun x22 m23 => (if (x22) = 0 then (CI g M_Receipt_isPledged lv [va_rf (some b18)] m23 (fun x32 m33 => (if (x32) = 0 then (∀ m42, m42 = sI m33 b18 1 ((mI m33 b18 1) - l2) → (CI g M_Store_issue lv [va_rf (some b5), .int (mI m42 b18 0), .int (l2), .int (mI m42 b18 2)] m42 (fun x51 m52 => (Q x51 m52)))) else (Q (-7 : Int32) m33)))) else (Q (-3 : Int32) m23)))) else (Q (-2 : Int32) m9))))))))))))) : CI g M_SL_split (lv + 1) [va_rf (some t), .int (l1), .int (l2)] m Q := by
  refine Call.of (by decide +kernel) (Nat.le_of_ble_eq_true rfl) ?_
  show At g M_SL_split (lv + 1) 0 [(0, va_rf (some t)), (1, .int (l1)), (2, .int (l2))] [] m (QI Q)
  refine at_aload_n (i := 0) 0 1 rfl (by decide +kernel) rfl ?_
  obtain ⟨k1, h⟩ := h
  refine at_get (index := 21) (v := va_rf (mR m t 1)) cok11 1 4 rfl (by decide +kernel) k1 (by decide +kernel) tw_441 rfl ?_
  obtain ⟨b2, e3, h⟩ := h
  rw [e3]
  obtain ⟨k4, h⟩ := h
  refine at_get (index := 160) (v := va_rf (mR m b2 3)) cok3 3 7 rfl (by decide +kernel) k4 (by decide +kernel) tw_291 rfl ?_
  obtain ⟨b5, e6, h⟩ := h
  rw [e6]
  refine at_iload_n (i := 1) 1 8 rfl (by decide +kernel) rfl ?_
  obtain ⟨k7, h⟩ := h
  refine at_callV mb_Store_find tw_904 tw_905 cok8 k7 (index := 178) tw_903 [.int (l1)] [] rfl rfl (by decide) 11 rfl (by decide +kernel) (Call.toR (CR.monoE h (fun x8 m9 h y10 => ?_)))
  have k11 : mK m9 t = 12 := y10.k k1 (by decide)
  have k12 : mK m9 b2 = 4 := y10.k k4 (by decide)
  have k13 : mK m9 b5 = 9 := y10.k k7 (by decide)
  have e14 : mR m9 t 1 = some b2 := y10.r k1 (by decide) rfl e3
  have e15 : mR m9 b2 3 = some b5 := y10.r k4 (by decide) rfl e6
  refine at_astore_n (i := 3) (lc' := [(0, va_rf (some t)), (2, .int (l2)), (3, va_rf (x8))]) [1, 3, 0] 12 rfl (by decide +kernel) (by decide +kernel) rfl ?_
  refine at_aload_n (i := 3) 2 13 rfl (by decide +kernel) rfl ?_
  refine at_ifnull (off := 16) 29 16 rfl (by decide +kernel) (by decide +kernel) (fun c16 => ?_) (fun c16 => ?_)
  · rw [if_pos c16] at h
    refine at_bipush (n := (-2)) (-2 : Int32) 31 rfl (by decide +kernel) (by decide +kernel) ?_
    exact at_iret rfl (by decide +kernel) h
  · rw [if_neg c16] at h
    refine at_iload_n (i := 2) 1 17 rfl (by decide +kernel) rfl ?_
    refine at_iconst (n := 1) (1 : Int32) 18 rfl (by decide +kernel) (by decide +kernel) ?_
    refine at_icmp_lt (off := 11) 29 21 rfl (by decide +kernel) (by decide +kernel) (fun c17 => ?_) (fun c17 => ?_)
    · rw [if_pos c17] at h
      refine at_bipush (n := (-2)) (-2 : Int32) 31 rfl (by decide +kernel) (by decide +kernel) ?_
      exact at_iret rfl (by decide +kernel) h
    · rw [if_neg c17] at h
      refine at_iload_n (i := 2) 1 22 rfl (by decide +kernel) rfl ?_
      refine at_aload_n (i := 3) 2 23 rfl (by decide +kernel) rfl ?_
      obtain ⟨b18, e19, h⟩ := h
      rw [e19]
      obtain ⟨k20, h⟩ := h
      refine at_get (index := 182) (v := .int (mI m9 b18 1)) cok6 1 26 rfl (by decide +kernel) k20 (by decide +kernel) tw_777 rfl ?_
      refine at_icmp_lt (off := 6) 32 29 rfl (by decide +kernel) (by decide +kernel) (fun c21 => ?_) (fun c21 => ?_)
      · rw [if_pos c21] at h
        refine at_aload_n (i := 0) 0 33 rfl (by decide +kernel) rfl ?_
        refine at_get (index := 21) (v := va_rf (mR m9 t 1)) cok11 1 36 rfl (by decide +kernel) k11 (by decide +kernel) tw_441 rfl ?_
        rw [e14]
        refine at_get (index := 160) (v := va_rf (mR m9 b2 3)) cok3 3 39 rfl (by decide +kernel) k12 (by decide +kernel) tw_291 rfl ?_
        rw [e15]
        refine at_callV mb_Store_isFull tw_765 tw_766 cok8 k13 (index := 187) tw_908 [] [] rfl rfl (by decide) 42 rfl (by decide +kernel) (Call.toI (CI.monoE h (fun x22 m23 h y24 => ?_)))
        have k25 : mK m23 t = 12 := y24.k k11 (by decide)
        have k26 : mK m23 b2 = 4 := y24.k k12 (by decide)
        have k27 : mK m23 b5 = 9 := y24.k k13 (by decide)
        have k28 : mK m23 b18 = 7 := y24.k k20 (by decide)
        have e29 : mR m23 t 1 = some b2 := y24.r k11 (by decide) rfl e14
        have e30 : mR m23 b2 3 = some b5 := y24.r k12 (by decide) rfl e15
        refine at_if_eq (off := 6) 48 45 rfl (by decide +kernel) (by decide +kernel) (fun c31 => ?_) (fun c31 => ?_)
        · rw [if_pos c31] at h
          refine at_aload_n (i := 3) 2 49 rfl (by decide +kernel) rfl ?_
          refine at_callV mb_Receipt_isPledged tw_910 tw_911 cok6 k28 (index := 191) tw_909 [] [] rfl rfl (by decide) 52 rfl (by decide +kernel) (Call.toI (CI.monoE h (fun x32 m33 h y34 => ?_)))
          have k35 : mK m33 t = 12 := y34.k k25 (by decide)
          have k36 : mK m33 b2 = 4 := y34.k k26 (by decide)
          have k37 : mK m33 b5 = 9 := y34.k k27 (by decide)
          have k38 : mK m33 b18 = 7 := y34.k k28 (by decide)
          have e39 : mR m33 t 1 = some b2 := y34.r k25 (by decide) rfl e29
          have e40 : mR m33 b2 3 = some b5 := y34.r k26 (by decide) rfl e30
          refine at_if_eq (off := 6) 58 55 rfl (by decide +kernel) (by decide +kernel) (fun c41 => ?_) (fun c41 => ?_)
          · rw [if_pos c41] at h
            refine at_aload_n (i := 3) 2 59 rfl (by decide +kernel) rfl ?_
            refine at_dup 60 rfl (by decide +kernel) (va_rf_cat _) ?_
            refine at_get (index := 182) (v := .int (mI m33 b18 1)) cok6 1 63 rfl (by decide +kernel) k38 (by decide +kernel) tw_777 rfl ?_
            refine at_iload_n (i := 2) 1 64 rfl (by decide +kernel) rfl ?_
            refine at_isub 65 rfl (by decide +kernel) ?_
            refine at_putI (index := 182) cok6 1 68 rfl (by decide +kernel) k38 (by decide +kernel) tw_777 rfl rfl rfl (fun m42 e43 => ?_)
            replace h := h m42 e43
            have x44 : Ext m33 m42 := by rw [e43]; exact Ext.sI _ _ _ _
            have k45 : mK m42 t = 12 := x44.k k35 (by decide)
            have k46 : mK m42 b2 = 4 := x44.k k36 (by decide)
            have k47 : mK m42 b5 = 9 := x44.k k37 (by decide)
            have k48 : mK m42 b18 = 7 := x44.k k38 (by decide)
            have e49 : mR m42 t 1 = some b2 := x44.r k35 (by decide) rfl e39
            have e50 : mR m42 b2 3 = some b5 := x44.r k36 (by decide) rfl e40
            refine at_aload_n (i := 0) 0 69 rfl (by decide +kernel) rfl ?_
            refine at_get (index := 21) (v := va_rf (mR m42 t 1)) cok11 1 72 rfl (by decide +kernel) k45 (by decide +kernel) tw_441 rfl ?_
            rw [e49]
            refine at_get (index := 160) (v := va_rf (mR m42 b2 3)) cok3 3 75 rfl (by decide +kernel) k46 (by decide +kernel) tw_291 rfl ?_
            rw [e50]
            refine at_aload_n (i := 3) 2 76 rfl (by decide +kernel) rfl ?_
            refine at_get (index := 194) (v := .int (mI m42 b18 0)) cok6 0 79 rfl (by decide +kernel) k48 (by decide +kernel) tw_774 rfl ?_
            refine at_iload_n (i := 2) 1 80 rfl (by decide +kernel) rfl ?_
            refine at_aload_n (i := 3) 2 81 rfl (by decide +kernel) rfl ?_
            refine at_get (index := 197) (v := .int (mI m42 b18 2)) cok6 2 84 rfl (by decide +kernel) k48 (by decide +kernel) tw_780 rfl ?_
            refine at_callV mb_Store_issue tw_761 tw_762 cok8 k47 (index := 198) tw_913 [.int (mI m42 b18 0), .int (l2), .int (mI m42 b18 2)] [] rfl rfl (by decide) 87 rfl (by decide +kernel) (Call.toI (CI.monoE h (fun x51 m52 h y53 => ?_)))
            have k54 : mK m52 t = 12 := y53.k k45 (by decide)
            have k55 : mK m52 b2 = 4 := y53.k k46 (by decide)
            have k56 : mK m52 b5 = 9 := y53.k k47 (by decide)
            have k57 : mK m52 b18 = 7 := y53.k k48 (by decide)
            have e58 : mR m52 t 1 = some b2 := y53.r k45 (by decide) rfl e49
            have e59 : mR m52 b2 3 = some b5 := y53.r k46 (by decide) rfl e50
            exact at_iret rfl (by decide +kernel) h
          · rw [if_neg c41] at h
            refine at_bipush (n := (-7)) (-7 : Int32) 57 rfl (by decide +kernel) (by decide +kernel) ?_
            exact at_iret rfl (by decide +kernel) h
        · rw [if_neg c31] at h
          refine at_bipush (n := (-3)) (-3 : Int32) 47 rfl (by decide +kernel) (by decide +kernel) ?_
          exact at_iret rfl (by decide +kernel) h
      · rw [if_neg c21] at h
        refine at_bipush (n := (-2)) (-2 : Int32) 31 rfl (by decide +kernel) (by decide +kernel) ?_
        exact at_iret rfl (by decide +kernel) h
set_option maxRecDepth 20000 in
set_option maxHeartbeats 4000000 in
theorem en_SL_give (g : Gc) {lv : Nat} {t : Nat} {l1 : Int32} {l2 : Int32} {m : Mm} {Q : Int32 → Mm → Prop} (h : mK m t = 12 ∧ (∃ b2, mR m t 1 = some b2 ∧ (mK m b2 = 4 ∧ (∃ b5, mR m b2 3 = some b5 ∧ (mK m b5 = 9 ∧ (CR g M_Store_find lv [va_rf (some b5), .int (l1)] m (fun x8 m9 => (if (x8 : Option Nat) = none then (Q (-2 : Int32) m9) else (∃ b17, x8 = some b17 ∧ (mK m9 b17 = 7 ∧ (if (mI m9 b17 1) = 0 then (Q (-2 : Int32) m9) else (CI g M_Land_hasGrower lv [va_rf (some b2), .int (l2)] m9 (fun x21 m22 => (if (x21) = 0 then (Q (-2 : Int32) m22) else (CI g M_Receipt_isPledged lv [va_rf (some b17)] m22 (fun x31 m32 => (if (x31) = 0 then (∀ m41, m41 = sI m32 b17 0 l2 → (Q (0 : Int32) m41)) else (Q (-7 : Int32) m32)))))))))))))))))) : CI g M_SL_give (lv + 1) [va_rf (some t), .int (l1), .int (l2)] m Q := by
  refine Call.of (by decide +kernel) (Nat.le_of_ble_eq_true rfl) ?_
  show At g M_SL_give (lv + 1) 0 [(0, va_rf (some t)), (1, .int (l1)), (2, .int (l2))] [] m (QI Q)
  refine at_aload_n (i := 0) 0 1 rfl (by decide +kernel) rfl ?_
  obtain ⟨k1, h⟩ := h
  refine at_get (index := 21) (v := va_rf (mR m t 1)) cok11 1 4 rfl (by decide +kernel) k1 (by decide +kernel) tw_441 rfl ?_
  obtain ⟨b2, e3, h⟩ := h
  rw [e3]
  obtain ⟨k4, h⟩ := h
  refine at_get (index := 160) (v := va_rf (mR m b2 3)) cok3 3 7 rfl (by decide +kernel) k4 (by decide +kernel) tw_291 rfl ?_
  obtain ⟨b5, e6, h⟩ := h
  rw [e6]
  refine at_iload_n (i := 1) 1 8 rfl (by decide +kernel) rfl ?_
  obtain ⟨k7, h⟩ := h
  refine at_callV mb_Store_find tw_904 tw_905 cok8 k7 (index := 178) tw_903 [.int (l1)] [] rfl rfl (by decide) 11 rfl (by decide +kernel) (Call.toR (CR.monoE h (fun x8 m9 h y10 => ?_)))
  have k11 : mK m9 t = 12 := y10.k k1 (by decide)
  have k12 : mK m9 b2 = 4 := y10.k k4 (by decide)
  have k13 : mK m9 b5 = 9 := y10.k k7 (by decide)
  have e14 : mR m9 t 1 = some b2 := y10.r k1 (by decide) rfl e3
  have e15 : mR m9 b2 3 = some b5 := y10.r k4 (by decide) rfl e6
  refine at_astore_n (i := 3) (lc' := [(0, va_rf (some t)), (2, .int (l2)), (3, va_rf (x8))]) [1, 3, 0] 12 rfl (by decide +kernel) (by decide +kernel) rfl ?_
  refine at_aload_n (i := 3) 2 13 rfl (by decide +kernel) rfl ?_
  refine at_ifnull (off := 21) 34 16 rfl (by decide +kernel) (by decide +kernel) (fun c16 => ?_) (fun c16 => ?_)
  · rw [if_pos c16] at h
    refine at_bipush (n := (-2)) (-2 : Int32) 36 rfl (by decide +kernel) (by decide +kernel) ?_
    exact at_iret rfl (by decide +kernel) h
  · rw [if_neg c16] at h
    refine at_aload_n (i := 3) 2 17 rfl (by decide +kernel) rfl ?_
    obtain ⟨b17, e18, h⟩ := h
    rw [e18]
    obtain ⟨k19, h⟩ := h
    refine at_get (index := 182) (v := .int (mI m9 b17 1)) cok6 1 20 rfl (by decide +kernel) k19 (by decide +kernel) tw_777 rfl ?_
    refine at_if_eq (off := 14) 34 23 rfl (by decide +kernel) (by decide +kernel) (fun c20 => ?_) (fun c20 => ?_)
    · rw [if_pos c20] at h
      refine at_bipush (n := (-2)) (-2 : Int32) 36 rfl (by decide +kernel) (by decide +kernel) ?_
      exact at_iret rfl (by decide +kernel) h
    · rw [if_neg c20] at h
      refine at_aload_n (i := 0) 0 24 rfl (by decide +kernel) rfl ?_
      refine at_get (index := 21) (v := va_rf (mR m9 t 1)) cok11 1 27 rfl (by decide +kernel) k11 (by decide +kernel) tw_441 rfl ?_
      rw [e14]
      refine at_iload_n (i := 2) 1 28 rfl (by decide +kernel) rfl ?_
      refine at_callV mb_Land_hasGrower tw_666 tw_667 cok3 k12 (index := 139) tw_665 [.int (l2)] [] rfl rfl (by decide) 31 rfl (by decide +kernel) (Call.toI (CI.monoE h (fun x21 m22 h y23 => ?_)))
      have k24 : mK m22 t = 12 := y23.k k11 (by decide)
      have k25 : mK m22 b2 = 4 := y23.k k12 (by decide)
      have k26 : mK m22 b5 = 9 := y23.k k13 (by decide)
      have k27 : mK m22 b17 = 7 := y23.k k19 (by decide)
      have e28 : mR m22 t 1 = some b2 := y23.r k11 (by decide) rfl e14
      have e29 : mR m22 b2 3 = some b5 := y23.r k12 (by decide) rfl e15
      refine at_if_ne (off := 6) 37 34 rfl (by decide +kernel) (by decide +kernel) (fun c30 => ?_) (fun c30 => ?_)
      · rw [if_neg c30] at h
        refine at_aload_n (i := 3) 2 38 rfl (by decide +kernel) rfl ?_
        refine at_callV mb_Receipt_isPledged tw_910 tw_911 cok6 k27 (index := 191) tw_909 [] [] rfl rfl (by decide) 41 rfl (by decide +kernel) (Call.toI (CI.monoE h (fun x31 m32 h y33 => ?_)))
        have k34 : mK m32 t = 12 := y33.k k24 (by decide)
        have k35 : mK m32 b2 = 4 := y33.k k25 (by decide)
        have k36 : mK m32 b5 = 9 := y33.k k26 (by decide)
        have k37 : mK m32 b17 = 7 := y33.k k27 (by decide)
        have e38 : mR m32 t 1 = some b2 := y33.r k24 (by decide) rfl e28
        have e39 : mR m32 b2 3 = some b5 := y33.r k25 (by decide) rfl e29
        refine at_if_eq (off := 6) 47 44 rfl (by decide +kernel) (by decide +kernel) (fun c40 => ?_) (fun c40 => ?_)
        · rw [if_pos c40] at h
          refine at_aload_n (i := 3) 2 48 rfl (by decide +kernel) rfl ?_
          refine at_iload_n (i := 2) 1 49 rfl (by decide +kernel) rfl ?_
          refine at_putI (index := 194) cok6 0 52 rfl (by decide +kernel) k37 (by decide +kernel) tw_774 rfl rfl rfl (fun m41 e42 => ?_)
          replace h := h m41 e42
          have x43 : Ext m32 m41 := by rw [e42]; exact Ext.sI _ _ _ _
          have k44 : mK m41 t = 12 := x43.k k34 (by decide)
          have k45 : mK m41 b2 = 4 := x43.k k35 (by decide)
          have k46 : mK m41 b5 = 9 := x43.k k36 (by decide)
          have k47 : mK m41 b17 = 7 := x43.k k37 (by decide)
          have e48 : mR m41 t 1 = some b2 := x43.r k34 (by decide) rfl e38
          have e49 : mR m41 b2 3 = some b5 := x43.r k35 (by decide) rfl e39
          refine at_iconst (n := 0) (0 : Int32) 53 rfl (by decide +kernel) (by decide +kernel) ?_
          exact at_iret rfl (by decide +kernel) h
        · rw [if_neg c40] at h
          refine at_bipush (n := (-7)) (-7 : Int32) 46 rfl (by decide +kernel) (by decide +kernel) ?_
          exact at_iret rfl (by decide +kernel) h
      · rw [if_pos c30] at h
        refine at_bipush (n := (-2)) (-2 : Int32) 36 rfl (by decide +kernel) (by decide +kernel) ?_
        exact at_iret rfl (by decide +kernel) h
set_option maxRecDepth 20000 in
set_option maxHeartbeats 4000000 in
theorem bk_SL_pledge_103 (g : Gc) {lv : Nat} {t : Nat} {l2 : Int32} {l3 : Int32} {l4 : Option Nat} {m : Mm} {Q : Int64 → Mm → Prop} (h : mK m t = 12 ∧ (∃ b2, mR m t 1 = some b2 ∧ (mK m b2 = 4 ∧ (CJ g M_Land_offer lv [va_rf (some b2), va_rf (l4), .int (l2)] m (fun x5 m6 => (if ((0 : Int64)) < (x5) then (CV g M_Land_lend lv [va_rf (some b2), va_rf (l4), .int (l2), .long (x5), .int ((mI m6 b2 9) + l3)] m6 (fun m12 => (Q x5 m12))) else (Q (-8 : Int64) m6))))))) : At g M_SL_pledge (lv + 1) 103 [(0, va_rf (some t)), (2, .int (l2)), (3, .int (l3)), (4, va_rf (l4))] [] m (QJ Q) := by
  refine at_aload_n (i := 0) 0 104 rfl (by decide +kernel) rfl ?_
  obtain ⟨k1, h⟩ := h
  refine at_get (index := 21) (v := va_rf (mR m t 1)) cok11 1 107 rfl (by decide +kernel) k1 (by decide +kernel) tw_441 rfl ?_
  obtain ⟨b2, e3, h⟩ := h
  rw [e3]
  refine at_aload (i := 4) 3 109 rfl (by decide +kernel) rfl ?_
  refine at_iload_n (i := 2) 1 110 rfl (by decide +kernel) rfl ?_
  obtain ⟨k4, h⟩ := h
  refine at_callV mb_Land_offer tw_925 tw_926 cok3 k4 (index := 217) tw_924 [va_rf (l4), .int (l2)] [] rfl rfl (by decide) 113 rfl (by decide +kernel) (Call.toJ (CJ.monoE h (fun x5 m6 h y7 => ?_)))
  have k8 : mK m6 t = 12 := y7.k k1 (by decide)
  have k9 : mK m6 b2 = 4 := y7.k k4 (by decide)
  have e10 : mR m6 t 1 = some b2 := y7.r k1 (by decide) rfl e3
  refine at_lstore (i := 6) (lc' := [(0, va_rf (some t)), (2, .int (l2)), (3, .int (l3)), (4, va_rf (l4)), (6, .long (x5))]) [1, 2, 3, 4, 0] 115 rfl (by decide +kernel) (by decide +kernel) rfl ?_
  refine at_lload (i := 6) 4 117 rfl (by decide +kernel) rfl ?_
  refine at_lconst (n := 0) (0 : Int64) 118 rfl (by decide +kernel) (by decide +kernel) ?_
  refine at_lif_gt (off := 7) 119 126 122 rfl rfl (by decide +kernel) (by decide +kernel) (by decide +kernel) (fun c11 => ?_) (fun c11 => ?_)
  · rw [if_pos c11] at h
    refine at_aload_n (i := 0) 0 127 rfl (by decide +kernel) rfl ?_
    refine at_get (index := 21) (v := va_rf (mR m6 t 1)) cok11 1 130 rfl (by decide +kernel) k8 (by decide +kernel) tw_441 rfl ?_
    rw [e10]
    refine at_aload (i := 4) 3 132 rfl (by decide +kernel) rfl ?_
    refine at_iload_n (i := 2) 1 133 rfl (by decide +kernel) rfl ?_
    refine at_lload (i := 6) 4 135 rfl (by decide +kernel) rfl ?_
    refine at_aload_n (i := 0) 0 136 rfl (by decide +kernel) rfl ?_
    refine at_get (index := 21) (v := va_rf (mR m6 t 1)) cok11 1 139 rfl (by decide +kernel) k8 (by decide +kernel) tw_441 rfl ?_
    rw [e10]
    refine at_get (index := 106) (v := .int (mI m6 b2 9)) cok3 9 142 rfl (by decide +kernel) k9 (by decide +kernel) tw_300 rfl ?_
    refine at_iload_n (i := 3) 2 143 rfl (by decide +kernel) rfl ?_
    refine at_iadd 144 rfl (by decide +kernel) ?_
    refine at_callV mb_Land_lend tw_931 tw_932 cok3 k9 (index := 223) tw_930 [va_rf (l4), .int (l2), .long (x5), .int ((mI m6 b2 9) + l3)] [] rfl rfl (by decide) 147 rfl (by decide +kernel) (Call.toV (CV.monoE h (fun m12 h y13 => ?_)))
    have k14 : mK m12 t = 12 := y13.k k8 (by decide)
    have k15 : mK m12 b2 = 4 := y13.k k9 (by decide)
    have e16 : mR m12 t 1 = some b2 := y13.r k8 (by decide) rfl e10
    refine at_lload (i := 6) 4 149 rfl (by decide +kernel) rfl ?_
    exact at_lret rfl (by decide +kernel) h
  · rw [if_neg c11] at h
    refine at_ldc2 (index := 221) (-8 : Int64) 125 rfl (by decide +kernel) tw_929 ?_
    exact at_lret rfl (by decide +kernel) h
set_option maxRecDepth 20000 in
set_option maxHeartbeats 4000000 in
theorem bk_SL_pledge_41 (g : Gc) {lv : Nat} {t : Nat} {l2 : Int32} {l3 : Int32} {l4 : Option Nat} {s0 : Int32} {m : Mm} {Q : Int64 → Mm → Prop} (h : if (s0) = 0 then (Q (-2 : Int64) m) else (CI g M_SL_isWithin lv [.int (l2), .int ((0 : Int32)), .int ((2 : Int32))] m (fun x2 m3 => (if (x2) = 0 then (Q (-2 : Int64) m3) else (CI g M_SL_isWithin lv [.int (l3), .int ((1 : Int32)), .int ((9 : Int32))] m3 (fun x6 m7 => (if (x6) = 0 then (Q (-2 : Int64) m7) else (∃ b10, l4 = some b10 ∧ (mK m7 b10 = 7 ∧ (if (mR m7 b10 4 : Option Nat) = none then (if (mR m7 b10 3 : Option Nat) = none then (At g M_SL_pledge (lv + 1) 103 [(0, va_rf (some t)), (2, .int (l2)), (3, .int (l3)), (4, va_rf (some b10))] [] m7 (QJ Q)) else (∃ b15, mR m7 b10 3 = some b15 ∧ (mK m7 b15 = 6 ∧ (if (mI m7 b15 0) = (l2) then (Q (-7 : Int64) m7) else (At g M_SL_pledge (lv + 1) 103 [(0, va_rf (some t)), (2, .int (l2)), (3, .int (l3)), (4, va_rf (some b10))] [] m7 (QJ Q)))))) else (Q (-7 : Int64) m7))))))))))) : At g M_SL_pledge (lv + 1) 41 [(0, va_rf (some t)), (2, .int (l2)), (3, .int (l3)), (4, va_rf (l4))] [.int (s0)] m (QJ Q) := by
  refine at_istore (i := 5) (lc' := [(0, va_rf (some t)), (2, .int (l2)), (3, .int (l3)), (4, va_rf (l4)), (5, .int (s0))]) [1, 2, 3, 4, 0] 43 rfl (by decide +kernel) (by decide +kernel) (by generalize l4 = rr; cases rr <;> rfl) ?_
  refine at_iload (i := 5) 4 45 rfl (by decide +kernel) rfl ?_
  refine at_if_eq (off := 22) 67 48 rfl (by decide +kernel) (by decide +kernel) (fun c1 => ?_) (fun c1 => ?_)
  · rw [if_pos c1] at h
    refine at_ldc2 (index := 201) (-2 : Int64) 70 rfl (by decide +kernel) tw_922 ?_
    exact at_lret rfl (by decide +kernel) h
  · rw [if_neg c1] at h
    refine at_iload_n (i := 2) 1 49 rfl (by decide +kernel) rfl ?_
    refine at_iconst (n := 0) (0 : Int32) 50 rfl (by decide +kernel) (by decide +kernel) ?_
    refine at_iconst (n := 2) (2 : Int32) 51 rfl (by decide +kernel) (by decide +kernel) ?_
    refine at_callS mb_SL_isWithin tw_471 (index := 64) tw_470 [.int (l2), .int ((0 : Int32)), .int ((2 : Int32))] [] rfl rfl (by decide) 54 rfl (by decide +kernel) (Call.toI (CI.monoE h (fun x2 m3 h y4 => ?_)))
    refine at_if_eq (off := 13) 67 57 rfl (by decide +kernel) (by decide +kernel) (fun c5 => ?_) (fun c5 => ?_)
    · rw [if_pos c5] at h
      refine at_ldc2 (index := 201) (-2 : Int64) 70 rfl (by decide +kernel) tw_922 ?_
      exact at_lret rfl (by decide +kernel) h
    · rw [if_neg c5] at h
      refine at_iload_n (i := 3) 2 58 rfl (by decide +kernel) rfl ?_
      refine at_iconst (n := 1) (1 : Int32) 59 rfl (by decide +kernel) (by decide +kernel) ?_
      refine at_bipush (n := 9) (9 : Int32) 61 rfl (by decide +kernel) (by decide +kernel) ?_
      refine at_callS mb_SL_isWithin tw_471 (index := 64) tw_470 [.int (l3), .int ((1 : Int32)), .int ((9 : Int32))] [] rfl rfl (by decide) 64 rfl (by decide +kernel) (Call.toI (CI.monoE h (fun x6 m7 h y8 => ?_)))
      refine at_if_ne (off := 7) 71 67 rfl (by decide +kernel) (by decide +kernel) (fun c9 => ?_) (fun c9 => ?_)
      · rw [if_neg c9] at h
        refine at_aload (i := 4) 3 73 rfl (by decide +kernel) rfl ?_
        obtain ⟨b10, e11, h⟩ := h
        rw [e11]
        obtain ⟨k12, h⟩ := h
        refine at_get (index := 203) (v := va_rf (mR m7 b10 4)) cok6 4 76 rfl (by decide +kernel) k12 (by decide +kernel) tw_788 rfl ?_
        refine at_ifnonnull (off := 23) 99 79 rfl (by decide +kernel) (by decide +kernel) (fun c13 => ?_) (fun c13 => ?_)
        · rw [if_neg c13] at h
          refine at_ldc2 (index := 215) (-7 : Int64) 102 rfl (by decide +kernel) tw_923 ?_
          exact at_lret rfl (by decide +kernel) h
        · rw [if_pos c13] at h
          refine at_aload (i := 4) 3 81 rfl (by decide +kernel) rfl ?_
          refine at_get (index := 207) (v := va_rf (mR m7 b10 3)) cok6 3 84 rfl (by decide +kernel) k12 (by decide +kernel) tw_784 rfl ?_
          refine at_ifnull (off := 19) 103 87 rfl (by decide +kernel) (by decide +kernel) (fun c14 => ?_) (fun c14 => ?_)
          · rw [if_pos c14] at h
            exact At.sub [0, 1, 2, 3] rfl h
          · rw [if_neg c14] at h
            refine at_aload (i := 4) 3 89 rfl (by decide +kernel) rfl ?_
            refine at_get (index := 207) (v := va_rf (mR m7 b10 3)) cok6 3 92 rfl (by decide +kernel) k12 (by decide +kernel) tw_784 rfl ?_
            obtain ⟨b15, e16, h⟩ := h
            rw [e16]
            obtain ⟨k17, h⟩ := h
            refine at_get (index := 210) (v := .int (mI m7 b15 0)) cok5 0 95 rfl (by decide +kernel) k17 (by decide +kernel) tw_941 rfl ?_
            refine at_iload_n (i := 2) 1 96 rfl (by decide +kernel) rfl ?_
            refine at_icmp_ne (off := 7) 103 99 rfl (by decide +kernel) (by decide +kernel) (fun c18 => ?_) (fun c18 => ?_)
            · rw [if_neg c18] at h
              exact At.sub [0, 1, 2, 3] rfl h
            · rw [if_pos c18] at h
              refine at_ldc2 (index := 215) (-7 : Int64) 102 rfl (by decide +kernel) tw_923 ?_
              exact at_lret rfl (by decide +kernel) h
      · rw [if_pos c9] at h
        refine at_ldc2 (index := 201) (-2 : Int64) 70 rfl (by decide +kernel) tw_922 ?_
        exact at_lret rfl (by decide +kernel) h
set_option maxRecDepth 20000 in
set_option maxHeartbeats 4000000 in
theorem bk_SL_pledge_40 (g : Gc) {lv : Nat} {t : Nat} {l2 : Int32} {l3 : Int32} {l4 : Option Nat} {m : Mm} {Q : Int64 → Mm → Prop} (h : At g M_SL_pledge (lv + 1) 41 [(0, va_rf (some t)), (2, .int (l2)), (3, .int (l3)), (4, va_rf (l4))] [.int ((0 : Int32))] m (QJ Q)) : At g M_SL_pledge (lv + 1) 40 [(0, va_rf (some t)), (2, .int (l2)), (3, .int (l3)), (4, va_rf (l4))] [] m (QJ Q) := by
  refine at_iconst (n := 0) (0 : Int32) 41 rfl (by decide +kernel) (by decide +kernel) ?_
  exact h
set_option maxRecDepth 20000 in
set_option maxHeartbeats 4000000 in
theorem en_SL_pledge (g : Gc) {lv : Nat} {t : Nat} {l1 : Int32} {l2 : Int32} {l3 : Int32} {m : Mm} {Q : Int64 → Mm → Prop} (h : mK m t = 12 ∧ (∃ b2, mR m t 1 = some b2 ∧ (mK m b2 = 4 ∧ (∃ b5, mR m b2 3 = some b5 ∧ (mK m b5 = 9 ∧ (CR g M_Store_find lv [va_rf (some b5), .int (l1)] m (fun x8 m9 => (if (x8 : Option Nat) = none then (At g M_SL_pledge (lv + 1) 40 [(0, va_rf (some t)), (2, .int (l2)), (3, .int (l3)), (4, va_rf (x8))] [] m9 (QJ Q)) else (∃ b17, x8 = some b17 ∧ (mK m9 b17 = 7 ∧ (if (mI m9 b17 1) ≤ 0 then (At g M_SL_pledge (lv + 1) 40 [(0, va_rf (some t)), (2, .int (l2)), (3, .int (l3)), (4, va_rf (some b17))] [] m9 (QJ Q)) else (if ((12 : Int32)) ≤ (mI m9 b17 0) then (At g M_SL_pledge (lv + 1) 40 [(0, va_rf (some t)), (2, .int (l2)), (3, .int (l3)), (4, va_rf (some b17))] [] m9 (QJ Q)) else (At g M_SL_pledge (lv + 1) 41 [(0, va_rf (some t)), (2, .int (l2)), (3, .int (l3)), (4, va_rf (some b17))] [.int ((1 : Int32))] m9 (QJ Q)))))))))))))) : CJ g M_SL_pledge (lv + 1) [va_rf (some t), .int (l1), .int (l2), .int (l3)] m Q := by
  refine Call.of (by decide +kernel) (Nat.le_of_ble_eq_true rfl) ?_
  show At g M_SL_pledge (lv + 1) 0 [(0, va_rf (some t)), (1, .int (l1)), (2, .int (l2)), (3, .int (l3))] [] m (QJ Q)
  refine at_aload_n (i := 0) 0 1 rfl (by decide +kernel) rfl ?_
  obtain ⟨k1, h⟩ := h
  refine at_get (index := 21) (v := va_rf (mR m t 1)) cok11 1 4 rfl (by decide +kernel) k1 (by decide +kernel) tw_441 rfl ?_
  obtain ⟨b2, e3, h⟩ := h
  rw [e3]
  obtain ⟨k4, h⟩ := h
  refine at_get (index := 160) (v := va_rf (mR m b2 3)) cok3 3 7 rfl (by decide +kernel) k4 (by decide +kernel) tw_291 rfl ?_
  obtain ⟨b5, e6, h⟩ := h
  rw [e6]
  refine at_iload_n (i := 1) 1 8 rfl (by decide +kernel) rfl ?_
  obtain ⟨k7, h⟩ := h
  refine at_callV mb_Store_find tw_904 tw_905 cok8 k7 (index := 178) tw_903 [.int (l1)] [] rfl rfl (by decide) 11 rfl (by decide +kernel) (Call.toR (CR.monoE h (fun x8 m9 h y10 => ?_)))
  have k11 : mK m9 t = 12 := y10.k k1 (by decide)
  have k12 : mK m9 b2 = 4 := y10.k k4 (by decide)
  have k13 : mK m9 b5 = 9 := y10.k k7 (by decide)
  have e14 : mR m9 t 1 = some b2 := y10.r k1 (by decide) rfl e3
  have e15 : mR m9 b2 3 = some b5 := y10.r k4 (by decide) rfl e6
  refine at_astore (i := 4) (lc' := [(0, va_rf (some t)), (2, .int (l2)), (3, .int (l3)), (4, va_rf (x8))]) [1, 3, 4, 0] 13 rfl (by decide +kernel) (by decide +kernel) rfl ?_
  refine at_aload (i := 4) 3 15 rfl (by decide +kernel) rfl ?_
  refine at_ifnull (off := 25) 40 18 rfl (by decide +kernel) (by decide +kernel) (fun c16 => ?_) (fun c16 => ?_)
  · rw [if_pos c16] at h
    exact h
  · rw [if_neg c16] at h
    refine at_aload (i := 4) 3 20 rfl (by decide +kernel) rfl ?_
    obtain ⟨b17, e18, h⟩ := h
    rw [e18]
    obtain ⟨k19, h⟩ := h
    refine at_get (index := 182) (v := .int (mI m9 b17 1)) cok6 1 23 rfl (by decide +kernel) k19 (by decide +kernel) tw_777 rfl ?_
    refine at_if_le (off := 17) 40 26 rfl (by decide +kernel) (by decide +kernel) (fun c20 => ?_) (fun c20 => ?_)
    · rw [if_pos c20] at h
      exact h
    · rw [if_neg c20] at h
      refine at_aload (i := 4) 3 28 rfl (by decide +kernel) rfl ?_
      refine at_get (index := 194) (v := .int (mI m9 b17 0)) cok6 0 31 rfl (by decide +kernel) k19 (by decide +kernel) tw_774 rfl ?_
      refine at_bipush (n := 12) (12 : Int32) 33 rfl (by decide +kernel) (by decide +kernel) ?_
      refine at_icmp_ge (off := 7) 40 36 rfl (by decide +kernel) (by decide +kernel) (fun c21 => ?_) (fun c21 => ?_)
      · rw [if_pos c21] at h
        exact h
      · rw [if_neg c21] at h
        refine at_iconst (n := 1) (1 : Int32) 37 rfl (by decide +kernel) (by decide +kernel) ?_
        refine at_goto (off := 4) 41 (by decide +kernel) (by decide +kernel) ?_
        exact h
set_option maxRecDepth 20000 in
set_option maxHeartbeats 4000000 in
theorem bk_SL_pay_25 (g : Gc) {lv : Nat} {t : Nat} {l3 : Option Nat} {s0 : Option Nat} {m : Mm} {Q : Int64 → Mm → Prop} (h : if (s0 : Option Nat) = none then (Q (-2 : Int64) m) else (mK m t = 12 ∧ (∃ b3, mR m t 1 = some b3 ∧ (∃ b5, l3 = some b5 ∧ (mK m b5 = 7 ∧ (mK m b3 = 4 ∧ (CJ g M_Land_moneyOf lv [va_rf (some b3), .int (mI m b5 0)] m (fun x9 m10 => (∃ b16, s0 = some b16 ∧ (mK m10 b16 = 6 ∧ (if (mL m10 b16 2) ≤ (x9) then (CV g M_Land_payBack lv [va_rf (some b3), va_rf (some b5), va_rf (some b16)] m10 (fun m20 => (Q (mL m20 b16 2) m20))) else (Q (-7 : Int64) m10)))))))))))) : At g M_SL_pay (lv + 1) 25 [(0, va_rf (some t)), (3, va_rf (l3))] [va_rf (s0)] m (QJ Q) := by
  refine at_astore (i := 4) (lc' := [(0, va_rf (some t)), (3, va_rf (l3)), (4, va_rf (s0))]) [1, 2, 0] 27 rfl (by decide +kernel) (by decide +kernel) (by generalize l3 = rr; cases rr <;> rfl) ?_
  refine at_aload (i := 4) 2 29 rfl (by decide +kernel) rfl ?_
  refine at_ifnonnull (off := 7) 36 32 rfl (by decide +kernel) (by decide +kernel) (fun c1 => ?_) (fun c1 => ?_)
  · rw [if_neg c1] at h
    refine at_aload_n (i := 0) 0 37 rfl (by decide +kernel) rfl ?_
    obtain ⟨k2, h⟩ := h
    refine at_get (index := 21) (v := va_rf (mR m t 1)) cok11 1 40 rfl (by decide +kernel) k2 (by decide +kernel) tw_441 rfl ?_
    obtain ⟨b3, e4, h⟩ := h
    rw [e4]
    refine at_aload_n (i := 3) 1 41 rfl (by decide +kernel) rfl ?_
    obtain ⟨b5, e6, h⟩ := h
    rw [e6]
    obtain ⟨k7, h⟩ := h
    refine at_get (index := 194) (v := .int (mI m b5 0)) cok6 0 44 rfl (by decide +kernel) k7 (by decide +kernel) tw_774 rfl ?_
    obtain ⟨k8, h⟩ := h
    refine at_callV mb_Land_moneyOf tw_873 tw_874 cok3 k8 (index := 231) tw_968 [.int (mI m b5 0)] [] rfl rfl (by decide) 47 rfl (by decide +kernel) (Call.toJ (CJ.monoE h (fun x9 m10 h y11 => ?_)))
    have k12 : mK m10 t = 12 := y11.k k2 (by decide)
    have k13 : mK m10 b5 = 7 := y11.k k7 (by decide)
    have k14 : mK m10 b3 = 4 := y11.k k8 (by decide)
    have e15 : mR m10 t 1 = some b3 := y11.r k2 (by decide) rfl e4
    refine at_aload (i := 4) 2 49 rfl (by decide +kernel) rfl ?_
    obtain ⟨b16, e17, h⟩ := h
    rw [e17]
    obtain ⟨k18, h⟩ := h
    refine at_get (index := 235) (v := .long (mL m10 b16 2)) cok5 2 52 rfl (by decide +kernel) k18 (by decide +kernel) tw_947 rfl ?_
    refine at_lif_ge (off := 7) 53 60 56 rfl rfl (by decide +kernel) (by decide +kernel) (by decide +kernel) (fun c19 => ?_) (fun c19 => ?_)
    · rw [if_pos c19] at h
      refine at_aload_n (i := 0) 0 61 rfl (by decide +kernel) rfl ?_
      refine at_get (index := 21) (v := va_rf (mR m10 t 1)) cok11 1 64 rfl (by decide +kernel) k12 (by decide +kernel) tw_441 rfl ?_
      rw [e15]
      refine at_aload_n (i := 3) 1 65 rfl (by decide +kernel) rfl ?_
      refine at_aload (i := 4) 2 67 rfl (by decide +kernel) rfl ?_
      refine at_callV mb_Land_payBack tw_877 tw_878 cok3 k14 (index := 239) tw_969 [va_rf (some b5), va_rf (some b16)] [] rfl rfl (by decide) 70 rfl (by decide +kernel) (Call.toV (CV.monoE h (fun m20 h y21 => ?_)))
      have k22 : mK m20 t = 12 := y21.k k12 (by decide)
      have k23 : mK m20 b5 = 7 := y21.k k13 (by decide)
      have k24 : mK m20 b3 = 4 := y21.k k14 (by decide)
      have k25 : mK m20 b16 = 6 := y21.k k18 (by decide)
      have e26 : mR m20 t 1 = some b3 := y21.r k12 (by decide) rfl e15
      refine at_aload (i := 4) 2 72 rfl (by decide +kernel) rfl ?_
      refine at_get (index := 235) (v := .long (mL m20 b16 2)) cok5 2 75 rfl (by decide +kernel) k25 (by decide +kernel) tw_947 rfl ?_
      exact at_lret rfl (by decide +kernel) h
    · rw [if_neg c19] at h
      refine at_ldc2 (index := 215) (-7 : Int64) 59 rfl (by decide +kernel) tw_923 ?_
      exact at_lret rfl (by decide +kernel) h
  · rw [if_pos c1] at h
    refine at_ldc2 (index := 201) (-2 : Int64) 35 rfl (by decide +kernel) tw_922 ?_
    exact at_lret rfl (by decide +kernel) h
set_option maxRecDepth 20000 in
set_option maxHeartbeats 4000000 in
theorem en_SL_pay (g : Gc) {lv : Nat} {t : Nat} {l1 : Int32} {l2 : Int32} {m : Mm} {Q : Int64 → Mm → Prop} (h : mK m t = 12 ∧ (∃ b2, mR m t 1 = some b2 ∧ (mK m b2 = 4 ∧ (∃ b5, mR m b2 3 = some b5 ∧ (mK m b5 = 9 ∧ (CR g M_Store_find lv [va_rf (some b5), .int (l1)] m (fun x8 m9 => (if (x8 : Option Nat) = none then (At g M_SL_pay (lv + 1) 25 [(0, va_rf (some t)), (3, va_rf (x8))] [va_rf (none)] m9 (QJ Q)) else (∃ b17, x8 = some b17 ∧ (mK m9 b17 = 7 ∧ (CR g M_Receipt_loanOf lv [va_rf (some b17), .int (l2)] m9 (fun x20 m21 => (At g M_SL_pay (lv + 1) 25 [(0, va_rf (some t)), (3, va_rf (some b17))] [va_rf (x20)] m21 (QJ Q)))))))))))))) : CJ g M_SL_pay (lv + 1) [va_rf (some t), .int (l1), .int (l2)] m Q := by
  refine Call.of (by decide +kernel) (Nat.le_of_ble_eq_true rfl) ?_
  show At g M_SL_pay (lv + 1) 0 [(0, va_rf (some t)), (1, .int (l1)), (2, .int (l2))] [] m (QJ Q)
  refine at_aload_n (i := 0) 0 1 rfl (by decide +kernel) rfl ?_
  obtain ⟨k1, h⟩ := h
  refine at_get (index := 21) (v := va_rf (mR m t 1)) cok11 1 4 rfl (by decide +kernel) k1 (by decide +kernel) tw_441 rfl ?_
  obtain ⟨b2, e3, h⟩ := h
  rw [e3]
  obtain ⟨k4, h⟩ := h
  refine at_get (index := 160) (v := va_rf (mR m b2 3)) cok3 3 7 rfl (by decide +kernel) k4 (by decide +kernel) tw_291 rfl ?_
  obtain ⟨b5, e6, h⟩ := h
  rw [e6]
  refine at_iload_n (i := 1) 1 8 rfl (by decide +kernel) rfl ?_
  obtain ⟨k7, h⟩ := h
  refine at_callV mb_Store_find tw_904 tw_905 cok8 k7 (index := 178) tw_903 [.int (l1)] [] rfl rfl (by decide) 11 rfl (by decide +kernel) (Call.toR (CR.monoE h (fun x8 m9 h y10 => ?_)))
  have k11 : mK m9 t = 12 := y10.k k1 (by decide)
  have k12 : mK m9 b2 = 4 := y10.k k4 (by decide)
  have k13 : mK m9 b5 = 9 := y10.k k7 (by decide)
  have e14 : mR m9 t 1 = some b2 := y10.r k1 (by decide) rfl e3
  have e15 : mR m9 b2 3 = some b5 := y10.r k4 (by decide) rfl e6
  refine at_astore_n (i := 3) (lc' := [(0, va_rf (some t)), (2, .int (l2)), (3, va_rf (x8))]) [1, 3, 0] 12 rfl (by decide +kernel) (by decide +kernel) rfl ?_
  refine at_aload_n (i := 3) 2 13 rfl (by decide +kernel) rfl ?_
  refine at_ifnonnull (off := 7) 20 16 rfl (by decide +kernel) (by decide +kernel) (fun c16 => ?_) (fun c16 => ?_)
  · rw [if_neg c16] at h
    refine at_aload_n (i := 3) 2 21 rfl (by decide +kernel) rfl ?_
    refine at_iload_n (i := 2) 1 22 rfl (by decide +kernel) rfl ?_
    obtain ⟨b17, e18, h⟩ := h
    rw [e18]
    obtain ⟨k19, h⟩ := h
    refine at_callV mb_Receipt_loanOf tw_965 tw_966 cok6 k19 (index := 227) tw_964 [.int (l2)] [] rfl rfl (by decide) 25 rfl (by decide +kernel) (Call.toR (CR.monoE h (fun x20 m21 h y22 => ?_)))
    have k23 : mK m21 t = 12 := y22.k k11 (by decide)
    have k24 : mK m21 b2 = 4 := y22.k k12 (by decide)
    have k25 : mK m21 b5 = 9 := y22.k k13 (by decide)
    have k26 : mK m21 b17 = 7 := y22.k k19 (by decide)
    have e27 : mR m21 t 1 = some b2 := y22.r k11 (by decide) rfl e14
    have e28 : mR m21 b2 3 = some b5 := y22.r k12 (by decide) rfl e15
    exact At.sub [0, 2] rfl h
  · rw [if_pos c16] at h
    refine at_null 17 rfl (by decide +kernel) ?_
    refine at_goto (off := 8) 25 (by decide +kernel) (by decide +kernel) ?_
    exact At.sub [0, 2] rfl h
set_option maxRecDepth 20000 in
set_option maxHeartbeats 4000000 in
theorem en_SL_redeem (g : Gc) {lv : Nat} {t : Nat} {l1 : Int32} {m : Mm} {Q : Int32 → Mm → Prop} (h : mK m t = 12 ∧ (∃ b2, mR m t 1 = some b2 ∧ (mK m b2 = 4 ∧ (∃ b5, mR m b2 3 = some b5 ∧ (mK m b5 = 9 ∧ (CR g M_Store_find lv [va_rf (some b5), .int (l1)] m (fun x8 m9 => (if (x8 : Option Nat) = none then (Q (-2 : Int32) m9) else (∃ b17, x8 = some b17 ∧ (mK m9 b17 = 7 ∧ (if (mI m9 b17 1) = 0 then (Q (-2 : Int32) m9) else (CI g M_Land_hasGrower lv [va_rf (some b2), .int (mI m9 b17 0)] m9 (fun x21 m22 => (if (x21) = 0 then (Q (-2 : Int32) m22) else (CI g M_Receipt_isPledged lv [va_rf (some b17)] m22 (fun x31 m32 => (if (x31) = 0 then (if ((3 : Int32)) ≤ ((mI m32 b2 9) - (mI m32 b17 2)) then (∀ m42, m42 = sI m32 b17 1 (0 : Int32) → (∃ b51, mR m42 b2 1 = some b51 ∧ (mK m42 b51 = 19 ∧ (vp_in (mI m42 b17 0) (mN m42 b51) ∧ (∃ b55, mR m42 b51 (mI m42 b17 0).toNatClampNeg = some b55 ∧ (mK m42 b55 = 2 ∧ (∀ m58, m58 = sI m42 b55 9 ((mI m42 b55 9) + (mI m32 b17 1)) → (∃ b71, mR m58 b2 7 = some b71 ∧ (mK m58 b71 = 16 ∧ (vp_in (7 : Int32) (mN m58 b71) ∧ (vp_in (7 : Int32) (mN m58 b71) ∧ (∀ m76, m76 = sL m58 b71 (7 : Int32).toNatClampNeg ((mL m58 b71 (7 : Int32).toNatClampNeg) + ((mI m32 b17 1).toInt64)) → (Q (mI m32 b17 1) m76))))))))))))) else (Q (-9 : Int32) m32)) else (Q (-7 : Int32) m32)))))))))))))))))) : CI g M_SL_redeem (lv + 1) [va_rf (some t), .int (l1)] m Q := by
  refine Call.of (by decide +kernel) (Nat.le_of_ble_eq_true rfl) ?_
  show At g M_SL_redeem (lv + 1) 0 [(0, va_rf (some t)), (1, .int (l1))] [] m (QI Q)
  refine at_aload_n (i := 0) 0 1 rfl (by decide +kernel) rfl ?_
  obtain ⟨k1, h⟩ := h
  refine at_get (index := 21) (v := va_rf (mR m t 1)) cok11 1 4 rfl (by decide +kernel) k1 (by decide +kernel) tw_441 rfl ?_
  obtain ⟨b2, e3, h⟩ := h
  rw [e3]
  obtain ⟨k4, h⟩ := h
  refine at_get (index := 160) (v := va_rf (mR m b2 3)) cok3 3 7 rfl (by decide +kernel) k4 (by decide +kernel) tw_291 rfl ?_
  obtain ⟨b5, e6, h⟩ := h
  rw [e6]
  refine at_iload_n (i := 1) 1 8 rfl (by decide +kernel) rfl ?_
  obtain ⟨k7, h⟩ := h
  refine at_callV mb_Store_find tw_904 tw_905 cok8 k7 (index := 178) tw_903 [.int (l1)] [] rfl rfl (by decide) 11 rfl (by decide +kernel) (Call.toR (CR.monoE h (fun x8 m9 h y10 => ?_)))
  have k11 : mK m9 t = 12 := y10.k k1 (by decide)
  have k12 : mK m9 b2 = 4 := y10.k k4 (by decide)
  have k13 : mK m9 b5 = 9 := y10.k k7 (by decide)
  have e14 : mR m9 t 1 = some b2 := y10.r k1 (by decide) rfl e3
  have e15 : mR m9 b2 3 = some b5 := y10.r k4 (by decide) rfl e6
  refine at_astore_n (i := 2) (lc' := [(0, va_rf (some t)), (2, va_rf (x8))]) [1, 0] 12 rfl (by decide +kernel) (by decide +kernel) rfl ?_
  refine at_aload_n (i := 2) 1 13 rfl (by decide +kernel) rfl ?_
  refine at_ifnull (off := 24) 37 16 rfl (by decide +kernel) (by decide +kernel) (fun c16 => ?_) (fun c16 => ?_)
  · rw [if_pos c16] at h
    refine at_bipush (n := (-2)) (-2 : Int32) 39 rfl (by decide +kernel) (by decide +kernel) ?_
    exact at_iret rfl (by decide +kernel) h
  · rw [if_neg c16] at h
    refine at_aload_n (i := 2) 1 17 rfl (by decide +kernel) rfl ?_
    obtain ⟨b17, e18, h⟩ := h
    rw [e18]
    obtain ⟨k19, h⟩ := h
    refine at_get (index := 182) (v := .int (mI m9 b17 1)) cok6 1 20 rfl (by decide +kernel) k19 (by decide +kernel) tw_777 rfl ?_
    refine at_if_eq (off := 17) 37 23 rfl (by decide +kernel) (by decide +kernel) (fun c20 => ?_) (fun c20 => ?_)
    · rw [if_pos c20] at h
      refine at_bipush (n := (-2)) (-2 : Int32) 39 rfl (by decide +kernel) (by decide +kernel) ?_
      exact at_iret rfl (by decide +kernel) h
    · rw [if_neg c20] at h
      refine at_aload_n (i := 0) 0 24 rfl (by decide +kernel) rfl ?_
      refine at_get (index := 21) (v := va_rf (mR m9 t 1)) cok11 1 27 rfl (by decide +kernel) k11 (by decide +kernel) tw_441 rfl ?_
      rw [e14]
      refine at_aload_n (i := 2) 1 28 rfl (by decide +kernel) rfl ?_
      refine at_get (index := 194) (v := .int (mI m9 b17 0)) cok6 0 31 rfl (by decide +kernel) k19 (by decide +kernel) tw_774 rfl ?_
      refine at_callV mb_Land_hasGrower tw_666 tw_667 cok3 k12 (index := 139) tw_665 [.int (mI m9 b17 0)] [] rfl rfl (by decide) 34 rfl (by decide +kernel) (Call.toI (CI.monoE h (fun x21 m22 h y23 => ?_)))
      have k24 : mK m22 t = 12 := y23.k k11 (by decide)
      have k25 : mK m22 b2 = 4 := y23.k k12 (by decide)
      have k26 : mK m22 b5 = 9 := y23.k k13 (by decide)
      have k27 : mK m22 b17 = 7 := y23.k k19 (by decide)
      have e28 : mR m22 t 1 = some b2 := y23.r k11 (by decide) rfl e14
      have e29 : mR m22 b2 3 = some b5 := y23.r k12 (by decide) rfl e15
      refine at_if_ne (off := 6) 40 37 rfl (by decide +kernel) (by decide +kernel) (fun c30 => ?_) (fun c30 => ?_)
      · rw [if_neg c30] at h
        refine at_aload_n (i := 2) 1 41 rfl (by decide +kernel) rfl ?_
        refine at_callV mb_Receipt_isPledged tw_910 tw_911 cok6 k27 (index := 191) tw_909 [] [] rfl rfl (by decide) 44 rfl (by decide +kernel) (Call.toI (CI.monoE h (fun x31 m32 h y33 => ?_)))
        have k34 : mK m32 t = 12 := y33.k k24 (by decide)
        have k35 : mK m32 b2 = 4 := y33.k k25 (by decide)
        have k36 : mK m32 b5 = 9 := y33.k k26 (by decide)
        have k37 : mK m32 b17 = 7 := y33.k k27 (by decide)
        have e38 : mR m32 t 1 = some b2 := y33.r k24 (by decide) rfl e28
        have e39 : mR m32 b2 3 = some b5 := y33.r k25 (by decide) rfl e29
        refine at_if_eq (off := 6) 50 47 rfl (by decide +kernel) (by decide +kernel) (fun c40 => ?_) (fun c40 => ?_)
        · rw [if_pos c40] at h
          refine at_aload_n (i := 0) 0 51 rfl (by decide +kernel) rfl ?_
          refine at_get (index := 21) (v := va_rf (mR m32 t 1)) cok11 1 54 rfl (by decide +kernel) k34 (by decide +kernel) tw_441 rfl ?_
          rw [e38]
          refine at_get (index := 106) (v := .int (mI m32 b2 9)) cok3 9 57 rfl (by decide +kernel) k35 (by decide +kernel) tw_300 rfl ?_
          refine at_aload_n (i := 2) 1 58 rfl (by decide +kernel) rfl ?_
          refine at_get (index := 197) (v := .int (mI m32 b17 2)) cok6 2 61 rfl (by decide +kernel) k37 (by decide +kernel) tw_780 rfl ?_
          refine at_isub 62 rfl (by decide +kernel) ?_
          refine at_iconst (n := 3) (3 : Int32) 63 rfl (by decide +kernel) (by decide +kernel) ?_
          refine at_icmp_ge (off := 6) 69 66 rfl (by decide +kernel) (by decide +kernel) (fun c41 => ?_) (fun c41 => ?_)
          · rw [if_pos c41] at h
            refine at_aload_n (i := 2) 1 70 rfl (by decide +kernel) rfl ?_
            refine at_get (index := 182) (v := .int (mI m32 b17 1)) cok6 1 73 rfl (by decide +kernel) k37 (by decide +kernel) tw_777 rfl ?_
            refine at_istore_n (i := 3) (lc' := [(0, va_rf (some t)), (2, va_rf (some b17)), (3, .int (mI m32 b17 1))]) [1, 2, 0] 74 rfl (by decide +kernel) (by decide +kernel) rfl ?_
            refine at_aload_n (i := 2) 1 75 rfl (by decide +kernel) rfl ?_
            refine at_iconst (n := 0) (0 : Int32) 76 rfl (by decide +kernel) (by decide +kernel) ?_
            refine at_putI (index := 182) cok6 1 79 rfl (by decide +kernel) k37 (by decide +kernel) tw_777 rfl rfl rfl (fun m42 e43 => ?_)
            replace h := h m42 e43
            have x44 : Ext m32 m42 := by rw [e43]; exact Ext.sI _ _ _ _
            have k45 : mK m42 t = 12 := x44.k k34 (by decide)
            have k46 : mK m42 b2 = 4 := x44.k k35 (by decide)
            have k47 : mK m42 b5 = 9 := x44.k k36 (by decide)
            have k48 : mK m42 b17 = 7 := x44.k k37 (by decide)
            have e49 : mR m42 t 1 = some b2 := x44.r k34 (by decide) rfl e38
            have e50 : mR m42 b2 3 = some b5 := x44.r k35 (by decide) rfl e39
            refine at_aload_n (i := 0) 0 80 rfl (by decide +kernel) rfl ?_
            refine at_get (index := 21) (v := va_rf (mR m42 t 1)) cok11 1 83 rfl (by decide +kernel) k45 (by decide +kernel) tw_441 rfl ?_
            rw [e49]
            refine at_get (index := 243) (v := va_rf (mR m42 b2 1)) cok3 1 86 rfl (by decide +kernel) k46 (by decide +kernel) tw_287 rfl ?_
            obtain ⟨b51, e52, h⟩ := h
            rw [e52]
            refine at_aload_n (i := 2) 1 87 rfl (by decide +kernel) rfl ?_
            refine at_get (index := 194) (v := .int (mI m42 b17 0)) cok6 0 90 rfl (by decide +kernel) k48 (by decide +kernel) tw_774 rfl ?_
            obtain ⟨k53, h⟩ := h
            obtain ⟨v54, h⟩ := h
            refine at_aaldGrower 91 rfl (by decide +kernel) k53 v54 ?_
            refine at_dup 92 rfl (by decide +kernel) (va_rf_cat _) ?_
            obtain ⟨b55, e56, h⟩ := h
            rw [e56]
            obtain ⟨k57, h⟩ := h
            refine at_get (index := 247) (v := .int (mI m42 b55 9)) cok1 9 95 rfl (by decide +kernel) k57 (by decide +kernel) tw_228 rfl ?_
            refine at_iload_n (i := 3) 2 96 rfl (by decide +kernel) rfl ?_
            refine at_iadd 97 rfl (by decide +kernel) ?_
            refine at_putI (index := 247) cok1 9 100 rfl (by decide +kernel) k57 (by decide +kernel) tw_228 rfl rfl rfl (fun m58 e59 => ?_)
            replace h := h m58 e59
            have x60 : Ext m42 m58 := by rw [e59]; exact Ext.sI _ _ _ _
            have k61 : mK m58 t = 12 := x60.k k45 (by decide)
            have k62 : mK m58 b2 = 4 := x60.k k46 (by decide)
            have k63 : mK m58 b5 = 9 := x60.k k47 (by decide)
            have k64 : mK m58 b17 = 7 := x60.k k48 (by decide)
            have k65 : mK m58 b51 = 19 := x60.k k53 (by decide)
            have k66 : mK m58 b55 = 2 := x60.k k57 (by decide)
            have e67 : mR m58 t 1 = some b2 := x60.r k45 (by decide) rfl e49
            have e68 : mR m58 b2 3 = some b5 := x60.r k46 (by decide) rfl e50
            have e69 : mR m58 b2 1 = some b51 := x60.r k46 (by decide) rfl e52
            have e70 : mR m58 b51 (mI m42 b17 0).toNatClampNeg = some b55 := x60.r k53 (by decide) rfl e56
            refine at_aload_n (i := 0) 0 101 rfl (by decide +kernel) rfl ?_
            refine at_get (index := 21) (v := va_rf (mR m58 t 1)) cok11 1 104 rfl (by decide +kernel) k61 (by decide +kernel) tw_441 rfl ?_
            rw [e67]
            refine at_get (index := 252) (v := va_rf (mR m58 b2 7)) cok3 7 107 rfl (by decide +kernel) k62 (by decide +kernel) tw_296 rfl ?_
            obtain ⟨b71, e72, h⟩ := h
            rw [e72]
            refine at_bipush (n := 7) (7 : Int32) 109 rfl (by decide +kernel) (by decide +kernel) ?_
            refine at_dup2_11 110 rfl (by decide +kernel) rfl (va_rf_cat _) ?_
            obtain ⟨k73, h⟩ := h
            obtain ⟨v74, h⟩ := h
            refine at_lald 111 rfl (by decide +kernel) k73 v74 ?_
            refine at_iload_n (i := 3) 2 112 rfl (by decide +kernel) rfl ?_
            refine at_i2l 113 rfl (by decide +kernel) ?_
            refine at_ladd 114 rfl (by decide +kernel) ?_
            obtain ⟨v75, h⟩ := h
            refine at_last 115 rfl (by decide +kernel) k73 v75 (fun m76 e77 => ?_)
            replace h := h m76 e77
            have x78 : Ext m58 m76 := by rw [e77]; exact Ext.sL _ _ _ _
            have k79 : mK m76 t = 12 := x78.k k61 (by decide)
            have k80 : mK m76 b2 = 4 := x78.k k62 (by decide)
            have k81 : mK m76 b5 = 9 := x78.k k63 (by decide)
            have k82 : mK m76 b17 = 7 := x78.k k64 (by decide)
            have k83 : mK m76 b51 = 19 := x78.k k65 (by decide)
            have k84 : mK m76 b55 = 2 := x78.k k66 (by decide)
            have k85 : mK m76 b71 = 16 := x78.k k73 (by decide)
            have e86 : mR m76 t 1 = some b2 := x78.r k61 (by decide) rfl e67
            have e87 : mR m76 b2 3 = some b5 := x78.r k62 (by decide) rfl e68
            have e88 : mR m76 b2 1 = some b51 := x78.r k62 (by decide) rfl e69
            have e89 : mR m76 b51 (mI m42 b17 0).toNatClampNeg = some b55 := x78.r k65 (by decide) rfl e70
            have e90 : mR m76 b2 7 = some b71 := x78.r k62 (by decide) rfl e72
            refine at_iload_n (i := 3) 2 116 rfl (by decide +kernel) rfl ?_
            exact at_iret rfl (by decide +kernel) h
          · rw [if_neg c41] at h
            refine at_bipush (n := (-9)) (-9 : Int32) 68 rfl (by decide +kernel) (by decide +kernel) ?_
            exact at_iret rfl (by decide +kernel) h
        · rw [if_neg c40] at h
          refine at_bipush (n := (-7)) (-7 : Int32) 49 rfl (by decide +kernel) (by decide +kernel) ?_
          exact at_iret rfl (by decide +kernel) h
      · rw [if_pos c30] at h
        refine at_bipush (n := (-2)) (-2 : Int32) 39 rfl (by decide +kernel) (by decide +kernel) ?_
        exact at_iret rfl (by decide +kernel) h
set_option maxRecDepth 20000 in
set_option maxHeartbeats 4000000 in
theorem en_SL_receipt (g : Gc) {lv : Nat} {t : Nat} {l1 : Int32} {l2 : Int32} {m : Mm} {Q : Int32 → Mm → Prop} (h : mK m t = 12 ∧ (∃ b2, mR m t 1 = some b2 ∧ (mK m b2 = 4 ∧ (∃ b5, mR m b2 3 = some b5 ∧ (mK m b5 = 9 ∧ (CR g M_Store_find lv [va_rf (some b5), .int (l1)] m (fun x8 m9 => (if (x8 : Option Nat) = none then (Q (-2 : Int32) m9) else (if l2 = (0 : Int32) then (∃ b19, x8 = some b19 ∧ (mK m9 b19 = 7 ∧ (Q (mI m9 b19 0) m9))) else (if l2 = (1 : Int32) then (∃ b23, x8 = some b23 ∧ (mK m9 b23 = 7 ∧ (Q (mI m9 b23 1) m9))) else (if l2 = (2 : Int32) then (∃ b27, x8 = some b27 ∧ (mK m9 b27 = 7 ∧ (Q (mI m9 b27 2) m9))) else (if l2 = (3 : Int32) then (∃ b31, x8 = some b31 ∧ (mK m9 b31 = 7 ∧ (if (mR m9 b31 3 : Option Nat) = none then (Q (-1 : Int32) m9) else (∃ b35, mR m9 b31 3 = some b35 ∧ (mK m9 b35 = 6 ∧ (Q (mI m9 b35 0) m9)))))) else (if l2 = (4 : Int32) then (∃ b39, x8 = some b39 ∧ (mK m9 b39 = 7 ∧ (if (mR m9 b39 4 : Option Nat) = none then (Q (-1 : Int32) m9) else (∃ b43, mR m9 b39 4 = some b43 ∧ (mK m9 b43 = 6 ∧ (Q (mI m9 b43 0) m9)))))) else (if l2 = (5 : Int32) then (∃ b47, x8 = some b47 ∧ (mK m9 b47 = 7 ∧ (if (mR m9 b47 3 : Option Nat) = none then (Q (-1 : Int32) m9) else (∃ b51, mR m9 b47 3 = some b51 ∧ (mK m9 b51 = 6 ∧ (Q (mI m9 b51 1) m9)))))) else (if l2 = (6 : Int32) then (∃ b55, x8 = some b55 ∧ (mK m9 b55 = 7 ∧ (if (mR m9 b55 4 : Option Nat) = none then (Q (-1 : Int32) m9) else (∃ b59, mR m9 b55 4 = some b59 ∧ (mK m9 b59 = 6 ∧ (Q (mI m9 b59 1) m9)))))) else (Q (-2 : Int32) m9)))))))))))))))) : CI g M_SL_receipt (lv + 1) [va_rf (some t), .int (l1), .int (l2)] m Q := by
  refine Call.of (by decide +kernel) (Nat.le_of_ble_eq_true rfl) ?_
  show At g M_SL_receipt (lv + 1) 0 [(0, va_rf (some t)), (1, .int (l1)), (2, .int (l2))] [] m (QI Q)
  refine at_aload_n (i := 0) 0 1 rfl (by decide +kernel) rfl ?_
  obtain ⟨k1, h⟩ := h
  refine at_get (index := 21) (v := va_rf (mR m t 1)) cok11 1 4 rfl (by decide +kernel) k1 (by decide +kernel) tw_441 rfl ?_
  obtain ⟨b2, e3, h⟩ := h
  rw [e3]
  obtain ⟨k4, h⟩ := h
  refine at_get (index := 160) (v := va_rf (mR m b2 3)) cok3 3 7 rfl (by decide +kernel) k4 (by decide +kernel) tw_291 rfl ?_
  obtain ⟨b5, e6, h⟩ := h
  rw [e6]
  refine at_iload_n (i := 1) 1 8 rfl (by decide +kernel) rfl ?_
  obtain ⟨k7, h⟩ := h
  refine at_callV mb_Store_find tw_904 tw_905 cok8 k7 (index := 178) tw_903 [.int (l1)] [] rfl rfl (by decide) 11 rfl (by decide +kernel) (Call.toR (CR.monoE h (fun x8 m9 h y10 => ?_)))
  have k11 : mK m9 t = 12 := y10.k k1 (by decide)
  have k12 : mK m9 b2 = 4 := y10.k k4 (by decide)
  have k13 : mK m9 b5 = 9 := y10.k k7 (by decide)
  have e14 : mR m9 t 1 = some b2 := y10.r k1 (by decide) rfl e3
  have e15 : mR m9 b2 3 = some b5 := y10.r k4 (by decide) rfl e6
  refine at_astore_n (i := 3) (lc' := [(2, .int (l2)), (3, va_rf (x8))]) [3, 0] 12 rfl (by decide +kernel) (by decide +kernel) rfl ?_
  refine at_aload_n (i := 3) 1 13 rfl (by decide +kernel) rfl ?_
  refine at_ifnonnull (off := 6) 19 16 rfl (by decide +kernel) (by decide +kernel) (fun c16 => ?_) (fun c16 => ?_)
  · rw [if_neg c16] at h
    refine at_iload_n (i := 2) 0 20 rfl (by decide +kernel) rfl ?_
    by_cases c18 : l2 = (0 : Int32)
    · rw [if_pos c18] at h
      have w17 : l2.toInt = 0 := by rw [c18]; decide +kernel
      refine at_tabIn (dflt := 135) (lo := 0) (hi := 6) (offs := #[44, 49, 54, 59, 78, 97, 116]) (len := 44) (off := 44) 64 (by decide +kernel) (by rw [w17]; decide) (by rw [w17]; decide) (by rw [w17]; decide +kernel) (by decide +kernel) ?_
      refine at_aload_n (i := 3) 1 65 rfl (by decide +kernel) rfl ?_
      obtain ⟨b19, e20, h⟩ := h
      rw [e20]
      obtain ⟨k21, h⟩ := h
      refine at_get (index := 194) (v := .int (mI m9 b19 0)) cok6 0 68 rfl (by decide +kernel) k21 (by decide +kernel) tw_774 rfl ?_
      exact at_iret rfl (by decide +kernel) h
    rw [if_neg c18] at h
    by_cases c22 : l2 = (1 : Int32)
    · rw [if_pos c22] at h
      have w17 : l2.toInt = 1 := by rw [c22]; decide +kernel
      refine at_tabIn (dflt := 135) (lo := 0) (hi := 6) (offs := #[44, 49, 54, 59, 78, 97, 116]) (len := 44) (off := 49) 69 (by decide +kernel) (by rw [w17]; decide) (by rw [w17]; decide) (by rw [w17]; decide +kernel) (by decide +kernel) ?_
      refine at_aload_n (i := 3) 1 70 rfl (by decide +kernel) rfl ?_
      obtain ⟨b23, e24, h⟩ := h
      rw [e24]
      obtain ⟨k25, h⟩ := h
      refine at_get (index := 182) (v := .int (mI m9 b23 1)) cok6 1 73 rfl (by decide +kernel) k25 (by decide +kernel) tw_777 rfl ?_
      exact at_iret rfl (by decide +kernel) h
    rw [if_neg c22] at h
    by_cases c26 : l2 = (2 : Int32)
    · rw [if_pos c26] at h
      have w17 : l2.toInt = 2 := by rw [c26]; decide +kernel
      refine at_tabIn (dflt := 135) (lo := 0) (hi := 6) (offs := #[44, 49, 54, 59, 78, 97, 116]) (len := 44) (off := 54) 74 (by decide +kernel) (by rw [w17]; decide) (by rw [w17]; decide) (by rw [w17]; decide +kernel) (by decide +kernel) ?_
      refine at_aload_n (i := 3) 1 75 rfl (by decide +kernel) rfl ?_
      obtain ⟨b27, e28, h⟩ := h
      rw [e28]
      obtain ⟨k29, h⟩ := h
      refine at_get (index := 197) (v := .int (mI m9 b27 2)) cok6 2 78 rfl (by decide +kernel) k29 (by decide +kernel) tw_780 rfl ?_
      exact at_iret rfl (by decide +kernel) h
    rw [if_neg c26] at h
    by_cases c30 : l2 = (3 : Int32)
    · rw [if_pos c30] at h
      have w17 : l2.toInt = 3 := by rw [c30]; decide +kernel
      refine at_tabIn (dflt := 135) (lo := 0) (hi := 6) (offs := #[44, 49, 54, 59, 78, 97, 116]) (len := 44) (off := 59) 79 (by decide +kernel) (by rw [w17]; decide) (by rw [w17]; decide) (by rw [w17]; decide +kernel) (by decide +kernel) ?_
      refine at_aload_n (i := 3) 1 80 rfl (by decide +kernel) rfl ?_
      obtain ⟨b31, e32, h⟩ := h
      rw [e32]
      obtain ⟨k33, h⟩ := h
      refine at_get (index := 207) (v := va_rf (mR m9 b31 3)) cok6 3 83 rfl (by decide +kernel) k33 (by decide +kernel) tw_784 rfl ?_
      refine at_ifnonnull (off := 7) 90 86 rfl (by decide +kernel) (by decide +kernel) (fun c34 => ?_) (fun c34 => ?_)
      · rw [if_neg c34] at h
        refine at_aload_n (i := 3) 1 91 rfl (by decide +kernel) rfl ?_
        refine at_get (index := 207) (v := va_rf (mR m9 b31 3)) cok6 3 94 rfl (by decide +kernel) k33 (by decide +kernel) tw_784 rfl ?_
        obtain ⟨b35, e36, h⟩ := h
        rw [e36]
        obtain ⟨k37, h⟩ := h
        refine at_get (index := 210) (v := .int (mI m9 b35 0)) cok5 0 97 rfl (by decide +kernel) k37 (by decide +kernel) tw_941 rfl ?_
        exact at_iret rfl (by decide +kernel) h
      · rw [if_pos c34] at h
        refine at_iconst (n := (-1)) (-1 : Int32) 87 rfl (by decide +kernel) (by decide +kernel) ?_
        refine at_goto (off := 10) 97 (by decide +kernel) (by decide +kernel) ?_
        exact at_iret rfl (by decide +kernel) h
    rw [if_neg c30] at h
    by_cases c38 : l2 = (4 : Int32)
    · rw [if_pos c38] at h
      have w17 : l2.toInt = 4 := by rw [c38]; decide +kernel
      refine at_tabIn (dflt := 135) (lo := 0) (hi := 6) (offs := #[44, 49, 54, 59, 78, 97, 116]) (len := 44) (off := 78) 98 (by decide +kernel) (by rw [w17]; decide) (by rw [w17]; decide) (by rw [w17]; decide +kernel) (by decide +kernel) ?_
      refine at_aload_n (i := 3) 1 99 rfl (by decide +kernel) rfl ?_
      obtain ⟨b39, e40, h⟩ := h
      rw [e40]
      obtain ⟨k41, h⟩ := h
      refine at_get (index := 203) (v := va_rf (mR m9 b39 4)) cok6 4 102 rfl (by decide +kernel) k41 (by decide +kernel) tw_788 rfl ?_
      refine at_ifnonnull (off := 7) 109 105 rfl (by decide +kernel) (by decide +kernel) (fun c42 => ?_) (fun c42 => ?_)
      · rw [if_neg c42] at h
        refine at_aload_n (i := 3) 1 110 rfl (by decide +kernel) rfl ?_
        refine at_get (index := 203) (v := va_rf (mR m9 b39 4)) cok6 4 113 rfl (by decide +kernel) k41 (by decide +kernel) tw_788 rfl ?_
        obtain ⟨b43, e44, h⟩ := h
        rw [e44]
        obtain ⟨k45, h⟩ := h
        refine at_get (index := 210) (v := .int (mI m9 b43 0)) cok5 0 116 rfl (by decide +kernel) k45 (by decide +kernel) tw_941 rfl ?_
        exact at_iret rfl (by decide +kernel) h
      · rw [if_pos c42] at h
        refine at_iconst (n := (-1)) (-1 : Int32) 106 rfl (by decide +kernel) (by decide +kernel) ?_
        refine at_goto (off := 10) 116 (by decide +kernel) (by decide +kernel) ?_
        exact at_iret rfl (by decide +kernel) h
    rw [if_neg c38] at h
    by_cases c46 : l2 = (5 : Int32)
    · rw [if_pos c46] at h
      have w17 : l2.toInt = 5 := by rw [c46]; decide +kernel
      refine at_tabIn (dflt := 135) (lo := 0) (hi := 6) (offs := #[44, 49, 54, 59, 78, 97, 116]) (len := 44) (off := 97) 117 (by decide +kernel) (by rw [w17]; decide) (by rw [w17]; decide) (by rw [w17]; decide +kernel) (by decide +kernel) ?_
      refine at_aload_n (i := 3) 1 118 rfl (by decide +kernel) rfl ?_
      obtain ⟨b47, e48, h⟩ := h
      rw [e48]
      obtain ⟨k49, h⟩ := h
      refine at_get (index := 207) (v := va_rf (mR m9 b47 3)) cok6 3 121 rfl (by decide +kernel) k49 (by decide +kernel) tw_784 rfl ?_
      refine at_ifnonnull (off := 7) 128 124 rfl (by decide +kernel) (by decide +kernel) (fun c50 => ?_) (fun c50 => ?_)
      · rw [if_neg c50] at h
        refine at_aload_n (i := 3) 1 129 rfl (by decide +kernel) rfl ?_
        refine at_get (index := 207) (v := va_rf (mR m9 b47 3)) cok6 3 132 rfl (by decide +kernel) k49 (by decide +kernel) tw_784 rfl ?_
        obtain ⟨b51, e52, h⟩ := h
        rw [e52]
        obtain ⟨k53, h⟩ := h
        refine at_get (index := 255) (v := .int (mI m9 b51 1)) cok5 1 135 rfl (by decide +kernel) k53 (by decide +kernel) tw_944 rfl ?_
        exact at_iret rfl (by decide +kernel) h
      · rw [if_pos c50] at h
        refine at_iconst (n := (-1)) (-1 : Int32) 125 rfl (by decide +kernel) (by decide +kernel) ?_
        refine at_goto (off := 10) 135 (by decide +kernel) (by decide +kernel) ?_
        exact at_iret rfl (by decide +kernel) h
    rw [if_neg c46] at h
    by_cases c54 : l2 = (6 : Int32)
    · rw [if_pos c54] at h
      have w17 : l2.toInt = 6 := by rw [c54]; decide +kernel
      refine at_tabIn (dflt := 135) (lo := 0) (hi := 6) (offs := #[44, 49, 54, 59, 78, 97, 116]) (len := 44) (off := 116) 136 (by decide +kernel) (by rw [w17]; decide) (by rw [w17]; decide) (by rw [w17]; decide +kernel) (by decide +kernel) ?_
      refine at_aload_n (i := 3) 1 137 rfl (by decide +kernel) rfl ?_
      obtain ⟨b55, e56, h⟩ := h
      rw [e56]
      obtain ⟨k57, h⟩ := h
      refine at_get (index := 203) (v := va_rf (mR m9 b55 4)) cok6 4 140 rfl (by decide +kernel) k57 (by decide +kernel) tw_788 rfl ?_
      refine at_ifnonnull (off := 7) 147 143 rfl (by decide +kernel) (by decide +kernel) (fun c58 => ?_) (fun c58 => ?_)
      · rw [if_neg c58] at h
        refine at_aload_n (i := 3) 1 148 rfl (by decide +kernel) rfl ?_
        refine at_get (index := 203) (v := va_rf (mR m9 b55 4)) cok6 4 151 rfl (by decide +kernel) k57 (by decide +kernel) tw_788 rfl ?_
        obtain ⟨b59, e60, h⟩ := h
        rw [e60]
        obtain ⟨k61, h⟩ := h
        refine at_get (index := 255) (v := .int (mI m9 b59 1)) cok5 1 154 rfl (by decide +kernel) k61 (by decide +kernel) tw_944 rfl ?_
        exact at_iret rfl (by decide +kernel) h
      · rw [if_pos c58] at h
        refine at_iconst (n := (-1)) (-1 : Int32) 144 rfl (by decide +kernel) (by decide +kernel) ?_
        refine at_goto (off := 10) 154 (by decide +kernel) (by decide +kernel) ?_
        exact at_iret rfl (by decide +kernel) h
    rw [if_neg c54] at h
    have c18e : l2.toInt ≠ 0 := fun e => c18 (Int32.toInt_inj.mp (e.trans (by decide +kernel)))
    have c22e : l2.toInt ≠ 1 := fun e => c22 (Int32.toInt_inj.mp (e.trans (by decide +kernel)))
    have c26e : l2.toInt ≠ 2 := fun e => c26 (Int32.toInt_inj.mp (e.trans (by decide +kernel)))
    have c30e : l2.toInt ≠ 3 := fun e => c30 (Int32.toInt_inj.mp (e.trans (by decide +kernel)))
    have c38e : l2.toInt ≠ 4 := fun e => c38 (Int32.toInt_inj.mp (e.trans (by decide +kernel)))
    have c46e : l2.toInt ≠ 5 := fun e => c46 (Int32.toInt_inj.mp (e.trans (by decide +kernel)))
    have c54e : l2.toInt ≠ 6 := fun e => c54 (Int32.toInt_inj.mp (e.trans (by decide +kernel)))
    refine at_tabOut (dflt := 135) (lo := 0) (hi := 6) (offs := #[44, 49, 54, 59, 78, 97, 116]) (len := 44) 155 (by decide +kernel) (by omega) (by decide +kernel) ?_
    refine at_bipush (n := (-2)) (-2 : Int32) 157 rfl (by decide +kernel) (by decide +kernel) ?_
    exact at_iret rfl (by decide +kernel) h
  · rw [if_pos c16] at h
    refine at_bipush (n := (-2)) (-2 : Int32) 18 rfl (by decide +kernel) (by decide +kernel) ?_
    exact at_iret rfl (by decide +kernel) h
set_option maxRecDepth 20000 in
set_option maxHeartbeats 4000000 in
theorem en_SL_owed (g : Gc) {lv : Nat} {t : Nat} {l1 : Int32} {l2 : Int32} {m : Mm} {Q : Int64 → Mm → Prop} (h : mK m t = 12 ∧ (∃ b2, mR m t 1 = some b2 ∧ (mK m b2 = 4 ∧ (∃ b5, mR m b2 3 = some b5 ∧ (mK m b5 = 9 ∧ (CR g M_Store_find lv [va_rf (some b5), .int (l1)] m (fun x8 m9 => (if (x8 : Option Nat) = none then (if (none : Option Nat) = none then (Q (0 : Int64) m9) else (∃ b34, none = some b34 ∧ (mK m9 b34 = 6 ∧ (Q (mL m9 b34 2) m9)))) else (∃ b17, x8 = some b17 ∧ (mK m9 b17 = 7 ∧ (CR g M_Receipt_loanOf lv [va_rf (some b17), .int (l2)] m9 (fun x20 m21 => (if (x20 : Option Nat) = none then (Q (0 : Int64) m21) else (∃ b30, x20 = some b30 ∧ (mK m21 b30 = 6 ∧ (Q (mL m21 b30 2) m21)))))))))))))))) : CJ g M_SL_owed (lv + 1) [va_rf (some t), .int (l1), .int (l2)] m Q := by
  refine Call.of (by decide +kernel) (Nat.le_of_ble_eq_true rfl) ?_
  show At g M_SL_owed (lv + 1) 0 [(0, va_rf (some t)), (1, .int (l1)), (2, .int (l2))] [] m (QJ Q)
  refine at_aload_n (i := 0) 0 1 rfl (by decide +kernel) rfl ?_
  obtain ⟨k1, h⟩ := h
  refine at_get (index := 21) (v := va_rf (mR m t 1)) cok11 1 4 rfl (by decide +kernel) k1 (by decide +kernel) tw_441 rfl ?_
  obtain ⟨b2, e3, h⟩ := h
  rw [e3]
  obtain ⟨k4, h⟩ := h
  refine at_get (index := 160) (v := va_rf (mR m b2 3)) cok3 3 7 rfl (by decide +kernel) k4 (by decide +kernel) tw_291 rfl ?_
  obtain ⟨b5, e6, h⟩ := h
  rw [e6]
  refine at_iload_n (i := 1) 1 8 rfl (by decide +kernel) rfl ?_
  obtain ⟨k7, h⟩ := h
  refine at_callV mb_Store_find tw_904 tw_905 cok8 k7 (index := 178) tw_903 [.int (l1)] [] rfl rfl (by decide) 11 rfl (by decide +kernel) (Call.toR (CR.monoE h (fun x8 m9 h y10 => ?_)))
  have k11 : mK m9 t = 12 := y10.k k1 (by decide)
  have k12 : mK m9 b2 = 4 := y10.k k4 (by decide)
  have k13 : mK m9 b5 = 9 := y10.k k7 (by decide)
  have e14 : mR m9 t 1 = some b2 := y10.r k1 (by decide) rfl e3
  have e15 : mR m9 b2 3 = some b5 := y10.r k4 (by decide) rfl e6
  refine at_astore_n (i := 3) (lc' := [(2, .int (l2)), (3, va_rf (x8))]) [3, 0] 12 rfl (by decide +kernel) (by decide +kernel) rfl ?_
  refine at_aload_n (i := 3) 1 13 rfl (by decide +kernel) rfl ?_
  refine at_ifnonnull (off := 7) 20 16 rfl (by decide +kernel) (by decide +kernel) (fun c16 => ?_) (fun c16 => ?_)
  · rw [if_neg c16] at h
    refine at_aload_n (i := 3) 1 21 rfl (by decide +kernel) rfl ?_
    refine at_iload_n (i := 2) 0 22 rfl (by decide +kernel) rfl ?_
    obtain ⟨b17, e18, h⟩ := h
    rw [e18]
    obtain ⟨k19, h⟩ := h
    refine at_callV mb_Receipt_loanOf tw_965 tw_966 cok6 k19 (index := 227) tw_964 [.int (l2)] [] rfl rfl (by decide) 25 rfl (by decide +kernel) (Call.toR (CR.monoE h (fun x20 m21 h y22 => ?_)))
    have k23 : mK m21 t = 12 := y22.k k11 (by decide)
    have k24 : mK m21 b2 = 4 := y22.k k12 (by decide)
    have k25 : mK m21 b5 = 9 := y22.k k13 (by decide)
    have k26 : mK m21 b17 = 7 := y22.k k19 (by decide)
    have e27 : mR m21 t 1 = some b2 := y22.r k11 (by decide) rfl e14
    have e28 : mR m21 b2 3 = some b5 := y22.r k12 (by decide) rfl e15
    refine at_astore (i := 4) (lc' := [(4, va_rf (x20))]) [0] 27 rfl (by decide +kernel) (by decide +kernel) rfl ?_
    refine at_aload (i := 4) 0 29 rfl (by decide +kernel) rfl ?_
    refine at_ifnonnull (off := 7) 36 32 rfl (by decide +kernel) (by decide +kernel) (fun c29 => ?_) (fun c29 => ?_)
    · rw [if_neg c29] at h
      refine at_aload (i := 4) 0 38 rfl (by decide +kernel) rfl ?_
      obtain ⟨b30, e31, h⟩ := h
      rw [e31]
      obtain ⟨k32, h⟩ := h
      refine at_get (index := 235) (v := .long (mL m21 b30 2)) cok5 2 41 rfl (by decide +kernel) k32 (by decide +kernel) tw_947 rfl ?_
      exact at_lret rfl (by decide +kernel) h
    · rw [if_pos c29] at h
      refine at_lconst (n := 0) (0 : Int64) 33 rfl (by decide +kernel) (by decide +kernel) ?_
      refine at_goto (off := 8) 41 (by decide +kernel) (by decide +kernel) ?_
      exact at_lret rfl (by decide +kernel) h
  · rw [if_pos c16] at h
    refine at_null 17 rfl (by decide +kernel) ?_
    refine at_goto (off := 8) 25 (by decide +kernel) (by decide +kernel) ?_
    refine at_astore (i := 4) (lc' := [(4, va_rf (none))]) [0] 27 rfl (by decide +kernel) (by decide +kernel) (by generalize x8 = rr; cases rr <;> rfl) ?_
    refine at_aload (i := 4) 0 29 rfl (by decide +kernel) rfl ?_
    refine at_ifnonnull (off := 7) 36 32 rfl (by decide +kernel) (by decide +kernel) (fun c33 => ?_) (fun c33 => ?_)
    · rw [if_neg c33] at h
      refine at_aload (i := 4) 0 38 rfl (by decide +kernel) rfl ?_
      obtain ⟨b34, e35, h⟩ := h
      rw [e35]
      obtain ⟨k36, h⟩ := h
      refine at_get (index := 235) (v := .long (mL m9 b34 2)) cok5 2 41 rfl (by decide +kernel) k36 (by decide +kernel) tw_947 rfl ?_
      exact at_lret rfl (by decide +kernel) h
    · rw [if_pos c33] at h
      refine at_lconst (n := 0) (0 : Int64) 33 rfl (by decide +kernel) (by decide +kernel) ?_
      refine at_goto (off := 8) 41 (by decide +kernel) (by decide +kernel) ?_
      exact at_lret rfl (by decide +kernel) h
set_option maxRecDepth 20000 in
set_option maxHeartbeats 4000000 in
theorem bk_SL_growerOf_40 (g : Gc) {lv : Nat} {t : Nat} {l2 : Int32} {l3 : Option Nat} {s0 : Int32} {m : Mm} {Q : Int32 → Mm → Prop} (h : if l2 = (0 : Int32) then (∃ b3, l3 = some b3 ∧ (mK m b3 = 2 ∧ (Q (mI m b3 3) m))) else (if l2 = (1 : Int32) then (∃ b7, l3 = some b7 ∧ (mK m b7 = 2 ∧ (Q (mI m b7 5) m))) else (if l2 = (2 : Int32) then (∃ b11, l3 = some b11 ∧ (mK m b11 = 2 ∧ (Q (mI m b11 6) m))) else (if l2 = (3 : Int32) then (∃ b15, l3 = some b15 ∧ (mK m b15 = 2 ∧ (Q (mI m b15 7) m))) else (if l2 = (4 : Int32) then (∃ b19, l3 = some b19 ∧ (mK m b19 = 2 ∧ (Q (mI m b19 8) m))) else (if l2 = (5 : Int32) then (∃ b23, l3 = some b23 ∧ (mK m b23 = 2 ∧ (Q (mI m b23 9) m))) else (if l2 = (6 : Int32) then (∃ b27, l3 = some b27 ∧ (mK m b27 = 2 ∧ (Q ((mL m b27 12).toInt32) m))) else (if l2 = (7 : Int32) then (if (s0) = 0 then (mK m t = 12 ∧ (∃ b33, mR m t 1 = some b33 ∧ (mK m b33 = 4 ∧ (∃ b36, l3 = some b36 ∧ (mK m b36 = 2 ∧ (CI g M_Grower_cropOf lv [va_rf (some b36), .int ((mI m b33 9) - (1 : Int32))] m (fun x39 m40 => (Q x39 m40)))))))) else (Q (-1 : Int32) m)) else (if l2 = (8 : Int32) then (if (s0) = 0 then (∃ b48, l3 = some b48 ∧ (mK m b48 = 2 ∧ (Q (mI m b48 10) m))) else (Q (-1 : Int32) m)) else (Q (-1000000 : Int32) m)))))))))) : At g M_SL_growerOf (lv + 1) 40 [(0, va_rf (some t)), (2, .int (l2)), (3, va_rf (l3))] [.int (s0)] m (QI Q) := by
  refine at_istore (i := 4) (lc' := [(0, va_rf (some t)), (2, .int (l2)), (3, va_rf (l3)), (4, .int (s0))]) [1, 2, 3, 0] 42 rfl (by decide +kernel) (by decide +kernel) (by generalize l3 = rr; cases rr <;> rfl) ?_
  refine at_iload_n (i := 2) 1 43 rfl (by decide +kernel) rfl ?_
  by_cases c2 : l2 = (0 : Int32)
  · rw [if_pos c2] at h
    have w1 : l2.toInt = 0 := by rw [c2]; decide +kernel
    refine at_tabIn (dflt := 122) (lo := 0) (hi := 8) (offs := #[49, 54, 59, 64, 69, 74, 79, 85, 108]) (len := 49) (off := 49) 92 (by decide +kernel) (by rw [w1]; decide) (by rw [w1]; decide) (by rw [w1]; decide +kernel) (by decide +kernel) ?_
    refine at_aload_n (i := 3) 2 93 rfl (by decide +kernel) rfl ?_
    obtain ⟨b3, e4, h⟩ := h
    rw [e4]
    obtain ⟨k5, h⟩ := h
    refine at_get (index := 258) (v := .int (mI m b3 3)) cok1 3 96 rfl (by decide +kernel) k5 (by decide +kernel) tw_214 rfl ?_
    exact at_iret rfl (by decide +kernel) h
  rw [if_neg c2] at h
  by_cases c6 : l2 = (1 : Int32)
  · rw [if_pos c6] at h
    have w1 : l2.toInt = 1 := by rw [c6]; decide +kernel
    refine at_tabIn (dflt := 122) (lo := 0) (hi := 8) (offs := #[49, 54, 59, 64, 69, 74, 79, 85, 108]) (len := 49) (off := 54) 97 (by decide +kernel) (by rw [w1]; decide) (by rw [w1]; decide) (by rw [w1]; decide +kernel) (by decide +kernel) ?_
    refine at_aload_n (i := 3) 2 98 rfl (by decide +kernel) rfl ?_
    obtain ⟨b7, e8, h⟩ := h
    rw [e8]
    obtain ⟨k9, h⟩ := h
    refine at_get (index := 261) (v := .int (mI m b7 5)) cok1 5 101 rfl (by decide +kernel) k9 (by decide +kernel) tw_219 rfl ?_
    exact at_iret rfl (by decide +kernel) h
  rw [if_neg c6] at h
  by_cases c10 : l2 = (2 : Int32)
  · rw [if_pos c10] at h
    have w1 : l2.toInt = 2 := by rw [c10]; decide +kernel
    refine at_tabIn (dflt := 122) (lo := 0) (hi := 8) (offs := #[49, 54, 59, 64, 69, 74, 79, 85, 108]) (len := 49) (off := 59) 102 (by decide +kernel) (by rw [w1]; decide) (by rw [w1]; decide) (by rw [w1]; decide +kernel) (by decide +kernel) ?_
    refine at_aload_n (i := 3) 2 103 rfl (by decide +kernel) rfl ?_
    obtain ⟨b11, e12, h⟩ := h
    rw [e12]
    obtain ⟨k13, h⟩ := h
    refine at_get (index := 264) (v := .int (mI m b11 6)) cok1 6 106 rfl (by decide +kernel) k13 (by decide +kernel) tw_221 rfl ?_
    exact at_iret rfl (by decide +kernel) h
  rw [if_neg c10] at h
  by_cases c14 : l2 = (3 : Int32)
  · rw [if_pos c14] at h
    have w1 : l2.toInt = 3 := by rw [c14]; decide +kernel
    refine at_tabIn (dflt := 122) (lo := 0) (hi := 8) (offs := #[49, 54, 59, 64, 69, 74, 79, 85, 108]) (len := 49) (off := 64) 107 (by decide +kernel) (by rw [w1]; decide) (by rw [w1]; decide) (by rw [w1]; decide +kernel) (by decide +kernel) ?_
    refine at_aload_n (i := 3) 2 108 rfl (by decide +kernel) rfl ?_
    obtain ⟨b15, e16, h⟩ := h
    rw [e16]
    obtain ⟨k17, h⟩ := h
    refine at_get (index := 267) (v := .int (mI m b15 7)) cok1 7 111 rfl (by decide +kernel) k17 (by decide +kernel) tw_223 rfl ?_
    exact at_iret rfl (by decide +kernel) h
  rw [if_neg c14] at h
  by_cases c18 : l2 = (4 : Int32)
  · rw [if_pos c18] at h
    have w1 : l2.toInt = 4 := by rw [c18]; decide +kernel
    refine at_tabIn (dflt := 122) (lo := 0) (hi := 8) (offs := #[49, 54, 59, 64, 69, 74, 79, 85, 108]) (len := 49) (off := 69) 112 (by decide +kernel) (by rw [w1]; decide) (by rw [w1]; decide) (by rw [w1]; decide +kernel) (by decide +kernel) ?_
    refine at_aload_n (i := 3) 2 113 rfl (by decide +kernel) rfl ?_
    obtain ⟨b19, e20, h⟩ := h
    rw [e20]
    obtain ⟨k21, h⟩ := h
    refine at_get (index := 270) (v := .int (mI m b19 8)) cok1 8 116 rfl (by decide +kernel) k21 (by decide +kernel) tw_225 rfl ?_
    exact at_iret rfl (by decide +kernel) h
  rw [if_neg c18] at h
  by_cases c22 : l2 = (5 : Int32)
  · rw [if_pos c22] at h
    have w1 : l2.toInt = 5 := by rw [c22]; decide +kernel
    refine at_tabIn (dflt := 122) (lo := 0) (hi := 8) (offs := #[49, 54, 59, 64, 69, 74, 79, 85, 108]) (len := 49) (off := 74) 117 (by decide +kernel) (by rw [w1]; decide) (by rw [w1]; decide) (by rw [w1]; decide +kernel) (by decide +kernel) ?_
    refine at_aload_n (i := 3) 2 118 rfl (by decide +kernel) rfl ?_
    obtain ⟨b23, e24, h⟩ := h
    rw [e24]
    obtain ⟨k25, h⟩ := h
    refine at_get (index := 247) (v := .int (mI m b23 9)) cok1 9 121 rfl (by decide +kernel) k25 (by decide +kernel) tw_228 rfl ?_
    exact at_iret rfl (by decide +kernel) h
  rw [if_neg c22] at h
  by_cases c26 : l2 = (6 : Int32)
  · rw [if_pos c26] at h
    have w1 : l2.toInt = 6 := by rw [c26]; decide +kernel
    refine at_tabIn (dflt := 122) (lo := 0) (hi := 8) (offs := #[49, 54, 59, 64, 69, 74, 79, 85, 108]) (len := 49) (off := 79) 122 (by decide +kernel) (by rw [w1]; decide) (by rw [w1]; decide) (by rw [w1]; decide +kernel) (by decide +kernel) ?_
    refine at_aload_n (i := 3) 2 123 rfl (by decide +kernel) rfl ?_
    obtain ⟨b27, e28, h⟩ := h
    rw [e28]
    obtain ⟨k29, h⟩ := h
    refine at_get (index := 273) (v := .long (mL m b27 12)) cok1 12 126 rfl (by decide +kernel) k29 (by decide +kernel) tw_237 rfl ?_
    refine at_l2i 127 rfl (by decide +kernel) ?_
    exact at_iret rfl (by decide +kernel) h
  rw [if_neg c26] at h
  by_cases c30 : l2 = (7 : Int32)
  · rw [if_pos c30] at h
    have w1 : l2.toInt = 7 := by rw [c30]; decide +kernel
    refine at_tabIn (dflt := 122) (lo := 0) (hi := 8) (offs := #[49, 54, 59, 64, 69, 74, 79, 85, 108]) (len := 49) (off := 85) 128 (by decide +kernel) (by rw [w1]; decide) (by rw [w1]; decide) (by rw [w1]; decide +kernel) (by decide +kernel) ?_
    refine at_iload (i := 4) 3 130 rfl (by decide +kernel) rfl ?_
    refine at_if_eq (off := 7) 137 133 rfl (by decide +kernel) (by decide +kernel) (fun c31 => ?_) (fun c31 => ?_)
    · rw [if_pos c31] at h
      refine at_aload_n (i := 3) 2 138 rfl (by decide +kernel) rfl ?_
      refine at_aload_n (i := 0) 0 139 rfl (by decide +kernel) rfl ?_
      obtain ⟨k32, h⟩ := h
      refine at_get (index := 21) (v := va_rf (mR m t 1)) cok11 1 142 rfl (by decide +kernel) k32 (by decide +kernel) tw_441 rfl ?_
      obtain ⟨b33, e34, h⟩ := h
      rw [e34]
      obtain ⟨k35, h⟩ := h
      refine at_get (index := 106) (v := .int (mI m b33 9)) cok3 9 145 rfl (by decide +kernel) k35 (by decide +kernel) tw_300 rfl ?_
      refine at_iconst (n := 1) (1 : Int32) 146 rfl (by decide +kernel) (by decide +kernel) ?_
      refine at_isub 147 rfl (by decide +kernel) ?_
      obtain ⟨b36, e37, h⟩ := h
      rw [e37]
      obtain ⟨k38, h⟩ := h
      refine at_callV mb_Grower_cropOf tw_987 tw_988 cok1 k38 (index := 276) tw_986 [.int ((mI m b33 9) - (1 : Int32))] [] rfl rfl (by decide) 150 rfl (by decide +kernel) (Call.toI (CI.monoE h (fun x39 m40 h y41 => ?_)))
      have k42 : mK m40 t = 12 := y41.k k32 (by decide)
      have k43 : mK m40 b33 = 4 := y41.k k35 (by decide)
      have k44 : mK m40 b36 = 2 := y41.k k38 (by decide)
      have e45 : mR m40 t 1 = some b33 := y41.r k32 (by decide) rfl e34
      exact at_iret rfl (by decide +kernel) h
    · rw [if_neg c31] at h
      refine at_iconst (n := (-1)) (-1 : Int32) 134 rfl (by decide +kernel) (by decide +kernel) ?_
      refine at_goto (off := 16) 150 (by decide +kernel) (by decide +kernel) ?_
      exact at_iret rfl (by decide +kernel) h
  rw [if_neg c30] at h
  by_cases c46 : l2 = (8 : Int32)
  · rw [if_pos c46] at h
    have w1 : l2.toInt = 8 := by rw [c46]; decide +kernel
    refine at_tabIn (dflt := 122) (lo := 0) (hi := 8) (offs := #[49, 54, 59, 64, 69, 74, 79, 85, 108]) (len := 49) (off := 108) 151 (by decide +kernel) (by rw [w1]; decide) (by rw [w1]; decide) (by rw [w1]; decide +kernel) (by decide +kernel) ?_
    refine at_iload (i := 4) 3 153 rfl (by decide +kernel) rfl ?_
    refine at_if_eq (off := 7) 160 156 rfl (by decide +kernel) (by decide +kernel) (fun c47 => ?_) (fun c47 => ?_)
    · rw [if_pos c47] at h
      refine at_aload_n (i := 3) 2 161 rfl (by decide +kernel) rfl ?_
      obtain ⟨b48, e49, h⟩ := h
      rw [e49]
      obtain ⟨k50, h⟩ := h
      refine at_get (index := 280) (v := .int (mI m b48 10)) cok1 10 164 rfl (by decide +kernel) k50 (by decide +kernel) tw_231 rfl ?_
      exact at_iret rfl (by decide +kernel) h
    · rw [if_neg c47] at h
      refine at_iconst (n := (-1)) (-1 : Int32) 157 rfl (by decide +kernel) (by decide +kernel) ?_
      refine at_goto (off := 7) 164 (by decide +kernel) (by decide +kernel) ?_
      exact at_iret rfl (by decide +kernel) h
  rw [if_neg c46] at h
  have c2e : l2.toInt ≠ 0 := fun e => c2 (Int32.toInt_inj.mp (e.trans (by decide +kernel)))
  have c6e : l2.toInt ≠ 1 := fun e => c6 (Int32.toInt_inj.mp (e.trans (by decide +kernel)))
  have c10e : l2.toInt ≠ 2 := fun e => c10 (Int32.toInt_inj.mp (e.trans (by decide +kernel)))
  have c14e : l2.toInt ≠ 3 := fun e => c14 (Int32.toInt_inj.mp (e.trans (by decide +kernel)))
  have c18e : l2.toInt ≠ 4 := fun e => c18 (Int32.toInt_inj.mp (e.trans (by decide +kernel)))
  have c22e : l2.toInt ≠ 5 := fun e => c22 (Int32.toInt_inj.mp (e.trans (by decide +kernel)))
  have c26e : l2.toInt ≠ 6 := fun e => c26 (Int32.toInt_inj.mp (e.trans (by decide +kernel)))
  have c30e : l2.toInt ≠ 7 := fun e => c30 (Int32.toInt_inj.mp (e.trans (by decide +kernel)))
  have c46e : l2.toInt ≠ 8 := fun e => c46 (Int32.toInt_inj.mp (e.trans (by decide +kernel)))
  refine at_tabOut (dflt := 122) (lo := 0) (hi := 8) (offs := #[49, 54, 59, 64, 69, 74, 79, 85, 108]) (len := 49) 165 (by decide +kernel) (by omega) (by decide +kernel) ?_
  refine at_ldc (index := 173) (-1000000 : Int32) 167 rfl (by decide +kernel) tw_894 ?_
  exact at_iret rfl (by decide +kernel) h
set_option maxRecDepth 20000 in
set_option maxHeartbeats 4000000 in
theorem en_SL_growerOf (g : Gc) {lv : Nat} {t : Nat} {l1 : Int32} {l2 : Int32} {m : Mm} {Q : Int32 → Mm → Prop} (h : mK m t = 12 ∧ (∃ b2, mR m t 1 = some b2 ∧ (mK m b2 = 4 ∧ (CI g M_Land_hasGrower lv [va_rf (some b2), .int (l1)] m (fun x5 m6 => (if (x5) = 0 then (Q (-1000000 : Int32) m6) else (∃ b12, mR m6 b2 1 = some b12 ∧ (mK m6 b12 = 19 ∧ (vp_in l1 (mN m6 b12) ∧ (if ((1 : Int32)) ≤ (mI m6 b2 9) then (At g M_SL_growerOf (lv + 1) 40 [(0, va_rf (some t)), (2, .int (l2)), (3, va_rf (mR m6 b12 l1.toNatClampNeg))] [.int ((0 : Int32))] m6 (QI Q)) else (At g M_SL_growerOf (lv + 1) 40 [(0, va_rf (some t)), (2, .int (l2)), (3, va_rf (mR m6 b12 l1.toNatClampNeg))] [.int ((1 : Int32))] m6 (QI Q)))))))))))) : CI g M_SL_growerOf (lv + 1) [va_rf (some t), .int (l1), .int (l2)] m Q := by
  refine Call.of (by decide +kernel) (Nat.le_of_ble_eq_true rfl) ?_
  show At g M_SL_growerOf (lv + 1) 0 [(0, va_rf (some t)), (1, .int (l1)), (2, .int (l2))] [] m (QI Q)
  refine at_aload_n (i := 0) 0 1 rfl (by decide +kernel) rfl ?_
  obtain ⟨k1, h⟩ := h
  refine at_get (index := 21) (v := va_rf (mR m t 1)) cok11 1 4 rfl (by decide +kernel) k1 (by decide +kernel) tw_441 rfl ?_
  obtain ⟨b2, e3, h⟩ := h
  rw [e3]
  refine at_iload_n (i := 1) 1 5 rfl (by decide +kernel) rfl ?_
  obtain ⟨k4, h⟩ := h
  refine at_callV mb_Land_hasGrower tw_666 tw_667 cok3 k4 (index := 139) tw_665 [.int (l1)] [] rfl rfl (by decide) 8 rfl (by decide +kernel) (Call.toI (CI.monoE h (fun x5 m6 h y7 => ?_)))
  have k8 : mK m6 t = 12 := y7.k k1 (by decide)
  have k9 : mK m6 b2 = 4 := y7.k k4 (by decide)
  have e10 : mR m6 t 1 = some b2 := y7.r k1 (by decide) rfl e3
  refine at_if_ne (off := 6) 14 11 rfl (by decide +kernel) (by decide +kernel) (fun c11 => ?_) (fun c11 => ?_)
  · rw [if_neg c11] at h
    refine at_aload_n (i := 0) 0 15 rfl (by decide +kernel) rfl ?_
    refine at_get (index := 21) (v := va_rf (mR m6 t 1)) cok11 1 18 rfl (by decide +kernel) k8 (by decide +kernel) tw_441 rfl ?_
    rw [e10]
    refine at_get (index := 243) (v := va_rf (mR m6 b2 1)) cok3 1 21 rfl (by decide +kernel) k9 (by decide +kernel) tw_287 rfl ?_
    obtain ⟨b12, e13, h⟩ := h
    rw [e13]
    refine at_iload_n (i := 1) 1 22 rfl (by decide +kernel) rfl ?_
    obtain ⟨k14, h⟩ := h
    obtain ⟨v15, h⟩ := h
    refine at_aaldGrower 23 rfl (by decide +kernel) k14 v15 ?_
    refine at_astore_n (i := 3) (lc' := [(0, va_rf (some t)), (2, .int (l2)), (3, va_rf (mR m6 b12 l1.toNatClampNeg))]) [1, 3, 0] 24 rfl (by decide +kernel) (by decide +kernel) rfl ?_
    refine at_aload_n (i := 0) 0 25 rfl (by decide +kernel) rfl ?_
    refine at_get (index := 21) (v := va_rf (mR m6 t 1)) cok11 1 28 rfl (by decide +kernel) k8 (by decide +kernel) tw_441 rfl ?_
    rw [e10]
    refine at_get (index := 106) (v := .int (mI m6 b2 9)) cok3 9 31 rfl (by decide +kernel) k9 (by decide +kernel) tw_300 rfl ?_
    refine at_iconst (n := 1) (1 : Int32) 32 rfl (by decide +kernel) (by decide +kernel) ?_
    refine at_icmp_ge (off := 7) 39 35 rfl (by decide +kernel) (by decide +kernel) (fun c16 => ?_) (fun c16 => ?_)
    · rw [if_pos c16] at h
      refine at_iconst (n := 0) (0 : Int32) 40 rfl (by decide +kernel) (by decide +kernel) ?_
      exact h
    · rw [if_neg c16] at h
      refine at_iconst (n := 1) (1 : Int32) 36 rfl (by decide +kernel) (by decide +kernel) ?_
      refine at_goto (off := 4) 40 (by decide +kernel) (by decide +kernel) ?_
      exact h
  · rw [if_pos c11] at h
    refine at_ldc (index := 173) (-1000000 : Int32) 13 rfl (by decide +kernel) tw_894 ?_
    exact at_iret rfl (by decide +kernel) h
set_option maxRecDepth 20000 in
set_option maxHeartbeats 4000000 in
theorem en_SL_money (g : Gc) {lv : Nat} {t : Nat} {l1 : Int32} {m : Mm} {Q : Int64 → Mm → Prop} (h : mK m t = 12 ∧ (∃ b2, mR m t 1 = some b2 ∧ (mK m b2 = 4 ∧ (CJ g M_Land_moneyOf lv [va_rf (some b2), .int (l1)] m (fun x5 m6 => (Q x5 m6)))))) : CJ g M_SL_money (lv + 1) [va_rf (some t), .int (l1)] m Q := by
  refine Call.of (by decide +kernel) (Nat.le_of_ble_eq_true rfl) ?_
  show At g M_SL_money (lv + 1) 0 [(0, va_rf (some t)), (1, .int (l1))] [] m (QJ Q)
  refine at_aload_n (i := 0) 0 1 rfl (by decide +kernel) rfl ?_
  obtain ⟨k1, h⟩ := h
  refine at_get (index := 21) (v := va_rf (mR m t 1)) cok11 1 4 rfl (by decide +kernel) k1 (by decide +kernel) tw_441 rfl ?_
  obtain ⟨b2, e3, h⟩ := h
  rw [e3]
  refine at_iload_n (i := 1) 1 5 rfl (by decide +kernel) rfl ?_
  obtain ⟨k4, h⟩ := h
  refine at_callV mb_Land_moneyOf tw_873 tw_874 cok3 k4 (index := 231) tw_968 [.int (l1)] [] rfl rfl (by decide) 8 rfl (by decide +kernel) (Call.toJ (CJ.monoE h (fun x5 m6 h y7 => ?_)))
  have k8 : mK m6 t = 12 := y7.k k1 (by decide)
  have k9 : mK m6 b2 = 4 := y7.k k4 (by decide)
  have e10 : mR m6 t 1 = some b2 := y7.r k1 (by decide) rfl e3
  exact at_lret rfl (by decide +kernel) h
set_option maxRecDepth 20000 in
set_option maxHeartbeats 4000000 in
theorem en_SL_count (g : Gc) {lv : Nat} {t : Nat} {l1 : Int32} {m : Mm} {Q : Int32 → Mm → Prop} (h : if l1 = (0 : Int32) then (mK m t = 12 ∧ (∃ b4, mR m t 1 = some b4 ∧ (mK m b4 = 4 ∧ (Q (mI m b4 9) m)))) else (if l1 = (1 : Int32) then (mK m t = 12 ∧ (∃ b9, mR m t 1 = some b9 ∧ (mK m b9 = 4 ∧ (Q (mI m b9 8) m)))) else (if l1 = (2 : Int32) then (mK m t = 12 ∧ (∃ b14, mR m t 1 = some b14 ∧ (mK m b14 = 4 ∧ (∃ b17, mR m b14 3 = some b17 ∧ (mK m b17 = 9 ∧ (Q (mI m b17 1) m)))))) else (if l1 = (3 : Int32) then (mK m t = 12 ∧ (∃ b22, mR m t 1 = some b22 ∧ (mK m b22 = 4 ∧ (Q (mI m b22 10) m)))) else (if l1 = (4 : Int32) then (mK m t = 12 ∧ (∃ b27, mR m t 1 = some b27 ∧ (mK m b27 = 4 ∧ (∃ b30, mR m b27 3 = some b30 ∧ (mK m b30 = 9 ∧ (CJ g M_Store_sacksInAll lv [va_rf (some b30)] m (fun x33 m34 => (Q x33.toInt32 m34)))))))) else (if l1 = (5 : Int32) then (mK m t = 12 ∧ (∃ b43, mR m t 1 = some b43 ∧ (mK m b43 = 4 ∧ (CJ g M_Land_freeInAll lv [va_rf (some b43)] m (fun x46 m47 => (Q x46.toInt32 m47)))))) else (if l1 = (6 : Int32) then (mK m t = 12 ∧ (∃ b54, mR m t 1 = some b54 ∧ (mK m b54 = 4 ∧ (Q (mI m b54 11) m)))) else (if l1 = (7 : Int32) then (mK m t = 12 ∧ (∃ b59, mR m t 1 = some b59 ∧ (mK m b59 = 4 ∧ (Q (mI m b59 12) m)))) else (if l1 = (8 : Int32) then (mK m t = 12 ∧ (∃ b64, mR m t 3 = some b64 ∧ (mK m b64 = 10 ∧ (Q (mI m b64 4) m)))) else (if l1 = (9 : Int32) then (mK m t = 12 ∧ (∃ b69, mR m t 1 = some b69 ∧ (mK m b69 = 4 ∧ (Q (mI m b69 13) m)))) else (if l1 = (10 : Int32) then (mK m t = 12 ∧ (∃ b74, mR m t 6 = some b74 ∧ (mK m b74 = 8 ∧ (CI g M_Rows_filledSlots lv [va_rf (some b74)] m (fun x77 m78 => (Q x77 m78)))))) else (Q (-1 : Int32) m)))))))))))) : CI g M_SL_count (lv + 1) [va_rf (some t), .int (l1)] m Q := by
  refine Call.of (by decide +kernel) (Nat.le_of_ble_eq_true rfl) ?_
  show At g M_SL_count (lv + 1) 0 [(0, va_rf (some t)), (1, .int (l1))] [] m (QI Q)
  refine at_iload_n (i := 1) 1 1 rfl (by decide +kernel) rfl ?_
  by_cases c2 : l1 = (0 : Int32)
  · rw [if_pos c2] at h
    have w1 : l1.toInt = 0 := by rw [c2]; decide +kernel
    refine at_tabIn (dflt := 155) (lo := 0) (hi := 10) (offs := #[59, 67, 75, 86, 94, 106, 115, 123, 131, 139, 147]) (len := 59) (off := 59) 60 (by decide +kernel) (by rw [w1]; decide) (by rw [w1]; decide) (by rw [w1]; decide +kernel) (by decide +kernel) ?_
    refine at_aload_n (i := 0) 0 61 rfl (by decide +kernel) rfl ?_
    obtain ⟨k3, h⟩ := h
    refine at_get (index := 21) (v := va_rf (mR m t 1)) cok11 1 64 rfl (by decide +kernel) k3 (by decide +kernel) tw_441 rfl ?_
    obtain ⟨b4, e5, h⟩ := h
    rw [e5]
    obtain ⟨k6, h⟩ := h
    refine at_get (index := 106) (v := .int (mI m b4 9)) cok3 9 67 rfl (by decide +kernel) k6 (by decide +kernel) tw_300 rfl ?_
    exact at_iret rfl (by decide +kernel) h
  rw [if_neg c2] at h
  by_cases c7 : l1 = (1 : Int32)
  · rw [if_pos c7] at h
    have w1 : l1.toInt = 1 := by rw [c7]; decide +kernel
    refine at_tabIn (dflt := 155) (lo := 0) (hi := 10) (offs := #[59, 67, 75, 86, 94, 106, 115, 123, 131, 139, 147]) (len := 59) (off := 67) 68 (by decide +kernel) (by rw [w1]; decide) (by rw [w1]; decide) (by rw [w1]; decide +kernel) (by decide +kernel) ?_
    refine at_aload_n (i := 0) 0 69 rfl (by decide +kernel) rfl ?_
    obtain ⟨k8, h⟩ := h
    refine at_get (index := 21) (v := va_rf (mR m t 1)) cok11 1 72 rfl (by decide +kernel) k8 (by decide +kernel) tw_441 rfl ?_
    obtain ⟨b9, e10, h⟩ := h
    rw [e10]
    obtain ⟨k11, h⟩ := h
    refine at_get (index := 103) (v := .int (mI m b9 8)) cok3 8 75 rfl (by decide +kernel) k11 (by decide +kernel) tw_298 rfl ?_
    exact at_iret rfl (by decide +kernel) h
  rw [if_neg c7] at h
  by_cases c12 : l1 = (2 : Int32)
  · rw [if_pos c12] at h
    have w1 : l1.toInt = 2 := by rw [c12]; decide +kernel
    refine at_tabIn (dflt := 155) (lo := 0) (hi := 10) (offs := #[59, 67, 75, 86, 94, 106, 115, 123, 131, 139, 147]) (len := 59) (off := 75) 76 (by decide +kernel) (by rw [w1]; decide) (by rw [w1]; decide) (by rw [w1]; decide +kernel) (by decide +kernel) ?_
    refine at_aload_n (i := 0) 0 77 rfl (by decide +kernel) rfl ?_
    obtain ⟨k13, h⟩ := h
    refine at_get (index := 21) (v := va_rf (mR m t 1)) cok11 1 80 rfl (by decide +kernel) k13 (by decide +kernel) tw_441 rfl ?_
    obtain ⟨b14, e15, h⟩ := h
    rw [e15]
    obtain ⟨k16, h⟩ := h
    refine at_get (index := 160) (v := va_rf (mR m b14 3)) cok3 3 83 rfl (by decide +kernel) k16 (by decide +kernel) tw_291 rfl ?_
    obtain ⟨b17, e18, h⟩ := h
    rw [e18]
    obtain ⟨k19, h⟩ := h
    refine at_get (index := 164) (v := .int (mI m b17 1)) cok8 1 86 rfl (by decide +kernel) k19 (by decide +kernel) tw_155 rfl ?_
    exact at_iret rfl (by decide +kernel) h
  rw [if_neg c12] at h
  by_cases c20 : l1 = (3 : Int32)
  · rw [if_pos c20] at h
    have w1 : l1.toInt = 3 := by rw [c20]; decide +kernel
    refine at_tabIn (dflt := 155) (lo := 0) (hi := 10) (offs := #[59, 67, 75, 86, 94, 106, 115, 123, 131, 139, 147]) (len := 59) (off := 86) 87 (by decide +kernel) (by rw [w1]; decide) (by rw [w1]; decide) (by rw [w1]; decide +kernel) (by decide +kernel) ?_
    refine at_aload_n (i := 0) 0 88 rfl (by decide +kernel) rfl ?_
    obtain ⟨k21, h⟩ := h
    refine at_get (index := 21) (v := va_rf (mR m t 1)) cok11 1 91 rfl (by decide +kernel) k21 (by decide +kernel) tw_441 rfl ?_
    obtain ⟨b22, e23, h⟩ := h
    rw [e23]
    obtain ⟨k24, h⟩ := h
    refine at_get (index := 283) (v := .int (mI m b22 10)) cok3 10 94 rfl (by decide +kernel) k24 (by decide +kernel) tw_302 rfl ?_
    exact at_iret rfl (by decide +kernel) h
  rw [if_neg c20] at h
  by_cases c25 : l1 = (4 : Int32)
  · rw [if_pos c25] at h
    have w1 : l1.toInt = 4 := by rw [c25]; decide +kernel
    refine at_tabIn (dflt := 155) (lo := 0) (hi := 10) (offs := #[59, 67, 75, 86, 94, 106, 115, 123, 131, 139, 147]) (len := 59) (off := 94) 95 (by decide +kernel) (by rw [w1]; decide) (by rw [w1]; decide) (by rw [w1]; decide +kernel) (by decide +kernel) ?_
    refine at_aload_n (i := 0) 0 96 rfl (by decide +kernel) rfl ?_
    obtain ⟨k26, h⟩ := h
    refine at_get (index := 21) (v := va_rf (mR m t 1)) cok11 1 99 rfl (by decide +kernel) k26 (by decide +kernel) tw_441 rfl ?_
    obtain ⟨b27, e28, h⟩ := h
    rw [e28]
    obtain ⟨k29, h⟩ := h
    refine at_get (index := 160) (v := va_rf (mR m b27 3)) cok3 3 102 rfl (by decide +kernel) k29 (by decide +kernel) tw_291 rfl ?_
    obtain ⟨b30, e31, h⟩ := h
    rw [e31]
    obtain ⟨k32, h⟩ := h
    refine at_callV mb_Store_sacksInAll tw_715 tw_716 cok8 k32 (index := 286) tw_999 [] [] rfl rfl (by decide) 105 rfl (by decide +kernel) (Call.toJ (CJ.monoE h (fun x33 m34 h y35 => ?_)))
    have k36 : mK m34 t = 12 := y35.k k26 (by decide)
    have k37 : mK m34 b27 = 4 := y35.k k29 (by decide)
    have k38 : mK m34 b30 = 9 := y35.k k32 (by decide)
    have e39 : mR m34 t 1 = some b27 := y35.r k26 (by decide) rfl e28
    have e40 : mR m34 b27 3 = some b30 := y35.r k29 (by decide) rfl e31
    refine at_l2i 106 rfl (by decide +kernel) ?_
    exact at_iret rfl (by decide +kernel) h
  rw [if_neg c25] at h
  by_cases c41 : l1 = (5 : Int32)
  · rw [if_pos c41] at h
    have w1 : l1.toInt = 5 := by rw [c41]; decide +kernel
    refine at_tabIn (dflt := 155) (lo := 0) (hi := 10) (offs := #[59, 67, 75, 86, 94, 106, 115, 123, 131, 139, 147]) (len := 59) (off := 106) 107 (by decide +kernel) (by rw [w1]; decide) (by rw [w1]; decide) (by rw [w1]; decide +kernel) (by decide +kernel) ?_
    refine at_aload_n (i := 0) 0 108 rfl (by decide +kernel) rfl ?_
    obtain ⟨k42, h⟩ := h
    refine at_get (index := 21) (v := va_rf (mR m t 1)) cok11 1 111 rfl (by decide +kernel) k42 (by decide +kernel) tw_441 rfl ?_
    obtain ⟨b43, e44, h⟩ := h
    rw [e44]
    obtain ⟨k45, h⟩ := h
    refine at_callV mb_Land_freeInAll tw_815 tw_816 cok3 k45 (index := 290) tw_1000 [] [] rfl rfl (by decide) 114 rfl (by decide +kernel) (Call.toJ (CJ.monoE h (fun x46 m47 h y48 => ?_)))
    have k49 : mK m47 t = 12 := y48.k k42 (by decide)
    have k50 : mK m47 b43 = 4 := y48.k k45 (by decide)
    have e51 : mR m47 t 1 = some b43 := y48.r k42 (by decide) rfl e44
    refine at_l2i 115 rfl (by decide +kernel) ?_
    exact at_iret rfl (by decide +kernel) h
  rw [if_neg c41] at h
  by_cases c52 : l1 = (6 : Int32)
  · rw [if_pos c52] at h
    have w1 : l1.toInt = 6 := by rw [c52]; decide +kernel
    refine at_tabIn (dflt := 155) (lo := 0) (hi := 10) (offs := #[59, 67, 75, 86, 94, 106, 115, 123, 131, 139, 147]) (len := 59) (off := 115) 116 (by decide +kernel) (by rw [w1]; decide) (by rw [w1]; decide) (by rw [w1]; decide +kernel) (by decide +kernel) ?_
    refine at_aload_n (i := 0) 0 117 rfl (by decide +kernel) rfl ?_
    obtain ⟨k53, h⟩ := h
    refine at_get (index := 21) (v := va_rf (mR m t 1)) cok11 1 120 rfl (by decide +kernel) k53 (by decide +kernel) tw_441 rfl ?_
    obtain ⟨b54, e55, h⟩ := h
    rw [e55]
    obtain ⟨k56, h⟩ := h
    refine at_get (index := 293) (v := .int (mI m b54 11)) cok3 11 123 rfl (by decide +kernel) k56 (by decide +kernel) tw_304 rfl ?_
    exact at_iret rfl (by decide +kernel) h
  rw [if_neg c52] at h
  by_cases c57 : l1 = (7 : Int32)
  · rw [if_pos c57] at h
    have w1 : l1.toInt = 7 := by rw [c57]; decide +kernel
    refine at_tabIn (dflt := 155) (lo := 0) (hi := 10) (offs := #[59, 67, 75, 86, 94, 106, 115, 123, 131, 139, 147]) (len := 59) (off := 123) 124 (by decide +kernel) (by rw [w1]; decide) (by rw [w1]; decide) (by rw [w1]; decide +kernel) (by decide +kernel) ?_
    refine at_aload_n (i := 0) 0 125 rfl (by decide +kernel) rfl ?_
    obtain ⟨k58, h⟩ := h
    refine at_get (index := 21) (v := va_rf (mR m t 1)) cok11 1 128 rfl (by decide +kernel) k58 (by decide +kernel) tw_441 rfl ?_
    obtain ⟨b59, e60, h⟩ := h
    rw [e60]
    obtain ⟨k61, h⟩ := h
    refine at_get (index := 296) (v := .int (mI m b59 12)) cok3 12 131 rfl (by decide +kernel) k61 (by decide +kernel) tw_306 rfl ?_
    exact at_iret rfl (by decide +kernel) h
  rw [if_neg c57] at h
  by_cases c62 : l1 = (8 : Int32)
  · rw [if_pos c62] at h
    have w1 : l1.toInt = 8 := by rw [c62]; decide +kernel
    refine at_tabIn (dflt := 155) (lo := 0) (hi := 10) (offs := #[59, 67, 75, 86, 94, 106, 115, 123, 131, 139, 147]) (len := 59) (off := 131) 132 (by decide +kernel) (by rw [w1]; decide) (by rw [w1]; decide) (by rw [w1]; decide +kernel) (by decide +kernel) ?_
    refine at_aload_n (i := 0) 0 133 rfl (by decide +kernel) rfl ?_
    obtain ⟨k63, h⟩ := h
    refine at_get (index := 31) (v := va_rf (mR m t 3)) cok11 3 136 rfl (by decide +kernel) k63 (by decide +kernel) tw_443 rfl ?_
    obtain ⟨b64, e65, h⟩ := h
    rw [e65]
    obtain ⟨k66, h⟩ := h
    refine at_get (index := 113) (v := .int (mI m b64 4)) cok9 4 139 rfl (by decide +kernel) k66 (by decide +kernel) tw_349 rfl ?_
    exact at_iret rfl (by decide +kernel) h
  rw [if_neg c62] at h
  by_cases c67 : l1 = (9 : Int32)
  · rw [if_pos c67] at h
    have w1 : l1.toInt = 9 := by rw [c67]; decide +kernel
    refine at_tabIn (dflt := 155) (lo := 0) (hi := 10) (offs := #[59, 67, 75, 86, 94, 106, 115, 123, 131, 139, 147]) (len := 59) (off := 139) 140 (by decide +kernel) (by rw [w1]; decide) (by rw [w1]; decide) (by rw [w1]; decide +kernel) (by decide +kernel) ?_
    refine at_aload_n (i := 0) 0 141 rfl (by decide +kernel) rfl ?_
    obtain ⟨k68, h⟩ := h
    refine at_get (index := 21) (v := va_rf (mR m t 1)) cok11 1 144 rfl (by decide +kernel) k68 (by decide +kernel) tw_441 rfl ?_
    obtain ⟨b69, e70, h⟩ := h
    rw [e70]
    obtain ⟨k71, h⟩ := h
    refine at_get (index := 297) (v := .int (mI m b69 13)) cok3 13 147 rfl (by decide +kernel) k71 (by decide +kernel) tw_307 rfl ?_
    exact at_iret rfl (by decide +kernel) h
  rw [if_neg c67] at h
  by_cases c72 : l1 = (10 : Int32)
  · rw [if_pos c72] at h
    have w1 : l1.toInt = 10 := by rw [c72]; decide +kernel
    refine at_tabIn (dflt := 155) (lo := 0) (hi := 10) (offs := #[59, 67, 75, 86, 94, 106, 115, 123, 131, 139, 147]) (len := 59) (off := 147) 148 (by decide +kernel) (by rw [w1]; decide) (by rw [w1]; decide) (by rw [w1]; decide +kernel) (by decide +kernel) ?_
    refine at_aload_n (i := 0) 0 149 rfl (by decide +kernel) rfl ?_
    obtain ⟨k73, h⟩ := h
    refine at_get (index := 51) (v := va_rf (mR m t 6)) cok11 6 152 rfl (by decide +kernel) k73 (by decide +kernel) tw_446 rfl ?_
    obtain ⟨b74, e75, h⟩ := h
    rw [e75]
    obtain ⟨k76, h⟩ := h
    refine at_callV mb_Rows_filledSlots tw_1002 tw_1003 cok7 k76 (index := 300) tw_1001 [] [] rfl rfl (by decide) 155 rfl (by decide +kernel) (Call.toI (CI.monoE h (fun x77 m78 h y79 => ?_)))
    have k80 : mK m78 t = 12 := y79.k k73 (by decide)
    have k81 : mK m78 b74 = 8 := y79.k k76 (by decide)
    have e82 : mR m78 t 6 = some b74 := y79.r k73 (by decide) rfl e75
    exact at_iret rfl (by decide +kernel) h
  rw [if_neg c72] at h
  have c2e : l1.toInt ≠ 0 := fun e => c2 (Int32.toInt_inj.mp (e.trans (by decide +kernel)))
  have c7e : l1.toInt ≠ 1 := fun e => c7 (Int32.toInt_inj.mp (e.trans (by decide +kernel)))
  have c12e : l1.toInt ≠ 2 := fun e => c12 (Int32.toInt_inj.mp (e.trans (by decide +kernel)))
  have c20e : l1.toInt ≠ 3 := fun e => c20 (Int32.toInt_inj.mp (e.trans (by decide +kernel)))
  have c25e : l1.toInt ≠ 4 := fun e => c25 (Int32.toInt_inj.mp (e.trans (by decide +kernel)))
  have c41e : l1.toInt ≠ 5 := fun e => c41 (Int32.toInt_inj.mp (e.trans (by decide +kernel)))
  have c52e : l1.toInt ≠ 6 := fun e => c52 (Int32.toInt_inj.mp (e.trans (by decide +kernel)))
  have c57e : l1.toInt ≠ 7 := fun e => c57 (Int32.toInt_inj.mp (e.trans (by decide +kernel)))
  have c62e : l1.toInt ≠ 8 := fun e => c62 (Int32.toInt_inj.mp (e.trans (by decide +kernel)))
  have c67e : l1.toInt ≠ 9 := fun e => c67 (Int32.toInt_inj.mp (e.trans (by decide +kernel)))
  have c72e : l1.toInt ≠ 10 := fun e => c72 (Int32.toInt_inj.mp (e.trans (by decide +kernel)))
  refine at_tabOut (dflt := 155) (lo := 0) (hi := 10) (offs := #[59, 67, 75, 86, 94, 106, 115, 123, 131, 139, 147]) (len := 59) 156 (by decide +kernel) (by omega) (by decide +kernel) ?_
  refine at_iconst (n := (-1)) (-1 : Int32) 157 rfl (by decide +kernel) (by decide +kernel) ?_
  exact at_iret rfl (by decide +kernel) h
set_option maxRecDepth 20000 in
set_option maxHeartbeats 4000000 in
theorem en_SL_sum (g : Gc) {lv : Nat} {t : Nat} {l1 : Int32} {m : Mm} {Q : Int64 → Mm → Prop} (h : CI g M_SL_isWithin lv [.int (l1), .int ((0 : Int32)), .int ((7 : Int32))] m (fun x1 m2 => (if (x1) = 0 then (Q (0 : Int64) m2) else (mK m2 t = 12 ∧ (∃ b6, mR m2 t 1 = some b6 ∧ (mK m2 b6 = 4 ∧ (∃ b9, mR m2 b6 7 = some b9 ∧ (mK m2 b9 = 16 ∧ (vp_in l1 (mN m2 b9) ∧ (Q (mL m2 b9 l1.toNatClampNeg) m2)))))))))) : CJ g M_SL_sum (lv + 1) [va_rf (some t), .int (l1)] m Q := by
  refine Call.of (by decide +kernel) (Nat.le_of_ble_eq_true rfl) ?_
  show At g M_SL_sum (lv + 1) 0 [(0, va_rf (some t)), (1, .int (l1))] [] m (QJ Q)
  refine at_iload_n (i := 1) 1 1 rfl (by decide +kernel) rfl ?_
  refine at_iconst (n := 0) (0 : Int32) 2 rfl (by decide +kernel) (by decide +kernel) ?_
  refine at_bipush (n := 7) (7 : Int32) 4 rfl (by decide +kernel) (by decide +kernel) ?_
  refine at_callS mb_SL_isWithin tw_471 (index := 64) tw_470 [.int (l1), .int ((0 : Int32)), .int ((7 : Int32))] [] rfl rfl (by decide) 7 rfl (by decide +kernel) (Call.toI (CI.monoE h (fun x1 m2 h y3 => ?_)))
  refine at_if_eq (off := 15) 22 10 rfl (by decide +kernel) (by decide +kernel) (fun c4 => ?_) (fun c4 => ?_)
  · rw [if_pos c4] at h
    refine at_lconst (n := 0) (0 : Int64) 23 rfl (by decide +kernel) (by decide +kernel) ?_
    exact at_lret rfl (by decide +kernel) h
  · rw [if_neg c4] at h
    refine at_aload_n (i := 0) 0 11 rfl (by decide +kernel) rfl ?_
    obtain ⟨k5, h⟩ := h
    refine at_get (index := 21) (v := va_rf (mR m2 t 1)) cok11 1 14 rfl (by decide +kernel) k5 (by decide +kernel) tw_441 rfl ?_
    obtain ⟨b6, e7, h⟩ := h
    rw [e7]
    obtain ⟨k8, h⟩ := h
    refine at_get (index := 252) (v := va_rf (mR m2 b6 7)) cok3 7 17 rfl (by decide +kernel) k8 (by decide +kernel) tw_296 rfl ?_
    obtain ⟨b9, e10, h⟩ := h
    rw [e10]
    refine at_iload_n (i := 1) 1 18 rfl (by decide +kernel) rfl ?_
    obtain ⟨k11, h⟩ := h
    obtain ⟨v12, h⟩ := h
    refine at_lald 19 rfl (by decide +kernel) k11 v12 ?_
    refine at_goto (off := 4) 23 (by decide +kernel) (by decide +kernel) ?_
    exact at_lret rfl (by decide +kernel) h
set_option maxRecDepth 20000 in
set_option maxHeartbeats 4000000 in
theorem bk_SL_gains_5 (g : Gc) {lv : Nat} {t : Nat} {l1 : Int32} {l2 : Int32} {l3 : Int64} {l5 : Int32} {m : Mm} {Q : Int64 → Mm → Prop} (h : mK m t = 12 ∧ (∃ b2, mR m t 1 = some b2 ∧ (mK m b2 = 4 ∧ (if (mI m b2 8) ≤ (l5) then (Q l3 m) else (∃ b6, mR m b2 1 = some b6 ∧ (mK m b6 = 19 ∧ (vp_in l5 (mN m b6) ∧ (∃ b10, mR m b6 l5.toNatClampNeg = some b10 ∧ (mK m b10 = 2 ∧ (CI g M_SL_isWithin lv [.int (mI m b10 5), .int (l1), .int (l2)] m (fun x13 m14 => (if (x13) = 0 then (At g M_SL_gains (lv + 1) 5 [(0, va_rf (some t)), (1, .int (l1)), (2, .int (l2)), (3, .long (l3)), (5, .int (l5 + (1 : Int32)))] [] m14 (QJ Q)) else (At g M_SL_gains (lv + 1) 5 [(0, va_rf (some t)), (1, .int (l1)), (2, .int (l2)), (3, .long (l3 + (mL m14 b10 11))), (5, .int (l5 + (1 : Int32)))] [] m14 (QJ Q)))))))))))))) : At g M_SL_gains (lv + 1) 5 [(0, va_rf (some t)), (1, .int (l1)), (2, .int (l2)), (3, .long (l3)), (5, .int (l5))] [] m (QJ Q) := by
  refine at_iload (i := 5) 4 7 rfl (by decide +kernel) rfl ?_
  refine at_aload_n (i := 0) 0 8 rfl (by decide +kernel) rfl ?_
  obtain ⟨k1, h⟩ := h
  refine at_get (index := 21) (v := va_rf (mR m t 1)) cok11 1 11 rfl (by decide +kernel) k1 (by decide +kernel) tw_441 rfl ?_
  obtain ⟨b2, e3, h⟩ := h
  rw [e3]
  obtain ⟨k4, h⟩ := h
  refine at_get (index := 103) (v := .int (mI m b2 8)) cok3 8 14 rfl (by decide +kernel) k4 (by decide +kernel) tw_298 rfl ?_
  refine at_icmp_ge (off := 42) 56 17 rfl (by decide +kernel) (by decide +kernel) (fun c5 => ?_) (fun c5 => ?_)
  · rw [if_pos c5] at h
    refine at_lload_n (i := 3) 3 57 rfl (by decide +kernel) rfl ?_
    exact at_lret rfl (by decide +kernel) h
  · rw [if_neg c5] at h
    refine at_aload_n (i := 0) 0 18 rfl (by decide +kernel) rfl ?_
    refine at_get (index := 21) (v := va_rf (mR m t 1)) cok11 1 21 rfl (by decide +kernel) k1 (by decide +kernel) tw_441 rfl ?_
    rw [e3]
    refine at_get (index := 243) (v := va_rf (mR m b2 1)) cok3 1 24 rfl (by decide +kernel) k4 (by decide +kernel) tw_287 rfl ?_
    obtain ⟨b6, e7, h⟩ := h
    rw [e7]
    refine at_iload (i := 5) 4 26 rfl (by decide +kernel) rfl ?_
    obtain ⟨k8, h⟩ := h
    obtain ⟨v9, h⟩ := h
    refine at_aaldGrower 27 rfl (by decide +kernel) k8 v9 ?_
    refine at_astore (i := 6) (lc' := [(0, va_rf (some t)), (1, .int (l1)), (2, .int (l2)), (3, .long (l3)), (5, .int (l5)), (6, va_rf (mR m b6 l5.toNatClampNeg))]) [1, 2, 3, 4, 5, 0] 29 rfl (by decide +kernel) (by decide +kernel) rfl ?_
    refine at_aload (i := 6) 5 31 rfl (by decide +kernel) rfl ?_
    obtain ⟨b10, e11, h⟩ := h
    rw [e11]
    obtain ⟨k12, h⟩ := h
    refine at_get (index := 261) (v := .int (mI m b10 5)) cok1 5 34 rfl (by decide +kernel) k12 (by decide +kernel) tw_219 rfl ?_
    refine at_iload_n (i := 1) 1 35 rfl (by decide +kernel) rfl ?_
    refine at_iload_n (i := 2) 2 36 rfl (by decide +kernel) rfl ?_
    refine at_callS mb_SL_isWithin tw_471 (index := 64) tw_470 [.int (mI m b10 5), .int (l1), .int (l2)] [] rfl rfl (by decide) 39 rfl (by decide +kernel) (Call.toI (CI.monoE h (fun x13 m14 h y15 => ?_)))
    have k16 : mK m14 t = 12 := y15.k k1 (by decide)
    have k17 : mK m14 b2 = 4 := y15.k k4 (by decide)
    have k18 : mK m14 b6 = 19 := y15.k k8 (by decide)
    have k19 : mK m14 b10 = 2 := y15.k k12 (by decide)
    have e20 : mR m14 t 1 = some b2 := y15.r k1 (by decide) rfl e3
    have e21 : mR m14 b2 1 = some b6 := y15.r k4 (by decide) rfl e7
    have e22 : mR m14 b6 l5.toNatClampNeg = some b10 := y15.r k8 (by decide) rfl e11
    refine at_if_eq (off := 11) 50 42 rfl (by decide +kernel) (by decide +kernel) (fun c23 => ?_) (fun c23 => ?_)
    · rw [if_pos c23] at h
      refine at_iinc (i := 5) (n := 1) (lc' := [(0, va_rf (some t)), (1, .int (l1)), (2, .int (l2)), (3, .long (l3)), (5, .int (l5 + (1 : Int32)))]) (l5 + (1 : Int32)) 4 [1, 2, 3, 4, 0] 53 rfl (by decide +kernel) rfl (by rw [show Int32.ofInt 1 = (1 : Int32) from by decide +kernel]) (by decide +kernel) rfl ?_
      refine at_goto (off := (-48)) 5 (by decide +kernel) (by decide +kernel) ?_
      exact h
    · rw [if_neg c23] at h
      refine at_lload_n (i := 3) 3 43 rfl (by decide +kernel) rfl ?_
      refine at_aload (i := 6) 5 45 rfl (by decide +kernel) rfl ?_
      refine at_get (index := 304) (v := .long (mL m14 b10 11)) cok1 11 48 rfl (by decide +kernel) k19 (by decide +kernel) tw_234 rfl ?_
      refine at_ladd 49 rfl (by decide +kernel) ?_
      refine at_lstore_n (i := 3) (lc' := [(0, va_rf (some t)), (1, .int (l1)), (2, .int (l2)), (3, .long (l3 + (mL m14 b10 11))), (5, .int (l5))]) [1, 2, 3, 0, 4] 50 rfl (by decide +kernel) (by decide +kernel) rfl ?_
      refine at_iinc (i := 5) (n := 1) (lc' := [(0, va_rf (some t)), (1, .int (l1)), (2, .int (l2)), (3, .long (l3 + (mL m14 b10 11))), (5, .int (l5 + (1 : Int32)))]) (l5 + (1 : Int32)) 4 [1, 2, 3, 4, 0] 53 rfl (by decide +kernel) rfl (by rw [show Int32.ofInt 1 = (1 : Int32) from by decide +kernel]) (by decide +kernel) rfl ?_
      refine at_goto (off := (-48)) 5 (by decide +kernel) (by decide +kernel) ?_
      exact h
set_option maxRecDepth 20000 in
set_option maxHeartbeats 4000000 in
theorem en_SL_gains (g : Gc) {lv : Nat} {t : Nat} {l1 : Int32} {l2 : Int32} {m : Mm} {Q : Int64 → Mm → Prop} (h : At g M_SL_gains (lv + 1) 5 [(0, va_rf (some t)), (1, .int (l1)), (2, .int (l2)), (3, .long ((0 : Int64))), (5, .int ((0 : Int32)))] [] m (QJ Q)) : CJ g M_SL_gains (lv + 1) [va_rf (some t), .int (l1), .int (l2)] m Q := by
  refine Call.of (by decide +kernel) (Nat.le_of_ble_eq_true rfl) ?_
  show At g M_SL_gains (lv + 1) 0 [(0, va_rf (some t)), (1, .int (l1)), (2, .int (l2))] [] m (QJ Q)
  refine at_lconst (n := 0) (0 : Int64) 1 rfl (by decide +kernel) (by decide +kernel) ?_
  refine at_lstore_n (i := 3) (lc' := [(0, va_rf (some t)), (1, .int (l1)), (2, .int (l2)), (3, .long ((0 : Int64)))]) [1, 2, 3, 0] 2 rfl (by decide +kernel) (by decide +kernel) rfl ?_
  refine at_iconst (n := 0) (0 : Int32) 3 rfl (by decide +kernel) (by decide +kernel) ?_
  refine at_istore (i := 5) (lc' := [(0, va_rf (some t)), (1, .int (l1)), (2, .int (l2)), (3, .long ((0 : Int64))), (5, .int ((0 : Int32)))]) [1, 2, 3, 4, 0] 5 rfl (by decide +kernel) (by decide +kernel) rfl ?_
  exact h
set_option maxRecDepth 20000 in
set_option maxHeartbeats 4000000 in
theorem en_SL_beside (g : Gc) {lv : Nat} {t : Nat} {l1 : Int32} {m : Mm} {Q : Int64 → Mm → Prop} (h : CI g M_SL_isWithin lv [.int (l1), .int ((0 : Int32)), .int ((4 : Int32))] m (fun x1 m2 => (if (x1) = 0 then (Q (-2 : Int64) m2) else (mK m2 t = 12 ∧ (∃ b6, mR m2 t 3 = some b6 ∧ (∃ b8, mR m2 t 4 = some b8 ∧ (mK m2 b6 = 10 ∧ (CI g M_Tape_readLaw lv [va_rf (some b6), va_rf (some b8)] m2 (fun x11 m12 => (if (x11) = 0 then (Q (-4 : Int64) m12) else (∃ b19, mR m12 t 2 = some b19 ∧ (∃ b21, mR m12 t 1 = some b21 ∧ (mK m12 b19 = 4 ∧ (CV g M_Land_liveAgain lv [va_rf (some b19), va_rf (some b21), va_rf (some b8)] m12 (fun m24 => (if l1 = (0 : Int32) then (Q ((mI m24 b19 10).toInt64) m24) else (if l1 = (1 : Int32) then (∃ b36, mR m24 b19 3 = some b36 ∧ (mK m24 b36 = 9 ∧ (CJ g M_Store_sacksInAll lv [va_rf (some b36)] m24 (fun x39 m40 => (Q x39 m40))))) else (if l1 = (2 : Int32) then (CJ g M_Land_moneyInAll lv [va_rf (some b19)] m24 (fun x52 m53 => (Q x52 m53))) else (if l1 = (3 : Int32) then (CJ g M_Land_bearingInAll lv [va_rf (some b19)] m24 (fun x63 m64 => (Q x63 m64))) else (CJ g M_Land_freeInAll lv [va_rf (some b19)] m24 (fun x73 m74 => (Q x73 m74)))))))))))))))))))))) : CJ g M_SL_beside (lv + 1) [va_rf (some t), .int (l1)] m Q := by
  refine Call.of (by decide +kernel) (Nat.le_of_ble_eq_true rfl) ?_
  show At g M_SL_beside (lv + 1) 0 [(0, va_rf (some t)), (1, .int (l1))] [] m (QJ Q)
  refine at_iload_n (i := 1) 1 1 rfl (by decide +kernel) rfl ?_
  refine at_iconst (n := 0) (0 : Int32) 2 rfl (by decide +kernel) (by decide +kernel) ?_
  refine at_iconst (n := 4) (4 : Int32) 3 rfl (by decide +kernel) (by decide +kernel) ?_
  refine at_callS mb_SL_isWithin tw_471 (index := 64) tw_470 [.int (l1), .int ((0 : Int32)), .int ((4 : Int32))] [] rfl rfl (by decide) 6 rfl (by decide +kernel) (Call.toI (CI.monoE h (fun x1 m2 h y3 => ?_)))
  refine at_if_ne (off := 7) 13 9 rfl (by decide +kernel) (by decide +kernel) (fun c4 => ?_) (fun c4 => ?_)
  · rw [if_neg c4] at h
    refine at_aload_n (i := 0) 0 14 rfl (by decide +kernel) rfl ?_
    obtain ⟨k5, h⟩ := h
    refine at_get (index := 31) (v := va_rf (mR m2 t 3)) cok11 3 17 rfl (by decide +kernel) k5 (by decide +kernel) tw_443 rfl ?_
    obtain ⟨b6, e7, h⟩ := h
    rw [e7]
    refine at_aload_n (i := 0) 0 18 rfl (by decide +kernel) rfl ?_
    refine at_get (index := 40) (v := va_rf (mR m2 t 4)) cok11 4 21 rfl (by decide +kernel) k5 (by decide +kernel) tw_444 rfl ?_
    obtain ⟨b8, e9, h⟩ := h
    rw [e9]
    obtain ⟨k10, h⟩ := h
    refine at_callV mb_Tape_readLaw tw_508 tw_509 cok9 k10 (index := 120) tw_507 [va_rf (some b8)] [] rfl rfl (by decide) 24 rfl (by decide +kernel) (Call.toI (CI.monoE h (fun x11 m12 h y13 => ?_)))
    have k14 : mK m12 t = 12 := y13.k k5 (by decide)
    have k15 : mK m12 b6 = 10 := y13.k k10 (by decide)
    have e16 : mR m12 t 3 = some b6 := y13.r k5 (by decide) rfl e7
    have e17 : mR m12 t 4 = some b8 := y13.r k5 (by decide) rfl e9
    refine at_if_ne (off := 7) 31 27 rfl (by decide +kernel) (by decide +kernel) (fun c18 => ?_) (fun c18 => ?_)
    · rw [if_neg c18] at h
      refine at_aload_n (i := 0) 0 32 rfl (by decide +kernel) rfl ?_
      refine at_get (index := 25) (v := va_rf (mR m12 t 2)) cok11 2 35 rfl (by decide +kernel) k14 (by decide +kernel) tw_442 rfl ?_
      obtain ⟨b19, e20, h⟩ := h
      rw [e20]
      refine at_aload_n (i := 0) 0 36 rfl (by decide +kernel) rfl ?_
      refine at_get (index := 21) (v := va_rf (mR m12 t 1)) cok11 1 39 rfl (by decide +kernel) k14 (by decide +kernel) tw_441 rfl ?_
      obtain ⟨b21, e22, h⟩ := h
      rw [e22]
      refine at_aload_n (i := 0) 0 40 rfl (by decide +kernel) rfl ?_
      refine at_get (index := 40) (v := va_rf (mR m12 t 4)) cok11 4 43 rfl (by decide +kernel) k14 (by decide +kernel) tw_444 rfl ?_
      rw [e17]
      obtain ⟨k23, h⟩ := h
      refine at_callV mb_Land_liveAgain tw_1019 tw_1020 cok3 k23 (index := 309) tw_1018 [va_rf (some b21), va_rf (some b8)] [] rfl rfl (by decide) 46 rfl (by decide +kernel) (Call.toV (CV.monoE h (fun m24 h y25 => ?_)))
      have k26 : mK m24 t = 12 := y25.k k14 (by decide)
      have k27 : mK m24 b6 = 10 := y25.k k15 (by decide)
      have k28 : mK m24 b19 = 4 := y25.k k23 (by decide)
      have e29 : mR m24 t 3 = some b6 := y25.r k14 (by decide) rfl e16
      have e30 : mR m24 t 4 = some b8 := y25.r k14 (by decide) rfl e17
      have e31 : mR m24 t 2 = some b19 := y25.r k14 (by decide) rfl e20
      have e32 : mR m24 t 1 = some b21 := y25.r k14 (by decide) rfl e22
      refine at_iload_n (i := 1) 1 47 rfl (by decide +kernel) rfl ?_
      by_cases c34 : l1 = (0 : Int32)
      · rw [if_pos c34] at h
        have w33 : l1.toInt = 0 := by rw [c34]; decide +kernel
        refine at_tabIn (dflt := 65) (lo := 0) (hi := 3) (offs := #[29, 38, 49, 57]) (len := 29) (off := 29) 76 (by decide +kernel) (by rw [w33]; decide) (by rw [w33]; decide) (by rw [w33]; decide +kernel) (by decide +kernel) ?_
        refine at_aload_n (i := 0) 0 77 rfl (by decide +kernel) rfl ?_
        refine at_get (index := 25) (v := va_rf (mR m24 t 2)) cok11 2 80 rfl (by decide +kernel) k26 (by decide +kernel) tw_442 rfl ?_
        rw [e31]
        refine at_get (index := 283) (v := .int (mI m24 b19 10)) cok3 10 83 rfl (by decide +kernel) k28 (by decide +kernel) tw_302 rfl ?_
        refine at_i2l 84 rfl (by decide +kernel) ?_
        exact at_lret rfl (by decide +kernel) h
      rw [if_neg c34] at h
      by_cases c35 : l1 = (1 : Int32)
      · rw [if_pos c35] at h
        have w33 : l1.toInt = 1 := by rw [c35]; decide +kernel
        refine at_tabIn (dflt := 65) (lo := 0) (hi := 3) (offs := #[29, 38, 49, 57]) (len := 29) (off := 38) 85 (by decide +kernel) (by rw [w33]; decide) (by rw [w33]; decide) (by rw [w33]; decide +kernel) (by decide +kernel) ?_
        refine at_aload_n (i := 0) 0 86 rfl (by decide +kernel) rfl ?_
        refine at_get (index := 25) (v := va_rf (mR m24 t 2)) cok11 2 89 rfl (by decide +kernel) k26 (by decide +kernel) tw_442 rfl ?_
        rw [e31]
        refine at_get (index := 160) (v := va_rf (mR m24 b19 3)) cok3 3 92 rfl (by decide +kernel) k28 (by decide +kernel) tw_291 rfl ?_
        obtain ⟨b36, e37, h⟩ := h
        rw [e37]
        obtain ⟨k38, h⟩ := h
        refine at_callV mb_Store_sacksInAll tw_715 tw_716 cok8 k38 (index := 286) tw_999 [] [] rfl rfl (by decide) 95 rfl (by decide +kernel) (Call.toJ (CJ.monoE h (fun x39 m40 h y41 => ?_)))
        have k42 : mK m40 t = 12 := y41.k k26 (by decide)
        have k43 : mK m40 b6 = 10 := y41.k k27 (by decide)
        have k44 : mK m40 b19 = 4 := y41.k k28 (by decide)
        have k45 : mK m40 b36 = 9 := y41.k k38 (by decide)
        have e46 : mR m40 t 3 = some b6 := y41.r k26 (by decide) rfl e29
        have e47 : mR m40 t 4 = some b8 := y41.r k26 (by decide) rfl e30
        have e48 : mR m40 t 2 = some b19 := y41.r k26 (by decide) rfl e31
        have e49 : mR m40 t 1 = some b21 := y41.r k26 (by decide) rfl e32
        have e50 : mR m40 b19 3 = some b36 := y41.r k28 (by decide) rfl e37
        exact at_lret rfl (by decide +kernel) h
      rw [if_neg c35] at h
      by_cases c51 : l1 = (2 : Int32)
      · rw [if_pos c51] at h
        have w33 : l1.toInt = 2 := by rw [c51]; decide +kernel
        refine at_tabIn (dflt := 65) (lo := 0) (hi := 3) (offs := #[29, 38, 49, 57]) (len := 29) (off := 49) 96 (by decide +kernel) (by rw [w33]; decide) (by rw [w33]; decide) (by rw [w33]; decide +kernel) (by decide +kernel) ?_
        refine at_aload_n (i := 0) 0 97 rfl (by decide +kernel) rfl ?_
        refine at_get (index := 25) (v := va_rf (mR m24 t 2)) cok11 2 100 rfl (by decide +kernel) k26 (by decide +kernel) tw_442 rfl ?_
        rw [e31]
        refine at_callV mb_Land_moneyInAll tw_1026 tw_1027 cok3 k28 (index := 313) tw_1025 [] [] rfl rfl (by decide) 103 rfl (by decide +kernel) (Call.toJ (CJ.monoE h (fun x52 m53 h y54 => ?_)))
        have k55 : mK m53 t = 12 := y54.k k26 (by decide)
        have k56 : mK m53 b6 = 10 := y54.k k27 (by decide)
        have k57 : mK m53 b19 = 4 := y54.k k28 (by decide)
        have e58 : mR m53 t 3 = some b6 := y54.r k26 (by decide) rfl e29
        have e59 : mR m53 t 4 = some b8 := y54.r k26 (by decide) rfl e30
        have e60 : mR m53 t 2 = some b19 := y54.r k26 (by decide) rfl e31
        have e61 : mR m53 t 1 = some b21 := y54.r k26 (by decide) rfl e32
        exact at_lret rfl (by decide +kernel) h
      rw [if_neg c51] at h
      by_cases c62 : l1 = (3 : Int32)
      · rw [if_pos c62] at h
        have w33 : l1.toInt = 3 := by rw [c62]; decide +kernel
        refine at_tabIn (dflt := 65) (lo := 0) (hi := 3) (offs := #[29, 38, 49, 57]) (len := 29) (off := 57) 104 (by decide +kernel) (by rw [w33]; decide) (by rw [w33]; decide) (by rw [w33]; decide +kernel) (by decide +kernel) ?_
        refine at_aload_n (i := 0) 0 105 rfl (by decide +kernel) rfl ?_
        refine at_get (index := 25) (v := va_rf (mR m24 t 2)) cok11 2 108 rfl (by decide +kernel) k26 (by decide +kernel) tw_442 rfl ?_
        rw [e31]
        refine at_callV mb_Land_bearingInAll tw_1030 tw_1031 cok3 k28 (index := 316) tw_1029 [] [] rfl rfl (by decide) 111 rfl (by decide +kernel) (Call.toJ (CJ.monoE h (fun x63 m64 h y65 => ?_)))
        have k66 : mK m64 t = 12 := y65.k k26 (by decide)
        have k67 : mK m64 b6 = 10 := y65.k k27 (by decide)
        have k68 : mK m64 b19 = 4 := y65.k k28 (by decide)
        have e69 : mR m64 t 3 = some b6 := y65.r k26 (by decide) rfl e29
        have e70 : mR m64 t 4 = some b8 := y65.r k26 (by decide) rfl e30
        have e71 : mR m64 t 2 = some b19 := y65.r k26 (by decide) rfl e31
        have e72 : mR m64 t 1 = some b21 := y65.r k26 (by decide) rfl e32
        exact at_lret rfl (by decide +kernel) h
      rw [if_neg c62] at h
      have c34e : l1.toInt ≠ 0 := fun e => c34 (Int32.toInt_inj.mp (e.trans (by decide +kernel)))
      have c35e : l1.toInt ≠ 1 := fun e => c35 (Int32.toInt_inj.mp (e.trans (by decide +kernel)))
      have c51e : l1.toInt ≠ 2 := fun e => c51 (Int32.toInt_inj.mp (e.trans (by decide +kernel)))
      have c62e : l1.toInt ≠ 3 := fun e => c62 (Int32.toInt_inj.mp (e.trans (by decide +kernel)))
      refine at_tabOut (dflt := 65) (lo := 0) (hi := 3) (offs := #[29, 38, 49, 57]) (len := 29) 112 (by decide +kernel) (by omega) (by decide +kernel) ?_
      refine at_aload_n (i := 0) 0 113 rfl (by decide +kernel) rfl ?_
      refine at_get (index := 25) (v := va_rf (mR m24 t 2)) cok11 2 116 rfl (by decide +kernel) k26 (by decide +kernel) tw_442 rfl ?_
      rw [e31]
      refine at_callV mb_Land_freeInAll tw_815 tw_816 cok3 k28 (index := 290) tw_1000 [] [] rfl rfl (by decide) 119 rfl (by decide +kernel) (Call.toJ (CJ.monoE h (fun x73 m74 h y75 => ?_)))
      have k76 : mK m74 t = 12 := y75.k k26 (by decide)
      have k77 : mK m74 b6 = 10 := y75.k k27 (by decide)
      have k78 : mK m74 b19 = 4 := y75.k k28 (by decide)
      have e79 : mR m74 t 3 = some b6 := y75.r k26 (by decide) rfl e29
      have e80 : mR m74 t 4 = some b8 := y75.r k26 (by decide) rfl e30
      have e81 : mR m74 t 2 = some b19 := y75.r k26 (by decide) rfl e31
      have e82 : mR m74 t 1 = some b21 := y75.r k26 (by decide) rfl e32
      exact at_lret rfl (by decide +kernel) h
    · rw [if_pos c18] at h
      refine at_ldc2 (index := 307) (-4 : Int64) 30 rfl (by decide +kernel) tw_1017 ?_
      exact at_lret rfl (by decide +kernel) h
  · rw [if_pos c4] at h
    refine at_ldc2 (index := 201) (-2 : Int64) 12 rfl (by decide +kernel) tw_922 ?_
    exact at_lret rfl (by decide +kernel) h
set_option maxRecDepth 20000 in
set_option maxHeartbeats 4000000 in
theorem bk_SL_light_118 (g : Gc) {lv : Nat} {t : Nat} {l1 : Int32} {l2 : Int32} {l3 : Int32} {l4 : Int32} {l6 : Int32} {l8 : Int32} {s0 : Int64} {m : Mm} {Q : Int32 → Mm → Prop} (h : mK m t = 12 ∧ (CJ g M_SL_setsOf lv [va_rf (some t), .int (l1), .int (l2)] m (fun x2 m3 => (if (s0 * (20 : Int64)) < (x2) then (At g M_SL_light (lv + 1) 56 [(0, va_rf (some t)), (1, .int (l1)), (2, .int (l2)), (3, .int (l3)), (4, .int (l4)), (6, .int (l6 + (1 : Int32)))] [] m3 (QI Q)) else (Q l8 m3))))) : At g M_SL_light (lv + 1) 118 [(0, va_rf (some t)), (1, .int (l1)), (2, .int (l2)), (3, .int (l3)), (4, .int (l4)), (6, .int (l6)), (8, .int (l8))] [.long (s0)] m (QI Q) := by
  refine at_lstore (i := 9) (lc' := [(0, va_rf (some t)), (1, .int (l1)), (2, .int (l2)), (3, .int (l3)), (4, .int (l4)), (6, .int (l6)), (8, .int (l8)), (9, .long (s0))]) [1, 2, 3, 4, 5, 6, 7, 0] 120 rfl (by decide +kernel) (by decide +kernel) rfl ?_
  refine at_lload (i := 9) 7 122 rfl (by decide +kernel) rfl ?_
  refine at_ldc2 (index := 323) (20 : Int64) 125 rfl (by decide +kernel) tw_1045 ?_
  refine at_lmul 126 rfl (by decide +kernel) ?_
  refine at_aload_n (i := 0) 0 127 rfl (by decide +kernel) rfl ?_
  refine at_iload_n (i := 1) 1 128 rfl (by decide +kernel) rfl ?_
  refine at_iload_n (i := 2) 2 129 rfl (by decide +kernel) rfl ?_
  obtain ⟨k1, h⟩ := h
  refine at_callV mb_SL_setsOf tw_1043 tw_31 cok11 k1 (index := 325) tw_1041 [.int (l1), .int (l2)] [.long (s0 * (20 : Int64))] rfl rfl (by simp [va_rf_cat, cat_int, cat_long]) 132 rfl (by decide +kernel) (Call.toJ (CJ.monoE h (fun x2 m3 h y4 => ?_)))
  have k5 : mK m3 t = 12 := y4.k k1 (by decide)
  refine at_lif_lt (off := 6) 133 139 136 rfl rfl (by decide +kernel) (by decide +kernel) (by decide +kernel) (fun c6 => ?_) (fun c6 => ?_)
  · rw [if_pos c6] at h
    refine at_iinc (i := 6) (n := 1) (lc' := [(0, va_rf (some t)), (1, .int (l1)), (2, .int (l2)), (3, .int (l3)), (4, .int (l4)), (6, .int (l6 + (1 : Int32)))]) (l6 + (1 : Int32)) 5 [1, 2, 3, 4, 5, 0] 142 rfl (by decide +kernel) rfl (by rw [show Int32.ofInt 1 = (1 : Int32) from by decide +kernel]) (by decide +kernel) rfl ?_
    refine at_goto (off := (-86)) 56 (by decide +kernel) (by decide +kernel) ?_
    exact h
  · rw [if_neg c6] at h
    refine at_iload (i := 8) 6 138 rfl (by decide +kernel) rfl ?_
    exact at_iret rfl (by decide +kernel) h
set_option maxRecDepth 20000 in
set_option maxHeartbeats 4000000 in
theorem bk_SL_light_88 (g : Gc) {lv : Nat} {t : Nat} {l1 : Int32} {l2 : Int32} {l3 : Int32} {l4 : Int32} {l6 : Int32} {l7 : Int32} {s0 : Int32} {m : Mm} {Q : Int32 → Mm → Prop} (h : if (l7) = 0 then (mK m t = 12 ∧ (CJ g M_SL_waysToDraw lv [va_rf (some t), .int (l1), .int (s0), .int (l2), .int ((0 : Int32)), .int (l3)] m (fun x3 m4 => (At g M_SL_light (lv + 1) 118 [(0, va_rf (some t)), (1, .int (l1)), (2, .int (l2)), (3, .int (l3)), (4, .int (l4)), (6, .int (l6)), (8, .int (s0))] [.long (x3)] m4 (QI Q))))) else (mK m t = 12 ∧ (CJ g M_SL_waysToDraw lv [va_rf (some t), .int (l1), .int (s0), .int (l2), .int (l3), .int (l2)] m (fun x8 m9 => (At g M_SL_light (lv + 1) 118 [(0, va_rf (some t)), (1, .int (l1)), (2, .int (l2)), (3, .int (l3)), (4, .int (l4)), (6, .int (l6)), (8, .int (s0))] [.long (x8)] m9 (QI Q)))))) : At g M_SL_light (lv + 1) 88 [(0, va_rf (some t)), (1, .int (l1)), (2, .int (l2)), (3, .int (l3)), (4, .int (l4)), (6, .int (l6)), (7, .int (l7))] [.int (s0)] m (QI Q) := by
  refine at_istore (i := 8) (lc' := [(0, va_rf (some t)), (1, .int (l1)), (2, .int (l2)), (3, .int (l3)), (4, .int (l4)), (6, .int (l6)), (7, .int (l7)), (8, .int (s0))]) [1, 2, 3, 4, 5, 6, 7, 0] 90 rfl (by decide +kernel) (by decide +kernel) rfl ?_
  refine at_iload (i := 7) 6 92 rfl (by decide +kernel) rfl ?_
  refine at_if_eq (off := 16) 108 95 rfl (by decide +kernel) (by decide +kernel) (fun c1 => ?_) (fun c1 => ?_)
  · rw [if_pos c1] at h
    refine at_aload_n (i := 0) 0 109 rfl (by decide +kernel) rfl ?_
    refine at_iload_n (i := 1) 1 110 rfl (by decide +kernel) rfl ?_
    refine at_iload (i := 8) 7 112 rfl (by decide +kernel) rfl ?_
    refine at_iload_n (i := 2) 2 113 rfl (by decide +kernel) rfl ?_
    refine at_iconst (n := 0) (0 : Int32) 114 rfl (by decide +kernel) (by decide +kernel) ?_
    refine at_iload_n (i := 3) 3 115 rfl (by decide +kernel) rfl ?_
    obtain ⟨k2, h⟩ := h
    refine at_callV mb_SL_waysToDraw tw_1039 tw_30 cok11 k2 (index := 319) tw_1037 [.int (l1), .int (s0), .int (l2), .int ((0 : Int32)), .int (l3)] [] rfl rfl (by decide) 118 rfl (by decide +kernel) (Call.toJ (CJ.monoE h (fun x3 m4 h y5 => ?_)))
    have k6 : mK m4 t = 12 := y5.k k2 (by decide)
    exact At.sub [0, 1, 2, 3, 4, 5, 7] rfl h
  · rw [if_neg c1] at h
    refine at_aload_n (i := 0) 0 96 rfl (by decide +kernel) rfl ?_
    refine at_iload_n (i := 1) 1 97 rfl (by decide +kernel) rfl ?_
    refine at_iload (i := 8) 7 99 rfl (by decide +kernel) rfl ?_
    refine at_iload_n (i := 2) 2 100 rfl (by decide +kernel) rfl ?_
    refine at_iload_n (i := 3) 3 101 rfl (by decide +kernel) rfl ?_
    refine at_iload_n (i := 2) 2 102 rfl (by decide +kernel) rfl ?_
    obtain ⟨k7, h⟩ := h
    refine at_callV mb_SL_waysToDraw tw_1039 tw_30 cok11 k7 (index := 319) tw_1037 [.int (l1), .int (s0), .int (l2), .int (l3), .int (l2)] [] rfl rfl (by decide) 105 rfl (by decide +kernel) (Call.toJ (CJ.monoE h (fun x8 m9 h y10 => ?_)))
    have k11 : mK m9 t = 12 := y10.k k7 (by decide)
    refine at_goto (off := 13) 118 (by decide +kernel) (by decide +kernel) ?_
    exact At.sub [0, 1, 2, 3, 4, 5, 7] rfl h
set_option maxRecDepth 20000 in
set_option maxHeartbeats 4000000 in
theorem bk_SL_light_72 (g : Gc) {lv : Nat} {t : Nat} {l1 : Int32} {l2 : Int32} {l3 : Int32} {l4 : Int32} {l6 : Int32} {s0 : Int32} {m : Mm} {Q : Int32 → Mm → Prop} (h : if (s0) = 0 then (At g M_SL_light (lv + 1) 88 [(0, va_rf (some t)), (1, .int (l1)), (2, .int (l2)), (3, .int (l3)), (4, .int (l4)), (6, .int (l6)), (7, .int (s0))] [.int (l1 - l6)] m (QI Q)) else (At g M_SL_light (lv + 1) 88 [(0, va_rf (some t)), (1, .int (l1)), (2, .int (l2)), (3, .int (l3)), (4, .int (l4)), (6, .int (l6)), (7, .int (s0))] [.int (l6)] m (QI Q))) : At g M_SL_light (lv + 1) 72 [(0, va_rf (some t)), (1, .int (l1)), (2, .int (l2)), (3, .int (l3)), (4, .int (l4)), (6, .int (l6))] [.int (s0)] m (QI Q) := by
  refine at_istore (i := 7) (lc' := [(0, va_rf (some t)), (1, .int (l1)), (2, .int (l2)), (3, .int (l3)), (4, .int (l4)), (6, .int (l6)), (7, .int (s0))]) [1, 2, 3, 4, 5, 6, 0] 74 rfl (by decide +kernel) (by decide +kernel) rfl ?_
  refine at_iload (i := 7) 6 76 rfl (by decide +kernel) rfl ?_
  refine at_if_eq (off := 8) 84 79 rfl (by decide +kernel) (by decide +kernel) (fun c1 => ?_) (fun c1 => ?_)
  · rw [if_pos c1] at h
    refine at_iload_n (i := 1) 1 85 rfl (by decide +kernel) rfl ?_
    refine at_iload (i := 6) 5 87 rfl (by decide +kernel) rfl ?_
    refine at_isub 88 rfl (by decide +kernel) ?_
    exact h
  · rw [if_neg c1] at h
    refine at_iload (i := 6) 5 81 rfl (by decide +kernel) rfl ?_
    refine at_goto (off := 7) 88 (by decide +kernel) (by decide +kernel) ?_
    exact h
set_option maxRecDepth 20000 in
set_option maxHeartbeats 4000000 in
theorem bk_SL_light_56 (g : Gc) {lv : Nat} {t : Nat} {l1 : Int32} {l2 : Int32} {l3 : Int32} {l4 : Int32} {l6 : Int32} {m : Mm} {Q : Int32 → Mm → Prop} (h : if (l1) ≤ (l6) then (if (l4) = 0 then (Q l1 m) else (Q (0 : Int32) m)) else (if (l4) = 0 then (At g M_SL_light (lv + 1) 72 [(0, va_rf (some t)), (1, .int (l1)), (2, .int (l2)), (3, .int (l3)), (4, .int (l4)), (6, .int (l6))] [.int ((1 : Int32))] m (QI Q)) else (At g M_SL_light (lv + 1) 72 [(0, va_rf (some t)), (1, .int (l1)), (2, .int (l2)), (3, .int (l3)), (4, .int (l4)), (6, .int (l6))] [.int ((0 : Int32))] m (QI Q)))) : At g M_SL_light (lv + 1) 56 [(0, va_rf (some t)), (1, .int (l1)), (2, .int (l2)), (3, .int (l3)), (4, .int (l4)), (6, .int (l6))] [] m (QI Q) := by
  refine at_iload (i := 6) 5 58 rfl (by decide +kernel) rfl ?_
  refine at_iload_n (i := 1) 1 59 rfl (by decide +kernel) rfl ?_
  refine at_icmp_ge (off := 86) 145 62 rfl (by decide +kernel) (by decide +kernel) (fun c1 => ?_) (fun c1 => ?_)
  · rw [if_pos c1] at h
    refine at_iload (i := 4) 4 147 rfl (by decide +kernel) rfl ?_
    refine at_if_ne (off := 7) 154 150 rfl (by decide +kernel) (by decide +kernel) (fun c2 => ?_) (fun c2 => ?_)
    · rw [if_neg c2] at h
      refine at_iconst (n := 0) (0 : Int32) 155 rfl (by decide +kernel) (by decide +kernel) ?_
      exact at_iret rfl (by decide +kernel) h
    · rw [if_pos c2] at h
      refine at_iload_n (i := 1) 1 151 rfl (by decide +kernel) rfl ?_
      refine at_goto (off := 4) 155 (by decide +kernel) (by decide +kernel) ?_
      exact at_iret rfl (by decide +kernel) h
  · rw [if_neg c1] at h
    refine at_iload (i := 4) 4 64 rfl (by decide +kernel) rfl ?_
    refine at_if_ne (off := 7) 71 67 rfl (by decide +kernel) (by decide +kernel) (fun c3 => ?_) (fun c3 => ?_)
    · rw [if_neg c3] at h
      refine at_iconst (n := 0) (0 : Int32) 72 rfl (by decide +kernel) (by decide +kernel) ?_
      exact h
    · rw [if_pos c3] at h
      refine at_iconst (n := 1) (1 : Int32) 68 rfl (by decide +kernel) (by decide +kernel) ?_
      refine at_goto (off := 4) 72 (by decide +kernel) (by decide +kernel) ?_
      exact h
set_option maxRecDepth 20000 in
set_option maxHeartbeats 4000000 in
theorem bk_SL_light_33 (g : Gc) {lv : Nat} {t : Nat} {l1 : Int32} {l2 : Int32} {l3 : Int32} {l4 : Int32} {s0 : Int32} {m : Mm} {Q : Int32 → Mm → Prop} (h : if (s0) = 0 then (Q (-2 : Int32) m) else (CI g M_SL_isWithin lv [.int (l4), .int ((0 : Int32)), .int ((1 : Int32))] m (fun x2 m3 => (if (x2) = 0 then (Q (-2 : Int32) m3) else (At g M_SL_light (lv + 1) 56 [(0, va_rf (some t)), (1, .int (l1)), (2, .int (l2)), (3, .int (l3)), (4, .int (l4)), (6, .int ((0 : Int32)))] [] m3 (QI Q)))))) : At g M_SL_light (lv + 1) 33 [(0, va_rf (some t)), (1, .int (l1)), (2, .int (l2)), (3, .int (l3)), (4, .int (l4))] [.int (s0)] m (QI Q) := by
  refine at_istore (i := 5) (lc' := [(0, va_rf (some t)), (1, .int (l1)), (2, .int (l2)), (3, .int (l3)), (4, .int (l4)), (5, .int (s0))]) [1, 2, 3, 4, 5, 0] 35 rfl (by decide +kernel) (by decide +kernel) rfl ?_
  refine at_iload (i := 5) 5 37 rfl (by decide +kernel) rfl ?_
  refine at_if_eq (off := 13) 50 40 rfl (by decide +kernel) (by decide +kernel) (fun c1 => ?_) (fun c1 => ?_)
  · rw [if_pos c1] at h
    refine at_bipush (n := (-2)) (-2 : Int32) 52 rfl (by decide +kernel) (by decide +kernel) ?_
    exact at_iret rfl (by decide +kernel) h
  · rw [if_neg c1] at h
    refine at_iload (i := 4) 4 42 rfl (by decide +kernel) rfl ?_
    refine at_iconst (n := 0) (0 : Int32) 43 rfl (by decide +kernel) (by decide +kernel) ?_
    refine at_iconst (n := 1) (1 : Int32) 44 rfl (by decide +kernel) (by decide +kernel) ?_
    refine at_callS mb_SL_isWithin tw_471 (index := 64) tw_470 [.int (l4), .int ((0 : Int32)), .int ((1 : Int32))] [] rfl rfl (by decide) 47 rfl (by decide +kernel) (Call.toI (CI.monoE h (fun x2 m3 h y4 => ?_)))
    refine at_if_ne (off := 6) 53 50 rfl (by decide +kernel) (by decide +kernel) (fun c5 => ?_) (fun c5 => ?_)
    · rw [if_neg c5] at h
      refine at_iconst (n := 0) (0 : Int32) 54 rfl (by decide +kernel) (by decide +kernel) ?_
      refine at_istore (i := 6) (lc' := [(0, va_rf (some t)), (1, .int (l1)), (2, .int (l2)), (3, .int (l3)), (4, .int (l4)), (6, .int ((0 : Int32)))]) [1, 2, 3, 4, 5, 0] 56 rfl (by decide +kernel) (by decide +kernel) rfl ?_
      exact h
    · rw [if_pos c5] at h
      refine at_bipush (n := (-2)) (-2 : Int32) 52 rfl (by decide +kernel) (by decide +kernel) ?_
      exact at_iret rfl (by decide +kernel) h
set_option maxRecDepth 20000 in
set_option maxHeartbeats 4000000 in
theorem bk_SL_light_32 (g : Gc) {lv : Nat} {t : Nat} {l1 : Int32} {l2 : Int32} {l3 : Int32} {l4 : Int32} {m : Mm} {Q : Int32 → Mm → Prop} (h : At g M_SL_light (lv + 1) 33 [(0, va_rf (some t)), (1, .int (l1)), (2, .int (l2)), (3, .int (l3)), (4, .int (l4))] [.int ((0 : Int32))] m (QI Q)) : At g M_SL_light (lv + 1) 32 [(0, va_rf (some t)), (1, .int (l1)), (2, .int (l2)), (3, .int (l3)), (4, .int (l4))] [] m (QI Q) := by
  refine at_iconst (n := 0) (0 : Int32) 33 rfl (by decide +kernel) (by decide +kernel) ?_
  exact h
set_option maxRecDepth 20000 in
set_option maxHeartbeats 4000000 in
theorem en_SL_light (g : Gc) {lv : Nat} {t : Nat} {l1 : Int32} {l2 : Int32} {l3 : Int32} {l4 : Int32} {m : Mm} {Q : Int32 → Mm → Prop} (h : CI g M_SL_isWithin lv [.int (l1), .int ((1 : Int32)), .int ((60 : Int32))] m (fun x1 m2 => (if (x1) = 0 then (At g M_SL_light (lv + 1) 32 [(0, va_rf (some t)), (1, .int (l1)), (2, .int (l2)), (3, .int (l3)), (4, .int (l4))] [] m2 (QI Q)) else (CI g M_SL_isWithin lv [.int (l2), .int ((0 : Int32)), .int (l1)] m2 (fun x5 m6 => (if (x5) = 0 then (At g M_SL_light (lv + 1) 32 [(0, va_rf (some t)), (1, .int (l1)), (2, .int (l2)), (3, .int (l3)), (4, .int (l4))] [] m6 (QI Q)) else (CI g M_SL_isWithin lv [.int (l3), .int ((0 : Int32)), .int (l2)] m6 (fun x9 m10 => (if (x9) = 0 then (At g M_SL_light (lv + 1) 32 [(0, va_rf (some t)), (1, .int (l1)), (2, .int (l2)), (3, .int (l3)), (4, .int (l4))] [] m10 (QI Q)) else (At g M_SL_light (lv + 1) 33 [(0, va_rf (some t)), (1, .int (l1)), (2, .int (l2)), (3, .int (l3)), (4, .int (l4))] [.int ((1 : Int32))] m10 (QI Q))))))))))) : CI g M_SL_light (lv + 1) [va_rf (some t), .int (l1), .int (l2), .int (l3), .int (l4)] m Q := by
  refine Call.of (by decide +kernel) (Nat.le_of_ble_eq_true rfl) ?_
  show At g M_SL_light (lv + 1) 0 [(0, va_rf (some t)), (1, .int (l1)), (2, .int (l2)), (3, .int (l3)), (4, .int (l4))] [] m (QI Q)
  refine at_iload_n (i := 1) 1 1 rfl (by decide +kernel) rfl ?_
  refine at_iconst (n := 1) (1 : Int32) 2 rfl (by decide +kernel) (by decide +kernel) ?_
  refine at_bipush (n := 60) (60 : Int32) 4 rfl (by decide +kernel) (by decide +kernel) ?_
  refine at_callS mb_SL_isWithin tw_471 (index := 64) tw_470 [.int (l1), .int ((1 : Int32)), .int ((60 : Int32))] [] rfl rfl (by decide) 7 rfl (by decide +kernel) (Call.toI (CI.monoE h (fun x1 m2 h y3 => ?_)))
  refine at_if_eq (off := 25) 32 10 rfl (by decide +kernel) (by decide +kernel) (fun c4 => ?_) (fun c4 => ?_)
  · rw [if_pos c4] at h
    exact h
  · rw [if_neg c4] at h
    refine at_iload_n (i := 2) 2 11 rfl (by decide +kernel) rfl ?_
    refine at_iconst (n := 0) (0 : Int32) 12 rfl (by decide +kernel) (by decide +kernel) ?_
    refine at_iload_n (i := 1) 1 13 rfl (by decide +kernel) rfl ?_
    refine at_callS mb_SL_isWithin tw_471 (index := 64) tw_470 [.int (l2), .int ((0 : Int32)), .int (l1)] [] rfl rfl (by decide) 16 rfl (by decide +kernel) (Call.toI (CI.monoE h (fun x5 m6 h y7 => ?_)))
    refine at_if_eq (off := 16) 32 19 rfl (by decide +kernel) (by decide +kernel) (fun c8 => ?_) (fun c8 => ?_)
    · rw [if_pos c8] at h
      exact h
    · rw [if_neg c8] at h
      refine at_iload_n (i := 3) 3 20 rfl (by decide +kernel) rfl ?_
      refine at_iconst (n := 0) (0 : Int32) 21 rfl (by decide +kernel) (by decide +kernel) ?_
      refine at_iload_n (i := 2) 2 22 rfl (by decide +kernel) rfl ?_
      refine at_callS mb_SL_isWithin tw_471 (index := 64) tw_470 [.int (l3), .int ((0 : Int32)), .int (l2)] [] rfl rfl (by decide) 25 rfl (by decide +kernel) (Call.toI (CI.monoE h (fun x9 m10 h y11 => ?_)))
      refine at_if_eq (off := 7) 32 28 rfl (by decide +kernel) (by decide +kernel) (fun c12 => ?_) (fun c12 => ?_)
      · rw [if_pos c12] at h
        exact h
      · rw [if_neg c12] at h
        refine at_iconst (n := 1) (1 : Int32) 29 rfl (by decide +kernel) (by decide +kernel) ?_
        refine at_goto (off := 4) 33 (by decide +kernel) (by decide +kernel) ?_
        exact h
set_option maxRecDepth 20000 in
set_option maxHeartbeats 4000000 in
theorem en_SL_row (g : Gc) {lv : Nat} {t : Nat} {l1 : Int32} {l2 : Int32} {l3 : Int32} {m : Mm} {Q : Int32 → Mm → Prop} (h : CI g M_SL_isWithin lv [.int (l1), .int ((0 : Int32)), .int ((3 : Int32))] m (fun x1 m2 => (if (x1) = 0 then (Q (-2 : Int32) m2) else (CI g M_SL_isWithin lv [.int (l2), .int ((0 : Int32)), .int ((3 : Int32))] m2 (fun x5 m6 => (if (x5) = 0 then (Q (-2 : Int32) m6) else (if (l3) ≤ ((60 : Int32)) then (if 0 ≤ (l3) then (mK m6 t = 12 ∧ (∃ b12, mR m6 t 6 = some b12 ∧ (mK m6 b12 = 8 ∧ (CV g M_Rows_lay lv [va_rf (some b12), .int (l1), .int (l2), .int (l3)] m6 (fun m15 => (Q (0 : Int32) m15)))))) else (Q (-3 : Int32) m6)) else (Q (-2 : Int32) m6)))))))) : CI g M_SL_row (lv + 1) [va_rf (some t), .int (l1), .int (l2), .int (l3)] m Q := by
  refine Call.of (by decide +kernel) (Nat.le_of_ble_eq_true rfl) ?_
  show At g M_SL_row (lv + 1) 0 [(0, va_rf (some t)), (1, .int (l1)), (2, .int (l2)), (3, .int (l3))] [] m (QI Q)
  refine at_iload_n (i := 1) 1 1 rfl (by decide +kernel) rfl ?_
  refine at_iconst (n := 0) (0 : Int32) 2 rfl (by decide +kernel) (by decide +kernel) ?_
  refine at_iconst (n := 3) (3 : Int32) 3 rfl (by decide +kernel) (by decide +kernel) ?_
  refine at_callS mb_SL_isWithin tw_471 (index := 64) tw_470 [.int (l1), .int ((0 : Int32)), .int ((3 : Int32))] [] rfl rfl (by decide) 6 rfl (by decide +kernel) (Call.toI (CI.monoE h (fun x1 m2 h y3 => ?_)))
  refine at_if_eq (off := 18) 24 9 rfl (by decide +kernel) (by decide +kernel) (fun c4 => ?_) (fun c4 => ?_)
  · rw [if_pos c4] at h
    refine at_bipush (n := (-2)) (-2 : Int32) 26 rfl (by decide +kernel) (by decide +kernel) ?_
    exact at_iret rfl (by decide +kernel) h
  · rw [if_neg c4] at h
    refine at_iload_n (i := 2) 2 10 rfl (by decide +kernel) rfl ?_
    refine at_iconst (n := 0) (0 : Int32) 11 rfl (by decide +kernel) (by decide +kernel) ?_
    refine at_iconst (n := 3) (3 : Int32) 12 rfl (by decide +kernel) (by decide +kernel) ?_
    refine at_callS mb_SL_isWithin tw_471 (index := 64) tw_470 [.int (l2), .int ((0 : Int32)), .int ((3 : Int32))] [] rfl rfl (by decide) 15 rfl (by decide +kernel) (Call.toI (CI.monoE h (fun x5 m6 h y7 => ?_)))
    refine at_if_eq (off := 9) 24 18 rfl (by decide +kernel) (by decide +kernel) (fun c8 => ?_) (fun c8 => ?_)
    · rw [if_pos c8] at h
      refine at_bipush (n := (-2)) (-2 : Int32) 26 rfl (by decide +kernel) (by decide +kernel) ?_
      exact at_iret rfl (by decide +kernel) h
    · rw [if_neg c8] at h
      refine at_iload_n (i := 3) 3 19 rfl (by decide +kernel) rfl ?_
      refine at_bipush (n := 60) (60 : Int32) 21 rfl (by decide +kernel) (by decide +kernel) ?_
      refine at_icmp_le (off := 6) 27 24 rfl (by decide +kernel) (by decide +kernel) (fun c9 => ?_) (fun c9 => ?_)
      · rw [if_pos c9] at h
        refine at_iload_n (i := 3) 3 28 rfl (by decide +kernel) rfl ?_
        refine at_if_ge (off := 6) 34 31 rfl (by decide +kernel) (by decide +kernel) (fun c10 => ?_) (fun c10 => ?_)
        · rw [if_pos c10] at h
          refine at_aload_n (i := 0) 0 35 rfl (by decide +kernel) rfl ?_
          obtain ⟨k11, h⟩ := h
          refine at_get (index := 51) (v := va_rf (mR m6 t 6)) cok11 6 38 rfl (by decide +kernel) k11 (by decide +kernel) tw_446 rfl ?_
          obtain ⟨b12, e13, h⟩ := h
          rw [e13]
          refine at_iload_n (i := 1) 1 39 rfl (by decide +kernel) rfl ?_
          refine at_iload_n (i := 2) 2 40 rfl (by decide +kernel) rfl ?_
          refine at_iload_n (i := 3) 3 41 rfl (by decide +kernel) rfl ?_
          obtain ⟨k14, h⟩ := h
          refine at_callV mb_Rows_lay tw_1051 tw_1052 cok7 k14 (index := 328) tw_1050 [.int (l1), .int (l2), .int (l3)] [] rfl rfl (by decide) 44 rfl (by decide +kernel) (Call.toV (CV.monoE h (fun m15 h y16 => ?_)))
          have k17 : mK m15 t = 12 := y16.k k11 (by decide)
          have k18 : mK m15 b12 = 8 := y16.k k14 (by decide)
          have e19 : mR m15 t 6 = some b12 := y16.r k11 (by decide) rfl e13
          refine at_iconst (n := 0) (0 : Int32) 45 rfl (by decide +kernel) (by decide +kernel) ?_
          exact at_iret rfl (by decide +kernel) h
        · rw [if_neg c10] at h
          refine at_bipush (n := (-3)) (-3 : Int32) 33 rfl (by decide +kernel) (by decide +kernel) ?_
          exact at_iret rfl (by decide +kernel) h
      · rw [if_neg c9] at h
        refine at_bipush (n := (-2)) (-2 : Int32) 26 rfl (by decide +kernel) (by decide +kernel) ?_
        exact at_iret rfl (by decide +kernel) h
set_option maxRecDepth 20000 in
set_option maxHeartbeats 4000000 in
theorem en_SL_tear (g : Gc) {lv : Nat} {t : Nat} {l1 : Int32} {m : Mm} {Q : Int32 → Mm → Prop} (h : mK m t = 12 ∧ (∃ b2, mR m t 6 = some b2 ∧ (mK m b2 = 8 ∧ (CI g M_Rows_hasRow lv [va_rf (some b2), .int (l1)] m (fun x5 m6 => (if (x5) = 0 then (Q (0 : Int32) m6) else (∃ b12, mR m6 b2 2 = some b12 ∧ (mK m6 b12 = 15 ∧ (vp_in l1 (mN m6 b12) ∧ (∀ m16, m16 = sI m6 b12 l1.toNatClampNeg (-1 : Int32) → (Q (1 : Int32) m16))))))))))) : CI g M_SL_tear (lv + 1) [va_rf (some t), .int (l1)] m Q := by
  refine Call.of (by decide +kernel) (Nat.le_of_ble_eq_true rfl) ?_
  show At g M_SL_tear (lv + 1) 0 [(0, va_rf (some t)), (1, .int (l1))] [] m (QI Q)
  refine at_aload_n (i := 0) 0 1 rfl (by decide +kernel) rfl ?_
  obtain ⟨k1, h⟩ := h
  refine at_get (index := 51) (v := va_rf (mR m t 6)) cok11 6 4 rfl (by decide +kernel) k1 (by decide +kernel) tw_446 rfl ?_
  obtain ⟨b2, e3, h⟩ := h
  rw [e3]
  refine at_iload_n (i := 1) 1 5 rfl (by decide +kernel) rfl ?_
  obtain ⟨k4, h⟩ := h
  refine at_callV mb_Rows_hasRow tw_680 tw_681 cok7 k4 (index := 147) tw_679 [.int (l1)] [] rfl rfl (by decide) 8 rfl (by decide +kernel) (Call.toI (CI.monoE h (fun x5 m6 h y7 => ?_)))
  have k8 : mK m6 t = 12 := y7.k k1 (by decide)
  have k9 : mK m6 b2 = 8 := y7.k k4 (by decide)
  have e10 : mR m6 t 6 = some b2 := y7.r k1 (by decide) rfl e3
  refine at_if_ne (off := 5) 13 11 rfl (by decide +kernel) (by decide +kernel) (fun c11 => ?_) (fun c11 => ?_)
  · rw [if_neg c11] at h
    refine at_aload_n (i := 0) 0 14 rfl (by decide +kernel) rfl ?_
    refine at_get (index := 51) (v := va_rf (mR m6 t 6)) cok11 6 17 rfl (by decide +kernel) k8 (by decide +kernel) tw_446 rfl ?_
    rw [e10]
    refine at_get (index := 150) (v := va_rf (mR m6 b2 2)) cok7 2 20 rfl (by decide +kernel) k9 (by decide +kernel) tw_429 rfl ?_
    obtain ⟨b12, e13, h⟩ := h
    rw [e13]
    refine at_iload_n (i := 1) 1 21 rfl (by decide +kernel) rfl ?_
    refine at_iconst (n := (-1)) (-1 : Int32) 22 rfl (by decide +kernel) (by decide +kernel) ?_
    obtain ⟨k14, h⟩ := h
    obtain ⟨v15, h⟩ := h
    refine at_iast 23 rfl (by decide +kernel) k14 v15 (fun m16 e17 => ?_)
    replace h := h m16 e17
    have x18 : Ext m6 m16 := by rw [e17]; exact Ext.sI _ _ _ _
    have k19 : mK m16 t = 12 := x18.k k8 (by decide)
    have k20 : mK m16 b2 = 8 := x18.k k9 (by decide)
    have k21 : mK m16 b12 = 15 := x18.k k14 (by decide)
    have e22 : mR m16 t 6 = some b2 := x18.r k8 (by decide) rfl e10
    have e23 : mR m16 b2 2 = some b12 := x18.r k9 (by decide) rfl e13
    refine at_iconst (n := 1) (1 : Int32) 24 rfl (by decide +kernel) (by decide +kernel) ?_
    exact at_zret rfl (by decide +kernel) (Or.inr rfl) h
  · rw [if_pos c11] at h
    refine at_iconst (n := 0) (0 : Int32) 12 rfl (by decide +kernel) (by decide +kernel) ?_
    exact at_zret rfl (by decide +kernel) (Or.inl rfl) h
set_option maxRecDepth 20000 in
set_option maxHeartbeats 4000000 in
theorem en_SL_write (g : Gc) {lv : Nat} {t : Nat} {l1 : Int32} {l2 : Int32} {l3 : Int64} {m : Mm} {Q : Int32 → Mm → Prop} (h : CI g M_SL_isWithin lv [.int (l1), .int ((0 : Int32)), .int ((3 : Int32))] m (fun x1 m2 => (if (x1) = 0 then (Q (-2 : Int32) m2) else (mK m2 t = 12 ∧ (∃ b6, mR m2 t 6 = some b6 ∧ (mK m2 b6 = 8 ∧ (CI g M_Rows_hasRow lv [va_rf (some b6), .int (l1)] m2 (fun x9 m10 => (if (x9) = 0 then (Q (-5 : Int32) m10) else (∃ b16, mR m10 b6 2 = some b16 ∧ (mK m10 b16 = 15 ∧ (vp_in l1 (mN m10 b16) ∧ (CI g M_SL_isWithin lv [.int (l2), .int ((0 : Int32)), .int ((mI m10 b16 l1.toNatClampNeg) - (1 : Int32))] m10 (fun x20 m21 => (if (x20) = 0 then (Q (-6 : Int32) m21) else (CV g M_Rows_set lv [va_rf (some b6), .int (l1), .int (l2), .long (l3)] m21 (fun m29 => (Q (0 : Int32) m29)))))))))))))))))) : CI g M_SL_write (lv + 1) [va_rf (some t), .int (l1), .int (l2), .long (l3)] m Q := by
  refine Call.of (by decide +kernel) (Nat.le_of_ble_eq_true rfl) ?_
  show At g M_SL_write (lv + 1) 0 [(0, va_rf (some t)), (1, .int (l1)), (2, .int (l2)), (3, .long (l3))] [] m (QI Q)
  refine at_iload_n (i := 1) 1 1 rfl (by decide +kernel) rfl ?_
  refine at_iconst (n := 0) (0 : Int32) 2 rfl (by decide +kernel) (by decide +kernel) ?_
  refine at_iconst (n := 3) (3 : Int32) 3 rfl (by decide +kernel) (by decide +kernel) ?_
  refine at_callS mb_SL_isWithin tw_471 (index := 64) tw_470 [.int (l1), .int ((0 : Int32)), .int ((3 : Int32))] [] rfl rfl (by decide) 6 rfl (by decide +kernel) (Call.toI (CI.monoE h (fun x1 m2 h y3 => ?_)))
  refine at_if_ne (off := 6) 12 9 rfl (by decide +kernel) (by decide +kernel) (fun c4 => ?_) (fun c4 => ?_)
  · rw [if_neg c4] at h
    refine at_aload_n (i := 0) 0 13 rfl (by decide +kernel) rfl ?_
    obtain ⟨k5, h⟩ := h
    refine at_get (index := 51) (v := va_rf (mR m2 t 6)) cok11 6 16 rfl (by decide +kernel) k5 (by decide +kernel) tw_446 rfl ?_
    obtain ⟨b6, e7, h⟩ := h
    rw [e7]
    refine at_iload_n (i := 1) 1 17 rfl (by decide +kernel) rfl ?_
    obtain ⟨k8, h⟩ := h
    refine at_callV mb_Rows_hasRow tw_680 tw_681 cok7 k8 (index := 147) tw_679 [.int (l1)] [] rfl rfl (by decide) 20 rfl (by decide +kernel) (Call.toI (CI.monoE h (fun x9 m10 h y11 => ?_)))
    have k12 : mK m10 t = 12 := y11.k k5 (by decide)
    have k13 : mK m10 b6 = 8 := y11.k k8 (by decide)
    have e14 : mR m10 t 6 = some b6 := y11.r k5 (by decide) rfl e7
    refine at_if_ne (off := 6) 26 23 rfl (by decide +kernel) (by decide +kernel) (fun c15 => ?_) (fun c15 => ?_)
    · rw [if_neg c15] at h
      refine at_iload_n (i := 2) 2 27 rfl (by decide +kernel) rfl ?_
      refine at_iconst (n := 0) (0 : Int32) 28 rfl (by decide +kernel) (by decide +kernel) ?_
      refine at_aload_n (i := 0) 0 29 rfl (by decide +kernel) rfl ?_
      refine at_get (index := 51) (v := va_rf (mR m10 t 6)) cok11 6 32 rfl (by decide +kernel) k12 (by decide +kernel) tw_446 rfl ?_
      rw [e14]
      refine at_get (index := 150) (v := va_rf (mR m10 b6 2)) cok7 2 35 rfl (by decide +kernel) k13 (by decide +kernel) tw_429 rfl ?_
      obtain ⟨b16, e17, h⟩ := h
      rw [e17]
      refine at_iload_n (i := 1) 1 36 rfl (by decide +kernel) rfl ?_
      obtain ⟨k18, h⟩ := h
      obtain ⟨v19, h⟩ := h
      refine at_iald 37 rfl (by decide +kernel) k18 v19 ?_
      refine at_iconst (n := 1) (1 : Int32) 38 rfl (by decide +kernel) (by decide +kernel) ?_
      refine at_isub 39 rfl (by decide +kernel) ?_
      refine at_callS mb_SL_isWithin tw_471 (index := 64) tw_470 [.int (l2), .int ((0 : Int32)), .int ((mI m10 b16 l1.toNatClampNeg) - (1 : Int32))] [] rfl rfl (by decide) 42 rfl (by decide +kernel) (Call.toI (CI.monoE h (fun x20 m21 h y22 => ?_)))
      have k23 : mK m21 t = 12 := y22.k k12 (by decide)
      have k24 : mK m21 b6 = 8 := y22.k k13 (by decide)
      have k25 : mK m21 b16 = 15 := y22.k k18 (by decide)
      have e26 : mR m21 t 6 = some b6 := y22.r k12 (by decide) rfl e14
      have e27 : mR m21 b6 2 = some b16 := y22.r k13 (by decide) rfl e17
      refine at_if_ne (off := 6) 48 45 rfl (by decide +kernel) (by decide +kernel) (fun c28 => ?_) (fun c28 => ?_)
      · rw [if_neg c28] at h
        refine at_aload_n (i := 0) 0 49 rfl (by decide +kernel) rfl ?_
        refine at_get (index := 51) (v := va_rf (mR m21 t 6)) cok11 6 52 rfl (by decide +kernel) k23 (by decide +kernel) tw_446 rfl ?_
        rw [e26]
        refine at_iload_n (i := 1) 1 53 rfl (by decide +kernel) rfl ?_
        refine at_iload_n (i := 2) 2 54 rfl (by decide +kernel) rfl ?_
        refine at_lload_n (i := 3) 3 55 rfl (by decide +kernel) rfl ?_
        refine at_callV mb_Rows_set tw_1063 tw_1064 cok7 k24 (index := 332) tw_1062 [.int (l1), .int (l2), .long (l3)] [] rfl rfl (by decide) 58 rfl (by decide +kernel) (Call.toV (CV.monoE h (fun m29 h y30 => ?_)))
        have k31 : mK m29 t = 12 := y30.k k23 (by decide)
        have k32 : mK m29 b6 = 8 := y30.k k24 (by decide)
        have k33 : mK m29 b16 = 15 := y30.k k25 (by decide)
        have e34 : mR m29 t 6 = some b6 := y30.r k23 (by decide) rfl e26
        have e35 : mR m29 b6 2 = some b16 := y30.r k24 (by decide) rfl e27
        refine at_iconst (n := 0) (0 : Int32) 59 rfl (by decide +kernel) (by decide +kernel) ?_
        exact at_iret rfl (by decide +kernel) h
      · rw [if_pos c28] at h
        refine at_bipush (n := (-6)) (-6 : Int32) 47 rfl (by decide +kernel) (by decide +kernel) ?_
        exact at_iret rfl (by decide +kernel) h
    · rw [if_pos c15] at h
      refine at_bipush (n := (-5)) (-5 : Int32) 25 rfl (by decide +kernel) (by decide +kernel) ?_
      exact at_iret rfl (by decide +kernel) h
  · rw [if_pos c4] at h
    refine at_bipush (n := (-2)) (-2 : Int32) 11 rfl (by decide +kernel) (by decide +kernel) ?_
    exact at_iret rfl (by decide +kernel) h
set_option maxRecDepth 20000 in
set_option maxHeartbeats 4000000 in
theorem en_SL_paste (g : Gc) {lv : Nat} {t : Nat} {l1 : Int32} {l2 : Int32} {l3 : Int32} {l4 : Int32} {l5 : Int32} {m : Mm} {Q : Int32 → Mm → Prop} (h : CI g M_SL_isWithin lv [.int (l1), .int ((0 : Int32)), .int ((3 : Int32))] m (fun x1 m2 => (if (x1) = 0 then (Q (-2 : Int32) m2) else (CI g M_SL_isWithin lv [.int (l3), .int ((0 : Int32)), .int ((3 : Int32))] m2 (fun x5 m6 => (if (x5) = 0 then (Q (-2 : Int32) m6) else (mK m6 t = 12 ∧ (∃ b10, mR m6 t 6 = some b10 ∧ (mK m6 b10 = 8 ∧ (CI g M_Rows_hasRow lv [va_rf (some b10), .int (l1)] m6 (fun x13 m14 => (if (x13) = 0 then (Q (-5 : Int32) m14) else (CI g M_Rows_hasRow lv [va_rf (some b10), .int (l3)] m14 (fun x20 m21 => (if (x20) = 0 then (Q (-5 : Int32) m21) else (∃ b27, mR m21 b10 1 = some b27 ∧ (mK m21 b27 = 15 ∧ (vp_in l1 (mN m21 b27) ∧ (vp_in l3 (mN m21 b27) ∧ (if (mI m21 b27 l1.toNatClampNeg) = (mI m21 b27 l3.toNatClampNeg) then (CI g M_Rows_holds lv [va_rf (some b10), .int (l1), .int (l2), .int (l5)] m21 (fun x33 m34 => (if (x33) = 0 then (Q (-6 : Int32) m34) else (CI g M_Rows_holds lv [va_rf (some b10), .int (l3), .int (l4), .int (l5)] m34 (fun x42 m43 => (if (x42) = 0 then (Q (-6 : Int32) m43) else (CV g M_Rows_carry lv [va_rf (some b10), .int (l1), .int (l2), .int (l3), .int (l4), .int (l5)] m43 (fun m51 => (Q (0 : Int32) m51))))))))) else (Q (-7 : Int32) m21))))))))))))))))))))) : CI g M_SL_paste (lv + 1) [va_rf (some t), .int (l1), .int (l2), .int (l3), .int (l4), .int (l5)] m Q := by
  refine Call.of (by decide +kernel) (Nat.le_of_ble_eq_true rfl) ?_
  show At g M_SL_paste (lv + 1) 0 [(0, va_rf (some t)), (1, .int (l1)), (2, .int (l2)), (3, .int (l3)), (4, .int (l4)), (5, .int (l5))] [] m (QI Q)
  refine at_iload_n (i := 1) 1 1 rfl (by decide +kernel) rfl ?_
  refine at_iconst (n := 0) (0 : Int32) 2 rfl (by decide +kernel) (by decide +kernel) ?_
  refine at_iconst (n := 3) (3 : Int32) 3 rfl (by decide +kernel) (by decide +kernel) ?_
  refine at_callS mb_SL_isWithin tw_471 (index := 64) tw_470 [.int (l1), .int ((0 : Int32)), .int ((3 : Int32))] [] rfl rfl (by decide) 6 rfl (by decide +kernel) (Call.toI (CI.monoE h (fun x1 m2 h y3 => ?_)))
  refine at_if_eq (off := 12) 18 9 rfl (by decide +kernel) (by decide +kernel) (fun c4 => ?_) (fun c4 => ?_)
  · rw [if_pos c4] at h
    refine at_bipush (n := (-2)) (-2 : Int32) 20 rfl (by decide +kernel) (by decide +kernel) ?_
    exact at_iret rfl (by decide +kernel) h
  · rw [if_neg c4] at h
    refine at_iload_n (i := 3) 3 10 rfl (by decide +kernel) rfl ?_
    refine at_iconst (n := 0) (0 : Int32) 11 rfl (by decide +kernel) (by decide +kernel) ?_
    refine at_iconst (n := 3) (3 : Int32) 12 rfl (by decide +kernel) (by decide +kernel) ?_
    refine at_callS mb_SL_isWithin tw_471 (index := 64) tw_470 [.int (l3), .int ((0 : Int32)), .int ((3 : Int32))] [] rfl rfl (by decide) 15 rfl (by decide +kernel) (Call.toI (CI.monoE h (fun x5 m6 h y7 => ?_)))
    refine at_if_ne (off := 6) 21 18 rfl (by decide +kernel) (by decide +kernel) (fun c8 => ?_) (fun c8 => ?_)
    · rw [if_neg c8] at h
      refine at_aload_n (i := 0) 0 22 rfl (by decide +kernel) rfl ?_
      obtain ⟨k9, h⟩ := h
      refine at_get (index := 51) (v := va_rf (mR m6 t 6)) cok11 6 25 rfl (by decide +kernel) k9 (by decide +kernel) tw_446 rfl ?_
      obtain ⟨b10, e11, h⟩ := h
      rw [e11]
      refine at_iload_n (i := 1) 1 26 rfl (by decide +kernel) rfl ?_
      obtain ⟨k12, h⟩ := h
      refine at_callV mb_Rows_hasRow tw_680 tw_681 cok7 k12 (index := 147) tw_679 [.int (l1)] [] rfl rfl (by decide) 29 rfl (by decide +kernel) (Call.toI (CI.monoE h (fun x13 m14 h y15 => ?_)))
      have k16 : mK m14 t = 12 := y15.k k9 (by decide)
      have k17 : mK m14 b10 = 8 := y15.k k12 (by decide)
      have e18 : mR m14 t 6 = some b10 := y15.r k9 (by decide) rfl e11
      refine at_if_eq (off := 14) 43 32 rfl (by decide +kernel) (by decide +kernel) (fun c19 => ?_) (fun c19 => ?_)
      · rw [if_pos c19] at h
        refine at_bipush (n := (-5)) (-5 : Int32) 45 rfl (by decide +kernel) (by decide +kernel) ?_
        exact at_iret rfl (by decide +kernel) h
      · rw [if_neg c19] at h
        refine at_aload_n (i := 0) 0 33 rfl (by decide +kernel) rfl ?_
        refine at_get (index := 51) (v := va_rf (mR m14 t 6)) cok11 6 36 rfl (by decide +kernel) k16 (by decide +kernel) tw_446 rfl ?_
        rw [e18]
        refine at_iload_n (i := 3) 3 37 rfl (by decide +kernel) rfl ?_
        refine at_callV mb_Rows_hasRow tw_680 tw_681 cok7 k17 (index := 147) tw_679 [.int (l3)] [] rfl rfl (by decide) 40 rfl (by decide +kernel) (Call.toI (CI.monoE h (fun x20 m21 h y22 => ?_)))
        have k23 : mK m21 t = 12 := y22.k k16 (by decide)
        have k24 : mK m21 b10 = 8 := y22.k k17 (by decide)
        have e25 : mR m21 t 6 = some b10 := y22.r k16 (by decide) rfl e18
        refine at_if_ne (off := 6) 46 43 rfl (by decide +kernel) (by decide +kernel) (fun c26 => ?_) (fun c26 => ?_)
        · rw [if_neg c26] at h
          refine at_aload_n (i := 0) 0 47 rfl (by decide +kernel) rfl ?_
          refine at_get (index := 51) (v := va_rf (mR m21 t 6)) cok11 6 50 rfl (by decide +kernel) k23 (by decide +kernel) tw_446 rfl ?_
          rw [e25]
          refine at_get (index := 336) (v := va_rf (mR m21 b10 1)) cok7 1 53 rfl (by decide +kernel) k24 (by decide +kernel) tw_427 rfl ?_
          obtain ⟨b27, e28, h⟩ := h
          rw [e28]
          refine at_iload_n (i := 1) 1 54 rfl (by decide +kernel) rfl ?_
          obtain ⟨k29, h⟩ := h
          obtain ⟨v30, h⟩ := h
          refine at_iald 55 rfl (by decide +kernel) k29 v30 ?_
          refine at_aload_n (i := 0) 0 56 rfl (by decide +kernel) rfl ?_
          refine at_get (index := 51) (v := va_rf (mR m21 t 6)) cok11 6 59 rfl (by decide +kernel) k23 (by decide +kernel) tw_446 rfl ?_
          rw [e25]
          refine at_get (index := 336) (v := va_rf (mR m21 b10 1)) cok7 1 62 rfl (by decide +kernel) k24 (by decide +kernel) tw_427 rfl ?_
          rw [e28]
          refine at_iload_n (i := 3) 3 63 rfl (by decide +kernel) rfl ?_
          obtain ⟨v31, h⟩ := h
          refine at_iald 64 rfl (by decide +kernel) k29 v31 ?_
          refine at_icmp_eq (off := 6) 70 67 rfl (by decide +kernel) (by decide +kernel) (fun c32 => ?_) (fun c32 => ?_)
          · rw [if_pos c32] at h
            refine at_aload_n (i := 0) 0 71 rfl (by decide +kernel) rfl ?_
            refine at_get (index := 51) (v := va_rf (mR m21 t 6)) cok11 6 74 rfl (by decide +kernel) k23 (by decide +kernel) tw_446 rfl ?_
            rw [e25]
            refine at_iload_n (i := 1) 1 75 rfl (by decide +kernel) rfl ?_
            refine at_iload_n (i := 2) 2 76 rfl (by decide +kernel) rfl ?_
            refine at_iload (i := 5) 5 78 rfl (by decide +kernel) rfl ?_
            refine at_callV mb_Rows_holds tw_1071 tw_1072 cok7 k24 (index := 339) tw_1070 [.int (l1), .int (l2), .int (l5)] [] rfl rfl (by decide) 81 rfl (by decide +kernel) (Call.toI (CI.monoE h (fun x33 m34 h y35 => ?_)))
            have k36 : mK m34 t = 12 := y35.k k23 (by decide)
            have k37 : mK m34 b10 = 8 := y35.k k24 (by decide)
            have k38 : mK m34 b27 = 15 := y35.k k29 (by decide)
            have e39 : mR m34 t 6 = some b10 := y35.r k23 (by decide) rfl e25
            have e40 : mR m34 b10 1 = some b27 := y35.r k24 (by decide) rfl e28
            refine at_if_eq (off := 18) 99 84 rfl (by decide +kernel) (by decide +kernel) (fun c41 => ?_) (fun c41 => ?_)
            · rw [if_pos c41] at h
              refine at_bipush (n := (-6)) (-6 : Int32) 101 rfl (by decide +kernel) (by decide +kernel) ?_
              exact at_iret rfl (by decide +kernel) h
            · rw [if_neg c41] at h
              refine at_aload_n (i := 0) 0 85 rfl (by decide +kernel) rfl ?_
              refine at_get (index := 51) (v := va_rf (mR m34 t 6)) cok11 6 88 rfl (by decide +kernel) k36 (by decide +kernel) tw_446 rfl ?_
              rw [e39]
              refine at_iload_n (i := 3) 3 89 rfl (by decide +kernel) rfl ?_
              refine at_iload (i := 4) 4 91 rfl (by decide +kernel) rfl ?_
              refine at_iload (i := 5) 5 93 rfl (by decide +kernel) rfl ?_
              refine at_callV mb_Rows_holds tw_1071 tw_1072 cok7 k37 (index := 339) tw_1070 [.int (l3), .int (l4), .int (l5)] [] rfl rfl (by decide) 96 rfl (by decide +kernel) (Call.toI (CI.monoE h (fun x42 m43 h y44 => ?_)))
              have k45 : mK m43 t = 12 := y44.k k36 (by decide)
              have k46 : mK m43 b10 = 8 := y44.k k37 (by decide)
              have k47 : mK m43 b27 = 15 := y44.k k38 (by decide)
              have e48 : mR m43 t 6 = some b10 := y44.r k36 (by decide) rfl e39
              have e49 : mR m43 b10 1 = some b27 := y44.r k37 (by decide) rfl e40
              refine at_if_ne (off := 6) 102 99 rfl (by decide +kernel) (by decide +kernel) (fun c50 => ?_) (fun c50 => ?_)
              · rw [if_neg c50] at h
                refine at_aload_n (i := 0) 0 103 rfl (by decide +kernel) rfl ?_
                refine at_get (index := 51) (v := va_rf (mR m43 t 6)) cok11 6 106 rfl (by decide +kernel) k45 (by decide +kernel) tw_446 rfl ?_
                rw [e48]
                refine at_iload_n (i := 1) 1 107 rfl (by decide +kernel) rfl ?_
                refine at_iload_n (i := 2) 2 108 rfl (by decide +kernel) rfl ?_
                refine at_iload_n (i := 3) 3 109 rfl (by decide +kernel) rfl ?_
                refine at_iload (i := 4) 4 111 rfl (by decide +kernel) rfl ?_
                refine at_iload (i := 5) 5 113 rfl (by decide +kernel) rfl ?_
                refine at_callV mb_Rows_carry tw_1075 tw_1076 cok7 k46 (index := 342) tw_1074 [.int (l1), .int (l2), .int (l3), .int (l4), .int (l5)] [] rfl rfl (by decide) 116 rfl (by decide +kernel) (Call.toV (CV.monoE h (fun m51 h y52 => ?_)))
                have k53 : mK m51 t = 12 := y52.k k45 (by decide)
                have k54 : mK m51 b10 = 8 := y52.k k46 (by decide)
                have k55 : mK m51 b27 = 15 := y52.k k47 (by decide)
                have e56 : mR m51 t 6 = some b10 := y52.r k45 (by decide) rfl e48
                have e57 : mR m51 b10 1 = some b27 := y52.r k46 (by decide) rfl e49
                refine at_iconst (n := 0) (0 : Int32) 117 rfl (by decide +kernel) (by decide +kernel) ?_
                exact at_iret rfl (by decide +kernel) h
              · rw [if_pos c50] at h
                refine at_bipush (n := (-6)) (-6 : Int32) 101 rfl (by decide +kernel) (by decide +kernel) ?_
                exact at_iret rfl (by decide +kernel) h
          · rw [if_neg c32] at h
            refine at_bipush (n := (-7)) (-7 : Int32) 69 rfl (by decide +kernel) (by decide +kernel) ?_
            exact at_iret rfl (by decide +kernel) h
        · rw [if_pos c26] at h
          refine at_bipush (n := (-5)) (-5 : Int32) 45 rfl (by decide +kernel) (by decide +kernel) ?_
          exact at_iret rfl (by decide +kernel) h
    · rw [if_pos c8] at h
      refine at_bipush (n := (-2)) (-2 : Int32) 20 rfl (by decide +kernel) (by decide +kernel) ?_
      exact at_iret rfl (by decide +kernel) h
set_option maxRecDepth 20000 in
set_option maxHeartbeats 4000000 in
theorem bk_SL_countSets_18 (g : Gc) {lv : Nat} {l0 : Option Nat} {l1 : Int32} {l2 : Int32} {l3 : Int32} {m : Mm} {Q : Option Nat → Mm → Prop} (h : if (l2) < (l3) then (At g M_SL_countSets (lv + 1) 10 [(0, va_rf (l0)), (1, .int (l1)), (2, .int (l2 + (1 : Int32)))] [] m (QR Q)) else (if (l3) = 0 then (∃ b3, l0 = some b3 ∧ (mK m b3 = 16 ∧ (vp_in l1 (mN m b3) ∧ (∀ m7, m7 = sL m b3 l1.toNatClampNeg (1 : Int64) → (At g M_SL_countSets (lv + 1) 18 [(0, va_rf (some b3)), (1, .int (l1 + (1 : Int32))), (2, .int (l2)), (3, .int (l3 + (1 : Int32)))] [] m7 (QR Q)))))) else (if (l3) = (l2) then (∃ b22, l0 = some b22 ∧ (mK m b22 = 16 ∧ (vp_in l1 (mN m b22) ∧ (∀ m26, m26 = sL m b22 l1.toNatClampNeg (1 : Int64) → (At g M_SL_countSets (lv + 1) 18 [(0, va_rf (some b22)), (1, .int (l1 + (1 : Int32))), (2, .int (l2)), (3, .int (l3 + (1 : Int32)))] [] m26 (QR Q)))))) else (∃ b12, l0 = some b12 ∧ (mK m b12 = 16 ∧ (vp_in ((l1 - l2) - (1 : Int32)) (mN m b12) ∧ (vp_in (l1 - l2) (mN m b12) ∧ (vp_in l1 (mN m b12) ∧ (∀ m18, m18 = sL m b12 l1.toNatClampNeg ((mL m b12 ((l1 - l2) - (1 : Int32)).toNatClampNeg) + (mL m b12 (l1 - l2).toNatClampNeg)) → (At g M_SL_countSets (lv + 1) 18 [(0, va_rf (some b12)), (1, .int (l1 + (1 : Int32))), (2, .int (l2)), (3, .int (l3 + (1 : Int32)))] [] m18 (QR Q))))))))))) : At g M_SL_countSets (lv + 1) 18 [(0, va_rf (l0)), (1, .int (l1)), (2, .int (l2)), (3, .int (l3))] [] m (QR Q) := by
  refine at_iload_n (i := 3) 3 19 rfl (by decide +kernel) rfl ?_
  refine at_iload_n (i := 2) 2 20 rfl (by decide +kernel) rfl ?_
  refine at_icmp_gt (off := 41) 61 23 rfl (by decide +kernel) (by decide +kernel) (fun c1 => ?_) (fun c1 => ?_)
  · rw [if_pos c1] at h
    refine at_iinc (i := 2) (n := 1) (lc' := [(0, va_rf (l0)), (1, .int (l1)), (2, .int (l2 + (1 : Int32)))]) (l2 + (1 : Int32)) 2 [1, 2, 0] 64 rfl (by decide +kernel) rfl (by rw [show Int32.ofInt 1 = (1 : Int32) from by decide +kernel]) (by decide +kernel) rfl ?_
    refine at_goto (off := (-54)) 10 (by decide +kernel) (by decide +kernel) ?_
    exact h
  · rw [if_neg c1] at h
    refine at_aload_n (i := 0) 0 24 rfl (by decide +kernel) rfl ?_
    refine at_iload_n (i := 1) 1 25 rfl (by decide +kernel) rfl ?_
    refine at_iload_n (i := 3) 3 26 rfl (by decide +kernel) rfl ?_
    refine at_if_eq (off := 8) 34 29 rfl (by decide +kernel) (by decide +kernel) (fun c2 => ?_) (fun c2 => ?_)
    · rw [if_pos c2] at h
      refine at_lconst (n := 1) (1 : Int64) 35 rfl (by decide +kernel) (by decide +kernel) ?_
      refine at_goto (off := 16) 51 (by decide +kernel) (by decide +kernel) ?_
      obtain ⟨b3, e4, h⟩ := h
      rw [e4]
      obtain ⟨k5, h⟩ := h
      obtain ⟨v6, h⟩ := h
      refine at_last 52 rfl (by decide +kernel) k5 v6 (fun m7 e8 => ?_)
      replace h := h m7 e8
      have x9 : Ext m m7 := by rw [e8]; exact Ext.sL _ _ _ _
      have k10 : mK m7 b3 = 16 := x9.k k5 (by decide)
      refine at_iinc (i := 1) (n := 1) (lc' := [(0, va_rf (some b3)), (1, .int (l1 + (1 : Int32))), (2, .int (l2)), (3, .int (l3))]) (l1 + (1 : Int32)) 1 [1, 0, 2, 3] 55 rfl (by decide +kernel) rfl (by rw [show Int32.ofInt 1 = (1 : Int32) from by decide +kernel]) (by decide +kernel) rfl ?_
      refine at_iinc (i := 3) (n := 1) (lc' := [(0, va_rf (some b3)), (1, .int (l1 + (1 : Int32))), (2, .int (l2)), (3, .int (l3 + (1 : Int32)))]) (l3 + (1 : Int32)) 3 [1, 2, 3, 0] 58 rfl (by decide +kernel) rfl (by rw [show Int32.ofInt 1 = (1 : Int32) from by decide +kernel]) (by decide +kernel) rfl ?_
      refine at_goto (off := (-40)) 18 (by decide +kernel) (by decide +kernel) ?_
      exact h
    · rw [if_neg c2] at h
      refine at_iload_n (i := 3) 3 30 rfl (by decide +kernel) rfl ?_
      refine at_iload_n (i := 2) 2 31 rfl (by decide +kernel) rfl ?_
      refine at_icmp_ne (off := 7) 38 34 rfl (by decide +kernel) (by decide +kernel) (fun c11 => ?_) (fun c11 => ?_)
      · rw [if_neg c11] at h
        refine at_aload_n (i := 0) 0 39 rfl (by decide +kernel) rfl ?_
        refine at_iload_n (i := 1) 1 40 rfl (by decide +kernel) rfl ?_
        refine at_iload_n (i := 2) 2 41 rfl (by decide +kernel) rfl ?_
        refine at_isub 42 rfl (by decide +kernel) ?_
        refine at_iconst (n := 1) (1 : Int32) 43 rfl (by decide +kernel) (by decide +kernel) ?_
        refine at_isub 44 rfl (by decide +kernel) ?_
        obtain ⟨b12, e13, h⟩ := h
        rw [e13]
        obtain ⟨k14, h⟩ := h
        obtain ⟨v15, h⟩ := h
        refine at_lald 45 rfl (by decide +kernel) k14 v15 ?_
        refine at_aload_n (i := 0) 0 46 rfl (by decide +kernel) rfl ?_
        refine at_iload_n (i := 1) 1 47 rfl (by decide +kernel) rfl ?_
        refine at_iload_n (i := 2) 2 48 rfl (by decide +kernel) rfl ?_
        refine at_isub 49 rfl (by decide +kernel) ?_
        obtain ⟨v16, h⟩ := h
        refine at_lald 50 rfl (by decide +kernel) k14 v16 ?_
        refine at_ladd 51 rfl (by decide +kernel) ?_
        obtain ⟨v17, h⟩ := h
        refine at_last 52 rfl (by decide +kernel) k14 v17 (fun m18 e19 => ?_)
        replace h := h m18 e19
        have x20 : Ext m m18 := by rw [e19]; exact Ext.sL _ _ _ _
        have k21 : mK m18 b12 = 16 := x20.k k14 (by decide)
        refine at_iinc (i := 1) (n := 1) (lc' := [(0, va_rf (some b12)), (1, .int (l1 + (1 : Int32))), (2, .int (l2)), (3, .int (l3))]) (l1 + (1 : Int32)) 1 [1, 0, 2, 3] 55 rfl (by decide +kernel) rfl (by rw [show Int32.ofInt 1 = (1 : Int32) from by decide +kernel]) (by decide +kernel) rfl ?_
        refine at_iinc (i := 3) (n := 1) (lc' := [(0, va_rf (some b12)), (1, .int (l1 + (1 : Int32))), (2, .int (l2)), (3, .int (l3 + (1 : Int32)))]) (l3 + (1 : Int32)) 3 [1, 2, 3, 0] 58 rfl (by decide +kernel) rfl (by rw [show Int32.ofInt 1 = (1 : Int32) from by decide +kernel]) (by decide +kernel) rfl ?_
        refine at_goto (off := (-40)) 18 (by decide +kernel) (by decide +kernel) ?_
        exact h
      · rw [if_pos c11] at h
        refine at_lconst (n := 1) (1 : Int64) 35 rfl (by decide +kernel) (by decide +kernel) ?_
        refine at_goto (off := 16) 51 (by decide +kernel) (by decide +kernel) ?_
        obtain ⟨b22, e23, h⟩ := h
        rw [e23]
        obtain ⟨k24, h⟩ := h
        obtain ⟨v25, h⟩ := h
        refine at_last 52 rfl (by decide +kernel) k24 v25 (fun m26 e27 => ?_)
        replace h := h m26 e27
        have x28 : Ext m m26 := by rw [e27]; exact Ext.sL _ _ _ _
        have k29 : mK m26 b22 = 16 := x28.k k24 (by decide)
        refine at_iinc (i := 1) (n := 1) (lc' := [(0, va_rf (some b22)), (1, .int (l1 + (1 : Int32))), (2, .int (l2)), (3, .int (l3))]) (l1 + (1 : Int32)) 1 [1, 0, 2, 3] 55 rfl (by decide +kernel) rfl (by rw [show Int32.ofInt 1 = (1 : Int32) from by decide +kernel]) (by decide +kernel) rfl ?_
        refine at_iinc (i := 3) (n := 1) (lc' := [(0, va_rf (some b22)), (1, .int (l1 + (1 : Int32))), (2, .int (l2)), (3, .int (l3 + (1 : Int32)))]) (l3 + (1 : Int32)) 3 [1, 2, 3, 0] 58 rfl (by decide +kernel) rfl (by rw [show Int32.ofInt 1 = (1 : Int32) from by decide +kernel]) (by decide +kernel) rfl ?_
        refine at_goto (off := (-40)) 18 (by decide +kernel) (by decide +kernel) ?_
        exact h
set_option maxRecDepth 20000 in
set_option maxHeartbeats 4000000 in
theorem bk_SL_countSets_10 (g : Gc) {lv : Nat} {l0 : Option Nat} {l1 : Int32} {l2 : Int32} {m : Mm} {Q : Option Nat → Mm → Prop} (h : if ((60 : Int32)) < (l2) then (Q l0 m) else (At g M_SL_countSets (lv + 1) 18 [(0, va_rf (l0)), (1, .int (l1)), (2, .int (l2)), (3, .int ((0 : Int32)))] [] m (QR Q))) : At g M_SL_countSets (lv + 1) 10 [(0, va_rf (l0)), (1, .int (l1)), (2, .int (l2))] [] m (QR Q) := by
  refine at_iload_n (i := 2) 2 11 rfl (by decide +kernel) rfl ?_
  refine at_bipush (n := 60) (60 : Int32) 13 rfl (by decide +kernel) (by decide +kernel) ?_
  refine at_icmp_gt (off := 54) 67 16 rfl (by decide +kernel) (by decide +kernel) (fun c1 => ?_) (fun c1 => ?_)
  · rw [if_pos c1] at h
    refine at_aload_n (i := 0) 0 68 rfl (by decide +kernel) rfl ?_
    exact at_aret rfl (Or.inr ⟨_, rfl⟩) (by decide +kernel) h
  · rw [if_neg c1] at h
    refine at_iconst (n := 0) (0 : Int32) 17 rfl (by decide +kernel) (by decide +kernel) ?_
    refine at_istore_n (i := 3) (lc' := [(0, va_rf (l0)), (1, .int (l1)), (2, .int (l2)), (3, .int ((0 : Int32)))]) [1, 2, 3, 0] 18 rfl (by decide +kernel) (by decide +kernel) rfl ?_
    exact h
set_option maxRecDepth 20000 in
set_option maxHeartbeats 4000000 in
theorem en_SL_countSets (g : Gc) {lv : Nat}  {m : Mm} {Q : Option Nat → Mm → Prop} (h : mK m (gz g + mC m) = 0 ∧ (∀ q2 m3, q2 = gz g + mC m → m3 = nw m q2 16 ((1891 : Int32).toNatClampNeg) ((1891 : Int32).toNatClampNeg) → (At g M_SL_countSets (lv + 1) 10 [(0, va_rf (some q2)), (1, .int ((0 : Int32))), (2, .int ((0 : Int32)))] [] m3 (QR Q)))) : CR g M_SL_countSets (lv + 1) [] m Q := by
  refine Call.of (by decide +kernel) (Nat.le_of_ble_eq_true rfl) ?_
  show At g M_SL_countSets (lv + 1) 0 [] [] m (QR Q)
  refine at_sipush (n := 1891) (1891 : Int32) 3 rfl (by decide +kernel) (by decide +kernel) ?_
  obtain ⟨z1, h⟩ := h
  refine at_newaJ 5 rfl z1 (by decide +kernel) tw_199 (by decide +kernel) (by decide +kernel) (fun q2 m3 e4 e5 => ?_)
  replace h := h q2 m3 e4 e5
  have x6 : Ext m m3 := by rw [e5, e4]; exact Ext.nw z1 _ _ _
  have k7 : mK m3 q2 = 16 := by rw [e5]; exact if_pos rfl
  refine at_astore_n (i := 0) (lc' := [(0, va_rf (some q2))]) [0] 6 rfl (by decide +kernel) (by decide +kernel) rfl ?_
  refine at_iconst (n := 0) (0 : Int32) 7 rfl (by decide +kernel) (by decide +kernel) ?_
  refine at_istore_n (i := 1) (lc' := [(0, va_rf (some q2)), (1, .int ((0 : Int32)))]) [1, 0] 8 rfl (by decide +kernel) (by decide +kernel) rfl ?_
  refine at_iconst (n := 0) (0 : Int32) 9 rfl (by decide +kernel) (by decide +kernel) ?_
  refine at_istore_n (i := 2) (lc' := [(0, va_rf (some q2)), (1, .int ((0 : Int32))), (2, .int ((0 : Int32)))]) [1, 2, 0] 10 rfl (by decide +kernel) (by decide +kernel) rfl ?_
  exact h
set_option maxRecDepth 20000 in
set_option maxHeartbeats 4000000 in
theorem en_SL_setsOf (g : Gc) {lv : Nat} {t : Nat} {l1 : Int32} {l2 : Int32} {m : Mm} {Q : Int64 → Mm → Prop} (h : CI g M_SL_isWithin lv [.int (l1), .int ((0 : Int32)), .int ((60 : Int32))] m (fun x1 m2 => (if (x1) = 0 then (Q (0 : Int64) m2) else (CI g M_SL_isWithin lv [.int (l2), .int ((0 : Int32)), .int (l1)] m2 (fun x5 m6 => (if (x5) = 0 then (Q (0 : Int64) m6) else (mK m6 t = 12 ∧ (∃ b10, mR m6 t 7 = some b10 ∧ (mK m6 b10 = 16 ∧ (vp_in (((l1 * (l1 + (1 : Int32))) / (2 : Int32)) + l2) (mN m6 b10) ∧ (Q (mL m6 b10 (((l1 * (l1 + (1 : Int32))) / (2 : Int32)) + l2).toNatClampNeg) m6))))))))))) : CJ g M_SL_setsOf (lv + 1) [va_rf (some t), .int (l1), .int (l2)] m Q := by
  refine Call.of (by decide +kernel) (Nat.le_of_ble_eq_true rfl) ?_
  show At g M_SL_setsOf (lv + 1) 0 [(0, va_rf (some t)), (1, .int (l1)), (2, .int (l2))] [] m (QJ Q)
  refine at_iload_n (i := 1) 1 1 rfl (by decide +kernel) rfl ?_
  refine at_iconst (n := 0) (0 : Int32) 2 rfl (by decide +kernel) (by decide +kernel) ?_
  refine at_bipush (n := 60) (60 : Int32) 4 rfl (by decide +kernel) (by decide +kernel) ?_
  refine at_callS mb_SL_isWithin tw_471 (index := 64) tw_470 [.int (l1), .int ((0 : Int32)), .int ((60 : Int32))] [] rfl rfl (by decide) 7 rfl (by decide +kernel) (Call.toI (CI.monoE h (fun x1 m2 h y3 => ?_)))
  refine at_if_eq (off := 12) 19 10 rfl (by decide +kernel) (by decide +kernel) (fun c4 => ?_) (fun c4 => ?_)
  · rw [if_pos c4] at h
    refine at_lconst (n := 0) (0 : Int64) 20 rfl (by decide +kernel) (by decide +kernel) ?_
    exact at_lret rfl (by decide +kernel) h
  · rw [if_neg c4] at h
    refine at_iload_n (i := 2) 2 11 rfl (by decide +kernel) rfl ?_
    refine at_iconst (n := 0) (0 : Int32) 12 rfl (by decide +kernel) (by decide +kernel) ?_
    refine at_iload_n (i := 1) 1 13 rfl (by decide +kernel) rfl ?_
    refine at_callS mb_SL_isWithin tw_471 (index := 64) tw_470 [.int (l2), .int ((0 : Int32)), .int (l1)] [] rfl rfl (by decide) 16 rfl (by decide +kernel) (Call.toI (CI.monoE h (fun x5 m6 h y7 => ?_)))
    refine at_if_ne (off := 5) 21 19 rfl (by decide +kernel) (by decide +kernel) (fun c8 => ?_) (fun c8 => ?_)
    · rw [if_neg c8] at h
      refine at_aload_n (i := 0) 0 22 rfl (by decide +kernel) rfl ?_
      obtain ⟨k9, h⟩ := h
      refine at_get (index := 59) (v := va_rf (mR m6 t 7)) cok11 7 25 rfl (by decide +kernel) k9 (by decide +kernel) tw_447 rfl ?_
      obtain ⟨b10, e11, h⟩ := h
      rw [e11]
      refine at_iload_n (i := 1) 1 26 rfl (by decide +kernel) rfl ?_
      refine at_iload_n (i := 1) 1 27 rfl (by decide +kernel) rfl ?_
      refine at_iconst (n := 1) (1 : Int32) 28 rfl (by decide +kernel) (by decide +kernel) ?_
      refine at_iadd 29 rfl (by decide +kernel) ?_
      refine at_imul 30 rfl (by decide +kernel) ?_
      refine at_iconst (n := 2) (2 : Int32) 31 rfl (by decide +kernel) (by decide +kernel) ?_
      refine at_idiv 32 rfl (by decide +kernel) (by decide +kernel) ?_
      refine at_iload_n (i := 2) 2 33 rfl (by decide +kernel) rfl ?_
      refine at_iadd 34 rfl (by decide +kernel) ?_
      obtain ⟨k12, h⟩ := h
      obtain ⟨v13, h⟩ := h
      refine at_lald 35 rfl (by decide +kernel) k12 v13 ?_
      exact at_lret rfl (by decide +kernel) h
    · rw [if_pos c8] at h
      refine at_lconst (n := 0) (0 : Int64) 20 rfl (by decide +kernel) (by decide +kernel) ?_
      exact at_lret rfl (by decide +kernel) h
set_option maxRecDepth 20000 in
set_option maxHeartbeats 4000000 in
theorem bk_SL_waysToDraw_7 (g : Gc) {lv : Nat} {t : Nat} {l1 : Int32} {l2 : Int32} {l3 : Int32} {l5 : Int32} {l6 : Int64} {l8 : Int32} {m : Mm} {Q : Int64 → Mm → Prop} (h : if (l5) < (l8) then (Q l6 m) else (mK m t = 12 ∧ (CJ g M_SL_setsOf lv [va_rf (some t), .int (l2), .int (l8)] m (fun x3 m4 => (CJ g M_SL_setsOf lv [va_rf (some t), .int (l1 - l2), .int (l3 - l8)] m4 (fun x7 m8 => (At g M_SL_waysToDraw (lv + 1) 7 [(0, va_rf (some t)), (1, .int (l1)), (2, .int (l2)), (3, .int (l3)), (5, .int (l5)), (6, .long (l6 + (x3 * x7))), (8, .int (l8 + (1 : Int32)))] [] m8 (QJ Q)))))))) : At g M_SL_waysToDraw (lv + 1) 7 [(0, va_rf (some t)), (1, .int (l1)), (2, .int (l2)), (3, .int (l3)), (5, .int (l5)), (6, .long (l6)), (8, .int (l8))] [] m (QJ Q) := by
  refine at_iload (i := 8) 6 9 rfl (by decide +kernel) rfl ?_
  refine at_iload (i := 5) 4 11 rfl (by decide +kernel) rfl ?_
  refine at_icmp_gt (off := 33) 44 14 rfl (by decide +kernel) (by decide +kernel) (fun c1 => ?_) (fun c1 => ?_)
  · rw [if_pos c1] at h
    refine at_lload (i := 6) 5 46 rfl (by decide +kernel) rfl ?_
    exact at_lret rfl (by decide +kernel) h
  · rw [if_neg c1] at h
    refine at_lload (i := 6) 5 16 rfl (by decide +kernel) rfl ?_
    refine at_aload_n (i := 0) 0 17 rfl (by decide +kernel) rfl ?_
    refine at_iload_n (i := 2) 2 18 rfl (by decide +kernel) rfl ?_
    refine at_iload (i := 8) 6 20 rfl (by decide +kernel) rfl ?_
    obtain ⟨k2, h⟩ := h
    refine at_callV mb_SL_setsOf tw_1043 tw_31 cok11 k2 (index := 325) tw_1041 [.int (l2), .int (l8)] [.long (l6)] rfl rfl (by simp [va_rf_cat, cat_int, cat_long]) 23 rfl (by decide +kernel) (Call.toJ (CJ.monoE h (fun x3 m4 h y5 => ?_)))
    have k6 : mK m4 t = 12 := y5.k k2 (by decide)
    refine at_aload_n (i := 0) 0 24 rfl (by decide +kernel) rfl ?_
    refine at_iload_n (i := 1) 1 25 rfl (by decide +kernel) rfl ?_
    refine at_iload_n (i := 2) 2 26 rfl (by decide +kernel) rfl ?_
    refine at_isub 27 rfl (by decide +kernel) ?_
    refine at_iload_n (i := 3) 3 28 rfl (by decide +kernel) rfl ?_
    refine at_iload (i := 8) 6 30 rfl (by decide +kernel) rfl ?_
    refine at_isub 31 rfl (by decide +kernel) ?_
    refine at_callV mb_SL_setsOf tw_1043 tw_31 cok11 k6 (index := 325) tw_1041 [.int (l1 - l2), .int (l3 - l8)] [.long (x3), .long (l6)] rfl rfl (by simp [va_rf_cat, cat_int, cat_long]) 34 rfl (by decide +kernel) (Call.toJ (CJ.monoE h (fun x7 m8 h y9 => ?_)))
    have k10 : mK m8 t = 12 := y9.k k6 (by decide)
    refine at_lmul 35 rfl (by decide +kernel) ?_
    refine at_ladd 36 rfl (by decide +kernel) ?_
    refine at_lstore (i := 6) (lc' := [(0, va_rf (some t)), (1, .int (l1)), (2, .int (l2)), (3, .int (l3)), (5, .int (l5)), (6, .long (l6 + (x3 * x7))), (8, .int (l8))]) [1, 2, 3, 4, 5, 0, 6] 38 rfl (by decide +kernel) (by decide +kernel) rfl ?_
    refine at_iinc (i := 8) (n := 1) (lc' := [(0, va_rf (some t)), (1, .int (l1)), (2, .int (l2)), (3, .int (l3)), (5, .int (l5)), (6, .long (l6 + (x3 * x7))), (8, .int (l8 + (1 : Int32)))]) (l8 + (1 : Int32)) 6 [1, 2, 3, 4, 5, 6, 0] 41 rfl (by decide +kernel) rfl (by rw [show Int32.ofInt 1 = (1 : Int32) from by decide +kernel]) (by decide +kernel) rfl ?_
    refine at_goto (off := (-34)) 7 (by decide +kernel) (by decide +kernel) ?_
    exact h
set_option maxRecDepth 20000 in
set_option maxHeartbeats 4000000 in
theorem en_SL_waysToDraw (g : Gc) {lv : Nat} {t : Nat} {l1 : Int32} {l2 : Int32} {l3 : Int32} {l4 : Int32} {l5 : Int32} {m : Mm} {Q : Int64 → Mm → Prop} (h : At g M_SL_waysToDraw (lv + 1) 7 [(0, va_rf (some t)), (1, .int (l1)), (2, .int (l2)), (3, .int (l3)), (5, .int (l5)), (6, .long ((0 : Int64))), (8, .int (l4))] [] m (QJ Q)) : CJ g M_SL_waysToDraw (lv + 1) [va_rf (some t), .int (l1), .int (l2), .int (l3), .int (l4), .int (l5)] m Q := by
  refine Call.of (by decide +kernel) (Nat.le_of_ble_eq_true rfl) ?_
  show At g M_SL_waysToDraw (lv + 1) 0 [(0, va_rf (some t)), (1, .int (l1)), (2, .int (l2)), (3, .int (l3)), (4, .int (l4)), (5, .int (l5))] [] m (QJ Q)
  refine at_lconst (n := 0) (0 : Int64) 1 rfl (by decide +kernel) (by decide +kernel) ?_
  refine at_lstore (i := 6) (lc' := [(0, va_rf (some t)), (1, .int (l1)), (2, .int (l2)), (3, .int (l3)), (4, .int (l4)), (5, .int (l5)), (6, .long ((0 : Int64)))]) [1, 2, 3, 4, 5, 6, 0] 3 rfl (by decide +kernel) (by decide +kernel) rfl ?_
  refine at_iload (i := 4) 4 5 rfl (by decide +kernel) rfl ?_
  refine at_istore (i := 8) (lc' := [(0, va_rf (some t)), (1, .int (l1)), (2, .int (l2)), (3, .int (l3)), (5, .int (l5)), (6, .long ((0 : Int64))), (8, .int (l4))]) [1, 2, 3, 4, 6, 7, 0] 7 rfl (by decide +kernel) (by decide +kernel) rfl ?_
  exact h
