set_option maxRecDepth 20000 in
set_option maxHeartbeats 4000000 in
theorem en_SL_init (g : Gc) {lv : Nat} {t : Nat} {m : Mm} {Q : Mm → Prop} (h : mK m (gz g + mC m) = 0 ∧ (∀ q2 m3, q2 = gz g + mC m → m3 = nw m q2 11 0 7 → (CV g M_Terms_init lv [va_rf (some q2)] m3 (fun m8 => (mK m8 t = 12 ∧ (∀ m12, m12 = sR m8 t 0 (some q2) → (mK m12 (gz g + mC m12) = 0 ∧ (∀ q17 m18, q17 = gz g + mC m12 → m18 = nw m12 q17 4 0 14 → (CV g M_Land_init lv [va_rf (some q17), va_rf (mR m18 t 0)] m18 (fun m25 => (∀ m30, m30 = sR m25 t 1 (some q17) → (mK m30 (gz g + mC m30) = 0 ∧ (∀ q36 m37, q36 = gz g + mC m30 → m37 = nw m30 q36 4 0 14 → (CV g M_Land_init lv [va_rf (some q36), va_rf (mR m37 t 0)] m37 (fun m45 => (∀ m51, m51 = sR m45 t 2 (some q36) → (mK m51 (gz g + mC m51) = 0 ∧ (∀ q58 m59, q58 = gz g + mC m51 → m59 = nw m51 q58 10 0 9 → (CV g M_Tape_init lv [va_rf (some q58)] m59 (fun m68 => (∀ m75, m75 = sR m68 t 3 (some q58) → (mK m75 (gz g + mC m75) = 0 ∧ (∀ q83 m84, q83 = gz g + mC m75 → m84 = nw m75 q83 5 0 7 → (CV g M_Law_init lv [va_rf (some q83), .int ((12 : Int32)), .int ((300 : Int32))] m84 (fun m94 => (∀ m102, m102 = sR m94 t 4 (some q83) → (mK m102 (gz g + mC m102) = 0 ∧ (∀ q111 m112, q111 = gz g + mC m102 → m112 = nw m102 q111 20 ((30 : Int32).toNatClampNeg) ((30 : Int32).toNatClampNeg) → (∀ m123, m123 = sR m112 t 5 (some q111) → (mK m123 (gz g + mC m123) = 0 ∧ (∀ q133 m134, q133 = gz g + mC m123 → m134 = nw m123 q133 8 0 3 → (CV g M_Rows_init lv [va_rf (some q133)] m134 (fun m146 => (∀ m156, m156 = sR m146 t 6 (some q133) → (CR g M_SL_countSets lv [] m156 (fun x166 m167 => (∀ m177, m177 = sR m167 t 7 x166 → (Q m177)))))))))))))))))))))))))))))))))))))) : CV g M_SL_init (lv + 1) [va_rf (some t)] m Q := by
  refine Call.of (by decide +kernel) (Nat.le_of_ble_eq_true rfl) ?_
  show At g M_SL_init (lv + 1) 0 [(0, va_rf (some t))] [] m (QV Q)
  refine at_aload_n (i := 0) 0 1 rfl (by decide +kernel) rfl ?_
  refine at_objInit 4 rfl (by decide +kernel) tw_90 tw_91 tw_92 (by decide) ?_
  refine at_aload_n (i := 0) 0 5 rfl (by decide +kernel) rfl ?_
  obtain ⟨z1, h⟩ := h
  refine at_new (index := 7) cok10 8 rfl z1 (by decide +kernel) tw_93 tw_94 tw_66 (fun q2 m3 e4 e5 => ?_)
  replace h := h q2 m3 e4 e5
  have x6 : Ext m m3 := by rw [e5, e4]; exact Ext.nw z1 _ _ _
  have k7 : mK m3 q2 = 11 := by rw [e5]; exact if_pos rfl
  refine at_dup 9 rfl (by decide +kernel) (va_rf_cat _) ?_
  refine at_callIN mb_Terms_init tw_96 rfl rfl (index := 9) (host := "SurplusLand") (by decide +kernel) [] [va_rf (some q2), va_rf (some t)] rfl rfl (by simp [va_rf_cat, cat_int, cat_long]) 12 rfl (by decide +kernel) (Call.toV (CV.monoE h (fun m8 h y9 => ?_)))
  have k10 : mK m8 q2 = 11 := y9.k k7 (by decide)
  obtain ⟨k11, h⟩ := h
  refine at_putRF (index := 10) cok11 0 15 rfl (by decide +kernel) k11 (by decide +kernel) tw_440 rfl rfl rfl rfl (Or.inl ⟨_, rfl⟩) (fun m12 e13 => ?_)
  replace h := h m12 e13
  have k14 : mK m12 q2 = 11 := by rw [e13]; exact k10
  have k15 : mK m12 t = 12 := by rw [e13]; exact k11
  refine at_aload_n (i := 0) 0 16 rfl (by decide +kernel) rfl ?_
  obtain ⟨z16, h⟩ := h
  refine at_new (index := 16) cok3 19 rfl z16 (by decide +kernel) tw_133 tw_134 tw_67 (fun q17 m18 e19 e20 => ?_)
  replace h := h q17 m18 e19 e20
  have x21 : Ext m12 m18 := by rw [e20, e19]; exact Ext.nw z16 _ _ _
  have k22 : mK m18 q2 = 11 := x21.k k14 (by decide)
  have k23 : mK m18 t = 12 := x21.k k15 (by decide)
  have k24 : mK m18 q17 = 4 := by rw [e20]; exact if_pos rfl
  refine at_dup 20 rfl (by decide +kernel) (va_rf_cat _) ?_
  refine at_aload_n (i := 0) 0 21 rfl (by decide +kernel) rfl ?_
  refine at_get (index := 10) (v := va_rf (mR m18 t 0)) cok11 0 24 rfl (by decide +kernel) k23 (by decide +kernel) tw_440 rfl ?_
  refine at_callI mb_Land_init tw_136 rfl rfl (index := 18) tw_135 [va_rf (mR m18 t 0)] [va_rf (some q17), va_rf (some t)] rfl rfl (by simp [va_rf_cat, cat_int, cat_long]) 27 rfl (by decide +kernel) (Call.toV (CV.monoE h (fun m25 h y26 => ?_)))
  have k27 : mK m25 q2 = 11 := y26.k k22 (by decide)
  have k28 : mK m25 t = 12 := y26.k k23 (by decide)
  have k29 : mK m25 q17 = 4 := y26.k k24 (by decide)
  refine at_putRF (index := 21) cok11 1 30 rfl (by decide +kernel) k28 (by decide +kernel) tw_441 rfl rfl rfl rfl (Or.inl ⟨_, rfl⟩) (fun m30 e31 => ?_)
  replace h := h m30 e31
  have k32 : mK m30 q2 = 11 := by rw [e31]; exact k27
  have k33 : mK m30 t = 12 := by rw [e31]; exact k28
  have k34 : mK m30 q17 = 4 := by rw [e31]; exact k29
  refine at_aload_n (i := 0) 0 31 rfl (by decide +kernel) rfl ?_
  obtain ⟨z35, h⟩ := h
  refine at_new (index := 16) cok3 34 rfl z35 (by decide +kernel) tw_133 tw_134 tw_67 (fun q36 m37 e38 e39 => ?_)
  replace h := h q36 m37 e38 e39
  have x40 : Ext m30 m37 := by rw [e39, e38]; exact Ext.nw z35 _ _ _
  have k41 : mK m37 q2 = 11 := x40.k k32 (by decide)
  have k42 : mK m37 t = 12 := x40.k k33 (by decide)
  have k43 : mK m37 q17 = 4 := x40.k k34 (by decide)
  have k44 : mK m37 q36 = 4 := by rw [e39]; exact if_pos rfl
  refine at_dup 35 rfl (by decide +kernel) (va_rf_cat _) ?_
  refine at_aload_n (i := 0) 0 36 rfl (by decide +kernel) rfl ?_
  refine at_get (index := 10) (v := va_rf (mR m37 t 0)) cok11 0 39 rfl (by decide +kernel) k42 (by decide +kernel) tw_440 rfl ?_
  refine at_callI mb_Land_init tw_136 rfl rfl (index := 18) tw_135 [va_rf (mR m37 t 0)] [va_rf (some q36), va_rf (some t)] rfl rfl (by simp [va_rf_cat, cat_int, cat_long]) 42 rfl (by decide +kernel) (Call.toV (CV.monoE h (fun m45 h y46 => ?_)))
  have k47 : mK m45 q2 = 11 := y46.k k41 (by decide)
  have k48 : mK m45 t = 12 := y46.k k42 (by decide)
  have k49 : mK m45 q17 = 4 := y46.k k43 (by decide)
  have k50 : mK m45 q36 = 4 := y46.k k44 (by decide)
  refine at_putRF (index := 25) cok11 2 45 rfl (by decide +kernel) k48 (by decide +kernel) tw_442 rfl rfl rfl rfl (Or.inl ⟨_, rfl⟩) (fun m51 e52 => ?_)
  replace h := h m51 e52
  have k53 : mK m51 q2 = 11 := by rw [e52]; exact k47
  have k54 : mK m51 t = 12 := by rw [e52]; exact k48
  have k55 : mK m51 q17 = 4 := by rw [e52]; exact k49
  have k56 : mK m51 q36 = 4 := by rw [e52]; exact k50
  refine at_aload_n (i := 0) 0 46 rfl (by decide +kernel) rfl ?_
  obtain ⟨z57, h⟩ := h
  refine at_new (index := 28) cok9 49 rfl z57 (by decide +kernel) tw_338 tw_339 tw_72 (fun q58 m59 e60 e61 => ?_)
  replace h := h q58 m59 e60 e61
  have x62 : Ext m51 m59 := by rw [e61, e60]; exact Ext.nw z57 _ _ _
  have k63 : mK m59 q2 = 11 := x62.k k53 (by decide)
  have k64 : mK m59 t = 12 := x62.k k54 (by decide)
  have k65 : mK m59 q17 = 4 := x62.k k55 (by decide)
  have k66 : mK m59 q36 = 4 := x62.k k56 (by decide)
  have k67 : mK m59 q58 = 10 := by rw [e61]; exact if_pos rfl
  refine at_dup 50 rfl (by decide +kernel) (va_rf_cat _) ?_
  refine at_callIN mb_Tape_init tw_341 rfl rfl (index := 30) (host := "SurplusLand") (by decide +kernel) [] [va_rf (some q58), va_rf (some t)] rfl rfl (by simp [va_rf_cat, cat_int, cat_long]) 53 rfl (by decide +kernel) (Call.toV (CV.monoE h (fun m68 h y69 => ?_)))
  have k70 : mK m68 q2 = 11 := y69.k k63 (by decide)
  have k71 : mK m68 t = 12 := y69.k k64 (by decide)
  have k72 : mK m68 q17 = 4 := y69.k k65 (by decide)
  have k73 : mK m68 q36 = 4 := y69.k k66 (by decide)
  have k74 : mK m68 q58 = 10 := y69.k k67 (by decide)
  refine at_putRF (index := 31) cok11 3 56 rfl (by decide +kernel) k71 (by decide +kernel) tw_443 rfl rfl rfl rfl (Or.inl ⟨_, rfl⟩) (fun m75 e76 => ?_)
  replace h := h m75 e76
  have k77 : mK m75 q2 = 11 := by rw [e76]; exact k70
  have k78 : mK m75 t = 12 := by rw [e76]; exact k71
  have k79 : mK m75 q17 = 4 := by rw [e76]; exact k72
  have k80 : mK m75 q36 = 4 := by rw [e76]; exact k73
  have k81 : mK m75 q58 = 10 := by rw [e76]; exact k74
  refine at_aload_n (i := 0) 0 57 rfl (by decide +kernel) rfl ?_
  obtain ⟨z82, h⟩ := h
  refine at_new (index := 35) cok4 60 rfl z82 (by decide +kernel) tw_375 tw_376 tw_73 (fun q83 m84 e85 e86 => ?_)
  replace h := h q83 m84 e85 e86
  have x87 : Ext m75 m84 := by rw [e86, e85]; exact Ext.nw z82 _ _ _
  have k88 : mK m84 q2 = 11 := x87.k k77 (by decide)
  have k89 : mK m84 t = 12 := x87.k k78 (by decide)
  have k90 : mK m84 q17 = 4 := x87.k k79 (by decide)
  have k91 : mK m84 q36 = 4 := x87.k k80 (by decide)
  have k92 : mK m84 q58 = 10 := x87.k k81 (by decide)
  have k93 : mK m84 q83 = 5 := by rw [e86]; exact if_pos rfl
  refine at_dup 61 rfl (by decide +kernel) (va_rf_cat _) ?_
  refine at_bipush (n := 12) (12 : Int32) 63 rfl (by decide +kernel) (by decide +kernel) ?_
  refine at_sipush (n := 300) (300 : Int32) 66 rfl (by decide +kernel) (by decide +kernel) ?_
  refine at_callI mb_Law_init tw_378 rfl rfl (index := 37) tw_377 [.int ((12 : Int32)), .int ((300 : Int32))] [va_rf (some q83), va_rf (some t)] rfl rfl (by simp [va_rf_cat, cat_int, cat_long]) 69 rfl (by decide +kernel) (Call.toV (CV.monoE h (fun m94 h y95 => ?_)))
  have k96 : mK m94 q2 = 11 := y95.k k88 (by decide)
  have k97 : mK m94 t = 12 := y95.k k89 (by decide)
  have k98 : mK m94 q17 = 4 := y95.k k90 (by decide)
  have k99 : mK m94 q36 = 4 := y95.k k91 (by decide)
  have k100 : mK m94 q58 = 10 := y95.k k92 (by decide)
  have k101 : mK m94 q83 = 5 := y95.k k93 (by decide)
  refine at_putRF (index := 40) cok11 4 72 rfl (by decide +kernel) k97 (by decide +kernel) tw_444 rfl rfl rfl rfl (Or.inl ⟨_, rfl⟩) (fun m102 e103 => ?_)
  replace h := h m102 e103
  have k104 : mK m102 q2 = 11 := by rw [e103]; exact k96
  have k105 : mK m102 t = 12 := by rw [e103]; exact k97
  have k106 : mK m102 q17 = 4 := by rw [e103]; exact k98
  have k107 : mK m102 q36 = 4 := by rw [e103]; exact k99
  have k108 : mK m102 q58 = 10 := by rw [e103]; exact k100
  have k109 : mK m102 q83 = 5 := by rw [e103]; exact k101
  refine at_aload_n (i := 0) 0 73 rfl (by decide +kernel) rfl ?_
  refine at_bipush (n := 30) (30 : Int32) 75 rfl (by decide +kernel) (by decide +kernel) ?_
  obtain ⟨z110, h⟩ := h
  refine at_anewLaw (index := 35) 78 rfl z110 (by decide +kernel) tw_375 (by decide +kernel) (by decide +kernel) (fun q111 m112 e113 e114 => ?_)
  replace h := h q111 m112 e113 e114
  have x115 : Ext m102 m112 := by rw [e114, e113]; exact Ext.nw z110 _ _ _
  have k116 : mK m112 q2 = 11 := x115.k k104 (by decide)
  have k117 : mK m112 t = 12 := x115.k k105 (by decide)
  have k118 : mK m112 q17 = 4 := x115.k k106 (by decide)
  have k119 : mK m112 q36 = 4 := x115.k k107 (by decide)
  have k120 : mK m112 q58 = 10 := x115.k k108 (by decide)
  have k121 : mK m112 q83 = 5 := x115.k k109 (by decide)
  have k122 : mK m112 q111 = 20 := by rw [e114]; exact if_pos rfl
  refine at_putRF (index := 44) cok11 5 81 rfl (by decide +kernel) k117 (by decide +kernel) tw_445 rfl rfl rfl rfl (Or.inr ⟨_, rfl⟩) (fun m123 e124 => ?_)
  replace h := h m123 e124
  have k125 : mK m123 q2 = 11 := by rw [e124]; exact k116
  have k126 : mK m123 t = 12 := by rw [e124]; exact k117
  have k127 : mK m123 q17 = 4 := by rw [e124]; exact k118
  have k128 : mK m123 q36 = 4 := by rw [e124]; exact k119
  have k129 : mK m123 q58 = 10 := by rw [e124]; exact k120
  have k130 : mK m123 q83 = 5 := by rw [e124]; exact k121
  have k131 : mK m123 q111 = 20 := by rw [e124]; exact k122
  refine at_aload_n (i := 0) 0 82 rfl (by decide +kernel) rfl ?_
  obtain ⟨z132, h⟩ := h
  refine at_new (index := 48) cok7 85 rfl z132 (by decide +kernel) tw_416 tw_417 tw_75 (fun q133 m134 e135 e136 => ?_)
  replace h := h q133 m134 e135 e136
  have x137 : Ext m123 m134 := by rw [e136, e135]; exact Ext.nw z132 _ _ _
  have k138 : mK m134 q2 = 11 := x137.k k125 (by decide)
  have k139 : mK m134 t = 12 := x137.k k126 (by decide)
  have k140 : mK m134 q17 = 4 := x137.k k127 (by decide)
  have k141 : mK m134 q36 = 4 := x137.k k128 (by decide)
  have k142 : mK m134 q58 = 10 := x137.k k129 (by decide)
  have k143 : mK m134 q83 = 5 := x137.k k130 (by decide)
  have k144 : mK m134 q111 = 20 := x137.k k131 (by decide)
  have k145 : mK m134 q133 = 8 := by rw [e136]; exact if_pos rfl
  refine at_dup 86 rfl (by decide +kernel) (va_rf_cat _) ?_
  refine at_callI mb_Rows_init tw_419 rfl rfl (index := 50) tw_418 [] [va_rf (some q133), va_rf (some t)] rfl rfl (by simp [va_rf_cat, cat_int, cat_long]) 89 rfl (by decide +kernel) (Call.toV (CV.monoE h (fun m146 h y147 => ?_)))
  have k148 : mK m146 q2 = 11 := y147.k k138 (by decide)
  have k149 : mK m146 t = 12 := y147.k k139 (by decide)
  have k150 : mK m146 q17 = 4 := y147.k k140 (by decide)
  have k151 : mK m146 q36 = 4 := y147.k k141 (by decide)
  have k152 : mK m146 q58 = 10 := y147.k k142 (by decide)
  have k153 : mK m146 q83 = 5 := y147.k k143 (by decide)
  have k154 : mK m146 q111 = 20 := y147.k k144 (by decide)
  have k155 : mK m146 q133 = 8 := y147.k k145 (by decide)
  refine at_putRF (index := 51) cok11 6 92 rfl (by decide +kernel) k149 (by decide +kernel) tw_446 rfl rfl rfl rfl (Or.inl ⟨_, rfl⟩) (fun m156 e157 => ?_)
  replace h := h m156 e157
  have k158 : mK m156 q2 = 11 := by rw [e157]; exact k148
  have k159 : mK m156 t = 12 := by rw [e157]; exact k149
  have k160 : mK m156 q17 = 4 := by rw [e157]; exact k150
  have k161 : mK m156 q36 = 4 := by rw [e157]; exact k151
  have k162 : mK m156 q58 = 10 := by rw [e157]; exact k152
  have k163 : mK m156 q83 = 5 := by rw [e157]; exact k153
  have k164 : mK m156 q111 = 20 := by rw [e157]; exact k154
  have k165 : mK m156 q133 = 8 := by rw [e157]; exact k155
  refine at_aload_n (i := 0) 0 93 rfl (by decide +kernel) rfl ?_
  refine at_callS mb_SL_countSets tw_438 (index := 55) tw_437 [] [va_rf (some t)] rfl rfl (by simp [va_rf_cat, cat_int, cat_long]) 96 rfl (by decide +kernel) (Call.toR (CR.monoE h (fun x166 m167 h y168 => ?_)))
  have k169 : mK m167 q2 = 11 := y168.k k158 (by decide)
  have k170 : mK m167 t = 12 := y168.k k159 (by decide)
  have k171 : mK m167 q17 = 4 := y168.k k160 (by decide)
  have k172 : mK m167 q36 = 4 := y168.k k161 (by decide)
  have k173 : mK m167 q58 = 10 := y168.k k162 (by decide)
  have k174 : mK m167 q83 = 5 := y168.k k163 (by decide)
  have k175 : mK m167 q111 = 20 := y168.k k164 (by decide)
  have k176 : mK m167 q133 = 8 := y168.k k165 (by decide)
  refine at_putRF (index := 59) cok11 7 99 rfl (by decide +kernel) k170 (by decide +kernel) tw_447 rfl rfl rfl rfl (Or.inr ⟨_, rfl⟩) (fun m177 e178 => ?_)
  replace h := h m177 e178
  have k179 : mK m177 q2 = 11 := by rw [e178]; exact k169
  have k180 : mK m177 t = 12 := by rw [e178]; exact k170
  have k181 : mK m177 q17 = 4 := by rw [e178]; exact k171
  have k182 : mK m177 q36 = 4 := by rw [e178]; exact k172
  have k183 : mK m177 q58 = 10 := by rw [e178]; exact k173
  have k184 : mK m177 q83 = 5 := by rw [e178]; exact k174
  have k185 : mK m177 q111 = 20 := by rw [e178]; exact k175
  have k186 : mK m177 q133 = 8 := by rw [e178]; exact k176
  exact at_vret rfl (by decide +kernel) h
set_option maxRecDepth 20000 in
set_option maxHeartbeats 4000000 in
theorem bk_SL_terms_89 (g : Gc) {lv : Nat} {t : Nat} {l1 : Int32} {l2 : Int32} {l3 : Int32} {l4 : Int32} {l5 : Int32} {l6 : Int32} {l7 : Int32} {l8 : Int32} {s0 : Int32} {m : Mm} {Q : Int32 → Mm → Prop} (h : if (l8) = 0 then (Q (-2 : Int32) m) else (if (s0) = 0 then (Q (-2 : Int32) m) else (mK m t = 12 ∧ (∃ b4, mR m t 0 = some b4 ∧ (mK m b4 = 11 ∧ (∀ m7, m7 = sI m b4 0 l1 → (∃ b11, mR m7 t 0 = some b11 ∧ (mK m7 b11 = 11 ∧ (∀ m14, m14 = sI m7 b11 1 l2 → (∃ b19, mR m14 t 0 = some b19 ∧ (mK m14 b19 = 11 ∧ (∀ m22, m22 = sI m14 b19 2 l3 → (∃ b28, mR m22 t 0 = some b28 ∧ (mK m22 b28 = 11 ∧ (∀ m31, m31 = sI m22 b28 3 l4 → (∃ b38, mR m31 t 0 = some b38 ∧ (mK m31 b38 = 11 ∧ (∀ m41, m41 = sI m31 b38 4 l5 → (∃ b49, mR m41 t 0 = some b49 ∧ (mK m41 b49 = 11 ∧ (∀ m52, m52 = sI m41 b49 5 l6 → (∃ b61, mR m52 t 0 = some b61 ∧ (mK m52 b61 = 11 ∧ (∀ m64, m64 = sI m52 b61 6 l7 → (Q (0 : Int32) m64))))))))))))))))))))))))) : At g M_SL_terms (lv + 1) 89 [(0, va_rf (some t)), (1, .int (l1)), (2, .int (l2)), (3, .int (l3)), (4, .int (l4)), (5, .int (l5)), (6, .int (l6)), (7, .int (l7)), (8, .int (l8))] [.int (s0)] m (QI Q) := by
  refine at_istore (i := 9) (lc' := [(0, va_rf (some t)), (1, .int (l1)), (2, .int (l2)), (3, .int (l3)), (4, .int (l4)), (5, .int (l5)), (6, .int (l6)), (7, .int (l7)), (8, .int (l8)), (9, .int (s0))]) [1, 2, 3, 4, 5, 6, 7, 8, 9, 0] 91 rfl (by decide +kernel) (by decide +kernel) rfl ?_
  refine at_iload (i := 8) 8 93 rfl (by decide +kernel) rfl ?_
  refine at_if_eq (off := 8) 101 96 rfl (by decide +kernel) (by decide +kernel) (fun c1 => ?_) (fun c1 => ?_)
  · rw [if_pos c1] at h
    refine at_bipush (n := (-2)) (-2 : Int32) 103 rfl (by decide +kernel) (by decide +kernel) ?_
    exact at_iret rfl (by decide +kernel) h
  · rw [if_neg c1] at h
    refine at_iload (i := 9) 9 98 rfl (by decide +kernel) rfl ?_
    refine at_if_ne (off := 6) 104 101 rfl (by decide +kernel) (by decide +kernel) (fun c2 => ?_) (fun c2 => ?_)
    · rw [if_neg c2] at h
      refine at_aload_n (i := 0) 0 105 rfl (by decide +kernel) rfl ?_
      obtain ⟨k3, h⟩ := h
      refine at_get (index := 10) (v := va_rf (mR m t 0)) cok11 0 108 rfl (by decide +kernel) k3 (by decide +kernel) tw_440 rfl ?_
      refine at_iload_n (i := 1) 1 109 rfl (by decide +kernel) rfl ?_
      obtain ⟨b4, e5, h⟩ := h
      rw [e5]
      obtain ⟨k6, h⟩ := h
      refine at_putI (index := 69) cok10 0 112 rfl (by decide +kernel) k6 (by decide +kernel) tw_100 rfl rfl rfl (fun m7 e8 => ?_)
      replace h := h m7 e8
      have k9 : mK m7 t = 12 := by rw [e8]; exact k3
      have k10 : mK m7 b4 = 11 := by rw [e8]; exact k6
      refine at_aload_n (i := 0) 0 113 rfl (by decide +kernel) rfl ?_
      refine at_get (index := 10) (v := va_rf (mR m7 t 0)) cok11 0 116 rfl (by decide +kernel) k9 (by decide +kernel) tw_440 rfl ?_
      refine at_iload_n (i := 2) 2 117 rfl (by decide +kernel) rfl ?_
      obtain ⟨b11, e12, h⟩ := h
      rw [e12]
      obtain ⟨k13, h⟩ := h
      refine at_putI (index := 73) cok10 1 120 rfl (by decide +kernel) k13 (by decide +kernel) tw_102 rfl rfl rfl (fun m14 e15 => ?_)
      replace h := h m14 e15
      have k16 : mK m14 t = 12 := by rw [e15]; exact k9
      have k17 : mK m14 b4 = 11 := by rw [e15]; exact k10
      have k18 : mK m14 b11 = 11 := by rw [e15]; exact k13
      refine at_aload_n (i := 0) 0 121 rfl (by decide +kernel) rfl ?_
      refine at_get (index := 10) (v := va_rf (mR m14 t 0)) cok11 0 124 rfl (by decide +kernel) k16 (by decide +kernel) tw_440 rfl ?_
      refine at_iload_n (i := 3) 3 125 rfl (by decide +kernel) rfl ?_
      obtain ⟨b19, e20, h⟩ := h
      rw [e20]
      obtain ⟨k21, h⟩ := h
      refine at_putI (index := 76) cok10 2 128 rfl (by decide +kernel) k21 (by decide +kernel) tw_104 rfl rfl rfl (fun m22 e23 => ?_)
      replace h := h m22 e23
      have k24 : mK m22 t = 12 := by rw [e23]; exact k16
      have k25 : mK m22 b4 = 11 := by rw [e23]; exact k17
      have k26 : mK m22 b11 = 11 := by rw [e23]; exact k18
      have k27 : mK m22 b19 = 11 := by rw [e23]; exact k21
      refine at_aload_n (i := 0) 0 129 rfl (by decide +kernel) rfl ?_
      refine at_get (index := 10) (v := va_rf (mR m22 t 0)) cok11 0 132 rfl (by decide +kernel) k24 (by decide +kernel) tw_440 rfl ?_
      refine at_iload (i := 4) 4 134 rfl (by decide +kernel) rfl ?_
      obtain ⟨b28, e29, h⟩ := h
      rw [e29]
      obtain ⟨k30, h⟩ := h
      refine at_putI (index := 79) cok10 3 137 rfl (by decide +kernel) k30 (by decide +kernel) tw_107 rfl rfl rfl (fun m31 e32 => ?_)
      replace h := h m31 e32
      have k33 : mK m31 t = 12 := by rw [e32]; exact k24
      have k34 : mK m31 b4 = 11 := by rw [e32]; exact k25
      have k35 : mK m31 b11 = 11 := by rw [e32]; exact k26
      have k36 : mK m31 b19 = 11 := by rw [e32]; exact k27
      have k37 : mK m31 b28 = 11 := by rw [e32]; exact k30
      refine at_aload_n (i := 0) 0 138 rfl (by decide +kernel) rfl ?_
      refine at_get (index := 10) (v := va_rf (mR m31 t 0)) cok11 0 141 rfl (by decide +kernel) k33 (by decide +kernel) tw_440 rfl ?_
      refine at_iload (i := 5) 5 143 rfl (by decide +kernel) rfl ?_
      obtain ⟨b38, e39, h⟩ := h
      rw [e39]
      obtain ⟨k40, h⟩ := h
      refine at_putI (index := 82) cok10 4 146 rfl (by decide +kernel) k40 (by decide +kernel) tw_110 rfl rfl rfl (fun m41 e42 => ?_)
      replace h := h m41 e42
      have k43 : mK m41 t = 12 := by rw [e42]; exact k33
      have k44 : mK m41 b4 = 11 := by rw [e42]; exact k34
      have k45 : mK m41 b11 = 11 := by rw [e42]; exact k35
      have k46 : mK m41 b19 = 11 := by rw [e42]; exact k36
      have k47 : mK m41 b28 = 11 := by rw [e42]; exact k37
      have k48 : mK m41 b38 = 11 := by rw [e42]; exact k40
      refine at_aload_n (i := 0) 0 147 rfl (by decide +kernel) rfl ?_
      refine at_get (index := 10) (v := va_rf (mR m41 t 0)) cok11 0 150 rfl (by decide +kernel) k43 (by decide +kernel) tw_440 rfl ?_
      refine at_iload (i := 6) 6 152 rfl (by decide +kernel) rfl ?_
      obtain ⟨b49, e50, h⟩ := h
      rw [e50]
      obtain ⟨k51, h⟩ := h
      refine at_putI (index := 85) cok10 5 155 rfl (by decide +kernel) k51 (by decide +kernel) tw_113 rfl rfl rfl (fun m52 e53 => ?_)
      replace h := h m52 e53
      have k54 : mK m52 t = 12 := by rw [e53]; exact k43
      have k55 : mK m52 b4 = 11 := by rw [e53]; exact k44
      have k56 : mK m52 b11 = 11 := by rw [e53]; exact k45
      have k57 : mK m52 b19 = 11 := by rw [e53]; exact k46
      have k58 : mK m52 b28 = 11 := by rw [e53]; exact k47
      have k59 : mK m52 b38 = 11 := by rw [e53]; exact k48
      have k60 : mK m52 b49 = 11 := by rw [e53]; exact k51
      refine at_aload_n (i := 0) 0 156 rfl (by decide +kernel) rfl ?_
      refine at_get (index := 10) (v := va_rf (mR m52 t 0)) cok11 0 159 rfl (by decide +kernel) k54 (by decide +kernel) tw_440 rfl ?_
      refine at_iload (i := 7) 7 161 rfl (by decide +kernel) rfl ?_
      obtain ⟨b61, e62, h⟩ := h
      rw [e62]
      obtain ⟨k63, h⟩ := h
      refine at_putI (index := 88) cok10 6 164 rfl (by decide +kernel) k63 (by decide +kernel) tw_116 rfl rfl rfl (fun m64 e65 => ?_)
      replace h := h m64 e65
      have k66 : mK m64 t = 12 := by rw [e65]; exact k54
      have k67 : mK m64 b4 = 11 := by rw [e65]; exact k55
      have k68 : mK m64 b11 = 11 := by rw [e65]; exact k56
      have k69 : mK m64 b19 = 11 := by rw [e65]; exact k57
      have k70 : mK m64 b28 = 11 := by rw [e65]; exact k58
      have k71 : mK m64 b38 = 11 := by rw [e65]; exact k59
      have k72 : mK m64 b49 = 11 := by rw [e65]; exact k60
      have k73 : mK m64 b61 = 11 := by rw [e65]; exact k63
      refine at_iconst (n := 0) (0 : Int32) 165 rfl (by decide +kernel) (by decide +kernel) ?_
      exact at_iret rfl (by decide +kernel) h
    · rw [if_pos c2] at h
      refine at_bipush (n := (-2)) (-2 : Int32) 103 rfl (by decide +kernel) (by decide +kernel) ?_
      exact at_iret rfl (by decide +kernel) h
set_option maxRecDepth 20000 in
set_option maxHeartbeats 4000000 in
theorem bk_SL_terms_88 (g : Gc) {lv : Nat} {t : Nat} {l1 : Int32} {l2 : Int32} {l3 : Int32} {l4 : Int32} {l5 : Int32} {l6 : Int32} {l7 : Int32} {l8 : Int32} {m : Mm} {Q : Int32 → Mm → Prop} (h : At g M_SL_terms (lv + 1) 89 [(0, va_rf (some t)), (1, .int (l1)), (2, .int (l2)), (3, .int (l3)), (4, .int (l4)), (5, .int (l5)), (6, .int (l6)), (7, .int (l7)), (8, .int (l8))] [.int ((0 : Int32))] m (QI Q)) : At g M_SL_terms (lv + 1) 88 [(0, va_rf (some t)), (1, .int (l1)), (2, .int (l2)), (3, .int (l3)), (4, .int (l4)), (5, .int (l5)), (6, .int (l6)), (7, .int (l7)), (8, .int (l8))] [] m (QI Q) := by
  refine at_iconst (n := 0) (0 : Int32) 89 rfl (by decide +kernel) (by decide +kernel) ?_
  exact h
set_option maxRecDepth 20000 in
set_option maxHeartbeats 4000000 in
theorem bk_SL_terms_36 (g : Gc) {lv : Nat} {t : Nat} {l1 : Int32} {l2 : Int32} {l3 : Int32} {l4 : Int32} {l5 : Int32} {l6 : Int32} {l7 : Int32} {s0 : Int32} {m : Mm} {Q : Int32 → Mm → Prop} (h : CI g M_SL_isWithin lv [.int (l4), .int ((0 : Int32)), .int ((10000000 : Int32))] m (fun x1 m2 => (if (x1) = 0 then (At g M_SL_terms (lv + 1) 88 [(0, va_rf (some t)), (1, .int (l1)), (2, .int (l2)), (3, .int (l3)), (4, .int (l4)), (5, .int (l5)), (6, .int (l6)), (7, .int (l7)), (8, .int (s0))] [] m2 (QI Q)) else (CI g M_SL_isWithin lv [.int (l5), .int ((1 : Int32)), .int ((10000 : Int32))] m2 (fun x5 m6 => (if (x5) = 0 then (At g M_SL_terms (lv + 1) 88 [(0, va_rf (some t)), (1, .int (l1)), (2, .int (l2)), (3, .int (l3)), (4, .int (l4)), (5, .int (l5)), (6, .int (l6)), (7, .int (l7)), (8, .int (s0))] [] m6 (QI Q)) else (CI g M_SL_isWithin lv [.int (l6), .int ((0 : Int32)), .int ((100 : Int32))] m6 (fun x9 m10 => (if (x9) = 0 then (At g M_SL_terms (lv + 1) 88 [(0, va_rf (some t)), (1, .int (l1)), (2, .int (l2)), (3, .int (l3)), (4, .int (l4)), (5, .int (l5)), (6, .int (l6)), (7, .int (l7)), (8, .int (s0))] [] m10 (QI Q)) else (CI g M_SL_isWithin lv [.int (l7), .int ((0 : Int32)), .int ((200 : Int32))] m10 (fun x13 m14 => (if (x13) = 0 then (At g M_SL_terms (lv + 1) 88 [(0, va_rf (some t)), (1, .int (l1)), (2, .int (l2)), (3, .int (l3)), (4, .int (l4)), (5, .int (l5)), (6, .int (l6)), (7, .int (l7)), (8, .int (s0))] [] m14 (QI Q)) else (At g M_SL_terms (lv + 1) 89 [(0, va_rf (some t)), (1, .int (l1)), (2, .int (l2)), (3, .int (l3)), (4, .int (l4)), (5, .int (l5)), (6, .int (l6)), (7, .int (l7)), (8, .int (s0))] [.int ((1 : Int32))] m14 (QI Q)))))))))))))) : At g M_SL_terms (lv + 1) 36 [(0, va_rf (some t)), (1, .int (l1)), (2, .int (l2)), (3, .int (l3)), (4, .int (l4)), (5, .int (l5)), (6, .int (l6)), (7, .int (l7))] [.int (s0)] m (QI Q) := by
  refine at_istore (i := 8) (lc' := [(0, va_rf (some t)), (1, .int (l1)), (2, .int (l2)), (3, .int (l3)), (4, .int (l4)), (5, .int (l5)), (6, .int (l6)), (7, .int (l7)), (8, .int (s0))]) [1, 2, 3, 4, 5, 6, 7, 8, 0] 38 rfl (by decide +kernel) (by decide +kernel) rfl ?_
  refine at_iload (i := 4) 4 40 rfl (by decide +kernel) rfl ?_
  refine at_iconst (n := 0) (0 : Int32) 41 rfl (by decide +kernel) (by decide +kernel) ?_
  refine at_ldc (index := 63) (10000000 : Int32) 43 rfl (by decide +kernel) tw_469 ?_
  refine at_callS mb_SL_isWithin tw_471 (index := 64) tw_470 [.int (l4), .int ((0 : Int32)), .int ((10000000 : Int32))] [] rfl rfl (by decide) 46 rfl (by decide +kernel) (Call.toI (CI.monoE h (fun x1 m2 h y3 => ?_)))
  refine at_if_eq (off := 42) 88 49 rfl (by decide +kernel) (by decide +kernel) (fun c4 => ?_) (fun c4 => ?_)
  · rw [if_pos c4] at h
    exact h
  · rw [if_neg c4] at h
    refine at_iload (i := 5) 5 51 rfl (by decide +kernel) rfl ?_
    refine at_iconst (n := 1) (1 : Int32) 52 rfl (by decide +kernel) (by decide +kernel) ?_
    refine at_sipush (n := 10000) (10000 : Int32) 55 rfl (by decide +kernel) (by decide +kernel) ?_
    refine at_callS mb_SL_isWithin tw_471 (index := 64) tw_470 [.int (l5), .int ((1 : Int32)), .int ((10000 : Int32))] [] rfl rfl (by decide) 58 rfl (by decide +kernel) (Call.toI (CI.monoE h (fun x5 m6 h y7 => ?_)))
    refine at_if_eq (off := 30) 88 61 rfl (by decide +kernel) (by decide +kernel) (fun c8 => ?_) (fun c8 => ?_)
    · rw [if_pos c8] at h
      exact h
    · rw [if_neg c8] at h
      refine at_iload (i := 6) 6 63 rfl (by decide +kernel) rfl ?_
      refine at_iconst (n := 0) (0 : Int32) 64 rfl (by decide +kernel) (by decide +kernel) ?_
      refine at_bipush (n := 100) (100 : Int32) 66 rfl (by decide +kernel) (by decide +kernel) ?_
      refine at_callS mb_SL_isWithin tw_471 (index := 64) tw_470 [.int (l6), .int ((0 : Int32)), .int ((100 : Int32))] [] rfl rfl (by decide) 69 rfl (by decide +kernel) (Call.toI (CI.monoE h (fun x9 m10 h y11 => ?_)))
      refine at_if_eq (off := 19) 88 72 rfl (by decide +kernel) (by decide +kernel) (fun c12 => ?_) (fun c12 => ?_)
      · rw [if_pos c12] at h
        exact h
      · rw [if_neg c12] at h
        refine at_iload (i := 7) 7 74 rfl (by decide +kernel) rfl ?_
        refine at_iconst (n := 0) (0 : Int32) 75 rfl (by decide +kernel) (by decide +kernel) ?_
        refine at_sipush (n := 200) (200 : Int32) 78 rfl (by decide +kernel) (by decide +kernel) ?_
        refine at_callS mb_SL_isWithin tw_471 (index := 64) tw_470 [.int (l7), .int ((0 : Int32)), .int ((200 : Int32))] [] rfl rfl (by decide) 81 rfl (by decide +kernel) (Call.toI (CI.monoE h (fun x13 m14 h y15 => ?_)))
        refine at_if_eq (off := 7) 88 84 rfl (by decide +kernel) (by decide +kernel) (fun c16 => ?_) (fun c16 => ?_)
        · rw [if_pos c16] at h
          exact h
        · rw [if_neg c16] at h
          refine at_iconst (n := 1) (1 : Int32) 85 rfl (by decide +kernel) (by decide +kernel) ?_
          refine at_goto (off := 4) 89 (by decide +kernel) (by decide +kernel) ?_
          exact h
set_option maxRecDepth 20000 in
set_option maxHeartbeats 4000000 in
theorem bk_SL_terms_35 (g : Gc) {lv : Nat} {t : Nat} {l1 : Int32} {l2 : Int32} {l3 : Int32} {l4 : Int32} {l5 : Int32} {l6 : Int32} {l7 : Int32} {m : Mm} {Q : Int32 → Mm → Prop} (h : At g M_SL_terms (lv + 1) 36 [(0, va_rf (some t)), (1, .int (l1)), (2, .int (l2)), (3, .int (l3)), (4, .int (l4)), (5, .int (l5)), (6, .int (l6)), (7, .int (l7))] [.int ((0 : Int32))] m (QI Q)) : At g M_SL_terms (lv + 1) 35 [(0, va_rf (some t)), (1, .int (l1)), (2, .int (l2)), (3, .int (l3)), (4, .int (l4)), (5, .int (l5)), (6, .int (l6)), (7, .int (l7))] [] m (QI Q) := by
  refine at_iconst (n := 0) (0 : Int32) 36 rfl (by decide +kernel) (by decide +kernel) ?_
  exact h
set_option maxRecDepth 20000 in
set_option maxHeartbeats 4000000 in
theorem en_SL_terms (g : Gc) {lv : Nat} {t : Nat} {l1 : Int32} {l2 : Int32} {l3 : Int32} {l4 : Int32} {l5 : Int32} {l6 : Int32} {l7 : Int32} {m : Mm} {Q : Int32 → Mm → Prop} (h : CI g M_SL_isWithin lv [.int (l1), .int ((0 : Int32)), .int ((10000000 : Int32))] m (fun x1 m2 => (if (x1) = 0 then (At g M_SL_terms (lv + 1) 35 [(0, va_rf (some t)), (1, .int (l1)), (2, .int (l2)), (3, .int (l3)), (4, .int (l4)), (5, .int (l5)), (6, .int (l6)), (7, .int (l7))] [] m2 (QI Q)) else (CI g M_SL_isWithin lv [.int (l2), .int ((0 : Int32)), .int ((1000000 : Int32))] m2 (fun x5 m6 => (if (x5) = 0 then (At g M_SL_terms (lv + 1) 35 [(0, va_rf (some t)), (1, .int (l1)), (2, .int (l2)), (3, .int (l3)), (4, .int (l4)), (5, .int (l5)), (6, .int (l6)), (7, .int (l7))] [] m6 (QI Q)) else (CI g M_SL_isWithin lv [.int (l3), .int ((0 : Int32)), .int ((1000 : Int32))] m6 (fun x9 m10 => (if (x9) = 0 then (At g M_SL_terms (lv + 1) 35 [(0, va_rf (some t)), (1, .int (l1)), (2, .int (l2)), (3, .int (l3)), (4, .int (l4)), (5, .int (l5)), (6, .int (l6)), (7, .int (l7))] [] m10 (QI Q)) else (At g M_SL_terms (lv + 1) 36 [(0, va_rf (some t)), (1, .int (l1)), (2, .int (l2)), (3, .int (l3)), (4, .int (l4)), (5, .int (l5)), (6, .int (l6)), (7, .int (l7))] [.int ((1 : Int32))] m10 (QI Q))))))))))) : CI g M_SL_terms (lv + 1) [va_rf (some t), .int (l1), .int (l2), .int (l3), .int (l4), .int (l5), .int (l6), .int (l7)] m Q := by
  refine Call.of (by decide +kernel) (Nat.le_of_ble_eq_true rfl) ?_
  show At g M_SL_terms (lv + 1) 0 [(0, va_rf (some t)), (1, .int (l1)), (2, .int (l2)), (3, .int (l3)), (4, .int (l4)), (5, .int (l5)), (6, .int (l6)), (7, .int (l7))] [] m (QI Q)
  refine at_iload_n (i := 1) 1 1 rfl (by decide +kernel) rfl ?_
  refine at_iconst (n := 0) (0 : Int32) 2 rfl (by decide +kernel) (by decide +kernel) ?_
  refine at_ldc (index := 63) (10000000 : Int32) 4 rfl (by decide +kernel) tw_469 ?_
  refine at_callS mb_SL_isWithin tw_471 (index := 64) tw_470 [.int (l1), .int ((0 : Int32)), .int ((10000000 : Int32))] [] rfl rfl (by decide) 7 rfl (by decide +kernel) (Call.toI (CI.monoE h (fun x1 m2 h y3 => ?_)))
  refine at_if_eq (off := 28) 35 10 rfl (by decide +kernel) (by decide +kernel) (fun c4 => ?_) (fun c4 => ?_)
  · rw [if_pos c4] at h
    exact h
  · rw [if_neg c4] at h
    refine at_iload_n (i := 2) 2 11 rfl (by decide +kernel) rfl ?_
    refine at_iconst (n := 0) (0 : Int32) 12 rfl (by decide +kernel) (by decide +kernel) ?_
    refine at_ldc (index := 68) (1000000 : Int32) 14 rfl (by decide +kernel) tw_473 ?_
    refine at_callS mb_SL_isWithin tw_471 (index := 64) tw_470 [.int (l2), .int ((0 : Int32)), .int ((1000000 : Int32))] [] rfl rfl (by decide) 17 rfl (by decide +kernel) (Call.toI (CI.monoE h (fun x5 m6 h y7 => ?_)))
    refine at_if_eq (off := 18) 35 20 rfl (by decide +kernel) (by decide +kernel) (fun c8 => ?_) (fun c8 => ?_)
    · rw [if_pos c8] at h
      exact h
    · rw [if_neg c8] at h
      refine at_iload_n (i := 3) 3 21 rfl (by decide +kernel) rfl ?_
      refine at_iconst (n := 0) (0 : Int32) 22 rfl (by decide +kernel) (by decide +kernel) ?_
      refine at_sipush (n := 1000) (1000 : Int32) 25 rfl (by decide +kernel) (by decide +kernel) ?_
      refine at_callS mb_SL_isWithin tw_471 (index := 64) tw_470 [.int (l3), .int ((0 : Int32)), .int ((1000 : Int32))] [] rfl rfl (by decide) 28 rfl (by decide +kernel) (Call.toI (CI.monoE h (fun x9 m10 h y11 => ?_)))
      refine at_if_eq (off := 7) 35 31 rfl (by decide +kernel) (by decide +kernel) (fun c12 => ?_) (fun c12 => ?_)
      · rw [if_pos c12] at h
        exact h
      · rw [if_neg c12] at h
        refine at_iconst (n := 1) (1 : Int32) 32 rfl (by decide +kernel) (by decide +kernel) ?_
        refine at_goto (off := 4) 36 (by decide +kernel) (by decide +kernel) ?_
        exact h
set_option maxRecDepth 20000 in
set_option maxHeartbeats 4000000 in
theorem en_SL_bank (g : Gc) {lv : Nat} {t : Nat} {l1 : Int32} {l2 : Int32} {l3 : Int32} {m : Mm} {Q : Int32 → Mm → Prop} (h : CI g M_SL_isWithin lv [.int (l1), .int ((0 : Int32)), .int ((2 : Int32))] m (fun x1 m2 => (if (x1) = 0 then (Q (-2 : Int32) m2) else (CI g M_SL_isWithin lv [.int (l2), .int ((0 : Int32)), .int ((100 : Int32))] m2 (fun x5 m6 => (if (x5) = 0 then (Q (-2 : Int32) m6) else (CI g M_SL_isWithin lv [.int (l3), .int ((0 : Int32)), .int ((100 : Int32))] m6 (fun x9 m10 => (if (x9) = 0 then (Q (-2 : Int32) m10) else (mK m10 t = 12 ∧ (∃ b14, mR m10 t 1 = some b14 ∧ (mK m10 b14 = 4 ∧ (∃ b17, mR m10 b14 2 = some b17 ∧ (mK m10 b17 = 18 ∧ (vp_in l1 (mN m10 b17) ∧ (∃ b21, mR m10 b17 l1.toNatClampNeg = some b21 ∧ (mK m10 b21 = 1 ∧ (∀ m24, m24 = sI m10 b21 0 l2 → (∃ b30, mR m24 t 1 = some b30 ∧ (mK m24 b30 = 4 ∧ (∃ b33, mR m24 b30 2 = some b33 ∧ (mK m24 b33 = 18 ∧ (vp_in l1 (mN m24 b33) ∧ (∃ b37, mR m24 b33 l1.toNatClampNeg = some b37 ∧ (mK m24 b37 = 1 ∧ (∀ m40, m40 = sI m24 b37 1 l3 → (Q (0 : Int32) m40))))))))))))))))))))))))))) : CI g M_SL_bank (lv + 1) [va_rf (some t), .int (l1), .int (l2), .int (l3)] m Q := by
  refine Call.of (by decide +kernel) (Nat.le_of_ble_eq_true rfl) ?_
  show At g M_SL_bank (lv + 1) 0 [(0, va_rf (some t)), (1, .int (l1)), (2, .int (l2)), (3, .int (l3))] [] m (QI Q)
  refine at_iload_n (i := 1) 1 1 rfl (by decide +kernel) rfl ?_
  refine at_iconst (n := 0) (0 : Int32) 2 rfl (by decide +kernel) (by decide +kernel) ?_
  refine at_iconst (n := 2) (2 : Int32) 3 rfl (by decide +kernel) (by decide +kernel) ?_
  refine at_callS mb_SL_isWithin tw_471 (index := 64) tw_470 [.int (l1), .int ((0 : Int32)), .int ((2 : Int32))] [] rfl rfl (by decide) 6 rfl (by decide +kernel) (Call.toI (CI.monoE h (fun x1 m2 h y3 => ?_)))
  refine at_if_eq (off := 23) 29 9 rfl (by decide +kernel) (by decide +kernel) (fun c4 => ?_) (fun c4 => ?_)
  · rw [if_pos c4] at h
    refine at_bipush (n := (-2)) (-2 : Int32) 31 rfl (by decide +kernel) (by decide +kernel) ?_
    exact at_iret rfl (by decide +kernel) h
  · rw [if_neg c4] at h
    refine at_iload_n (i := 2) 2 10 rfl (by decide +kernel) rfl ?_
    refine at_iconst (n := 0) (0 : Int32) 11 rfl (by decide +kernel) (by decide +kernel) ?_
    refine at_bipush (n := 100) (100 : Int32) 13 rfl (by decide +kernel) (by decide +kernel) ?_
    refine at_callS mb_SL_isWithin tw_471 (index := 64) tw_470 [.int (l2), .int ((0 : Int32)), .int ((100 : Int32))] [] rfl rfl (by decide) 16 rfl (by decide +kernel) (Call.toI (CI.monoE h (fun x5 m6 h y7 => ?_)))
    refine at_if_eq (off := 13) 29 19 rfl (by decide +kernel) (by decide +kernel) (fun c8 => ?_) (fun c8 => ?_)
    · rw [if_pos c8] at h
      refine at_bipush (n := (-2)) (-2 : Int32) 31 rfl (by decide +kernel) (by decide +kernel) ?_
      exact at_iret rfl (by decide +kernel) h
    · rw [if_neg c8] at h
      refine at_iload_n (i := 3) 3 20 rfl (by decide +kernel) rfl ?_
      refine at_iconst (n := 0) (0 : Int32) 21 rfl (by decide +kernel) (by decide +kernel) ?_
      refine at_bipush (n := 100) (100 : Int32) 23 rfl (by decide +kernel) (by decide +kernel) ?_
      refine at_callS mb_SL_isWithin tw_471 (index := 64) tw_470 [.int (l3), .int ((0 : Int32)), .int ((100 : Int32))] [] rfl rfl (by decide) 26 rfl (by decide +kernel) (Call.toI (CI.monoE h (fun x9 m10 h y11 => ?_)))
      refine at_if_ne (off := 6) 32 29 rfl (by decide +kernel) (by decide +kernel) (fun c12 => ?_) (fun c12 => ?_)
      · rw [if_neg c12] at h
        refine at_aload_n (i := 0) 0 33 rfl (by decide +kernel) rfl ?_
        obtain ⟨k13, h⟩ := h
        refine at_get (index := 21) (v := va_rf (mR m10 t 1)) cok11 1 36 rfl (by decide +kernel) k13 (by decide +kernel) tw_441 rfl ?_
        obtain ⟨b14, e15, h⟩ := h
        rw [e15]
        obtain ⟨k16, h⟩ := h
        refine at_get (index := 91) (v := va_rf (mR m10 b14 2)) cok3 2 39 rfl (by decide +kernel) k16 (by decide +kernel) tw_289 rfl ?_
        refine at_iload_n (i := 1) 1 40 rfl (by decide +kernel) rfl ?_
        obtain ⟨b17, e18, h⟩ := h
        rw [e18]
        obtain ⟨k19, h⟩ := h
        obtain ⟨v20, h⟩ := h
        refine at_aaldBank 41 rfl (by decide +kernel) k19 v20 ?_
        refine at_iload_n (i := 2) 2 42 rfl (by decide +kernel) rfl ?_
        obtain ⟨b21, e22, h⟩ := h
        rw [e22]
        obtain ⟨k23, h⟩ := h
        refine at_putI (index := 95) cok0 0 45 rfl (by decide +kernel) k23 (by decide +kernel) tw_272 rfl rfl rfl (fun m24 e25 => ?_)
        replace h := h m24 e25
        have k26 : mK m24 t = 12 := by rw [e25]; exact k13
        have k27 : mK m24 b14 = 4 := by rw [e25]; exact k16
        have k28 : mK m24 b17 = 18 := by rw [e25]; exact k19
        have k29 : mK m24 b21 = 1 := by rw [e25]; exact k23
        refine at_aload_n (i := 0) 0 46 rfl (by decide +kernel) rfl ?_
        refine at_get (index := 21) (v := va_rf (mR m24 t 1)) cok11 1 49 rfl (by decide +kernel) k26 (by decide +kernel) tw_441 rfl ?_
        obtain ⟨b30, e31, h⟩ := h
        rw [e31]
        obtain ⟨k32, h⟩ := h
        refine at_get (index := 91) (v := va_rf (mR m24 b30 2)) cok3 2 52 rfl (by decide +kernel) k32 (by decide +kernel) tw_289 rfl ?_
        refine at_iload_n (i := 1) 1 53 rfl (by decide +kernel) rfl ?_
        obtain ⟨b33, e34, h⟩ := h
        rw [e34]
        obtain ⟨k35, h⟩ := h
        obtain ⟨v36, h⟩ := h
        refine at_aaldBank 54 rfl (by decide +kernel) k35 v36 ?_
        refine at_iload_n (i := 3) 3 55 rfl (by decide +kernel) rfl ?_
        obtain ⟨b37, e38, h⟩ := h
        rw [e38]
        obtain ⟨k39, h⟩ := h
        refine at_putI (index := 100) cok0 1 58 rfl (by decide +kernel) k39 (by decide +kernel) tw_275 rfl rfl rfl (fun m40 e41 => ?_)
        replace h := h m40 e41
        have k42 : mK m40 t = 12 := by rw [e41]; exact k26
        have k43 : mK m40 b14 = 4 := by rw [e41]; exact k27
        have k44 : mK m40 b17 = 18 := by rw [e41]; exact k28
        have k45 : mK m40 b21 = 1 := by rw [e41]; exact k29
        have k46 : mK m40 b30 = 4 := by rw [e41]; exact k32
        have k47 : mK m40 b33 = 18 := by rw [e41]; exact k35
        have k48 : mK m40 b37 = 1 := by rw [e41]; exact k39
        refine at_iconst (n := 0) (0 : Int32) 59 rfl (by decide +kernel) (by decide +kernel) ?_
        exact at_iret rfl (by decide +kernel) h
      · rw [if_pos c12] at h
        refine at_bipush (n := (-2)) (-2 : Int32) 31 rfl (by decide +kernel) (by decide +kernel) ?_
        exact at_iret rfl (by decide +kernel) h
set_option maxRecDepth 20000 in
set_option maxHeartbeats 4000000 in
theorem en_SL_grower (g : Gc) {lv : Nat} {t : Nat} {l1 : Int32} {l2 : Int32} {m : Mm} {Q : Int32 → Mm → Prop} (h : CI g M_SL_isWithin lv [.int (l1), .int ((0 : Int32)), .int ((7 : Int32))] m (fun x1 m2 => (if (x1) = 0 then (Q (-2 : Int32) m2) else (CI g M_SL_isWithin lv [.int (l2), .int ((0 : Int32)), .int ((1000 : Int32))] m2 (fun x5 m6 => (if (x5) = 0 then (Q (-2 : Int32) m6) else (mK m6 t = 12 ∧ (∃ b10, mR m6 t 1 = some b10 ∧ (mK m6 b10 = 4 ∧ (if (mI m6 b10 8) < ((12 : Int32)) then (if (mI m6 b10 9) ≤ 0 then (CI g M_Land_settle lv [va_rf (some b10), .int (l1), .int (l2)] m6 (fun x15 m16 => (Q x15 m16))) else (Q (-9 : Int32) m6)) else (Q (-3 : Int32) m6))))))))))) : CI g M_SL_grower (lv + 1) [va_rf (some t), .int (l1), .int (l2)] m Q := by
  refine Call.of (by decide +kernel) (Nat.le_of_ble_eq_true rfl) ?_
  show At g M_SL_grower (lv + 1) 0 [(0, va_rf (some t)), (1, .int (l1)), (2, .int (l2))] [] m (QI Q)
  refine at_iload_n (i := 1) 1 1 rfl (by decide +kernel) rfl ?_
  refine at_iconst (n := 0) (0 : Int32) 2 rfl (by decide +kernel) (by decide +kernel) ?_
  refine at_bipush (n := 7) (7 : Int32) 4 rfl (by decide +kernel) (by decide +kernel) ?_
  refine at_callS mb_SL_isWithin tw_471 (index := 64) tw_470 [.int (l1), .int ((0 : Int32)), .int ((7 : Int32))] [] rfl rfl (by decide) 7 rfl (by decide +kernel) (Call.toI (CI.monoE h (fun x1 m2 h y3 => ?_)))
  refine at_if_eq (off := 14) 21 10 rfl (by decide +kernel) (by decide +kernel) (fun c4 => ?_) (fun c4 => ?_)
  · rw [if_pos c4] at h
    refine at_bipush (n := (-2)) (-2 : Int32) 23 rfl (by decide +kernel) (by decide +kernel) ?_
    exact at_iret rfl (by decide +kernel) h
  · rw [if_neg c4] at h
    refine at_iload_n (i := 2) 2 11 rfl (by decide +kernel) rfl ?_
    refine at_iconst (n := 0) (0 : Int32) 12 rfl (by decide +kernel) (by decide +kernel) ?_
    refine at_sipush (n := 1000) (1000 : Int32) 15 rfl (by decide +kernel) (by decide +kernel) ?_
    refine at_callS mb_SL_isWithin tw_471 (index := 64) tw_470 [.int (l2), .int ((0 : Int32)), .int ((1000 : Int32))] [] rfl rfl (by decide) 18 rfl (by decide +kernel) (Call.toI (CI.monoE h (fun x5 m6 h y7 => ?_)))
    refine at_if_ne (off := 6) 24 21 rfl (by decide +kernel) (by decide +kernel) (fun c8 => ?_) (fun c8 => ?_)
    · rw [if_neg c8] at h
      refine at_aload_n (i := 0) 0 25 rfl (by decide +kernel) rfl ?_
      obtain ⟨k9, h⟩ := h
      refine at_get (index := 21) (v := va_rf (mR m6 t 1)) cok11 1 28 rfl (by decide +kernel) k9 (by decide +kernel) tw_441 rfl ?_
      obtain ⟨b10, e11, h⟩ := h
      rw [e11]
      obtain ⟨k12, h⟩ := h
      refine at_get (index := 103) (v := .int (mI m6 b10 8)) cok3 8 31 rfl (by decide +kernel) k12 (by decide +kernel) tw_298 rfl ?_
      refine at_bipush (n := 12) (12 : Int32) 33 rfl (by decide +kernel) (by decide +kernel) ?_
      refine at_icmp_lt (off := 6) 39 36 rfl (by decide +kernel) (by decide +kernel) (fun c13 => ?_) (fun c13 => ?_)
      · rw [if_pos c13] at h
        refine at_aload_n (i := 0) 0 40 rfl (by decide +kernel) rfl ?_
        refine at_get (index := 21) (v := va_rf (mR m6 t 1)) cok11 1 43 rfl (by decide +kernel) k9 (by decide +kernel) tw_441 rfl ?_
        rw [e11]
        refine at_get (index := 106) (v := .int (mI m6 b10 9)) cok3 9 46 rfl (by decide +kernel) k12 (by decide +kernel) tw_300 rfl ?_
        refine at_if_le (off := 6) 52 49 rfl (by decide +kernel) (by decide +kernel) (fun c14 => ?_) (fun c14 => ?_)
        · rw [if_pos c14] at h
          refine at_aload_n (i := 0) 0 53 rfl (by decide +kernel) rfl ?_
          refine at_get (index := 21) (v := va_rf (mR m6 t 1)) cok11 1 56 rfl (by decide +kernel) k9 (by decide +kernel) tw_441 rfl ?_
          rw [e11]
          refine at_iload_n (i := 1) 1 57 rfl (by decide +kernel) rfl ?_
          refine at_iload_n (i := 2) 2 58 rfl (by decide +kernel) rfl ?_
          refine at_callV mb_Land_settle tw_483 tw_484 cok3 k12 (index := 109) tw_482 [.int (l1), .int (l2)] [] rfl rfl (by decide) 61 rfl (by decide +kernel) (Call.toI (CI.monoE h (fun x15 m16 h y17 => ?_)))
          have k18 : mK m16 t = 12 := y17.k k9 (by decide)
          have k19 : mK m16 b10 = 4 := y17.k k12 (by decide)
          exact at_iret rfl (by decide +kernel) h
        · rw [if_neg c14] at h
          refine at_bipush (n := (-9)) (-9 : Int32) 51 rfl (by decide +kernel) (by decide +kernel) ?_
          exact at_iret rfl (by decide +kernel) h
      · rw [if_neg c13] at h
        refine at_bipush (n := (-3)) (-3 : Int32) 38 rfl (by decide +kernel) (by decide +kernel) ?_
        exact at_iret rfl (by decide +kernel) h
    · rw [if_pos c8] at h
      refine at_bipush (n := (-2)) (-2 : Int32) 23 rfl (by decide +kernel) (by decide +kernel) ?_
      exact at_iret rfl (by decide +kernel) h
set_option maxRecDepth 20000 in
set_option maxHeartbeats 4000000 in
theorem en_SL_feed (g : Gc) {lv : Nat} {t : Nat} {l1 : Int32} {l2 : Int32} {l3 : Int32} {l4 : Int32} {l5 : Int32} {m : Mm} {Q : Int32 → Mm → Prop} (h : mK m t = 12 ∧ (∃ b2, mR m t 3 = some b2 ∧ (mK m b2 = 10 ∧ (if ((mI m b2 4) + (20 : Int32)) ≤ ((300 : Int32)) then (CV g M_Tape_append lv [va_rf (some b2), .int (l1)] m (fun m6 => (∃ b10, mR m6 t 3 = some b10 ∧ (mK m6 b10 = 10 ∧ (CV g M_Tape_append lv [va_rf (some b10), .int (l2)] m6 (fun m13 => (∃ b18, mR m13 t 3 = some b18 ∧ (mK m13 b18 = 10 ∧ (CV g M_Tape_append lv [va_rf (some b18), .int (l3)] m13 (fun m21 => (∃ b27, mR m21 t 3 = some b27 ∧ (mK m21 b27 = 10 ∧ (CV g M_Tape_append lv [va_rf (some b27), .int (l4)] m21 (fun m30 => (∃ b37, mR m30 t 3 = some b37 ∧ (mK m30 b37 = 10 ∧ (CV g M_Tape_append lv [va_rf (some b37), .int (l5)] m30 (fun m40 => (∃ b48, mR m40 t 3 = some b48 ∧ (mK m40 b48 = 10 ∧ (Q (mI m40 b48 4) m40))))))))))))))))))))) else (Q (-1 : Int32) m))))) : CI g M_SL_feed (lv + 1) [va_rf (some t), .int (l1), .int (l2), .int (l3), .int (l4), .int (l5)] m Q := by
  refine Call.of (by decide +kernel) (Nat.le_of_ble_eq_true rfl) ?_
  show At g M_SL_feed (lv + 1) 0 [(0, va_rf (some t)), (1, .int (l1)), (2, .int (l2)), (3, .int (l3)), (4, .int (l4)), (5, .int (l5))] [] m (QI Q)
  refine at_aload_n (i := 0) 0 1 rfl (by decide +kernel) rfl ?_
  obtain ⟨k1, h⟩ := h
  refine at_get (index := 31) (v := va_rf (mR m t 3)) cok11 3 4 rfl (by decide +kernel) k1 (by decide +kernel) tw_443 rfl ?_
  obtain ⟨b2, e3, h⟩ := h
  rw [e3]
  obtain ⟨k4, h⟩ := h
  refine at_get (index := 113) (v := .int (mI m b2 4)) cok9 4 7 rfl (by decide +kernel) k4 (by decide +kernel) tw_349 rfl ?_
  refine at_bipush (n := 20) (20 : Int32) 9 rfl (by decide +kernel) (by decide +kernel) ?_
  refine at_iadd 10 rfl (by decide +kernel) ?_
  refine at_sipush (n := 300) (300 : Int32) 13 rfl (by decide +kernel) (by decide +kernel) ?_
  refine at_icmp_le (off := 5) 18 16 rfl (by decide +kernel) (by decide +kernel) (fun c5 => ?_) (fun c5 => ?_)
  · rw [if_pos c5] at h
    refine at_aload_n (i := 0) 0 19 rfl (by decide +kernel) rfl ?_
    refine at_get (index := 31) (v := va_rf (mR m t 3)) cok11 3 22 rfl (by decide +kernel) k1 (by decide +kernel) tw_443 rfl ?_
    rw [e3]
    refine at_iload_n (i := 1) 1 23 rfl (by decide +kernel) rfl ?_
    refine at_callV mb_Tape_append tw_496 tw_497 cok9 k4 (index := 116) tw_495 [.int (l1)] [] rfl rfl (by decide) 26 rfl (by decide +kernel) (Call.toV (CV.monoE h (fun m6 h y7 => ?_)))
    have k8 : mK m6 t = 12 := y7.k k1 (by decide)
    have k9 : mK m6 b2 = 10 := y7.k k4 (by decide)
    refine at_aload_n (i := 0) 0 27 rfl (by decide +kernel) rfl ?_
    refine at_get (index := 31) (v := va_rf (mR m6 t 3)) cok11 3 30 rfl (by decide +kernel) k8 (by decide +kernel) tw_443 rfl ?_
    refine at_iload_n (i := 2) 2 31 rfl (by decide +kernel) rfl ?_
    obtain ⟨b10, e11, h⟩ := h
    rw [e11]
    obtain ⟨k12, h⟩ := h
    refine at_callV mb_Tape_append tw_496 tw_497 cok9 k12 (index := 116) tw_495 [.int (l2)] [] rfl rfl (by decide) 34 rfl (by decide +kernel) (Call.toV (CV.monoE h (fun m13 h y14 => ?_)))
    have k15 : mK m13 t = 12 := y14.k k8 (by decide)
    have k16 : mK m13 b2 = 10 := y14.k k9 (by decide)
    have k17 : mK m13 b10 = 10 := y14.k k12 (by decide)
    refine at_aload_n (i := 0) 0 35 rfl (by decide +kernel) rfl ?_
    refine at_get (index := 31) (v := va_rf (mR m13 t 3)) cok11 3 38 rfl (by decide +kernel) k15 (by decide +kernel) tw_443 rfl ?_
    refine at_iload_n (i := 3) 3 39 rfl (by decide +kernel) rfl ?_
    obtain ⟨b18, e19, h⟩ := h
    rw [e19]
    obtain ⟨k20, h⟩ := h
    refine at_callV mb_Tape_append tw_496 tw_497 cok9 k20 (index := 116) tw_495 [.int (l3)] [] rfl rfl (by decide) 42 rfl (by decide +kernel) (Call.toV (CV.monoE h (fun m21 h y22 => ?_)))
    have k23 : mK m21 t = 12 := y22.k k15 (by decide)
    have k24 : mK m21 b2 = 10 := y22.k k16 (by decide)
    have k25 : mK m21 b10 = 10 := y22.k k17 (by decide)
    have k26 : mK m21 b18 = 10 := y22.k k20 (by decide)
    refine at_aload_n (i := 0) 0 43 rfl (by decide +kernel) rfl ?_
    refine at_get (index := 31) (v := va_rf (mR m21 t 3)) cok11 3 46 rfl (by decide +kernel) k23 (by decide +kernel) tw_443 rfl ?_
    refine at_iload (i := 4) 4 48 rfl (by decide +kernel) rfl ?_
    obtain ⟨b27, e28, h⟩ := h
    rw [e28]
    obtain ⟨k29, h⟩ := h
    refine at_callV mb_Tape_append tw_496 tw_497 cok9 k29 (index := 116) tw_495 [.int (l4)] [] rfl rfl (by decide) 51 rfl (by decide +kernel) (Call.toV (CV.monoE h (fun m30 h y31 => ?_)))
    have k32 : mK m30 t = 12 := y31.k k23 (by decide)
    have k33 : mK m30 b2 = 10 := y31.k k24 (by decide)
    have k34 : mK m30 b10 = 10 := y31.k k25 (by decide)
    have k35 : mK m30 b18 = 10 := y31.k k26 (by decide)
    have k36 : mK m30 b27 = 10 := y31.k k29 (by decide)
    refine at_aload_n (i := 0) 0 52 rfl (by decide +kernel) rfl ?_
    refine at_get (index := 31) (v := va_rf (mR m30 t 3)) cok11 3 55 rfl (by decide +kernel) k32 (by decide +kernel) tw_443 rfl ?_
    refine at_iload (i := 5) 5 57 rfl (by decide +kernel) rfl ?_
    obtain ⟨b37, e38, h⟩ := h
    rw [e38]
    obtain ⟨k39, h⟩ := h
    refine at_callV mb_Tape_append tw_496 tw_497 cok9 k39 (index := 116) tw_495 [.int (l5)] [] rfl rfl (by decide) 60 rfl (by decide +kernel) (Call.toV (CV.monoE h (fun m40 h y41 => ?_)))
    have k42 : mK m40 t = 12 := y41.k k32 (by decide)
    have k43 : mK m40 b2 = 10 := y41.k k33 (by decide)
    have k44 : mK m40 b10 = 10 := y41.k k34 (by decide)
    have k45 : mK m40 b18 = 10 := y41.k k35 (by decide)
    have k46 : mK m40 b27 = 10 := y41.k k36 (by decide)
    have k47 : mK m40 b37 = 10 := y41.k k39 (by decide)
    refine at_aload_n (i := 0) 0 61 rfl (by decide +kernel) rfl ?_
    refine at_get (index := 31) (v := va_rf (mR m40 t 3)) cok11 3 64 rfl (by decide +kernel) k42 (by decide +kernel) tw_443 rfl ?_
    obtain ⟨b48, e49, h⟩ := h
    rw [e49]
    obtain ⟨k50, h⟩ := h
    refine at_get (index := 113) (v := .int (mI m40 b48 4)) cok9 4 67 rfl (by decide +kernel) k50 (by decide +kernel) tw_349 rfl ?_
    exact at_iret rfl (by decide +kernel) h
  · rw [if_neg c5] at h
    refine at_iconst (n := (-1)) (-1 : Int32) 17 rfl (by decide +kernel) (by decide +kernel) ?_
    exact at_iret rfl (by decide +kernel) h
set_option maxRecDepth 20000 in
set_option maxHeartbeats 4000000 in
theorem en_SL_end (g : Gc) {lv : Nat} {t : Nat} {l1 : Int32} {m : Mm} {Q : Int32 → Mm → Prop} (h : mK m t = 12 ∧ (∃ b2, mR m t 3 = some b2 ∧ (mK m b2 = 10 ∧ (CI g M_SL_isWithin lv [.int (l1), .int ((0 : Int32)), .int (mI m b2 4)] m (fun x5 m6 => (if (x5) = 0 then (Q (-1 : Int32) m6) else (∃ b11, mR m6 t 3 = some b11 ∧ (mK m6 b11 = 10 ∧ (∀ m14, m14 = sI m6 b11 4 l1 → (Q l1 m14)))))))))) : CI g M_SL_end (lv + 1) [va_rf (some t), .int (l1)] m Q := by
  refine Call.of (by decide +kernel) (Nat.le_of_ble_eq_true rfl) ?_
  show At g M_SL_end (lv + 1) 0 [(0, va_rf (some t)), (1, .int (l1))] [] m (QI Q)
  refine at_iload_n (i := 1) 1 1 rfl (by decide +kernel) rfl ?_
  refine at_iconst (n := 0) (0 : Int32) 2 rfl (by decide +kernel) (by decide +kernel) ?_
  refine at_aload_n (i := 0) 0 3 rfl (by decide +kernel) rfl ?_
  obtain ⟨k1, h⟩ := h
  refine at_get (index := 31) (v := va_rf (mR m t 3)) cok11 3 6 rfl (by decide +kernel) k1 (by decide +kernel) tw_443 rfl ?_
  obtain ⟨b2, e3, h⟩ := h
  rw [e3]
  obtain ⟨k4, h⟩ := h
  refine at_get (index := 113) (v := .int (mI m b2 4)) cok9 4 9 rfl (by decide +kernel) k4 (by decide +kernel) tw_349 rfl ?_
  refine at_callS mb_SL_isWithin tw_471 (index := 64) tw_470 [.int (l1), .int ((0 : Int32)), .int (mI m b2 4)] [] rfl rfl (by decide) 12 rfl (by decide +kernel) (Call.toI (CI.monoE h (fun x5 m6 h y7 => ?_)))
  have k8 : mK m6 t = 12 := y7.k k1 (by decide)
  have k9 : mK m6 b2 = 10 := y7.k k4 (by decide)
  refine at_if_ne (off := 5) 17 15 rfl (by decide +kernel) (by decide +kernel) (fun c10 => ?_) (fun c10 => ?_)
  · rw [if_neg c10] at h
    refine at_aload_n (i := 0) 0 18 rfl (by decide +kernel) rfl ?_
    refine at_get (index := 31) (v := va_rf (mR m6 t 3)) cok11 3 21 rfl (by decide +kernel) k8 (by decide +kernel) tw_443 rfl ?_
    refine at_iload_n (i := 1) 1 22 rfl (by decide +kernel) rfl ?_
    obtain ⟨b11, e12, h⟩ := h
    rw [e12]
    obtain ⟨k13, h⟩ := h
    refine at_putI (index := 113) cok9 4 25 rfl (by decide +kernel) k13 (by decide +kernel) tw_349 rfl rfl rfl (fun m14 e15 => ?_)
    replace h := h m14 e15
    have k16 : mK m14 t = 12 := by rw [e15]; exact k8
    have k17 : mK m14 b2 = 10 := by rw [e15]; exact k9
    have k18 : mK m14 b11 = 10 := by rw [e15]; exact k13
    refine at_iload_n (i := 1) 1 26 rfl (by decide +kernel) rfl ?_
    exact at_iret rfl (by decide +kernel) h
  · rw [if_pos c10] at h
    refine at_iconst (n := (-1)) (-1 : Int32) 16 rfl (by decide +kernel) (by decide +kernel) ?_
    exact at_iret rfl (by decide +kernel) h
set_option maxRecDepth 20000 in
set_option maxHeartbeats 4000000 in
theorem bk_SL_law_57 (g : Gc) {lv : Nat} {t : Nat} {l2 : Int32} {l3 : Option Nat} {l4 : Int32} {m : Mm} {Q : Int32 → Mm → Prop} (h : if (l2) < (l4) then (∃ b2, l3 = some b2 ∧ (mK m b2 = 5 ∧ (Q (mI m b2 5) m))) else (mK m t = 12 ∧ (∃ b6, mR m t 5 = some b6 ∧ (mK m b6 = 20 ∧ (if (nI (mN m b6)) ≤ (l4) then (∃ b10, l3 = some b10 ∧ (mK m b10 = 5 ∧ (Q (mI m b10 5) m))) else (∃ b13, l3 = some b13 ∧ (mK m b13 = 5 ∧ (vp_in l4 (mN m b6) ∧ (∀ m17, m17 = sR m b6 l4.toNatClampNeg (some b13) → (At g M_SL_law (lv + 1) 57 [(0, va_rf (some t)), (2, .int (l2)), (3, va_rf (some b13)), (4, .int (l4 + (1 : Int32)))] [] m17 (QI Q))))))))))) : At g M_SL_law (lv + 1) 57 [(0, va_rf (some t)), (2, .int (l2)), (3, va_rf (l3)), (4, .int (l4))] [] m (QI Q) := by
  refine at_iload (i := 4) 3 59 rfl (by decide +kernel) rfl ?_
  refine at_iload_n (i := 2) 1 60 rfl (by decide +kernel) rfl ?_
  refine at_icmp_gt (off := 27) 87 63 rfl (by decide +kernel) (by decide +kernel) (fun c1 => ?_) (fun c1 => ?_)
  · rw [if_pos c1] at h
    refine at_aload_n (i := 3) 2 88 rfl (by decide +kernel) rfl ?_
    obtain ⟨b2, e3, h⟩ := h
    rw [e3]
    obtain ⟨k4, h⟩ := h
    refine at_get (index := 133) (v := .int (mI m b2 5)) cok4 5 91 rfl (by decide +kernel) k4 (by decide +kernel) tw_397 rfl ?_
    exact at_iret rfl (by decide +kernel) h
  · rw [if_neg c1] at h
    refine at_iload (i := 4) 3 65 rfl (by decide +kernel) rfl ?_
    refine at_aload_n (i := 0) 0 66 rfl (by decide +kernel) rfl ?_
    obtain ⟨k5, h⟩ := h
    refine at_get (index := 44) (v := va_rf (mR m t 5)) cok11 5 69 rfl (by decide +kernel) k5 (by decide +kernel) tw_445 rfl ?_
    obtain ⟨b6, e7, h⟩ := h
    rw [e7]
    obtain ⟨k8, h⟩ := h
    refine at_alen 70 rfl (by decide +kernel) k8 (by decide) ?_
    refine at_icmp_ge (off := 17) 87 73 rfl (by decide +kernel) (by decide +kernel) (fun c9 => ?_) (fun c9 => ?_)
    · rw [if_pos c9] at h
      refine at_aload_n (i := 3) 2 88 rfl (by decide +kernel) rfl ?_
      obtain ⟨b10, e11, h⟩ := h
      rw [e11]
      obtain ⟨k12, h⟩ := h
      refine at_get (index := 133) (v := .int (mI m b10 5)) cok4 5 91 rfl (by decide +kernel) k12 (by decide +kernel) tw_397 rfl ?_
      exact at_iret rfl (by decide +kernel) h
    · rw [if_neg c9] at h
      refine at_aload_n (i := 0) 0 74 rfl (by decide +kernel) rfl ?_
      refine at_get (index := 44) (v := va_rf (mR m t 5)) cok11 5 77 rfl (by decide +kernel) k5 (by decide +kernel) tw_445 rfl ?_
      rw [e7]
      refine at_iload (i := 4) 3 79 rfl (by decide +kernel) rfl ?_
      refine at_aload_n (i := 3) 2 80 rfl (by decide +kernel) rfl ?_
      obtain ⟨b13, e14, h⟩ := h
      rw [e14]
      obtain ⟨k15, h⟩ := h
      obtain ⟨v16, h⟩ := h
      refine at_aastLaw 81 rfl (by decide +kernel) k8 v16 k15 (fun m17 e18 => ?_)
      replace h := h m17 e18
      have k19 : mK m17 t = 12 := by rw [e18]; exact k5
      have k20 : mK m17 b6 = 20 := by rw [e18]; exact k8
      have k21 : mK m17 b13 = 5 := by rw [e18]; exact k15
      refine at_iinc (i := 4) (n := 1) (lc' := [(0, va_rf (some t)), (2, .int (l2)), (3, va_rf (some b13)), (4, .int (l4 + (1 : Int32)))]) (l4 + (1 : Int32)) 3 [1, 2, 3, 0] 84 rfl (by decide +kernel) rfl (by rw [show Int32.ofInt 1 = (1 : Int32) from by decide +kernel]) (by decide +kernel) rfl ?_
      refine at_goto (off := (-27)) 57 (by decide +kernel) (by decide +kernel) ?_
      exact h
set_option maxRecDepth 20000 in
set_option maxHeartbeats 4000000 in
theorem en_SL_law (g : Gc) {lv : Nat} {t : Nat} {l1 : Int32} {l2 : Int32} {m : Mm} {Q : Int32 → Mm → Prop} (h : mK m t = 12 ∧ (∃ b2, mR m t 1 = some b2 ∧ (mK m b2 = 4 ∧ (if (l1) < (mI m b2 9) then (Q (-2 : Int32) m) else (if (l2) < (l1) then (Q (-2 : Int32) m) else (if (l2) < ((30 : Int32)) then (∃ b8, mR m t 3 = some b8 ∧ (mK m b8 = 10 ∧ (CI g M_Tape_readLaw lv [va_rf (some b8), va_rf (mR m t 4)] m (fun x11 m12 => (if (x11) = 0 then (Q (-4 : Int32) m12) else (∃ b18, mR m12 t 4 = some b18 ∧ (mK m12 b18 = 5 ∧ (CR g M_Law_copy lv [va_rf (some b18)] m12 (fun x21 m22 => (At g M_SL_law (lv + 1) 57 [(0, va_rf (some t)), (2, .int (l2)), (3, va_rf (x21)), (4, .int (imx l1 (0 : Int32)))] [] m22 (QI Q))))))))))) else (Q (-2 : Int32) m))))))) : CI g M_SL_law (lv + 1) [va_rf (some t), .int (l1), .int (l2)] m Q := by
  refine Call.of (by decide +kernel) (Nat.le_of_ble_eq_true rfl) ?_
  show At g M_SL_law (lv + 1) 0 [(0, va_rf (some t)), (1, .int (l1)), (2, .int (l2))] [] m (QI Q)
  refine at_iload_n (i := 1) 1 1 rfl (by decide +kernel) rfl ?_
  refine at_aload_n (i := 0) 0 2 rfl (by decide +kernel) rfl ?_
  obtain ⟨k1, h⟩ := h
  refine at_get (index := 21) (v := va_rf (mR m t 1)) cok11 1 5 rfl (by decide +kernel) k1 (by decide +kernel) tw_441 rfl ?_
  obtain ⟨b2, e3, h⟩ := h
  rw [e3]
  obtain ⟨k4, h⟩ := h
  refine at_get (index := 106) (v := .int (mI m b2 9)) cok3 9 8 rfl (by decide +kernel) k4 (by decide +kernel) tw_300 rfl ?_
  refine at_icmp_lt (off := 14) 22 11 rfl (by decide +kernel) (by decide +kernel) (fun c5 => ?_) (fun c5 => ?_)
  · rw [if_pos c5] at h
    refine at_bipush (n := (-2)) (-2 : Int32) 24 rfl (by decide +kernel) (by decide +kernel) ?_
    exact at_iret rfl (by decide +kernel) h
  · rw [if_neg c5] at h
    refine at_iload_n (i := 2) 2 12 rfl (by decide +kernel) rfl ?_
    refine at_iload_n (i := 1) 1 13 rfl (by decide +kernel) rfl ?_
    refine at_icmp_lt (off := 9) 22 16 rfl (by decide +kernel) (by decide +kernel) (fun c6 => ?_) (fun c6 => ?_)
    · rw [if_pos c6] at h
      refine at_bipush (n := (-2)) (-2 : Int32) 24 rfl (by decide +kernel) (by decide +kernel) ?_
      exact at_iret rfl (by decide +kernel) h
    · rw [if_neg c6] at h
      refine at_iload_n (i := 2) 2 17 rfl (by decide +kernel) rfl ?_
      refine at_bipush (n := 30) (30 : Int32) 19 rfl (by decide +kernel) (by decide +kernel) ?_
      refine at_icmp_lt (off := 6) 25 22 rfl (by decide +kernel) (by decide +kernel) (fun c7 => ?_) (fun c7 => ?_)
      · rw [if_pos c7] at h
        refine at_aload_n (i := 0) 0 26 rfl (by decide +kernel) rfl ?_
        refine at_get (index := 31) (v := va_rf (mR m t 3)) cok11 3 29 rfl (by decide +kernel) k1 (by decide +kernel) tw_443 rfl ?_
        refine at_aload_n (i := 0) 0 30 rfl (by decide +kernel) rfl ?_
        refine at_get (index := 40) (v := va_rf (mR m t 4)) cok11 4 33 rfl (by decide +kernel) k1 (by decide +kernel) tw_444 rfl ?_
        obtain ⟨b8, e9, h⟩ := h
        rw [e9]
        obtain ⟨k10, h⟩ := h
        refine at_callV mb_Tape_readLaw tw_508 tw_509 cok9 k10 (index := 120) tw_507 [va_rf (mR m t 4)] [] rfl rfl (by decide) 36 rfl (by decide +kernel) (Call.toI (CI.monoE h (fun x11 m12 h y13 => ?_)))
        have k14 : mK m12 t = 12 := y13.k k1 (by decide)
        have k15 : mK m12 b2 = 4 := y13.k k4 (by decide)
        have k16 : mK m12 b8 = 10 := y13.k k10 (by decide)
        refine at_if_ne (off := 6) 42 39 rfl (by decide +kernel) (by decide +kernel) (fun c17 => ?_) (fun c17 => ?_)
        · rw [if_neg c17] at h
          refine at_aload_n (i := 0) 0 43 rfl (by decide +kernel) rfl ?_
          refine at_get (index := 40) (v := va_rf (mR m12 t 4)) cok11 4 46 rfl (by decide +kernel) k14 (by decide +kernel) tw_444 rfl ?_
          obtain ⟨b18, e19, h⟩ := h
          rw [e19]
          obtain ⟨k20, h⟩ := h
          refine at_callV mb_Law_copy tw_648 tw_649 cok4 k20 (index := 124) tw_647 [] [] rfl rfl (by decide) 49 rfl (by decide +kernel) (Call.toR (CR.monoE h (fun x21 m22 h y23 => ?_)))
          have k24 : mK m22 t = 12 := y23.k k14 (by decide)
          have k25 : mK m22 b2 = 4 := y23.k k15 (by decide)
          have k26 : mK m22 b8 = 10 := y23.k k16 (by decide)
          have k27 : mK m22 b18 = 5 := y23.k k20 (by decide)
          refine at_astore_n (i := 3) (lc' := [(0, va_rf (some t)), (1, .int (l1)), (2, .int (l2)), (3, va_rf (x21))]) [1, 2, 3, 0] 50 rfl (by decide +kernel) (by decide +kernel) rfl ?_
          refine at_iload_n (i := 1) 1 51 rfl (by decide +kernel) rfl ?_
          refine at_iconst (n := 0) (0 : Int32) 52 rfl (by decide +kernel) (by decide +kernel) ?_
          refine at_imx (index := 128) 55 rfl (by decide +kernel) tw_656 (by decide) ?_
          refine at_istore (i := 4) (lc' := [(0, va_rf (some t)), (2, .int (l2)), (3, va_rf (x21)), (4, .int (imx l1 (0 : Int32)))]) [1, 3, 4, 0] 57 rfl (by decide +kernel) (by decide +kernel) (by generalize x21 = rr; cases rr <;> rfl) ?_
          exact h
        · rw [if_pos c17] at h
          refine at_bipush (n := (-4)) (-4 : Int32) 41 rfl (by decide +kernel) (by decide +kernel) ?_
          exact at_iret rfl (by decide +kernel) h
      · rw [if_neg c7] at h
        refine at_bipush (n := (-2)) (-2 : Int32) 24 rfl (by decide +kernel) (by decide +kernel) ?_
        exact at_iret rfl (by decide +kernel) h
set_option maxRecDepth 20000 in
set_option maxHeartbeats 4000000 in
theorem en_SL_fault (g : Gc) {lv : Nat} {t : Nat} {m : Mm} {Q : Int32 → Mm → Prop} (h : mK m t = 12 ∧ (∃ b2, mR m t 3 = some b2 ∧ (mK m b2 = 10 ∧ (Q (mI m b2 5) m)))) : CI g M_SL_fault (lv + 1) [va_rf (some t)] m Q := by
  refine Call.of (by decide +kernel) (Nat.le_of_ble_eq_true rfl) ?_
  show At g M_SL_fault (lv + 1) 0 [(0, va_rf (some t))] [] m (QI Q)
  refine at_aload_n (i := 0) 0 1 rfl (by decide +kernel) rfl ?_
  obtain ⟨k1, h⟩ := h
  refine at_get (index := 31) (v := va_rf (mR m t 3)) cok11 3 4 rfl (by decide +kernel) k1 (by decide +kernel) tw_443 rfl ?_
  obtain ⟨b2, e3, h⟩ := h
  rw [e3]
  obtain ⟨k4, h⟩ := h
  refine at_get (index := 136) (v := .int (mI m b2 5)) cok9 5 7 rfl (by decide +kernel) k4 (by decide +kernel) tw_351 rfl ?_
  exact at_iret rfl (by decide +kernel) h
set_option maxRecDepth 20000 in
set_option maxHeartbeats 4000000 in
theorem en_SL_crop (g : Gc) {lv : Nat} {t : Nat} {l1 : Int32} {l2 : Int32} {m : Mm} {Q : Int32 → Mm → Prop} (h : mK m t = 12 ∧ (∃ b2, mR m t 1 = some b2 ∧ (mK m b2 = 4 ∧ (CI g M_Land_hasGrower lv [va_rf (some b2), .int (l1)] m (fun x5 m6 => (if (x5) = 0 then (Q (-2 : Int32) m6) else (CI g M_SL_isWithin lv [.int (l2), .int ((0 : Int32)), .int ((500000 : Int32))] m6 (fun x11 m12 => (if (x11) = 0 then (Q (-2 : Int32) m12) else (∃ b17, mR m12 t 1 = some b17 ∧ (mK m12 b17 = 4 ∧ (CV g M_Land_tellCrop lv [va_rf (some b17), .int (l1), .int (l2)] m12 (fun m20 => (Q (0 : Int32) m20)))))))))))))) : CI g M_SL_crop (lv + 1) [va_rf (some t), .int (l1), .int (l2)] m Q := by
  refine Call.of (by decide +kernel) (Nat.le_of_ble_eq_true rfl) ?_
  show At g M_SL_crop (lv + 1) 0 [(0, va_rf (some t)), (1, .int (l1)), (2, .int (l2))] [] m (QI Q)
  refine at_aload_n (i := 0) 0 1 rfl (by decide +kernel) rfl ?_
  obtain ⟨k1, h⟩ := h
  refine at_get (index := 21) (v := va_rf (mR m t 1)) cok11 1 4 rfl (by decide +kernel) k1 (by decide +kernel) tw_441 rfl ?_
  refine at_iload_n (i := 1) 1 5 rfl (by decide +kernel) rfl ?_
  obtain ⟨b2, e3, h⟩ := h
  rw [e3]
  obtain ⟨k4, h⟩ := h
  refine at_callV mb_Land_hasGrower tw_666 tw_667 cok3 k4 (index := 139) tw_665 [.int (l1)] [] rfl rfl (by decide) 8 rfl (by decide +kernel) (Call.toI (CI.monoE h (fun x5 m6 h y7 => ?_)))
  have k8 : mK m6 t = 12 := y7.k k1 (by decide)
  have k9 : mK m6 b2 = 4 := y7.k k4 (by decide)
  refine at_if_eq (off := 13) 21 11 rfl (by decide +kernel) (by decide +kernel) (fun c10 => ?_) (fun c10 => ?_)
  · rw [if_pos c10] at h
    refine at_bipush (n := (-2)) (-2 : Int32) 23 rfl (by decide +kernel) (by decide +kernel) ?_
    exact at_iret rfl (by decide +kernel) h
  · rw [if_neg c10] at h
    refine at_iload_n (i := 2) 2 12 rfl (by decide +kernel) rfl ?_
    refine at_iconst (n := 0) (0 : Int32) 13 rfl (by decide +kernel) (by decide +kernel) ?_
    refine at_ldc (index := 143) (500000 : Int32) 15 rfl (by decide +kernel) tw_669 ?_
    refine at_callS mb_SL_isWithin tw_471 (index := 64) tw_470 [.int (l2), .int ((0 : Int32)), .int ((500000 : Int32))] [] rfl rfl (by decide) 18 rfl (by decide +kernel) (Call.toI (CI.monoE h (fun x11 m12 h y13 => ?_)))
    have k14 : mK m12 t = 12 := y13.k k8 (by decide)
    have k15 : mK m12 b2 = 4 := y13.k k9 (by decide)
    refine at_if_ne (off := 6) 24 21 rfl (by decide +kernel) (by decide +kernel) (fun c16 => ?_) (fun c16 => ?_)
    · rw [if_neg c16] at h
      refine at_aload_n (i := 0) 0 25 rfl (by decide +kernel) rfl ?_
      refine at_get (index := 21) (v := va_rf (mR m12 t 1)) cok11 1 28 rfl (by decide +kernel) k14 (by decide +kernel) tw_441 rfl ?_
      refine at_iload_n (i := 1) 1 29 rfl (by decide +kernel) rfl ?_
      refine at_iload_n (i := 2) 2 30 rfl (by decide +kernel) rfl ?_
      obtain ⟨b17, e18, h⟩ := h
      rw [e18]
      obtain ⟨k19, h⟩ := h
      refine at_callV mb_Land_tellCrop tw_671 tw_672 cok3 k19 (index := 144) tw_670 [.int (l1), .int (l2)] [] rfl rfl (by decide) 33 rfl (by decide +kernel) (Call.toV (CV.monoE h (fun m20 h y21 => ?_)))
      have k22 : mK m20 t = 12 := y21.k k14 (by decide)
      have k23 : mK m20 b2 = 4 := y21.k k15 (by decide)
      have k24 : mK m20 b17 = 4 := y21.k k19 (by decide)
      refine at_iconst (n := 0) (0 : Int32) 34 rfl (by decide +kernel) (by decide +kernel) ?_
      exact at_iret rfl (by decide +kernel) h
    · rw [if_pos c16] at h
      refine at_bipush (n := (-2)) (-2 : Int32) 23 rfl (by decide +kernel) (by decide +kernel) ?_
      exact at_iret rfl (by decide +kernel) h
set_option maxRecDepth 20000 in
set_option maxHeartbeats 4000000 in
theorem bk_SL_crops_96 (g : Gc) {lv : Nat} {t : Nat} {l1 : Int32} {l2 : Int32} {m : Mm} {Q : Int32 → Mm → Prop} (h : mK m t = 12 ∧ (∃ b2, mR m t 1 = some b2 ∧ (mK m b2 = 4 ∧ (if (mI m b2 8) ≤ (l2) then (Q (mI m b2 8) m) else (∃ b6, mR m t 6 = some b6 ∧ (mK m b6 = 8 ∧ (CJ g M_Rows_numberAt lv [va_rf (some b6), .int (l1), .int (l2)] m (fun x9 m10 => (CV g M_Land_tellCrop lv [va_rf (some b2), .int (l2), .int (x9.toInt32)] m10 (fun m15 => (At g M_SL_crops (lv + 1) 96 [(0, va_rf (some t)), (1, .int (l1)), (2, .int (l2 + (1 : Int32)))] [] m15 (QI Q)))))))))))) : At g M_SL_crops (lv + 1) 96 [(0, va_rf (some t)), (1, .int (l1)), (2, .int (l2))] [] m (QI Q) := by
  refine at_iload_n (i := 2) 2 97 rfl (by decide +kernel) rfl ?_
  refine at_aload_n (i := 0) 0 98 rfl (by decide +kernel) rfl ?_
  obtain ⟨k1, h⟩ := h
  refine at_get (index := 21) (v := va_rf (mR m t 1)) cok11 1 101 rfl (by decide +kernel) k1 (by decide +kernel) tw_441 rfl ?_
  obtain ⟨b2, e3, h⟩ := h
  rw [e3]
  obtain ⟨k4, h⟩ := h
  refine at_get (index := 103) (v := .int (mI m b2 8)) cok3 8 104 rfl (by decide +kernel) k4 (by decide +kernel) tw_298 rfl ?_
  refine at_icmp_ge (off := 27) 131 107 rfl (by decide +kernel) (by decide +kernel) (fun c5 => ?_) (fun c5 => ?_)
  · rw [if_pos c5] at h
    refine at_aload_n (i := 0) 0 132 rfl (by decide +kernel) rfl ?_
    refine at_get (index := 21) (v := va_rf (mR m t 1)) cok11 1 135 rfl (by decide +kernel) k1 (by decide +kernel) tw_441 rfl ?_
    rw [e3]
    refine at_get (index := 103) (v := .int (mI m b2 8)) cok3 8 138 rfl (by decide +kernel) k4 (by decide +kernel) tw_298 rfl ?_
    exact at_iret rfl (by decide +kernel) h
  · rw [if_neg c5] at h
    refine at_aload_n (i := 0) 0 108 rfl (by decide +kernel) rfl ?_
    refine at_get (index := 21) (v := va_rf (mR m t 1)) cok11 1 111 rfl (by decide +kernel) k1 (by decide +kernel) tw_441 rfl ?_
    rw [e3]
    refine at_iload_n (i := 2) 2 112 rfl (by decide +kernel) rfl ?_
    refine at_aload_n (i := 0) 0 113 rfl (by decide +kernel) rfl ?_
    refine at_get (index := 51) (v := va_rf (mR m t 6)) cok11 6 116 rfl (by decide +kernel) k1 (by decide +kernel) tw_446 rfl ?_
    refine at_iload_n (i := 1) 1 117 rfl (by decide +kernel) rfl ?_
    refine at_iload_n (i := 2) 2 118 rfl (by decide +kernel) rfl ?_
    obtain ⟨b6, e7, h⟩ := h
    rw [e7]
    obtain ⟨k8, h⟩ := h
    refine at_callV mb_Rows_numberAt tw_685 tw_686 cok7 k8 (index := 154) tw_684 [.int (l1), .int (l2)] [.int (l2), va_rf (some b2)] rfl rfl (by simp [va_rf_cat, cat_int, cat_long]) 121 rfl (by decide +kernel) (Call.toJ (CJ.monoE h (fun x9 m10 h y11 => ?_)))
    have k12 : mK m10 t = 12 := y11.k k1 (by decide)
    have k13 : mK m10 b2 = 4 := y11.k k4 (by decide)
    have k14 : mK m10 b6 = 8 := y11.k k8 (by decide)
    refine at_l2i 122 rfl (by decide +kernel) ?_
    refine at_callV mb_Land_tellCrop tw_671 tw_672 cok3 k13 (index := 144) tw_670 [.int (l2), .int (x9.toInt32)] [] rfl rfl (by decide) 125 rfl (by decide +kernel) (Call.toV (CV.monoE h (fun m15 h y16 => ?_)))
    have k17 : mK m15 t = 12 := y16.k k12 (by decide)
    have k18 : mK m15 b2 = 4 := y16.k k13 (by decide)
    have k19 : mK m15 b6 = 8 := y16.k k14 (by decide)
    refine at_iinc (i := 2) (n := 1) (lc' := [(0, va_rf (some t)), (1, .int (l1)), (2, .int (l2 + (1 : Int32)))]) (l2 + (1 : Int32)) 2 [1, 2, 0] 128 rfl (by decide +kernel) rfl (by rw [show Int32.ofInt 1 = (1 : Int32) from by decide +kernel]) (by decide +kernel) rfl ?_
    refine at_goto (off := (-32)) 96 (by decide +kernel) (by decide +kernel) ?_
    exact h
set_option maxRecDepth 20000 in
set_option maxHeartbeats 4000000 in
theorem bk_SL_crops_50 (g : Gc) {lv : Nat} {t : Nat} {l1 : Int32} {l2 : Int32} {m : Mm} {Q : Int32 → Mm → Prop} (h : mK m t = 12 ∧ (∃ b2, mR m t 1 = some b2 ∧ (mK m b2 = 4 ∧ (if (mI m b2 8) ≤ (l2) then (At g M_SL_crops (lv + 1) 96 [(0, va_rf (some t)), (1, .int (l1)), (2, .int ((0 : Int32)))] [] m (QI Q)) else (∃ b6, mR m t 6 = some b6 ∧ (mK m b6 = 8 ∧ (CJ g M_Rows_numberAt lv [va_rf (some b6), .int (l1), .int (l2)] m (fun x9 m10 => (if (x9) < ((0 : Int64)) then (Q (-4 : Int32) m10) else (if (x9) ≤ ((500000 : Int64)) then (At g M_SL_crops (lv + 1) 50 [(0, va_rf (some t)), (1, .int (l1)), (2, .int (l2 + (1 : Int32)))] [] m10 (QI Q)) else (Q (-4 : Int32) m10))))))))))) : At g M_SL_crops (lv + 1) 50 [(0, va_rf (some t)), (1, .int (l1)), (2, .int (l2))] [] m (QI Q) := by
  refine at_iload_n (i := 2) 2 51 rfl (by decide +kernel) rfl ?_
  refine at_aload_n (i := 0) 0 52 rfl (by decide +kernel) rfl ?_
  obtain ⟨k1, h⟩ := h
  refine at_get (index := 21) (v := va_rf (mR m t 1)) cok11 1 55 rfl (by decide +kernel) k1 (by decide +kernel) tw_441 rfl ?_
  obtain ⟨b2, e3, h⟩ := h
  rw [e3]
  obtain ⟨k4, h⟩ := h
  refine at_get (index := 103) (v := .int (mI m b2 8)) cok3 8 58 rfl (by decide +kernel) k4 (by decide +kernel) tw_298 rfl ?_
  refine at_icmp_ge (off := 36) 94 61 rfl (by decide +kernel) (by decide +kernel) (fun c5 => ?_) (fun c5 => ?_)
  · rw [if_pos c5] at h
    refine at_iconst (n := 0) (0 : Int32) 95 rfl (by decide +kernel) (by decide +kernel) ?_
    refine at_istore_n (i := 2) (lc' := [(0, va_rf (some t)), (1, .int (l1)), (2, .int ((0 : Int32)))]) [1, 2, 0] 96 rfl (by decide +kernel) (by decide +kernel) rfl ?_
    exact h
  · rw [if_neg c5] at h
    refine at_aload_n (i := 0) 0 62 rfl (by decide +kernel) rfl ?_
    refine at_get (index := 51) (v := va_rf (mR m t 6)) cok11 6 65 rfl (by decide +kernel) k1 (by decide +kernel) tw_446 rfl ?_
    refine at_iload_n (i := 1) 1 66 rfl (by decide +kernel) rfl ?_
    refine at_iload_n (i := 2) 2 67 rfl (by decide +kernel) rfl ?_
    obtain ⟨b6, e7, h⟩ := h
    rw [e7]
    obtain ⟨k8, h⟩ := h
    refine at_callV mb_Rows_numberAt tw_685 tw_686 cok7 k8 (index := 154) tw_684 [.int (l1), .int (l2)] [] rfl rfl (by decide) 70 rfl (by decide +kernel) (Call.toJ (CJ.monoE h (fun x9 m10 h y11 => ?_)))
    have k12 : mK m10 t = 12 := y11.k k1 (by decide)
    have k13 : mK m10 b2 = 4 := y11.k k4 (by decide)
    have k14 : mK m10 b6 = 8 := y11.k k8 (by decide)
    refine at_lstore_n (i := 3) (lc' := [(0, va_rf (some t)), (1, .int (l1)), (2, .int (l2)), (3, .long (x9))]) [1, 2, 3, 0] 71 rfl (by decide +kernel) (by decide +kernel) rfl ?_
    refine at_lload_n (i := 3) 3 72 rfl (by decide +kernel) rfl ?_
    refine at_lconst (n := 0) (0 : Int64) 73 rfl (by decide +kernel) (by decide +kernel) ?_
    refine at_lif_lt (off := 11) 74 85 77 rfl rfl (by decide +kernel) (by decide +kernel) (by decide +kernel) (fun c15 => ?_) (fun c15 => ?_)
    · rw [if_pos c15] at h
      refine at_bipush (n := (-4)) (-4 : Int32) 87 rfl (by decide +kernel) (by decide +kernel) ?_
      exact at_iret rfl (by decide +kernel) h
    · rw [if_neg c15] at h
      refine at_lload_n (i := 3) 3 78 rfl (by decide +kernel) rfl ?_
      refine at_ldc2 (index := 158) (500000 : Int64) 81 rfl (by decide +kernel) tw_688 ?_
      refine at_lif_le (off := 6) 82 88 85 rfl rfl (by decide +kernel) (by decide +kernel) (by decide +kernel) (fun c16 => ?_) (fun c16 => ?_)
      · rw [if_pos c16] at h
        refine at_iinc (i := 2) (n := 1) (lc' := [(0, va_rf (some t)), (1, .int (l1)), (2, .int (l2 + (1 : Int32)))]) (l2 + (1 : Int32)) 2 [1, 2, 0] 91 rfl (by decide +kernel) rfl (by rw [show Int32.ofInt 1 = (1 : Int32) from by decide +kernel]) (by decide +kernel) rfl ?_
        refine at_goto (off := (-41)) 50 (by decide +kernel) (by decide +kernel) ?_
        exact h
      · rw [if_neg c16] at h
        refine at_bipush (n := (-4)) (-4 : Int32) 87 rfl (by decide +kernel) (by decide +kernel) ?_
        exact at_iret rfl (by decide +kernel) h
set_option maxRecDepth 20000 in
set_option maxHeartbeats 4000000 in
theorem en_SL_crops (g : Gc) {lv : Nat} {t : Nat} {l1 : Int32} {m : Mm} {Q : Int32 → Mm → Prop} (h : CI g M_SL_isWithin lv [.int (l1), .int ((0 : Int32)), .int ((3 : Int32))] m (fun x1 m2 => (if (x1) = 0 then (Q (-2 : Int32) m2) else (mK m2 t = 12 ∧ (∃ b6, mR m2 t 6 = some b6 ∧ (mK m2 b6 = 8 ∧ (CI g M_Rows_hasRow lv [va_rf (some b6), .int (l1)] m2 (fun x9 m10 => (if (x9) = 0 then (Q (-5 : Int32) m10) else (∃ b15, mR m10 t 6 = some b15 ∧ (mK m10 b15 = 8 ∧ (∃ b18, mR m10 b15 2 = some b18 ∧ (mK m10 b18 = 15 ∧ (vp_in l1 (mN m10 b18) ∧ (∃ b22, mR m10 t 1 = some b22 ∧ (mK m10 b22 = 4 ∧ (if (mI m10 b22 8) ≤ (mI m10 b18 l1.toNatClampNeg) then (At g M_SL_crops (lv + 1) 50 [(0, va_rf (some t)), (1, .int (l1)), (2, .int ((0 : Int32)))] [] m10 (QI Q)) else (Q (-6 : Int32) m10)))))))))))))))))) : CI g M_SL_crops (lv + 1) [va_rf (some t), .int (l1)] m Q := by
  refine Call.of (by decide +kernel) (Nat.le_of_ble_eq_true rfl) ?_
  show At g M_SL_crops (lv + 1) 0 [(0, va_rf (some t)), (1, .int (l1))] [] m (QI Q)
  refine at_iload_n (i := 1) 1 1 rfl (by decide +kernel) rfl ?_
  refine at_iconst (n := 0) (0 : Int32) 2 rfl (by decide +kernel) (by decide +kernel) ?_
  refine at_iconst (n := 3) (3 : Int32) 3 rfl (by decide +kernel) (by decide +kernel) ?_
  refine at_callS mb_SL_isWithin tw_471 (index := 64) tw_470 [.int (l1), .int ((0 : Int32)), .int ((3 : Int32))] [] rfl rfl (by decide) 6 rfl (by decide +kernel) (Call.toI (CI.monoE h (fun x1 m2 h y3 => ?_)))
  refine at_if_ne (off := 6) 12 9 rfl (by decide +kernel) (by decide +kernel) (fun c4 => ?_) (fun c4 => ?_)
  · rw [if_neg c4] at h
    refine at_aload_n (i := 0) 0 13 rfl (by decide +kernel) rfl ?_
    obtain ⟨k5, h⟩ := h
    refine at_get (index := 51) (v := va_rf (mR m2 t 6)) cok11 6 16 rfl (by decide +kernel) k5 (by decide +kernel) tw_446 rfl ?_
    refine at_iload_n (i := 1) 1 17 rfl (by decide +kernel) rfl ?_
    obtain ⟨b6, e7, h⟩ := h
    rw [e7]
    obtain ⟨k8, h⟩ := h
    refine at_callV mb_Rows_hasRow tw_680 tw_681 cok7 k8 (index := 147) tw_679 [.int (l1)] [] rfl rfl (by decide) 20 rfl (by decide +kernel) (Call.toI (CI.monoE h (fun x9 m10 h y11 => ?_)))
    have k12 : mK m10 t = 12 := y11.k k5 (by decide)
    have k13 : mK m10 b6 = 8 := y11.k k8 (by decide)
    refine at_if_ne (off := 6) 26 23 rfl (by decide +kernel) (by decide +kernel) (fun c14 => ?_) (fun c14 => ?_)
    · rw [if_neg c14] at h
      refine at_aload_n (i := 0) 0 27 rfl (by decide +kernel) rfl ?_
      refine at_get (index := 51) (v := va_rf (mR m10 t 6)) cok11 6 30 rfl (by decide +kernel) k12 (by decide +kernel) tw_446 rfl ?_
      obtain ⟨b15, e16, h⟩ := h
      rw [e16]
      obtain ⟨k17, h⟩ := h
      refine at_get (index := 150) (v := va_rf (mR m10 b15 2)) cok7 2 33 rfl (by decide +kernel) k17 (by decide +kernel) tw_429 rfl ?_
      refine at_iload_n (i := 1) 1 34 rfl (by decide +kernel) rfl ?_
      obtain ⟨b18, e19, h⟩ := h
      rw [e19]
      obtain ⟨k20, h⟩ := h
      obtain ⟨v21, h⟩ := h
      refine at_iald 35 rfl (by decide +kernel) k20 v21 ?_
      refine at_aload_n (i := 0) 0 36 rfl (by decide +kernel) rfl ?_
      refine at_get (index := 21) (v := va_rf (mR m10 t 1)) cok11 1 39 rfl (by decide +kernel) k12 (by decide +kernel) tw_441 rfl ?_
      obtain ⟨b22, e23, h⟩ := h
      rw [e23]
      obtain ⟨k24, h⟩ := h
      refine at_get (index := 103) (v := .int (mI m10 b22 8)) cok3 8 42 rfl (by decide +kernel) k24 (by decide +kernel) tw_298 rfl ?_
      refine at_icmp_ge (off := 6) 48 45 rfl (by decide +kernel) (by decide +kernel) (fun c25 => ?_) (fun c25 => ?_)
      · rw [if_pos c25] at h
        refine at_iconst (n := 0) (0 : Int32) 49 rfl (by decide +kernel) (by decide +kernel) ?_
        refine at_istore_n (i := 2) (lc' := [(0, va_rf (some t)), (1, .int (l1)), (2, .int ((0 : Int32)))]) [1, 2, 0] 50 rfl (by decide +kernel) (by decide +kernel) rfl ?_
        exact h
      · rw [if_neg c25] at h
        refine at_bipush (n := (-6)) (-6 : Int32) 47 rfl (by decide +kernel) (by decide +kernel) ?_
        exact at_iret rfl (by decide +kernel) h
    · rw [if_pos c14] at h
      refine at_bipush (n := (-5)) (-5 : Int32) 25 rfl (by decide +kernel) (by decide +kernel) ?_
      exact at_iret rfl (by decide +kernel) h
  · rw [if_pos c4] at h
    refine at_bipush (n := (-2)) (-2 : Int32) 11 rfl (by decide +kernel) (by decide +kernel) ?_
    exact at_iret rfl (by decide +kernel) h
set_option maxRecDepth 20000 in
set_option maxHeartbeats 4000000 in
theorem en_SL_go (g : Gc) {lv : Nat} {t : Nat} {l1 : Int32} {m : Mm} {Q : Int32 → Mm → Prop} (h : CI g M_SL_isWithin lv [.int (l1), .int ((0 : Int32)), .int ((100 : Int32))] m (fun x1 m2 => (if (x1) = 0 then (Q (-2 : Int32) m2) else (mK m2 t = 12 ∧ (∃ b6, mR m2 t 1 = some b6 ∧ (mK m2 b6 = 4 ∧ (CI g M_SL_isWithin lv [.int (mI m2 b6 9), .int ((0 : Int32)), .int ((29 : Int32))] m2 (fun x9 m10 => (if (x9) = 0 then (Q (-9 : Int32) m10) else (∃ b15, mR m10 t 1 = some b15 ∧ (mK m10 b15 = 4 ∧ (∃ b18, mR m10 b15 3 = some b18 ∧ (mK m10 b18 = 9 ∧ (if (mI m10 b15 8) ≤ ((400 : Int32) - (mI m10 b18 1)) then (∃ b22, mR m10 t 5 = some b22 ∧ (mK m10 b22 = 20 ∧ (vp_in (mI m10 b15 9) (mN m10 b22) ∧ (CV g M_Land_passYear lv [va_rf (some b15), .int (l1), va_rf (mR m10 b22 (mI m10 b15 9).toNatClampNeg)] m10 (fun m26 => (∃ b33, mR m26 t 1 = some b33 ∧ (mK m26 b33 = 4 ∧ (Q (mI m26 b33 9) m26)))))))) else (Q (-3 : Int32) m10))))))))))))))) : CI g M_SL_go (lv + 1) [va_rf (some t), .int (l1)] m Q := by
  refine Call.of (by decide +kernel) (Nat.le_of_ble_eq_true rfl) ?_
  show At g M_SL_go (lv + 1) 0 [(0, va_rf (some t)), (1, .int (l1))] [] m (QI Q)
  refine at_iload_n (i := 1) 1 1 rfl (by decide +kernel) rfl ?_
  refine at_iconst (n := 0) (0 : Int32) 2 rfl (by decide +kernel) (by decide +kernel) ?_
  refine at_bipush (n := 100) (100 : Int32) 4 rfl (by decide +kernel) (by decide +kernel) ?_
  refine at_callS mb_SL_isWithin tw_471 (index := 64) tw_470 [.int (l1), .int ((0 : Int32)), .int ((100 : Int32))] [] rfl rfl (by decide) 7 rfl (by decide +kernel) (Call.toI (CI.monoE h (fun x1 m2 h y3 => ?_)))
  refine at_if_ne (off := 6) 13 10 rfl (by decide +kernel) (by decide +kernel) (fun c4 => ?_) (fun c4 => ?_)
  · rw [if_neg c4] at h
    refine at_aload_n (i := 0) 0 14 rfl (by decide +kernel) rfl ?_
    obtain ⟨k5, h⟩ := h
    refine at_get (index := 21) (v := va_rf (mR m2 t 1)) cok11 1 17 rfl (by decide +kernel) k5 (by decide +kernel) tw_441 rfl ?_
    obtain ⟨b6, e7, h⟩ := h
    rw [e7]
    obtain ⟨k8, h⟩ := h
    refine at_get (index := 106) (v := .int (mI m2 b6 9)) cok3 9 20 rfl (by decide +kernel) k8 (by decide +kernel) tw_300 rfl ?_
    refine at_iconst (n := 0) (0 : Int32) 21 rfl (by decide +kernel) (by decide +kernel) ?_
    refine at_bipush (n := 29) (29 : Int32) 23 rfl (by decide +kernel) (by decide +kernel) ?_
    refine at_callS mb_SL_isWithin tw_471 (index := 64) tw_470 [.int (mI m2 b6 9), .int ((0 : Int32)), .int ((29 : Int32))] [] rfl rfl (by decide) 26 rfl (by decide +kernel) (Call.toI (CI.monoE h (fun x9 m10 h y11 => ?_)))
    have k12 : mK m10 t = 12 := y11.k k5 (by decide)
    have k13 : mK m10 b6 = 4 := y11.k k8 (by decide)
    refine at_if_ne (off := 6) 32 29 rfl (by decide +kernel) (by decide +kernel) (fun c14 => ?_) (fun c14 => ?_)
    · rw [if_neg c14] at h
      refine at_sipush (n := 400) (400 : Int32) 35 rfl (by decide +kernel) (by decide +kernel) ?_
      refine at_aload_n (i := 0) 0 36 rfl (by decide +kernel) rfl ?_
      refine at_get (index := 21) (v := va_rf (mR m10 t 1)) cok11 1 39 rfl (by decide +kernel) k12 (by decide +kernel) tw_441 rfl ?_
      obtain ⟨b15, e16, h⟩ := h
      rw [e16]
      obtain ⟨k17, h⟩ := h
      refine at_get (index := 160) (v := va_rf (mR m10 b15 3)) cok3 3 42 rfl (by decide +kernel) k17 (by decide +kernel) tw_291 rfl ?_
      obtain ⟨b18, e19, h⟩ := h
      rw [e19]
      obtain ⟨k20, h⟩ := h
      refine at_get (index := 164) (v := .int (mI m10 b18 1)) cok8 1 45 rfl (by decide +kernel) k20 (by decide +kernel) tw_155 rfl ?_
      refine at_isub 46 rfl (by decide +kernel) ?_
      refine at_aload_n (i := 0) 0 47 rfl (by decide +kernel) rfl ?_
      refine at_get (index := 21) (v := va_rf (mR m10 t 1)) cok11 1 50 rfl (by decide +kernel) k12 (by decide +kernel) tw_441 rfl ?_
      rw [e16]
      refine at_get (index := 103) (v := .int (mI m10 b15 8)) cok3 8 53 rfl (by decide +kernel) k17 (by decide +kernel) tw_298 rfl ?_
      refine at_icmp_ge (off := 6) 59 56 rfl (by decide +kernel) (by decide +kernel) (fun c21 => ?_) (fun c21 => ?_)
      · rw [if_pos c21] at h
        refine at_aload_n (i := 0) 0 60 rfl (by decide +kernel) rfl ?_
        refine at_get (index := 21) (v := va_rf (mR m10 t 1)) cok11 1 63 rfl (by decide +kernel) k12 (by decide +kernel) tw_441 rfl ?_
        rw [e16]
        refine at_iload_n (i := 1) 1 64 rfl (by decide +kernel) rfl ?_
        refine at_aload_n (i := 0) 0 65 rfl (by decide +kernel) rfl ?_
        refine at_get (index := 44) (v := va_rf (mR m10 t 5)) cok11 5 68 rfl (by decide +kernel) k12 (by decide +kernel) tw_445 rfl ?_
        refine at_aload_n (i := 0) 0 69 rfl (by decide +kernel) rfl ?_
        refine at_get (index := 21) (v := va_rf (mR m10 t 1)) cok11 1 72 rfl (by decide +kernel) k12 (by decide +kernel) tw_441 rfl ?_
        rw [e16]
        refine at_get (index := 106) (v := .int (mI m10 b15 9)) cok3 9 75 rfl (by decide +kernel) k17 (by decide +kernel) tw_300 rfl ?_
        obtain ⟨b22, e23, h⟩ := h
        rw [e23]
        obtain ⟨k24, h⟩ := h
        obtain ⟨v25, h⟩ := h
        refine at_aaldLaw 76 rfl (by decide +kernel) k24 v25 ?_
        refine at_callV mb_Land_passYear tw_694 tw_695 cok3 k17 (index := 169) tw_693 [.int (l1), va_rf (mR m10 b22 (mI m10 b15 9).toNatClampNeg)] [] rfl rfl (by decide) 79 rfl (by decide +kernel) (Call.toV (CV.monoE h (fun m26 h y27 => ?_)))
        have k28 : mK m26 t = 12 := y27.k k12 (by decide)
        have k29 : mK m26 b6 = 4 := y27.k k13 (by decide)
        have k30 : mK m26 b15 = 4 := y27.k k17 (by decide)
        have k31 : mK m26 b18 = 9 := y27.k k20 (by decide)
        have k32 : mK m26 b22 = 20 := y27.k k24 (by decide)
        refine at_aload_n (i := 0) 0 80 rfl (by decide +kernel) rfl ?_
        refine at_get (index := 21) (v := va_rf (mR m26 t 1)) cok11 1 83 rfl (by decide +kernel) k28 (by decide +kernel) tw_441 rfl ?_
        obtain ⟨b33, e34, h⟩ := h
        rw [e34]
        obtain ⟨k35, h⟩ := h
        refine at_get (index := 106) (v := .int (mI m26 b33 9)) cok3 9 86 rfl (by decide +kernel) k35 (by decide +kernel) tw_300 rfl ?_
        exact at_iret rfl (by decide +kernel) h
      · rw [if_neg c21] at h
        refine at_bipush (n := (-3)) (-3 : Int32) 58 rfl (by decide +kernel) (by decide +kernel) ?_
        exact at_iret rfl (by decide +kernel) h
    · rw [if_pos c14] at h
      refine at_bipush (n := (-9)) (-9 : Int32) 31 rfl (by decide +kernel) (by decide +kernel) ?_
      exact at_iret rfl (by decide +kernel) h
  · rw [if_pos c4] at h
    refine at_bipush (n := (-2)) (-2 : Int32) 12 rfl (by decide +kernel) (by decide +kernel) ?_
    exact at_iret rfl (by decide +kernel) h
set_option maxRecDepth 20000 in
set_option maxHeartbeats 4000000 in
theorem en_SL_right (g : Gc) {lv : Nat} {t : Nat} {l1 : Int32} {l2 : Int32} {l3 : Int32} {m : Mm} {Q : Int32 → Mm → Prop} (h : mK m t = 12 ∧ (∃ b2, mR m t 1 = some b2 ∧ (mK m b2 = 4 ∧ (CI g M_Land_hasGrower lv [va_rf (some b2), .int (l1)] m (fun x5 m6 => (if (x5) = 0 then (Q (-1000000 : Int32) m6) else (∃ b11, mR m6 t 1 = some b11 ∧ (mK m6 b11 = 4 ∧ (CI g M_SL_isWithin lv [.int (l2), .int ((0 : Int32)), .int ((mI m6 b11 9) - (1 : Int32))] m6 (fun x14 m15 => (if (x14) = 0 then (Q (-1000000 : Int32) m15) else (CI g M_SL_isWithin lv [.int (l3), .int ((0 : Int32)), .int ((500000 : Int32))] m15 (fun x21 m22 => (if (x21) = 0 then (Q (-1000000 : Int32) m22) else (∃ b28, mR m22 t 1 = some b28 ∧ (mK m22 b28 = 4 ∧ (CI g M_Land_putRight lv [va_rf (some b28), .int (l1), .int (l2), .int (l3)] m22 (fun x31 m32 => (Q x31 m32))))))))))))))))))) : CI g M_SL_right (lv + 1) [va_rf (some t), .int (l1), .int (l2), .int (l3)] m Q := by
  refine Call.of (by decide +kernel) (Nat.le_of_ble_eq_true rfl) ?_
  show At g M_SL_right (lv + 1) 0 [(0, va_rf (some t)), (1, .int (l1)), (2, .int (l2)), (3, .int (l3))] [] m (QI Q)
  refine at_aload_n (i := 0) 0 1 rfl (by decide +kernel) rfl ?_
  obtain ⟨k1, h⟩ := h
  refine at_get (index := 21) (v := va_rf (mR m t 1)) cok11 1 4 rfl (by decide +kernel) k1 (by decide +kernel) tw_441 rfl ?_
  refine at_iload_n (i := 1) 1 5 rfl (by decide +kernel) rfl ?_
  obtain ⟨b2, e3, h⟩ := h
  rw [e3]
  obtain ⟨k4, h⟩ := h
  refine at_callV mb_Land_hasGrower tw_666 tw_667 cok3 k4 (index := 139) tw_665 [.int (l1)] [] rfl rfl (by decide) 8 rfl (by decide +kernel) (Call.toI (CI.monoE h (fun x5 m6 h y7 => ?_)))
  have k8 : mK m6 t = 12 := y7.k k1 (by decide)
  have k9 : mK m6 b2 = 4 := y7.k k4 (by decide)
  refine at_if_eq (off := 30) 38 11 rfl (by decide +kernel) (by decide +kernel) (fun c10 => ?_) (fun c10 => ?_)
  · rw [if_pos c10] at h
    refine at_ldc (index := 173) (-1000000 : Int32) 40 rfl (by decide +kernel) tw_894 ?_
    exact at_iret rfl (by decide +kernel) h
  · rw [if_neg c10] at h
    refine at_iload_n (i := 2) 2 12 rfl (by decide +kernel) rfl ?_
    refine at_iconst (n := 0) (0 : Int32) 13 rfl (by decide +kernel) (by decide +kernel) ?_
    refine at_aload_n (i := 0) 0 14 rfl (by decide +kernel) rfl ?_
    refine at_get (index := 21) (v := va_rf (mR m6 t 1)) cok11 1 17 rfl (by decide +kernel) k8 (by decide +kernel) tw_441 rfl ?_
    obtain ⟨b11, e12, h⟩ := h
    rw [e12]
    obtain ⟨k13, h⟩ := h
    refine at_get (index := 106) (v := .int (mI m6 b11 9)) cok3 9 20 rfl (by decide +kernel) k13 (by decide +kernel) tw_300 rfl ?_
    refine at_iconst (n := 1) (1 : Int32) 21 rfl (by decide +kernel) (by decide +kernel) ?_
    refine at_isub 22 rfl (by decide +kernel) ?_
    refine at_callS mb_SL_isWithin tw_471 (index := 64) tw_470 [.int (l2), .int ((0 : Int32)), .int ((mI m6 b11 9) - (1 : Int32))] [] rfl rfl (by decide) 25 rfl (by decide +kernel) (Call.toI (CI.monoE h (fun x14 m15 h y16 => ?_)))
    have k17 : mK m15 t = 12 := y16.k k8 (by decide)
    have k18 : mK m15 b2 = 4 := y16.k k9 (by decide)
    have k19 : mK m15 b11 = 4 := y16.k k13 (by decide)
    refine at_if_eq (off := 13) 38 28 rfl (by decide +kernel) (by decide +kernel) (fun c20 => ?_) (fun c20 => ?_)
    · rw [if_pos c20] at h
      refine at_ldc (index := 173) (-1000000 : Int32) 40 rfl (by decide +kernel) tw_894 ?_
      exact at_iret rfl (by decide +kernel) h
    · rw [if_neg c20] at h
      refine at_iload_n (i := 3) 3 29 rfl (by decide +kernel) rfl ?_
      refine at_iconst (n := 0) (0 : Int32) 30 rfl (by decide +kernel) (by decide +kernel) ?_
      refine at_ldc (index := 143) (500000 : Int32) 32 rfl (by decide +kernel) tw_669 ?_
      refine at_callS mb_SL_isWithin tw_471 (index := 64) tw_470 [.int (l3), .int ((0 : Int32)), .int ((500000 : Int32))] [] rfl rfl (by decide) 35 rfl (by decide +kernel) (Call.toI (CI.monoE h (fun x21 m22 h y23 => ?_)))
      have k24 : mK m22 t = 12 := y23.k k17 (by decide)
      have k25 : mK m22 b2 = 4 := y23.k k18 (by decide)
      have k26 : mK m22 b11 = 4 := y23.k k19 (by decide)
      refine at_if_ne (off := 6) 41 38 rfl (by decide +kernel) (by decide +kernel) (fun c27 => ?_) (fun c27 => ?_)
      · rw [if_neg c27] at h
        refine at_aload_n (i := 0) 0 42 rfl (by decide +kernel) rfl ?_
        refine at_get (index := 21) (v := va_rf (mR m22 t 1)) cok11 1 45 rfl (by decide +kernel) k24 (by decide +kernel) tw_441 rfl ?_
        refine at_iload_n (i := 1) 1 46 rfl (by decide +kernel) rfl ?_
        refine at_iload_n (i := 2) 2 47 rfl (by decide +kernel) rfl ?_
        refine at_iload_n (i := 3) 3 48 rfl (by decide +kernel) rfl ?_
        obtain ⟨b28, e29, h⟩ := h
        rw [e29]
        obtain ⟨k30, h⟩ := h
        refine at_callV mb_Land_putRight tw_896 tw_897 cok3 k30 (index := 174) tw_895 [.int (l1), .int (l2), .int (l3)] [] rfl rfl (by decide) 51 rfl (by decide +kernel) (Call.toI (CI.monoE h (fun x31 m32 h y33 => ?_)))
        have k34 : mK m32 t = 12 := y33.k k24 (by decide)
        have k35 : mK m32 b2 = 4 := y33.k k25 (by decide)
        have k36 : mK m32 b11 = 4 := y33.k k26 (by decide)
        have k37 : mK m32 b28 = 4 := y33.k k30 (by decide)
        exact at_iret rfl (by decide +kernel) h
      · rw [if_pos c27] at h
        refine at_ldc (index := 173) (-1000000 : Int32) 40 rfl (by decide +kernel) tw_894 ?_
        exact at_iret rfl (by decide +kernel) h
set_option maxRecDepth 20000 in
set_option maxHeartbeats 4000000 in
theorem en_SL_split (g : Gc) {lv : Nat} {t : Nat} {l1 : Int32} {l2 : Int32} {m : Mm} {Q : Int32 → Mm → Prop} (h : mK m t = 12 ∧ (∃ b2, mR m t 1 = some b2 ∧ (mK m b2 = 4 ∧ (∃ b5, mR m b2 3 = some b5 ∧ (mK m b5 = 9 ∧ (CR g M_Store_find lv [va_rf (some b5), .int (l1)] m (fun x8 m9 => (if (x8 : Option Nat) = none then (Q (-2 : Int32) m9) else (if (l2) < ((1 : Int32)) then (Q (-2 : Int32) m9) else (∃ b16, x8 = some b16 ∧ (mK m9 b16 = 7 ∧ (if (l2) < (mI m9 b16 1) then (∃ b20, mR m9 t 1 = some b20 ∧ (mK m9 b20 = 4 ∧ (∃ b23, mR m9 b20 3 = some b23 ∧ (mK m9 b23 = 9 ∧ (CI g M_Store_isFull lv [va_rf (some b23)] m9 (fun x26 m27 => (if (x26) = 0 then (CI g M_Receipt_isPledged lv [va_rf (some b16)] m27 (fun x36 m37 => (if (x36) = 0 then (∀ m46, m46 = sI m37 b16 1 ((mI m37 b16 1) - l2) → (∃ b54, mR m46 t 1 = some b54 ∧ (mK m46 b54 = 4 ∧ (∃ b57, mR m46 b54 3 = some b57 ∧ (mK m46 b57 = 9 ∧ (CI g M_Store_issue lv [va_rf (some b57), .int (mI m46 b16 0), .int (l2), .int (mI m46 b16 2)] m46 (fun x60 m61 => (Q x60 m61)))))))) else (Q (-7 : Int32) m37)))) else (Q (-3 : Int32) m27)))))))) else (Q (-2 : Int32) m9))))))))))))) : CI g M_SL_split (lv + 1) [va_rf (some t), .int (l1), .int (l2)] m Q := by
  refine Call.of (by decide +kernel) (Nat.le_of_ble_eq_true rfl) ?_
  show At g M_SL_split (lv + 1) 0 [(0, va_rf (some t)), (1, .int (l1)), (2, .int (l2))] [] m (QI Q)
  refine at_aload_n (i := 0) 0 1 rfl (by decide +kernel) rfl ?_
  obtain ⟨k1, h⟩ := h
  refine at_get (index := 21) (v := va_rf (mR m t 1)) cok11 1 4 rfl (by decide +kernel) k1 (by decide +kernel) tw_441 rfl ?_
  obtain ⟨b2, e3, h⟩ := h
  rw [e3]
  obtain ⟨k4, h⟩ := h
  refine at_get (index := 160) (v := va_rf (mR m b2 3)) cok3 3 7 rfl (by decide +kernel) k4 (by decide +kernel) tw_291 rfl ?_
  refine at_iload_n (i := 1) 1 8 rfl (by decide +kernel) rfl ?_
  obtain ⟨b5, e6, h⟩ := h
  rw [e6]
  obtain ⟨k7, h⟩ := h
  refine at_callV mb_Store_find tw_904 tw_905 cok8 k7 (index := 178) tw_903 [.int (l1)] [] rfl rfl (by decide) 11 rfl (by decide +kernel) (Call.toR (CR.monoE h (fun x8 m9 h y10 => ?_)))
  have k11 : mK m9 t = 12 := y10.k k1 (by decide)
  have k12 : mK m9 b2 = 4 := y10.k k4 (by decide)
  have k13 : mK m9 b5 = 9 := y10.k k7 (by decide)
  refine at_astore_n (i := 3) (lc' := [(0, va_rf (some t)), (2, .int (l2)), (3, va_rf (x8))]) [1, 3, 0] 12 rfl (by decide +kernel) (by decide +kernel) rfl ?_
  refine at_aload_n (i := 3) 2 13 rfl (by decide +kernel) rfl ?_
  refine at_ifnull (off := 16) 29 16 rfl (by decide +kernel) (by decide +kernel) (fun c14 => ?_) (fun c14 => ?_)
  · rw [if_pos c14] at h
    refine at_bipush (n := (-2)) (-2 : Int32) 31 rfl (by decide +kernel) (by decide +kernel) ?_
    exact at_iret rfl (by decide +kernel) h
  · rw [if_neg c14] at h
    refine at_iload_n (i := 2) 1 17 rfl (by decide +kernel) rfl ?_
    refine at_iconst (n := 1) (1 : Int32) 18 rfl (by decide +kernel) (by decide +kernel) ?_
    refine at_icmp_lt (off := 11) 29 21 rfl (by decide +kernel) (by decide +kernel) (fun c15 => ?_) (fun c15 => ?_)
    · rw [if_pos c15] at h
      refine at_bipush (n := (-2)) (-2 : Int32) 31 rfl (by decide +kernel) (by decide +kernel) ?_
      exact at_iret rfl (by decide +kernel) h
    · rw [if_neg c15] at h
      refine at_iload_n (i := 2) 1 22 rfl (by decide +kernel) rfl ?_
      refine at_aload_n (i := 3) 2 23 rfl (by decide +kernel) rfl ?_
      obtain ⟨b16, e17, h⟩ := h
      rw [e17]
      obtain ⟨k18, h⟩ := h
      refine at_get (index := 182) (v := .int (mI m9 b16 1)) cok6 1 26 rfl (by decide +kernel) k18 (by decide +kernel) tw_777 rfl ?_
      refine at_icmp_lt (off := 6) 32 29 rfl (by decide +kernel) (by decide +kernel) (fun c19 => ?_) (fun c19 => ?_)
      · rw [if_pos c19] at h
        refine at_aload_n (i := 0) 0 33 rfl (by decide +kernel) rfl ?_
        refine at_get (index := 21) (v := va_rf (mR m9 t 1)) cok11 1 36 rfl (by decide +kernel) k11 (by decide +kernel) tw_441 rfl ?_
        obtain ⟨b20, e21, h⟩ := h
        rw [e21]
        obtain ⟨k22, h⟩ := h
        refine at_get (index := 160) (v := va_rf (mR m9 b20 3)) cok3 3 39 rfl (by decide +kernel) k22 (by decide +kernel) tw_291 rfl ?_
        obtain ⟨b23, e24, h⟩ := h
        rw [e24]
        obtain ⟨k25, h⟩ := h
        refine at_callV mb_Store_isFull tw_765 tw_766 cok8 k25 (index := 187) tw_908 [] [] rfl rfl (by decide) 42 rfl (by decide +kernel) (Call.toI (CI.monoE h (fun x26 m27 h y28 => ?_)))
        have k29 : mK m27 t = 12 := y28.k k11 (by decide)
        have k30 : mK m27 b2 = 4 := y28.k k12 (by decide)
        have k31 : mK m27 b5 = 9 := y28.k k13 (by decide)
        have k32 : mK m27 b16 = 7 := y28.k k18 (by decide)
        have k33 : mK m27 b20 = 4 := y28.k k22 (by decide)
        have k34 : mK m27 b23 = 9 := y28.k k25 (by decide)
        refine at_if_eq (off := 6) 48 45 rfl (by decide +kernel) (by decide +kernel) (fun c35 => ?_) (fun c35 => ?_)
        · rw [if_pos c35] at h
          refine at_aload_n (i := 3) 2 49 rfl (by decide +kernel) rfl ?_
          refine at_callV mb_Receipt_isPledged tw_910 tw_911 cok6 k32 (index := 191) tw_909 [] [] rfl rfl (by decide) 52 rfl (by decide +kernel) (Call.toI (CI.monoE h (fun x36 m37 h y38 => ?_)))
          have k39 : mK m37 t = 12 := y38.k k29 (by decide)
          have k40 : mK m37 b2 = 4 := y38.k k30 (by decide)
          have k41 : mK m37 b5 = 9 := y38.k k31 (by decide)
          have k42 : mK m37 b16 = 7 := y38.k k32 (by decide)
          have k43 : mK m37 b20 = 4 := y38.k k33 (by decide)
          have k44 : mK m37 b23 = 9 := y38.k k34 (by decide)
          refine at_if_eq (off := 6) 58 55 rfl (by decide +kernel) (by decide +kernel) (fun c45 => ?_) (fun c45 => ?_)
          · rw [if_pos c45] at h
            refine at_aload_n (i := 3) 2 59 rfl (by decide +kernel) rfl ?_
            refine at_dup 60 rfl (by decide +kernel) (va_rf_cat _) ?_
            refine at_get (index := 182) (v := .int (mI m37 b16 1)) cok6 1 63 rfl (by decide +kernel) k42 (by decide +kernel) tw_777 rfl ?_
            refine at_iload_n (i := 2) 1 64 rfl (by decide +kernel) rfl ?_
            refine at_isub 65 rfl (by decide +kernel) ?_
            refine at_putI (index := 182) cok6 1 68 rfl (by decide +kernel) k42 (by decide +kernel) tw_777 rfl rfl rfl (fun m46 e47 => ?_)
            replace h := h m46 e47
            have k48 : mK m46 t = 12 := by rw [e47]; exact k39
            have k49 : mK m46 b2 = 4 := by rw [e47]; exact k40
            have k50 : mK m46 b5 = 9 := by rw [e47]; exact k41
            have k51 : mK m46 b16 = 7 := by rw [e47]; exact k42
            have k52 : mK m46 b20 = 4 := by rw [e47]; exact k43
            have k53 : mK m46 b23 = 9 := by rw [e47]; exact k44
            refine at_aload_n (i := 0) 0 69 rfl (by decide +kernel) rfl ?_
            refine at_get (index := 21) (v := va_rf (mR m46 t 1)) cok11 1 72 rfl (by decide +kernel) k48 (by decide +kernel) tw_441 rfl ?_
            obtain ⟨b54, e55, h⟩ := h
            rw [e55]
            obtain ⟨k56, h⟩ := h
            refine at_get (index := 160) (v := va_rf (mR m46 b54 3)) cok3 3 75 rfl (by decide +kernel) k56 (by decide +kernel) tw_291 rfl ?_
            refine at_aload_n (i := 3) 2 76 rfl (by decide +kernel) rfl ?_
            refine at_get (index := 194) (v := .int (mI m46 b16 0)) cok6 0 79 rfl (by decide +kernel) k51 (by decide +kernel) tw_774 rfl ?_
            refine at_iload_n (i := 2) 1 80 rfl (by decide +kernel) rfl ?_
            refine at_aload_n (i := 3) 2 81 rfl (by decide +kernel) rfl ?_
            refine at_get (index := 197) (v := .int (mI m46 b16 2)) cok6 2 84 rfl (by decide +kernel) k51 (by decide +kernel) tw_780 rfl ?_
            obtain ⟨b57, e58, h⟩ := h
            rw [e58]
            obtain ⟨k59, h⟩ := h
            refine at_callV mb_Store_issue tw_761 tw_762 cok8 k59 (index := 198) tw_913 [.int (mI m46 b16 0), .int (l2), .int (mI m46 b16 2)] [] rfl rfl (by decide) 87 rfl (by decide +kernel) (Call.toI (CI.monoE h (fun x60 m61 h y62 => ?_)))
            have k63 : mK m61 t = 12 := y62.k k48 (by decide)
            have k64 : mK m61 b2 = 4 := y62.k k49 (by decide)
            have k65 : mK m61 b5 = 9 := y62.k k50 (by decide)
            have k66 : mK m61 b16 = 7 := y62.k k51 (by decide)
            have k67 : mK m61 b20 = 4 := y62.k k52 (by decide)
            have k68 : mK m61 b23 = 9 := y62.k k53 (by decide)
            have k69 : mK m61 b54 = 4 := y62.k k56 (by decide)
            have k70 : mK m61 b57 = 9 := y62.k k59 (by decide)
            exact at_iret rfl (by decide +kernel) h
          · rw [if_neg c45] at h
            refine at_bipush (n := (-7)) (-7 : Int32) 57 rfl (by decide +kernel) (by decide +kernel) ?_
            exact at_iret rfl (by decide +kernel) h
        · rw [if_neg c35] at h
          refine at_bipush (n := (-3)) (-3 : Int32) 47 rfl (by decide +kernel) (by decide +kernel) ?_
          exact at_iret rfl (by decide +kernel) h
      · rw [if_neg c19] at h
        refine at_bipush (n := (-2)) (-2 : Int32) 31 rfl (by decide +kernel) (by decide +kernel) ?_
        exact at_iret rfl (by decide +kernel) h
set_option maxRecDepth 20000 in
set_option maxHeartbeats 4000000 in
theorem en_SL_give (g : Gc) {lv : Nat} {t : Nat} {l1 : Int32} {l2 : Int32} {m : Mm} {Q : Int32 → Mm → Prop} (h : mK m t = 12 ∧ (∃ b2, mR m t 1 = some b2 ∧ (mK m b2 = 4 ∧ (∃ b5, mR m b2 3 = some b5 ∧ (mK m b5 = 9 ∧ (CR g M_Store_find lv [va_rf (some b5), .int (l1)] m (fun x8 m9 => (if (x8 : Option Nat) = none then (Q (-2 : Int32) m9) else (∃ b15, x8 = some b15 ∧ (mK m9 b15 = 7 ∧ (if (mI m9 b15 1) = 0 then (Q (-2 : Int32) m9) else (∃ b19, mR m9 t 1 = some b19 ∧ (mK m9 b19 = 4 ∧ (CI g M_Land_hasGrower lv [va_rf (some b19), .int (l2)] m9 (fun x22 m23 => (if (x22) = 0 then (Q (-2 : Int32) m23) else (CI g M_Receipt_isPledged lv [va_rf (some b15)] m23 (fun x31 m32 => (if (x31) = 0 then (∀ m40, m40 = sI m32 b15 0 l2 → (Q (0 : Int32) m40)) else (Q (-7 : Int32) m32)))))))))))))))))))) : CI g M_SL_give (lv + 1) [va_rf (some t), .int (l1), .int (l2)] m Q := by
  refine Call.of (by decide +kernel) (Nat.le_of_ble_eq_true rfl) ?_
  show At g M_SL_give (lv + 1) 0 [(0, va_rf (some t)), (1, .int (l1)), (2, .int (l2))] [] m (QI Q)
  refine at_aload_n (i := 0) 0 1 rfl (by decide +kernel) rfl ?_
  obtain ⟨k1, h⟩ := h
  refine at_get (index := 21) (v := va_rf (mR m t 1)) cok11 1 4 rfl (by decide +kernel) k1 (by decide +kernel) tw_441 rfl ?_
  obtain ⟨b2, e3, h⟩ := h
  rw [e3]
  obtain ⟨k4, h⟩ := h
  refine at_get (index := 160) (v := va_rf (mR m b2 3)) cok3 3 7 rfl (by decide +kernel) k4 (by decide +kernel) tw_291 rfl ?_
  refine at_iload_n (i := 1) 1 8 rfl (by decide +kernel) rfl ?_
  obtain ⟨b5, e6, h⟩ := h
  rw [e6]
  obtain ⟨k7, h⟩ := h
  refine at_callV mb_Store_find tw_904 tw_905 cok8 k7 (index := 178) tw_903 [.int (l1)] [] rfl rfl (by decide) 11 rfl (by decide +kernel) (Call.toR (CR.monoE h (fun x8 m9 h y10 => ?_)))
  have k11 : mK m9 t = 12 := y10.k k1 (by decide)
  have k12 : mK m9 b2 = 4 := y10.k k4 (by decide)
  have k13 : mK m9 b5 = 9 := y10.k k7 (by decide)
  refine at_astore_n (i := 3) (lc' := [(0, va_rf (some t)), (2, .int (l2)), (3, va_rf (x8))]) [1, 3, 0] 12 rfl (by decide +kernel) (by decide +kernel) rfl ?_
  refine at_aload_n (i := 3) 2 13 rfl (by decide +kernel) rfl ?_
  refine at_ifnull (off := 21) 34 16 rfl (by decide +kernel) (by decide +kernel) (fun c14 => ?_) (fun c14 => ?_)
  · rw [if_pos c14] at h
    refine at_bipush (n := (-2)) (-2 : Int32) 36 rfl (by decide +kernel) (by decide +kernel) ?_
    exact at_iret rfl (by decide +kernel) h
  · rw [if_neg c14] at h
    refine at_aload_n (i := 3) 2 17 rfl (by decide +kernel) rfl ?_
    obtain ⟨b15, e16, h⟩ := h
    rw [e16]
    obtain ⟨k17, h⟩ := h
    refine at_get (index := 182) (v := .int (mI m9 b15 1)) cok6 1 20 rfl (by decide +kernel) k17 (by decide +kernel) tw_777 rfl ?_
    refine at_if_eq (off := 14) 34 23 rfl (by decide +kernel) (by decide +kernel) (fun c18 => ?_) (fun c18 => ?_)
    · rw [if_pos c18] at h
      refine at_bipush (n := (-2)) (-2 : Int32) 36 rfl (by decide +kernel) (by decide +kernel) ?_
      exact at_iret rfl (by decide +kernel) h
    · rw [if_neg c18] at h
      refine at_aload_n (i := 0) 0 24 rfl (by decide +kernel) rfl ?_
      refine at_get (index := 21) (v := va_rf (mR m9 t 1)) cok11 1 27 rfl (by decide +kernel) k11 (by decide +kernel) tw_441 rfl ?_
      refine at_iload_n (i := 2) 1 28 rfl (by decide +kernel) rfl ?_
      obtain ⟨b19, e20, h⟩ := h
      rw [e20]
      obtain ⟨k21, h⟩ := h
      refine at_callV mb_Land_hasGrower tw_666 tw_667 cok3 k21 (index := 139) tw_665 [.int (l2)] [] rfl rfl (by decide) 31 rfl (by decide +kernel) (Call.toI (CI.monoE h (fun x22 m23 h y24 => ?_)))
      have k25 : mK m23 t = 12 := y24.k k11 (by decide)
      have k26 : mK m23 b2 = 4 := y24.k k12 (by decide)
      have k27 : mK m23 b5 = 9 := y24.k k13 (by decide)
      have k28 : mK m23 b15 = 7 := y24.k k17 (by decide)
      have k29 : mK m23 b19 = 4 := y24.k k21 (by decide)
      refine at_if_ne (off := 6) 37 34 rfl (by decide +kernel) (by decide +kernel) (fun c30 => ?_) (fun c30 => ?_)
      · rw [if_neg c30] at h
        refine at_aload_n (i := 3) 2 38 rfl (by decide +kernel) rfl ?_
        refine at_callV mb_Receipt_isPledged tw_910 tw_911 cok6 k28 (index := 191) tw_909 [] [] rfl rfl (by decide) 41 rfl (by decide +kernel) (Call.toI (CI.monoE h (fun x31 m32 h y33 => ?_)))
        have k34 : mK m32 t = 12 := y33.k k25 (by decide)
        have k35 : mK m32 b2 = 4 := y33.k k26 (by decide)
        have k36 : mK m32 b5 = 9 := y33.k k27 (by decide)
        have k37 : mK m32 b15 = 7 := y33.k k28 (by decide)
        have k38 : mK m32 b19 = 4 := y33.k k29 (by decide)
        refine at_if_eq (off := 6) 47 44 rfl (by decide +kernel) (by decide +kernel) (fun c39 => ?_) (fun c39 => ?_)
        · rw [if_pos c39] at h
          refine at_aload_n (i := 3) 2 48 rfl (by decide +kernel) rfl ?_
          refine at_iload_n (i := 2) 1 49 rfl (by decide +kernel) rfl ?_
          refine at_putI (index := 194) cok6 0 52 rfl (by decide +kernel) k37 (by decide +kernel) tw_774 rfl rfl rfl (fun m40 e41 => ?_)
          replace h := h m40 e41
          have k42 : mK m40 t = 12 := by rw [e41]; exact k34
          have k43 : mK m40 b2 = 4 := by rw [e41]; exact k35
          have k44 : mK m40 b5 = 9 := by rw [e41]; exact k36
          have k45 : mK m40 b15 = 7 := by rw [e41]; exact k37
          have k46 : mK m40 b19 = 4 := by rw [e41]; exact k38
          refine at_iconst (n := 0) (0 : Int32) 53 rfl (by decide +kernel) (by decide +kernel) ?_
          exact at_iret rfl (by decide +kernel) h
        · rw [if_neg c39] at h
          refine at_bipush (n := (-7)) (-7 : Int32) 46 rfl (by decide +kernel) (by decide +kernel) ?_
          exact at_iret rfl (by decide +kernel) h
      · rw [if_pos c30] at h
        refine at_bipush (n := (-2)) (-2 : Int32) 36 rfl (by decide +kernel) (by decide +kernel) ?_
        exact at_iret rfl (by decide +kernel) h
set_option maxRecDepth 20000 in
set_option maxHeartbeats 4000000 in
theorem bk_SL_pledge_103 (g : Gc) {lv : Nat} {t : Nat} {l2 : Int32} {l3 : Int32} {l4 : Option Nat} {m : Mm} {Q : Int64 → Mm → Prop} (h : mK m t = 12 ∧ (∃ b2, mR m t 1 = some b2 ∧ (mK m b2 = 4 ∧ (CJ g M_Land_offer lv [va_rf (some b2), va_rf (l4), .int (l2)] m (fun x5 m6 => (if ((0 : Int64)) < (x5) then (∃ b11, mR m6 t 1 = some b11 ∧ (mK m6 b11 = 4 ∧ (CV g M_Land_lend lv [va_rf (some b11), va_rf (l4), .int (l2), .long (x5), .int ((mI m6 b11 9) + l3)] m6 (fun m14 => (Q x5 m14))))) else (Q (-8 : Int64) m6))))))) : At g M_SL_pledge (lv + 1) 103 [(0, va_rf (some t)), (2, .int (l2)), (3, .int (l3)), (4, va_rf (l4))] [] m (QJ Q) := by
  refine at_aload_n (i := 0) 0 104 rfl (by decide +kernel) rfl ?_
  obtain ⟨k1, h⟩ := h
  refine at_get (index := 21) (v := va_rf (mR m t 1)) cok11 1 107 rfl (by decide +kernel) k1 (by decide +kernel) tw_441 rfl ?_
  refine at_aload (i := 4) 3 109 rfl (by decide +kernel) rfl ?_
  refine at_iload_n (i := 2) 1 110 rfl (by decide +kernel) rfl ?_
  obtain ⟨b2, e3, h⟩ := h
  rw [e3]
  obtain ⟨k4, h⟩ := h
  refine at_callV mb_Land_offer tw_925 tw_926 cok3 k4 (index := 217) tw_924 [va_rf (l4), .int (l2)] [] rfl rfl (by decide) 113 rfl (by decide +kernel) (Call.toJ (CJ.monoE h (fun x5 m6 h y7 => ?_)))
  have k8 : mK m6 t = 12 := y7.k k1 (by decide)
  have k9 : mK m6 b2 = 4 := y7.k k4 (by decide)
  refine at_lstore (i := 6) (lc' := [(0, va_rf (some t)), (2, .int (l2)), (3, .int (l3)), (4, va_rf (l4)), (6, .long (x5))]) [1, 2, 3, 4, 0] 115 rfl (by decide +kernel) (by decide +kernel) rfl ?_
  refine at_lload (i := 6) 4 117 rfl (by decide +kernel) rfl ?_
  refine at_lconst (n := 0) (0 : Int64) 118 rfl (by decide +kernel) (by decide +kernel) ?_
  refine at_lif_gt (off := 7) 119 126 122 rfl rfl (by decide +kernel) (by decide +kernel) (by decide +kernel) (fun c10 => ?_) (fun c10 => ?_)
  · rw [if_pos c10] at h
    refine at_aload_n (i := 0) 0 127 rfl (by decide +kernel) rfl ?_
    refine at_get (index := 21) (v := va_rf (mR m6 t 1)) cok11 1 130 rfl (by decide +kernel) k8 (by decide +kernel) tw_441 rfl ?_
    refine at_aload (i := 4) 3 132 rfl (by decide +kernel) rfl ?_
    refine at_iload_n (i := 2) 1 133 rfl (by decide +kernel) rfl ?_
    refine at_lload (i := 6) 4 135 rfl (by decide +kernel) rfl ?_
    refine at_aload_n (i := 0) 0 136 rfl (by decide +kernel) rfl ?_
    refine at_get (index := 21) (v := va_rf (mR m6 t 1)) cok11 1 139 rfl (by decide +kernel) k8 (by decide +kernel) tw_441 rfl ?_
    obtain ⟨b11, e12, h⟩ := h
    rw [e12]
    obtain ⟨k13, h⟩ := h
    refine at_get (index := 106) (v := .int (mI m6 b11 9)) cok3 9 142 rfl (by decide +kernel) k13 (by decide +kernel) tw_300 rfl ?_
    refine at_iload_n (i := 3) 2 143 rfl (by decide +kernel) rfl ?_
    refine at_iadd 144 rfl (by decide +kernel) ?_
    refine at_callV mb_Land_lend tw_931 tw_932 cok3 k13 (index := 223) tw_930 [va_rf (l4), .int (l2), .long (x5), .int ((mI m6 b11 9) + l3)] [] rfl rfl (by decide) 147 rfl (by decide +kernel) (Call.toV (CV.monoE h (fun m14 h y15 => ?_)))
    have k16 : mK m14 t = 12 := y15.k k8 (by decide)
    have k17 : mK m14 b2 = 4 := y15.k k9 (by decide)
    have k18 : mK m14 b11 = 4 := y15.k k13 (by decide)
    refine at_lload (i := 6) 4 149 rfl (by decide +kernel) rfl ?_
    exact at_lret rfl (by decide +kernel) h
  · rw [if_neg c10] at h
    refine at_ldc2 (index := 221) (-8 : Int64) 125 rfl (by decide +kernel) tw_929 ?_
    exact at_lret rfl (by decide +kernel) h
set_option maxRecDepth 20000 in
set_option maxHeartbeats 4000000 in
theorem bk_SL_pledge_41 (g : Gc) {lv : Nat} {t : Nat} {l2 : Int32} {l3 : Int32} {l4 : Option Nat} {s0 : Int32} {m : Mm} {Q : Int64 → Mm → Prop} (h : if (s0) = 0 then (Q (-2 : Int64) m) else (CI g M_SL_isWithin lv [.int (l2), .int ((0 : Int32)), .int ((2 : Int32))] m (fun x2 m3 => (if (x2) = 0 then (Q (-2 : Int64) m3) else (CI g M_SL_isWithin lv [.int (l3), .int ((1 : Int32)), .int ((9 : Int32))] m3 (fun x6 m7 => (if (x6) = 0 then (Q (-2 : Int64) m7) else (∃ b10, l4 = some b10 ∧ (mK m7 b10 = 7 ∧ (if (mR m7 b10 4 : Option Nat) = none then (if (mR m7 b10 3 : Option Nat) = none then (At g M_SL_pledge (lv + 1) 103 [(0, va_rf (some t)), (2, .int (l2)), (3, .int (l3)), (4, va_rf (some b10))] [] m7 (QJ Q)) else (∃ b15, mR m7 b10 3 = some b15 ∧ (mK m7 b15 = 6 ∧ (if (mI m7 b15 0) = (l2) then (Q (-7 : Int64) m7) else (At g M_SL_pledge (lv + 1) 103 [(0, va_rf (some t)), (2, .int (l2)), (3, .int (l3)), (4, va_rf (some b10))] [] m7 (QJ Q)))))) else (Q (-7 : Int64) m7))))))))))) : At g M_SL_pledge (lv + 1) 41 [(0, va_rf (some t)), (2, .int (l2)), (3, .int (l3)), (4, va_rf (l4))] [.int (s0)] m (QJ Q) := by
  refine at_istore (i := 5) (lc' := [(0, va_rf (some t)), (2, .int (l2)), (3, .int (l3)), (4, va_rf (l4)), (5, .int (s0))]) [1, 2, 3, 4, 0] 43 rfl (by decide +kernel) (by decide +kernel) (by generalize l4 = rr; cases rr <;> rfl) ?_
  refine at_iload (i := 5) 4 45 rfl (by decide +kernel) rfl ?_
  refine at_if_eq (off := 22) 67 48 rfl (by decide +kernel) (by decide +kernel) (fun c1 => ?_) (fun c1 => ?_)
  · rw [if_pos c1] at h
    refine at_ldc2 (index := 201) (-2 : Int64) 70 rfl (by decide +kernel) tw_922 ?_
    exact at_lret rfl (by decide +kernel) h
  · rw [if_neg c1] at h
    refine at_iload_n (i := 2) 1 49 rfl (by decide +kernel) rfl ?_
    refine at_iconst (n := 0) (0 : Int32) 50 rfl (by decide +kernel) (by decide +kernel) ?_
    refine at_iconst (n := 2) (2 : Int32) 51 rfl (by decide +kernel) (by decide +kernel) ?_
    refine at_callS mb_SL_isWithin tw_471 (index := 64) tw_470 [.int (l2), .int ((0 : Int32)), .int ((2 : Int32))] [] rfl rfl (by decide) 54 rfl (by decide +kernel) (Call.toI (CI.monoE h (fun x2 m3 h y4 => ?_)))
    refine at_if_eq (off := 13) 67 57 rfl (by decide +kernel) (by decide +kernel) (fun c5 => ?_) (fun c5 => ?_)
    · rw [if_pos c5] at h
      refine at_ldc2 (index := 201) (-2 : Int64) 70 rfl (by decide +kernel) tw_922 ?_
      exact at_lret rfl (by decide +kernel) h
    · rw [if_neg c5] at h
      refine at_iload_n (i := 3) 2 58 rfl (by decide +kernel) rfl ?_
      refine at_iconst (n := 1) (1 : Int32) 59 rfl (by decide +kernel) (by decide +kernel) ?_
      refine at_bipush (n := 9) (9 : Int32) 61 rfl (by decide +kernel) (by decide +kernel) ?_
      refine at_callS mb_SL_isWithin tw_471 (index := 64) tw_470 [.int (l3), .int ((1 : Int32)), .int ((9 : Int32))] [] rfl rfl (by decide) 64 rfl (by decide +kernel) (Call.toI (CI.monoE h (fun x6 m7 h y8 => ?_)))
      refine at_if_ne (off := 7) 71 67 rfl (by decide +kernel) (by decide +kernel) (fun c9 => ?_) (fun c9 => ?_)
      · rw [if_neg c9] at h
        refine at_aload (i := 4) 3 73 rfl (by decide +kernel) rfl ?_
        obtain ⟨b10, e11, h⟩ := h
        rw [e11]
        obtain ⟨k12, h⟩ := h
        refine at_get (index := 203) (v := va_rf (mR m7 b10 4)) cok6 4 76 rfl (by decide +kernel) k12 (by decide +kernel) tw_788 rfl ?_
        refine at_ifnonnull (off := 23) 99 79 rfl (by decide +kernel) (by decide +kernel) (fun c13 => ?_) (fun c13 => ?_)
        · rw [if_neg c13] at h
          refine at_ldc2 (index := 215) (-7 : Int64) 102 rfl (by decide +kernel) tw_923 ?_
          exact at_lret rfl (by decide +kernel) h
        · rw [if_pos c13] at h
          refine at_aload (i := 4) 3 81 rfl (by decide +kernel) rfl ?_
          refine at_get (index := 207) (v := va_rf (mR m7 b10 3)) cok6 3 84 rfl (by decide +kernel) k12 (by decide +kernel) tw_784 rfl ?_
          refine at_ifnull (off := 19) 103 87 rfl (by decide +kernel) (by decide +kernel) (fun c14 => ?_) (fun c14 => ?_)
          · rw [if_pos c14] at h
            exact At.sub [0, 1, 2, 3] rfl h
          · rw [if_neg c14] at h
            refine at_aload (i := 4) 3 89 rfl (by decide +kernel) rfl ?_
            refine at_get (index := 207) (v := va_rf (mR m7 b10 3)) cok6 3 92 rfl (by decide +kernel) k12 (by decide +kernel) tw_784 rfl ?_
            obtain ⟨b15, e16, h⟩ := h
            rw [e16]
            obtain ⟨k17, h⟩ := h
            refine at_get (index := 210) (v := .int (mI m7 b15 0)) cok5 0 95 rfl (by decide +kernel) k17 (by decide +kernel) tw_941 rfl ?_
            refine at_iload_n (i := 2) 1 96 rfl (by decide +kernel) rfl ?_
            refine at_icmp_ne (off := 7) 103 99 rfl (by decide +kernel) (by decide +kernel) (fun c18 => ?_) (fun c18 => ?_)
            · rw [if_neg c18] at h
              exact At.sub [0, 1, 2, 3] rfl h
            · rw [if_pos c18] at h
              refine at_ldc2 (index := 215) (-7 : Int64) 102 rfl (by decide +kernel) tw_923 ?_
              exact at_lret rfl (by decide +kernel) h
      · rw [if_pos c9] at h
        refine at_ldc2 (index := 201) (-2 : Int64) 70 rfl (by decide +kernel) tw_922 ?_
        exact at_lret rfl (by decide +kernel) h
set_option maxRecDepth 20000 in
set_option maxHeartbeats 4000000 in
theorem bk_SL_pledge_40 (g : Gc) {lv : Nat} {t : Nat} {l2 : Int32} {l3 : Int32} {l4 : Option Nat} {m : Mm} {Q : Int64 → Mm → Prop} (h : At g M_SL_pledge (lv + 1) 41 [(0, va_rf (some t)), (2, .int (l2)), (3, .int (l3)), (4, va_rf (l4))] [.int ((0 : Int32))] m (QJ Q)) : At g M_SL_pledge (lv + 1) 40 [(0, va_rf (some t)), (2, .int (l2)), (3, .int (l3)), (4, va_rf (l4))] [] m (QJ Q) := by
  refine at_iconst (n := 0) (0 : Int32) 41 rfl (by decide +kernel) (by decide +kernel) ?_
  exact h
set_option maxRecDepth 20000 in
set_option maxHeartbeats 4000000 in
theorem en_SL_pledge (g : Gc) {lv : Nat} {t : Nat} {l1 : Int32} {l2 : Int32} {l3 : Int32} {m : Mm} {Q : Int64 → Mm → Prop} (h : mK m t = 12 ∧ (∃ b2, mR m t 1 = some b2 ∧ (mK m b2 = 4 ∧ (∃ b5, mR m b2 3 = some b5 ∧ (mK m b5 = 9 ∧ (CR g M_Store_find lv [va_rf (some b5), .int (l1)] m (fun x8 m9 => (if (x8 : Option Nat) = none then (At g M_SL_pledge (lv + 1) 40 [(0, va_rf (some t)), (2, .int (l2)), (3, .int (l3)), (4, va_rf (x8))] [] m9 (QJ Q)) else (∃ b15, x8 = some b15 ∧ (mK m9 b15 = 7 ∧ (if (mI m9 b15 1) ≤ 0 then (At g M_SL_pledge (lv + 1) 40 [(0, va_rf (some t)), (2, .int (l2)), (3, .int (l3)), (4, va_rf (some b15))] [] m9 (QJ Q)) else (if ((12 : Int32)) ≤ (mI m9 b15 0) then (At g M_SL_pledge (lv + 1) 40 [(0, va_rf (some t)), (2, .int (l2)), (3, .int (l3)), (4, va_rf (some b15))] [] m9 (QJ Q)) else (At g M_SL_pledge (lv + 1) 41 [(0, va_rf (some t)), (2, .int (l2)), (3, .int (l3)), (4, va_rf (some b15))] [.int ((1 : Int32))] m9 (QJ Q)))))))))))))) : CJ g M_SL_pledge (lv + 1) [va_rf (some t), .int (l1), .int (l2), .int (l3)] m Q := by
  refine Call.of (by decide +kernel) (Nat.le_of_ble_eq_true rfl) ?_
  show At g M_SL_pledge (lv + 1) 0 [(0, va_rf (some t)), (1, .int (l1)), (2, .int (l2)), (3, .int (l3))] [] m (QJ Q)
  refine at_aload_n (i := 0) 0 1 rfl (by decide +kernel) rfl ?_
  obtain ⟨k1, h⟩ := h
  refine at_get (index := 21) (v := va_rf (mR m t 1)) cok11 1 4 rfl (by decide +kernel) k1 (by decide +kernel) tw_441 rfl ?_
  obtain ⟨b2, e3, h⟩ := h
  rw [e3]
  obtain ⟨k4, h⟩ := h
  refine at_get (index := 160) (v := va_rf (mR m b2 3)) cok3 3 7 rfl (by decide +kernel) k4 (by decide +kernel) tw_291 rfl ?_
  refine at_iload_n (i := 1) 1 8 rfl (by decide +kernel) rfl ?_
  obtain ⟨b5, e6, h⟩ := h
  rw [e6]
  obtain ⟨k7, h⟩ := h
  refine at_callV mb_Store_find tw_904 tw_905 cok8 k7 (index := 178) tw_903 [.int (l1)] [] rfl rfl (by decide) 11 rfl (by decide +kernel) (Call.toR (CR.monoE h (fun x8 m9 h y10 => ?_)))
  have k11 : mK m9 t = 12 := y10.k k1 (by decide)
  have k12 : mK m9 b2 = 4 := y10.k k4 (by decide)
  have k13 : mK m9 b5 = 9 := y10.k k7 (by decide)
  refine at_astore (i := 4) (lc' := [(0, va_rf (some t)), (2, .int (l2)), (3, .int (l3)), (4, va_rf (x8))]) [1, 3, 4, 0] 13 rfl (by decide +kernel) (by decide +kernel) rfl ?_
  refine at_aload (i := 4) 3 15 rfl (by decide +kernel) rfl ?_
  refine at_ifnull (off := 25) 40 18 rfl (by decide +kernel) (by decide +kernel) (fun c14 => ?_) (fun c14 => ?_)
  · rw [if_pos c14] at h
    exact h
  · rw [if_neg c14] at h
    refine at_aload (i := 4) 3 20 rfl (by decide +kernel) rfl ?_
    obtain ⟨b15, e16, h⟩ := h
    rw [e16]
    obtain ⟨k17, h⟩ := h
    refine at_get (index := 182) (v := .int (mI m9 b15 1)) cok6 1 23 rfl (by decide +kernel) k17 (by decide +kernel) tw_777 rfl ?_
    refine at_if_le (off := 17) 40 26 rfl (by decide +kernel) (by decide +kernel) (fun c18 => ?_) (fun c18 => ?_)
    · rw [if_pos c18] at h
      exact h
    · rw [if_neg c18] at h
      refine at_aload (i := 4) 3 28 rfl (by decide +kernel) rfl ?_
      refine at_get (index := 194) (v := .int (mI m9 b15 0)) cok6 0 31 rfl (by decide +kernel) k17 (by decide +kernel) tw_774 rfl ?_
      refine at_bipush (n := 12) (12 : Int32) 33 rfl (by decide +kernel) (by decide +kernel) ?_
      refine at_icmp_ge (off := 7) 40 36 rfl (by decide +kernel) (by decide +kernel) (fun c19 => ?_) (fun c19 => ?_)
      · rw [if_pos c19] at h
        exact h
      · rw [if_neg c19] at h
        refine at_iconst (n := 1) (1 : Int32) 37 rfl (by decide +kernel) (by decide +kernel) ?_
        refine at_goto (off := 4) 41 (by decide +kernel) (by decide +kernel) ?_
        exact h
set_option maxRecDepth 20000 in
set_option maxHeartbeats 4000000 in
theorem bk_SL_pay_25 (g : Gc) {lv : Nat} {t : Nat} {l3 : Option Nat} {s0 : Option Nat} {m : Mm} {Q : Int64 → Mm → Prop} (h : if (s0 : Option Nat) = none then (Q (-2 : Int64) m) else (mK m t = 12 ∧ (∃ b3, l3 = some b3 ∧ (mK m b3 = 7 ∧ (∃ b6, mR m t 1 = some b6 ∧ (mK m b6 = 4 ∧ (CJ g M_Land_moneyOf lv [va_rf (some b6), .int (mI m b3 0)] m (fun x9 m10 => (∃ b15, s0 = some b15 ∧ (mK m10 b15 = 6 ∧ (if (mL m10 b15 2) ≤ (x9) then (∃ b19, mR m10 t 1 = some b19 ∧ (mK m10 b19 = 4 ∧ (CV g M_Land_payBack lv [va_rf (some b19), va_rf (some b3), va_rf (some b15)] m10 (fun m22 => (Q (mL m22 b15 2) m22))))) else (Q (-7 : Int64) m10)))))))))))) : At g M_SL_pay (lv + 1) 25 [(0, va_rf (some t)), (3, va_rf (l3))] [va_rf (s0)] m (QJ Q) := by
  refine at_astore (i := 4) (lc' := [(0, va_rf (some t)), (3, va_rf (l3)), (4, va_rf (s0))]) [1, 2, 0] 27 rfl (by decide +kernel) (by decide +kernel) (by generalize l3 = rr; cases rr <;> rfl) ?_
  refine at_aload (i := 4) 2 29 rfl (by decide +kernel) rfl ?_
  refine at_ifnonnull (off := 7) 36 32 rfl (by decide +kernel) (by decide +kernel) (fun c1 => ?_) (fun c1 => ?_)
  · rw [if_neg c1] at h
    refine at_aload_n (i := 0) 0 37 rfl (by decide +kernel) rfl ?_
    obtain ⟨k2, h⟩ := h
    refine at_get (index := 21) (v := va_rf (mR m t 1)) cok11 1 40 rfl (by decide +kernel) k2 (by decide +kernel) tw_441 rfl ?_
    refine at_aload_n (i := 3) 1 41 rfl (by decide +kernel) rfl ?_
    obtain ⟨b3, e4, h⟩ := h
    rw [e4]
    obtain ⟨k5, h⟩ := h
    refine at_get (index := 194) (v := .int (mI m b3 0)) cok6 0 44 rfl (by decide +kernel) k5 (by decide +kernel) tw_774 rfl ?_
    obtain ⟨b6, e7, h⟩ := h
    rw [e7]
    obtain ⟨k8, h⟩ := h
    refine at_callV mb_Land_moneyOf tw_873 tw_874 cok3 k8 (index := 231) tw_968 [.int (mI m b3 0)] [] rfl rfl (by decide) 47 rfl (by decide +kernel) (Call.toJ (CJ.monoE h (fun x9 m10 h y11 => ?_)))
    have k12 : mK m10 t = 12 := y11.k k2 (by decide)
    have k13 : mK m10 b3 = 7 := y11.k k5 (by decide)
    have k14 : mK m10 b6 = 4 := y11.k k8 (by decide)
    refine at_aload (i := 4) 2 49 rfl (by decide +kernel) rfl ?_
    obtain ⟨b15, e16, h⟩ := h
    rw [e16]
    obtain ⟨k17, h⟩ := h
    refine at_get (index := 235) (v := .long (mL m10 b15 2)) cok5 2 52 rfl (by decide +kernel) k17 (by decide +kernel) tw_947 rfl ?_
    refine at_lif_ge (off := 7) 53 60 56 rfl rfl (by decide +kernel) (by decide +kernel) (by decide +kernel) (fun c18 => ?_) (fun c18 => ?_)
    · rw [if_pos c18] at h
      refine at_aload_n (i := 0) 0 61 rfl (by decide +kernel) rfl ?_
      refine at_get (index := 21) (v := va_rf (mR m10 t 1)) cok11 1 64 rfl (by decide +kernel) k12 (by decide +kernel) tw_441 rfl ?_
      refine at_aload_n (i := 3) 1 65 rfl (by decide +kernel) rfl ?_
      refine at_aload (i := 4) 2 67 rfl (by decide +kernel) rfl ?_
      obtain ⟨b19, e20, h⟩ := h
      rw [e20]
      obtain ⟨k21, h⟩ := h
      refine at_callV mb_Land_payBack tw_877 tw_878 cok3 k21 (index := 239) tw_969 [va_rf (some b3), va_rf (some b15)] [] rfl rfl (by decide) 70 rfl (by decide +kernel) (Call.toV (CV.monoE h (fun m22 h y23 => ?_)))
      have k24 : mK m22 t = 12 := y23.k k12 (by decide)
      have k25 : mK m22 b3 = 7 := y23.k k13 (by decide)
      have k26 : mK m22 b6 = 4 := y23.k k14 (by decide)
      have k27 : mK m22 b15 = 6 := y23.k k17 (by decide)
      have k28 : mK m22 b19 = 4 := y23.k k21 (by decide)
      refine at_aload (i := 4) 2 72 rfl (by decide +kernel) rfl ?_
      refine at_get (index := 235) (v := .long (mL m22 b15 2)) cok5 2 75 rfl (by decide +kernel) k27 (by decide +kernel) tw_947 rfl ?_
      exact at_lret rfl (by decide +kernel) h
    · rw [if_neg c18] at h
      refine at_ldc2 (index := 215) (-7 : Int64) 59 rfl (by decide +kernel) tw_923 ?_
      exact at_lret rfl (by decide +kernel) h
  · rw [if_pos c1] at h
    refine at_ldc2 (index := 201) (-2 : Int64) 35 rfl (by decide +kernel) tw_922 ?_
    exact at_lret rfl (by decide +kernel) h
set_option maxRecDepth 20000 in
set_option maxHeartbeats 4000000 in
theorem en_SL_pay (g : Gc) {lv : Nat} {t : Nat} {l1 : Int32} {l2 : Int32} {m : Mm} {Q : Int64 → Mm → Prop} (h : mK m t = 12 ∧ (∃ b2, mR m t 1 = some b2 ∧ (mK m b2 = 4 ∧ (∃ b5, mR m b2 3 = some b5 ∧ (mK m b5 = 9 ∧ (CR g M_Store_find lv [va_rf (some b5), .int (l1)] m (fun x8 m9 => (if (x8 : Option Nat) = none then (At g M_SL_pay (lv + 1) 25 [(0, va_rf (some t)), (3, va_rf (x8))] [va_rf (none)] m9 (QJ Q)) else (∃ b15, x8 = some b15 ∧ (mK m9 b15 = 7 ∧ (CR g M_Receipt_loanOf lv [va_rf (some b15), .int (l2)] m9 (fun x18 m19 => (At g M_SL_pay (lv + 1) 25 [(0, va_rf (some t)), (3, va_rf (some b15))] [va_rf (x18)] m19 (QJ Q)))))))))))))) : CJ g M_SL_pay (lv + 1) [va_rf (some t), .int (l1), .int (l2)] m Q := by
  refine Call.of (by decide +kernel) (Nat.le_of_ble_eq_true rfl) ?_
  show At g M_SL_pay (lv + 1) 0 [(0, va_rf (some t)), (1, .int (l1)), (2, .int (l2))] [] m (QJ Q)
  refine at_aload_n (i := 0) 0 1 rfl (by decide +kernel) rfl ?_
  obtain ⟨k1, h⟩ := h
  refine at_get (index := 21) (v := va_rf (mR m t 1)) cok11 1 4 rfl (by decide +kernel) k1 (by decide +kernel) tw_441 rfl ?_
  obtain ⟨b2, e3, h⟩ := h
  rw [e3]
  obtain ⟨k4, h⟩ := h
  refine at_get (index := 160) (v := va_rf (mR m b2 3)) cok3 3 7 rfl (by decide +kernel) k4 (by decide +kernel) tw_291 rfl ?_
  refine at_iload_n (i := 1) 1 8 rfl (by decide +kernel) rfl ?_
  obtain ⟨b5, e6, h⟩ := h
  rw [e6]
  obtain ⟨k7, h⟩ := h
  refine at_callV mb_Store_find tw_904 tw_905 cok8 k7 (index := 178) tw_903 [.int (l1)] [] rfl rfl (by decide) 11 rfl (by decide +kernel) (Call.toR (CR.monoE h (fun x8 m9 h y10 => ?_)))
  have k11 : mK m9 t = 12 := y10.k k1 (by decide)
  have k12 : mK m9 b2 = 4 := y10.k k4 (by decide)
  have k13 : mK m9 b5 = 9 := y10.k k7 (by decide)
  refine at_astore_n (i := 3) (lc' := [(0, va_rf (some t)), (2, .int (l2)), (3, va_rf (x8))]) [1, 3, 0] 12 rfl (by decide +kernel) (by decide +kernel) rfl ?_
  refine at_aload_n (i := 3) 2 13 rfl (by decide +kernel) rfl ?_
  refine at_ifnonnull (off := 7) 20 16 rfl (by decide +kernel) (by decide +kernel) (fun c14 => ?_) (fun c14 => ?_)
  · rw [if_neg c14] at h
    refine at_aload_n (i := 3) 2 21 rfl (by decide +kernel) rfl ?_
    refine at_iload_n (i := 2) 1 22 rfl (by decide +kernel) rfl ?_
    obtain ⟨b15, e16, h⟩ := h
    rw [e16]
    obtain ⟨k17, h⟩ := h
    refine at_callV mb_Receipt_loanOf tw_965 tw_966 cok6 k17 (index := 227) tw_964 [.int (l2)] [] rfl rfl (by decide) 25 rfl (by decide +kernel) (Call.toR (CR.monoE h (fun x18 m19 h y20 => ?_)))
    have k21 : mK m19 t = 12 := y20.k k11 (by decide)
    have k22 : mK m19 b2 = 4 := y20.k k12 (by decide)
    have k23 : mK m19 b5 = 9 := y20.k k13 (by decide)
    have k24 : mK m19 b15 = 7 := y20.k k17 (by decide)
    exact At.sub [0, 2] rfl h
  · rw [if_pos c14] at h
    refine at_null 17 rfl (by decide +kernel) ?_
    refine at_goto (off := 8) 25 (by decide +kernel) (by decide +kernel) ?_
    exact At.sub [0, 2] rfl h
set_option maxRecDepth 20000 in
set_option maxHeartbeats 4000000 in
theorem en_SL_redeem (g : Gc) {lv : Nat} {t : Nat} {l1 : Int32} {m : Mm} {Q : Int32 → Mm → Prop} (h : mK m t = 12 ∧ (∃ b2, mR m t 1 = some b2 ∧ (mK m b2 = 4 ∧ (∃ b5, mR m b2 3 = some b5 ∧ (mK m b5 = 9 ∧ (CR g M_Store_find lv [va_rf (some b5), .int (l1)] m (fun x8 m9 => (if (x8 : Option Nat) = none then (Q (-2 : Int32) m9) else (∃ b15, x8 = some b15 ∧ (mK m9 b15 = 7 ∧ (if (mI m9 b15 1) = 0 then (Q (-2 : Int32) m9) else (∃ b19, mR m9 t 1 = some b19 ∧ (mK m9 b19 = 4 ∧ (CI g M_Land_hasGrower lv [va_rf (some b19), .int (mI m9 b15 0)] m9 (fun x22 m23 => (if (x22) = 0 then (Q (-2 : Int32) m23) else (CI g M_Receipt_isPledged lv [va_rf (some b15)] m23 (fun x31 m32 => (if (x31) = 0 then (∃ b40, mR m32 t 1 = some b40 ∧ (mK m32 b40 = 4 ∧ (if ((3 : Int32)) ≤ ((mI m32 b40 9) - (mI m32 b15 2)) then (∀ m44, m44 = sI m32 b15 1 (0 : Int32) → (∃ b52, mR m44 t 1 = some b52 ∧ (mK m44 b52 = 4 ∧ (∃ b55, mR m44 b52 1 = some b55 ∧ (mK m44 b55 = 19 ∧ (vp_in (mI m44 b15 0) (mN m44 b55) ∧ (∃ b59, mR m44 b55 (mI m44 b15 0).toNatClampNeg = some b59 ∧ (mK m44 b59 = 2 ∧ (∀ m62, m62 = sI m44 b59 9 ((mI m44 b59 9) + (mI m32 b15 1)) → (∃ b73, mR m62 t 1 = some b73 ∧ (mK m62 b73 = 4 ∧ (∃ b76, mR m62 b73 7 = some b76 ∧ (mK m62 b76 = 16 ∧ (vp_in (7 : Int32) (mN m62 b76) ∧ (vp_in (7 : Int32) (mN m62 b76) ∧ (∀ m81, m81 = sL m62 b76 (7 : Int32).toNatClampNeg ((mL m62 b76 (7 : Int32).toNatClampNeg) + ((mI m32 b15 1).toInt64)) → (Q (mI m32 b15 1) m81))))))))))))))))) else (Q (-9 : Int32) m32)))) else (Q (-7 : Int32) m32)))))))))))))))))))) : CI g M_SL_redeem (lv + 1) [va_rf (some t), .int (l1)] m Q := by
  refine Call.of (by decide +kernel) (Nat.le_of_ble_eq_true rfl) ?_
  show At g M_SL_redeem (lv + 1) 0 [(0, va_rf (some t)), (1, .int (l1))] [] m (QI Q)
  refine at_aload_n (i := 0) 0 1 rfl (by decide +kernel) rfl ?_
  obtain ⟨k1, h⟩ := h
  refine at_get (index := 21) (v := va_rf (mR m t 1)) cok11 1 4 rfl (by decide +kernel) k1 (by decide +kernel) tw_441 rfl ?_
  obtain ⟨b2, e3, h⟩ := h
  rw [e3]
  obtain ⟨k4, h⟩ := h
  refine at_get (index := 160) (v := va_rf (mR m b2 3)) cok3 3 7 rfl (by decide +kernel) k4 (by decide +kernel) tw_291 rfl ?_
  refine at_iload_n (i := 1) 1 8 rfl (by decide +kernel) rfl ?_
  obtain ⟨b5, e6, h⟩ := h
  rw [e6]
  obtain ⟨k7, h⟩ := h
  refine at_callV mb_Store_find tw_904 tw_905 cok8 k7 (index := 178) tw_903 [.int (l1)] [] rfl rfl (by decide) 11 rfl (by decide +kernel) (Call.toR (CR.monoE h (fun x8 m9 h y10 => ?_)))
  have k11 : mK m9 t = 12 := y10.k k1 (by decide)
  have k12 : mK m9 b2 = 4 := y10.k k4 (by decide)
  have k13 : mK m9 b5 = 9 := y10.k k7 (by decide)
  refine at_astore_n (i := 2) (lc' := [(0, va_rf (some t)), (2, va_rf (x8))]) [1, 0] 12 rfl (by decide +kernel) (by decide +kernel) rfl ?_
  refine at_aload_n (i := 2) 1 13 rfl (by decide +kernel) rfl ?_
  refine at_ifnull (off := 24) 37 16 rfl (by decide +kernel) (by decide +kernel) (fun c14 => ?_) (fun c14 => ?_)
  · rw [if_pos c14] at h
    refine at_bipush (n := (-2)) (-2 : Int32) 39 rfl (by decide +kernel) (by decide +kernel) ?_
    exact at_iret rfl (by decide +kernel) h
  · rw [if_neg c14] at h
    refine at_aload_n (i := 2) 1 17 rfl (by decide +kernel) rfl ?_
    obtain ⟨b15, e16, h⟩ := h
    rw [e16]
    obtain ⟨k17, h⟩ := h
    refine at_get (index := 182) (v := .int (mI m9 b15 1)) cok6 1 20 rfl (by decide +kernel) k17 (by decide +kernel) tw_777 rfl ?_
    refine at_if_eq (off := 17) 37 23 rfl (by decide +kernel) (by decide +kernel) (fun c18 => ?_) (fun c18 => ?_)
    · rw [if_pos c18] at h
      refine at_bipush (n := (-2)) (-2 : Int32) 39 rfl (by decide +kernel) (by decide +kernel) ?_
      exact at_iret rfl (by decide +kernel) h
    · rw [if_neg c18] at h
      refine at_aload_n (i := 0) 0 24 rfl (by decide +kernel) rfl ?_
      refine at_get (index := 21) (v := va_rf (mR m9 t 1)) cok11 1 27 rfl (by decide +kernel) k11 (by decide +kernel) tw_441 rfl ?_
      refine at_aload_n (i := 2) 1 28 rfl (by decide +kernel) rfl ?_
      refine at_get (index := 194) (v := .int (mI m9 b15 0)) cok6 0 31 rfl (by decide +kernel) k17 (by decide +kernel) tw_774 rfl ?_
      obtain ⟨b19, e20, h⟩ := h
      rw [e20]
      obtain ⟨k21, h⟩ := h
      refine at_callV mb_Land_hasGrower tw_666 tw_667 cok3 k21 (index := 139) tw_665 [.int (mI m9 b15 0)] [] rfl rfl (by decide) 34 rfl (by decide +kernel) (Call.toI (CI.monoE h (fun x22 m23 h y24 => ?_)))
      have k25 : mK m23 t = 12 := y24.k k11 (by decide)
      have k26 : mK m23 b2 = 4 := y24.k k12 (by decide)
      have k27 : mK m23 b5 = 9 := y24.k k13 (by decide)
      have k28 : mK m23 b15 = 7 := y24.k k17 (by decide)
      have k29 : mK m23 b19 = 4 := y24.k k21 (by decide)
      refine at_if_ne (off := 6) 40 37 rfl (by decide +kernel) (by decide +kernel) (fun c30 => ?_) (fun c30 => ?_)
      · rw [if_neg c30] at h
        refine at_aload_n (i := 2) 1 41 rfl (by decide +kernel) rfl ?_
        refine at_callV mb_Receipt_isPledged tw_910 tw_911 cok6 k28 (index := 191) tw_909 [] [] rfl rfl (by decide) 44 rfl (by decide +kernel) (Call.toI (CI.monoE h (fun x31 m32 h y33 => ?_)))
        have k34 : mK m32 t = 12 := y33.k k25 (by decide)
        have k35 : mK m32 b2 = 4 := y33.k k26 (by decide)
        have k36 : mK m32 b5 = 9 := y33.k k27 (by decide)
        have k37 : mK m32 b15 = 7 := y33.k k28 (by decide)
        have k38 : mK m32 b19 = 4 := y33.k k29 (by decide)
        refine at_if_eq (off := 6) 50 47 rfl (by decide +kernel) (by decide +kernel) (fun c39 => ?_) (fun c39 => ?_)
        · rw [if_pos c39] at h
          refine at_aload_n (i := 0) 0 51 rfl (by decide +kernel) rfl ?_
          refine at_get (index := 21) (v := va_rf (mR m32 t 1)) cok11 1 54 rfl (by decide +kernel) k34 (by decide +kernel) tw_441 rfl ?_
          obtain ⟨b40, e41, h⟩ := h
          rw [e41]
          obtain ⟨k42, h⟩ := h
          refine at_get (index := 106) (v := .int (mI m32 b40 9)) cok3 9 57 rfl (by decide +kernel) k42 (by decide +kernel) tw_300 rfl ?_
          refine at_aload_n (i := 2) 1 58 rfl (by decide +kernel) rfl ?_
          refine at_get (index := 197) (v := .int (mI m32 b15 2)) cok6 2 61 rfl (by decide +kernel) k37 (by decide +kernel) tw_780 rfl ?_
          refine at_isub 62 rfl (by decide +kernel) ?_
          refine at_iconst (n := 3) (3 : Int32) 63 rfl (by decide +kernel) (by decide +kernel) ?_
          refine at_icmp_ge (off := 6) 69 66 rfl (by decide +kernel) (by decide +kernel) (fun c43 => ?_) (fun c43 => ?_)
          · rw [if_pos c43] at h
            refine at_aload_n (i := 2) 1 70 rfl (by decide +kernel) rfl ?_
            refine at_get (index := 182) (v := .int (mI m32 b15 1)) cok6 1 73 rfl (by decide +kernel) k37 (by decide +kernel) tw_777 rfl ?_
            refine at_istore_n (i := 3) (lc' := [(0, va_rf (some t)), (2, va_rf (some b15)), (3, .int (mI m32 b15 1))]) [1, 2, 0] 74 rfl (by decide +kernel) (by decide +kernel) rfl ?_
            refine at_aload_n (i := 2) 1 75 rfl (by decide +kernel) rfl ?_
            refine at_iconst (n := 0) (0 : Int32) 76 rfl (by decide +kernel) (by decide +kernel) ?_
            refine at_putI (index := 182) cok6 1 79 rfl (by decide +kernel) k37 (by decide +kernel) tw_777 rfl rfl rfl (fun m44 e45 => ?_)
            replace h := h m44 e45
            have k46 : mK m44 t = 12 := by rw [e45]; exact k34
            have k47 : mK m44 b2 = 4 := by rw [e45]; exact k35
            have k48 : mK m44 b5 = 9 := by rw [e45]; exact k36
            have k49 : mK m44 b15 = 7 := by rw [e45]; exact k37
            have k50 : mK m44 b19 = 4 := by rw [e45]; exact k38
            have k51 : mK m44 b40 = 4 := by rw [e45]; exact k42
            refine at_aload_n (i := 0) 0 80 rfl (by decide +kernel) rfl ?_
            refine at_get (index := 21) (v := va_rf (mR m44 t 1)) cok11 1 83 rfl (by decide +kernel) k46 (by decide +kernel) tw_441 rfl ?_
            obtain ⟨b52, e53, h⟩ := h
            rw [e53]
            obtain ⟨k54, h⟩ := h
            refine at_get (index := 243) (v := va_rf (mR m44 b52 1)) cok3 1 86 rfl (by decide +kernel) k54 (by decide +kernel) tw_287 rfl ?_
            refine at_aload_n (i := 2) 1 87 rfl (by decide +kernel) rfl ?_
            refine at_get (index := 194) (v := .int (mI m44 b15 0)) cok6 0 90 rfl (by decide +kernel) k49 (by decide +kernel) tw_774 rfl ?_
            obtain ⟨b55, e56, h⟩ := h
            rw [e56]
            obtain ⟨k57, h⟩ := h
            obtain ⟨v58, h⟩ := h
            refine at_aaldGrower 91 rfl (by decide +kernel) k57 v58 ?_
            refine at_dup 92 rfl (by decide +kernel) (va_rf_cat _) ?_
            obtain ⟨b59, e60, h⟩ := h
            rw [e60]
            obtain ⟨k61, h⟩ := h
            refine at_get (index := 247) (v := .int (mI m44 b59 9)) cok1 9 95 rfl (by decide +kernel) k61 (by decide +kernel) tw_228 rfl ?_
            refine at_iload_n (i := 3) 2 96 rfl (by decide +kernel) rfl ?_
            refine at_iadd 97 rfl (by decide +kernel) ?_
            refine at_putI (index := 247) cok1 9 100 rfl (by decide +kernel) k61 (by decide +kernel) tw_228 rfl rfl rfl (fun m62 e63 => ?_)
            replace h := h m62 e63
            have k64 : mK m62 t = 12 := by rw [e63]; exact k46
            have k65 : mK m62 b2 = 4 := by rw [e63]; exact k47
            have k66 : mK m62 b5 = 9 := by rw [e63]; exact k48
            have k67 : mK m62 b15 = 7 := by rw [e63]; exact k49
            have k68 : mK m62 b19 = 4 := by rw [e63]; exact k50
            have k69 : mK m62 b40 = 4 := by rw [e63]; exact k51
            have k70 : mK m62 b52 = 4 := by rw [e63]; exact k54
            have k71 : mK m62 b55 = 19 := by rw [e63]; exact k57
            have k72 : mK m62 b59 = 2 := by rw [e63]; exact k61
            refine at_aload_n (i := 0) 0 101 rfl (by decide +kernel) rfl ?_
            refine at_get (index := 21) (v := va_rf (mR m62 t 1)) cok11 1 104 rfl (by decide +kernel) k64 (by decide +kernel) tw_441 rfl ?_
            obtain ⟨b73, e74, h⟩ := h
            rw [e74]
            obtain ⟨k75, h⟩ := h
            refine at_get (index := 252) (v := va_rf (mR m62 b73 7)) cok3 7 107 rfl (by decide +kernel) k75 (by decide +kernel) tw_296 rfl ?_
            refine at_bipush (n := 7) (7 : Int32) 109 rfl (by decide +kernel) (by decide +kernel) ?_
            refine at_dup2_11 110 rfl (by decide +kernel) rfl (va_rf_cat _) ?_
            obtain ⟨b76, e77, h⟩ := h
            rw [e77]
            obtain ⟨k78, h⟩ := h
            obtain ⟨v79, h⟩ := h
            refine at_lald 111 rfl (by decide +kernel) k78 v79 ?_
            refine at_iload_n (i := 3) 2 112 rfl (by decide +kernel) rfl ?_
            refine at_i2l 113 rfl (by decide +kernel) ?_
            refine at_ladd 114 rfl (by decide +kernel) ?_
            obtain ⟨v80, h⟩ := h
            refine at_last 115 rfl (by decide +kernel) k78 v80 (fun m81 e82 => ?_)
            replace h := h m81 e82
            have k83 : mK m81 t = 12 := by rw [e82]; exact k64
            have k84 : mK m81 b2 = 4 := by rw [e82]; exact k65
            have k85 : mK m81 b5 = 9 := by rw [e82]; exact k66
            have k86 : mK m81 b15 = 7 := by rw [e82]; exact k67
            have k87 : mK m81 b19 = 4 := by rw [e82]; exact k68
            have k88 : mK m81 b40 = 4 := by rw [e82]; exact k69
            have k89 : mK m81 b52 = 4 := by rw [e82]; exact k70
            have k90 : mK m81 b55 = 19 := by rw [e82]; exact k71
            have k91 : mK m81 b59 = 2 := by rw [e82]; exact k72
            have k92 : mK m81 b73 = 4 := by rw [e82]; exact k75
            have k93 : mK m81 b76 = 16 := by rw [e82]; exact k78
            refine at_iload_n (i := 3) 2 116 rfl (by decide +kernel) rfl ?_
            exact at_iret rfl (by decide +kernel) h
          · rw [if_neg c43] at h
            refine at_bipush (n := (-9)) (-9 : Int32) 68 rfl (by decide +kernel) (by decide +kernel) ?_
            exact at_iret rfl (by decide +kernel) h
        · rw [if_neg c39] at h
          refine at_bipush (n := (-7)) (-7 : Int32) 49 rfl (by decide +kernel) (by decide +kernel) ?_
          exact at_iret rfl (by decide +kernel) h
      · rw [if_pos c30] at h
        refine at_bipush (n := (-2)) (-2 : Int32) 39 rfl (by decide +kernel) (by decide +kernel) ?_
        exact at_iret rfl (by decide +kernel) h
set_option maxRecDepth 20000 in
set_option maxHeartbeats 4000000 in
theorem en_SL_receipt (g : Gc) {lv : Nat} {t : Nat} {l1 : Int32} {l2 : Int32} {m : Mm} {Q : Int32 → Mm → Prop} (h : mK m t = 12 ∧ (∃ b2, mR m t 1 = some b2 ∧ (mK m b2 = 4 ∧ (∃ b5, mR m b2 3 = some b5 ∧ (mK m b5 = 9 ∧ (CR g M_Store_find lv [va_rf (some b5), .int (l1)] m (fun x8 m9 => (if (x8 : Option Nat) = none then (Q (-2 : Int32) m9) else (if l2 = (0 : Int32) then (∃ b17, x8 = some b17 ∧ (mK m9 b17 = 7 ∧ (Q (mI m9 b17 0) m9))) else (if l2 = (1 : Int32) then (∃ b21, x8 = some b21 ∧ (mK m9 b21 = 7 ∧ (Q (mI m9 b21 1) m9))) else (if l2 = (2 : Int32) then (∃ b25, x8 = some b25 ∧ (mK m9 b25 = 7 ∧ (Q (mI m9 b25 2) m9))) else (if l2 = (3 : Int32) then (∃ b29, x8 = some b29 ∧ (mK m9 b29 = 7 ∧ (if (mR m9 b29 3 : Option Nat) = none then (Q (-1 : Int32) m9) else (∃ b33, mR m9 b29 3 = some b33 ∧ (mK m9 b33 = 6 ∧ (Q (mI m9 b33 0) m9)))))) else (if l2 = (4 : Int32) then (∃ b37, x8 = some b37 ∧ (mK m9 b37 = 7 ∧ (if (mR m9 b37 4 : Option Nat) = none then (Q (-1 : Int32) m9) else (∃ b41, mR m9 b37 4 = some b41 ∧ (mK m9 b41 = 6 ∧ (Q (mI m9 b41 0) m9)))))) else (if l2 = (5 : Int32) then (∃ b45, x8 = some b45 ∧ (mK m9 b45 = 7 ∧ (if (mR m9 b45 3 : Option Nat) = none then (Q (-1 : Int32) m9) else (∃ b49, mR m9 b45 3 = some b49 ∧ (mK m9 b49 = 6 ∧ (Q (mI m9 b49 1) m9)))))) else (if l2 = (6 : Int32) then (∃ b53, x8 = some b53 ∧ (mK m9 b53 = 7 ∧ (if (mR m9 b53 4 : Option Nat) = none then (Q (-1 : Int32) m9) else (∃ b57, mR m9 b53 4 = some b57 ∧ (mK m9 b57 = 6 ∧ (Q (mI m9 b57 1) m9)))))) else (Q (-2 : Int32) m9)))))))))))))))) : CI g M_SL_receipt (lv + 1) [va_rf (some t), .int (l1), .int (l2)] m Q := by
  refine Call.of (by decide +kernel) (Nat.le_of_ble_eq_true rfl) ?_
  show At g M_SL_receipt (lv + 1) 0 [(0, va_rf (some t)), (1, .int (l1)), (2, .int (l2))] [] m (QI Q)
  refine at_aload_n (i := 0) 0 1 rfl (by decide +kernel) rfl ?_
  obtain ⟨k1, h⟩ := h
  refine at_get (index := 21) (v := va_rf (mR m t 1)) cok11 1 4 rfl (by decide +kernel) k1 (by decide +kernel) tw_441 rfl ?_
  obtain ⟨b2, e3, h⟩ := h
  rw [e3]
  obtain ⟨k4, h⟩ := h
  refine at_get (index := 160) (v := va_rf (mR m b2 3)) cok3 3 7 rfl (by decide +kernel) k4 (by decide +kernel) tw_291 rfl ?_
  refine at_iload_n (i := 1) 1 8 rfl (by decide +kernel) rfl ?_
  obtain ⟨b5, e6, h⟩ := h
  rw [e6]
  obtain ⟨k7, h⟩ := h
  refine at_callV mb_Store_find tw_904 tw_905 cok8 k7 (index := 178) tw_903 [.int (l1)] [] rfl rfl (by decide) 11 rfl (by decide +kernel) (Call.toR (CR.monoE h (fun x8 m9 h y10 => ?_)))
  have k11 : mK m9 t = 12 := y10.k k1 (by decide)
  have k12 : mK m9 b2 = 4 := y10.k k4 (by decide)
  have k13 : mK m9 b5 = 9 := y10.k k7 (by decide)
  refine at_astore_n (i := 3) (lc' := [(2, .int (l2)), (3, va_rf (x8))]) [3, 0] 12 rfl (by decide +kernel) (by decide +kernel) rfl ?_
  refine at_aload_n (i := 3) 1 13 rfl (by decide +kernel) rfl ?_
  refine at_ifnonnull (off := 6) 19 16 rfl (by decide +kernel) (by decide +kernel) (fun c14 => ?_) (fun c14 => ?_)
  · rw [if_neg c14] at h
    refine at_iload_n (i := 2) 0 20 rfl (by decide +kernel) rfl ?_
    by_cases c16 : l2 = (0 : Int32)
    · rw [if_pos c16] at h
      have w15 : l2.toInt = 0 := by rw [c16]; decide +kernel
      refine at_tabIn (dflt := 135) (lo := 0) (hi := 6) (offs := #[44, 49, 54, 59, 78, 97, 116]) (len := 44) (off := 44) 64 (by decide +kernel) (by rw [w15]; decide) (by rw [w15]; decide) (by rw [w15]; decide +kernel) (by decide +kernel) ?_
      refine at_aload_n (i := 3) 1 65 rfl (by decide +kernel) rfl ?_
      obtain ⟨b17, e18, h⟩ := h
      rw [e18]
      obtain ⟨k19, h⟩ := h
      refine at_get (index := 194) (v := .int (mI m9 b17 0)) cok6 0 68 rfl (by decide +kernel) k19 (by decide +kernel) tw_774 rfl ?_
      exact at_iret rfl (by decide +kernel) h
    rw [if_neg c16] at h
    by_cases c20 : l2 = (1 : Int32)
    · rw [if_pos c20] at h
      have w15 : l2.toInt = 1 := by rw [c20]; decide +kernel
      refine at_tabIn (dflt := 135) (lo := 0) (hi := 6) (offs := #[44, 49, 54, 59, 78, 97, 116]) (len := 44) (off := 49) 69 (by decide +kernel) (by rw [w15]; decide) (by rw [w15]; decide) (by rw [w15]; decide +kernel) (by decide +kernel) ?_
      refine at_aload_n (i := 3) 1 70 rfl (by decide +kernel) rfl ?_
      obtain ⟨b21, e22, h⟩ := h
      rw [e22]
      obtain ⟨k23, h⟩ := h
      refine at_get (index := 182) (v := .int (mI m9 b21 1)) cok6 1 73 rfl (by decide +kernel) k23 (by decide +kernel) tw_777 rfl ?_
      exact at_iret rfl (by decide +kernel) h
    rw [if_neg c20] at h
    by_cases c24 : l2 = (2 : Int32)
    · rw [if_pos c24] at h
      have w15 : l2.toInt = 2 := by rw [c24]; decide +kernel
      refine at_tabIn (dflt := 135) (lo := 0) (hi := 6) (offs := #[44, 49, 54, 59, 78, 97, 116]) (len := 44) (off := 54) 74 (by decide +kernel) (by rw [w15]; decide) (by rw [w15]; decide) (by rw [w15]; decide +kernel) (by decide +kernel) ?_
      refine at_aload_n (i := 3) 1 75 rfl (by decide +kernel) rfl ?_
      obtain ⟨b25, e26, h⟩ := h
      rw [e26]
      obtain ⟨k27, h⟩ := h
      refine at_get (index := 197) (v := .int (mI m9 b25 2)) cok6 2 78 rfl (by decide +kernel) k27 (by decide +kernel) tw_780 rfl ?_
      exact at_iret rfl (by decide +kernel) h
    rw [if_neg c24] at h
    by_cases c28 : l2 = (3 : Int32)
    · rw [if_pos c28] at h
      have w15 : l2.toInt = 3 := by rw [c28]; decide +kernel
      refine at_tabIn (dflt := 135) (lo := 0) (hi := 6) (offs := #[44, 49, 54, 59, 78, 97, 116]) (len := 44) (off := 59) 79 (by decide +kernel) (by rw [w15]; decide) (by rw [w15]; decide) (by rw [w15]; decide +kernel) (by decide +kernel) ?_
      refine at_aload_n (i := 3) 1 80 rfl (by decide +kernel) rfl ?_
      obtain ⟨b29, e30, h⟩ := h
      rw [e30]
      obtain ⟨k31, h⟩ := h
      refine at_get (index := 207) (v := va_rf (mR m9 b29 3)) cok6 3 83 rfl (by decide +kernel) k31 (by decide +kernel) tw_784 rfl ?_
      refine at_ifnonnull (off := 7) 90 86 rfl (by decide +kernel) (by decide +kernel) (fun c32 => ?_) (fun c32 => ?_)
      · rw [if_neg c32] at h
        refine at_aload_n (i := 3) 1 91 rfl (by decide +kernel) rfl ?_
        refine at_get (index := 207) (v := va_rf (mR m9 b29 3)) cok6 3 94 rfl (by decide +kernel) k31 (by decide +kernel) tw_784 rfl ?_
        obtain ⟨b33, e34, h⟩ := h
        rw [e34]
        obtain ⟨k35, h⟩ := h
        refine at_get (index := 210) (v := .int (mI m9 b33 0)) cok5 0 97 rfl (by decide +kernel) k35 (by decide +kernel) tw_941 rfl ?_
        exact at_iret rfl (by decide +kernel) h
      · rw [if_pos c32] at h
        refine at_iconst (n := (-1)) (-1 : Int32) 87 rfl (by decide +kernel) (by decide +kernel) ?_
        refine at_goto (off := 10) 97 (by decide +kernel) (by decide +kernel) ?_
        exact at_iret rfl (by decide +kernel) h
    rw [if_neg c28] at h
    by_cases c36 : l2 = (4 : Int32)
    · rw [if_pos c36] at h
      have w15 : l2.toInt = 4 := by rw [c36]; decide +kernel
      refine at_tabIn (dflt := 135) (lo := 0) (hi := 6) (offs := #[44, 49, 54, 59, 78, 97, 116]) (len := 44) (off := 78) 98 (by decide +kernel) (by rw [w15]; decide) (by rw [w15]; decide) (by rw [w15]; decide +kernel) (by decide +kernel) ?_
      refine at_aload_n (i := 3) 1 99 rfl (by decide +kernel) rfl ?_
      obtain ⟨b37, e38, h⟩ := h
      rw [e38]
      obtain ⟨k39, h⟩ := h
      refine at_get (index := 203) (v := va_rf (mR m9 b37 4)) cok6 4 102 rfl (by decide +kernel) k39 (by decide +kernel) tw_788 rfl ?_
      refine at_ifnonnull (off := 7) 109 105 rfl (by decide +kernel) (by decide +kernel) (fun c40 => ?_) (fun c40 => ?_)
      · rw [if_neg c40] at h
        refine at_aload_n (i := 3) 1 110 rfl (by decide +kernel) rfl ?_
        refine at_get (index := 203) (v := va_rf (mR m9 b37 4)) cok6 4 113 rfl (by decide +kernel) k39 (by decide +kernel) tw_788 rfl ?_
        obtain ⟨b41, e42, h⟩ := h
        rw [e42]
        obtain ⟨k43, h⟩ := h
        refine at_get (index := 210) (v := .int (mI m9 b41 0)) cok5 0 116 rfl (by decide +kernel) k43 (by decide +kernel) tw_941 rfl ?_
        exact at_iret rfl (by decide +kernel) h
      · rw [if_pos c40] at h
        refine at_iconst (n := (-1)) (-1 : Int32) 106 rfl (by decide +kernel) (by decide +kernel) ?_
        refine at_goto (off := 10) 116 (by decide +kernel) (by decide +kernel) ?_
        exact at_iret rfl (by decide +kernel) h
    rw [if_neg c36] at h
    by_cases c44 : l2 = (5 : Int32)
    · rw [if_pos c44] at h
      have w15 : l2.toInt = 5 := by rw [c44]; decide +kernel
      refine at_tabIn (dflt := 135) (lo := 0) (hi := 6) (offs := #[44, 49, 54, 59, 78, 97, 116]) (len := 44) (off := 97) 117 (by decide +kernel) (by rw [w15]; decide) (by rw [w15]; decide) (by rw [w15]; decide +kernel) (by decide +kernel) ?_
      refine at_aload_n (i := 3) 1 118 rfl (by decide +kernel) rfl ?_
      obtain ⟨b45, e46, h⟩ := h
      rw [e46]
      obtain ⟨k47, h⟩ := h
      refine at_get (index := 207) (v := va_rf (mR m9 b45 3)) cok6 3 121 rfl (by decide +kernel) k47 (by decide +kernel) tw_784 rfl ?_
      refine at_ifnonnull (off := 7) 128 124 rfl (by decide +kernel) (by decide +kernel) (fun c48 => ?_) (fun c48 => ?_)
      · rw [if_neg c48] at h
        refine at_aload_n (i := 3) 1 129 rfl (by decide +kernel) rfl ?_
        refine at_get (index := 207) (v := va_rf (mR m9 b45 3)) cok6 3 132 rfl (by decide +kernel) k47 (by decide +kernel) tw_784 rfl ?_
        obtain ⟨b49, e50, h⟩ := h
        rw [e50]
        obtain ⟨k51, h⟩ := h
        refine at_get (index := 255) (v := .int (mI m9 b49 1)) cok5 1 135 rfl (by decide +kernel) k51 (by decide +kernel) tw_944 rfl ?_
        exact at_iret rfl (by decide +kernel) h
      · rw [if_pos c48] at h
        refine at_iconst (n := (-1)) (-1 : Int32) 125 rfl (by decide +kernel) (by decide +kernel) ?_
        refine at_goto (off := 10) 135 (by decide +kernel) (by decide +kernel) ?_
        exact at_iret rfl (by decide +kernel) h
    rw [if_neg c44] at h
    by_cases c52 : l2 = (6 : Int32)
    · rw [if_pos c52] at h
      have w15 : l2.toInt = 6 := by rw [c52]; decide +kernel
      refine at_tabIn (dflt := 135) (lo := 0) (hi := 6) (offs := #[44, 49, 54, 59, 78, 97, 116]) (len := 44) (off := 116) 136 (by decide +kernel) (by rw [w15]; decide) (by rw [w15]; decide) (by rw [w15]; decide +kernel) (by decide +kernel) ?_
      refine at_aload_n (i := 3) 1 137 rfl (by decide +kernel) rfl ?_
      obtain ⟨b53, e54, h⟩ := h
      rw [e54]
      obtain ⟨k55, h⟩ := h
      refine at_get (index := 203) (v := va_rf (mR m9 b53 4)) cok6 4 140 rfl (by decide +kernel) k55 (by decide +kernel) tw_788 rfl ?_
      refine at_ifnonnull (off := 7) 147 143 rfl (by decide +kernel) (by decide +kernel) (fun c56 => ?_) (fun c56 => ?_)
      · rw [if_neg c56] at h
        refine at_aload_n (i := 3) 1 148 rfl (by decide +kernel) rfl ?_
        refine at_get (index := 203) (v := va_rf (mR m9 b53 4)) cok6 4 151 rfl (by decide +kernel) k55 (by decide +kernel) tw_788 rfl ?_
        obtain ⟨b57, e58, h⟩ := h
        rw [e58]
        obtain ⟨k59, h⟩ := h
        refine at_get (index := 255) (v := .int (mI m9 b57 1)) cok5 1 154 rfl (by decide +kernel) k59 (by decide +kernel) tw_944 rfl ?_
        exact at_iret rfl (by decide +kernel) h
      · rw [if_pos c56] at h
        refine at_iconst (n := (-1)) (-1 : Int32) 144 rfl (by decide +kernel) (by decide +kernel) ?_
        refine at_goto (off := 10) 154 (by decide +kernel) (by decide +kernel) ?_
        exact at_iret rfl (by decide +kernel) h
    rw [if_neg c52] at h
    have c16e : l2.toInt ≠ 0 := fun e => c16 (Int32.toInt_inj.mp (e.trans (by decide +kernel)))
    have c20e : l2.toInt ≠ 1 := fun e => c20 (Int32.toInt_inj.mp (e.trans (by decide +kernel)))
    have c24e : l2.toInt ≠ 2 := fun e => c24 (Int32.toInt_inj.mp (e.trans (by decide +kernel)))
    have c28e : l2.toInt ≠ 3 := fun e => c28 (Int32.toInt_inj.mp (e.trans (by decide +kernel)))
    have c36e : l2.toInt ≠ 4 := fun e => c36 (Int32.toInt_inj.mp (e.trans (by decide +kernel)))
    have c44e : l2.toInt ≠ 5 := fun e => c44 (Int32.toInt_inj.mp (e.trans (by decide +kernel)))
    have c52e : l2.toInt ≠ 6 := fun e => c52 (Int32.toInt_inj.mp (e.trans (by decide +kernel)))
    refine at_tabOut (dflt := 135) (lo := 0) (hi := 6) (offs := #[44, 49, 54, 59, 78, 97, 116]) (len := 44) 155 (by decide +kernel) (by omega) (by decide +kernel) ?_
    refine at_bipush (n := (-2)) (-2 : Int32) 157 rfl (by decide +kernel) (by decide +kernel) ?_
    exact at_iret rfl (by decide +kernel) h
  · rw [if_pos c14] at h
    refine at_bipush (n := (-2)) (-2 : Int32) 18 rfl (by decide +kernel) (by decide +kernel) ?_
    exact at_iret rfl (by decide +kernel) h
set_option maxRecDepth 20000 in
set_option maxHeartbeats 4000000 in
theorem en_SL_owed (g : Gc) {lv : Nat} {t : Nat} {l1 : Int32} {l2 : Int32} {m : Mm} {Q : Int64 → Mm → Prop} (h : mK m t = 12 ∧ (∃ b2, mR m t 1 = some b2 ∧ (mK m b2 = 4 ∧ (∃ b5, mR m b2 3 = some b5 ∧ (mK m b5 = 9 ∧ (CR g M_Store_find lv [va_rf (some b5), .int (l1)] m (fun x8 m9 => (if (x8 : Option Nat) = none then (if (none : Option Nat) = none then (Q (0 : Int64) m9) else (∃ b30, none = some b30 ∧ (mK m9 b30 = 6 ∧ (Q (mL m9 b30 2) m9)))) else (∃ b15, x8 = some b15 ∧ (mK m9 b15 = 7 ∧ (CR g M_Receipt_loanOf lv [va_rf (some b15), .int (l2)] m9 (fun x18 m19 => (if (x18 : Option Nat) = none then (Q (0 : Int64) m19) else (∃ b26, x18 = some b26 ∧ (mK m19 b26 = 6 ∧ (Q (mL m19 b26 2) m19)))))))))))))))) : CJ g M_SL_owed (lv + 1) [va_rf (some t), .int (l1), .int (l2)] m Q := by
  refine Call.of (by decide +kernel) (Nat.le_of_ble_eq_true rfl) ?_
  show At g M_SL_owed (lv + 1) 0 [(0, va_rf (some t)), (1, .int (l1)), (2, .int (l2))] [] m (QJ Q)
  refine at_aload_n (i := 0) 0 1 rfl (by decide +kernel) rfl ?_
  obtain ⟨k1, h⟩ := h
  refine at_get (index := 21) (v := va_rf (mR m t 1)) cok11 1 4 rfl (by decide +kernel) k1 (by decide +kernel) tw_441 rfl ?_
  obtain ⟨b2, e3, h⟩ := h
  rw [e3]
  obtain ⟨k4, h⟩ := h
  refine at_get (index := 160) (v := va_rf (mR m b2 3)) cok3 3 7 rfl (by decide +kernel) k4 (by decide +kernel) tw_291 rfl ?_
  refine at_iload_n (i := 1) 1 8 rfl (by decide +kernel) rfl ?_
  obtain ⟨b5, e6, h⟩ := h
  rw [e6]
  obtain ⟨k7, h⟩ := h
  refine at_callV mb_Store_find tw_904 tw_905 cok8 k7 (index := 178) tw_903 [.int (l1)] [] rfl rfl (by decide) 11 rfl (by decide +kernel) (Call.toR (CR.monoE h (fun x8 m9 h y10 => ?_)))
  have k11 : mK m9 t = 12 := y10.k k1 (by decide)
  have k12 : mK m9 b2 = 4 := y10.k k4 (by decide)
  have k13 : mK m9 b5 = 9 := y10.k k7 (by decide)
  refine at_astore_n (i := 3) (lc' := [(2, .int (l2)), (3, va_rf (x8))]) [3, 0] 12 rfl (by decide +kernel) (by decide +kernel) rfl ?_
  refine at_aload_n (i := 3) 1 13 rfl (by decide +kernel) rfl ?_
  refine at_ifnonnull (off := 7) 20 16 rfl (by decide +kernel) (by decide +kernel) (fun c14 => ?_) (fun c14 => ?_)
  · rw [if_neg c14] at h
    refine at_aload_n (i := 3) 1 21 rfl (by decide +kernel) rfl ?_
    refine at_iload_n (i := 2) 0 22 rfl (by decide +kernel) rfl ?_
    obtain ⟨b15, e16, h⟩ := h
    rw [e16]
    obtain ⟨k17, h⟩ := h
    refine at_callV mb_Receipt_loanOf tw_965 tw_966 cok6 k17 (index := 227) tw_964 [.int (l2)] [] rfl rfl (by decide) 25 rfl (by decide +kernel) (Call.toR (CR.monoE h (fun x18 m19 h y20 => ?_)))
    have k21 : mK m19 t = 12 := y20.k k11 (by decide)
    have k22 : mK m19 b2 = 4 := y20.k k12 (by decide)
    have k23 : mK m19 b5 = 9 := y20.k k13 (by decide)
    have k24 : mK m19 b15 = 7 := y20.k k17 (by decide)
    refine at_astore (i := 4) (lc' := [(4, va_rf (x18))]) [0] 27 rfl (by decide +kernel) (by decide +kernel) rfl ?_
    refine at_aload (i := 4) 0 29 rfl (by decide +kernel) rfl ?_
    refine at_ifnonnull (off := 7) 36 32 rfl (by decide +kernel) (by decide +kernel) (fun c25 => ?_) (fun c25 => ?_)
    · rw [if_neg c25] at h
      refine at_aload (i := 4) 0 38 rfl (by decide +kernel) rfl ?_
      obtain ⟨b26, e27, h⟩ := h
      rw [e27]
      obtain ⟨k28, h⟩ := h
      refine at_get (index := 235) (v := .long (mL m19 b26 2)) cok5 2 41 rfl (by decide +kernel) k28 (by decide +kernel) tw_947 rfl ?_
      exact at_lret rfl (by decide +kernel) h
    · rw [if_pos c25] at h
      refine at_lconst (n := 0) (0 : Int64) 33 rfl (by decide +kernel) (by decide +kernel) ?_
      refine at_goto (off := 8) 41 (by decide +kernel) (by decide +kernel) ?_
      exact at_lret rfl (by decide +kernel) h
  · rw [if_pos c14] at h
    refine at_null 17 rfl (by decide +kernel) ?_
    refine at_goto (off := 8) 25 (by decide +kernel) (by decide +kernel) ?_
    refine at_astore (i := 4) (lc' := [(4, va_rf (none))]) [0] 27 rfl (by decide +kernel) (by decide +kernel) (by generalize x8 = rr; cases rr <;> rfl) ?_
    refine at_aload (i := 4) 0 29 rfl (by decide +kernel) rfl ?_
    refine at_ifnonnull (off := 7) 36 32 rfl (by decide +kernel) (by decide +kernel) (fun c29 => ?_) (fun c29 => ?_)
    · rw [if_neg c29] at h
      refine at_aload (i := 4) 0 38 rfl (by decide +kernel) rfl ?_
      obtain ⟨b30, e31, h⟩ := h
      rw [e31]
      obtain ⟨k32, h⟩ := h
      refine at_get (index := 235) (v := .long (mL m9 b30 2)) cok5 2 41 rfl (by decide +kernel) k32 (by decide +kernel) tw_947 rfl ?_
      exact at_lret rfl (by decide +kernel) h
    · rw [if_pos c29] at h
      refine at_lconst (n := 0) (0 : Int64) 33 rfl (by decide +kernel) (by decide +kernel) ?_
      refine at_goto (off := 8) 41 (by decide +kernel) (by decide +kernel) ?_
      exact at_lret rfl (by decide +kernel) h
set_option maxRecDepth 20000 in
set_option maxHeartbeats 4000000 in
theorem bk_SL_growerOf_40 (g : Gc) {lv : Nat} {t : Nat} {l2 : Int32} {l3 : Option Nat} {s0 : Int32} {m : Mm} {Q : Int32 → Mm → Prop} (h : if l2 = (0 : Int32) then (∃ b3, l3 = some b3 ∧ (mK m b3 = 2 ∧ (Q (mI m b3 3) m))) else (if l2 = (1 : Int32) then (∃ b7, l3 = some b7 ∧ (mK m b7 = 2 ∧ (Q (mI m b7 5) m))) else (if l2 = (2 : Int32) then (∃ b11, l3 = some b11 ∧ (mK m b11 = 2 ∧ (Q (mI m b11 6) m))) else (if l2 = (3 : Int32) then (∃ b15, l3 = some b15 ∧ (mK m b15 = 2 ∧ (Q (mI m b15 7) m))) else (if l2 = (4 : Int32) then (∃ b19, l3 = some b19 ∧ (mK m b19 = 2 ∧ (Q (mI m b19 8) m))) else (if l2 = (5 : Int32) then (∃ b23, l3 = some b23 ∧ (mK m b23 = 2 ∧ (Q (mI m b23 9) m))) else (if l2 = (6 : Int32) then (∃ b27, l3 = some b27 ∧ (mK m b27 = 2 ∧ (Q ((mL m b27 12).toInt32) m))) else (if l2 = (7 : Int32) then (if (s0) = 0 then (mK m t = 12 ∧ (∃ b33, mR m t 1 = some b33 ∧ (mK m b33 = 4 ∧ (∃ b36, l3 = some b36 ∧ (mK m b36 = 2 ∧ (CI g M_Grower_cropOf lv [va_rf (some b36), .int ((mI m b33 9) - (1 : Int32))] m (fun x39 m40 => (Q x39 m40)))))))) else (Q (-1 : Int32) m)) else (if l2 = (8 : Int32) then (if (s0) = 0 then (∃ b47, l3 = some b47 ∧ (mK m b47 = 2 ∧ (Q (mI m b47 10) m))) else (Q (-1 : Int32) m)) else (Q (-1000000 : Int32) m)))))))))) : At g M_SL_growerOf (lv + 1) 40 [(0, va_rf (some t)), (2, .int (l2)), (3, va_rf (l3))] [.int (s0)] m (QI Q) := by
  refine at_istore (i := 4) (lc' := [(0, va_rf (some t)), (2, .int (l2)), (3, va_rf (l3)), (4, .int (s0))]) [1, 2, 3, 0] 42 rfl (by decide +kernel) (by decide +kernel) (by generalize l3 = rr; cases rr <;> rfl) ?_
  refine at_iload_n (i := 2) 1 43 rfl (by decide +kernel) rfl ?_
  by_cases c2 : l2 = (0 : Int32)
  · rw [if_pos c2] at h
    have w1 : l2.toInt = 0 := by rw [c2]; decide +kernel
    refine at_tabIn (dflt := 122) (lo := 0) (hi := 8) (offs := #[49, 54, 59, 64, 69, 74, 79, 85, 108]) (len := 49) (off := 49) 92 (by decide +kernel) (by rw [w1]; decide) (by rw [w1]; decide) (by rw [w1]; decide +kernel) (by decide +kernel) ?_
    refine at_aload_n (i := 3) 2 93 rfl (by decide +kernel) rfl ?_
    obtain ⟨b3, e4, h⟩ := h
    rw [e4]
    obtain ⟨k5, h⟩ := h
    refine at_get (index := 258) (v := .int (mI m b3 3)) cok1 3 96 rfl (by decide +kernel) k5 (by decide +kernel) tw_214 rfl ?_
    exact at_iret rfl (by decide +kernel) h
  rw [if_neg c2] at h
  by_cases c6 : l2 = (1 : Int32)
  · rw [if_pos c6] at h
    have w1 : l2.toInt = 1 := by rw [c6]; decide +kernel
    refine at_tabIn (dflt := 122) (lo := 0) (hi := 8) (offs := #[49, 54, 59, 64, 69, 74, 79, 85, 108]) (len := 49) (off := 54) 97 (by decide +kernel) (by rw [w1]; decide) (by rw [w1]; decide) (by rw [w1]; decide +kernel) (by decide +kernel) ?_
    refine at_aload_n (i := 3) 2 98 rfl (by decide +kernel) rfl ?_
    obtain ⟨b7, e8, h⟩ := h
    rw [e8]
    obtain ⟨k9, h⟩ := h
    refine at_get (index := 261) (v := .int (mI m b7 5)) cok1 5 101 rfl (by decide +kernel) k9 (by decide +kernel) tw_219 rfl ?_
    exact at_iret rfl (by decide +kernel) h
  rw [if_neg c6] at h
  by_cases c10 : l2 = (2 : Int32)
  · rw [if_pos c10] at h
    have w1 : l2.toInt = 2 := by rw [c10]; decide +kernel
    refine at_tabIn (dflt := 122) (lo := 0) (hi := 8) (offs := #[49, 54, 59, 64, 69, 74, 79, 85, 108]) (len := 49) (off := 59) 102 (by decide +kernel) (by rw [w1]; decide) (by rw [w1]; decide) (by rw [w1]; decide +kernel) (by decide +kernel) ?_
    refine at_aload_n (i := 3) 2 103 rfl (by decide +kernel) rfl ?_
    obtain ⟨b11, e12, h⟩ := h
    rw [e12]
    obtain ⟨k13, h⟩ := h
    refine at_get (index := 264) (v := .int (mI m b11 6)) cok1 6 106 rfl (by decide +kernel) k13 (by decide +kernel) tw_221 rfl ?_
    exact at_iret rfl (by decide +kernel) h
  rw [if_neg c10] at h
  by_cases c14 : l2 = (3 : Int32)
  · rw [if_pos c14] at h
    have w1 : l2.toInt = 3 := by rw [c14]; decide +kernel
    refine at_tabIn (dflt := 122) (lo := 0) (hi := 8) (offs := #[49, 54, 59, 64, 69, 74, 79, 85, 108]) (len := 49) (off := 64) 107 (by decide +kernel) (by rw [w1]; decide) (by rw [w1]; decide) (by rw [w1]; decide +kernel) (by decide +kernel) ?_
    refine at_aload_n (i := 3) 2 108 rfl (by decide +kernel) rfl ?_
    obtain ⟨b15, e16, h⟩ := h
    rw [e16]
    obtain ⟨k17, h⟩ := h
    refine at_get (index := 267) (v := .int (mI m b15 7)) cok1 7 111 rfl (by decide +kernel) k17 (by decide +kernel) tw_223 rfl ?_
    exact at_iret rfl (by decide +kernel) h
  rw [if_neg c14] at h
  by_cases c18 : l2 = (4 : Int32)
  · rw [if_pos c18] at h
    have w1 : l2.toInt = 4 := by rw [c18]; decide +kernel
    refine at_tabIn (dflt := 122) (lo := 0) (hi := 8) (offs := #[49, 54, 59, 64, 69, 74, 79, 85, 108]) (len := 49) (off := 69) 112 (by decide +kernel) (by rw [w1]; decide) (by rw [w1]; decide) (by rw [w1]; decide +kernel) (by decide +kernel) ?_
    refine at_aload_n (i := 3) 2 113 rfl (by decide +kernel) rfl ?_
    obtain ⟨b19, e20, h⟩ := h
    rw [e20]
    obtain ⟨k21, h⟩ := h
    refine at_get (index := 270) (v := .int (mI m b19 8)) cok1 8 116 rfl (by decide +kernel) k21 (by decide +kernel) tw_225 rfl ?_
    exact at_iret rfl (by decide +kernel) h
  rw [if_neg c18] at h
  by_cases c22 : l2 = (5 : Int32)
  · rw [if_pos c22] at h
    have w1 : l2.toInt = 5 := by rw [c22]; decide +kernel
    refine at_tabIn (dflt := 122) (lo := 0) (hi := 8) (offs := #[49, 54, 59, 64, 69, 74, 79, 85, 108]) (len := 49) (off := 74) 117 (by decide +kernel) (by rw [w1]; decide) (by rw [w1]; decide) (by rw [w1]; decide +kernel) (by decide +kernel) ?_
    refine at_aload_n (i := 3) 2 118 rfl (by decide +kernel) rfl ?_
    obtain ⟨b23, e24, h⟩ := h
    rw [e24]
    obtain ⟨k25, h⟩ := h
    refine at_get (index := 247) (v := .int (mI m b23 9)) cok1 9 121 rfl (by decide +kernel) k25 (by decide +kernel) tw_228 rfl ?_
    exact at_iret rfl (by decide +kernel) h
  rw [if_neg c22] at h
  by_cases c26 : l2 = (6 : Int32)
  · rw [if_pos c26] at h
    have w1 : l2.toInt = 6 := by rw [c26]; decide +kernel
    refine at_tabIn (dflt := 122) (lo := 0) (hi := 8) (offs := #[49, 54, 59, 64, 69, 74, 79, 85, 108]) (len := 49) (off := 79) 122 (by decide +kernel) (by rw [w1]; decide) (by rw [w1]; decide) (by rw [w1]; decide +kernel) (by decide +kernel) ?_
    refine at_aload_n (i := 3) 2 123 rfl (by decide +kernel) rfl ?_
    obtain ⟨b27, e28, h⟩ := h
    rw [e28]
    obtain ⟨k29, h⟩ := h
    refine at_get (index := 273) (v := .long (mL m b27 12)) cok1 12 126 rfl (by decide +kernel) k29 (by decide +kernel) tw_237 rfl ?_
    refine at_l2i 127 rfl (by decide +kernel) ?_
    exact at_iret rfl (by decide +kernel) h
  rw [if_neg c26] at h
  by_cases c30 : l2 = (7 : Int32)
  · rw [if_pos c30] at h
    have w1 : l2.toInt = 7 := by rw [c30]; decide +kernel
    refine at_tabIn (dflt := 122) (lo := 0) (hi := 8) (offs := #[49, 54, 59, 64, 69, 74, 79, 85, 108]) (len := 49) (off := 85) 128 (by decide +kernel) (by rw [w1]; decide) (by rw [w1]; decide) (by rw [w1]; decide +kernel) (by decide +kernel) ?_
    refine at_iload (i := 4) 3 130 rfl (by decide +kernel) rfl ?_
    refine at_if_eq (off := 7) 137 133 rfl (by decide +kernel) (by decide +kernel) (fun c31 => ?_) (fun c31 => ?_)
    · rw [if_pos c31] at h
      refine at_aload_n (i := 3) 2 138 rfl (by decide +kernel) rfl ?_
      refine at_aload_n (i := 0) 0 139 rfl (by decide +kernel) rfl ?_
      obtain ⟨k32, h⟩ := h
      refine at_get (index := 21) (v := va_rf (mR m t 1)) cok11 1 142 rfl (by decide +kernel) k32 (by decide +kernel) tw_441 rfl ?_
      obtain ⟨b33, e34, h⟩ := h
      rw [e34]
      obtain ⟨k35, h⟩ := h
      refine at_get (index := 106) (v := .int (mI m b33 9)) cok3 9 145 rfl (by decide +kernel) k35 (by decide +kernel) tw_300 rfl ?_
      refine at_iconst (n := 1) (1 : Int32) 146 rfl (by decide +kernel) (by decide +kernel) ?_
      refine at_isub 147 rfl (by decide +kernel) ?_
      obtain ⟨b36, e37, h⟩ := h
      rw [e37]
      obtain ⟨k38, h⟩ := h
      refine at_callV mb_Grower_cropOf tw_987 tw_988 cok1 k38 (index := 276) tw_986 [.int ((mI m b33 9) - (1 : Int32))] [] rfl rfl (by decide) 150 rfl (by decide +kernel) (Call.toI (CI.monoE h (fun x39 m40 h y41 => ?_)))
      have k42 : mK m40 t = 12 := y41.k k32 (by decide)
      have k43 : mK m40 b33 = 4 := y41.k k35 (by decide)
      have k44 : mK m40 b36 = 2 := y41.k k38 (by decide)
      exact at_iret rfl (by decide +kernel) h
    · rw [if_neg c31] at h
      refine at_iconst (n := (-1)) (-1 : Int32) 134 rfl (by decide +kernel) (by decide +kernel) ?_
      refine at_goto (off := 16) 150 (by decide +kernel) (by decide +kernel) ?_
      exact at_iret rfl (by decide +kernel) h
  rw [if_neg c30] at h
  by_cases c45 : l2 = (8 : Int32)
  · rw [if_pos c45] at h
    have w1 : l2.toInt = 8 := by rw [c45]; decide +kernel
    refine at_tabIn (dflt := 122) (lo := 0) (hi := 8) (offs := #[49, 54, 59, 64, 69, 74, 79, 85, 108]) (len := 49) (off := 108) 151 (by decide +kernel) (by rw [w1]; decide) (by rw [w1]; decide) (by rw [w1]; decide +kernel) (by decide +kernel) ?_
    refine at_iload (i := 4) 3 153 rfl (by decide +kernel) rfl ?_
    refine at_if_eq (off := 7) 160 156 rfl (by decide +kernel) (by decide +kernel) (fun c46 => ?_) (fun c46 => ?_)
    · rw [if_pos c46] at h
      refine at_aload_n (i := 3) 2 161 rfl (by decide +kernel) rfl ?_
      obtain ⟨b47, e48, h⟩ := h
      rw [e48]
      obtain ⟨k49, h⟩ := h
      refine at_get (index := 280) (v := .int (mI m b47 10)) cok1 10 164 rfl (by decide +kernel) k49 (by decide +kernel) tw_231 rfl ?_
      exact at_iret rfl (by decide +kernel) h
    · rw [if_neg c46] at h
      refine at_iconst (n := (-1)) (-1 : Int32) 157 rfl (by decide +kernel) (by decide +kernel) ?_
      refine at_goto (off := 7) 164 (by decide +kernel) (by decide +kernel) ?_
      exact at_iret rfl (by decide +kernel) h
  rw [if_neg c45] at h
  have c2e : l2.toInt ≠ 0 := fun e => c2 (Int32.toInt_inj.mp (e.trans (by decide +kernel)))
  have c6e : l2.toInt ≠ 1 := fun e => c6 (Int32.toInt_inj.mp (e.trans (by decide +kernel)))
  have c10e : l2.toInt ≠ 2 := fun e => c10 (Int32.toInt_inj.mp (e.trans (by decide +kernel)))
  have c14e : l2.toInt ≠ 3 := fun e => c14 (Int32.toInt_inj.mp (e.trans (by decide +kernel)))
  have c18e : l2.toInt ≠ 4 := fun e => c18 (Int32.toInt_inj.mp (e.trans (by decide +kernel)))
  have c22e : l2.toInt ≠ 5 := fun e => c22 (Int32.toInt_inj.mp (e.trans (by decide +kernel)))
  have c26e : l2.toInt ≠ 6 := fun e => c26 (Int32.toInt_inj.mp (e.trans (by decide +kernel)))
  have c30e : l2.toInt ≠ 7 := fun e => c30 (Int32.toInt_inj.mp (e.trans (by decide +kernel)))
  have c45e : l2.toInt ≠ 8 := fun e => c45 (Int32.toInt_inj.mp (e.trans (by decide +kernel)))
  refine at_tabOut (dflt := 122) (lo := 0) (hi := 8) (offs := #[49, 54, 59, 64, 69, 74, 79, 85, 108]) (len := 49) 165 (by decide +kernel) (by omega) (by decide +kernel) ?_
  refine at_ldc (index := 173) (-1000000 : Int32) 167 rfl (by decide +kernel) tw_894 ?_
  exact at_iret rfl (by decide +kernel) h
set_option maxRecDepth 20000 in
set_option maxHeartbeats 4000000 in
theorem en_SL_growerOf (g : Gc) {lv : Nat} {t : Nat} {l1 : Int32} {l2 : Int32} {m : Mm} {Q : Int32 → Mm → Prop} (h : mK m t = 12 ∧ (∃ b2, mR m t 1 = some b2 ∧ (mK m b2 = 4 ∧ (CI g M_Land_hasGrower lv [va_rf (some b2), .int (l1)] m (fun x5 m6 => (if (x5) = 0 then (Q (-1000000 : Int32) m6) else (∃ b11, mR m6 t 1 = some b11 ∧ (mK m6 b11 = 4 ∧ (∃ b14, mR m6 b11 1 = some b14 ∧ (mK m6 b14 = 19 ∧ (vp_in l1 (mN m6 b14) ∧ (if ((1 : Int32)) ≤ (mI m6 b11 9) then (At g M_SL_growerOf (lv + 1) 40 [(0, va_rf (some t)), (2, .int (l2)), (3, va_rf (mR m6 b14 l1.toNatClampNeg))] [.int ((0 : Int32))] m6 (QI Q)) else (At g M_SL_growerOf (lv + 1) 40 [(0, va_rf (some t)), (2, .int (l2)), (3, va_rf (mR m6 b14 l1.toNatClampNeg))] [.int ((1 : Int32))] m6 (QI Q)))))))))))))) : CI g M_SL_growerOf (lv + 1) [va_rf (some t), .int (l1), .int (l2)] m Q := by
  refine Call.of (by decide +kernel) (Nat.le_of_ble_eq_true rfl) ?_
  show At g M_SL_growerOf (lv + 1) 0 [(0, va_rf (some t)), (1, .int (l1)), (2, .int (l2))] [] m (QI Q)
  refine at_aload_n (i := 0) 0 1 rfl (by decide +kernel) rfl ?_
  obtain ⟨k1, h⟩ := h
  refine at_get (index := 21) (v := va_rf (mR m t 1)) cok11 1 4 rfl (by decide +kernel) k1 (by decide +kernel) tw_441 rfl ?_
  refine at_iload_n (i := 1) 1 5 rfl (by decide +kernel) rfl ?_
  obtain ⟨b2, e3, h⟩ := h
  rw [e3]
  obtain ⟨k4, h⟩ := h
  refine at_callV mb_Land_hasGrower tw_666 tw_667 cok3 k4 (index := 139) tw_665 [.int (l1)] [] rfl rfl (by decide) 8 rfl (by decide +kernel) (Call.toI (CI.monoE h (fun x5 m6 h y7 => ?_)))
  have k8 : mK m6 t = 12 := y7.k k1 (by decide)
  have k9 : mK m6 b2 = 4 := y7.k k4 (by decide)
  refine at_if_ne (off := 6) 14 11 rfl (by decide +kernel) (by decide +kernel) (fun c10 => ?_) (fun c10 => ?_)
  · rw [if_neg c10] at h
    refine at_aload_n (i := 0) 0 15 rfl (by decide +kernel) rfl ?_
    refine at_get (index := 21) (v := va_rf (mR m6 t 1)) cok11 1 18 rfl (by decide +kernel) k8 (by decide +kernel) tw_441 rfl ?_
    obtain ⟨b11, e12, h⟩ := h
    rw [e12]
    obtain ⟨k13, h⟩ := h
    refine at_get (index := 243) (v := va_rf (mR m6 b11 1)) cok3 1 21 rfl (by decide +kernel) k13 (by decide +kernel) tw_287 rfl ?_
    refine at_iload_n (i := 1) 1 22 rfl (by decide +kernel) rfl ?_
    obtain ⟨b14, e15, h⟩ := h
    rw [e15]
    obtain ⟨k16, h⟩ := h
    obtain ⟨v17, h⟩ := h
    refine at_aaldGrower 23 rfl (by decide +kernel) k16 v17 ?_
    refine at_astore_n (i := 3) (lc' := [(0, va_rf (some t)), (2, .int (l2)), (3, va_rf (mR m6 b14 l1.toNatClampNeg))]) [1, 3, 0] 24 rfl (by decide +kernel) (by decide +kernel) rfl ?_
    refine at_aload_n (i := 0) 0 25 rfl (by decide +kernel) rfl ?_
    refine at_get (index := 21) (v := va_rf (mR m6 t 1)) cok11 1 28 rfl (by decide +kernel) k8 (by decide +kernel) tw_441 rfl ?_
    rw [e12]
    refine at_get (index := 106) (v := .int (mI m6 b11 9)) cok3 9 31 rfl (by decide +kernel) k13 (by decide +kernel) tw_300 rfl ?_
    refine at_iconst (n := 1) (1 : Int32) 32 rfl (by decide +kernel) (by decide +kernel) ?_
    refine at_icmp_ge (off := 7) 39 35 rfl (by decide +kernel) (by decide +kernel) (fun c18 => ?_) (fun c18 => ?_)
    · rw [if_pos c18] at h
      refine at_iconst (n := 0) (0 : Int32) 40 rfl (by decide +kernel) (by decide +kernel) ?_
      exact h
    · rw [if_neg c18] at h
      refine at_iconst (n := 1) (1 : Int32) 36 rfl (by decide +kernel) (by decide +kernel) ?_
      refine at_goto (off := 4) 40 (by decide +kernel) (by decide +kernel) ?_
      exact h
  · rw [if_pos c10] at h
    refine at_ldc (index := 173) (-1000000 : Int32) 13 rfl (by decide +kernel) tw_894 ?_
    exact at_iret rfl (by decide +kernel) h
set_option maxRecDepth 20000 in
set_option maxHeartbeats 4000000 in
theorem en_SL_money (g : Gc) {lv : Nat} {t : Nat} {l1 : Int32} {m : Mm} {Q : Int64 → Mm → Prop} (h : mK m t = 12 ∧ (∃ b2, mR m t 1 = some b2 ∧ (mK m b2 = 4 ∧ (CJ g M_Land_moneyOf lv [va_rf (some b2), .int (l1)] m (fun x5 m6 => (Q x5 m6)))))) : CJ g M_SL_money (lv + 1) [va_rf (some t), .int (l1)] m Q := by
  refine Call.of (by decide +kernel) (Nat.le_of_ble_eq_true rfl) ?_
  show At g M_SL_money (lv + 1) 0 [(0, va_rf (some t)), (1, .int (l1))] [] m (QJ Q)
  refine at_aload_n (i := 0) 0 1 rfl (by decide +kernel) rfl ?_
  obtain ⟨k1, h⟩ := h
  refine at_get (index := 21) (v := va_rf (mR m t 1)) cok11 1 4 rfl (by decide +kernel) k1 (by decide +kernel) tw_441 rfl ?_
  refine at_iload_n (i := 1) 1 5 rfl (by decide +kernel) rfl ?_
  obtain ⟨b2, e3, h⟩ := h
  rw [e3]
  obtain ⟨k4, h⟩ := h
  refine at_callV mb_Land_moneyOf tw_873 tw_874 cok3 k4 (index := 231) tw_968 [.int (l1)] [] rfl rfl (by decide) 8 rfl (by decide +kernel) (Call.toJ (CJ.monoE h (fun x5 m6 h y7 => ?_)))
  have k8 : mK m6 t = 12 := y7.k k1 (by decide)
  have k9 : mK m6 b2 = 4 := y7.k k4 (by decide)
  exact at_lret rfl (by decide +kernel) h
set_option maxRecDepth 20000 in
set_option maxHeartbeats 4000000 in
theorem en_SL_count (g : Gc) {lv : Nat} {t : Nat} {l1 : Int32} {m : Mm} {Q : Int32 → Mm → Prop} (h : if l1 = (0 : Int32) then (mK m t = 12 ∧ (∃ b4, mR m t 1 = some b4 ∧ (mK m b4 = 4 ∧ (Q (mI m b4 9) m)))) else (if l1 = (1 : Int32) then (mK m t = 12 ∧ (∃ b9, mR m t 1 = some b9 ∧ (mK m b9 = 4 ∧ (Q (mI m b9 8) m)))) else (if l1 = (2 : Int32) then (mK m t = 12 ∧ (∃ b14, mR m t 1 = some b14 ∧ (mK m b14 = 4 ∧ (∃ b17, mR m b14 3 = some b17 ∧ (mK m b17 = 9 ∧ (Q (mI m b17 1) m)))))) else (if l1 = (3 : Int32) then (mK m t = 12 ∧ (∃ b22, mR m t 1 = some b22 ∧ (mK m b22 = 4 ∧ (Q (mI m b22 10) m)))) else (if l1 = (4 : Int32) then (mK m t = 12 ∧ (∃ b27, mR m t 1 = some b27 ∧ (mK m b27 = 4 ∧ (∃ b30, mR m b27 3 = some b30 ∧ (mK m b30 = 9 ∧ (CJ g M_Store_sacksInAll lv [va_rf (some b30)] m (fun x33 m34 => (Q x33.toInt32 m34)))))))) else (if l1 = (5 : Int32) then (mK m t = 12 ∧ (∃ b41, mR m t 1 = some b41 ∧ (mK m b41 = 4 ∧ (CJ g M_Land_freeInAll lv [va_rf (some b41)] m (fun x44 m45 => (Q x44.toInt32 m45)))))) else (if l1 = (6 : Int32) then (mK m t = 12 ∧ (∃ b51, mR m t 1 = some b51 ∧ (mK m b51 = 4 ∧ (Q (mI m b51 11) m)))) else (if l1 = (7 : Int32) then (mK m t = 12 ∧ (∃ b56, mR m t 1 = some b56 ∧ (mK m b56 = 4 ∧ (Q (mI m b56 12) m)))) else (if l1 = (8 : Int32) then (mK m t = 12 ∧ (∃ b61, mR m t 3 = some b61 ∧ (mK m b61 = 10 ∧ (Q (mI m b61 4) m)))) else (if l1 = (9 : Int32) then (mK m t = 12 ∧ (∃ b66, mR m t 1 = some b66 ∧ (mK m b66 = 4 ∧ (Q (mI m b66 13) m)))) else (if l1 = (10 : Int32) then (mK m t = 12 ∧ (∃ b71, mR m t 6 = some b71 ∧ (mK m b71 = 8 ∧ (CI g M_Rows_filledSlots lv [va_rf (some b71)] m (fun x74 m75 => (Q x74 m75)))))) else (Q (-1 : Int32) m)))))))))))) : CI g M_SL_count (lv + 1) [va_rf (some t), .int (l1)] m Q := by
  refine Call.of (by decide +kernel) (Nat.le_of_ble_eq_true rfl) ?_
  show At g M_SL_count (lv + 1) 0 [(0, va_rf (some t)), (1, .int (l1))] [] m (QI Q)
  refine at_iload_n (i := 1) 1 1 rfl (by decide +kernel) rfl ?_
  by_cases c2 : l1 = (0 : Int32)
  · rw [if_pos c2] at h
    have w1 : l1.toInt = 0 := by rw [c2]; decide +kernel
    refine at_tabIn (dflt := 155) (lo := 0) (hi := 10) (offs := #[59, 67, 75, 86, 94, 106, 115, 123, 131, 139, 147]) (len := 59) (off := 59) 60 (by decide +kernel) (by rw [w1]; decide) (by rw [w1]; decide) (by rw [w1]; decide +kernel) (by decide +kernel) ?_
    refine at_aload_n (i := 0) 0 61 rfl (by decide +kernel) rfl ?_
    obtain ⟨k3, h⟩ := h
    refine at_get (index := 21) (v := va_rf (mR m t 1)) cok11 1 64 rfl (by decide +kernel) k3 (by decide +kernel) tw_441 rfl ?_
    obtain ⟨b4, e5, h⟩ := h
    rw [e5]
    obtain ⟨k6, h⟩ := h
    refine at_get (index := 106) (v := .int (mI m b4 9)) cok3 9 67 rfl (by decide +kernel) k6 (by decide +kernel) tw_300 rfl ?_
    exact at_iret rfl (by decide +kernel) h
  rw [if_neg c2] at h
  by_cases c7 : l1 = (1 : Int32)
  · rw [if_pos c7] at h
    have w1 : l1.toInt = 1 := by rw [c7]; decide +kernel
    refine at_tabIn (dflt := 155) (lo := 0) (hi := 10) (offs := #[59, 67, 75, 86, 94, 106, 115, 123, 131, 139, 147]) (len := 59) (off := 67) 68 (by decide +kernel) (by rw [w1]; decide) (by rw [w1]; decide) (by rw [w1]; decide +kernel) (by decide +kernel) ?_
    refine at_aload_n (i := 0) 0 69 rfl (by decide +kernel) rfl ?_
    obtain ⟨k8, h⟩ := h
    refine at_get (index := 21) (v := va_rf (mR m t 1)) cok11 1 72 rfl (by decide +kernel) k8 (by decide +kernel) tw_441 rfl ?_
    obtain ⟨b9, e10, h⟩ := h
    rw [e10]
    obtain ⟨k11, h⟩ := h
    refine at_get (index := 103) (v := .int (mI m b9 8)) cok3 8 75 rfl (by decide +kernel) k11 (by decide +kernel) tw_298 rfl ?_
    exact at_iret rfl (by decide +kernel) h
  rw [if_neg c7] at h
  by_cases c12 : l1 = (2 : Int32)
  · rw [if_pos c12] at h
    have w1 : l1.toInt = 2 := by rw [c12]; decide +kernel
    refine at_tabIn (dflt := 155) (lo := 0) (hi := 10) (offs := #[59, 67, 75, 86, 94, 106, 115, 123, 131, 139, 147]) (len := 59) (off := 75) 76 (by decide +kernel) (by rw [w1]; decide) (by rw [w1]; decide) (by rw [w1]; decide +kernel) (by decide +kernel) ?_
    refine at_aload_n (i := 0) 0 77 rfl (by decide +kernel) rfl ?_
    obtain ⟨k13, h⟩ := h
    refine at_get (index := 21) (v := va_rf (mR m t 1)) cok11 1 80 rfl (by decide +kernel) k13 (by decide +kernel) tw_441 rfl ?_
    obtain ⟨b14, e15, h⟩ := h
    rw [e15]
    obtain ⟨k16, h⟩ := h
    refine at_get (index := 160) (v := va_rf (mR m b14 3)) cok3 3 83 rfl (by decide +kernel) k16 (by decide +kernel) tw_291 rfl ?_
    obtain ⟨b17, e18, h⟩ := h
    rw [e18]
    obtain ⟨k19, h⟩ := h
    refine at_get (index := 164) (v := .int (mI m b17 1)) cok8 1 86 rfl (by decide +kernel) k19 (by decide +kernel) tw_155 rfl ?_
    exact at_iret rfl (by decide +kernel) h
  rw [if_neg c12] at h
  by_cases c20 : l1 = (3 : Int32)
  · rw [if_pos c20] at h
    have w1 : l1.toInt = 3 := by rw [c20]; decide +kernel
    refine at_tabIn (dflt := 155) (lo := 0) (hi := 10) (offs := #[59, 67, 75, 86, 94, 106, 115, 123, 131, 139, 147]) (len := 59) (off := 86) 87 (by decide +kernel) (by rw [w1]; decide) (by rw [w1]; decide) (by rw [w1]; decide +kernel) (by decide +kernel) ?_
    refine at_aload_n (i := 0) 0 88 rfl (by decide +kernel) rfl ?_
    obtain ⟨k21, h⟩ := h
    refine at_get (index := 21) (v := va_rf (mR m t 1)) cok11 1 91 rfl (by decide +kernel) k21 (by decide +kernel) tw_441 rfl ?_
    obtain ⟨b22, e23, h⟩ := h
    rw [e23]
    obtain ⟨k24, h⟩ := h
    refine at_get (index := 283) (v := .int (mI m b22 10)) cok3 10 94 rfl (by decide +kernel) k24 (by decide +kernel) tw_302 rfl ?_
    exact at_iret rfl (by decide +kernel) h
  rw [if_neg c20] at h
  by_cases c25 : l1 = (4 : Int32)
  · rw [if_pos c25] at h
    have w1 : l1.toInt = 4 := by rw [c25]; decide +kernel
    refine at_tabIn (dflt := 155) (lo := 0) (hi := 10) (offs := #[59, 67, 75, 86, 94, 106, 115, 123, 131, 139, 147]) (len := 59) (off := 94) 95 (by decide +kernel) (by rw [w1]; decide) (by rw [w1]; decide) (by rw [w1]; decide +kernel) (by decide +kernel) ?_
    refine at_aload_n (i := 0) 0 96 rfl (by decide +kernel) rfl ?_
    obtain ⟨k26, h⟩ := h
    refine at_get (index := 21) (v := va_rf (mR m t 1)) cok11 1 99 rfl (by decide +kernel) k26 (by decide +kernel) tw_441 rfl ?_
    obtain ⟨b27, e28, h⟩ := h
    rw [e28]
    obtain ⟨k29, h⟩ := h
    refine at_get (index := 160) (v := va_rf (mR m b27 3)) cok3 3 102 rfl (by decide +kernel) k29 (by decide +kernel) tw_291 rfl ?_
    obtain ⟨b30, e31, h⟩ := h
    rw [e31]
    obtain ⟨k32, h⟩ := h
    refine at_callV mb_Store_sacksInAll tw_715 tw_716 cok8 k32 (index := 286) tw_999 [] [] rfl rfl (by decide) 105 rfl (by decide +kernel) (Call.toJ (CJ.monoE h (fun x33 m34 h y35 => ?_)))
    have k36 : mK m34 t = 12 := y35.k k26 (by decide)
    have k37 : mK m34 b27 = 4 := y35.k k29 (by decide)
    have k38 : mK m34 b30 = 9 := y35.k k32 (by decide)
    refine at_l2i 106 rfl (by decide +kernel) ?_
    exact at_iret rfl (by decide +kernel) h
  rw [if_neg c25] at h
  by_cases c39 : l1 = (5 : Int32)
  · rw [if_pos c39] at h
    have w1 : l1.toInt = 5 := by rw [c39]; decide +kernel
    refine at_tabIn (dflt := 155) (lo := 0) (hi := 10) (offs := #[59, 67, 75, 86, 94, 106, 115, 123, 131, 139, 147]) (len := 59) (off := 106) 107 (by decide +kernel) (by rw [w1]; decide) (by rw [w1]; decide) (by rw [w1]; decide +kernel) (by decide +kernel) ?_
    refine at_aload_n (i := 0) 0 108 rfl (by decide +kernel) rfl ?_
    obtain ⟨k40, h⟩ := h
    refine at_get (index := 21) (v := va_rf (mR m t 1)) cok11 1 111 rfl (by decide +kernel) k40 (by decide +kernel) tw_441 rfl ?_
    obtain ⟨b41, e42, h⟩ := h
    rw [e42]
    obtain ⟨k43, h⟩ := h
    refine at_callV mb_Land_freeInAll tw_815 tw_816 cok3 k43 (index := 290) tw_1000 [] [] rfl rfl (by decide) 114 rfl (by decide +kernel) (Call.toJ (CJ.monoE h (fun x44 m45 h y46 => ?_)))
    have k47 : mK m45 t = 12 := y46.k k40 (by decide)
    have k48 : mK m45 b41 = 4 := y46.k k43 (by decide)
    refine at_l2i 115 rfl (by decide +kernel) ?_
    exact at_iret rfl (by decide +kernel) h
  rw [if_neg c39] at h
  by_cases c49 : l1 = (6 : Int32)
  · rw [if_pos c49] at h
    have w1 : l1.toInt = 6 := by rw [c49]; decide +kernel
    refine at_tabIn (dflt := 155) (lo := 0) (hi := 10) (offs := #[59, 67, 75, 86, 94, 106, 115, 123, 131, 139, 147]) (len := 59) (off := 115) 116 (by decide +kernel) (by rw [w1]; decide) (by rw [w1]; decide) (by rw [w1]; decide +kernel) (by decide +kernel) ?_
    refine at_aload_n (i := 0) 0 117 rfl (by decide +kernel) rfl ?_
    obtain ⟨k50, h⟩ := h
    refine at_get (index := 21) (v := va_rf (mR m t 1)) cok11 1 120 rfl (by decide +kernel) k50 (by decide +kernel) tw_441 rfl ?_
    obtain ⟨b51, e52, h⟩ := h
    rw [e52]
    obtain ⟨k53, h⟩ := h
    refine at_get (index := 293) (v := .int (mI m b51 11)) cok3 11 123 rfl (by decide +kernel) k53 (by decide +kernel) tw_304 rfl ?_
    exact at_iret rfl (by decide +kernel) h
  rw [if_neg c49] at h
  by_cases c54 : l1 = (7 : Int32)
  · rw [if_pos c54] at h
    have w1 : l1.toInt = 7 := by rw [c54]; decide +kernel
    refine at_tabIn (dflt := 155) (lo := 0) (hi := 10) (offs := #[59, 67, 75, 86, 94, 106, 115, 123, 131, 139, 147]) (len := 59) (off := 123) 124 (by decide +kernel) (by rw [w1]; decide) (by rw [w1]; decide) (by rw [w1]; decide +kernel) (by decide +kernel) ?_
    refine at_aload_n (i := 0) 0 125 rfl (by decide +kernel) rfl ?_
    obtain ⟨k55, h⟩ := h
    refine at_get (index := 21) (v := va_rf (mR m t 1)) cok11 1 128 rfl (by decide +kernel) k55 (by decide +kernel) tw_441 rfl ?_
    obtain ⟨b56, e57, h⟩ := h
    rw [e57]
    obtain ⟨k58, h⟩ := h
    refine at_get (index := 296) (v := .int (mI m b56 12)) cok3 12 131 rfl (by decide +kernel) k58 (by decide +kernel) tw_306 rfl ?_
    exact at_iret rfl (by decide +kernel) h
  rw [if_neg c54] at h
  by_cases c59 : l1 = (8 : Int32)
  · rw [if_pos c59] at h
    have w1 : l1.toInt = 8 := by rw [c59]; decide +kernel
    refine at_tabIn (dflt := 155) (lo := 0) (hi := 10) (offs := #[59, 67, 75, 86, 94, 106, 115, 123, 131, 139, 147]) (len := 59) (off := 131) 132 (by decide +kernel) (by rw [w1]; decide) (by rw [w1]; decide) (by rw [w1]; decide +kernel) (by decide +kernel) ?_
    refine at_aload_n (i := 0) 0 133 rfl (by decide +kernel) rfl ?_
    obtain ⟨k60, h⟩ := h
    refine at_get (index := 31) (v := va_rf (mR m t 3)) cok11 3 136 rfl (by decide +kernel) k60 (by decide +kernel) tw_443 rfl ?_
    obtain ⟨b61, e62, h⟩ := h
    rw [e62]
    obtain ⟨k63, h⟩ := h
    refine at_get (index := 113) (v := .int (mI m b61 4)) cok9 4 139 rfl (by decide +kernel) k63 (by decide +kernel) tw_349 rfl ?_
    exact at_iret rfl (by decide +kernel) h
  rw [if_neg c59] at h
  by_cases c64 : l1 = (9 : Int32)
  · rw [if_pos c64] at h
    have w1 : l1.toInt = 9 := by rw [c64]; decide +kernel
    refine at_tabIn (dflt := 155) (lo := 0) (hi := 10) (offs := #[59, 67, 75, 86, 94, 106, 115, 123, 131, 139, 147]) (len := 59) (off := 139) 140 (by decide +kernel) (by rw [w1]; decide) (by rw [w1]; decide) (by rw [w1]; decide +kernel) (by decide +kernel) ?_
    refine at_aload_n (i := 0) 0 141 rfl (by decide +kernel) rfl ?_
    obtain ⟨k65, h⟩ := h
    refine at_get (index := 21) (v := va_rf (mR m t 1)) cok11 1 144 rfl (by decide +kernel) k65 (by decide +kernel) tw_441 rfl ?_
    obtain ⟨b66, e67, h⟩ := h
    rw [e67]
    obtain ⟨k68, h⟩ := h
    refine at_get (index := 297) (v := .int (mI m b66 13)) cok3 13 147 rfl (by decide +kernel) k68 (by decide +kernel) tw_307 rfl ?_
    exact at_iret rfl (by decide +kernel) h
  rw [if_neg c64] at h
  by_cases c69 : l1 = (10 : Int32)
  · rw [if_pos c69] at h
    have w1 : l1.toInt = 10 := by rw [c69]; decide +kernel
    refine at_tabIn (dflt := 155) (lo := 0) (hi := 10) (offs := #[59, 67, 75, 86, 94, 106, 115, 123, 131, 139, 147]) (len := 59) (off := 147) 148 (by decide +kernel) (by rw [w1]; decide) (by rw [w1]; decide) (by rw [w1]; decide +kernel) (by decide +kernel) ?_
    refine at_aload_n (i := 0) 0 149 rfl (by decide +kernel) rfl ?_
    obtain ⟨k70, h⟩ := h
    refine at_get (index := 51) (v := va_rf (mR m t 6)) cok11 6 152 rfl (by decide +kernel) k70 (by decide +kernel) tw_446 rfl ?_
    obtain ⟨b71, e72, h⟩ := h
    rw [e72]
    obtain ⟨k73, h⟩ := h
    refine at_callV mb_Rows_filledSlots tw_1002 tw_1003 cok7 k73 (index := 300) tw_1001 [] [] rfl rfl (by decide) 155 rfl (by decide +kernel) (Call.toI (CI.monoE h (fun x74 m75 h y76 => ?_)))
    have k77 : mK m75 t = 12 := y76.k k70 (by decide)
    have k78 : mK m75 b71 = 8 := y76.k k73 (by decide)
    exact at_iret rfl (by decide +kernel) h
  rw [if_neg c69] at h
  have c2e : l1.toInt ≠ 0 := fun e => c2 (Int32.toInt_inj.mp (e.trans (by decide +kernel)))
  have c7e : l1.toInt ≠ 1 := fun e => c7 (Int32.toInt_inj.mp (e.trans (by decide +kernel)))
  have c12e : l1.toInt ≠ 2 := fun e => c12 (Int32.toInt_inj.mp (e.trans (by decide +kernel)))
  have c20e : l1.toInt ≠ 3 := fun e => c20 (Int32.toInt_inj.mp (e.trans (by decide +kernel)))
  have c25e : l1.toInt ≠ 4 := fun e => c25 (Int32.toInt_inj.mp (e.trans (by decide +kernel)))
  have c39e : l1.toInt ≠ 5 := fun e => c39 (Int32.toInt_inj.mp (e.trans (by decide +kernel)))
  have c49e : l1.toInt ≠ 6 := fun e => c49 (Int32.toInt_inj.mp (e.trans (by decide +kernel)))
  have c54e : l1.toInt ≠ 7 := fun e => c54 (Int32.toInt_inj.mp (e.trans (by decide +kernel)))
  have c59e : l1.toInt ≠ 8 := fun e => c59 (Int32.toInt_inj.mp (e.trans (by decide +kernel)))
  have c64e : l1.toInt ≠ 9 := fun e => c64 (Int32.toInt_inj.mp (e.trans (by decide +kernel)))
  have c69e : l1.toInt ≠ 10 := fun e => c69 (Int32.toInt_inj.mp (e.trans (by decide +kernel)))
  refine at_tabOut (dflt := 155) (lo := 0) (hi := 10) (offs := #[59, 67, 75, 86, 94, 106, 115, 123, 131, 139, 147]) (len := 59) 156 (by decide +kernel) (by omega) (by decide +kernel) ?_
  refine at_iconst (n := (-1)) (-1 : Int32) 157 rfl (by decide +kernel) (by decide +kernel) ?_
  exact at_iret rfl (by decide +kernel) h
set_option maxRecDepth 20000 in
set_option maxHeartbeats 4000000 in
theorem en_SL_sum (g : Gc) {lv : Nat} {t : Nat} {l1 : Int32} {m : Mm} {Q : Int64 → Mm → Prop} (h : CI g M_SL_isWithin lv [.int (l1), .int ((0 : Int32)), .int ((7 : Int32))] m (fun x1 m2 => (if (x1) = 0 then (Q (0 : Int64) m2) else (mK m2 t = 12 ∧ (∃ b6, mR m2 t 1 = some b6 ∧ (mK m2 b6 = 4 ∧ (∃ b9, mR m2 b6 7 = some b9 ∧ (mK m2 b9 = 16 ∧ (vp_in l1 (mN m2 b9) ∧ (Q (mL m2 b9 l1.toNatClampNeg) m2)))))))))) : CJ g M_SL_sum (lv + 1) [va_rf (some t), .int (l1)] m Q := by
  refine Call.of (by decide +kernel) (Nat.le_of_ble_eq_true rfl) ?_
  show At g M_SL_sum (lv + 1) 0 [(0, va_rf (some t)), (1, .int (l1))] [] m (QJ Q)
  refine at_iload_n (i := 1) 1 1 rfl (by decide +kernel) rfl ?_
  refine at_iconst (n := 0) (0 : Int32) 2 rfl (by decide +kernel) (by decide +kernel) ?_
  refine at_bipush (n := 7) (7 : Int32) 4 rfl (by decide +kernel) (by decide +kernel) ?_
  refine at_callS mb_SL_isWithin tw_471 (index := 64) tw_470 [.int (l1), .int ((0 : Int32)), .int ((7 : Int32))] [] rfl rfl (by decide) 7 rfl (by decide +kernel) (Call.toI (CI.monoE h (fun x1 m2 h y3 => ?_)))
  refine at_if_eq (off := 15) 22 10 rfl (by decide +kernel) (by decide +kernel) (fun c4 => ?_) (fun c4 => ?_)
  · rw [if_pos c4] at h
    refine at_lconst (n := 0) (0 : Int64) 23 rfl (by decide +kernel) (by decide +kernel) ?_
    exact at_lret rfl (by decide +kernel) h
  · rw [if_neg c4] at h
    refine at_aload_n (i := 0) 0 11 rfl (by decide +kernel) rfl ?_
    obtain ⟨k5, h⟩ := h
    refine at_get (index := 21) (v := va_rf (mR m2 t 1)) cok11 1 14 rfl (by decide +kernel) k5 (by decide +kernel) tw_441 rfl ?_
    obtain ⟨b6, e7, h⟩ := h
    rw [e7]
    obtain ⟨k8, h⟩ := h
    refine at_get (index := 252) (v := va_rf (mR m2 b6 7)) cok3 7 17 rfl (by decide +kernel) k8 (by decide +kernel) tw_296 rfl ?_
    refine at_iload_n (i := 1) 1 18 rfl (by decide +kernel) rfl ?_
    obtain ⟨b9, e10, h⟩ := h
    rw [e10]
    obtain ⟨k11, h⟩ := h
    obtain ⟨v12, h⟩ := h
    refine at_lald 19 rfl (by decide +kernel) k11 v12 ?_
    refine at_goto (off := 4) 23 (by decide +kernel) (by decide +kernel) ?_
    exact at_lret rfl (by decide +kernel) h
set_option maxRecDepth 20000 in
set_option maxHeartbeats 4000000 in
theorem bk_SL_gains_5 (g : Gc) {lv : Nat} {t : Nat} {l1 : Int32} {l2 : Int32} {l3 : Int64} {l5 : Int32} {m : Mm} {Q : Int64 → Mm → Prop} (h : mK m t = 12 ∧ (∃ b2, mR m t 1 = some b2 ∧ (mK m b2 = 4 ∧ (if (mI m b2 8) ≤ (l5) then (Q l3 m) else (∃ b6, mR m b2 1 = some b6 ∧ (mK m b6 = 19 ∧ (vp_in l5 (mN m b6) ∧ (∃ b10, mR m b6 l5.toNatClampNeg = some b10 ∧ (mK m b10 = 2 ∧ (CI g M_SL_isWithin lv [.int (mI m b10 5), .int (l1), .int (l2)] m (fun x13 m14 => (if (x13) = 0 then (At g M_SL_gains (lv + 1) 5 [(0, va_rf (some t)), (1, .int (l1)), (2, .int (l2)), (3, .long (l3)), (5, .int (l5 + (1 : Int32)))] [] m14 (QJ Q)) else (At g M_SL_gains (lv + 1) 5 [(0, va_rf (some t)), (1, .int (l1)), (2, .int (l2)), (3, .long (l3 + (mL m14 b10 11))), (5, .int (l5 + (1 : Int32)))] [] m14 (QJ Q)))))))))))))) : At g M_SL_gains (lv + 1) 5 [(0, va_rf (some t)), (1, .int (l1)), (2, .int (l2)), (3, .long (l3)), (5, .int (l5))] [] m (QJ Q) := by
  refine at_iload (i := 5) 4 7 rfl (by decide +kernel) rfl ?_
  refine at_aload_n (i := 0) 0 8 rfl (by decide +kernel) rfl ?_
  obtain ⟨k1, h⟩ := h
  refine at_get (index := 21) (v := va_rf (mR m t 1)) cok11 1 11 rfl (by decide +kernel) k1 (by decide +kernel) tw_441 rfl ?_
  obtain ⟨b2, e3, h⟩ := h
  rw [e3]
  obtain ⟨k4, h⟩ := h
  refine at_get (index := 103) (v := .int (mI m b2 8)) cok3 8 14 rfl (by decide +kernel) k4 (by decide +kernel) tw_298 rfl ?_
  refine at_icmp_ge (off := 42) 56 17 rfl (by decide +kernel) (by decide +kernel) (fun c5 => ?_) (fun c5 => ?_)
  · rw [if_pos c5] at h
    refine at_lload_n (i := 3) 3 57 rfl (by decide +kernel) rfl ?_
    exact at_lret rfl (by decide +kernel) h
  · rw [if_neg c5] at h
    refine at_aload_n (i := 0) 0 18 rfl (by decide +kernel) rfl ?_
    refine at_get (index := 21) (v := va_rf (mR m t 1)) cok11 1 21 rfl (by decide +kernel) k1 (by decide +kernel) tw_441 rfl ?_
    rw [e3]
    refine at_get (index := 243) (v := va_rf (mR m b2 1)) cok3 1 24 rfl (by decide +kernel) k4 (by decide +kernel) tw_287 rfl ?_
    refine at_iload (i := 5) 4 26 rfl (by decide +kernel) rfl ?_
    obtain ⟨b6, e7, h⟩ := h
    rw [e7]
    obtain ⟨k8, h⟩ := h
    obtain ⟨v9, h⟩ := h
    refine at_aaldGrower 27 rfl (by decide +kernel) k8 v9 ?_
    refine at_astore (i := 6) (lc' := [(0, va_rf (some t)), (1, .int (l1)), (2, .int (l2)), (3, .long (l3)), (5, .int (l5)), (6, va_rf (mR m b6 l5.toNatClampNeg))]) [1, 2, 3, 4, 5, 0] 29 rfl (by decide +kernel) (by decide +kernel) rfl ?_
    refine at_aload (i := 6) 5 31 rfl (by decide +kernel) rfl ?_
    obtain ⟨b10, e11, h⟩ := h
    rw [e11]
    obtain ⟨k12, h⟩ := h
    refine at_get (index := 261) (v := .int (mI m b10 5)) cok1 5 34 rfl (by decide +kernel) k12 (by decide +kernel) tw_219 rfl ?_
    refine at_iload_n (i := 1) 1 35 rfl (by decide +kernel) rfl ?_
    refine at_iload_n (i := 2) 2 36 rfl (by decide +kernel) rfl ?_
    refine at_callS mb_SL_isWithin tw_471 (index := 64) tw_470 [.int (mI m b10 5), .int (l1), .int (l2)] [] rfl rfl (by decide) 39 rfl (by decide +kernel) (Call.toI (CI.monoE h (fun x13 m14 h y15 => ?_)))
    have k16 : mK m14 t = 12 := y15.k k1 (by decide)
    have k17 : mK m14 b2 = 4 := y15.k k4 (by decide)
    have k18 : mK m14 b6 = 19 := y15.k k8 (by decide)
    have k19 : mK m14 b10 = 2 := y15.k k12 (by decide)
    refine at_if_eq (off := 11) 50 42 rfl (by decide +kernel) (by decide +kernel) (fun c20 => ?_) (fun c20 => ?_)
    · rw [if_pos c20] at h
      refine at_iinc (i := 5) (n := 1) (lc' := [(0, va_rf (some t)), (1, .int (l1)), (2, .int (l2)), (3, .long (l3)), (5, .int (l5 + (1 : Int32)))]) (l5 + (1 : Int32)) 4 [1, 2, 3, 4, 0] 53 rfl (by decide +kernel) rfl (by rw [show Int32.ofInt 1 = (1 : Int32) from by decide +kernel]) (by decide +kernel) rfl ?_
      refine at_goto (off := (-48)) 5 (by decide +kernel) (by decide +kernel) ?_
      exact h
    · rw [if_neg c20] at h
      refine at_lload_n (i := 3) 3 43 rfl (by decide +kernel) rfl ?_
      refine at_aload (i := 6) 5 45 rfl (by decide +kernel) rfl ?_
      refine at_get (index := 304) (v := .long (mL m14 b10 11)) cok1 11 48 rfl (by decide +kernel) k19 (by decide +kernel) tw_234 rfl ?_
      refine at_ladd 49 rfl (by decide +kernel) ?_
      refine at_lstore_n (i := 3) (lc' := [(0, va_rf (some t)), (1, .int (l1)), (2, .int (l2)), (3, .long (l3 + (mL m14 b10 11))), (5, .int (l5))]) [1, 2, 3, 0, 4] 50 rfl (by decide +kernel) (by decide +kernel) rfl ?_
      refine at_iinc (i := 5) (n := 1) (lc' := [(0, va_rf (some t)), (1, .int (l1)), (2, .int (l2)), (3, .long (l3 + (mL m14 b10 11))), (5, .int (l5 + (1 : Int32)))]) (l5 + (1 : Int32)) 4 [1, 2, 3, 4, 0] 53 rfl (by decide +kernel) rfl (by rw [show Int32.ofInt 1 = (1 : Int32) from by decide +kernel]) (by decide +kernel) rfl ?_
      refine at_goto (off := (-48)) 5 (by decide +kernel) (by decide +kernel) ?_
      exact h
set_option maxRecDepth 20000 in
set_option maxHeartbeats 4000000 in
theorem en_SL_gains (g : Gc) {lv : Nat} {t : Nat} {l1 : Int32} {l2 : Int32} {m : Mm} {Q : Int64 → Mm → Prop} (h : At g M_SL_gains (lv + 1) 5 [(0, va_rf (some t)), (1, .int (l1)), (2, .int (l2)), (3, .long ((0 : Int64))), (5, .int ((0 : Int32)))] [] m (QJ Q)) : CJ g M_SL_gains (lv + 1) [va_rf (some t), .int (l1), .int (l2)] m Q := by
  refine Call.of (by decide +kernel) (Nat.le_of_ble_eq_true rfl) ?_
  show At g M_SL_gains (lv + 1) 0 [(0, va_rf (some t)), (1, .int (l1)), (2, .int (l2))] [] m (QJ Q)
  refine at_lconst (n := 0) (0 : Int64) 1 rfl (by decide +kernel) (by decide +kernel) ?_
  refine at_lstore_n (i := 3) (lc' := [(0, va_rf (some t)), (1, .int (l1)), (2, .int (l2)), (3, .long ((0 : Int64)))]) [1, 2, 3, 0] 2 rfl (by decide +kernel) (by decide +kernel) rfl ?_
  refine at_iconst (n := 0) (0 : Int32) 3 rfl (by decide +kernel) (by decide +kernel) ?_
  refine at_istore (i := 5) (lc' := [(0, va_rf (some t)), (1, .int (l1)), (2, .int (l2)), (3, .long ((0 : Int64))), (5, .int ((0 : Int32)))]) [1, 2, 3, 4, 0] 5 rfl (by decide +kernel) (by decide +kernel) rfl ?_
  exact h
set_option maxRecDepth 20000 in
set_option maxHeartbeats 4000000 in
theorem en_SL_beside (g : Gc) {lv : Nat} {t : Nat} {l1 : Int32} {m : Mm} {Q : Int64 → Mm → Prop} (h : CI g M_SL_isWithin lv [.int (l1), .int ((0 : Int32)), .int ((4 : Int32))] m (fun x1 m2 => (if (x1) = 0 then (Q (-2 : Int64) m2) else (mK m2 t = 12 ∧ (∃ b6, mR m2 t 3 = some b6 ∧ (mK m2 b6 = 10 ∧ (CI g M_Tape_readLaw lv [va_rf (some b6), va_rf (mR m2 t 4)] m2 (fun x9 m10 => (if (x9) = 0 then (Q (-4 : Int64) m10) else (∃ b15, mR m10 t 2 = some b15 ∧ (mK m10 b15 = 4 ∧ (CV g M_Land_liveAgain lv [va_rf (some b15), va_rf (mR m10 t 1), va_rf (mR m10 t 4)] m10 (fun m18 => (if l1 = (0 : Int32) then (∃ b25, mR m18 t 2 = some b25 ∧ (mK m18 b25 = 4 ∧ (Q ((mI m18 b25 10).toInt64) m18))) else (if l1 = (1 : Int32) then (∃ b29, mR m18 t 2 = some b29 ∧ (mK m18 b29 = 4 ∧ (∃ b32, mR m18 b29 3 = some b32 ∧ (mK m18 b32 = 9 ∧ (CJ g M_Store_sacksInAll lv [va_rf (some b32)] m18 (fun x35 m36 => (Q x35 m36))))))) else (if l1 = (2 : Int32) then (∃ b44, mR m18 t 2 = some b44 ∧ (mK m18 b44 = 4 ∧ (CJ g M_Land_moneyInAll lv [va_rf (some b44)] m18 (fun x47 m48 => (Q x47 m48))))) else (if l1 = (3 : Int32) then (∃ b55, mR m18 t 2 = some b55 ∧ (mK m18 b55 = 4 ∧ (CJ g M_Land_bearingInAll lv [va_rf (some b55)] m18 (fun x58 m59 => (Q x58 m59))))) else (∃ b65, mR m18 t 2 = some b65 ∧ (mK m18 b65 = 4 ∧ (CJ g M_Land_freeInAll lv [va_rf (some b65)] m18 (fun x68 m69 => (Q x68 m69)))))))))))))))))))))) : CJ g M_SL_beside (lv + 1) [va_rf (some t), .int (l1)] m Q := by
  refine Call.of (by decide +kernel) (Nat.le_of_ble_eq_true rfl) ?_
  show At g M_SL_beside (lv + 1) 0 [(0, va_rf (some t)), (1, .int (l1))] [] m (QJ Q)
  refine at_iload_n (i := 1) 1 1 rfl (by decide +kernel) rfl ?_
  refine at_iconst (n := 0) (0 : Int32) 2 rfl (by decide +kernel) (by decide +kernel) ?_
  refine at_iconst (n := 4) (4 : Int32) 3 rfl (by decide +kernel) (by decide +kernel) ?_
  refine at_callS mb_SL_isWithin tw_471 (index := 64) tw_470 [.int (l1), .int ((0 : Int32)), .int ((4 : Int32))] [] rfl rfl (by decide) 6 rfl (by decide +kernel) (Call.toI (CI.monoE h (fun x1 m2 h y3 => ?_)))
  refine at_if_ne (off := 7) 13 9 rfl (by decide +kernel) (by decide +kernel) (fun c4 => ?_) (fun c4 => ?_)
  · rw [if_neg c4] at h
    refine at_aload_n (i := 0) 0 14 rfl (by decide +kernel) rfl ?_
    obtain ⟨k5, h⟩ := h
    refine at_get (index := 31) (v := va_rf (mR m2 t 3)) cok11 3 17 rfl (by decide +kernel) k5 (by decide +kernel) tw_443 rfl ?_
    refine at_aload_n (i := 0) 0 18 rfl (by decide +kernel) rfl ?_
    refine at_get (index := 40) (v := va_rf (mR m2 t 4)) cok11 4 21 rfl (by decide +kernel) k5 (by decide +kernel) tw_444 rfl ?_
    obtain ⟨b6, e7, h⟩ := h
    rw [e7]
    obtain ⟨k8, h⟩ := h
    refine at_callV mb_Tape_readLaw tw_508 tw_509 cok9 k8 (index := 120) tw_507 [va_rf (mR m2 t 4)] [] rfl rfl (by decide) 24 rfl (by decide +kernel) (Call.toI (CI.monoE h (fun x9 m10 h y11 => ?_)))
    have k12 : mK m10 t = 12 := y11.k k5 (by decide)
    have k13 : mK m10 b6 = 10 := y11.k k8 (by decide)
    refine at_if_ne (off := 7) 31 27 rfl (by decide +kernel) (by decide +kernel) (fun c14 => ?_) (fun c14 => ?_)
    · rw [if_neg c14] at h
      refine at_aload_n (i := 0) 0 32 rfl (by decide +kernel) rfl ?_
      refine at_get (index := 25) (v := va_rf (mR m10 t 2)) cok11 2 35 rfl (by decide +kernel) k12 (by decide +kernel) tw_442 rfl ?_
      refine at_aload_n (i := 0) 0 36 rfl (by decide +kernel) rfl ?_
      refine at_get (index := 21) (v := va_rf (mR m10 t 1)) cok11 1 39 rfl (by decide +kernel) k12 (by decide +kernel) tw_441 rfl ?_
      refine at_aload_n (i := 0) 0 40 rfl (by decide +kernel) rfl ?_
      refine at_get (index := 40) (v := va_rf (mR m10 t 4)) cok11 4 43 rfl (by decide +kernel) k12 (by decide +kernel) tw_444 rfl ?_
      obtain ⟨b15, e16, h⟩ := h
      rw [e16]
      obtain ⟨k17, h⟩ := h
      refine at_callV mb_Land_liveAgain tw_1019 tw_1020 cok3 k17 (index := 309) tw_1018 [va_rf (mR m10 t 1), va_rf (mR m10 t 4)] [] rfl rfl (by decide) 46 rfl (by decide +kernel) (Call.toV (CV.monoE h (fun m18 h y19 => ?_)))
      have k20 : mK m18 t = 12 := y19.k k12 (by decide)
      have k21 : mK m18 b6 = 10 := y19.k k13 (by decide)
      have k22 : mK m18 b15 = 4 := y19.k k17 (by decide)
      refine at_iload_n (i := 1) 1 47 rfl (by decide +kernel) rfl ?_
      by_cases c24 : l1 = (0 : Int32)
      · rw [if_pos c24] at h
        have w23 : l1.toInt = 0 := by rw [c24]; decide +kernel
        refine at_tabIn (dflt := 65) (lo := 0) (hi := 3) (offs := #[29, 38, 49, 57]) (len := 29) (off := 29) 76 (by decide +kernel) (by rw [w23]; decide) (by rw [w23]; decide) (by rw [w23]; decide +kernel) (by decide +kernel) ?_
        refine at_aload_n (i := 0) 0 77 rfl (by decide +kernel) rfl ?_
        refine at_get (index := 25) (v := va_rf (mR m18 t 2)) cok11 2 80 rfl (by decide +kernel) k20 (by decide +kernel) tw_442 rfl ?_
        obtain ⟨b25, e26, h⟩ := h
        rw [e26]
        obtain ⟨k27, h⟩ := h
        refine at_get (index := 283) (v := .int (mI m18 b25 10)) cok3 10 83 rfl (by decide +kernel) k27 (by decide +kernel) tw_302 rfl ?_
        refine at_i2l 84 rfl (by decide +kernel) ?_
        exact at_lret rfl (by decide +kernel) h
      rw [if_neg c24] at h
      by_cases c28 : l1 = (1 : Int32)
      · rw [if_pos c28] at h
        have w23 : l1.toInt = 1 := by rw [c28]; decide +kernel
        refine at_tabIn (dflt := 65) (lo := 0) (hi := 3) (offs := #[29, 38, 49, 57]) (len := 29) (off := 38) 85 (by decide +kernel) (by rw [w23]; decide) (by rw [w23]; decide) (by rw [w23]; decide +kernel) (by decide +kernel) ?_
        refine at_aload_n (i := 0) 0 86 rfl (by decide +kernel) rfl ?_
        refine at_get (index := 25) (v := va_rf (mR m18 t 2)) cok11 2 89 rfl (by decide +kernel) k20 (by decide +kernel) tw_442 rfl ?_
        obtain ⟨b29, e30, h⟩ := h
        rw [e30]
        obtain ⟨k31, h⟩ := h
        refine at_get (index := 160) (v := va_rf (mR m18 b29 3)) cok3 3 92 rfl (by decide +kernel) k31 (by decide +kernel) tw_291 rfl ?_
        obtain ⟨b32, e33, h⟩ := h
        rw [e33]
        obtain ⟨k34, h⟩ := h
        refine at_callV mb_Store_sacksInAll tw_715 tw_716 cok8 k34 (index := 286) tw_999 [] [] rfl rfl (by decide) 95 rfl (by decide +kernel) (Call.toJ (CJ.monoE h (fun x35 m36 h y37 => ?_)))
        have k38 : mK m36 t = 12 := y37.k k20 (by decide)
        have k39 : mK m36 b6 = 10 := y37.k k21 (by decide)
        have k40 : mK m36 b15 = 4 := y37.k k22 (by decide)
        have k41 : mK m36 b29 = 4 := y37.k k31 (by decide)
        have k42 : mK m36 b32 = 9 := y37.k k34 (by decide)
        exact at_lret rfl (by decide +kernel) h
      rw [if_neg c28] at h
      by_cases c43 : l1 = (2 : Int32)
      · rw [if_pos c43] at h
        have w23 : l1.toInt = 2 := by rw [c43]; decide +kernel
        refine at_tabIn (dflt := 65) (lo := 0) (hi := 3) (offs := #[29, 38, 49, 57]) (len := 29) (off := 49) 96 (by decide +kernel) (by rw [w23]; decide) (by rw [w23]; decide) (by rw [w23]; decide +kernel) (by decide +kernel) ?_
        refine at_aload_n (i := 0) 0 97 rfl (by decide +kernel) rfl ?_
        refine at_get (index := 25) (v := va_rf (mR m18 t 2)) cok11 2 100 rfl (by decide +kernel) k20 (by decide +kernel) tw_442 rfl ?_
        obtain ⟨b44, e45, h⟩ := h
        rw [e45]
        obtain ⟨k46, h⟩ := h
        refine at_callV mb_Land_moneyInAll tw_1026 tw_1027 cok3 k46 (index := 313) tw_1025 [] [] rfl rfl (by decide) 103 rfl (by decide +kernel) (Call.toJ (CJ.monoE h (fun x47 m48 h y49 => ?_)))
        have k50 : mK m48 t = 12 := y49.k k20 (by decide)
        have k51 : mK m48 b6 = 10 := y49.k k21 (by decide)
        have k52 : mK m48 b15 = 4 := y49.k k22 (by decide)
        have k53 : mK m48 b44 = 4 := y49.k k46 (by decide)
        exact at_lret rfl (by decide +kernel) h
      rw [if_neg c43] at h
      by_cases c54 : l1 = (3 : Int32)
      · rw [if_pos c54] at h
        have w23 : l1.toInt = 3 := by rw [c54]; decide +kernel
        refine at_tabIn (dflt := 65) (lo := 0) (hi := 3) (offs := #[29, 38, 49, 57]) (len := 29) (off := 57) 104 (by decide +kernel) (by rw [w23]; decide) (by rw [w23]; decide) (by rw [w23]; decide +kernel) (by decide +kernel) ?_
        refine at_aload_n (i := 0) 0 105 rfl (by decide +kernel) rfl ?_
        refine at_get (index := 25) (v := va_rf (mR m18 t 2)) cok11 2 108 rfl (by decide +kernel) k20 (by decide +kernel) tw_442 rfl ?_
        obtain ⟨b55, e56, h⟩ := h
        rw [e56]
        obtain ⟨k57, h⟩ := h
        refine at_callV mb_Land_bearingInAll tw_1030 tw_1031 cok3 k57 (index := 316) tw_1029 [] [] rfl rfl (by decide) 111 rfl (by decide +kernel) (Call.toJ (CJ.monoE h (fun x58 m59 h y60 => ?_)))
        have k61 : mK m59 t = 12 := y60.k k20 (by decide)
        have k62 : mK m59 b6 = 10 := y60.k k21 (by decide)
        have k63 : mK m59 b15 = 4 := y60.k k22 (by decide)
        have k64 : mK m59 b55 = 4 := y60.k k57 (by decide)
        exact at_lret rfl (by decide +kernel) h
      rw [if_neg c54] at h
      have c24e : l1.toInt ≠ 0 := fun e => c24 (Int32.toInt_inj.mp (e.trans (by decide +kernel)))
      have c28e : l1.toInt ≠ 1 := fun e => c28 (Int32.toInt_inj.mp (e.trans (by decide +kernel)))
      have c43e : l1.toInt ≠ 2 := fun e => c43 (Int32.toInt_inj.mp (e.trans (by decide +kernel)))
      have c54e : l1.toInt ≠ 3 := fun e => c54 (Int32.toInt_inj.mp (e.trans (by decide +kernel)))
      refine at_tabOut (dflt := 65) (lo := 0) (hi := 3) (offs := #[29, 38, 49, 57]) (len := 29) 112 (by decide +kernel) (by omega) (by decide +kernel) ?_
      refine at_aload_n (i := 0) 0 113 rfl (by decide +kernel) rfl ?_
      refine at_get (index := 25) (v := va_rf (mR m18 t 2)) cok11 2 116 rfl (by decide +kernel) k20 (by decide +kernel) tw_442 rfl ?_
      obtain ⟨b65, e66, h⟩ := h
      rw [e66]
      obtain ⟨k67, h⟩ := h
      refine at_callV mb_Land_freeInAll tw_815 tw_816 cok3 k67 (index := 290) tw_1000 [] [] rfl rfl (by decide) 119 rfl (by decide +kernel) (Call.toJ (CJ.monoE h (fun x68 m69 h y70 => ?_)))
      have k71 : mK m69 t = 12 := y70.k k20 (by decide)
      have k72 : mK m69 b6 = 10 := y70.k k21 (by decide)
      have k73 : mK m69 b15 = 4 := y70.k k22 (by decide)
      have k74 : mK m69 b65 = 4 := y70.k k67 (by decide)
      exact at_lret rfl (by decide +kernel) h
    · rw [if_pos c14] at h
      refine at_ldc2 (index := 307) (-4 : Int64) 30 rfl (by decide +kernel) tw_1017 ?_
      exact at_lret rfl (by decide +kernel) h
  · rw [if_pos c4] at h
    refine at_ldc2 (index := 201) (-2 : Int64) 12 rfl (by decide +kernel) tw_922 ?_
    exact at_lret rfl (by decide +kernel) h
set_option maxRecDepth 20000 in
set_option maxHeartbeats 4000000 in
theorem bk_SL_light_118 (g : Gc) {lv : Nat} {t : Nat} {l1 : Int32} {l2 : Int32} {l3 : Int32} {l4 : Int32} {l6 : Int32} {l8 : Int32} {s0 : Int64} {m : Mm} {Q : Int32 → Mm → Prop} (h : mK m t = 12 ∧ (CJ g M_SL_setsOf lv [va_rf (some t), .int (l1), .int (l2)] m (fun x2 m3 => (if (s0 * (20 : Int64)) < (x2) then (At g M_SL_light (lv + 1) 56 [(0, va_rf (some t)), (1, .int (l1)), (2, .int (l2)), (3, .int (l3)), (4, .int (l4)), (6, .int (l6 + (1 : Int32)))] [] m3 (QI Q)) else (Q l8 m3))))) : At g M_SL_light (lv + 1) 118 [(0, va_rf (some t)), (1, .int (l1)), (2, .int (l2)), (3, .int (l3)), (4, .int (l4)), (6, .int (l6)), (8, .int (l8))] [.long (s0)] m (QI Q) := by
  refine at_lstore (i := 9) (lc' := [(0, va_rf (some t)), (1, .int (l1)), (2, .int (l2)), (3, .int (l3)), (4, .int (l4)), (6, .int (l6)), (8, .int (l8)), (9, .long (s0))]) [1, 2, 3, 4, 5, 6, 7, 0] 120 rfl (by decide +kernel) (by decide +kernel) rfl ?_
  refine at_lload (i := 9) 7 122 rfl (by decide +kernel) rfl ?_
  refine at_ldc2 (index := 323) (20 : Int64) 125 rfl (by decide +kernel) tw_1045 ?_
  refine at_lmul 126 rfl (by decide +kernel) ?_
  refine at_aload_n (i := 0) 0 127 rfl (by decide +kernel) rfl ?_
  refine at_iload_n (i := 1) 1 128 rfl (by decide +kernel) rfl ?_
  refine at_iload_n (i := 2) 2 129 rfl (by decide +kernel) rfl ?_
  obtain ⟨k1, h⟩ := h
  refine at_callV mb_SL_setsOf tw_1043 tw_31 cok11 k1 (index := 325) tw_1041 [.int (l1), .int (l2)] [.long (s0 * (20 : Int64))] rfl rfl (by simp [va_rf_cat, cat_int, cat_long]) 132 rfl (by decide +kernel) (Call.toJ (CJ.monoE h (fun x2 m3 h y4 => ?_)))
  have k5 : mK m3 t = 12 := y4.k k1 (by decide)
  refine at_lif_lt (off := 6) 133 139 136 rfl rfl (by decide +kernel) (by decide +kernel) (by decide +kernel) (fun c6 => ?_) (fun c6 => ?_)
  · rw [if_pos c6] at h
    refine at_iinc (i := 6) (n := 1) (lc' := [(0, va_rf (some t)), (1, .int (l1)), (2, .int (l2)), (3, .int (l3)), (4, .int (l4)), (6, .int (l6 + (1 : Int32)))]) (l6 + (1 : Int32)) 5 [1, 2, 3, 4, 5, 0] 142 rfl (by decide +kernel) rfl (by rw [show Int32.ofInt 1 = (1 : Int32) from by decide +kernel]) (by decide +kernel) rfl ?_
    refine at_goto (off := (-86)) 56 (by decide +kernel) (by decide +kernel) ?_
    exact h
  · rw [if_neg c6] at h
    refine at_iload (i := 8) 6 138 rfl (by decide +kernel) rfl ?_
    exact at_iret rfl (by decide +kernel) h
set_option maxRecDepth 20000 in
set_option maxHeartbeats 4000000 in
theorem bk_SL_light_88 (g : Gc) {lv : Nat} {t : Nat} {l1 : Int32} {l2 : Int32} {l3 : Int32} {l4 : Int32} {l6 : Int32} {l7 : Int32} {s0 : Int32} {m : Mm} {Q : Int32 → Mm → Prop} (h : if (l7) = 0 then (mK m t = 12 ∧ (CJ g M_SL_waysToDraw lv [va_rf (some t), .int (l1), .int (s0), .int (l2), .int ((0 : Int32)), .int (l3)] m (fun x3 m4 => (At g M_SL_light (lv + 1) 118 [(0, va_rf (some t)), (1, .int (l1)), (2, .int (l2)), (3, .int (l3)), (4, .int (l4)), (6, .int (l6)), (8, .int (s0))] [.long (x3)] m4 (QI Q))))) else (mK m t = 12 ∧ (CJ g M_SL_waysToDraw lv [va_rf (some t), .int (l1), .int (s0), .int (l2), .int (l3), .int (l2)] m (fun x8 m9 => (At g M_SL_light (lv + 1) 118 [(0, va_rf (some t)), (1, .int (l1)), (2, .int (l2)), (3, .int (l3)), (4, .int (l4)), (6, .int (l6)), (8, .int (s0))] [.long (x8)] m9 (QI Q)))))) : At g M_SL_light (lv + 1) 88 [(0, va_rf (some t)), (1, .int (l1)), (2, .int (l2)), (3, .int (l3)), (4, .int (l4)), (6, .int (l6)), (7, .int (l7))] [.int (s0)] m (QI Q) := by
  refine at_istore (i := 8) (lc' := [(0, va_rf (some t)), (1, .int (l1)), (2, .int (l2)), (3, .int (l3)), (4, .int (l4)), (6, .int (l6)), (7, .int (l7)), (8, .int (s0))]) [1, 2, 3, 4, 5, 6, 7, 0] 90 rfl (by decide +kernel) (by decide +kernel) rfl ?_
  refine at_iload (i := 7) 6 92 rfl (by decide +kernel) rfl ?_
  refine at_if_eq (off := 16) 108 95 rfl (by decide +kernel) (by decide +kernel) (fun c1 => ?_) (fun c1 => ?_)
  · rw [if_pos c1] at h
    refine at_aload_n (i := 0) 0 109 rfl (by decide +kernel) rfl ?_
    refine at_iload_n (i := 1) 1 110 rfl (by decide +kernel) rfl ?_
    refine at_iload (i := 8) 7 112 rfl (by decide +kernel) rfl ?_
    refine at_iload_n (i := 2) 2 113 rfl (by decide +kernel) rfl ?_
    refine at_iconst (n := 0) (0 : Int32) 114 rfl (by decide +kernel) (by decide +kernel) ?_
    refine at_iload_n (i := 3) 3 115 rfl (by decide +kernel) rfl ?_
    obtain ⟨k2, h⟩ := h
    refine at_callV mb_SL_waysToDraw tw_1039 tw_30 cok11 k2 (index := 319) tw_1037 [.int (l1), .int (s0), .int (l2), .int ((0 : Int32)), .int (l3)] [] rfl rfl (by decide) 118 rfl (by decide +kernel) (Call.toJ (CJ.monoE h (fun x3 m4 h y5 => ?_)))
    have k6 : mK m4 t = 12 := y5.k k2 (by decide)
    exact At.sub [0, 1, 2, 3, 4, 5, 7] rfl h
  · rw [if_neg c1] at h
    refine at_aload_n (i := 0) 0 96 rfl (by decide +kernel) rfl ?_
    refine at_iload_n (i := 1) 1 97 rfl (by decide +kernel) rfl ?_
    refine at_iload (i := 8) 7 99 rfl (by decide +kernel) rfl ?_
    refine at_iload_n (i := 2) 2 100 rfl (by decide +kernel) rfl ?_
    refine at_iload_n (i := 3) 3 101 rfl (by decide +kernel) rfl ?_
    refine at_iload_n (i := 2) 2 102 rfl (by decide +kernel) rfl ?_
    obtain ⟨k7, h⟩ := h
    refine at_callV mb_SL_waysToDraw tw_1039 tw_30 cok11 k7 (index := 319) tw_1037 [.int (l1), .int (s0), .int (l2), .int (l3), .int (l2)] [] rfl rfl (by decide) 105 rfl (by decide +kernel) (Call.toJ (CJ.monoE h (fun x8 m9 h y10 => ?_)))
    have k11 : mK m9 t = 12 := y10.k k7 (by decide)
    refine at_goto (off := 13) 118 (by decide +kernel) (by decide +kernel) ?_
    exact At.sub [0, 1, 2, 3, 4, 5, 7] rfl h
set_option maxRecDepth 20000 in
set_option maxHeartbeats 4000000 in
theorem bk_SL_light_72 (g : Gc) {lv : Nat} {t : Nat} {l1 : Int32} {l2 : Int32} {l3 : Int32} {l4 : Int32} {l6 : Int32} {s0 : Int32} {m : Mm} {Q : Int32 → Mm → Prop} (h : if (s0) = 0 then (At g M_SL_light (lv + 1) 88 [(0, va_rf (some t)), (1, .int (l1)), (2, .int (l2)), (3, .int (l3)), (4, .int (l4)), (6, .int (l6)), (7, .int (s0))] [.int (l1 - l6)] m (QI Q)) else (At g M_SL_light (lv + 1) 88 [(0, va_rf (some t)), (1, .int (l1)), (2, .int (l2)), (3, .int (l3)), (4, .int (l4)), (6, .int (l6)), (7, .int (s0))] [.int (l6)] m (QI Q))) : At g M_SL_light (lv + 1) 72 [(0, va_rf (some t)), (1, .int (l1)), (2, .int (l2)), (3, .int (l3)), (4, .int (l4)), (6, .int (l6))] [.int (s0)] m (QI Q) := by
  refine at_istore (i := 7) (lc' := [(0, va_rf (some t)), (1, .int (l1)), (2, .int (l2)), (3, .int (l3)), (4, .int (l4)), (6, .int (l6)), (7, .int (s0))]) [1, 2, 3, 4, 5, 6, 0] 74 rfl (by decide +kernel) (by decide +kernel) rfl ?_
  refine at_iload (i := 7) 6 76 rfl (by decide +kernel) rfl ?_
  refine at_if_eq (off := 8) 84 79 rfl (by decide +kernel) (by decide +kernel) (fun c1 => ?_) (fun c1 => ?_)
  · rw [if_pos c1] at h
    refine at_iload_n (i := 1) 1 85 rfl (by decide +kernel) rfl ?_
    refine at_iload (i := 6) 5 87 rfl (by decide +kernel) rfl ?_
    refine at_isub 88 rfl (by decide +kernel) ?_
    exact h
  · rw [if_neg c1] at h
    refine at_iload (i := 6) 5 81 rfl (by decide +kernel) rfl ?_
    refine at_goto (off := 7) 88 (by decide +kernel) (by decide +kernel) ?_
    exact h
set_option maxRecDepth 20000 in
set_option maxHeartbeats 4000000 in
theorem bk_SL_light_56 (g : Gc) {lv : Nat} {t : Nat} {l1 : Int32} {l2 : Int32} {l3 : Int32} {l4 : Int32} {l6 : Int32} {m : Mm} {Q : Int32 → Mm → Prop} (h : if (l1) ≤ (l6) then (if (l4) = 0 then (Q l1 m) else (Q (0 : Int32) m)) else (if (l4) = 0 then (At g M_SL_light (lv + 1) 72 [(0, va_rf (some t)), (1, .int (l1)), (2, .int (l2)), (3, .int (l3)), (4, .int (l4)), (6, .int (l6))] [.int ((1 : Int32))] m (QI Q)) else (At g M_SL_light (lv + 1) 72 [(0, va_rf (some t)), (1, .int (l1)), (2, .int (l2)), (3, .int (l3)), (4, .int (l4)), (6, .int (l6))] [.int ((0 : Int32))] m (QI Q)))) : At g M_SL_light (lv + 1) 56 [(0, va_rf (some t)), (1, .int (l1)), (2, .int (l2)), (3, .int (l3)), (4, .int (l4)), (6, .int (l6))] [] m (QI Q) := by
  refine at_iload (i := 6) 5 58 rfl (by decide +kernel) rfl ?_
  refine at_iload_n (i := 1) 1 59 rfl (by decide +kernel) rfl ?_
  refine at_icmp_ge (off := 86) 145 62 rfl (by decide +kernel) (by decide +kernel) (fun c1 => ?_) (fun c1 => ?_)
  · rw [if_pos c1] at h
    refine at_iload (i := 4) 4 147 rfl (by decide +kernel) rfl ?_
    refine at_if_ne (off := 7) 154 150 rfl (by decide +kernel) (by decide +kernel) (fun c2 => ?_) (fun c2 => ?_)
    · rw [if_neg c2] at h
      refine at_iconst (n := 0) (0 : Int32) 155 rfl (by decide +kernel) (by decide +kernel) ?_
      exact at_iret rfl (by decide +kernel) h
    · rw [if_pos c2] at h
      refine at_iload_n (i := 1) 1 151 rfl (by decide +kernel) rfl ?_
      refine at_goto (off := 4) 155 (by decide +kernel) (by decide +kernel) ?_
      exact at_iret rfl (by decide +kernel) h
  · rw [if_neg c1] at h
    refine at_iload (i := 4) 4 64 rfl (by decide +kernel) rfl ?_
    refine at_if_ne (off := 7) 71 67 rfl (by decide +kernel) (by decide +kernel) (fun c3 => ?_) (fun c3 => ?_)
    · rw [if_neg c3] at h
      refine at_iconst (n := 0) (0 : Int32) 72 rfl (by decide +kernel) (by decide +kernel) ?_
      exact h
    · rw [if_pos c3] at h
      refine at_iconst (n := 1) (1 : Int32) 68 rfl (by decide +kernel) (by decide +kernel) ?_
      refine at_goto (off := 4) 72 (by decide +kernel) (by decide +kernel) ?_
      exact h
set_option maxRecDepth 20000 in
set_option maxHeartbeats 4000000 in
theorem bk_SL_light_33 (g : Gc) {lv : Nat} {t : Nat} {l1 : Int32} {l2 : Int32} {l3 : Int32} {l4 : Int32} {s0 : Int32} {m : Mm} {Q : Int32 → Mm → Prop} (h : if (s0) = 0 then (Q (-2 : Int32) m) else (CI g M_SL_isWithin lv [.int (l4), .int ((0 : Int32)), .int ((1 : Int32))] m (fun x2 m3 => (if (x2) = 0 then (Q (-2 : Int32) m3) else (At g M_SL_light (lv + 1) 56 [(0, va_rf (some t)), (1, .int (l1)), (2, .int (l2)), (3, .int (l3)), (4, .int (l4)), (6, .int ((0 : Int32)))] [] m3 (QI Q)))))) : At g M_SL_light (lv + 1) 33 [(0, va_rf (some t)), (1, .int (l1)), (2, .int (l2)), (3, .int (l3)), (4, .int (l4))] [.int (s0)] m (QI Q) := by
  refine at_istore (i := 5) (lc' := [(0, va_rf (some t)), (1, .int (l1)), (2, .int (l2)), (3, .int (l3)), (4, .int (l4)), (5, .int (s0))]) [1, 2, 3, 4, 5, 0] 35 rfl (by decide +kernel) (by decide +kernel) rfl ?_
  refine at_iload (i := 5) 5 37 rfl (by decide +kernel) rfl ?_
  refine at_if_eq (off := 13) 50 40 rfl (by decide +kernel) (by decide +kernel) (fun c1 => ?_) (fun c1 => ?_)
  · rw [if_pos c1] at h
    refine at_bipush (n := (-2)) (-2 : Int32) 52 rfl (by decide +kernel) (by decide +kernel) ?_
    exact at_iret rfl (by decide +kernel) h
  · rw [if_neg c1] at h
    refine at_iload (i := 4) 4 42 rfl (by decide +kernel) rfl ?_
    refine at_iconst (n := 0) (0 : Int32) 43 rfl (by decide +kernel) (by decide +kernel) ?_
    refine at_iconst (n := 1) (1 : Int32) 44 rfl (by decide +kernel) (by decide +kernel) ?_
    refine at_callS mb_SL_isWithin tw_471 (index := 64) tw_470 [.int (l4), .int ((0 : Int32)), .int ((1 : Int32))] [] rfl rfl (by decide) 47 rfl (by decide +kernel) (Call.toI (CI.monoE h (fun x2 m3 h y4 => ?_)))
    refine at_if_ne (off := 6) 53 50 rfl (by decide +kernel) (by decide +kernel) (fun c5 => ?_) (fun c5 => ?_)
    · rw [if_neg c5] at h
      refine at_iconst (n := 0) (0 : Int32) 54 rfl (by decide +kernel) (by decide +kernel) ?_
      refine at_istore (i := 6) (lc' := [(0, va_rf (some t)), (1, .int (l1)), (2, .int (l2)), (3, .int (l3)), (4, .int (l4)), (6, .int ((0 : Int32)))]) [1, 2, 3, 4, 5, 0] 56 rfl (by decide +kernel) (by decide +kernel) rfl ?_
      exact h
    · rw [if_pos c5] at h
      refine at_bipush (n := (-2)) (-2 : Int32) 52 rfl (by decide +kernel) (by decide +kernel) ?_
      exact at_iret rfl (by decide +kernel) h
set_option maxRecDepth 20000 in
set_option maxHeartbeats 4000000 in
theorem bk_SL_light_32 (g : Gc) {lv : Nat} {t : Nat} {l1 : Int32} {l2 : Int32} {l3 : Int32} {l4 : Int32} {m : Mm} {Q : Int32 → Mm → Prop} (h : At g M_SL_light (lv + 1) 33 [(0, va_rf (some t)), (1, .int (l1)), (2, .int (l2)), (3, .int (l3)), (4, .int (l4))] [.int ((0 : Int32))] m (QI Q)) : At g M_SL_light (lv + 1) 32 [(0, va_rf (some t)), (1, .int (l1)), (2, .int (l2)), (3, .int (l3)), (4, .int (l4))] [] m (QI Q) := by
  refine at_iconst (n := 0) (0 : Int32) 33 rfl (by decide +kernel) (by decide +kernel) ?_
  exact h
set_option maxRecDepth 20000 in
set_option maxHeartbeats 4000000 in
theorem en_SL_light (g : Gc) {lv : Nat} {t : Nat} {l1 : Int32} {l2 : Int32} {l3 : Int32} {l4 : Int32} {m : Mm} {Q : Int32 → Mm → Prop} (h : CI g M_SL_isWithin lv [.int (l1), .int ((1 : Int32)), .int ((60 : Int32))] m (fun x1 m2 => (if (x1) = 0 then (At g M_SL_light (lv + 1) 32 [(0, va_rf (some t)), (1, .int (l1)), (2, .int (l2)), (3, .int (l3)), (4, .int (l4))] [] m2 (QI Q)) else (CI g M_SL_isWithin lv [.int (l2), .int ((0 : Int32)), .int (l1)] m2 (fun x5 m6 => (if (x5) = 0 then (At g M_SL_light (lv + 1) 32 [(0, va_rf (some t)), (1, .int (l1)), (2, .int (l2)), (3, .int (l3)), (4, .int (l4))] [] m6 (QI Q)) else (CI g M_SL_isWithin lv [.int (l3), .int ((0 : Int32)), .int (l2)] m6 (fun x9 m10 => (if (x9) = 0 then (At g M_SL_light (lv + 1) 32 [(0, va_rf (some t)), (1, .int (l1)), (2, .int (l2)), (3, .int (l3)), (4, .int (l4))] [] m10 (QI Q)) else (At g M_SL_light (lv + 1) 33 [(0, va_rf (some t)), (1, .int (l1)), (2, .int (l2)), (3, .int (l3)), (4, .int (l4))] [.int ((1 : Int32))] m10 (QI Q))))))))))) : CI g M_SL_light (lv + 1) [va_rf (some t), .int (l1), .int (l2), .int (l3), .int (l4)] m Q := by
  refine Call.of (by decide +kernel) (Nat.le_of_ble_eq_true rfl) ?_
  show At g M_SL_light (lv + 1) 0 [(0, va_rf (some t)), (1, .int (l1)), (2, .int (l2)), (3, .int (l3)), (4, .int (l4))] [] m (QI Q)
  refine at_iload_n (i := 1) 1 1 rfl (by decide +kernel) rfl ?_
  refine at_iconst (n := 1) (1 : Int32) 2 rfl (by decide +kernel) (by decide +kernel) ?_
  refine at_bipush (n := 60) (60 : Int32) 4 rfl (by decide +kernel) (by decide +kernel) ?_
  refine at_callS mb_SL_isWithin tw_471 (index := 64) tw_470 [.int (l1), .int ((1 : Int32)), .int ((60 : Int32))] [] rfl rfl (by decide) 7 rfl (by decide +kernel) (Call.toI (CI.monoE h (fun x1 m2 h y3 => ?_)))
  refine at_if_eq (off := 25) 32 10 rfl (by decide +kernel) (by decide +kernel) (fun c4 => ?_) (fun c4 => ?_)
  · rw [if_pos c4] at h
    exact h
  · rw [if_neg c4] at h
    refine at_iload_n (i := 2) 2 11 rfl (by decide +kernel) rfl ?_
    refine at_iconst (n := 0) (0 : Int32) 12 rfl (by decide +kernel) (by decide +kernel) ?_
    refine at_iload_n (i := 1) 1 13 rfl (by decide +kernel) rfl ?_
    refine at_callS mb_SL_isWithin tw_471 (index := 64) tw_470 [.int (l2), .int ((0 : Int32)), .int (l1)] [] rfl rfl (by decide) 16 rfl (by decide +kernel) (Call.toI (CI.monoE h (fun x5 m6 h y7 => ?_)))
    refine at_if_eq (off := 16) 32 19 rfl (by decide +kernel) (by decide +kernel) (fun c8 => ?_) (fun c8 => ?_)
    · rw [if_pos c8] at h
      exact h
    · rw [if_neg c8] at h
      refine at_iload_n (i := 3) 3 20 rfl (by decide +kernel) rfl ?_
      refine at_iconst (n := 0) (0 : Int32) 21 rfl (by decide +kernel) (by decide +kernel) ?_
      refine at_iload_n (i := 2) 2 22 rfl (by decide +kernel) rfl ?_
      refine at_callS mb_SL_isWithin tw_471 (index := 64) tw_470 [.int (l3), .int ((0 : Int32)), .int (l2)] [] rfl rfl (by decide) 25 rfl (by decide +kernel) (Call.toI (CI.monoE h (fun x9 m10 h y11 => ?_)))
      refine at_if_eq (off := 7) 32 28 rfl (by decide +kernel) (by decide +kernel) (fun c12 => ?_) (fun c12 => ?_)
      · rw [if_pos c12] at h
        exact h
      · rw [if_neg c12] at h
        refine at_iconst (n := 1) (1 : Int32) 29 rfl (by decide +kernel) (by decide +kernel) ?_
        refine at_goto (off := 4) 33 (by decide +kernel) (by decide +kernel) ?_
        exact h
set_option maxRecDepth 20000 in
set_option maxHeartbeats 4000000 in
theorem en_SL_row (g : Gc) {lv : Nat} {t : Nat} {l1 : Int32} {l2 : Int32} {l3 : Int32} {m : Mm} {Q : Int32 → Mm → Prop} (h : CI g M_SL_isWithin lv [.int (l1), .int ((0 : Int32)), .int ((3 : Int32))] m (fun x1 m2 => (if (x1) = 0 then (Q (-2 : Int32) m2) else (CI g M_SL_isWithin lv [.int (l2), .int ((0 : Int32)), .int ((3 : Int32))] m2 (fun x5 m6 => (if (x5) = 0 then (Q (-2 : Int32) m6) else (if (l3) ≤ ((60 : Int32)) then (if 0 ≤ (l3) then (mK m6 t = 12 ∧ (∃ b12, mR m6 t 6 = some b12 ∧ (mK m6 b12 = 8 ∧ (CV g M_Rows_lay lv [va_rf (some b12), .int (l1), .int (l2), .int (l3)] m6 (fun m15 => (Q (0 : Int32) m15)))))) else (Q (-3 : Int32) m6)) else (Q (-2 : Int32) m6)))))))) : CI g M_SL_row (lv + 1) [va_rf (some t), .int (l1), .int (l2), .int (l3)] m Q := by
  refine Call.of (by decide +kernel) (Nat.le_of_ble_eq_true rfl) ?_
  show At g M_SL_row (lv + 1) 0 [(0, va_rf (some t)), (1, .int (l1)), (2, .int (l2)), (3, .int (l3))] [] m (QI Q)
  refine at_iload_n (i := 1) 1 1 rfl (by decide +kernel) rfl ?_
  refine at_iconst (n := 0) (0 : Int32) 2 rfl (by decide +kernel) (by decide +kernel) ?_
  refine at_iconst (n := 3) (3 : Int32) 3 rfl (by decide +kernel) (by decide +kernel) ?_
  refine at_callS mb_SL_isWithin tw_471 (index := 64) tw_470 [.int (l1), .int ((0 : Int32)), .int ((3 : Int32))] [] rfl rfl (by decide) 6 rfl (by decide +kernel) (Call.toI (CI.monoE h (fun x1 m2 h y3 => ?_)))
  refine at_if_eq (off := 18) 24 9 rfl (by decide +kernel) (by decide +kernel) (fun c4 => ?_) (fun c4 => ?_)
  · rw [if_pos c4] at h
    refine at_bipush (n := (-2)) (-2 : Int32) 26 rfl (by decide +kernel) (by decide +kernel) ?_
    exact at_iret rfl (by decide +kernel) h
  · rw [if_neg c4] at h
    refine at_iload_n (i := 2) 2 10 rfl (by decide +kernel) rfl ?_
    refine at_iconst (n := 0) (0 : Int32) 11 rfl (by decide +kernel) (by decide +kernel) ?_
    refine at_iconst (n := 3) (3 : Int32) 12 rfl (by decide +kernel) (by decide +kernel) ?_
    refine at_callS mb_SL_isWithin tw_471 (index := 64) tw_470 [.int (l2), .int ((0 : Int32)), .int ((3 : Int32))] [] rfl rfl (by decide) 15 rfl (by decide +kernel) (Call.toI (CI.monoE h (fun x5 m6 h y7 => ?_)))
    refine at_if_eq (off := 9) 24 18 rfl (by decide +kernel) (by decide +kernel) (fun c8 => ?_) (fun c8 => ?_)
    · rw [if_pos c8] at h
      refine at_bipush (n := (-2)) (-2 : Int32) 26 rfl (by decide +kernel) (by decide +kernel) ?_
      exact at_iret rfl (by decide +kernel) h
    · rw [if_neg c8] at h
      refine at_iload_n (i := 3) 3 19 rfl (by decide +kernel) rfl ?_
      refine at_bipush (n := 60) (60 : Int32) 21 rfl (by decide +kernel) (by decide +kernel) ?_
      refine at_icmp_le (off := 6) 27 24 rfl (by decide +kernel) (by decide +kernel) (fun c9 => ?_) (fun c9 => ?_)
      · rw [if_pos c9] at h
        refine at_iload_n (i := 3) 3 28 rfl (by decide +kernel) rfl ?_
        refine at_if_ge (off := 6) 34 31 rfl (by decide +kernel) (by decide +kernel) (fun c10 => ?_) (fun c10 => ?_)
        · rw [if_pos c10] at h
          refine at_aload_n (i := 0) 0 35 rfl (by decide +kernel) rfl ?_
          obtain ⟨k11, h⟩ := h
          refine at_get (index := 51) (v := va_rf (mR m6 t 6)) cok11 6 38 rfl (by decide +kernel) k11 (by decide +kernel) tw_446 rfl ?_
          refine at_iload_n (i := 1) 1 39 rfl (by decide +kernel) rfl ?_
          refine at_iload_n (i := 2) 2 40 rfl (by decide +kernel) rfl ?_
          refine at_iload_n (i := 3) 3 41 rfl (by decide +kernel) rfl ?_
          obtain ⟨b12, e13, h⟩ := h
          rw [e13]
          obtain ⟨k14, h⟩ := h
          refine at_callV mb_Rows_lay tw_1051 tw_1052 cok7 k14 (index := 328) tw_1050 [.int (l1), .int (l2), .int (l3)] [] rfl rfl (by decide) 44 rfl (by decide +kernel) (Call.toV (CV.monoE h (fun m15 h y16 => ?_)))
          have k17 : mK m15 t = 12 := y16.k k11 (by decide)
          have k18 : mK m15 b12 = 8 := y16.k k14 (by decide)
          refine at_iconst (n := 0) (0 : Int32) 45 rfl (by decide +kernel) (by decide +kernel) ?_
          exact at_iret rfl (by decide +kernel) h
        · rw [if_neg c10] at h
          refine at_bipush (n := (-3)) (-3 : Int32) 33 rfl (by decide +kernel) (by decide +kernel) ?_
          exact at_iret rfl (by decide +kernel) h
      · rw [if_neg c9] at h
        refine at_bipush (n := (-2)) (-2 : Int32) 26 rfl (by decide +kernel) (by decide +kernel) ?_
        exact at_iret rfl (by decide +kernel) h
set_option maxRecDepth 20000 in
set_option maxHeartbeats 4000000 in
theorem en_SL_tear (g : Gc) {lv : Nat} {t : Nat} {l1 : Int32} {m : Mm} {Q : Int32 → Mm → Prop} (h : mK m t = 12 ∧ (∃ b2, mR m t 6 = some b2 ∧ (mK m b2 = 8 ∧ (CI g M_Rows_hasRow lv [va_rf (some b2), .int (l1)] m (fun x5 m6 => (if (x5) = 0 then (Q (0 : Int32) m6) else (∃ b11, mR m6 t 6 = some b11 ∧ (mK m6 b11 = 8 ∧ (∃ b14, mR m6 b11 2 = some b14 ∧ (mK m6 b14 = 15 ∧ (vp_in l1 (mN m6 b14) ∧ (∀ m18, m18 = sI m6 b14 l1.toNatClampNeg (-1 : Int32) → (Q (1 : Int32) m18))))))))))))) : CI g M_SL_tear (lv + 1) [va_rf (some t), .int (l1)] m Q := by
  refine Call.of (by decide +kernel) (Nat.le_of_ble_eq_true rfl) ?_
  show At g M_SL_tear (lv + 1) 0 [(0, va_rf (some t)), (1, .int (l1))] [] m (QI Q)
  refine at_aload_n (i := 0) 0 1 rfl (by decide +kernel) rfl ?_
  obtain ⟨k1, h⟩ := h
  refine at_get (index := 51) (v := va_rf (mR m t 6)) cok11 6 4 rfl (by decide +kernel) k1 (by decide +kernel) tw_446 rfl ?_
  refine at_iload_n (i := 1) 1 5 rfl (by decide +kernel) rfl ?_
  obtain ⟨b2, e3, h⟩ := h
  rw [e3]
  obtain ⟨k4, h⟩ := h
  refine at_callV mb_Rows_hasRow tw_680 tw_681 cok7 k4 (index := 147) tw_679 [.int (l1)] [] rfl rfl (by decide) 8 rfl (by decide +kernel) (Call.toI (CI.monoE h (fun x5 m6 h y7 => ?_)))
  have k8 : mK m6 t = 12 := y7.k k1 (by decide)
  have k9 : mK m6 b2 = 8 := y7.k k4 (by decide)
  refine at_if_ne (off := 5) 13 11 rfl (by decide +kernel) (by decide +kernel) (fun c10 => ?_) (fun c10 => ?_)
  · rw [if_neg c10] at h
    refine at_aload_n (i := 0) 0 14 rfl (by decide +kernel) rfl ?_
    refine at_get (index := 51) (v := va_rf (mR m6 t 6)) cok11 6 17 rfl (by decide +kernel) k8 (by decide +kernel) tw_446 rfl ?_
    obtain ⟨b11, e12, h⟩ := h
    rw [e12]
    obtain ⟨k13, h⟩ := h
    refine at_get (index := 150) (v := va_rf (mR m6 b11 2)) cok7 2 20 rfl (by decide +kernel) k13 (by decide +kernel) tw_429 rfl ?_
    refine at_iload_n (i := 1) 1 21 rfl (by decide +kernel) rfl ?_
    refine at_iconst (n := (-1)) (-1 : Int32) 22 rfl (by decide +kernel) (by decide +kernel) ?_
    obtain ⟨b14, e15, h⟩ := h
    rw [e15]
    obtain ⟨k16, h⟩ := h
    obtain ⟨v17, h⟩ := h
    refine at_iast 23 rfl (by decide +kernel) k16 v17 (fun m18 e19 => ?_)
    replace h := h m18 e19
    have k20 : mK m18 t = 12 := by rw [e19]; exact k8
    have k21 : mK m18 b2 = 8 := by rw [e19]; exact k9
    have k22 : mK m18 b11 = 8 := by rw [e19]; exact k13
    have k23 : mK m18 b14 = 15 := by rw [e19]; exact k16
    refine at_iconst (n := 1) (1 : Int32) 24 rfl (by decide +kernel) (by decide +kernel) ?_
    exact at_zret rfl (by decide +kernel) (Or.inr rfl) h
  · rw [if_pos c10] at h
    refine at_iconst (n := 0) (0 : Int32) 12 rfl (by decide +kernel) (by decide +kernel) ?_
    exact at_zret rfl (by decide +kernel) (Or.inl rfl) h
set_option maxRecDepth 20000 in
set_option maxHeartbeats 4000000 in
theorem en_SL_write (g : Gc) {lv : Nat} {t : Nat} {l1 : Int32} {l2 : Int32} {l3 : Int64} {m : Mm} {Q : Int32 → Mm → Prop} (h : CI g M_SL_isWithin lv [.int (l1), .int ((0 : Int32)), .int ((3 : Int32))] m (fun x1 m2 => (if (x1) = 0 then (Q (-2 : Int32) m2) else (mK m2 t = 12 ∧ (∃ b6, mR m2 t 6 = some b6 ∧ (mK m2 b6 = 8 ∧ (CI g M_Rows_hasRow lv [va_rf (some b6), .int (l1)] m2 (fun x9 m10 => (if (x9) = 0 then (Q (-5 : Int32) m10) else (∃ b15, mR m10 t 6 = some b15 ∧ (mK m10 b15 = 8 ∧ (∃ b18, mR m10 b15 2 = some b18 ∧ (mK m10 b18 = 15 ∧ (vp_in l1 (mN m10 b18) ∧ (CI g M_SL_isWithin lv [.int (l2), .int ((0 : Int32)), .int ((mI m10 b18 l1.toNatClampNeg) - (1 : Int32))] m10 (fun x22 m23 => (if (x22) = 0 then (Q (-6 : Int32) m23) else (∃ b30, mR m23 t 6 = some b30 ∧ (mK m23 b30 = 8 ∧ (CV g M_Rows_set lv [va_rf (some b30), .int (l1), .int (l2), .long (l3)] m23 (fun m33 => (Q (0 : Int32) m33)))))))))))))))))))))) : CI g M_SL_write (lv + 1) [va_rf (some t), .int (l1), .int (l2), .long (l3)] m Q := by
  refine Call.of (by decide +kernel) (Nat.le_of_ble_eq_true rfl) ?_
  show At g M_SL_write (lv + 1) 0 [(0, va_rf (some t)), (1, .int (l1)), (2, .int (l2)), (3, .long (l3))] [] m (QI Q)
  refine at_iload_n (i := 1) 1 1 rfl (by decide +kernel) rfl ?_
  refine at_iconst (n := 0) (0 : Int32) 2 rfl (by decide +kernel) (by decide +kernel) ?_
  refine at_iconst (n := 3) (3 : Int32) 3 rfl (by decide +kernel) (by decide +kernel) ?_
  refine at_callS mb_SL_isWithin tw_471 (index := 64) tw_470 [.int (l1), .int ((0 : Int32)), .int ((3 : Int32))] [] rfl rfl (by decide) 6 rfl (by decide +kernel) (Call.toI (CI.monoE h (fun x1 m2 h y3 => ?_)))
  refine at_if_ne (off := 6) 12 9 rfl (by decide +kernel) (by decide +kernel) (fun c4 => ?_) (fun c4 => ?_)
  · rw [if_neg c4] at h
    refine at_aload_n (i := 0) 0 13 rfl (by decide +kernel) rfl ?_
    obtain ⟨k5, h⟩ := h
    refine at_get (index := 51) (v := va_rf (mR m2 t 6)) cok11 6 16 rfl (by decide +kernel) k5 (by decide +kernel) tw_446 rfl ?_
    refine at_iload_n (i := 1) 1 17 rfl (by decide +kernel) rfl ?_
    obtain ⟨b6, e7, h⟩ := h
    rw [e7]
    obtain ⟨k8, h⟩ := h
    refine at_callV mb_Rows_hasRow tw_680 tw_681 cok7 k8 (index := 147) tw_679 [.int (l1)] [] rfl rfl (by decide) 20 rfl (by decide +kernel) (Call.toI (CI.monoE h (fun x9 m10 h y11 => ?_)))
    have k12 : mK m10 t = 12 := y11.k k5 (by decide)
    have k13 : mK m10 b6 = 8 := y11.k k8 (by decide)
    refine at_if_ne (off := 6) 26 23 rfl (by decide +kernel) (by decide +kernel) (fun c14 => ?_) (fun c14 => ?_)
    · rw [if_neg c14] at h
      refine at_iload_n (i := 2) 2 27 rfl (by decide +kernel) rfl ?_
      refine at_iconst (n := 0) (0 : Int32) 28 rfl (by decide +kernel) (by decide +kernel) ?_
      refine at_aload_n (i := 0) 0 29 rfl (by decide +kernel) rfl ?_
      refine at_get (index := 51) (v := va_rf (mR m10 t 6)) cok11 6 32 rfl (by decide +kernel) k12 (by decide +kernel) tw_446 rfl ?_
      obtain ⟨b15, e16, h⟩ := h
      rw [e16]
      obtain ⟨k17, h⟩ := h
      refine at_get (index := 150) (v := va_rf (mR m10 b15 2)) cok7 2 35 rfl (by decide +kernel) k17 (by decide +kernel) tw_429 rfl ?_
      refine at_iload_n (i := 1) 1 36 rfl (by decide +kernel) rfl ?_
      obtain ⟨b18, e19, h⟩ := h
      rw [e19]
      obtain ⟨k20, h⟩ := h
      obtain ⟨v21, h⟩ := h
      refine at_iald 37 rfl (by decide +kernel) k20 v21 ?_
      refine at_iconst (n := 1) (1 : Int32) 38 rfl (by decide +kernel) (by decide +kernel) ?_
      refine at_isub 39 rfl (by decide +kernel) ?_
      refine at_callS mb_SL_isWithin tw_471 (index := 64) tw_470 [.int (l2), .int ((0 : Int32)), .int ((mI m10 b18 l1.toNatClampNeg) - (1 : Int32))] [] rfl rfl (by decide) 42 rfl (by decide +kernel) (Call.toI (CI.monoE h (fun x22 m23 h y24 => ?_)))
      have k25 : mK m23 t = 12 := y24.k k12 (by decide)
      have k26 : mK m23 b6 = 8 := y24.k k13 (by decide)
      have k27 : mK m23 b15 = 8 := y24.k k17 (by decide)
      have k28 : mK m23 b18 = 15 := y24.k k20 (by decide)
      refine at_if_ne (off := 6) 48 45 rfl (by decide +kernel) (by decide +kernel) (fun c29 => ?_) (fun c29 => ?_)
      · rw [if_neg c29] at h
        refine at_aload_n (i := 0) 0 49 rfl (by decide +kernel) rfl ?_
        refine at_get (index := 51) (v := va_rf (mR m23 t 6)) cok11 6 52 rfl (by decide +kernel) k25 (by decide +kernel) tw_446 rfl ?_
        refine at_iload_n (i := 1) 1 53 rfl (by decide +kernel) rfl ?_
        refine at_iload_n (i := 2) 2 54 rfl (by decide +kernel) rfl ?_
        refine at_lload_n (i := 3) 3 55 rfl (by decide +kernel) rfl ?_
        obtain ⟨b30, e31, h⟩ := h
        rw [e31]
        obtain ⟨k32, h⟩ := h
        refine at_callV mb_Rows_set tw_1063 tw_1064 cok7 k32 (index := 332) tw_1062 [.int (l1), .int (l2), .long (l3)] [] rfl rfl (by decide) 58 rfl (by decide +kernel) (Call.toV (CV.monoE h (fun m33 h y34 => ?_)))
        have k35 : mK m33 t = 12 := y34.k k25 (by decide)
        have k36 : mK m33 b6 = 8 := y34.k k26 (by decide)
        have k37 : mK m33 b15 = 8 := y34.k k27 (by decide)
        have k38 : mK m33 b18 = 15 := y34.k k28 (by decide)
        have k39 : mK m33 b30 = 8 := y34.k k32 (by decide)
        refine at_iconst (n := 0) (0 : Int32) 59 rfl (by decide +kernel) (by decide +kernel) ?_
        exact at_iret rfl (by decide +kernel) h
      · rw [if_pos c29] at h
        refine at_bipush (n := (-6)) (-6 : Int32) 47 rfl (by decide +kernel) (by decide +kernel) ?_
        exact at_iret rfl (by decide +kernel) h
    · rw [if_pos c14] at h
      refine at_bipush (n := (-5)) (-5 : Int32) 25 rfl (by decide +kernel) (by decide +kernel) ?_
      exact at_iret rfl (by decide +kernel) h
  · rw [if_pos c4] at h
    refine at_bipush (n := (-2)) (-2 : Int32) 11 rfl (by decide +kernel) (by decide +kernel) ?_
    exact at_iret rfl (by decide +kernel) h
set_option maxRecDepth 20000 in
set_option maxHeartbeats 4000000 in
theorem en_SL_paste (g : Gc) {lv : Nat} {t : Nat} {l1 : Int32} {l2 : Int32} {l3 : Int32} {l4 : Int32} {l5 : Int32} {m : Mm} {Q : Int32 → Mm → Prop} (h : CI g M_SL_isWithin lv [.int (l1), .int ((0 : Int32)), .int ((3 : Int32))] m (fun x1 m2 => (if (x1) = 0 then (Q (-2 : Int32) m2) else (CI g M_SL_isWithin lv [.int (l3), .int ((0 : Int32)), .int ((3 : Int32))] m2 (fun x5 m6 => (if (x5) = 0 then (Q (-2 : Int32) m6) else (mK m6 t = 12 ∧ (∃ b10, mR m6 t 6 = some b10 ∧ (mK m6 b10 = 8 ∧ (CI g M_Rows_hasRow lv [va_rf (some b10), .int (l1)] m6 (fun x13 m14 => (if (x13) = 0 then (Q (-5 : Int32) m14) else (∃ b19, mR m14 t 6 = some b19 ∧ (mK m14 b19 = 8 ∧ (CI g M_Rows_hasRow lv [va_rf (some b19), .int (l3)] m14 (fun x22 m23 => (if (x22) = 0 then (Q (-5 : Int32) m23) else (∃ b29, mR m23 t 6 = some b29 ∧ (mK m23 b29 = 8 ∧ (∃ b32, mR m23 b29 1 = some b32 ∧ (mK m23 b32 = 15 ∧ (vp_in l1 (mN m23 b32) ∧ (vp_in l3 (mN m23 b32) ∧ (if (mI m23 b32 l1.toNatClampNeg) = (mI m23 b32 l3.toNatClampNeg) then (CI g M_Rows_holds lv [va_rf (some b29), .int (l1), .int (l2), .int (l5)] m23 (fun x38 m39 => (if (x38) = 0 then (Q (-6 : Int32) m39) else (∃ b47, mR m39 t 6 = some b47 ∧ (mK m39 b47 = 8 ∧ (CI g M_Rows_holds lv [va_rf (some b47), .int (l3), .int (l4), .int (l5)] m39 (fun x50 m51 => (if (x50) = 0 then (Q (-6 : Int32) m51) else (∃ b60, mR m51 t 6 = some b60 ∧ (mK m51 b60 = 8 ∧ (CV g M_Rows_carry lv [va_rf (some b60), .int (l1), .int (l2), .int (l3), .int (l4), .int (l5)] m51 (fun m63 => (Q (0 : Int32) m63))))))))))))) else (Q (-7 : Int32) m23))))))))))))))))))))))))) : CI g M_SL_paste (lv + 1) [va_rf (some t), .int (l1), .int (l2), .int (l3), .int (l4), .int (l5)] m Q := by
  refine Call.of (by decide +kernel) (Nat.le_of_ble_eq_true rfl) ?_
  show At g M_SL_paste (lv + 1) 0 [(0, va_rf (some t)), (1, .int (l1)), (2, .int (l2)), (3, .int (l3)), (4, .int (l4)), (5, .int (l5))] [] m (QI Q)
  refine at_iload_n (i := 1) 1 1 rfl (by decide +kernel) rfl ?_
  refine at_iconst (n := 0) (0 : Int32) 2 rfl (by decide +kernel) (by decide +kernel) ?_
  refine at_iconst (n := 3) (3 : Int32) 3 rfl (by decide +kernel) (by decide +kernel) ?_
  refine at_callS mb_SL_isWithin tw_471 (index := 64) tw_470 [.int (l1), .int ((0 : Int32)), .int ((3 : Int32))] [] rfl rfl (by decide) 6 rfl (by decide +kernel) (Call.toI (CI.monoE h (fun x1 m2 h y3 => ?_)))
  refine at_if_eq (off := 12) 18 9 rfl (by decide +kernel) (by decide +kernel) (fun c4 => ?_) (fun c4 => ?_)
  · rw [if_pos c4] at h
    refine at_bipush (n := (-2)) (-2 : Int32) 20 rfl (by decide +kernel) (by decide +kernel) ?_
    exact at_iret rfl (by decide +kernel) h
  · rw [if_neg c4] at h
    refine at_iload_n (i := 3) 3 10 rfl (by decide +kernel) rfl ?_
    refine at_iconst (n := 0) (0 : Int32) 11 rfl (by decide +kernel) (by decide +kernel) ?_
    refine at_iconst (n := 3) (3 : Int32) 12 rfl (by decide +kernel) (by decide +kernel) ?_
    refine at_callS mb_SL_isWithin tw_471 (index := 64) tw_470 [.int (l3), .int ((0 : Int32)), .int ((3 : Int32))] [] rfl rfl (by decide) 15 rfl (by decide +kernel) (Call.toI (CI.monoE h (fun x5 m6 h y7 => ?_)))
    refine at_if_ne (off := 6) 21 18 rfl (by decide +kernel) (by decide +kernel) (fun c8 => ?_) (fun c8 => ?_)
    · rw [if_neg c8] at h
      refine at_aload_n (i := 0) 0 22 rfl (by decide +kernel) rfl ?_
      obtain ⟨k9, h⟩ := h
      refine at_get (index := 51) (v := va_rf (mR m6 t 6)) cok11 6 25 rfl (by decide +kernel) k9 (by decide +kernel) tw_446 rfl ?_
      refine at_iload_n (i := 1) 1 26 rfl (by decide +kernel) rfl ?_
      obtain ⟨b10, e11, h⟩ := h
      rw [e11]
      obtain ⟨k12, h⟩ := h
      refine at_callV mb_Rows_hasRow tw_680 tw_681 cok7 k12 (index := 147) tw_679 [.int (l1)] [] rfl rfl (by decide) 29 rfl (by decide +kernel) (Call.toI (CI.monoE h (fun x13 m14 h y15 => ?_)))
      have k16 : mK m14 t = 12 := y15.k k9 (by decide)
      have k17 : mK m14 b10 = 8 := y15.k k12 (by decide)
      refine at_if_eq (off := 14) 43 32 rfl (by decide +kernel) (by decide +kernel) (fun c18 => ?_) (fun c18 => ?_)
      · rw [if_pos c18] at h
        refine at_bipush (n := (-5)) (-5 : Int32) 45 rfl (by decide +kernel) (by decide +kernel) ?_
        exact at_iret rfl (by decide +kernel) h
      · rw [if_neg c18] at h
        refine at_aload_n (i := 0) 0 33 rfl (by decide +kernel) rfl ?_
        refine at_get (index := 51) (v := va_rf (mR m14 t 6)) cok11 6 36 rfl (by decide +kernel) k16 (by decide +kernel) tw_446 rfl ?_
        refine at_iload_n (i := 3) 3 37 rfl (by decide +kernel) rfl ?_
        obtain ⟨b19, e20, h⟩ := h
        rw [e20]
        obtain ⟨k21, h⟩ := h
        refine at_callV mb_Rows_hasRow tw_680 tw_681 cok7 k21 (index := 147) tw_679 [.int (l3)] [] rfl rfl (by decide) 40 rfl (by decide +kernel) (Call.toI (CI.monoE h (fun x22 m23 h y24 => ?_)))
        have k25 : mK m23 t = 12 := y24.k k16 (by decide)
        have k26 : mK m23 b10 = 8 := y24.k k17 (by decide)
        have k27 : mK m23 b19 = 8 := y24.k k21 (by decide)
        refine at_if_ne (off := 6) 46 43 rfl (by decide +kernel) (by decide +kernel) (fun c28 => ?_) (fun c28 => ?_)
        · rw [if_neg c28] at h
          refine at_aload_n (i := 0) 0 47 rfl (by decide +kernel) rfl ?_
          refine at_get (index := 51) (v := va_rf (mR m23 t 6)) cok11 6 50 rfl (by decide +kernel) k25 (by decide +kernel) tw_446 rfl ?_
          obtain ⟨b29, e30, h⟩ := h
          rw [e30]
          obtain ⟨k31, h⟩ := h
          refine at_get (index := 336) (v := va_rf (mR m23 b29 1)) cok7 1 53 rfl (by decide +kernel) k31 (by decide +kernel) tw_427 rfl ?_
          refine at_iload_n (i := 1) 1 54 rfl (by decide +kernel) rfl ?_
          obtain ⟨b32, e33, h⟩ := h
          rw [e33]
          obtain ⟨k34, h⟩ := h
          obtain ⟨v35, h⟩ := h
          refine at_iald 55 rfl (by decide +kernel) k34 v35 ?_
          refine at_aload_n (i := 0) 0 56 rfl (by decide +kernel) rfl ?_
          refine at_get (index := 51) (v := va_rf (mR m23 t 6)) cok11 6 59 rfl (by decide +kernel) k25 (by decide +kernel) tw_446 rfl ?_
          rw [e30]
          refine at_get (index := 336) (v := va_rf (mR m23 b29 1)) cok7 1 62 rfl (by decide +kernel) k31 (by decide +kernel) tw_427 rfl ?_
          rw [e33]
          refine at_iload_n (i := 3) 3 63 rfl (by decide +kernel) rfl ?_
          obtain ⟨v36, h⟩ := h
          refine at_iald 64 rfl (by decide +kernel) k34 v36 ?_
          refine at_icmp_eq (off := 6) 70 67 rfl (by decide +kernel) (by decide +kernel) (fun c37 => ?_) (fun c37 => ?_)
          · rw [if_pos c37] at h
            refine at_aload_n (i := 0) 0 71 rfl (by decide +kernel) rfl ?_
            refine at_get (index := 51) (v := va_rf (mR m23 t 6)) cok11 6 74 rfl (by decide +kernel) k25 (by decide +kernel) tw_446 rfl ?_
            rw [e30]
            refine at_iload_n (i := 1) 1 75 rfl (by decide +kernel) rfl ?_
            refine at_iload_n (i := 2) 2 76 rfl (by decide +kernel) rfl ?_
            refine at_iload (i := 5) 5 78 rfl (by decide +kernel) rfl ?_
            refine at_callV mb_Rows_holds tw_1071 tw_1072 cok7 k31 (index := 339) tw_1070 [.int (l1), .int (l2), .int (l5)] [] rfl rfl (by decide) 81 rfl (by decide +kernel) (Call.toI (CI.monoE h (fun x38 m39 h y40 => ?_)))
            have k41 : mK m39 t = 12 := y40.k k25 (by decide)
            have k42 : mK m39 b10 = 8 := y40.k k26 (by decide)
            have k43 : mK m39 b19 = 8 := y40.k k27 (by decide)
            have k44 : mK m39 b29 = 8 := y40.k k31 (by decide)
            have k45 : mK m39 b32 = 15 := y40.k k34 (by decide)
            refine at_if_eq (off := 18) 99 84 rfl (by decide +kernel) (by decide +kernel) (fun c46 => ?_) (fun c46 => ?_)
            · rw [if_pos c46] at h
              refine at_bipush (n := (-6)) (-6 : Int32) 101 rfl (by decide +kernel) (by decide +kernel) ?_
              exact at_iret rfl (by decide +kernel) h
            · rw [if_neg c46] at h
              refine at_aload_n (i := 0) 0 85 rfl (by decide +kernel) rfl ?_
              refine at_get (index := 51) (v := va_rf (mR m39 t 6)) cok11 6 88 rfl (by decide +kernel) k41 (by decide +kernel) tw_446 rfl ?_
              refine at_iload_n (i := 3) 3 89 rfl (by decide +kernel) rfl ?_
              refine at_iload (i := 4) 4 91 rfl (by decide +kernel) rfl ?_
              refine at_iload (i := 5) 5 93 rfl (by decide +kernel) rfl ?_
              obtain ⟨b47, e48, h⟩ := h
              rw [e48]
              obtain ⟨k49, h⟩ := h
              refine at_callV mb_Rows_holds tw_1071 tw_1072 cok7 k49 (index := 339) tw_1070 [.int (l3), .int (l4), .int (l5)] [] rfl rfl (by decide) 96 rfl (by decide +kernel) (Call.toI (CI.monoE h (fun x50 m51 h y52 => ?_)))
              have k53 : mK m51 t = 12 := y52.k k41 (by decide)
              have k54 : mK m51 b10 = 8 := y52.k k42 (by decide)
              have k55 : mK m51 b19 = 8 := y52.k k43 (by decide)
              have k56 : mK m51 b29 = 8 := y52.k k44 (by decide)
              have k57 : mK m51 b32 = 15 := y52.k k45 (by decide)
              have k58 : mK m51 b47 = 8 := y52.k k49 (by decide)
              refine at_if_ne (off := 6) 102 99 rfl (by decide +kernel) (by decide +kernel) (fun c59 => ?_) (fun c59 => ?_)
              · rw [if_neg c59] at h
                refine at_aload_n (i := 0) 0 103 rfl (by decide +kernel) rfl ?_
                refine at_get (index := 51) (v := va_rf (mR m51 t 6)) cok11 6 106 rfl (by decide +kernel) k53 (by decide +kernel) tw_446 rfl ?_
                refine at_iload_n (i := 1) 1 107 rfl (by decide +kernel) rfl ?_
                refine at_iload_n (i := 2) 2 108 rfl (by decide +kernel) rfl ?_
                refine at_iload_n (i := 3) 3 109 rfl (by decide +kernel) rfl ?_
                refine at_iload (i := 4) 4 111 rfl (by decide +kernel) rfl ?_
                refine at_iload (i := 5) 5 113 rfl (by decide +kernel) rfl ?_
                obtain ⟨b60, e61, h⟩ := h
                rw [e61]
                obtain ⟨k62, h⟩ := h
                refine at_callV mb_Rows_carry tw_1075 tw_1076 cok7 k62 (index := 342) tw_1074 [.int (l1), .int (l2), .int (l3), .int (l4), .int (l5)] [] rfl rfl (by decide) 116 rfl (by decide +kernel) (Call.toV (CV.monoE h (fun m63 h y64 => ?_)))
                have k65 : mK m63 t = 12 := y64.k k53 (by decide)
                have k66 : mK m63 b10 = 8 := y64.k k54 (by decide)
                have k67 : mK m63 b19 = 8 := y64.k k55 (by decide)
                have k68 : mK m63 b29 = 8 := y64.k k56 (by decide)
                have k69 : mK m63 b32 = 15 := y64.k k57 (by decide)
                have k70 : mK m63 b47 = 8 := y64.k k58 (by decide)
                have k71 : mK m63 b60 = 8 := y64.k k62 (by decide)
                refine at_iconst (n := 0) (0 : Int32) 117 rfl (by decide +kernel) (by decide +kernel) ?_
                exact at_iret rfl (by decide +kernel) h
              · rw [if_pos c59] at h
                refine at_bipush (n := (-6)) (-6 : Int32) 101 rfl (by decide +kernel) (by decide +kernel) ?_
                exact at_iret rfl (by decide +kernel) h
          · rw [if_neg c37] at h
            refine at_bipush (n := (-7)) (-7 : Int32) 69 rfl (by decide +kernel) (by decide +kernel) ?_
            exact at_iret rfl (by decide +kernel) h
        · rw [if_pos c28] at h
          refine at_bipush (n := (-5)) (-5 : Int32) 45 rfl (by decide +kernel) (by decide +kernel) ?_
          exact at_iret rfl (by decide +kernel) h
    · rw [if_pos c8] at h
      refine at_bipush (n := (-2)) (-2 : Int32) 20 rfl (by decide +kernel) (by decide +kernel) ?_
      exact at_iret rfl (by decide +kernel) h
set_option maxRecDepth 20000 in
set_option maxHeartbeats 4000000 in
theorem bk_SL_countSets_18 (g : Gc) {lv : Nat} {l0 : Option Nat} {l1 : Int32} {l2 : Int32} {l3 : Int32} {m : Mm} {Q : Option Nat → Mm → Prop} (h : if (l2) < (l3) then (At g M_SL_countSets (lv + 1) 10 [(0, va_rf (l0)), (1, .int (l1)), (2, .int (l2 + (1 : Int32)))] [] m (QR Q)) else (if (l3) = 0 then (∃ b3, l0 = some b3 ∧ (mK m b3 = 16 ∧ (vp_in l1 (mN m b3) ∧ (∀ m7, m7 = sL m b3 l1.toNatClampNeg (1 : Int64) → (At g M_SL_countSets (lv + 1) 18 [(0, va_rf (some b3)), (1, .int (l1 + (1 : Int32))), (2, .int (l2)), (3, .int (l3 + (1 : Int32)))] [] m7 (QR Q)))))) else (if (l3) = (l2) then (∃ b20, l0 = some b20 ∧ (mK m b20 = 16 ∧ (vp_in l1 (mN m b20) ∧ (∀ m24, m24 = sL m b20 l1.toNatClampNeg (1 : Int64) → (At g M_SL_countSets (lv + 1) 18 [(0, va_rf (some b20)), (1, .int (l1 + (1 : Int32))), (2, .int (l2)), (3, .int (l3 + (1 : Int32)))] [] m24 (QR Q)))))) else (∃ b11, l0 = some b11 ∧ (mK m b11 = 16 ∧ (vp_in ((l1 - l2) - (1 : Int32)) (mN m b11) ∧ (vp_in (l1 - l2) (mN m b11) ∧ (vp_in l1 (mN m b11) ∧ (∀ m17, m17 = sL m b11 l1.toNatClampNeg ((mL m b11 ((l1 - l2) - (1 : Int32)).toNatClampNeg) + (mL m b11 (l1 - l2).toNatClampNeg)) → (At g M_SL_countSets (lv + 1) 18 [(0, va_rf (some b11)), (1, .int (l1 + (1 : Int32))), (2, .int (l2)), (3, .int (l3 + (1 : Int32)))] [] m17 (QR Q))))))))))) : At g M_SL_countSets (lv + 1) 18 [(0, va_rf (l0)), (1, .int (l1)), (2, .int (l2)), (3, .int (l3))] [] m (QR Q) := by
  refine at_iload_n (i := 3) 3 19 rfl (by decide +kernel) rfl ?_
  refine at_iload_n (i := 2) 2 20 rfl (by decide +kernel) rfl ?_
  refine at_icmp_gt (off := 41) 61 23 rfl (by decide +kernel) (by decide +kernel) (fun c1 => ?_) (fun c1 => ?_)
  · rw [if_pos c1] at h
    refine at_iinc (i := 2) (n := 1) (lc' := [(0, va_rf (l0)), (1, .int (l1)), (2, .int (l2 + (1 : Int32)))]) (l2 + (1 : Int32)) 2 [1, 2, 0] 64 rfl (by decide +kernel) rfl (by rw [show Int32.ofInt 1 = (1 : Int32) from by decide +kernel]) (by decide +kernel) rfl ?_
    refine at_goto (off := (-54)) 10 (by decide +kernel) (by decide +kernel) ?_
    exact h
  · rw [if_neg c1] at h
    refine at_aload_n (i := 0) 0 24 rfl (by decide +kernel) rfl ?_
    refine at_iload_n (i := 1) 1 25 rfl (by decide +kernel) rfl ?_
    refine at_iload_n (i := 3) 3 26 rfl (by decide +kernel) rfl ?_
    refine at_if_eq (off := 8) 34 29 rfl (by decide +kernel) (by decide +kernel) (fun c2 => ?_) (fun c2 => ?_)
    · rw [if_pos c2] at h
      refine at_lconst (n := 1) (1 : Int64) 35 rfl (by decide +kernel) (by decide +kernel) ?_
      refine at_goto (off := 16) 51 (by decide +kernel) (by decide +kernel) ?_
      obtain ⟨b3, e4, h⟩ := h
      rw [e4]
      obtain ⟨k5, h⟩ := h
      obtain ⟨v6, h⟩ := h
      refine at_last 52 rfl (by decide +kernel) k5 v6 (fun m7 e8 => ?_)
      replace h := h m7 e8
      have k9 : mK m7 b3 = 16 := by rw [e8]; exact k5
      refine at_iinc (i := 1) (n := 1) (lc' := [(0, va_rf (some b3)), (1, .int (l1 + (1 : Int32))), (2, .int (l2)), (3, .int (l3))]) (l1 + (1 : Int32)) 1 [1, 0, 2, 3] 55 rfl (by decide +kernel) rfl (by rw [show Int32.ofInt 1 = (1 : Int32) from by decide +kernel]) (by decide +kernel) rfl ?_
      refine at_iinc (i := 3) (n := 1) (lc' := [(0, va_rf (some b3)), (1, .int (l1 + (1 : Int32))), (2, .int (l2)), (3, .int (l3 + (1 : Int32)))]) (l3 + (1 : Int32)) 3 [1, 2, 3, 0] 58 rfl (by decide +kernel) rfl (by rw [show Int32.ofInt 1 = (1 : Int32) from by decide +kernel]) (by decide +kernel) rfl ?_
      refine at_goto (off := (-40)) 18 (by decide +kernel) (by decide +kernel) ?_
      exact h
    · rw [if_neg c2] at h
      refine at_iload_n (i := 3) 3 30 rfl (by decide +kernel) rfl ?_
      refine at_iload_n (i := 2) 2 31 rfl (by decide +kernel) rfl ?_
      refine at_icmp_ne (off := 7) 38 34 rfl (by decide +kernel) (by decide +kernel) (fun c10 => ?_) (fun c10 => ?_)
      · rw [if_neg c10] at h
        refine at_aload_n (i := 0) 0 39 rfl (by decide +kernel) rfl ?_
        refine at_iload_n (i := 1) 1 40 rfl (by decide +kernel) rfl ?_
        refine at_iload_n (i := 2) 2 41 rfl (by decide +kernel) rfl ?_
        refine at_isub 42 rfl (by decide +kernel) ?_
        refine at_iconst (n := 1) (1 : Int32) 43 rfl (by decide +kernel) (by decide +kernel) ?_
        refine at_isub 44 rfl (by decide +kernel) ?_
        obtain ⟨b11, e12, h⟩ := h
        rw [e12]
        obtain ⟨k13, h⟩ := h
        obtain ⟨v14, h⟩ := h
        refine at_lald 45 rfl (by decide +kernel) k13 v14 ?_
        refine at_aload_n (i := 0) 0 46 rfl (by decide +kernel) rfl ?_
        refine at_iload_n (i := 1) 1 47 rfl (by decide +kernel) rfl ?_
        refine at_iload_n (i := 2) 2 48 rfl (by decide +kernel) rfl ?_
        refine at_isub 49 rfl (by decide +kernel) ?_
        obtain ⟨v15, h⟩ := h
        refine at_lald 50 rfl (by decide +kernel) k13 v15 ?_
        refine at_ladd 51 rfl (by decide +kernel) ?_
        obtain ⟨v16, h⟩ := h
        refine at_last 52 rfl (by decide +kernel) k13 v16 (fun m17 e18 => ?_)
        replace h := h m17 e18
        have k19 : mK m17 b11 = 16 := by rw [e18]; exact k13
        refine at_iinc (i := 1) (n := 1) (lc' := [(0, va_rf (some b11)), (1, .int (l1 + (1 : Int32))), (2, .int (l2)), (3, .int (l3))]) (l1 + (1 : Int32)) 1 [1, 0, 2, 3] 55 rfl (by decide +kernel) rfl (by rw [show Int32.ofInt 1 = (1 : Int32) from by decide +kernel]) (by decide +kernel) rfl ?_
        refine at_iinc (i := 3) (n := 1) (lc' := [(0, va_rf (some b11)), (1, .int (l1 + (1 : Int32))), (2, .int (l2)), (3, .int (l3 + (1 : Int32)))]) (l3 + (1 : Int32)) 3 [1, 2, 3, 0] 58 rfl (by decide +kernel) rfl (by rw [show Int32.ofInt 1 = (1 : Int32) from by decide +kernel]) (by decide +kernel) rfl ?_
        refine at_goto (off := (-40)) 18 (by decide +kernel) (by decide +kernel) ?_
        exact h
      · rw [if_pos c10] at h
        refine at_lconst (n := 1) (1 : Int64) 35 rfl (by decide +kernel) (by decide +kernel) ?_
        refine at_goto (off := 16) 51 (by decide +kernel) (by decide +kernel) ?_
        obtain ⟨b20, e21, h⟩ := h
        rw [e21]
        obtain ⟨k22, h⟩ := h
        obtain ⟨v23, h⟩ := h
        refine at_last 52 rfl (by decide +kernel) k22 v23 (fun m24 e25 => ?_)
        replace h := h m24 e25
        have k26 : mK m24 b20 = 16 := by rw [e25]; exact k22
        refine at_iinc (i := 1) (n := 1) (lc' := [(0, va_rf (some b20)), (1, .int (l1 + (1 : Int32))), (2, .int (l2)), (3, .int (l3))]) (l1 + (1 : Int32)) 1 [1, 0, 2, 3] 55 rfl (by decide +kernel) rfl (by rw [show Int32.ofInt 1 = (1 : Int32) from by decide +kernel]) (by decide +kernel) rfl ?_
        refine at_iinc (i := 3) (n := 1) (lc' := [(0, va_rf (some b20)), (1, .int (l1 + (1 : Int32))), (2, .int (l2)), (3, .int (l3 + (1 : Int32)))]) (l3 + (1 : Int32)) 3 [1, 2, 3, 0] 58 rfl (by decide +kernel) rfl (by rw [show Int32.ofInt 1 = (1 : Int32) from by decide +kernel]) (by decide +kernel) rfl ?_
        refine at_goto (off := (-40)) 18 (by decide +kernel) (by decide +kernel) ?_
        exact h
set_option maxRecDepth 20000 in
set_option maxHeartbeats 4000000 in
theorem bk_SL_countSets_10 (g : Gc) {lv : Nat} {l0 : Option Nat} {l1 : Int32} {l2 : Int32} {m : Mm} {Q : Option Nat → Mm → Prop} (h : if ((60 : Int32)) < (l2) then (Q l0 m) else (At g M_SL_countSets (lv + 1) 18 [(0, va_rf (l0)), (1, .int (l1)), (2, .int (l2)), (3, .int ((0 : Int32)))] [] m (QR Q))) : At g M_SL_countSets (lv + 1) 10 [(0, va_rf (l0)), (1, .int (l1)), (2, .int (l2))] [] m (QR Q) := by
  refine at_iload_n (i := 2) 2 11 rfl (by decide +kernel) rfl ?_
  refine at_bipush (n := 60) (60 : Int32) 13 rfl (by decide +kernel) (by decide +kernel) ?_
  refine at_icmp_gt (off := 54) 67 16 rfl (by decide +kernel) (by decide +kernel) (fun c1 => ?_) (fun c1 => ?_)
  · rw [if_pos c1] at h
    refine at_aload_n (i := 0) 0 68 rfl (by decide +kernel) rfl ?_
    exact at_aret rfl (Or.inr ⟨_, rfl⟩) (by decide +kernel) h
  · rw [if_neg c1] at h
    refine at_iconst (n := 0) (0 : Int32) 17 rfl (by decide +kernel) (by decide +kernel) ?_
    refine at_istore_n (i := 3) (lc' := [(0, va_rf (l0)), (1, .int (l1)), (2, .int (l2)), (3, .int ((0 : Int32)))]) [1, 2, 3, 0] 18 rfl (by decide +kernel) (by decide +kernel) rfl ?_
    exact h
set_option maxRecDepth 20000 in
set_option maxHeartbeats 4000000 in
theorem en_SL_countSets (g : Gc) {lv : Nat}  {m : Mm} {Q : Option Nat → Mm → Prop} (h : mK m (gz g + mC m) = 0 ∧ (∀ q2 m3, q2 = gz g + mC m → m3 = nw m q2 16 ((1891 : Int32).toNatClampNeg) ((1891 : Int32).toNatClampNeg) → (At g M_SL_countSets (lv + 1) 10 [(0, va_rf (some q2)), (1, .int ((0 : Int32))), (2, .int ((0 : Int32)))] [] m3 (QR Q)))) : CR g M_SL_countSets (lv + 1) [] m Q := by
  refine Call.of (by decide +kernel) (Nat.le_of_ble_eq_true rfl) ?_
  show At g M_SL_countSets (lv + 1) 0 [] [] m (QR Q)
  refine at_sipush (n := 1891) (1891 : Int32) 3 rfl (by decide +kernel) (by decide +kernel) ?_
  obtain ⟨z1, h⟩ := h
  refine at_newaJ 5 rfl z1 (by decide +kernel) tw_199 (by decide +kernel) (by decide +kernel) (fun q2 m3 e4 e5 => ?_)
  replace h := h q2 m3 e4 e5
  have x6 : Ext m m3 := by rw [e5, e4]; exact Ext.nw z1 _ _ _
  have k7 : mK m3 q2 = 16 := by rw [e5]; exact if_pos rfl
  refine at_astore_n (i := 0) (lc' := [(0, va_rf (some q2))]) [0] 6 rfl (by decide +kernel) (by decide +kernel) rfl ?_
  refine at_iconst (n := 0) (0 : Int32) 7 rfl (by decide +kernel) (by decide +kernel) ?_
  refine at_istore_n (i := 1) (lc' := [(0, va_rf (some q2)), (1, .int ((0 : Int32)))]) [1, 0] 8 rfl (by decide +kernel) (by decide +kernel) rfl ?_
  refine at_iconst (n := 0) (0 : Int32) 9 rfl (by decide +kernel) (by decide +kernel) ?_
  refine at_istore_n (i := 2) (lc' := [(0, va_rf (some q2)), (1, .int ((0 : Int32))), (2, .int ((0 : Int32)))]) [1, 2, 0] 10 rfl (by decide +kernel) (by decide +kernel) rfl ?_
  exact h
set_option maxRecDepth 20000 in
set_option maxHeartbeats 4000000 in
theorem en_SL_setsOf (g : Gc) {lv : Nat} {t : Nat} {l1 : Int32} {l2 : Int32} {m : Mm} {Q : Int64 → Mm → Prop} (h : CI g M_SL_isWithin lv [.int (l1), .int ((0 : Int32)), .int ((60 : Int32))] m (fun x1 m2 => (if (x1) = 0 then (Q (0 : Int64) m2) else (CI g M_SL_isWithin lv [.int (l2), .int ((0 : Int32)), .int (l1)] m2 (fun x5 m6 => (if (x5) = 0 then (Q (0 : Int64) m6) else (mK m6 t = 12 ∧ (∃ b10, mR m6 t 7 = some b10 ∧ (mK m6 b10 = 16 ∧ (vp_in (((l1 * (l1 + (1 : Int32))) / (2 : Int32)) + l2) (mN m6 b10) ∧ (Q (mL m6 b10 (((l1 * (l1 + (1 : Int32))) / (2 : Int32)) + l2).toNatClampNeg) m6))))))))))) : CJ g M_SL_setsOf (lv + 1) [va_rf (some t), .int (l1), .int (l2)] m Q := by
  refine Call.of (by decide +kernel) (Nat.le_of_ble_eq_true rfl) ?_
  show At g M_SL_setsOf (lv + 1) 0 [(0, va_rf (some t)), (1, .int (l1)), (2, .int (l2))] [] m (QJ Q)
  refine at_iload_n (i := 1) 1 1 rfl (by decide +kernel) rfl ?_
  refine at_iconst (n := 0) (0 : Int32) 2 rfl (by decide +kernel) (by decide +kernel) ?_
  refine at_bipush (n := 60) (60 : Int32) 4 rfl (by decide +kernel) (by decide +kernel) ?_
  refine at_callS mb_SL_isWithin tw_471 (index := 64) tw_470 [.int (l1), .int ((0 : Int32)), .int ((60 : Int32))] [] rfl rfl (by decide) 7 rfl (by decide +kernel) (Call.toI (CI.monoE h (fun x1 m2 h y3 => ?_)))
  refine at_if_eq (off := 12) 19 10 rfl (by decide +kernel) (by decide +kernel) (fun c4 => ?_) (fun c4 => ?_)
  · rw [if_pos c4] at h
    refine at_lconst (n := 0) (0 : Int64) 20 rfl (by decide +kernel) (by decide +kernel) ?_
    exact at_lret rfl (by decide +kernel) h
  · rw [if_neg c4] at h
    refine at_iload_n (i := 2) 2 11 rfl (by decide +kernel) rfl ?_
    refine at_iconst (n := 0) (0 : Int32) 12 rfl (by decide +kernel) (by decide +kernel) ?_
    refine at_iload_n (i := 1) 1 13 rfl (by decide +kernel) rfl ?_
    refine at_callS mb_SL_isWithin tw_471 (index := 64) tw_470 [.int (l2), .int ((0 : Int32)), .int (l1)] [] rfl rfl (by decide) 16 rfl (by decide +kernel) (Call.toI (CI.monoE h (fun x5 m6 h y7 => ?_)))
    refine at_if_ne (off := 5) 21 19 rfl (by decide +kernel) (by decide +kernel) (fun c8 => ?_) (fun c8 => ?_)
    · rw [if_neg c8] at h
      refine at_aload_n (i := 0) 0 22 rfl (by decide +kernel) rfl ?_
      obtain ⟨k9, h⟩ := h
      refine at_get (index := 59) (v := va_rf (mR m6 t 7)) cok11 7 25 rfl (by decide +kernel) k9 (by decide +kernel) tw_447 rfl ?_
      refine at_iload_n (i := 1) 1 26 rfl (by decide +kernel) rfl ?_
      refine at_iload_n (i := 1) 1 27 rfl (by decide +kernel) rfl ?_
      refine at_iconst (n := 1) (1 : Int32) 28 rfl (by decide +kernel) (by decide +kernel) ?_
      refine at_iadd 29 rfl (by decide +kernel) ?_
      refine at_imul 30 rfl (by decide +kernel) ?_
      refine at_iconst (n := 2) (2 : Int32) 31 rfl (by decide +kernel) (by decide +kernel) ?_
      refine at_idiv 32 rfl (by decide +kernel) (by decide +kernel) ?_
      refine at_iload_n (i := 2) 2 33 rfl (by decide +kernel) rfl ?_
      refine at_iadd 34 rfl (by decide +kernel) ?_
      obtain ⟨b10, e11, h⟩ := h
      rw [e11]
      obtain ⟨k12, h⟩ := h
      obtain ⟨v13, h⟩ := h
      refine at_lald 35 rfl (by decide +kernel) k12 v13 ?_
      exact at_lret rfl (by decide +kernel) h
    · rw [if_pos c8] at h
      refine at_lconst (n := 0) (0 : Int64) 20 rfl (by decide +kernel) (by decide +kernel) ?_
      exact at_lret rfl (by decide +kernel) h
set_option maxRecDepth 20000 in
set_option maxHeartbeats 4000000 in
theorem bk_SL_waysToDraw_7 (g : Gc) {lv : Nat} {t : Nat} {l1 : Int32} {l2 : Int32} {l3 : Int32} {l5 : Int32} {l6 : Int64} {l8 : Int32} {m : Mm} {Q : Int64 → Mm → Prop} (h : if (l5) < (l8) then (Q l6 m) else (mK m t = 12 ∧ (CJ g M_SL_setsOf lv [va_rf (some t), .int (l2), .int (l8)] m (fun x3 m4 => (CJ g M_SL_setsOf lv [va_rf (some t), .int (l1 - l2), .int (l3 - l8)] m4 (fun x7 m8 => (At g M_SL_waysToDraw (lv + 1) 7 [(0, va_rf (some t)), (1, .int (l1)), (2, .int (l2)), (3, .int (l3)), (5, .int (l5)), (6, .long (l6 + (x3 * x7))), (8, .int (l8 + (1 : Int32)))] [] m8 (QJ Q)))))))) : At g M_SL_waysToDraw (lv + 1) 7 [(0, va_rf (some t)), (1, .int (l1)), (2, .int (l2)), (3, .int (l3)), (5, .int (l5)), (6, .long (l6)), (8, .int (l8))] [] m (QJ Q) := by
  refine at_iload (i := 8) 6 9 rfl (by decide +kernel) rfl ?_
  refine at_iload (i := 5) 4 11 rfl (by decide +kernel) rfl ?_
  refine at_icmp_gt (off := 33) 44 14 rfl (by decide +kernel) (by decide +kernel) (fun c1 => ?_) (fun c1 => ?_)
  · rw [if_pos c1] at h
    refine at_lload (i := 6) 5 46 rfl (by decide +kernel) rfl ?_
    exact at_lret rfl (by decide +kernel) h
  · rw [if_neg c1] at h
    refine at_lload (i := 6) 5 16 rfl (by decide +kernel) rfl ?_
    refine at_aload_n (i := 0) 0 17 rfl (by decide +kernel) rfl ?_
    refine at_iload_n (i := 2) 2 18 rfl (by decide +kernel) rfl ?_
    refine at_iload (i := 8) 6 20 rfl (by decide +kernel) rfl ?_
    obtain ⟨k2, h⟩ := h
    refine at_callV mb_SL_setsOf tw_1043 tw_31 cok11 k2 (index := 325) tw_1041 [.int (l2), .int (l8)] [.long (l6)] rfl rfl (by simp [va_rf_cat, cat_int, cat_long]) 23 rfl (by decide +kernel) (Call.toJ (CJ.monoE h (fun x3 m4 h y5 => ?_)))
    have k6 : mK m4 t = 12 := y5.k k2 (by decide)
    refine at_aload_n (i := 0) 0 24 rfl (by decide +kernel) rfl ?_
    refine at_iload_n (i := 1) 1 25 rfl (by decide +kernel) rfl ?_
    refine at_iload_n (i := 2) 2 26 rfl (by decide +kernel) rfl ?_
    refine at_isub 27 rfl (by decide +kernel) ?_
    refine at_iload_n (i := 3) 3 28 rfl (by decide +kernel) rfl ?_
    refine at_iload (i := 8) 6 30 rfl (by decide +kernel) rfl ?_
    refine at_isub 31 rfl (by decide +kernel) ?_
    refine at_callV mb_SL_setsOf tw_1043 tw_31 cok11 k6 (index := 325) tw_1041 [.int (l1 - l2), .int (l3 - l8)] [.long (x3), .long (l6)] rfl rfl (by simp [va_rf_cat, cat_int, cat_long]) 34 rfl (by decide +kernel) (Call.toJ (CJ.monoE h (fun x7 m8 h y9 => ?_)))
    have k10 : mK m8 t = 12 := y9.k k6 (by decide)
    refine at_lmul 35 rfl (by decide +kernel) ?_
    refine at_ladd 36 rfl (by decide +kernel) ?_
    refine at_lstore (i := 6) (lc' := [(0, va_rf (some t)), (1, .int (l1)), (2, .int (l2)), (3, .int (l3)), (5, .int (l5)), (6, .long (l6 + (x3 * x7))), (8, .int (l8))]) [1, 2, 3, 4, 5, 0, 6] 38 rfl (by decide +kernel) (by decide +kernel) rfl ?_
    refine at_iinc (i := 8) (n := 1) (lc' := [(0, va_rf (some t)), (1, .int (l1)), (2, .int (l2)), (3, .int (l3)), (5, .int (l5)), (6, .long (l6 + (x3 * x7))), (8, .int (l8 + (1 : Int32)))]) (l8 + (1 : Int32)) 6 [1, 2, 3, 4, 5, 6, 0] 41 rfl (by decide +kernel) rfl (by rw [show Int32.ofInt 1 = (1 : Int32) from by decide +kernel]) (by decide +kernel) rfl ?_
    refine at_goto (off := (-34)) 7 (by decide +kernel) (by decide +kernel) ?_
    exact h
set_option maxRecDepth 20000 in
set_option maxHeartbeats 4000000 in
theorem en_SL_waysToDraw (g : Gc) {lv : Nat} {t : Nat} {l1 : Int32} {l2 : Int32} {l3 : Int32} {l4 : Int32} {l5 : Int32} {m : Mm} {Q : Int64 → Mm → Prop} (h : At g M_SL_waysToDraw (lv + 1) 7 [(0, va_rf (some t)), (1, .int (l1)), (2, .int (l2)), (3, .int (l3)), (5, .int (l5)), (6, .long ((0 : Int64))), (8, .int (l4))] [] m (QJ Q)) : CJ g M_SL_waysToDraw (lv + 1) [va_rf (some t), .int (l1), .int (l2), .int (l3), .int (l4), .int (l5)] m Q := by
  refine Call.of (by decide +kernel) (Nat.le_of_ble_eq_true rfl) ?_
  show At g M_SL_waysToDraw (lv + 1) 0 [(0, va_rf (some t)), (1, .int (l1)), (2, .int (l2)), (3, .int (l3)), (4, .int (l4)), (5, .int (l5))] [] m (QJ Q)
  refine at_lconst (n := 0) (0 : Int64) 1 rfl (by decide +kernel) (by decide +kernel) ?_
  refine at_lstore (i := 6) (lc' := [(0, va_rf (some t)), (1, .int (l1)), (2, .int (l2)), (3, .int (l3)), (4, .int (l4)), (5, .int (l5)), (6, .long ((0 : Int64)))]) [1, 2, 3, 4, 5, 6, 0] 3 rfl (by decide +kernel) (by decide +kernel) rfl ?_
  refine at_iload (i := 4) 4 5 rfl (by decide +kernel) rfl ?_
  refine at_istore (i := 8) (lc' := [(0, va_rf (some t)), (1, .int (l1)), (2, .int (l2)), (3, .int (l3)), (5, .int (l5)), (6, .long ((0 : Int64))), (8, .int (l4))]) [1, 2, 3, 4, 6, 7, 0] 7 rfl (by decide +kernel) (by decide +kernel) rfl ?_
  exact h
