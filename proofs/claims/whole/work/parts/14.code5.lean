set_option maxRecDepth 20000 in
set_option maxHeartbeats 4000000 in
theorem bk_RF_init_434 (g : Gc) {lv : Nat} {t : Nat} {l1 : Int32} {m : Mm} {Q : Mm → Prop} (h : if ((12 : Int32)) ≤ (l1) then (Q m) else (mK m t = 13 ∧ (∃ b3, mR m t 22 = some b3 ∧ (mK m b3 = 15 ∧ (vp_in l1 (mN m b3) ∧ (∀ m7, m7 = sI m b3 l1.toNatClampNeg (-1 : Int32) → (At g M_RF_init (lv + 1) 434 [(0, va_rf (some t)), (1, .int (l1 + (1 : Int32)))] [] m7 (QV Q)))))))) : At g M_RF_init (lv + 1) 434 [(0, va_rf (some t)), (1, .int (l1))] [] m (QV Q) := by
  refine at_iload_n (i := 1) 1 435 rfl (by decide +kernel) rfl ?_
  refine at_bipush (n := 12) (12 : Int32) 437 rfl (by decide +kernel) (by decide +kernel) ?_
  refine at_icmp_ge (off := 16) 453 440 rfl (by decide +kernel) (by decide +kernel) (fun c1 => ?_) (fun c1 => ?_)
  · rw [if_pos c1] at h
    exact at_vret rfl (by decide +kernel) h
  · rw [if_neg c1] at h
    refine at_aload_n (i := 0) 0 441 rfl (by decide +kernel) rfl ?_
    obtain ⟨k2, h⟩ := h
    refine at_get (index := 67) (v := va_rf (mR m t 22)) cok12 22 444 rfl (by decide +kernel) k2 (by decide +kernel) tw_1107 rfl ?_
    refine at_iload_n (i := 1) 1 445 rfl (by decide +kernel) rfl ?_
    refine at_iconst (n := (-1)) (-1 : Int32) 446 rfl (by decide +kernel) (by decide +kernel) ?_
    obtain ⟨b3, e4, h⟩ := h
    rw [e4]
    obtain ⟨k5, h⟩ := h
    obtain ⟨v6, h⟩ := h
    refine at_iast 447 rfl (by decide +kernel) k5 v6 (fun m7 e8 => ?_)
    replace h := h m7 e8
    have k9 : mK m7 t = 13 := by rw [e8]; exact k2
    have k10 : mK m7 b3 = 15 := by rw [e8]; exact k5
    refine at_iinc (i := 1) (n := 1) (lc' := [(0, va_rf (some t)), (1, .int (l1 + (1 : Int32)))]) (l1 + (1 : Int32)) 1 [1, 0] 450 rfl (by decide +kernel) rfl (by rw [show Int32.ofInt 1 = (1 : Int32) from by decide +kernel]) (by decide +kernel) rfl ?_
    refine at_goto (off := (-16)) 434 (by decide +kernel) (by decide +kernel) ?_
    exact h
set_option maxRecDepth 20000 in
set_option maxHeartbeats 4000000 in
theorem bk_RF_init_413 (g : Gc) {lv : Nat} {t : Nat} {l1 : Int32} {m : Mm} {Q : Mm → Prop} (h : if ((31 : Int32)) ≤ (l1) then (At g M_RF_init (lv + 1) 434 [(0, va_rf (some t)), (1, .int ((0 : Int32)))] [] m (QV Q)) else (mK m t = 13 ∧ (∃ b3, mR m t 18 = some b3 ∧ (mK m b3 = 15 ∧ (vp_in l1 (mN m b3) ∧ (∀ m7, m7 = sI m b3 l1.toNatClampNeg (-1 : Int32) → (At g M_RF_init (lv + 1) 413 [(0, va_rf (some t)), (1, .int (l1 + (1 : Int32)))] [] m7 (QV Q)))))))) : At g M_RF_init (lv + 1) 413 [(0, va_rf (some t)), (1, .int (l1))] [] m (QV Q) := by
  refine at_iload_n (i := 1) 1 414 rfl (by decide +kernel) rfl ?_
  refine at_bipush (n := 31) (31 : Int32) 416 rfl (by decide +kernel) (by decide +kernel) ?_
  refine at_icmp_ge (off := 16) 432 419 rfl (by decide +kernel) (by decide +kernel) (fun c1 => ?_) (fun c1 => ?_)
  · rw [if_pos c1] at h
    refine at_iconst (n := 0) (0 : Int32) 433 rfl (by decide +kernel) (by decide +kernel) ?_
    refine at_istore_n (i := 1) (lc' := [(0, va_rf (some t)), (1, .int ((0 : Int32)))]) [1, 0] 434 rfl (by decide +kernel) (by decide +kernel) rfl ?_
    exact h
  · rw [if_neg c1] at h
    refine at_aload_n (i := 0) 0 420 rfl (by decide +kernel) rfl ?_
    obtain ⟨k2, h⟩ := h
    refine at_get (index := 58) (v := va_rf (mR m t 18)) cok12 18 423 rfl (by decide +kernel) k2 (by decide +kernel) tw_1103 rfl ?_
    refine at_iload_n (i := 1) 1 424 rfl (by decide +kernel) rfl ?_
    refine at_iconst (n := (-1)) (-1 : Int32) 425 rfl (by decide +kernel) (by decide +kernel) ?_
    obtain ⟨b3, e4, h⟩ := h
    rw [e4]
    obtain ⟨k5, h⟩ := h
    obtain ⟨v6, h⟩ := h
    refine at_iast 426 rfl (by decide +kernel) k5 v6 (fun m7 e8 => ?_)
    replace h := h m7 e8
    have k9 : mK m7 t = 13 := by rw [e8]; exact k2
    have k10 : mK m7 b3 = 15 := by rw [e8]; exact k5
    refine at_iinc (i := 1) (n := 1) (lc' := [(0, va_rf (some t)), (1, .int (l1 + (1 : Int32)))]) (l1 + (1 : Int32)) 1 [1, 0] 429 rfl (by decide +kernel) rfl (by rw [show Int32.ofInt 1 = (1 : Int32) from by decide +kernel]) (by decide +kernel) rfl ?_
    refine at_goto (off := (-16)) 413 (by decide +kernel) (by decide +kernel) ?_
    exact h
set_option maxRecDepth 20000 in
set_option maxHeartbeats 4000000 in
theorem en_RF_init (g : Gc) {lv : Nat} {t : Nat} {m : Mm} {Q : Mm → Prop} (h : mK m (gz g + mC m) = 0 ∧ (∀ q2 m3, q2 = gz g + mC m → m3 = nw m q2 15 ((4 : Int32).toNatClampNeg) ((4 : Int32).toNatClampNeg) → (vp_in (0 : Int32) (mN m3 q2) ∧ (∀ m9, m9 = sI m3 q2 (0 : Int32).toNatClampNeg (-1 : Int32) → (vp_in (1 : Int32) (mN m9 q2) ∧ (∀ m13, m13 = sI m9 q2 (1 : Int32).toNatClampNeg (-1 : Int32) → (vp_in (2 : Int32) (mN m13 q2) ∧ (∀ m17, m17 = sI m13 q2 (2 : Int32).toNatClampNeg (-1 : Int32) → (vp_in (3 : Int32) (mN m17 q2) ∧ (∀ m21, m21 = sI m17 q2 (3 : Int32).toNatClampNeg (-1 : Int32) → (mK m21 t = 13 ∧ (∀ m25, m25 = sR m21 t 1 (some q2) → (mK m25 (gz g + mC m25) = 0 ∧ (∀ q30 m31, q30 = gz g + mC m25 → m31 = nw m25 q30 15 ((4 : Int32).toNatClampNeg) ((4 : Int32).toNatClampNeg) → (∀ m38, m38 = sR m31 t 2 (some q30) → (mK m38 (gz g + mC m38) = 0 ∧ (∀ q44 m45, q44 = gz g + mC m38 → m45 = nw m38 q44 16 ((240 : Int32).toNatClampNeg) ((240 : Int32).toNatClampNeg) → (∀ m53, m53 = sR m45 t 3 (some q44) → (mK m53 (gz g + mC m53) = 0 ∧ (∀ q60 m61, q60 = gz g + mC m53 → m61 = nw m53 q60 16 ((60 : Int32).toNatClampNeg) ((60 : Int32).toNatClampNeg) → (∀ m70, m70 = sR m61 t 4 (some q60) → (∀ m77, m77 = sI m70 t 5 (1000 : Int32) → (∀ m84, m84 = sI m77 t 6 (100 : Int32) → (∀ m91, m91 = sI m84 t 7 (100 : Int32) → (∀ m98, m98 = sI m91 t 8 (100 : Int32) → (∀ m105, m105 = sI m98 t 9 (120 : Int32) → (∀ m112, m112 = sI m105 t 10 (10 : Int32) → (mK m112 (gz g + mC m112) = 0 ∧ (∀ q120 m121, q120 = gz g + mC m112 → m121 = nw m112 q120 15 ((3 : Int32).toNatClampNeg) ((3 : Int32).toNatClampNeg) → (vp_in (0 : Int32) (mN m121 q120) ∧ (∀ m132, m132 = sI m121 q120 (0 : Int32).toNatClampNeg (50 : Int32) → (vp_in (1 : Int32) (mN m132 q120) ∧ (∀ m141, m141 = sI m132 q120 (1 : Int32).toNatClampNeg (50 : Int32) → (vp_in (2 : Int32) (mN m141 q120) ∧ (∀ m150, m150 = sI m141 q120 (2 : Int32).toNatClampNeg (50 : Int32) → (∀ m158, m158 = sR m150 t 12 (some q120) → (mK m158 (gz g + mC m158) = 0 ∧ (∀ q167 m168, q167 = gz g + mC m158 → m168 = nw m158 q167 15 ((3 : Int32).toNatClampNeg) ((3 : Int32).toNatClampNeg) → (vp_in (0 : Int32) (mN m168 q167) ∧ (∀ m180, m180 = sI m168 q167 (0 : Int32).toNatClampNeg (10 : Int32) → (vp_in (1 : Int32) (mN m180 q167) ∧ (∀ m190, m190 = sI m180 q167 (1 : Int32).toNatClampNeg (10 : Int32) → (vp_in (2 : Int32) (mN m190 q167) ∧ (∀ m200, m200 = sI m190 q167 (2 : Int32).toNatClampNeg (10 : Int32) → (∀ m209, m209 = sR m200 t 13 (some q167) → (mK m209 (gz g + mC m209) = 0 ∧ (∀ q219 m220, q219 = gz g + mC m209 → m220 = nw m209 q219 14 ((300 : Int32).toNatClampNeg) ((300 : Int32).toNatClampNeg) → (∀ m232, m232 = sR m220 t 14 (some q219) → (∀ m242, m242 = sI m232 t 16 (-1 : Int32) → (mK m242 (gz g + mC m242) = 0 ∧ (∀ q253 m254, q253 = gz g + mC m242 → m254 = nw m242 q253 14 ((9300 : Int32).toNatClampNeg) ((9300 : Int32).toNatClampNeg) → (∀ m267, m267 = sR m254 t 17 (some q253) → (mK m267 (gz g + mC m267) = 0 ∧ (∀ q279 m280, q279 = gz g + mC m267 → m280 = nw m267 q279 15 ((31 : Int32).toNatClampNeg) ((31 : Int32).toNatClampNeg) → (∀ m294, m294 = sR m280 t 18 (some q279) → (mK m294 (gz g + mC m294) = 0 ∧ (∀ q307 m308, q307 = gz g + mC m294 → m308 = nw m294 q307 15 ((12 : Int32).toNatClampNeg) ((12 : Int32).toNatClampNeg) → (∀ m323, m323 = sR m308 t 20 (some q307) → (mK m323 (gz g + mC m323) = 0 ∧ (∀ q337 m338, q337 = gz g + mC m323 → m338 = nw m323 q337 15 ((12 : Int32).toNatClampNeg) ((12 : Int32).toNatClampNeg) → (∀ m354, m354 = sR m338 t 21 (some q337) → (mK m354 (gz g + mC m354) = 0 ∧ (∀ q369 m370, q369 = gz g + mC m354 → m370 = nw m354 q369 15 ((12 : Int32).toNatClampNeg) ((12 : Int32).toNatClampNeg) → (∀ m387, m387 = sR m370 t 22 (some q369) → (mK m387 (gz g + mC m387) = 0 ∧ (∀ q403 m404, q403 = gz g + mC m387 → m404 = nw m387 q403 15 ((360 : Int32).toNatClampNeg) ((360 : Int32).toNatClampNeg) → (∀ m422, m422 = sR m404 t 23 (some q403) → (mK m422 (gz g + mC m422) = 0 ∧ (∀ q439 m440, q439 = gz g + mC m422 → m440 = nw m422 q439 15 ((360 : Int32).toNatClampNeg) ((360 : Int32).toNatClampNeg) → (∀ m459, m459 = sR m440 t 24 (some q439) → (mK m459 (gz g + mC m459) = 0 ∧ (∀ q477 m478, q477 = gz g + mC m459 → m478 = nw m459 q477 15 ((30 : Int32).toNatClampNeg) ((30 : Int32).toNatClampNeg) → (∀ m498, m498 = sR m478 t 25 (some q477) → (mK m498 (gz g + mC m498) = 0 ∧ (∀ q517 m518, q517 = gz g + mC m498 → m518 = nw m498 q517 15 ((30 : Int32).toNatClampNeg) ((30 : Int32).toNatClampNeg) → (∀ m539, m539 = sR m518 t 26 (some q517) → (mK m539 (gz g + mC m539) = 0 ∧ (∀ q559 m560, q559 = gz g + mC m539 → m560 = nw m539 q559 17 ((360 : Int32).toNatClampNeg) ((360 : Int32).toNatClampNeg) → (∀ m582, m582 = sR m560 t 27 (some q559) → (mK m582 (gz g + mC m582) = 0 ∧ (∀ q603 m604, q603 = gz g + mC m582 → m604 = nw m582 q603 17 ((360 : Int32).toNatClampNeg) ((360 : Int32).toNatClampNeg) → (∀ m627, m627 = sR m604 t 28 (some q603) → (mK m627 (gz g + mC m627) = 0 ∧ (∀ q649 m650, q649 = gz g + mC m627 → m650 = nw m627 q649 15 ((12 : Int32).toNatClampNeg) ((12 : Int32).toNatClampNeg) → (∀ m674, m674 = sR m650 t 29 (some q649) → (mK m674 (gz g + mC m674) = 0 ∧ (∀ q697 m698, q697 = gz g + mC m674 → m698 = nw m674 q697 15 ((12 : Int32).toNatClampNeg) ((12 : Int32).toNatClampNeg) → (∀ m723, m723 = sR m698 t 30 (some q697) → (mK m723 (gz g + mC m723) = 0 ∧ (∀ q747 m748, q747 = gz g + mC m723 → m748 = nw m723 q747 15 ((2 : Int32).toNatClampNeg) ((2 : Int32).toNatClampNeg) → (∀ m774, m774 = sR m748 t 31 (some q747) → (mK m774 (gz g + mC m774) = 0 ∧ (∀ q799 m800, q799 = gz g + mC m774 → m800 = nw m774 q799 15 ((2 : Int32).toNatClampNeg) ((2 : Int32).toNatClampNeg) → (vp_in (0 : Int32) (mN m800 q799) ∧ (∀ m828, m828 = sI m800 q799 (0 : Int32).toNatClampNeg (100 : Int32) → (vp_in (1 : Int32) (mN m828 q799) ∧ (∀ m854, m854 = sI m828 q799 (1 : Int32).toNatClampNeg (100 : Int32) → (∀ m879, m879 = sR m854 t 32 (some q799) → (mK m879 (gz g + mC m879) = 0 ∧ (∀ q905 m906, q905 = gz g + mC m879 → m906 = nw m879 q905 15 ((2 : Int32).toNatClampNeg) ((2 : Int32).toNatClampNeg) → (∀ m934, m934 = sR m906 t 33 (some q905) → (mK m934 (gz g + mC m934) = 0 ∧ (∀ q961 m962, q961 = gz g + mC m934 → m962 = nw m934 q961 15 ((2 : Int32).toNatClampNeg) ((2 : Int32).toNatClampNeg) → (∀ m991, m991 = sR m962 t 34 (some q961) → (mK m991 (gz g + mC m991) = 0 ∧ (∀ q1019 m1020, q1019 = gz g + mC m991 → m1020 = nw m991 q1019 15 ((24 : Int32).toNatClampNeg) ((24 : Int32).toNatClampNeg) → (∀ m1050, m1050 = sR m1020 t 35 (some q1019) → (mK m1050 (gz g + mC m1050) = 0 ∧ (∀ q1079 m1080, q1079 = gz g + mC m1050 → m1080 = nw m1050 q1079 15 ((72 : Int32).toNatClampNeg) ((72 : Int32).toNatClampNeg) → (∀ m1111, m1111 = sR m1080 t 36 (some q1079) → (mK m1111 (gz g + mC m1111) = 0 ∧ (∀ q1141 m1142, q1141 = gz g + mC m1111 → m1142 = nw m1111 q1141 15 ((24 : Int32).toNatClampNeg) ((24 : Int32).toNatClampNeg) → (∀ m1174, m1174 = sR m1142 t 37 (some q1141) → (mK m1174 (gz g + mC m1174) = 0 ∧ (∀ q1205 m1206, q1205 = gz g + mC m1174 → m1206 = nw m1174 q1205 16 ((24 : Int32).toNatClampNeg) ((24 : Int32).toNatClampNeg) → (∀ m1239, m1239 = sR m1206 t 38 (some q1205) → (mK m1239 (gz g + mC m1239) = 0 ∧ (∀ q1271 m1272, q1271 = gz g + mC m1239 → m1272 = nw m1239 q1271 16 ((30 : Int32).toNatClampNeg) ((30 : Int32).toNatClampNeg) → (∀ m1306, m1306 = sR m1272 t 39 (some q1271) → (mK m1306 (gz g + mC m1306) = 0 ∧ (∀ q1339 m1340, q1339 = gz g + mC m1306 → m1340 = nw m1306 q1339 15 ((800 : Int32).toNatClampNeg) ((800 : Int32).toNatClampNeg) → (∀ m1375, m1375 = sR m1340 t 40 (some q1339) → (mK m1375 (gz g + mC m1375) = 0 ∧ (∀ q1409 m1410, q1409 = gz g + mC m1375 → m1410 = nw m1375 q1409 15 ((800 : Int32).toNatClampNeg) ((800 : Int32).toNatClampNeg) → (∀ m1446, m1446 = sR m1410 t 41 (some q1409) → (mK m1446 (gz g + mC m1446) = 0 ∧ (∀ q1481 m1482, q1481 = gz g + mC m1446 → m1482 = nw m1446 q1481 15 ((800 : Int32).toNatClampNeg) ((800 : Int32).toNatClampNeg) → (∀ m1519, m1519 = sR m1482 t 42 (some q1481) → (mK m1519 (gz g + mC m1519) = 0 ∧ (∀ q1555 m1556, q1555 = gz g + mC m1519 → m1556 = nw m1519 q1555 16 ((16 : Int32).toNatClampNeg) ((16 : Int32).toNatClampNeg) → (∀ m1594, m1594 = sR m1556 t 43 (some q1555) → (mK m1594 (gz g + mC m1594) = 0 ∧ (∀ q1631 m1632, q1631 = gz g + mC m1594 → m1632 = nw m1594 q1631 15 ((800 : Int32).toNatClampNeg) ((800 : Int32).toNatClampNeg) → (∀ m1671, m1671 = sR m1632 t 44 (some q1631) → (mK m1671 (gz g + mC m1671) = 0 ∧ (∀ q1709 m1710, q1709 = gz g + mC m1671 → m1710 = nw m1671 q1709 15 ((800 : Int32).toNatClampNeg) ((800 : Int32).toNatClampNeg) → (∀ m1750, m1750 = sR m1710 t 45 (some q1709) → (mK m1750 (gz g + mC m1750) = 0 ∧ (∀ q1789 m1790, q1789 = gz g + mC m1750 → m1790 = nw m1750 q1789 16 ((800 : Int32).toNatClampNeg) ((800 : Int32).toNatClampNeg) → (∀ m1831, m1831 = sR m1790 t 46 (some q1789) → (mK m1831 (gz g + mC m1831) = 0 ∧ (∀ q1871 m1872, q1871 = gz g + mC m1831 → m1872 = nw m1831 q1871 16 ((6 : Int32).toNatClampNeg) ((6 : Int32).toNatClampNeg) → (∀ m1914, m1914 = sR m1872 t 56 (some q1871) → (mK m1914 (gz g + mC m1914) = 0 ∧ (∀ q1955 m1956, q1955 = gz g + mC m1914 → m1956 = nw m1914 q1955 16 ((61 : Int32).toNatClampNeg) ((61 : Int32).toNatClampNeg) → (∀ m1999, m1999 = sR m1956 t 65 (some q1955) → (At g M_RF_init (lv + 1) 413 [(0, va_rf (some t)), (1, .int ((0 : Int32)))] [] m1999 (QV Q)))))))))))))))))))))))))))))))))))))))))))))))))))))))))))))))))))))))))))))))))))))))))))))))))))))))))))))))))))))))))))))))))))))))))))))))))))) : CV g M_RF_init (lv + 1) [va_rf (some t)] m Q := by
  refine Call.of (by decide +kernel) (Nat.le_of_ble_eq_true rfl) ?_
  show At g M_RF_init (lv + 1) 0 [(0, va_rf (some t))] [] m (QV Q)
  refine at_aload_n (i := 0) 0 1 rfl (by decide +kernel) rfl ?_
  refine at_objInit 4 rfl (by decide +kernel) tw_1084 tw_91 tw_92 (by decide) ?_
  refine at_aload_n (i := 0) 0 5 rfl (by decide +kernel) rfl ?_
  refine at_iconst (n := 4) (4 : Int32) 6 rfl (by decide +kernel) (by decide +kernel) ?_
  obtain ⟨z1, h⟩ := h
  refine at_newaI 8 rfl z1 (by decide +kernel) tw_265 (by decide +kernel) (by decide +kernel) (fun q2 m3 e4 e5 => ?_)
  replace h := h q2 m3 e4 e5
  have x6 : Ext m m3 := by rw [e5, e4]; exact Ext.nw z1 _ _ _
  have k7 : mK m3 q2 = 15 := by rw [e5]; exact if_pos rfl
  refine at_dup 9 rfl (by decide +kernel) (va_rf_cat _) ?_
  refine at_iconst (n := 0) (0 : Int32) 10 rfl (by decide +kernel) (by decide +kernel) ?_
  refine at_iconst (n := (-1)) (-1 : Int32) 11 rfl (by decide +kernel) (by decide +kernel) ?_
  obtain ⟨v8, h⟩ := h
  refine at_iast 12 rfl (by decide +kernel) k7 v8 (fun m9 e10 => ?_)
  replace h := h m9 e10
  have k11 : mK m9 q2 = 15 := by rw [e10]; exact k7
  refine at_dup 13 rfl (by decide +kernel) (va_rf_cat _) ?_
  refine at_iconst (n := 1) (1 : Int32) 14 rfl (by decide +kernel) (by decide +kernel) ?_
  refine at_iconst (n := (-1)) (-1 : Int32) 15 rfl (by decide +kernel) (by decide +kernel) ?_
  obtain ⟨v12, h⟩ := h
  refine at_iast 16 rfl (by decide +kernel) k11 v12 (fun m13 e14 => ?_)
  replace h := h m13 e14
  have k15 : mK m13 q2 = 15 := by rw [e14]; exact k11
  refine at_dup 17 rfl (by decide +kernel) (va_rf_cat _) ?_
  refine at_iconst (n := 2) (2 : Int32) 18 rfl (by decide +kernel) (by decide +kernel) ?_
  refine at_iconst (n := (-1)) (-1 : Int32) 19 rfl (by decide +kernel) (by decide +kernel) ?_
  obtain ⟨v16, h⟩ := h
  refine at_iast 20 rfl (by decide +kernel) k15 v16 (fun m17 e18 => ?_)
  replace h := h m17 e18
  have k19 : mK m17 q2 = 15 := by rw [e18]; exact k15
  refine at_dup 21 rfl (by decide +kernel) (va_rf_cat _) ?_
  refine at_iconst (n := 3) (3 : Int32) 22 rfl (by decide +kernel) (by decide +kernel) ?_
  refine at_iconst (n := (-1)) (-1 : Int32) 23 rfl (by decide +kernel) (by decide +kernel) ?_
  obtain ⟨v20, h⟩ := h
  refine at_iast 24 rfl (by decide +kernel) k19 v20 (fun m21 e22 => ?_)
  replace h := h m21 e22
  have k23 : mK m21 q2 = 15 := by rw [e22]; exact k19
  obtain ⟨k24, h⟩ := h
  refine at_putRF (index := 9) cok12 1 27 rfl (by decide +kernel) k24 (by decide +kernel) tw_1086 rfl rfl rfl rfl (Or.inr ⟨_, rfl⟩) (fun m25 e26 => ?_)
  replace h := h m25 e26
  have k27 : mK m25 q2 = 15 := by rw [e26]; exact k23
  have k28 : mK m25 t = 13 := by rw [e26]; exact k24
  refine at_aload_n (i := 0) 0 28 rfl (by decide +kernel) rfl ?_
  refine at_iconst (n := 4) (4 : Int32) 29 rfl (by decide +kernel) (by decide +kernel) ?_
  obtain ⟨z29, h⟩ := h
  refine at_newaI 31 rfl z29 (by decide +kernel) tw_265 (by decide +kernel) (by decide +kernel) (fun q30 m31 e32 e33 => ?_)
  replace h := h q30 m31 e32 e33
  have x34 : Ext m25 m31 := by rw [e33, e32]; exact Ext.nw z29 _ _ _
  have k35 : mK m31 q2 = 15 := x34.k k27 (by decide)
  have k36 : mK m31 t = 13 := x34.k k28 (by decide)
  have k37 : mK m31 q30 = 15 := by rw [e33]; exact if_pos rfl
  refine at_putRF (index := 13) cok12 2 34 rfl (by decide +kernel) k36 (by decide +kernel) tw_1087 rfl rfl rfl rfl (Or.inr ⟨_, rfl⟩) (fun m38 e39 => ?_)
  replace h := h m38 e39
  have k40 : mK m38 q2 = 15 := by rw [e39]; exact k35
  have k41 : mK m38 t = 13 := by rw [e39]; exact k36
  have k42 : mK m38 q30 = 15 := by rw [e39]; exact k37
  refine at_aload_n (i := 0) 0 35 rfl (by decide +kernel) rfl ?_
  refine at_sipush (n := 240) (240 : Int32) 38 rfl (by decide +kernel) (by decide +kernel) ?_
  obtain ⟨z43, h⟩ := h
  refine at_newaJ 40 rfl z43 (by decide +kernel) tw_199 (by decide +kernel) (by decide +kernel) (fun q44 m45 e46 e47 => ?_)
  replace h := h q44 m45 e46 e47
  have x48 : Ext m38 m45 := by rw [e47, e46]; exact Ext.nw z43 _ _ _
  have k49 : mK m45 q2 = 15 := x48.k k40 (by decide)
  have k50 : mK m45 t = 13 := x48.k k41 (by decide)
  have k51 : mK m45 q30 = 15 := x48.k k42 (by decide)
  have k52 : mK m45 q44 = 16 := by rw [e47]; exact if_pos rfl
  refine at_putRF (index := 16) cok12 3 43 rfl (by decide +kernel) k50 (by decide +kernel) tw_1088 rfl rfl rfl rfl (Or.inr ⟨_, rfl⟩) (fun m53 e54 => ?_)
  replace h := h m53 e54
  have k55 : mK m53 q2 = 15 := by rw [e54]; exact k49
  have k56 : mK m53 t = 13 := by rw [e54]; exact k50
  have k57 : mK m53 q30 = 15 := by rw [e54]; exact k51
  have k58 : mK m53 q44 = 16 := by rw [e54]; exact k52
  refine at_aload_n (i := 0) 0 44 rfl (by decide +kernel) rfl ?_
  refine at_bipush (n := 60) (60 : Int32) 46 rfl (by decide +kernel) (by decide +kernel) ?_
  obtain ⟨z59, h⟩ := h
  refine at_newaJ 48 rfl z59 (by decide +kernel) tw_199 (by decide +kernel) (by decide +kernel) (fun q60 m61 e62 e63 => ?_)
  replace h := h q60 m61 e62 e63
  have x64 : Ext m53 m61 := by rw [e63, e62]; exact Ext.nw z59 _ _ _
  have k65 : mK m61 q2 = 15 := x64.k k55 (by decide)
  have k66 : mK m61 t = 13 := x64.k k56 (by decide)
  have k67 : mK m61 q30 = 15 := x64.k k57 (by decide)
  have k68 : mK m61 q44 = 16 := x64.k k58 (by decide)
  have k69 : mK m61 q60 = 16 := by rw [e63]; exact if_pos rfl
  refine at_putRF (index := 20) cok12 4 51 rfl (by decide +kernel) k66 (by decide +kernel) tw_1089 rfl rfl rfl rfl (Or.inr ⟨_, rfl⟩) (fun m70 e71 => ?_)
  replace h := h m70 e71
  have k72 : mK m70 q2 = 15 := by rw [e71]; exact k65
  have k73 : mK m70 t = 13 := by rw [e71]; exact k66
  have k74 : mK m70 q30 = 15 := by rw [e71]; exact k67
  have k75 : mK m70 q44 = 16 := by rw [e71]; exact k68
  have k76 : mK m70 q60 = 16 := by rw [e71]; exact k69
  refine at_aload_n (i := 0) 0 52 rfl (by decide +kernel) rfl ?_
  refine at_sipush (n := 1000) (1000 : Int32) 55 rfl (by decide +kernel) (by decide +kernel) ?_
  refine at_putI (index := 23) cok12 5 58 rfl (by decide +kernel) k73 (by decide +kernel) tw_1090 rfl rfl rfl (fun m77 e78 => ?_)
  replace h := h m77 e78
  have k79 : mK m77 q2 = 15 := by rw [e78]; exact k72
  have k80 : mK m77 t = 13 := by rw [e78]; exact k73
  have k81 : mK m77 q30 = 15 := by rw [e78]; exact k74
  have k82 : mK m77 q44 = 16 := by rw [e78]; exact k75
  have k83 : mK m77 q60 = 16 := by rw [e78]; exact k76
  refine at_aload_n (i := 0) 0 59 rfl (by decide +kernel) rfl ?_
  refine at_bipush (n := 100) (100 : Int32) 61 rfl (by decide +kernel) (by decide +kernel) ?_
  refine at_putI (index := 27) cok12 6 64 rfl (by decide +kernel) k80 (by decide +kernel) tw_1091 rfl rfl rfl (fun m84 e85 => ?_)
  replace h := h m84 e85
  have k86 : mK m84 q2 = 15 := by rw [e85]; exact k79
  have k87 : mK m84 t = 13 := by rw [e85]; exact k80
  have k88 : mK m84 q30 = 15 := by rw [e85]; exact k81
  have k89 : mK m84 q44 = 16 := by rw [e85]; exact k82
  have k90 : mK m84 q60 = 16 := by rw [e85]; exact k83
  refine at_aload_n (i := 0) 0 65 rfl (by decide +kernel) rfl ?_
  refine at_bipush (n := 100) (100 : Int32) 67 rfl (by decide +kernel) (by decide +kernel) ?_
  refine at_putI (index := 30) cok12 7 70 rfl (by decide +kernel) k87 (by decide +kernel) tw_1092 rfl rfl rfl (fun m91 e92 => ?_)
  replace h := h m91 e92
  have k93 : mK m91 q2 = 15 := by rw [e92]; exact k86
  have k94 : mK m91 t = 13 := by rw [e92]; exact k87
  have k95 : mK m91 q30 = 15 := by rw [e92]; exact k88
  have k96 : mK m91 q44 = 16 := by rw [e92]; exact k89
  have k97 : mK m91 q60 = 16 := by rw [e92]; exact k90
  refine at_aload_n (i := 0) 0 71 rfl (by decide +kernel) rfl ?_
  refine at_bipush (n := 100) (100 : Int32) 73 rfl (by decide +kernel) (by decide +kernel) ?_
  refine at_putI (index := 33) cok12 8 76 rfl (by decide +kernel) k94 (by decide +kernel) tw_1093 rfl rfl rfl (fun m98 e99 => ?_)
  replace h := h m98 e99
  have k100 : mK m98 q2 = 15 := by rw [e99]; exact k93
  have k101 : mK m98 t = 13 := by rw [e99]; exact k94
  have k102 : mK m98 q30 = 15 := by rw [e99]; exact k95
  have k103 : mK m98 q44 = 16 := by rw [e99]; exact k96
  have k104 : mK m98 q60 = 16 := by rw [e99]; exact k97
  refine at_aload_n (i := 0) 0 77 rfl (by decide +kernel) rfl ?_
  refine at_bipush (n := 120) (120 : Int32) 79 rfl (by decide +kernel) (by decide +kernel) ?_
  refine at_putI (index := 36) cok12 9 82 rfl (by decide +kernel) k101 (by decide +kernel) tw_1094 rfl rfl rfl (fun m105 e106 => ?_)
  replace h := h m105 e106
  have k107 : mK m105 q2 = 15 := by rw [e106]; exact k100
  have k108 : mK m105 t = 13 := by rw [e106]; exact k101
  have k109 : mK m105 q30 = 15 := by rw [e106]; exact k102
  have k110 : mK m105 q44 = 16 := by rw [e106]; exact k103
  have k111 : mK m105 q60 = 16 := by rw [e106]; exact k104
  refine at_aload_n (i := 0) 0 83 rfl (by decide +kernel) rfl ?_
  refine at_bipush (n := 10) (10 : Int32) 85 rfl (by decide +kernel) (by decide +kernel) ?_
  refine at_putI (index := 39) cok12 10 88 rfl (by decide +kernel) k108 (by decide +kernel) tw_1095 rfl rfl rfl (fun m112 e113 => ?_)
  replace h := h m112 e113
  have k114 : mK m112 q2 = 15 := by rw [e113]; exact k107
  have k115 : mK m112 t = 13 := by rw [e113]; exact k108
  have k116 : mK m112 q30 = 15 := by rw [e113]; exact k109
  have k117 : mK m112 q44 = 16 := by rw [e113]; exact k110
  have k118 : mK m112 q60 = 16 := by rw [e113]; exact k111
  refine at_aload_n (i := 0) 0 89 rfl (by decide +kernel) rfl ?_
  refine at_iconst (n := 3) (3 : Int32) 90 rfl (by decide +kernel) (by decide +kernel) ?_
  obtain ⟨z119, h⟩ := h
  refine at_newaI 92 rfl z119 (by decide +kernel) tw_265 (by decide +kernel) (by decide +kernel) (fun q120 m121 e122 e123 => ?_)
  replace h := h q120 m121 e122 e123
  have x124 : Ext m112 m121 := by rw [e123, e122]; exact Ext.nw z119 _ _ _
  have k125 : mK m121 q2 = 15 := x124.k k114 (by decide)
  have k126 : mK m121 t = 13 := x124.k k115 (by decide)
  have k127 : mK m121 q30 = 15 := x124.k k116 (by decide)
  have k128 : mK m121 q44 = 16 := x124.k k117 (by decide)
  have k129 : mK m121 q60 = 16 := x124.k k118 (by decide)
  have k130 : mK m121 q120 = 15 := by rw [e123]; exact if_pos rfl
  refine at_dup 93 rfl (by decide +kernel) (va_rf_cat _) ?_
  refine at_iconst (n := 0) (0 : Int32) 94 rfl (by decide +kernel) (by decide +kernel) ?_
  refine at_bipush (n := 50) (50 : Int32) 96 rfl (by decide +kernel) (by decide +kernel) ?_
  obtain ⟨v131, h⟩ := h
  refine at_iast 97 rfl (by decide +kernel) k130 v131 (fun m132 e133 => ?_)
  replace h := h m132 e133
  have k134 : mK m132 q2 = 15 := by rw [e133]; exact k125
  have k135 : mK m132 t = 13 := by rw [e133]; exact k126
  have k136 : mK m132 q30 = 15 := by rw [e133]; exact k127
  have k137 : mK m132 q44 = 16 := by rw [e133]; exact k128
  have k138 : mK m132 q60 = 16 := by rw [e133]; exact k129
  have k139 : mK m132 q120 = 15 := by rw [e133]; exact k130
  refine at_dup 98 rfl (by decide +kernel) (va_rf_cat _) ?_
  refine at_iconst (n := 1) (1 : Int32) 99 rfl (by decide +kernel) (by decide +kernel) ?_
  refine at_bipush (n := 50) (50 : Int32) 101 rfl (by decide +kernel) (by decide +kernel) ?_
  obtain ⟨v140, h⟩ := h
  refine at_iast 102 rfl (by decide +kernel) k139 v140 (fun m141 e142 => ?_)
  replace h := h m141 e142
  have k143 : mK m141 q2 = 15 := by rw [e142]; exact k134
  have k144 : mK m141 t = 13 := by rw [e142]; exact k135
  have k145 : mK m141 q30 = 15 := by rw [e142]; exact k136
  have k146 : mK m141 q44 = 16 := by rw [e142]; exact k137
  have k147 : mK m141 q60 = 16 := by rw [e142]; exact k138
  have k148 : mK m141 q120 = 15 := by rw [e142]; exact k139
  refine at_dup 103 rfl (by decide +kernel) (va_rf_cat _) ?_
  refine at_iconst (n := 2) (2 : Int32) 104 rfl (by decide +kernel) (by decide +kernel) ?_
  refine at_bipush (n := 50) (50 : Int32) 106 rfl (by decide +kernel) (by decide +kernel) ?_
  obtain ⟨v149, h⟩ := h
  refine at_iast 107 rfl (by decide +kernel) k148 v149 (fun m150 e151 => ?_)
  replace h := h m150 e151
  have k152 : mK m150 q2 = 15 := by rw [e151]; exact k143
  have k153 : mK m150 t = 13 := by rw [e151]; exact k144
  have k154 : mK m150 q30 = 15 := by rw [e151]; exact k145
  have k155 : mK m150 q44 = 16 := by rw [e151]; exact k146
  have k156 : mK m150 q60 = 16 := by rw [e151]; exact k147
  have k157 : mK m150 q120 = 15 := by rw [e151]; exact k148
  refine at_putRF (index := 42) cok12 12 110 rfl (by decide +kernel) k153 (by decide +kernel) tw_1097 rfl rfl rfl rfl (Or.inr ⟨_, rfl⟩) (fun m158 e159 => ?_)
  replace h := h m158 e159
  have k160 : mK m158 q2 = 15 := by rw [e159]; exact k152
  have k161 : mK m158 t = 13 := by rw [e159]; exact k153
  have k162 : mK m158 q30 = 15 := by rw [e159]; exact k154
  have k163 : mK m158 q44 = 16 := by rw [e159]; exact k155
  have k164 : mK m158 q60 = 16 := by rw [e159]; exact k156
  have k165 : mK m158 q120 = 15 := by rw [e159]; exact k157
  refine at_aload_n (i := 0) 0 111 rfl (by decide +kernel) rfl ?_
  refine at_iconst (n := 3) (3 : Int32) 112 rfl (by decide +kernel) (by decide +kernel) ?_
  obtain ⟨z166, h⟩ := h
  refine at_newaI 114 rfl z166 (by decide +kernel) tw_265 (by decide +kernel) (by decide +kernel) (fun q167 m168 e169 e170 => ?_)
  replace h := h q167 m168 e169 e170
  have x171 : Ext m158 m168 := by rw [e170, e169]; exact Ext.nw z166 _ _ _
  have k172 : mK m168 q2 = 15 := x171.k k160 (by decide)
  have k173 : mK m168 t = 13 := x171.k k161 (by decide)
  have k174 : mK m168 q30 = 15 := x171.k k162 (by decide)
  have k175 : mK m168 q44 = 16 := x171.k k163 (by decide)
  have k176 : mK m168 q60 = 16 := x171.k k164 (by decide)
  have k177 : mK m168 q120 = 15 := x171.k k165 (by decide)
  have k178 : mK m168 q167 = 15 := by rw [e170]; exact if_pos rfl
  refine at_dup 115 rfl (by decide +kernel) (va_rf_cat _) ?_
  refine at_iconst (n := 0) (0 : Int32) 116 rfl (by decide +kernel) (by decide +kernel) ?_
  refine at_bipush (n := 10) (10 : Int32) 118 rfl (by decide +kernel) (by decide +kernel) ?_
  obtain ⟨v179, h⟩ := h
  refine at_iast 119 rfl (by decide +kernel) k178 v179 (fun m180 e181 => ?_)
  replace h := h m180 e181
  have k182 : mK m180 q2 = 15 := by rw [e181]; exact k172
  have k183 : mK m180 t = 13 := by rw [e181]; exact k173
  have k184 : mK m180 q30 = 15 := by rw [e181]; exact k174
  have k185 : mK m180 q44 = 16 := by rw [e181]; exact k175
  have k186 : mK m180 q60 = 16 := by rw [e181]; exact k176
  have k187 : mK m180 q120 = 15 := by rw [e181]; exact k177
  have k188 : mK m180 q167 = 15 := by rw [e181]; exact k178
  refine at_dup 120 rfl (by decide +kernel) (va_rf_cat _) ?_
  refine at_iconst (n := 1) (1 : Int32) 121 rfl (by decide +kernel) (by decide +kernel) ?_
  refine at_bipush (n := 10) (10 : Int32) 123 rfl (by decide +kernel) (by decide +kernel) ?_
  obtain ⟨v189, h⟩ := h
  refine at_iast 124 rfl (by decide +kernel) k188 v189 (fun m190 e191 => ?_)
  replace h := h m190 e191
  have k192 : mK m190 q2 = 15 := by rw [e191]; exact k182
  have k193 : mK m190 t = 13 := by rw [e191]; exact k183
  have k194 : mK m190 q30 = 15 := by rw [e191]; exact k184
  have k195 : mK m190 q44 = 16 := by rw [e191]; exact k185
  have k196 : mK m190 q60 = 16 := by rw [e191]; exact k186
  have k197 : mK m190 q120 = 15 := by rw [e191]; exact k187
  have k198 : mK m190 q167 = 15 := by rw [e191]; exact k188
  refine at_dup 125 rfl (by decide +kernel) (va_rf_cat _) ?_
  refine at_iconst (n := 2) (2 : Int32) 126 rfl (by decide +kernel) (by decide +kernel) ?_
  refine at_bipush (n := 10) (10 : Int32) 128 rfl (by decide +kernel) (by decide +kernel) ?_
  obtain ⟨v199, h⟩ := h
  refine at_iast 129 rfl (by decide +kernel) k198 v199 (fun m200 e201 => ?_)
  replace h := h m200 e201
  have k202 : mK m200 q2 = 15 := by rw [e201]; exact k192
  have k203 : mK m200 t = 13 := by rw [e201]; exact k193
  have k204 : mK m200 q30 = 15 := by rw [e201]; exact k194
  have k205 : mK m200 q44 = 16 := by rw [e201]; exact k195
  have k206 : mK m200 q60 = 16 := by rw [e201]; exact k196
  have k207 : mK m200 q120 = 15 := by rw [e201]; exact k197
  have k208 : mK m200 q167 = 15 := by rw [e201]; exact k198
  refine at_putRF (index := 45) cok12 13 132 rfl (by decide +kernel) k203 (by decide +kernel) tw_1098 rfl rfl rfl rfl (Or.inr ⟨_, rfl⟩) (fun m209 e210 => ?_)
  replace h := h m209 e210
  have k211 : mK m209 q2 = 15 := by rw [e210]; exact k202
  have k212 : mK m209 t = 13 := by rw [e210]; exact k203
  have k213 : mK m209 q30 = 15 := by rw [e210]; exact k204
  have k214 : mK m209 q44 = 16 := by rw [e210]; exact k205
  have k215 : mK m209 q60 = 16 := by rw [e210]; exact k206
  have k216 : mK m209 q120 = 15 := by rw [e210]; exact k207
  have k217 : mK m209 q167 = 15 := by rw [e210]; exact k208
  refine at_aload_n (i := 0) 0 133 rfl (by decide +kernel) rfl ?_
  refine at_sipush (n := 300) (300 : Int32) 136 rfl (by decide +kernel) (by decide +kernel) ?_
  obtain ⟨z218, h⟩ := h
  refine at_newaB 138 rfl z218 (by decide +kernel) tw_374 (by decide +kernel) (by decide +kernel) (fun q219 m220 e221 e222 => ?_)
  replace h := h q219 m220 e221 e222
  have x223 : Ext m209 m220 := by rw [e222, e221]; exact Ext.nw z218 _ _ _
  have k224 : mK m220 q2 = 15 := x223.k k211 (by decide)
  have k225 : mK m220 t = 13 := x223.k k212 (by decide)
  have k226 : mK m220 q30 = 15 := x223.k k213 (by decide)
  have k227 : mK m220 q44 = 16 := x223.k k214 (by decide)
  have k228 : mK m220 q60 = 16 := x223.k k215 (by decide)
  have k229 : mK m220 q120 = 15 := x223.k k216 (by decide)
  have k230 : mK m220 q167 = 15 := x223.k k217 (by decide)
  have k231 : mK m220 q219 = 14 := by rw [e222]; exact if_pos rfl
  refine at_putRF (index := 48) cok12 14 141 rfl (by decide +kernel) k225 (by decide +kernel) tw_1099 rfl rfl rfl rfl (Or.inr ⟨_, rfl⟩) (fun m232 e233 => ?_)
  replace h := h m232 e233
  have k234 : mK m232 q2 = 15 := by rw [e233]; exact k224
  have k235 : mK m232 t = 13 := by rw [e233]; exact k225
  have k236 : mK m232 q30 = 15 := by rw [e233]; exact k226
  have k237 : mK m232 q44 = 16 := by rw [e233]; exact k227
  have k238 : mK m232 q60 = 16 := by rw [e233]; exact k228
  have k239 : mK m232 q120 = 15 := by rw [e233]; exact k229
  have k240 : mK m232 q167 = 15 := by rw [e233]; exact k230
  have k241 : mK m232 q219 = 14 := by rw [e233]; exact k231
  refine at_aload_n (i := 0) 0 142 rfl (by decide +kernel) rfl ?_
  refine at_iconst (n := (-1)) (-1 : Int32) 143 rfl (by decide +kernel) (by decide +kernel) ?_
  refine at_putI (index := 52) cok12 16 146 rfl (by decide +kernel) k235 (by decide +kernel) tw_1101 rfl rfl rfl (fun m242 e243 => ?_)
  replace h := h m242 e243
  have k244 : mK m242 q2 = 15 := by rw [e243]; exact k234
  have k245 : mK m242 t = 13 := by rw [e243]; exact k235
  have k246 : mK m242 q30 = 15 := by rw [e243]; exact k236
  have k247 : mK m242 q44 = 16 := by rw [e243]; exact k237
  have k248 : mK m242 q60 = 16 := by rw [e243]; exact k238
  have k249 : mK m242 q120 = 15 := by rw [e243]; exact k239
  have k250 : mK m242 q167 = 15 := by rw [e243]; exact k240
  have k251 : mK m242 q219 = 14 := by rw [e243]; exact k241
  refine at_aload_n (i := 0) 0 147 rfl (by decide +kernel) rfl ?_
  refine at_sipush (n := 9300) (9300 : Int32) 150 rfl (by decide +kernel) (by decide +kernel) ?_
  obtain ⟨z252, h⟩ := h
  refine at_newaB 152 rfl z252 (by decide +kernel) tw_374 (by decide +kernel) (by decide +kernel) (fun q253 m254 e255 e256 => ?_)
  replace h := h q253 m254 e255 e256
  have x257 : Ext m242 m254 := by rw [e256, e255]; exact Ext.nw z252 _ _ _
  have k258 : mK m254 q2 = 15 := x257.k k244 (by decide)
  have k259 : mK m254 t = 13 := x257.k k245 (by decide)
  have k260 : mK m254 q30 = 15 := x257.k k246 (by decide)
  have k261 : mK m254 q44 = 16 := x257.k k247 (by decide)
  have k262 : mK m254 q60 = 16 := x257.k k248 (by decide)
  have k263 : mK m254 q120 = 15 := x257.k k249 (by decide)
  have k264 : mK m254 q167 = 15 := x257.k k250 (by decide)
  have k265 : mK m254 q219 = 14 := x257.k k251 (by decide)
  have k266 : mK m254 q253 = 14 := by rw [e256]; exact if_pos rfl
  refine at_putRF (index := 55) cok12 17 155 rfl (by decide +kernel) k259 (by decide +kernel) tw_1102 rfl rfl rfl rfl (Or.inr ⟨_, rfl⟩) (fun m267 e268 => ?_)
  replace h := h m267 e268
  have k269 : mK m267 q2 = 15 := by rw [e268]; exact k258
  have k270 : mK m267 t = 13 := by rw [e268]; exact k259
  have k271 : mK m267 q30 = 15 := by rw [e268]; exact k260
  have k272 : mK m267 q44 = 16 := by rw [e268]; exact k261
  have k273 : mK m267 q60 = 16 := by rw [e268]; exact k262
  have k274 : mK m267 q120 = 15 := by rw [e268]; exact k263
  have k275 : mK m267 q167 = 15 := by rw [e268]; exact k264
  have k276 : mK m267 q219 = 14 := by rw [e268]; exact k265
  have k277 : mK m267 q253 = 14 := by rw [e268]; exact k266
  refine at_aload_n (i := 0) 0 156 rfl (by decide +kernel) rfl ?_
  refine at_bipush (n := 31) (31 : Int32) 158 rfl (by decide +kernel) (by decide +kernel) ?_
  obtain ⟨z278, h⟩ := h
  refine at_newaI 160 rfl z278 (by decide +kernel) tw_265 (by decide +kernel) (by decide +kernel) (fun q279 m280 e281 e282 => ?_)
  replace h := h q279 m280 e281 e282
  have x283 : Ext m267 m280 := by rw [e282, e281]; exact Ext.nw z278 _ _ _
  have k284 : mK m280 q2 = 15 := x283.k k269 (by decide)
  have k285 : mK m280 t = 13 := x283.k k270 (by decide)
  have k286 : mK m280 q30 = 15 := x283.k k271 (by decide)
  have k287 : mK m280 q44 = 16 := x283.k k272 (by decide)
  have k288 : mK m280 q60 = 16 := x283.k k273 (by decide)
  have k289 : mK m280 q120 = 15 := x283.k k274 (by decide)
  have k290 : mK m280 q167 = 15 := x283.k k275 (by decide)
  have k291 : mK m280 q219 = 14 := x283.k k276 (by decide)
  have k292 : mK m280 q253 = 14 := x283.k k277 (by decide)
  have k293 : mK m280 q279 = 15 := by rw [e282]; exact if_pos rfl
  refine at_putRF (index := 58) cok12 18 163 rfl (by decide +kernel) k285 (by decide +kernel) tw_1103 rfl rfl rfl rfl (Or.inr ⟨_, rfl⟩) (fun m294 e295 => ?_)
  replace h := h m294 e295
  have k296 : mK m294 q2 = 15 := by rw [e295]; exact k284
  have k297 : mK m294 t = 13 := by rw [e295]; exact k285
  have k298 : mK m294 q30 = 15 := by rw [e295]; exact k286
  have k299 : mK m294 q44 = 16 := by rw [e295]; exact k287
  have k300 : mK m294 q60 = 16 := by rw [e295]; exact k288
  have k301 : mK m294 q120 = 15 := by rw [e295]; exact k289
  have k302 : mK m294 q167 = 15 := by rw [e295]; exact k290
  have k303 : mK m294 q219 = 14 := by rw [e295]; exact k291
  have k304 : mK m294 q253 = 14 := by rw [e295]; exact k292
  have k305 : mK m294 q279 = 15 := by rw [e295]; exact k293
  refine at_aload_n (i := 0) 0 164 rfl (by decide +kernel) rfl ?_
  refine at_bipush (n := 12) (12 : Int32) 166 rfl (by decide +kernel) (by decide +kernel) ?_
  obtain ⟨z306, h⟩ := h
  refine at_newaI 168 rfl z306 (by decide +kernel) tw_265 (by decide +kernel) (by decide +kernel) (fun q307 m308 e309 e310 => ?_)
  replace h := h q307 m308 e309 e310
  have x311 : Ext m294 m308 := by rw [e310, e309]; exact Ext.nw z306 _ _ _
  have k312 : mK m308 q2 = 15 := x311.k k296 (by decide)
  have k313 : mK m308 t = 13 := x311.k k297 (by decide)
  have k314 : mK m308 q30 = 15 := x311.k k298 (by decide)
  have k315 : mK m308 q44 = 16 := x311.k k299 (by decide)
  have k316 : mK m308 q60 = 16 := x311.k k300 (by decide)
  have k317 : mK m308 q120 = 15 := x311.k k301 (by decide)
  have k318 : mK m308 q167 = 15 := x311.k k302 (by decide)
  have k319 : mK m308 q219 = 14 := x311.k k303 (by decide)
  have k320 : mK m308 q253 = 14 := x311.k k304 (by decide)
  have k321 : mK m308 q279 = 15 := x311.k k305 (by decide)
  have k322 : mK m308 q307 = 15 := by rw [e310]; exact if_pos rfl
  refine at_putRF (index := 61) cok12 20 171 rfl (by decide +kernel) k313 (by decide +kernel) tw_1105 rfl rfl rfl rfl (Or.inr ⟨_, rfl⟩) (fun m323 e324 => ?_)
  replace h := h m323 e324
  have k325 : mK m323 q2 = 15 := by rw [e324]; exact k312
  have k326 : mK m323 t = 13 := by rw [e324]; exact k313
  have k327 : mK m323 q30 = 15 := by rw [e324]; exact k314
  have k328 : mK m323 q44 = 16 := by rw [e324]; exact k315
  have k329 : mK m323 q60 = 16 := by rw [e324]; exact k316
  have k330 : mK m323 q120 = 15 := by rw [e324]; exact k317
  have k331 : mK m323 q167 = 15 := by rw [e324]; exact k318
  have k332 : mK m323 q219 = 14 := by rw [e324]; exact k319
  have k333 : mK m323 q253 = 14 := by rw [e324]; exact k320
  have k334 : mK m323 q279 = 15 := by rw [e324]; exact k321
  have k335 : mK m323 q307 = 15 := by rw [e324]; exact k322
  refine at_aload_n (i := 0) 0 172 rfl (by decide +kernel) rfl ?_
  refine at_bipush (n := 12) (12 : Int32) 174 rfl (by decide +kernel) (by decide +kernel) ?_
  obtain ⟨z336, h⟩ := h
  refine at_newaI 176 rfl z336 (by decide +kernel) tw_265 (by decide +kernel) (by decide +kernel) (fun q337 m338 e339 e340 => ?_)
  replace h := h q337 m338 e339 e340
  have x341 : Ext m323 m338 := by rw [e340, e339]; exact Ext.nw z336 _ _ _
  have k342 : mK m338 q2 = 15 := x341.k k325 (by decide)
  have k343 : mK m338 t = 13 := x341.k k326 (by decide)
  have k344 : mK m338 q30 = 15 := x341.k k327 (by decide)
  have k345 : mK m338 q44 = 16 := x341.k k328 (by decide)
  have k346 : mK m338 q60 = 16 := x341.k k329 (by decide)
  have k347 : mK m338 q120 = 15 := x341.k k330 (by decide)
  have k348 : mK m338 q167 = 15 := x341.k k331 (by decide)
  have k349 : mK m338 q219 = 14 := x341.k k332 (by decide)
  have k350 : mK m338 q253 = 14 := x341.k k333 (by decide)
  have k351 : mK m338 q279 = 15 := x341.k k334 (by decide)
  have k352 : mK m338 q307 = 15 := x341.k k335 (by decide)
  have k353 : mK m338 q337 = 15 := by rw [e340]; exact if_pos rfl
  refine at_putRF (index := 64) cok12 21 179 rfl (by decide +kernel) k343 (by decide +kernel) tw_1106 rfl rfl rfl rfl (Or.inr ⟨_, rfl⟩) (fun m354 e355 => ?_)
  replace h := h m354 e355
  have k356 : mK m354 q2 = 15 := by rw [e355]; exact k342
  have k357 : mK m354 t = 13 := by rw [e355]; exact k343
  have k358 : mK m354 q30 = 15 := by rw [e355]; exact k344
  have k359 : mK m354 q44 = 16 := by rw [e355]; exact k345
  have k360 : mK m354 q60 = 16 := by rw [e355]; exact k346
  have k361 : mK m354 q120 = 15 := by rw [e355]; exact k347
  have k362 : mK m354 q167 = 15 := by rw [e355]; exact k348
  have k363 : mK m354 q219 = 14 := by rw [e355]; exact k349
  have k364 : mK m354 q253 = 14 := by rw [e355]; exact k350
  have k365 : mK m354 q279 = 15 := by rw [e355]; exact k351
  have k366 : mK m354 q307 = 15 := by rw [e355]; exact k352
  have k367 : mK m354 q337 = 15 := by rw [e355]; exact k353
  refine at_aload_n (i := 0) 0 180 rfl (by decide +kernel) rfl ?_
  refine at_bipush (n := 12) (12 : Int32) 182 rfl (by decide +kernel) (by decide +kernel) ?_
  obtain ⟨z368, h⟩ := h
  refine at_newaI 184 rfl z368 (by decide +kernel) tw_265 (by decide +kernel) (by decide +kernel) (fun q369 m370 e371 e372 => ?_)
  replace h := h q369 m370 e371 e372
  have x373 : Ext m354 m370 := by rw [e372, e371]; exact Ext.nw z368 _ _ _
  have k374 : mK m370 q2 = 15 := x373.k k356 (by decide)
  have k375 : mK m370 t = 13 := x373.k k357 (by decide)
  have k376 : mK m370 q30 = 15 := x373.k k358 (by decide)
  have k377 : mK m370 q44 = 16 := x373.k k359 (by decide)
  have k378 : mK m370 q60 = 16 := x373.k k360 (by decide)
  have k379 : mK m370 q120 = 15 := x373.k k361 (by decide)
  have k380 : mK m370 q167 = 15 := x373.k k362 (by decide)
  have k381 : mK m370 q219 = 14 := x373.k k363 (by decide)
  have k382 : mK m370 q253 = 14 := x373.k k364 (by decide)
  have k383 : mK m370 q279 = 15 := x373.k k365 (by decide)
  have k384 : mK m370 q307 = 15 := x373.k k366 (by decide)
  have k385 : mK m370 q337 = 15 := x373.k k367 (by decide)
  have k386 : mK m370 q369 = 15 := by rw [e372]; exact if_pos rfl
  refine at_putRF (index := 67) cok12 22 187 rfl (by decide +kernel) k375 (by decide +kernel) tw_1107 rfl rfl rfl rfl (Or.inr ⟨_, rfl⟩) (fun m387 e388 => ?_)
  replace h := h m387 e388
  have k389 : mK m387 q2 = 15 := by rw [e388]; exact k374
  have k390 : mK m387 t = 13 := by rw [e388]; exact k375
  have k391 : mK m387 q30 = 15 := by rw [e388]; exact k376
  have k392 : mK m387 q44 = 16 := by rw [e388]; exact k377
  have k393 : mK m387 q60 = 16 := by rw [e388]; exact k378
  have k394 : mK m387 q120 = 15 := by rw [e388]; exact k379
  have k395 : mK m387 q167 = 15 := by rw [e388]; exact k380
  have k396 : mK m387 q219 = 14 := by rw [e388]; exact k381
  have k397 : mK m387 q253 = 14 := by rw [e388]; exact k382
  have k398 : mK m387 q279 = 15 := by rw [e388]; exact k383
  have k399 : mK m387 q307 = 15 := by rw [e388]; exact k384
  have k400 : mK m387 q337 = 15 := by rw [e388]; exact k385
  have k401 : mK m387 q369 = 15 := by rw [e388]; exact k386
  refine at_aload_n (i := 0) 0 188 rfl (by decide +kernel) rfl ?_
  refine at_sipush (n := 360) (360 : Int32) 191 rfl (by decide +kernel) (by decide +kernel) ?_
  obtain ⟨z402, h⟩ := h
  refine at_newaI 193 rfl z402 (by decide +kernel) tw_265 (by decide +kernel) (by decide +kernel) (fun q403 m404 e405 e406 => ?_)
  replace h := h q403 m404 e405 e406
  have x407 : Ext m387 m404 := by rw [e406, e405]; exact Ext.nw z402 _ _ _
  have k408 : mK m404 q2 = 15 := x407.k k389 (by decide)
  have k409 : mK m404 t = 13 := x407.k k390 (by decide)
  have k410 : mK m404 q30 = 15 := x407.k k391 (by decide)
  have k411 : mK m404 q44 = 16 := x407.k k392 (by decide)
  have k412 : mK m404 q60 = 16 := x407.k k393 (by decide)
  have k413 : mK m404 q120 = 15 := x407.k k394 (by decide)
  have k414 : mK m404 q167 = 15 := x407.k k395 (by decide)
  have k415 : mK m404 q219 = 14 := x407.k k396 (by decide)
  have k416 : mK m404 q253 = 14 := x407.k k397 (by decide)
  have k417 : mK m404 q279 = 15 := x407.k k398 (by decide)
  have k418 : mK m404 q307 = 15 := x407.k k399 (by decide)
  have k419 : mK m404 q337 = 15 := x407.k k400 (by decide)
  have k420 : mK m404 q369 = 15 := x407.k k401 (by decide)
  have k421 : mK m404 q403 = 15 := by rw [e406]; exact if_pos rfl
  refine at_putRF (index := 70) cok12 23 196 rfl (by decide +kernel) k409 (by decide +kernel) tw_1108 rfl rfl rfl rfl (Or.inr ⟨_, rfl⟩) (fun m422 e423 => ?_)
  replace h := h m422 e423
  have k424 : mK m422 q2 = 15 := by rw [e423]; exact k408
  have k425 : mK m422 t = 13 := by rw [e423]; exact k409
  have k426 : mK m422 q30 = 15 := by rw [e423]; exact k410
  have k427 : mK m422 q44 = 16 := by rw [e423]; exact k411
  have k428 : mK m422 q60 = 16 := by rw [e423]; exact k412
  have k429 : mK m422 q120 = 15 := by rw [e423]; exact k413
  have k430 : mK m422 q167 = 15 := by rw [e423]; exact k414
  have k431 : mK m422 q219 = 14 := by rw [e423]; exact k415
  have k432 : mK m422 q253 = 14 := by rw [e423]; exact k416
  have k433 : mK m422 q279 = 15 := by rw [e423]; exact k417
  have k434 : mK m422 q307 = 15 := by rw [e423]; exact k418
  have k435 : mK m422 q337 = 15 := by rw [e423]; exact k419
  have k436 : mK m422 q369 = 15 := by rw [e423]; exact k420
  have k437 : mK m422 q403 = 15 := by rw [e423]; exact k421
  refine at_aload_n (i := 0) 0 197 rfl (by decide +kernel) rfl ?_
  refine at_sipush (n := 360) (360 : Int32) 200 rfl (by decide +kernel) (by decide +kernel) ?_
  obtain ⟨z438, h⟩ := h
  refine at_newaI 202 rfl z438 (by decide +kernel) tw_265 (by decide +kernel) (by decide +kernel) (fun q439 m440 e441 e442 => ?_)
  replace h := h q439 m440 e441 e442
  have x443 : Ext m422 m440 := by rw [e442, e441]; exact Ext.nw z438 _ _ _
  have k444 : mK m440 q2 = 15 := x443.k k424 (by decide)
  have k445 : mK m440 t = 13 := x443.k k425 (by decide)
  have k446 : mK m440 q30 = 15 := x443.k k426 (by decide)
  have k447 : mK m440 q44 = 16 := x443.k k427 (by decide)
  have k448 : mK m440 q60 = 16 := x443.k k428 (by decide)
  have k449 : mK m440 q120 = 15 := x443.k k429 (by decide)
  have k450 : mK m440 q167 = 15 := x443.k k430 (by decide)
  have k451 : mK m440 q219 = 14 := x443.k k431 (by decide)
  have k452 : mK m440 q253 = 14 := x443.k k432 (by decide)
  have k453 : mK m440 q279 = 15 := x443.k k433 (by decide)
  have k454 : mK m440 q307 = 15 := x443.k k434 (by decide)
  have k455 : mK m440 q337 = 15 := x443.k k435 (by decide)
  have k456 : mK m440 q369 = 15 := x443.k k436 (by decide)
  have k457 : mK m440 q403 = 15 := x443.k k437 (by decide)
  have k458 : mK m440 q439 = 15 := by rw [e442]; exact if_pos rfl
  refine at_putRF (index := 73) cok12 24 205 rfl (by decide +kernel) k445 (by decide +kernel) tw_1109 rfl rfl rfl rfl (Or.inr ⟨_, rfl⟩) (fun m459 e460 => ?_)
  replace h := h m459 e460
  have k461 : mK m459 q2 = 15 := by rw [e460]; exact k444
  have k462 : mK m459 t = 13 := by rw [e460]; exact k445
  have k463 : mK m459 q30 = 15 := by rw [e460]; exact k446
  have k464 : mK m459 q44 = 16 := by rw [e460]; exact k447
  have k465 : mK m459 q60 = 16 := by rw [e460]; exact k448
  have k466 : mK m459 q120 = 15 := by rw [e460]; exact k449
  have k467 : mK m459 q167 = 15 := by rw [e460]; exact k450
  have k468 : mK m459 q219 = 14 := by rw [e460]; exact k451
  have k469 : mK m459 q253 = 14 := by rw [e460]; exact k452
  have k470 : mK m459 q279 = 15 := by rw [e460]; exact k453
  have k471 : mK m459 q307 = 15 := by rw [e460]; exact k454
  have k472 : mK m459 q337 = 15 := by rw [e460]; exact k455
  have k473 : mK m459 q369 = 15 := by rw [e460]; exact k456
  have k474 : mK m459 q403 = 15 := by rw [e460]; exact k457
  have k475 : mK m459 q439 = 15 := by rw [e460]; exact k458
  refine at_aload_n (i := 0) 0 206 rfl (by decide +kernel) rfl ?_
  refine at_bipush (n := 30) (30 : Int32) 208 rfl (by decide +kernel) (by decide +kernel) ?_
  obtain ⟨z476, h⟩ := h
  refine at_newaI 210 rfl z476 (by decide +kernel) tw_265 (by decide +kernel) (by decide +kernel) (fun q477 m478 e479 e480 => ?_)
  replace h := h q477 m478 e479 e480
  have x481 : Ext m459 m478 := by rw [e480, e479]; exact Ext.nw z476 _ _ _
  have k482 : mK m478 q2 = 15 := x481.k k461 (by decide)
  have k483 : mK m478 t = 13 := x481.k k462 (by decide)
  have k484 : mK m478 q30 = 15 := x481.k k463 (by decide)
  have k485 : mK m478 q44 = 16 := x481.k k464 (by decide)
  have k486 : mK m478 q60 = 16 := x481.k k465 (by decide)
  have k487 : mK m478 q120 = 15 := x481.k k466 (by decide)
  have k488 : mK m478 q167 = 15 := x481.k k467 (by decide)
  have k489 : mK m478 q219 = 14 := x481.k k468 (by decide)
  have k490 : mK m478 q253 = 14 := x481.k k469 (by decide)
  have k491 : mK m478 q279 = 15 := x481.k k470 (by decide)
  have k492 : mK m478 q307 = 15 := x481.k k471 (by decide)
  have k493 : mK m478 q337 = 15 := x481.k k472 (by decide)
  have k494 : mK m478 q369 = 15 := x481.k k473 (by decide)
  have k495 : mK m478 q403 = 15 := x481.k k474 (by decide)
  have k496 : mK m478 q439 = 15 := x481.k k475 (by decide)
  have k497 : mK m478 q477 = 15 := by rw [e480]; exact if_pos rfl
  refine at_putRF (index := 76) cok12 25 213 rfl (by decide +kernel) k483 (by decide +kernel) tw_1110 rfl rfl rfl rfl (Or.inr ⟨_, rfl⟩) (fun m498 e499 => ?_)
  replace h := h m498 e499
  have k500 : mK m498 q2 = 15 := by rw [e499]; exact k482
  have k501 : mK m498 t = 13 := by rw [e499]; exact k483
  have k502 : mK m498 q30 = 15 := by rw [e499]; exact k484
  have k503 : mK m498 q44 = 16 := by rw [e499]; exact k485
  have k504 : mK m498 q60 = 16 := by rw [e499]; exact k486
  have k505 : mK m498 q120 = 15 := by rw [e499]; exact k487
  have k506 : mK m498 q167 = 15 := by rw [e499]; exact k488
  have k507 : mK m498 q219 = 14 := by rw [e499]; exact k489
  have k508 : mK m498 q253 = 14 := by rw [e499]; exact k490
  have k509 : mK m498 q279 = 15 := by rw [e499]; exact k491
  have k510 : mK m498 q307 = 15 := by rw [e499]; exact k492
  have k511 : mK m498 q337 = 15 := by rw [e499]; exact k493
  have k512 : mK m498 q369 = 15 := by rw [e499]; exact k494
  have k513 : mK m498 q403 = 15 := by rw [e499]; exact k495
  have k514 : mK m498 q439 = 15 := by rw [e499]; exact k496
  have k515 : mK m498 q477 = 15 := by rw [e499]; exact k497
  refine at_aload_n (i := 0) 0 214 rfl (by decide +kernel) rfl ?_
  refine at_bipush (n := 30) (30 : Int32) 216 rfl (by decide +kernel) (by decide +kernel) ?_
  obtain ⟨z516, h⟩ := h
  refine at_newaI 218 rfl z516 (by decide +kernel) tw_265 (by decide +kernel) (by decide +kernel) (fun q517 m518 e519 e520 => ?_)
  replace h := h q517 m518 e519 e520
  have x521 : Ext m498 m518 := by rw [e520, e519]; exact Ext.nw z516 _ _ _
  have k522 : mK m518 q2 = 15 := x521.k k500 (by decide)
  have k523 : mK m518 t = 13 := x521.k k501 (by decide)
  have k524 : mK m518 q30 = 15 := x521.k k502 (by decide)
  have k525 : mK m518 q44 = 16 := x521.k k503 (by decide)
  have k526 : mK m518 q60 = 16 := x521.k k504 (by decide)
  have k527 : mK m518 q120 = 15 := x521.k k505 (by decide)
  have k528 : mK m518 q167 = 15 := x521.k k506 (by decide)
  have k529 : mK m518 q219 = 14 := x521.k k507 (by decide)
  have k530 : mK m518 q253 = 14 := x521.k k508 (by decide)
  have k531 : mK m518 q279 = 15 := x521.k k509 (by decide)
  have k532 : mK m518 q307 = 15 := x521.k k510 (by decide)
  have k533 : mK m518 q337 = 15 := x521.k k511 (by decide)
  have k534 : mK m518 q369 = 15 := x521.k k512 (by decide)
  have k535 : mK m518 q403 = 15 := x521.k k513 (by decide)
  have k536 : mK m518 q439 = 15 := x521.k k514 (by decide)
  have k537 : mK m518 q477 = 15 := x521.k k515 (by decide)
  have k538 : mK m518 q517 = 15 := by rw [e520]; exact if_pos rfl
  refine at_putRF (index := 79) cok12 26 221 rfl (by decide +kernel) k523 (by decide +kernel) tw_1111 rfl rfl rfl rfl (Or.inr ⟨_, rfl⟩) (fun m539 e540 => ?_)
  replace h := h m539 e540
  have k541 : mK m539 q2 = 15 := by rw [e540]; exact k522
  have k542 : mK m539 t = 13 := by rw [e540]; exact k523
  have k543 : mK m539 q30 = 15 := by rw [e540]; exact k524
  have k544 : mK m539 q44 = 16 := by rw [e540]; exact k525
  have k545 : mK m539 q60 = 16 := by rw [e540]; exact k526
  have k546 : mK m539 q120 = 15 := by rw [e540]; exact k527
  have k547 : mK m539 q167 = 15 := by rw [e540]; exact k528
  have k548 : mK m539 q219 = 14 := by rw [e540]; exact k529
  have k549 : mK m539 q253 = 14 := by rw [e540]; exact k530
  have k550 : mK m539 q279 = 15 := by rw [e540]; exact k531
  have k551 : mK m539 q307 = 15 := by rw [e540]; exact k532
  have k552 : mK m539 q337 = 15 := by rw [e540]; exact k533
  have k553 : mK m539 q369 = 15 := by rw [e540]; exact k534
  have k554 : mK m539 q403 = 15 := by rw [e540]; exact k535
  have k555 : mK m539 q439 = 15 := by rw [e540]; exact k536
  have k556 : mK m539 q477 = 15 := by rw [e540]; exact k537
  have k557 : mK m539 q517 = 15 := by rw [e540]; exact k538
  refine at_aload_n (i := 0) 0 222 rfl (by decide +kernel) rfl ?_
  refine at_sipush (n := 360) (360 : Int32) 225 rfl (by decide +kernel) (by decide +kernel) ?_
  obtain ⟨z558, h⟩ := h
  refine at_newaZ 227 rfl z558 (by decide +kernel) tw_200 (by decide +kernel) (by decide +kernel) (fun q559 m560 e561 e562 => ?_)
  replace h := h q559 m560 e561 e562
  have x563 : Ext m539 m560 := by rw [e562, e561]; exact Ext.nw z558 _ _ _
  have k564 : mK m560 q2 = 15 := x563.k k541 (by decide)
  have k565 : mK m560 t = 13 := x563.k k542 (by decide)
  have k566 : mK m560 q30 = 15 := x563.k k543 (by decide)
  have k567 : mK m560 q44 = 16 := x563.k k544 (by decide)
  have k568 : mK m560 q60 = 16 := x563.k k545 (by decide)
  have k569 : mK m560 q120 = 15 := x563.k k546 (by decide)
  have k570 : mK m560 q167 = 15 := x563.k k547 (by decide)
  have k571 : mK m560 q219 = 14 := x563.k k548 (by decide)
  have k572 : mK m560 q253 = 14 := x563.k k549 (by decide)
  have k573 : mK m560 q279 = 15 := x563.k k550 (by decide)
  have k574 : mK m560 q307 = 15 := x563.k k551 (by decide)
  have k575 : mK m560 q337 = 15 := x563.k k552 (by decide)
  have k576 : mK m560 q369 = 15 := x563.k k553 (by decide)
  have k577 : mK m560 q403 = 15 := x563.k k554 (by decide)
  have k578 : mK m560 q439 = 15 := x563.k k555 (by decide)
  have k579 : mK m560 q477 = 15 := x563.k k556 (by decide)
  have k580 : mK m560 q517 = 15 := x563.k k557 (by decide)
  have k581 : mK m560 q559 = 17 := by rw [e562]; exact if_pos rfl
  refine at_putRF (index := 82) cok12 27 230 rfl (by decide +kernel) k565 (by decide +kernel) tw_1112 rfl rfl rfl rfl (Or.inr ⟨_, rfl⟩) (fun m582 e583 => ?_)
  replace h := h m582 e583
  have k584 : mK m582 q2 = 15 := by rw [e583]; exact k564
  have k585 : mK m582 t = 13 := by rw [e583]; exact k565
  have k586 : mK m582 q30 = 15 := by rw [e583]; exact k566
  have k587 : mK m582 q44 = 16 := by rw [e583]; exact k567
  have k588 : mK m582 q60 = 16 := by rw [e583]; exact k568
  have k589 : mK m582 q120 = 15 := by rw [e583]; exact k569
  have k590 : mK m582 q167 = 15 := by rw [e583]; exact k570
  have k591 : mK m582 q219 = 14 := by rw [e583]; exact k571
  have k592 : mK m582 q253 = 14 := by rw [e583]; exact k572
  have k593 : mK m582 q279 = 15 := by rw [e583]; exact k573
  have k594 : mK m582 q307 = 15 := by rw [e583]; exact k574
  have k595 : mK m582 q337 = 15 := by rw [e583]; exact k575
  have k596 : mK m582 q369 = 15 := by rw [e583]; exact k576
  have k597 : mK m582 q403 = 15 := by rw [e583]; exact k577
  have k598 : mK m582 q439 = 15 := by rw [e583]; exact k578
  have k599 : mK m582 q477 = 15 := by rw [e583]; exact k579
  have k600 : mK m582 q517 = 15 := by rw [e583]; exact k580
  have k601 : mK m582 q559 = 17 := by rw [e583]; exact k581
  refine at_aload_n (i := 0) 0 231 rfl (by decide +kernel) rfl ?_
  refine at_sipush (n := 360) (360 : Int32) 234 rfl (by decide +kernel) (by decide +kernel) ?_
  obtain ⟨z602, h⟩ := h
  refine at_newaZ 236 rfl z602 (by decide +kernel) tw_200 (by decide +kernel) (by decide +kernel) (fun q603 m604 e605 e606 => ?_)
  replace h := h q603 m604 e605 e606
  have x607 : Ext m582 m604 := by rw [e606, e605]; exact Ext.nw z602 _ _ _
  have k608 : mK m604 q2 = 15 := x607.k k584 (by decide)
  have k609 : mK m604 t = 13 := x607.k k585 (by decide)
  have k610 : mK m604 q30 = 15 := x607.k k586 (by decide)
  have k611 : mK m604 q44 = 16 := x607.k k587 (by decide)
  have k612 : mK m604 q60 = 16 := x607.k k588 (by decide)
  have k613 : mK m604 q120 = 15 := x607.k k589 (by decide)
  have k614 : mK m604 q167 = 15 := x607.k k590 (by decide)
  have k615 : mK m604 q219 = 14 := x607.k k591 (by decide)
  have k616 : mK m604 q253 = 14 := x607.k k592 (by decide)
  have k617 : mK m604 q279 = 15 := x607.k k593 (by decide)
  have k618 : mK m604 q307 = 15 := x607.k k594 (by decide)
  have k619 : mK m604 q337 = 15 := x607.k k595 (by decide)
  have k620 : mK m604 q369 = 15 := x607.k k596 (by decide)
  have k621 : mK m604 q403 = 15 := x607.k k597 (by decide)
  have k622 : mK m604 q439 = 15 := x607.k k598 (by decide)
  have k623 : mK m604 q477 = 15 := x607.k k599 (by decide)
  have k624 : mK m604 q517 = 15 := x607.k k600 (by decide)
  have k625 : mK m604 q559 = 17 := x607.k k601 (by decide)
  have k626 : mK m604 q603 = 17 := by rw [e606]; exact if_pos rfl
  refine at_putRF (index := 86) cok12 28 239 rfl (by decide +kernel) k609 (by decide +kernel) tw_1113 rfl rfl rfl rfl (Or.inr ⟨_, rfl⟩) (fun m627 e628 => ?_)
  replace h := h m627 e628
  have k629 : mK m627 q2 = 15 := by rw [e628]; exact k608
  have k630 : mK m627 t = 13 := by rw [e628]; exact k609
  have k631 : mK m627 q30 = 15 := by rw [e628]; exact k610
  have k632 : mK m627 q44 = 16 := by rw [e628]; exact k611
  have k633 : mK m627 q60 = 16 := by rw [e628]; exact k612
  have k634 : mK m627 q120 = 15 := by rw [e628]; exact k613
  have k635 : mK m627 q167 = 15 := by rw [e628]; exact k614
  have k636 : mK m627 q219 = 14 := by rw [e628]; exact k615
  have k637 : mK m627 q253 = 14 := by rw [e628]; exact k616
  have k638 : mK m627 q279 = 15 := by rw [e628]; exact k617
  have k639 : mK m627 q307 = 15 := by rw [e628]; exact k618
  have k640 : mK m627 q337 = 15 := by rw [e628]; exact k619
  have k641 : mK m627 q369 = 15 := by rw [e628]; exact k620
  have k642 : mK m627 q403 = 15 := by rw [e628]; exact k621
  have k643 : mK m627 q439 = 15 := by rw [e628]; exact k622
  have k644 : mK m627 q477 = 15 := by rw [e628]; exact k623
  have k645 : mK m627 q517 = 15 := by rw [e628]; exact k624
  have k646 : mK m627 q559 = 17 := by rw [e628]; exact k625
  have k647 : mK m627 q603 = 17 := by rw [e628]; exact k626
  refine at_aload_n (i := 0) 0 240 rfl (by decide +kernel) rfl ?_
  refine at_bipush (n := 12) (12 : Int32) 242 rfl (by decide +kernel) (by decide +kernel) ?_
  obtain ⟨z648, h⟩ := h
  refine at_newaI 244 rfl z648 (by decide +kernel) tw_265 (by decide +kernel) (by decide +kernel) (fun q649 m650 e651 e652 => ?_)
  replace h := h q649 m650 e651 e652
  have x653 : Ext m627 m650 := by rw [e652, e651]; exact Ext.nw z648 _ _ _
  have k654 : mK m650 q2 = 15 := x653.k k629 (by decide)
  have k655 : mK m650 t = 13 := x653.k k630 (by decide)
  have k656 : mK m650 q30 = 15 := x653.k k631 (by decide)
  have k657 : mK m650 q44 = 16 := x653.k k632 (by decide)
  have k658 : mK m650 q60 = 16 := x653.k k633 (by decide)
  have k659 : mK m650 q120 = 15 := x653.k k634 (by decide)
  have k660 : mK m650 q167 = 15 := x653.k k635 (by decide)
  have k661 : mK m650 q219 = 14 := x653.k k636 (by decide)
  have k662 : mK m650 q253 = 14 := x653.k k637 (by decide)
  have k663 : mK m650 q279 = 15 := x653.k k638 (by decide)
  have k664 : mK m650 q307 = 15 := x653.k k639 (by decide)
  have k665 : mK m650 q337 = 15 := x653.k k640 (by decide)
  have k666 : mK m650 q369 = 15 := x653.k k641 (by decide)
  have k667 : mK m650 q403 = 15 := x653.k k642 (by decide)
  have k668 : mK m650 q439 = 15 := x653.k k643 (by decide)
  have k669 : mK m650 q477 = 15 := x653.k k644 (by decide)
  have k670 : mK m650 q517 = 15 := x653.k k645 (by decide)
  have k671 : mK m650 q559 = 17 := x653.k k646 (by decide)
  have k672 : mK m650 q603 = 17 := x653.k k647 (by decide)
  have k673 : mK m650 q649 = 15 := by rw [e652]; exact if_pos rfl
  refine at_putRF (index := 89) cok12 29 247 rfl (by decide +kernel) k655 (by decide +kernel) tw_1114 rfl rfl rfl rfl (Or.inr ⟨_, rfl⟩) (fun m674 e675 => ?_)
  replace h := h m674 e675
  have k676 : mK m674 q2 = 15 := by rw [e675]; exact k654
  have k677 : mK m674 t = 13 := by rw [e675]; exact k655
  have k678 : mK m674 q30 = 15 := by rw [e675]; exact k656
  have k679 : mK m674 q44 = 16 := by rw [e675]; exact k657
  have k680 : mK m674 q60 = 16 := by rw [e675]; exact k658
  have k681 : mK m674 q120 = 15 := by rw [e675]; exact k659
  have k682 : mK m674 q167 = 15 := by rw [e675]; exact k660
  have k683 : mK m674 q219 = 14 := by rw [e675]; exact k661
  have k684 : mK m674 q253 = 14 := by rw [e675]; exact k662
  have k685 : mK m674 q279 = 15 := by rw [e675]; exact k663
  have k686 : mK m674 q307 = 15 := by rw [e675]; exact k664
  have k687 : mK m674 q337 = 15 := by rw [e675]; exact k665
  have k688 : mK m674 q369 = 15 := by rw [e675]; exact k666
  have k689 : mK m674 q403 = 15 := by rw [e675]; exact k667
  have k690 : mK m674 q439 = 15 := by rw [e675]; exact k668
  have k691 : mK m674 q477 = 15 := by rw [e675]; exact k669
  have k692 : mK m674 q517 = 15 := by rw [e675]; exact k670
  have k693 : mK m674 q559 = 17 := by rw [e675]; exact k671
  have k694 : mK m674 q603 = 17 := by rw [e675]; exact k672
  have k695 : mK m674 q649 = 15 := by rw [e675]; exact k673
  refine at_aload_n (i := 0) 0 248 rfl (by decide +kernel) rfl ?_
  refine at_bipush (n := 12) (12 : Int32) 250 rfl (by decide +kernel) (by decide +kernel) ?_
  obtain ⟨z696, h⟩ := h
  refine at_newaI 252 rfl z696 (by decide +kernel) tw_265 (by decide +kernel) (by decide +kernel) (fun q697 m698 e699 e700 => ?_)
  replace h := h q697 m698 e699 e700
  have x701 : Ext m674 m698 := by rw [e700, e699]; exact Ext.nw z696 _ _ _
  have k702 : mK m698 q2 = 15 := x701.k k676 (by decide)
  have k703 : mK m698 t = 13 := x701.k k677 (by decide)
  have k704 : mK m698 q30 = 15 := x701.k k678 (by decide)
  have k705 : mK m698 q44 = 16 := x701.k k679 (by decide)
  have k706 : mK m698 q60 = 16 := x701.k k680 (by decide)
  have k707 : mK m698 q120 = 15 := x701.k k681 (by decide)
  have k708 : mK m698 q167 = 15 := x701.k k682 (by decide)
  have k709 : mK m698 q219 = 14 := x701.k k683 (by decide)
  have k710 : mK m698 q253 = 14 := x701.k k684 (by decide)
  have k711 : mK m698 q279 = 15 := x701.k k685 (by decide)
  have k712 : mK m698 q307 = 15 := x701.k k686 (by decide)
  have k713 : mK m698 q337 = 15 := x701.k k687 (by decide)
  have k714 : mK m698 q369 = 15 := x701.k k688 (by decide)
  have k715 : mK m698 q403 = 15 := x701.k k689 (by decide)
  have k716 : mK m698 q439 = 15 := x701.k k690 (by decide)
  have k717 : mK m698 q477 = 15 := x701.k k691 (by decide)
  have k718 : mK m698 q517 = 15 := x701.k k692 (by decide)
  have k719 : mK m698 q559 = 17 := x701.k k693 (by decide)
  have k720 : mK m698 q603 = 17 := x701.k k694 (by decide)
  have k721 : mK m698 q649 = 15 := x701.k k695 (by decide)
  have k722 : mK m698 q697 = 15 := by rw [e700]; exact if_pos rfl
  refine at_putRF (index := 92) cok12 30 255 rfl (by decide +kernel) k703 (by decide +kernel) tw_1115 rfl rfl rfl rfl (Or.inr ⟨_, rfl⟩) (fun m723 e724 => ?_)
  replace h := h m723 e724
  have k725 : mK m723 q2 = 15 := by rw [e724]; exact k702
  have k726 : mK m723 t = 13 := by rw [e724]; exact k703
  have k727 : mK m723 q30 = 15 := by rw [e724]; exact k704
  have k728 : mK m723 q44 = 16 := by rw [e724]; exact k705
  have k729 : mK m723 q60 = 16 := by rw [e724]; exact k706
  have k730 : mK m723 q120 = 15 := by rw [e724]; exact k707
  have k731 : mK m723 q167 = 15 := by rw [e724]; exact k708
  have k732 : mK m723 q219 = 14 := by rw [e724]; exact k709
  have k733 : mK m723 q253 = 14 := by rw [e724]; exact k710
  have k734 : mK m723 q279 = 15 := by rw [e724]; exact k711
  have k735 : mK m723 q307 = 15 := by rw [e724]; exact k712
  have k736 : mK m723 q337 = 15 := by rw [e724]; exact k713
  have k737 : mK m723 q369 = 15 := by rw [e724]; exact k714
  have k738 : mK m723 q403 = 15 := by rw [e724]; exact k715
  have k739 : mK m723 q439 = 15 := by rw [e724]; exact k716
  have k740 : mK m723 q477 = 15 := by rw [e724]; exact k717
  have k741 : mK m723 q517 = 15 := by rw [e724]; exact k718
  have k742 : mK m723 q559 = 17 := by rw [e724]; exact k719
  have k743 : mK m723 q603 = 17 := by rw [e724]; exact k720
  have k744 : mK m723 q649 = 15 := by rw [e724]; exact k721
  have k745 : mK m723 q697 = 15 := by rw [e724]; exact k722
  refine at_aload_n (i := 0) 0 256 rfl (by decide +kernel) rfl ?_
  refine at_iconst (n := 2) (2 : Int32) 257 rfl (by decide +kernel) (by decide +kernel) ?_
  obtain ⟨z746, h⟩ := h
  refine at_newaI 259 rfl z746 (by decide +kernel) tw_265 (by decide +kernel) (by decide +kernel) (fun q747 m748 e749 e750 => ?_)
  replace h := h q747 m748 e749 e750
  have x751 : Ext m723 m748 := by rw [e750, e749]; exact Ext.nw z746 _ _ _
  have k752 : mK m748 q2 = 15 := x751.k k725 (by decide)
  have k753 : mK m748 t = 13 := x751.k k726 (by decide)
  have k754 : mK m748 q30 = 15 := x751.k k727 (by decide)
  have k755 : mK m748 q44 = 16 := x751.k k728 (by decide)
  have k756 : mK m748 q60 = 16 := x751.k k729 (by decide)
  have k757 : mK m748 q120 = 15 := x751.k k730 (by decide)
  have k758 : mK m748 q167 = 15 := x751.k k731 (by decide)
  have k759 : mK m748 q219 = 14 := x751.k k732 (by decide)
  have k760 : mK m748 q253 = 14 := x751.k k733 (by decide)
  have k761 : mK m748 q279 = 15 := x751.k k734 (by decide)
  have k762 : mK m748 q307 = 15 := x751.k k735 (by decide)
  have k763 : mK m748 q337 = 15 := x751.k k736 (by decide)
  have k764 : mK m748 q369 = 15 := x751.k k737 (by decide)
  have k765 : mK m748 q403 = 15 := x751.k k738 (by decide)
  have k766 : mK m748 q439 = 15 := x751.k k739 (by decide)
  have k767 : mK m748 q477 = 15 := x751.k k740 (by decide)
  have k768 : mK m748 q517 = 15 := x751.k k741 (by decide)
  have k769 : mK m748 q559 = 17 := x751.k k742 (by decide)
  have k770 : mK m748 q603 = 17 := x751.k k743 (by decide)
  have k771 : mK m748 q649 = 15 := x751.k k744 (by decide)
  have k772 : mK m748 q697 = 15 := x751.k k745 (by decide)
  have k773 : mK m748 q747 = 15 := by rw [e750]; exact if_pos rfl
  refine at_putRF (index := 95) cok12 31 262 rfl (by decide +kernel) k753 (by decide +kernel) tw_1116 rfl rfl rfl rfl (Or.inr ⟨_, rfl⟩) (fun m774 e775 => ?_)
  replace h := h m774 e775
  have k776 : mK m774 q2 = 15 := by rw [e775]; exact k752
  have k777 : mK m774 t = 13 := by rw [e775]; exact k753
  have k778 : mK m774 q30 = 15 := by rw [e775]; exact k754
  have k779 : mK m774 q44 = 16 := by rw [e775]; exact k755
  have k780 : mK m774 q60 = 16 := by rw [e775]; exact k756
  have k781 : mK m774 q120 = 15 := by rw [e775]; exact k757
  have k782 : mK m774 q167 = 15 := by rw [e775]; exact k758
  have k783 : mK m774 q219 = 14 := by rw [e775]; exact k759
  have k784 : mK m774 q253 = 14 := by rw [e775]; exact k760
  have k785 : mK m774 q279 = 15 := by rw [e775]; exact k761
  have k786 : mK m774 q307 = 15 := by rw [e775]; exact k762
  have k787 : mK m774 q337 = 15 := by rw [e775]; exact k763
  have k788 : mK m774 q369 = 15 := by rw [e775]; exact k764
  have k789 : mK m774 q403 = 15 := by rw [e775]; exact k765
  have k790 : mK m774 q439 = 15 := by rw [e775]; exact k766
  have k791 : mK m774 q477 = 15 := by rw [e775]; exact k767
  have k792 : mK m774 q517 = 15 := by rw [e775]; exact k768
  have k793 : mK m774 q559 = 17 := by rw [e775]; exact k769
  have k794 : mK m774 q603 = 17 := by rw [e775]; exact k770
  have k795 : mK m774 q649 = 15 := by rw [e775]; exact k771
  have k796 : mK m774 q697 = 15 := by rw [e775]; exact k772
  have k797 : mK m774 q747 = 15 := by rw [e775]; exact k773
  refine at_aload_n (i := 0) 0 263 rfl (by decide +kernel) rfl ?_
  refine at_iconst (n := 2) (2 : Int32) 264 rfl (by decide +kernel) (by decide +kernel) ?_
  obtain ⟨z798, h⟩ := h
  refine at_newaI 266 rfl z798 (by decide +kernel) tw_265 (by decide +kernel) (by decide +kernel) (fun q799 m800 e801 e802 => ?_)
  replace h := h q799 m800 e801 e802
  have x803 : Ext m774 m800 := by rw [e802, e801]; exact Ext.nw z798 _ _ _
  have k804 : mK m800 q2 = 15 := x803.k k776 (by decide)
  have k805 : mK m800 t = 13 := x803.k k777 (by decide)
  have k806 : mK m800 q30 = 15 := x803.k k778 (by decide)
  have k807 : mK m800 q44 = 16 := x803.k k779 (by decide)
  have k808 : mK m800 q60 = 16 := x803.k k780 (by decide)
  have k809 : mK m800 q120 = 15 := x803.k k781 (by decide)
  have k810 : mK m800 q167 = 15 := x803.k k782 (by decide)
  have k811 : mK m800 q219 = 14 := x803.k k783 (by decide)
  have k812 : mK m800 q253 = 14 := x803.k k784 (by decide)
  have k813 : mK m800 q279 = 15 := x803.k k785 (by decide)
  have k814 : mK m800 q307 = 15 := x803.k k786 (by decide)
  have k815 : mK m800 q337 = 15 := x803.k k787 (by decide)
  have k816 : mK m800 q369 = 15 := x803.k k788 (by decide)
  have k817 : mK m800 q403 = 15 := x803.k k789 (by decide)
  have k818 : mK m800 q439 = 15 := x803.k k790 (by decide)
  have k819 : mK m800 q477 = 15 := x803.k k791 (by decide)
  have k820 : mK m800 q517 = 15 := x803.k k792 (by decide)
  have k821 : mK m800 q559 = 17 := x803.k k793 (by decide)
  have k822 : mK m800 q603 = 17 := x803.k k794 (by decide)
  have k823 : mK m800 q649 = 15 := x803.k k795 (by decide)
  have k824 : mK m800 q697 = 15 := x803.k k796 (by decide)
  have k825 : mK m800 q747 = 15 := x803.k k797 (by decide)
  have k826 : mK m800 q799 = 15 := by rw [e802]; exact if_pos rfl
  refine at_dup 267 rfl (by decide +kernel) (va_rf_cat _) ?_
  refine at_iconst (n := 0) (0 : Int32) 268 rfl (by decide +kernel) (by decide +kernel) ?_
  refine at_bipush (n := 100) (100 : Int32) 270 rfl (by decide +kernel) (by decide +kernel) ?_
  obtain ⟨v827, h⟩ := h
  refine at_iast 271 rfl (by decide +kernel) k826 v827 (fun m828 e829 => ?_)
  replace h := h m828 e829
  have k830 : mK m828 q2 = 15 := by rw [e829]; exact k804
  have k831 : mK m828 t = 13 := by rw [e829]; exact k805
  have k832 : mK m828 q30 = 15 := by rw [e829]; exact k806
  have k833 : mK m828 q44 = 16 := by rw [e829]; exact k807
  have k834 : mK m828 q60 = 16 := by rw [e829]; exact k808
  have k835 : mK m828 q120 = 15 := by rw [e829]; exact k809
  have k836 : mK m828 q167 = 15 := by rw [e829]; exact k810
  have k837 : mK m828 q219 = 14 := by rw [e829]; exact k811
  have k838 : mK m828 q253 = 14 := by rw [e829]; exact k812
  have k839 : mK m828 q279 = 15 := by rw [e829]; exact k813
  have k840 : mK m828 q307 = 15 := by rw [e829]; exact k814
  have k841 : mK m828 q337 = 15 := by rw [e829]; exact k815
  have k842 : mK m828 q369 = 15 := by rw [e829]; exact k816
  have k843 : mK m828 q403 = 15 := by rw [e829]; exact k817
  have k844 : mK m828 q439 = 15 := by rw [e829]; exact k818
  have k845 : mK m828 q477 = 15 := by rw [e829]; exact k819
  have k846 : mK m828 q517 = 15 := by rw [e829]; exact k820
  have k847 : mK m828 q559 = 17 := by rw [e829]; exact k821
  have k848 : mK m828 q603 = 17 := by rw [e829]; exact k822
  have k849 : mK m828 q649 = 15 := by rw [e829]; exact k823
  have k850 : mK m828 q697 = 15 := by rw [e829]; exact k824
  have k851 : mK m828 q747 = 15 := by rw [e829]; exact k825
  have k852 : mK m828 q799 = 15 := by rw [e829]; exact k826
  refine at_dup 272 rfl (by decide +kernel) (va_rf_cat _) ?_
  refine at_iconst (n := 1) (1 : Int32) 273 rfl (by decide +kernel) (by decide +kernel) ?_
  refine at_bipush (n := 100) (100 : Int32) 275 rfl (by decide +kernel) (by decide +kernel) ?_
  obtain ⟨v853, h⟩ := h
  refine at_iast 276 rfl (by decide +kernel) k852 v853 (fun m854 e855 => ?_)
  replace h := h m854 e855
  have k856 : mK m854 q2 = 15 := by rw [e855]; exact k830
  have k857 : mK m854 t = 13 := by rw [e855]; exact k831
  have k858 : mK m854 q30 = 15 := by rw [e855]; exact k832
  have k859 : mK m854 q44 = 16 := by rw [e855]; exact k833
  have k860 : mK m854 q60 = 16 := by rw [e855]; exact k834
  have k861 : mK m854 q120 = 15 := by rw [e855]; exact k835
  have k862 : mK m854 q167 = 15 := by rw [e855]; exact k836
  have k863 : mK m854 q219 = 14 := by rw [e855]; exact k837
  have k864 : mK m854 q253 = 14 := by rw [e855]; exact k838
  have k865 : mK m854 q279 = 15 := by rw [e855]; exact k839
  have k866 : mK m854 q307 = 15 := by rw [e855]; exact k840
  have k867 : mK m854 q337 = 15 := by rw [e855]; exact k841
  have k868 : mK m854 q369 = 15 := by rw [e855]; exact k842
  have k869 : mK m854 q403 = 15 := by rw [e855]; exact k843
  have k870 : mK m854 q439 = 15 := by rw [e855]; exact k844
  have k871 : mK m854 q477 = 15 := by rw [e855]; exact k845
  have k872 : mK m854 q517 = 15 := by rw [e855]; exact k846
  have k873 : mK m854 q559 = 17 := by rw [e855]; exact k847
  have k874 : mK m854 q603 = 17 := by rw [e855]; exact k848
  have k875 : mK m854 q649 = 15 := by rw [e855]; exact k849
  have k876 : mK m854 q697 = 15 := by rw [e855]; exact k850
  have k877 : mK m854 q747 = 15 := by rw [e855]; exact k851
  have k878 : mK m854 q799 = 15 := by rw [e855]; exact k852
  refine at_putRF (index := 98) cok12 32 279 rfl (by decide +kernel) k857 (by decide +kernel) tw_1117 rfl rfl rfl rfl (Or.inr ⟨_, rfl⟩) (fun m879 e880 => ?_)
  replace h := h m879 e880
  have k881 : mK m879 q2 = 15 := by rw [e880]; exact k856
  have k882 : mK m879 t = 13 := by rw [e880]; exact k857
  have k883 : mK m879 q30 = 15 := by rw [e880]; exact k858
  have k884 : mK m879 q44 = 16 := by rw [e880]; exact k859
  have k885 : mK m879 q60 = 16 := by rw [e880]; exact k860
  have k886 : mK m879 q120 = 15 := by rw [e880]; exact k861
  have k887 : mK m879 q167 = 15 := by rw [e880]; exact k862
  have k888 : mK m879 q219 = 14 := by rw [e880]; exact k863
  have k889 : mK m879 q253 = 14 := by rw [e880]; exact k864
  have k890 : mK m879 q279 = 15 := by rw [e880]; exact k865
  have k891 : mK m879 q307 = 15 := by rw [e880]; exact k866
  have k892 : mK m879 q337 = 15 := by rw [e880]; exact k867
  have k893 : mK m879 q369 = 15 := by rw [e880]; exact k868
  have k894 : mK m879 q403 = 15 := by rw [e880]; exact k869
  have k895 : mK m879 q439 = 15 := by rw [e880]; exact k870
  have k896 : mK m879 q477 = 15 := by rw [e880]; exact k871
  have k897 : mK m879 q517 = 15 := by rw [e880]; exact k872
  have k898 : mK m879 q559 = 17 := by rw [e880]; exact k873
  have k899 : mK m879 q603 = 17 := by rw [e880]; exact k874
  have k900 : mK m879 q649 = 15 := by rw [e880]; exact k875
  have k901 : mK m879 q697 = 15 := by rw [e880]; exact k876
  have k902 : mK m879 q747 = 15 := by rw [e880]; exact k877
  have k903 : mK m879 q799 = 15 := by rw [e880]; exact k878
  refine at_aload_n (i := 0) 0 280 rfl (by decide +kernel) rfl ?_
  refine at_iconst (n := 2) (2 : Int32) 281 rfl (by decide +kernel) (by decide +kernel) ?_
  obtain ⟨z904, h⟩ := h
  refine at_newaI 283 rfl z904 (by decide +kernel) tw_265 (by decide +kernel) (by decide +kernel) (fun q905 m906 e907 e908 => ?_)
  replace h := h q905 m906 e907 e908
  have x909 : Ext m879 m906 := by rw [e908, e907]; exact Ext.nw z904 _ _ _
  have k910 : mK m906 q2 = 15 := x909.k k881 (by decide)
  have k911 : mK m906 t = 13 := x909.k k882 (by decide)
  have k912 : mK m906 q30 = 15 := x909.k k883 (by decide)
  have k913 : mK m906 q44 = 16 := x909.k k884 (by decide)
  have k914 : mK m906 q60 = 16 := x909.k k885 (by decide)
  have k915 : mK m906 q120 = 15 := x909.k k886 (by decide)
  have k916 : mK m906 q167 = 15 := x909.k k887 (by decide)
  have k917 : mK m906 q219 = 14 := x909.k k888 (by decide)
  have k918 : mK m906 q253 = 14 := x909.k k889 (by decide)
  have k919 : mK m906 q279 = 15 := x909.k k890 (by decide)
  have k920 : mK m906 q307 = 15 := x909.k k891 (by decide)
  have k921 : mK m906 q337 = 15 := x909.k k892 (by decide)
  have k922 : mK m906 q369 = 15 := x909.k k893 (by decide)
  have k923 : mK m906 q403 = 15 := x909.k k894 (by decide)
  have k924 : mK m906 q439 = 15 := x909.k k895 (by decide)
  have k925 : mK m906 q477 = 15 := x909.k k896 (by decide)
  have k926 : mK m906 q517 = 15 := x909.k k897 (by decide)
  have k927 : mK m906 q559 = 17 := x909.k k898 (by decide)
  have k928 : mK m906 q603 = 17 := x909.k k899 (by decide)
  have k929 : mK m906 q649 = 15 := x909.k k900 (by decide)
  have k930 : mK m906 q697 = 15 := x909.k k901 (by decide)
  have k931 : mK m906 q747 = 15 := x909.k k902 (by decide)
  have k932 : mK m906 q799 = 15 := x909.k k903 (by decide)
  have k933 : mK m906 q905 = 15 := by rw [e908]; exact if_pos rfl
  refine at_putRF (index := 101) cok12 33 286 rfl (by decide +kernel) k911 (by decide +kernel) tw_1118 rfl rfl rfl rfl (Or.inr ⟨_, rfl⟩) (fun m934 e935 => ?_)
  replace h := h m934 e935
  have k936 : mK m934 q2 = 15 := by rw [e935]; exact k910
  have k937 : mK m934 t = 13 := by rw [e935]; exact k911
  have k938 : mK m934 q30 = 15 := by rw [e935]; exact k912
  have k939 : mK m934 q44 = 16 := by rw [e935]; exact k913
  have k940 : mK m934 q60 = 16 := by rw [e935]; exact k914
  have k941 : mK m934 q120 = 15 := by rw [e935]; exact k915
  have k942 : mK m934 q167 = 15 := by rw [e935]; exact k916
  have k943 : mK m934 q219 = 14 := by rw [e935]; exact k917
  have k944 : mK m934 q253 = 14 := by rw [e935]; exact k918
  have k945 : mK m934 q279 = 15 := by rw [e935]; exact k919
  have k946 : mK m934 q307 = 15 := by rw [e935]; exact k920
  have k947 : mK m934 q337 = 15 := by rw [e935]; exact k921
  have k948 : mK m934 q369 = 15 := by rw [e935]; exact k922
  have k949 : mK m934 q403 = 15 := by rw [e935]; exact k923
  have k950 : mK m934 q439 = 15 := by rw [e935]; exact k924
  have k951 : mK m934 q477 = 15 := by rw [e935]; exact k925
  have k952 : mK m934 q517 = 15 := by rw [e935]; exact k926
  have k953 : mK m934 q559 = 17 := by rw [e935]; exact k927
  have k954 : mK m934 q603 = 17 := by rw [e935]; exact k928
  have k955 : mK m934 q649 = 15 := by rw [e935]; exact k929
  have k956 : mK m934 q697 = 15 := by rw [e935]; exact k930
  have k957 : mK m934 q747 = 15 := by rw [e935]; exact k931
  have k958 : mK m934 q799 = 15 := by rw [e935]; exact k932
  have k959 : mK m934 q905 = 15 := by rw [e935]; exact k933
  refine at_aload_n (i := 0) 0 287 rfl (by decide +kernel) rfl ?_
  refine at_iconst (n := 2) (2 : Int32) 288 rfl (by decide +kernel) (by decide +kernel) ?_
  obtain ⟨z960, h⟩ := h
  refine at_newaI 290 rfl z960 (by decide +kernel) tw_265 (by decide +kernel) (by decide +kernel) (fun q961 m962 e963 e964 => ?_)
  replace h := h q961 m962 e963 e964
  have x965 : Ext m934 m962 := by rw [e964, e963]; exact Ext.nw z960 _ _ _
  have k966 : mK m962 q2 = 15 := x965.k k936 (by decide)
  have k967 : mK m962 t = 13 := x965.k k937 (by decide)
  have k968 : mK m962 q30 = 15 := x965.k k938 (by decide)
  have k969 : mK m962 q44 = 16 := x965.k k939 (by decide)
  have k970 : mK m962 q60 = 16 := x965.k k940 (by decide)
  have k971 : mK m962 q120 = 15 := x965.k k941 (by decide)
  have k972 : mK m962 q167 = 15 := x965.k k942 (by decide)
  have k973 : mK m962 q219 = 14 := x965.k k943 (by decide)
  have k974 : mK m962 q253 = 14 := x965.k k944 (by decide)
  have k975 : mK m962 q279 = 15 := x965.k k945 (by decide)
  have k976 : mK m962 q307 = 15 := x965.k k946 (by decide)
  have k977 : mK m962 q337 = 15 := x965.k k947 (by decide)
  have k978 : mK m962 q369 = 15 := x965.k k948 (by decide)
  have k979 : mK m962 q403 = 15 := x965.k k949 (by decide)
  have k980 : mK m962 q439 = 15 := x965.k k950 (by decide)
  have k981 : mK m962 q477 = 15 := x965.k k951 (by decide)
  have k982 : mK m962 q517 = 15 := x965.k k952 (by decide)
  have k983 : mK m962 q559 = 17 := x965.k k953 (by decide)
  have k984 : mK m962 q603 = 17 := x965.k k954 (by decide)
  have k985 : mK m962 q649 = 15 := x965.k k955 (by decide)
  have k986 : mK m962 q697 = 15 := x965.k k956 (by decide)
  have k987 : mK m962 q747 = 15 := x965.k k957 (by decide)
  have k988 : mK m962 q799 = 15 := x965.k k958 (by decide)
  have k989 : mK m962 q905 = 15 := x965.k k959 (by decide)
  have k990 : mK m962 q961 = 15 := by rw [e964]; exact if_pos rfl
  refine at_putRF (index := 104) cok12 34 293 rfl (by decide +kernel) k967 (by decide +kernel) tw_1119 rfl rfl rfl rfl (Or.inr ⟨_, rfl⟩) (fun m991 e992 => ?_)
  replace h := h m991 e992
  have k993 : mK m991 q2 = 15 := by rw [e992]; exact k966
  have k994 : mK m991 t = 13 := by rw [e992]; exact k967
  have k995 : mK m991 q30 = 15 := by rw [e992]; exact k968
  have k996 : mK m991 q44 = 16 := by rw [e992]; exact k969
  have k997 : mK m991 q60 = 16 := by rw [e992]; exact k970
  have k998 : mK m991 q120 = 15 := by rw [e992]; exact k971
  have k999 : mK m991 q167 = 15 := by rw [e992]; exact k972
  have k1000 : mK m991 q219 = 14 := by rw [e992]; exact k973
  have k1001 : mK m991 q253 = 14 := by rw [e992]; exact k974
  have k1002 : mK m991 q279 = 15 := by rw [e992]; exact k975
  have k1003 : mK m991 q307 = 15 := by rw [e992]; exact k976
  have k1004 : mK m991 q337 = 15 := by rw [e992]; exact k977
  have k1005 : mK m991 q369 = 15 := by rw [e992]; exact k978
  have k1006 : mK m991 q403 = 15 := by rw [e992]; exact k979
  have k1007 : mK m991 q439 = 15 := by rw [e992]; exact k980
  have k1008 : mK m991 q477 = 15 := by rw [e992]; exact k981
  have k1009 : mK m991 q517 = 15 := by rw [e992]; exact k982
  have k1010 : mK m991 q559 = 17 := by rw [e992]; exact k983
  have k1011 : mK m991 q603 = 17 := by rw [e992]; exact k984
  have k1012 : mK m991 q649 = 15 := by rw [e992]; exact k985
  have k1013 : mK m991 q697 = 15 := by rw [e992]; exact k986
  have k1014 : mK m991 q747 = 15 := by rw [e992]; exact k987
  have k1015 : mK m991 q799 = 15 := by rw [e992]; exact k988
  have k1016 : mK m991 q905 = 15 := by rw [e992]; exact k989
  have k1017 : mK m991 q961 = 15 := by rw [e992]; exact k990
  refine at_aload_n (i := 0) 0 294 rfl (by decide +kernel) rfl ?_
  refine at_bipush (n := 24) (24 : Int32) 296 rfl (by decide +kernel) (by decide +kernel) ?_
  obtain ⟨z1018, h⟩ := h
  refine at_newaI 298 rfl z1018 (by decide +kernel) tw_265 (by decide +kernel) (by decide +kernel) (fun q1019 m1020 e1021 e1022 => ?_)
  replace h := h q1019 m1020 e1021 e1022
  have x1023 : Ext m991 m1020 := by rw [e1022, e1021]; exact Ext.nw z1018 _ _ _
  have k1024 : mK m1020 q2 = 15 := x1023.k k993 (by decide)
  have k1025 : mK m1020 t = 13 := x1023.k k994 (by decide)
  have k1026 : mK m1020 q30 = 15 := x1023.k k995 (by decide)
  have k1027 : mK m1020 q44 = 16 := x1023.k k996 (by decide)
  have k1028 : mK m1020 q60 = 16 := x1023.k k997 (by decide)
  have k1029 : mK m1020 q120 = 15 := x1023.k k998 (by decide)
  have k1030 : mK m1020 q167 = 15 := x1023.k k999 (by decide)
  have k1031 : mK m1020 q219 = 14 := x1023.k k1000 (by decide)
  have k1032 : mK m1020 q253 = 14 := x1023.k k1001 (by decide)
  have k1033 : mK m1020 q279 = 15 := x1023.k k1002 (by decide)
  have k1034 : mK m1020 q307 = 15 := x1023.k k1003 (by decide)
  have k1035 : mK m1020 q337 = 15 := x1023.k k1004 (by decide)
  have k1036 : mK m1020 q369 = 15 := x1023.k k1005 (by decide)
  have k1037 : mK m1020 q403 = 15 := x1023.k k1006 (by decide)
  have k1038 : mK m1020 q439 = 15 := x1023.k k1007 (by decide)
  have k1039 : mK m1020 q477 = 15 := x1023.k k1008 (by decide)
  have k1040 : mK m1020 q517 = 15 := x1023.k k1009 (by decide)
  have k1041 : mK m1020 q559 = 17 := x1023.k k1010 (by decide)
  have k1042 : mK m1020 q603 = 17 := x1023.k k1011 (by decide)
  have k1043 : mK m1020 q649 = 15 := x1023.k k1012 (by decide)
  have k1044 : mK m1020 q697 = 15 := x1023.k k1013 (by decide)
  have k1045 : mK m1020 q747 = 15 := x1023.k k1014 (by decide)
  have k1046 : mK m1020 q799 = 15 := x1023.k k1015 (by decide)
  have k1047 : mK m1020 q905 = 15 := x1023.k k1016 (by decide)
  have k1048 : mK m1020 q961 = 15 := x1023.k k1017 (by decide)
  have k1049 : mK m1020 q1019 = 15 := by rw [e1022]; exact if_pos rfl
  refine at_putRF (index := 107) cok12 35 301 rfl (by decide +kernel) k1025 (by decide +kernel) tw_1120 rfl rfl rfl rfl (Or.inr ⟨_, rfl⟩) (fun m1050 e1051 => ?_)
  replace h := h m1050 e1051
  have k1052 : mK m1050 q2 = 15 := by rw [e1051]; exact k1024
  have k1053 : mK m1050 t = 13 := by rw [e1051]; exact k1025
  have k1054 : mK m1050 q30 = 15 := by rw [e1051]; exact k1026
  have k1055 : mK m1050 q44 = 16 := by rw [e1051]; exact k1027
  have k1056 : mK m1050 q60 = 16 := by rw [e1051]; exact k1028
  have k1057 : mK m1050 q120 = 15 := by rw [e1051]; exact k1029
  have k1058 : mK m1050 q167 = 15 := by rw [e1051]; exact k1030
  have k1059 : mK m1050 q219 = 14 := by rw [e1051]; exact k1031
  have k1060 : mK m1050 q253 = 14 := by rw [e1051]; exact k1032
  have k1061 : mK m1050 q279 = 15 := by rw [e1051]; exact k1033
  have k1062 : mK m1050 q307 = 15 := by rw [e1051]; exact k1034
  have k1063 : mK m1050 q337 = 15 := by rw [e1051]; exact k1035
  have k1064 : mK m1050 q369 = 15 := by rw [e1051]; exact k1036
  have k1065 : mK m1050 q403 = 15 := by rw [e1051]; exact k1037
  have k1066 : mK m1050 q439 = 15 := by rw [e1051]; exact k1038
  have k1067 : mK m1050 q477 = 15 := by rw [e1051]; exact k1039
  have k1068 : mK m1050 q517 = 15 := by rw [e1051]; exact k1040
  have k1069 : mK m1050 q559 = 17 := by rw [e1051]; exact k1041
  have k1070 : mK m1050 q603 = 17 := by rw [e1051]; exact k1042
  have k1071 : mK m1050 q649 = 15 := by rw [e1051]; exact k1043
  have k1072 : mK m1050 q697 = 15 := by rw [e1051]; exact k1044
  have k1073 : mK m1050 q747 = 15 := by rw [e1051]; exact k1045
  have k1074 : mK m1050 q799 = 15 := by rw [e1051]; exact k1046
  have k1075 : mK m1050 q905 = 15 := by rw [e1051]; exact k1047
  have k1076 : mK m1050 q961 = 15 := by rw [e1051]; exact k1048
  have k1077 : mK m1050 q1019 = 15 := by rw [e1051]; exact k1049
  refine at_aload_n (i := 0) 0 302 rfl (by decide +kernel) rfl ?_
  refine at_bipush (n := 72) (72 : Int32) 304 rfl (by decide +kernel) (by decide +kernel) ?_
  obtain ⟨z1078, h⟩ := h
  refine at_newaI 306 rfl z1078 (by decide +kernel) tw_265 (by decide +kernel) (by decide +kernel) (fun q1079 m1080 e1081 e1082 => ?_)
  replace h := h q1079 m1080 e1081 e1082
  have x1083 : Ext m1050 m1080 := by rw [e1082, e1081]; exact Ext.nw z1078 _ _ _
  have k1084 : mK m1080 q2 = 15 := x1083.k k1052 (by decide)
  have k1085 : mK m1080 t = 13 := x1083.k k1053 (by decide)
  have k1086 : mK m1080 q30 = 15 := x1083.k k1054 (by decide)
  have k1087 : mK m1080 q44 = 16 := x1083.k k1055 (by decide)
  have k1088 : mK m1080 q60 = 16 := x1083.k k1056 (by decide)
  have k1089 : mK m1080 q120 = 15 := x1083.k k1057 (by decide)
  have k1090 : mK m1080 q167 = 15 := x1083.k k1058 (by decide)
  have k1091 : mK m1080 q219 = 14 := x1083.k k1059 (by decide)
  have k1092 : mK m1080 q253 = 14 := x1083.k k1060 (by decide)
  have k1093 : mK m1080 q279 = 15 := x1083.k k1061 (by decide)
  have k1094 : mK m1080 q307 = 15 := x1083.k k1062 (by decide)
  have k1095 : mK m1080 q337 = 15 := x1083.k k1063 (by decide)
  have k1096 : mK m1080 q369 = 15 := x1083.k k1064 (by decide)
  have k1097 : mK m1080 q403 = 15 := x1083.k k1065 (by decide)
  have k1098 : mK m1080 q439 = 15 := x1083.k k1066 (by decide)
  have k1099 : mK m1080 q477 = 15 := x1083.k k1067 (by decide)
  have k1100 : mK m1080 q517 = 15 := x1083.k k1068 (by decide)
  have k1101 : mK m1080 q559 = 17 := x1083.k k1069 (by decide)
  have k1102 : mK m1080 q603 = 17 := x1083.k k1070 (by decide)
  have k1103 : mK m1080 q649 = 15 := x1083.k k1071 (by decide)
  have k1104 : mK m1080 q697 = 15 := x1083.k k1072 (by decide)
  have k1105 : mK m1080 q747 = 15 := x1083.k k1073 (by decide)
  have k1106 : mK m1080 q799 = 15 := x1083.k k1074 (by decide)
  have k1107 : mK m1080 q905 = 15 := x1083.k k1075 (by decide)
  have k1108 : mK m1080 q961 = 15 := x1083.k k1076 (by decide)
  have k1109 : mK m1080 q1019 = 15 := x1083.k k1077 (by decide)
  have k1110 : mK m1080 q1079 = 15 := by rw [e1082]; exact if_pos rfl
  refine at_putRF (index := 110) cok12 36 309 rfl (by decide +kernel) k1085 (by decide +kernel) tw_1121 rfl rfl rfl rfl (Or.inr ⟨_, rfl⟩) (fun m1111 e1112 => ?_)
  replace h := h m1111 e1112
  have k1113 : mK m1111 q2 = 15 := by rw [e1112]; exact k1084
  have k1114 : mK m1111 t = 13 := by rw [e1112]; exact k1085
  have k1115 : mK m1111 q30 = 15 := by rw [e1112]; exact k1086
  have k1116 : mK m1111 q44 = 16 := by rw [e1112]; exact k1087
  have k1117 : mK m1111 q60 = 16 := by rw [e1112]; exact k1088
  have k1118 : mK m1111 q120 = 15 := by rw [e1112]; exact k1089
  have k1119 : mK m1111 q167 = 15 := by rw [e1112]; exact k1090
  have k1120 : mK m1111 q219 = 14 := by rw [e1112]; exact k1091
  have k1121 : mK m1111 q253 = 14 := by rw [e1112]; exact k1092
  have k1122 : mK m1111 q279 = 15 := by rw [e1112]; exact k1093
  have k1123 : mK m1111 q307 = 15 := by rw [e1112]; exact k1094
  have k1124 : mK m1111 q337 = 15 := by rw [e1112]; exact k1095
  have k1125 : mK m1111 q369 = 15 := by rw [e1112]; exact k1096
  have k1126 : mK m1111 q403 = 15 := by rw [e1112]; exact k1097
  have k1127 : mK m1111 q439 = 15 := by rw [e1112]; exact k1098
  have k1128 : mK m1111 q477 = 15 := by rw [e1112]; exact k1099
  have k1129 : mK m1111 q517 = 15 := by rw [e1112]; exact k1100
  have k1130 : mK m1111 q559 = 17 := by rw [e1112]; exact k1101
  have k1131 : mK m1111 q603 = 17 := by rw [e1112]; exact k1102
  have k1132 : mK m1111 q649 = 15 := by rw [e1112]; exact k1103
  have k1133 : mK m1111 q697 = 15 := by rw [e1112]; exact k1104
  have k1134 : mK m1111 q747 = 15 := by rw [e1112]; exact k1105
  have k1135 : mK m1111 q799 = 15 := by rw [e1112]; exact k1106
  have k1136 : mK m1111 q905 = 15 := by rw [e1112]; exact k1107
  have k1137 : mK m1111 q961 = 15 := by rw [e1112]; exact k1108
  have k1138 : mK m1111 q1019 = 15 := by rw [e1112]; exact k1109
  have k1139 : mK m1111 q1079 = 15 := by rw [e1112]; exact k1110
  refine at_aload_n (i := 0) 0 310 rfl (by decide +kernel) rfl ?_
  refine at_bipush (n := 24) (24 : Int32) 312 rfl (by decide +kernel) (by decide +kernel) ?_
  obtain ⟨z1140, h⟩ := h
  refine at_newaI 314 rfl z1140 (by decide +kernel) tw_265 (by decide +kernel) (by decide +kernel) (fun q1141 m1142 e1143 e1144 => ?_)
  replace h := h q1141 m1142 e1143 e1144
  have x1145 : Ext m1111 m1142 := by rw [e1144, e1143]; exact Ext.nw z1140 _ _ _
  have k1146 : mK m1142 q2 = 15 := x1145.k k1113 (by decide)
  have k1147 : mK m1142 t = 13 := x1145.k k1114 (by decide)
  have k1148 : mK m1142 q30 = 15 := x1145.k k1115 (by decide)
  have k1149 : mK m1142 q44 = 16 := x1145.k k1116 (by decide)
  have k1150 : mK m1142 q60 = 16 := x1145.k k1117 (by decide)
  have k1151 : mK m1142 q120 = 15 := x1145.k k1118 (by decide)
  have k1152 : mK m1142 q167 = 15 := x1145.k k1119 (by decide)
  have k1153 : mK m1142 q219 = 14 := x1145.k k1120 (by decide)
  have k1154 : mK m1142 q253 = 14 := x1145.k k1121 (by decide)
  have k1155 : mK m1142 q279 = 15 := x1145.k k1122 (by decide)
  have k1156 : mK m1142 q307 = 15 := x1145.k k1123 (by decide)
  have k1157 : mK m1142 q337 = 15 := x1145.k k1124 (by decide)
  have k1158 : mK m1142 q369 = 15 := x1145.k k1125 (by decide)
  have k1159 : mK m1142 q403 = 15 := x1145.k k1126 (by decide)
  have k1160 : mK m1142 q439 = 15 := x1145.k k1127 (by decide)
  have k1161 : mK m1142 q477 = 15 := x1145.k k1128 (by decide)
  have k1162 : mK m1142 q517 = 15 := x1145.k k1129 (by decide)
  have k1163 : mK m1142 q559 = 17 := x1145.k k1130 (by decide)
  have k1164 : mK m1142 q603 = 17 := x1145.k k1131 (by decide)
  have k1165 : mK m1142 q649 = 15 := x1145.k k1132 (by decide)
  have k1166 : mK m1142 q697 = 15 := x1145.k k1133 (by decide)
  have k1167 : mK m1142 q747 = 15 := x1145.k k1134 (by decide)
  have k1168 : mK m1142 q799 = 15 := x1145.k k1135 (by decide)
  have k1169 : mK m1142 q905 = 15 := x1145.k k1136 (by decide)
  have k1170 : mK m1142 q961 = 15 := x1145.k k1137 (by decide)
  have k1171 : mK m1142 q1019 = 15 := x1145.k k1138 (by decide)
  have k1172 : mK m1142 q1079 = 15 := x1145.k k1139 (by decide)
  have k1173 : mK m1142 q1141 = 15 := by rw [e1144]; exact if_pos rfl
  refine at_putRF (index := 113) cok12 37 317 rfl (by decide +kernel) k1147 (by decide +kernel) tw_1122 rfl rfl rfl rfl (Or.inr ⟨_, rfl⟩) (fun m1174 e1175 => ?_)
  replace h := h m1174 e1175
  have k1176 : mK m1174 q2 = 15 := by rw [e1175]; exact k1146
  have k1177 : mK m1174 t = 13 := by rw [e1175]; exact k1147
  have k1178 : mK m1174 q30 = 15 := by rw [e1175]; exact k1148
  have k1179 : mK m1174 q44 = 16 := by rw [e1175]; exact k1149
  have k1180 : mK m1174 q60 = 16 := by rw [e1175]; exact k1150
  have k1181 : mK m1174 q120 = 15 := by rw [e1175]; exact k1151
  have k1182 : mK m1174 q167 = 15 := by rw [e1175]; exact k1152
  have k1183 : mK m1174 q219 = 14 := by rw [e1175]; exact k1153
  have k1184 : mK m1174 q253 = 14 := by rw [e1175]; exact k1154
  have k1185 : mK m1174 q279 = 15 := by rw [e1175]; exact k1155
  have k1186 : mK m1174 q307 = 15 := by rw [e1175]; exact k1156
  have k1187 : mK m1174 q337 = 15 := by rw [e1175]; exact k1157
  have k1188 : mK m1174 q369 = 15 := by rw [e1175]; exact k1158
  have k1189 : mK m1174 q403 = 15 := by rw [e1175]; exact k1159
  have k1190 : mK m1174 q439 = 15 := by rw [e1175]; exact k1160
  have k1191 : mK m1174 q477 = 15 := by rw [e1175]; exact k1161
  have k1192 : mK m1174 q517 = 15 := by rw [e1175]; exact k1162
  have k1193 : mK m1174 q559 = 17 := by rw [e1175]; exact k1163
  have k1194 : mK m1174 q603 = 17 := by rw [e1175]; exact k1164
  have k1195 : mK m1174 q649 = 15 := by rw [e1175]; exact k1165
  have k1196 : mK m1174 q697 = 15 := by rw [e1175]; exact k1166
  have k1197 : mK m1174 q747 = 15 := by rw [e1175]; exact k1167
  have k1198 : mK m1174 q799 = 15 := by rw [e1175]; exact k1168
  have k1199 : mK m1174 q905 = 15 := by rw [e1175]; exact k1169
  have k1200 : mK m1174 q961 = 15 := by rw [e1175]; exact k1170
  have k1201 : mK m1174 q1019 = 15 := by rw [e1175]; exact k1171
  have k1202 : mK m1174 q1079 = 15 := by rw [e1175]; exact k1172
  have k1203 : mK m1174 q1141 = 15 := by rw [e1175]; exact k1173
  refine at_aload_n (i := 0) 0 318 rfl (by decide +kernel) rfl ?_
  refine at_bipush (n := 24) (24 : Int32) 320 rfl (by decide +kernel) (by decide +kernel) ?_
  obtain ⟨z1204, h⟩ := h
  refine at_newaJ 322 rfl z1204 (by decide +kernel) tw_199 (by decide +kernel) (by decide +kernel) (fun q1205 m1206 e1207 e1208 => ?_)
  replace h := h q1205 m1206 e1207 e1208
  have x1209 : Ext m1174 m1206 := by rw [e1208, e1207]; exact Ext.nw z1204 _ _ _
  have k1210 : mK m1206 q2 = 15 := x1209.k k1176 (by decide)
  have k1211 : mK m1206 t = 13 := x1209.k k1177 (by decide)
  have k1212 : mK m1206 q30 = 15 := x1209.k k1178 (by decide)
  have k1213 : mK m1206 q44 = 16 := x1209.k k1179 (by decide)
  have k1214 : mK m1206 q60 = 16 := x1209.k k1180 (by decide)
  have k1215 : mK m1206 q120 = 15 := x1209.k k1181 (by decide)
  have k1216 : mK m1206 q167 = 15 := x1209.k k1182 (by decide)
  have k1217 : mK m1206 q219 = 14 := x1209.k k1183 (by decide)
  have k1218 : mK m1206 q253 = 14 := x1209.k k1184 (by decide)
  have k1219 : mK m1206 q279 = 15 := x1209.k k1185 (by decide)
  have k1220 : mK m1206 q307 = 15 := x1209.k k1186 (by decide)
  have k1221 : mK m1206 q337 = 15 := x1209.k k1187 (by decide)
  have k1222 : mK m1206 q369 = 15 := x1209.k k1188 (by decide)
  have k1223 : mK m1206 q403 = 15 := x1209.k k1189 (by decide)
  have k1224 : mK m1206 q439 = 15 := x1209.k k1190 (by decide)
  have k1225 : mK m1206 q477 = 15 := x1209.k k1191 (by decide)
  have k1226 : mK m1206 q517 = 15 := x1209.k k1192 (by decide)
  have k1227 : mK m1206 q559 = 17 := x1209.k k1193 (by decide)
  have k1228 : mK m1206 q603 = 17 := x1209.k k1194 (by decide)
  have k1229 : mK m1206 q649 = 15 := x1209.k k1195 (by decide)
  have k1230 : mK m1206 q697 = 15 := x1209.k k1196 (by decide)
  have k1231 : mK m1206 q747 = 15 := x1209.k k1197 (by decide)
  have k1232 : mK m1206 q799 = 15 := x1209.k k1198 (by decide)
  have k1233 : mK m1206 q905 = 15 := x1209.k k1199 (by decide)
  have k1234 : mK m1206 q961 = 15 := x1209.k k1200 (by decide)
  have k1235 : mK m1206 q1019 = 15 := x1209.k k1201 (by decide)
  have k1236 : mK m1206 q1079 = 15 := x1209.k k1202 (by decide)
  have k1237 : mK m1206 q1141 = 15 := x1209.k k1203 (by decide)
  have k1238 : mK m1206 q1205 = 16 := by rw [e1208]; exact if_pos rfl
  refine at_putRF (index := 116) cok12 38 325 rfl (by decide +kernel) k1211 (by decide +kernel) tw_1123 rfl rfl rfl rfl (Or.inr ⟨_, rfl⟩) (fun m1239 e1240 => ?_)
  replace h := h m1239 e1240
  have k1241 : mK m1239 q2 = 15 := by rw [e1240]; exact k1210
  have k1242 : mK m1239 t = 13 := by rw [e1240]; exact k1211
  have k1243 : mK m1239 q30 = 15 := by rw [e1240]; exact k1212
  have k1244 : mK m1239 q44 = 16 := by rw [e1240]; exact k1213
  have k1245 : mK m1239 q60 = 16 := by rw [e1240]; exact k1214
  have k1246 : mK m1239 q120 = 15 := by rw [e1240]; exact k1215
  have k1247 : mK m1239 q167 = 15 := by rw [e1240]; exact k1216
  have k1248 : mK m1239 q219 = 14 := by rw [e1240]; exact k1217
  have k1249 : mK m1239 q253 = 14 := by rw [e1240]; exact k1218
  have k1250 : mK m1239 q279 = 15 := by rw [e1240]; exact k1219
  have k1251 : mK m1239 q307 = 15 := by rw [e1240]; exact k1220
  have k1252 : mK m1239 q337 = 15 := by rw [e1240]; exact k1221
  have k1253 : mK m1239 q369 = 15 := by rw [e1240]; exact k1222
  have k1254 : mK m1239 q403 = 15 := by rw [e1240]; exact k1223
  have k1255 : mK m1239 q439 = 15 := by rw [e1240]; exact k1224
  have k1256 : mK m1239 q477 = 15 := by rw [e1240]; exact k1225
  have k1257 : mK m1239 q517 = 15 := by rw [e1240]; exact k1226
  have k1258 : mK m1239 q559 = 17 := by rw [e1240]; exact k1227
  have k1259 : mK m1239 q603 = 17 := by rw [e1240]; exact k1228
  have k1260 : mK m1239 q649 = 15 := by rw [e1240]; exact k1229
  have k1261 : mK m1239 q697 = 15 := by rw [e1240]; exact k1230
  have k1262 : mK m1239 q747 = 15 := by rw [e1240]; exact k1231
  have k1263 : mK m1239 q799 = 15 := by rw [e1240]; exact k1232
  have k1264 : mK m1239 q905 = 15 := by rw [e1240]; exact k1233
  have k1265 : mK m1239 q961 = 15 := by rw [e1240]; exact k1234
  have k1266 : mK m1239 q1019 = 15 := by rw [e1240]; exact k1235
  have k1267 : mK m1239 q1079 = 15 := by rw [e1240]; exact k1236
  have k1268 : mK m1239 q1141 = 15 := by rw [e1240]; exact k1237
  have k1269 : mK m1239 q1205 = 16 := by rw [e1240]; exact k1238
  refine at_aload_n (i := 0) 0 326 rfl (by decide +kernel) rfl ?_
  refine at_bipush (n := 30) (30 : Int32) 328 rfl (by decide +kernel) (by decide +kernel) ?_
  obtain ⟨z1270, h⟩ := h
  refine at_newaJ 330 rfl z1270 (by decide +kernel) tw_199 (by decide +kernel) (by decide +kernel) (fun q1271 m1272 e1273 e1274 => ?_)
  replace h := h q1271 m1272 e1273 e1274
  have x1275 : Ext m1239 m1272 := by rw [e1274, e1273]; exact Ext.nw z1270 _ _ _
  have k1276 : mK m1272 q2 = 15 := x1275.k k1241 (by decide)
  have k1277 : mK m1272 t = 13 := x1275.k k1242 (by decide)
  have k1278 : mK m1272 q30 = 15 := x1275.k k1243 (by decide)
  have k1279 : mK m1272 q44 = 16 := x1275.k k1244 (by decide)
  have k1280 : mK m1272 q60 = 16 := x1275.k k1245 (by decide)
  have k1281 : mK m1272 q120 = 15 := x1275.k k1246 (by decide)
  have k1282 : mK m1272 q167 = 15 := x1275.k k1247 (by decide)
  have k1283 : mK m1272 q219 = 14 := x1275.k k1248 (by decide)
  have k1284 : mK m1272 q253 = 14 := x1275.k k1249 (by decide)
  have k1285 : mK m1272 q279 = 15 := x1275.k k1250 (by decide)
  have k1286 : mK m1272 q307 = 15 := x1275.k k1251 (by decide)
  have k1287 : mK m1272 q337 = 15 := x1275.k k1252 (by decide)
  have k1288 : mK m1272 q369 = 15 := x1275.k k1253 (by decide)
  have k1289 : mK m1272 q403 = 15 := x1275.k k1254 (by decide)
  have k1290 : mK m1272 q439 = 15 := x1275.k k1255 (by decide)
  have k1291 : mK m1272 q477 = 15 := x1275.k k1256 (by decide)
  have k1292 : mK m1272 q517 = 15 := x1275.k k1257 (by decide)
  have k1293 : mK m1272 q559 = 17 := x1275.k k1258 (by decide)
  have k1294 : mK m1272 q603 = 17 := x1275.k k1259 (by decide)
  have k1295 : mK m1272 q649 = 15 := x1275.k k1260 (by decide)
  have k1296 : mK m1272 q697 = 15 := x1275.k k1261 (by decide)
  have k1297 : mK m1272 q747 = 15 := x1275.k k1262 (by decide)
  have k1298 : mK m1272 q799 = 15 := x1275.k k1263 (by decide)
  have k1299 : mK m1272 q905 = 15 := x1275.k k1264 (by decide)
  have k1300 : mK m1272 q961 = 15 := x1275.k k1265 (by decide)
  have k1301 : mK m1272 q1019 = 15 := x1275.k k1266 (by decide)
  have k1302 : mK m1272 q1079 = 15 := x1275.k k1267 (by decide)
  have k1303 : mK m1272 q1141 = 15 := x1275.k k1268 (by decide)
  have k1304 : mK m1272 q1205 = 16 := x1275.k k1269 (by decide)
  have k1305 : mK m1272 q1271 = 16 := by rw [e1274]; exact if_pos rfl
  refine at_putRF (index := 119) cok12 39 333 rfl (by decide +kernel) k1277 (by decide +kernel) tw_1124 rfl rfl rfl rfl (Or.inr ⟨_, rfl⟩) (fun m1306 e1307 => ?_)
  replace h := h m1306 e1307
  have k1308 : mK m1306 q2 = 15 := by rw [e1307]; exact k1276
  have k1309 : mK m1306 t = 13 := by rw [e1307]; exact k1277
  have k1310 : mK m1306 q30 = 15 := by rw [e1307]; exact k1278
  have k1311 : mK m1306 q44 = 16 := by rw [e1307]; exact k1279
  have k1312 : mK m1306 q60 = 16 := by rw [e1307]; exact k1280
  have k1313 : mK m1306 q120 = 15 := by rw [e1307]; exact k1281
  have k1314 : mK m1306 q167 = 15 := by rw [e1307]; exact k1282
  have k1315 : mK m1306 q219 = 14 := by rw [e1307]; exact k1283
  have k1316 : mK m1306 q253 = 14 := by rw [e1307]; exact k1284
  have k1317 : mK m1306 q279 = 15 := by rw [e1307]; exact k1285
  have k1318 : mK m1306 q307 = 15 := by rw [e1307]; exact k1286
  have k1319 : mK m1306 q337 = 15 := by rw [e1307]; exact k1287
  have k1320 : mK m1306 q369 = 15 := by rw [e1307]; exact k1288
  have k1321 : mK m1306 q403 = 15 := by rw [e1307]; exact k1289
  have k1322 : mK m1306 q439 = 15 := by rw [e1307]; exact k1290
  have k1323 : mK m1306 q477 = 15 := by rw [e1307]; exact k1291
  have k1324 : mK m1306 q517 = 15 := by rw [e1307]; exact k1292
  have k1325 : mK m1306 q559 = 17 := by rw [e1307]; exact k1293
  have k1326 : mK m1306 q603 = 17 := by rw [e1307]; exact k1294
  have k1327 : mK m1306 q649 = 15 := by rw [e1307]; exact k1295
  have k1328 : mK m1306 q697 = 15 := by rw [e1307]; exact k1296
  have k1329 : mK m1306 q747 = 15 := by rw [e1307]; exact k1297
  have k1330 : mK m1306 q799 = 15 := by rw [e1307]; exact k1298
  have k1331 : mK m1306 q905 = 15 := by rw [e1307]; exact k1299
  have k1332 : mK m1306 q961 = 15 := by rw [e1307]; exact k1300
  have k1333 : mK m1306 q1019 = 15 := by rw [e1307]; exact k1301
  have k1334 : mK m1306 q1079 = 15 := by rw [e1307]; exact k1302
  have k1335 : mK m1306 q1141 = 15 := by rw [e1307]; exact k1303
  have k1336 : mK m1306 q1205 = 16 := by rw [e1307]; exact k1304
  have k1337 : mK m1306 q1271 = 16 := by rw [e1307]; exact k1305
  refine at_aload_n (i := 0) 0 334 rfl (by decide +kernel) rfl ?_
  refine at_sipush (n := 800) (800 : Int32) 337 rfl (by decide +kernel) (by decide +kernel) ?_
  obtain ⟨z1338, h⟩ := h
  refine at_newaI 339 rfl z1338 (by decide +kernel) tw_265 (by decide +kernel) (by decide +kernel) (fun q1339 m1340 e1341 e1342 => ?_)
  replace h := h q1339 m1340 e1341 e1342
  have x1343 : Ext m1306 m1340 := by rw [e1342, e1341]; exact Ext.nw z1338 _ _ _
  have k1344 : mK m1340 q2 = 15 := x1343.k k1308 (by decide)
  have k1345 : mK m1340 t = 13 := x1343.k k1309 (by decide)
  have k1346 : mK m1340 q30 = 15 := x1343.k k1310 (by decide)
  have k1347 : mK m1340 q44 = 16 := x1343.k k1311 (by decide)
  have k1348 : mK m1340 q60 = 16 := x1343.k k1312 (by decide)
  have k1349 : mK m1340 q120 = 15 := x1343.k k1313 (by decide)
  have k1350 : mK m1340 q167 = 15 := x1343.k k1314 (by decide)
  have k1351 : mK m1340 q219 = 14 := x1343.k k1315 (by decide)
  have k1352 : mK m1340 q253 = 14 := x1343.k k1316 (by decide)
  have k1353 : mK m1340 q279 = 15 := x1343.k k1317 (by decide)
  have k1354 : mK m1340 q307 = 15 := x1343.k k1318 (by decide)
  have k1355 : mK m1340 q337 = 15 := x1343.k k1319 (by decide)
  have k1356 : mK m1340 q369 = 15 := x1343.k k1320 (by decide)
  have k1357 : mK m1340 q403 = 15 := x1343.k k1321 (by decide)
  have k1358 : mK m1340 q439 = 15 := x1343.k k1322 (by decide)
  have k1359 : mK m1340 q477 = 15 := x1343.k k1323 (by decide)
  have k1360 : mK m1340 q517 = 15 := x1343.k k1324 (by decide)
  have k1361 : mK m1340 q559 = 17 := x1343.k k1325 (by decide)
  have k1362 : mK m1340 q603 = 17 := x1343.k k1326 (by decide)
  have k1363 : mK m1340 q649 = 15 := x1343.k k1327 (by decide)
  have k1364 : mK m1340 q697 = 15 := x1343.k k1328 (by decide)
  have k1365 : mK m1340 q747 = 15 := x1343.k k1329 (by decide)
  have k1366 : mK m1340 q799 = 15 := x1343.k k1330 (by decide)
  have k1367 : mK m1340 q905 = 15 := x1343.k k1331 (by decide)
  have k1368 : mK m1340 q961 = 15 := x1343.k k1332 (by decide)
  have k1369 : mK m1340 q1019 = 15 := x1343.k k1333 (by decide)
  have k1370 : mK m1340 q1079 = 15 := x1343.k k1334 (by decide)
  have k1371 : mK m1340 q1141 = 15 := x1343.k k1335 (by decide)
  have k1372 : mK m1340 q1205 = 16 := x1343.k k1336 (by decide)
  have k1373 : mK m1340 q1271 = 16 := x1343.k k1337 (by decide)
  have k1374 : mK m1340 q1339 = 15 := by rw [e1342]; exact if_pos rfl
  refine at_putRF (index := 122) cok12 40 342 rfl (by decide +kernel) k1345 (by decide +kernel) tw_1125 rfl rfl rfl rfl (Or.inr ⟨_, rfl⟩) (fun m1375 e1376 => ?_)
  replace h := h m1375 e1376
  have k1377 : mK m1375 q2 = 15 := by rw [e1376]; exact k1344
  have k1378 : mK m1375 t = 13 := by rw [e1376]; exact k1345
  have k1379 : mK m1375 q30 = 15 := by rw [e1376]; exact k1346
  have k1380 : mK m1375 q44 = 16 := by rw [e1376]; exact k1347
  have k1381 : mK m1375 q60 = 16 := by rw [e1376]; exact k1348
  have k1382 : mK m1375 q120 = 15 := by rw [e1376]; exact k1349
  have k1383 : mK m1375 q167 = 15 := by rw [e1376]; exact k1350
  have k1384 : mK m1375 q219 = 14 := by rw [e1376]; exact k1351
  have k1385 : mK m1375 q253 = 14 := by rw [e1376]; exact k1352
  have k1386 : mK m1375 q279 = 15 := by rw [e1376]; exact k1353
  have k1387 : mK m1375 q307 = 15 := by rw [e1376]; exact k1354
  have k1388 : mK m1375 q337 = 15 := by rw [e1376]; exact k1355
  have k1389 : mK m1375 q369 = 15 := by rw [e1376]; exact k1356
  have k1390 : mK m1375 q403 = 15 := by rw [e1376]; exact k1357
  have k1391 : mK m1375 q439 = 15 := by rw [e1376]; exact k1358
  have k1392 : mK m1375 q477 = 15 := by rw [e1376]; exact k1359
  have k1393 : mK m1375 q517 = 15 := by rw [e1376]; exact k1360
  have k1394 : mK m1375 q559 = 17 := by rw [e1376]; exact k1361
  have k1395 : mK m1375 q603 = 17 := by rw [e1376]; exact k1362
  have k1396 : mK m1375 q649 = 15 := by rw [e1376]; exact k1363
  have k1397 : mK m1375 q697 = 15 := by rw [e1376]; exact k1364
  have k1398 : mK m1375 q747 = 15 := by rw [e1376]; exact k1365
  have k1399 : mK m1375 q799 = 15 := by rw [e1376]; exact k1366
  have k1400 : mK m1375 q905 = 15 := by rw [e1376]; exact k1367
  have k1401 : mK m1375 q961 = 15 := by rw [e1376]; exact k1368
  have k1402 : mK m1375 q1019 = 15 := by rw [e1376]; exact k1369
  have k1403 : mK m1375 q1079 = 15 := by rw [e1376]; exact k1370
  have k1404 : mK m1375 q1141 = 15 := by rw [e1376]; exact k1371
  have k1405 : mK m1375 q1205 = 16 := by rw [e1376]; exact k1372
  have k1406 : mK m1375 q1271 = 16 := by rw [e1376]; exact k1373
  have k1407 : mK m1375 q1339 = 15 := by rw [e1376]; exact k1374
  refine at_aload_n (i := 0) 0 343 rfl (by decide +kernel) rfl ?_
  refine at_sipush (n := 800) (800 : Int32) 346 rfl (by decide +kernel) (by decide +kernel) ?_
  obtain ⟨z1408, h⟩ := h
  refine at_newaI 348 rfl z1408 (by decide +kernel) tw_265 (by decide +kernel) (by decide +kernel) (fun q1409 m1410 e1411 e1412 => ?_)
  replace h := h q1409 m1410 e1411 e1412
  have x1413 : Ext m1375 m1410 := by rw [e1412, e1411]; exact Ext.nw z1408 _ _ _
  have k1414 : mK m1410 q2 = 15 := x1413.k k1377 (by decide)
  have k1415 : mK m1410 t = 13 := x1413.k k1378 (by decide)
  have k1416 : mK m1410 q30 = 15 := x1413.k k1379 (by decide)
  have k1417 : mK m1410 q44 = 16 := x1413.k k1380 (by decide)
  have k1418 : mK m1410 q60 = 16 := x1413.k k1381 (by decide)
  have k1419 : mK m1410 q120 = 15 := x1413.k k1382 (by decide)
  have k1420 : mK m1410 q167 = 15 := x1413.k k1383 (by decide)
  have k1421 : mK m1410 q219 = 14 := x1413.k k1384 (by decide)
  have k1422 : mK m1410 q253 = 14 := x1413.k k1385 (by decide)
  have k1423 : mK m1410 q279 = 15 := x1413.k k1386 (by decide)
  have k1424 : mK m1410 q307 = 15 := x1413.k k1387 (by decide)
  have k1425 : mK m1410 q337 = 15 := x1413.k k1388 (by decide)
  have k1426 : mK m1410 q369 = 15 := x1413.k k1389 (by decide)
  have k1427 : mK m1410 q403 = 15 := x1413.k k1390 (by decide)
  have k1428 : mK m1410 q439 = 15 := x1413.k k1391 (by decide)
  have k1429 : mK m1410 q477 = 15 := x1413.k k1392 (by decide)
  have k1430 : mK m1410 q517 = 15 := x1413.k k1393 (by decide)
  have k1431 : mK m1410 q559 = 17 := x1413.k k1394 (by decide)
  have k1432 : mK m1410 q603 = 17 := x1413.k k1395 (by decide)
  have k1433 : mK m1410 q649 = 15 := x1413.k k1396 (by decide)
  have k1434 : mK m1410 q697 = 15 := x1413.k k1397 (by decide)
  have k1435 : mK m1410 q747 = 15 := x1413.k k1398 (by decide)
  have k1436 : mK m1410 q799 = 15 := x1413.k k1399 (by decide)
  have k1437 : mK m1410 q905 = 15 := x1413.k k1400 (by decide)
  have k1438 : mK m1410 q961 = 15 := x1413.k k1401 (by decide)
  have k1439 : mK m1410 q1019 = 15 := x1413.k k1402 (by decide)
  have k1440 : mK m1410 q1079 = 15 := x1413.k k1403 (by decide)
  have k1441 : mK m1410 q1141 = 15 := x1413.k k1404 (by decide)
  have k1442 : mK m1410 q1205 = 16 := x1413.k k1405 (by decide)
  have k1443 : mK m1410 q1271 = 16 := x1413.k k1406 (by decide)
  have k1444 : mK m1410 q1339 = 15 := x1413.k k1407 (by decide)
  have k1445 : mK m1410 q1409 = 15 := by rw [e1412]; exact if_pos rfl
  refine at_putRF (index := 125) cok12 41 351 rfl (by decide +kernel) k1415 (by decide +kernel) tw_1126 rfl rfl rfl rfl (Or.inr ⟨_, rfl⟩) (fun m1446 e1447 => ?_)
  replace h := h m1446 e1447
  have k1448 : mK m1446 q2 = 15 := by rw [e1447]; exact k1414
  have k1449 : mK m1446 t = 13 := by rw [e1447]; exact k1415
  have k1450 : mK m1446 q30 = 15 := by rw [e1447]; exact k1416
  have k1451 : mK m1446 q44 = 16 := by rw [e1447]; exact k1417
  have k1452 : mK m1446 q60 = 16 := by rw [e1447]; exact k1418
  have k1453 : mK m1446 q120 = 15 := by rw [e1447]; exact k1419
  have k1454 : mK m1446 q167 = 15 := by rw [e1447]; exact k1420
  have k1455 : mK m1446 q219 = 14 := by rw [e1447]; exact k1421
  have k1456 : mK m1446 q253 = 14 := by rw [e1447]; exact k1422
  have k1457 : mK m1446 q279 = 15 := by rw [e1447]; exact k1423
  have k1458 : mK m1446 q307 = 15 := by rw [e1447]; exact k1424
  have k1459 : mK m1446 q337 = 15 := by rw [e1447]; exact k1425
  have k1460 : mK m1446 q369 = 15 := by rw [e1447]; exact k1426
  have k1461 : mK m1446 q403 = 15 := by rw [e1447]; exact k1427
  have k1462 : mK m1446 q439 = 15 := by rw [e1447]; exact k1428
  have k1463 : mK m1446 q477 = 15 := by rw [e1447]; exact k1429
  have k1464 : mK m1446 q517 = 15 := by rw [e1447]; exact k1430
  have k1465 : mK m1446 q559 = 17 := by rw [e1447]; exact k1431
  have k1466 : mK m1446 q603 = 17 := by rw [e1447]; exact k1432
  have k1467 : mK m1446 q649 = 15 := by rw [e1447]; exact k1433
  have k1468 : mK m1446 q697 = 15 := by rw [e1447]; exact k1434
  have k1469 : mK m1446 q747 = 15 := by rw [e1447]; exact k1435
  have k1470 : mK m1446 q799 = 15 := by rw [e1447]; exact k1436
  have k1471 : mK m1446 q905 = 15 := by rw [e1447]; exact k1437
  have k1472 : mK m1446 q961 = 15 := by rw [e1447]; exact k1438
  have k1473 : mK m1446 q1019 = 15 := by rw [e1447]; exact k1439
  have k1474 : mK m1446 q1079 = 15 := by rw [e1447]; exact k1440
  have k1475 : mK m1446 q1141 = 15 := by rw [e1447]; exact k1441
  have k1476 : mK m1446 q1205 = 16 := by rw [e1447]; exact k1442
  have k1477 : mK m1446 q1271 = 16 := by rw [e1447]; exact k1443
  have k1478 : mK m1446 q1339 = 15 := by rw [e1447]; exact k1444
  have k1479 : mK m1446 q1409 = 15 := by rw [e1447]; exact k1445
  refine at_aload_n (i := 0) 0 352 rfl (by decide +kernel) rfl ?_
  refine at_sipush (n := 800) (800 : Int32) 355 rfl (by decide +kernel) (by decide +kernel) ?_
  obtain ⟨z1480, h⟩ := h
  refine at_newaI 357 rfl z1480 (by decide +kernel) tw_265 (by decide +kernel) (by decide +kernel) (fun q1481 m1482 e1483 e1484 => ?_)
  replace h := h q1481 m1482 e1483 e1484
  have x1485 : Ext m1446 m1482 := by rw [e1484, e1483]; exact Ext.nw z1480 _ _ _
  have k1486 : mK m1482 q2 = 15 := x1485.k k1448 (by decide)
  have k1487 : mK m1482 t = 13 := x1485.k k1449 (by decide)
  have k1488 : mK m1482 q30 = 15 := x1485.k k1450 (by decide)
  have k1489 : mK m1482 q44 = 16 := x1485.k k1451 (by decide)
  have k1490 : mK m1482 q60 = 16 := x1485.k k1452 (by decide)
  have k1491 : mK m1482 q120 = 15 := x1485.k k1453 (by decide)
  have k1492 : mK m1482 q167 = 15 := x1485.k k1454 (by decide)
  have k1493 : mK m1482 q219 = 14 := x1485.k k1455 (by decide)
  have k1494 : mK m1482 q253 = 14 := x1485.k k1456 (by decide)
  have k1495 : mK m1482 q279 = 15 := x1485.k k1457 (by decide)
  have k1496 : mK m1482 q307 = 15 := x1485.k k1458 (by decide)
  have k1497 : mK m1482 q337 = 15 := x1485.k k1459 (by decide)
  have k1498 : mK m1482 q369 = 15 := x1485.k k1460 (by decide)
  have k1499 : mK m1482 q403 = 15 := x1485.k k1461 (by decide)
  have k1500 : mK m1482 q439 = 15 := x1485.k k1462 (by decide)
  have k1501 : mK m1482 q477 = 15 := x1485.k k1463 (by decide)
  have k1502 : mK m1482 q517 = 15 := x1485.k k1464 (by decide)
  have k1503 : mK m1482 q559 = 17 := x1485.k k1465 (by decide)
  have k1504 : mK m1482 q603 = 17 := x1485.k k1466 (by decide)
  have k1505 : mK m1482 q649 = 15 := x1485.k k1467 (by decide)
  have k1506 : mK m1482 q697 = 15 := x1485.k k1468 (by decide)
  have k1507 : mK m1482 q747 = 15 := x1485.k k1469 (by decide)
  have k1508 : mK m1482 q799 = 15 := x1485.k k1470 (by decide)
  have k1509 : mK m1482 q905 = 15 := x1485.k k1471 (by decide)
  have k1510 : mK m1482 q961 = 15 := x1485.k k1472 (by decide)
  have k1511 : mK m1482 q1019 = 15 := x1485.k k1473 (by decide)
  have k1512 : mK m1482 q1079 = 15 := x1485.k k1474 (by decide)
  have k1513 : mK m1482 q1141 = 15 := x1485.k k1475 (by decide)
  have k1514 : mK m1482 q1205 = 16 := x1485.k k1476 (by decide)
  have k1515 : mK m1482 q1271 = 16 := x1485.k k1477 (by decide)
  have k1516 : mK m1482 q1339 = 15 := x1485.k k1478 (by decide)
  have k1517 : mK m1482 q1409 = 15 := x1485.k k1479 (by decide)
  have k1518 : mK m1482 q1481 = 15 := by rw [e1484]; exact if_pos rfl
  refine at_putRF (index := 128) cok12 42 360 rfl (by decide +kernel) k1487 (by decide +kernel) tw_1127 rfl rfl rfl rfl (Or.inr ⟨_, rfl⟩) (fun m1519 e1520 => ?_)
  replace h := h m1519 e1520
  have k1521 : mK m1519 q2 = 15 := by rw [e1520]; exact k1486
  have k1522 : mK m1519 t = 13 := by rw [e1520]; exact k1487
  have k1523 : mK m1519 q30 = 15 := by rw [e1520]; exact k1488
  have k1524 : mK m1519 q44 = 16 := by rw [e1520]; exact k1489
  have k1525 : mK m1519 q60 = 16 := by rw [e1520]; exact k1490
  have k1526 : mK m1519 q120 = 15 := by rw [e1520]; exact k1491
  have k1527 : mK m1519 q167 = 15 := by rw [e1520]; exact k1492
  have k1528 : mK m1519 q219 = 14 := by rw [e1520]; exact k1493
  have k1529 : mK m1519 q253 = 14 := by rw [e1520]; exact k1494
  have k1530 : mK m1519 q279 = 15 := by rw [e1520]; exact k1495
  have k1531 : mK m1519 q307 = 15 := by rw [e1520]; exact k1496
  have k1532 : mK m1519 q337 = 15 := by rw [e1520]; exact k1497
  have k1533 : mK m1519 q369 = 15 := by rw [e1520]; exact k1498
  have k1534 : mK m1519 q403 = 15 := by rw [e1520]; exact k1499
  have k1535 : mK m1519 q439 = 15 := by rw [e1520]; exact k1500
  have k1536 : mK m1519 q477 = 15 := by rw [e1520]; exact k1501
  have k1537 : mK m1519 q517 = 15 := by rw [e1520]; exact k1502
  have k1538 : mK m1519 q559 = 17 := by rw [e1520]; exact k1503
  have k1539 : mK m1519 q603 = 17 := by rw [e1520]; exact k1504
  have k1540 : mK m1519 q649 = 15 := by rw [e1520]; exact k1505
  have k1541 : mK m1519 q697 = 15 := by rw [e1520]; exact k1506
  have k1542 : mK m1519 q747 = 15 := by rw [e1520]; exact k1507
  have k1543 : mK m1519 q799 = 15 := by rw [e1520]; exact k1508
  have k1544 : mK m1519 q905 = 15 := by rw [e1520]; exact k1509
  have k1545 : mK m1519 q961 = 15 := by rw [e1520]; exact k1510
  have k1546 : mK m1519 q1019 = 15 := by rw [e1520]; exact k1511
  have k1547 : mK m1519 q1079 = 15 := by rw [e1520]; exact k1512
  have k1548 : mK m1519 q1141 = 15 := by rw [e1520]; exact k1513
  have k1549 : mK m1519 q1205 = 16 := by rw [e1520]; exact k1514
  have k1550 : mK m1519 q1271 = 16 := by rw [e1520]; exact k1515
  have k1551 : mK m1519 q1339 = 15 := by rw [e1520]; exact k1516
  have k1552 : mK m1519 q1409 = 15 := by rw [e1520]; exact k1517
  have k1553 : mK m1519 q1481 = 15 := by rw [e1520]; exact k1518
  refine at_aload_n (i := 0) 0 361 rfl (by decide +kernel) rfl ?_
  refine at_bipush (n := 16) (16 : Int32) 363 rfl (by decide +kernel) (by decide +kernel) ?_
  obtain ⟨z1554, h⟩ := h
  refine at_newaJ 365 rfl z1554 (by decide +kernel) tw_199 (by decide +kernel) (by decide +kernel) (fun q1555 m1556 e1557 e1558 => ?_)
  replace h := h q1555 m1556 e1557 e1558
  have x1559 : Ext m1519 m1556 := by rw [e1558, e1557]; exact Ext.nw z1554 _ _ _
  have k1560 : mK m1556 q2 = 15 := x1559.k k1521 (by decide)
  have k1561 : mK m1556 t = 13 := x1559.k k1522 (by decide)
  have k1562 : mK m1556 q30 = 15 := x1559.k k1523 (by decide)
  have k1563 : mK m1556 q44 = 16 := x1559.k k1524 (by decide)
  have k1564 : mK m1556 q60 = 16 := x1559.k k1525 (by decide)
  have k1565 : mK m1556 q120 = 15 := x1559.k k1526 (by decide)
  have k1566 : mK m1556 q167 = 15 := x1559.k k1527 (by decide)
  have k1567 : mK m1556 q219 = 14 := x1559.k k1528 (by decide)
  have k1568 : mK m1556 q253 = 14 := x1559.k k1529 (by decide)
  have k1569 : mK m1556 q279 = 15 := x1559.k k1530 (by decide)
  have k1570 : mK m1556 q307 = 15 := x1559.k k1531 (by decide)
  have k1571 : mK m1556 q337 = 15 := x1559.k k1532 (by decide)
  have k1572 : mK m1556 q369 = 15 := x1559.k k1533 (by decide)
  have k1573 : mK m1556 q403 = 15 := x1559.k k1534 (by decide)
  have k1574 : mK m1556 q439 = 15 := x1559.k k1535 (by decide)
  have k1575 : mK m1556 q477 = 15 := x1559.k k1536 (by decide)
  have k1576 : mK m1556 q517 = 15 := x1559.k k1537 (by decide)
  have k1577 : mK m1556 q559 = 17 := x1559.k k1538 (by decide)
  have k1578 : mK m1556 q603 = 17 := x1559.k k1539 (by decide)
  have k1579 : mK m1556 q649 = 15 := x1559.k k1540 (by decide)
  have k1580 : mK m1556 q697 = 15 := x1559.k k1541 (by decide)
  have k1581 : mK m1556 q747 = 15 := x1559.k k1542 (by decide)
  have k1582 : mK m1556 q799 = 15 := x1559.k k1543 (by decide)
  have k1583 : mK m1556 q905 = 15 := x1559.k k1544 (by decide)
  have k1584 : mK m1556 q961 = 15 := x1559.k k1545 (by decide)
  have k1585 : mK m1556 q1019 = 15 := x1559.k k1546 (by decide)
  have k1586 : mK m1556 q1079 = 15 := x1559.k k1547 (by decide)
  have k1587 : mK m1556 q1141 = 15 := x1559.k k1548 (by decide)
  have k1588 : mK m1556 q1205 = 16 := x1559.k k1549 (by decide)
  have k1589 : mK m1556 q1271 = 16 := x1559.k k1550 (by decide)
  have k1590 : mK m1556 q1339 = 15 := x1559.k k1551 (by decide)
  have k1591 : mK m1556 q1409 = 15 := x1559.k k1552 (by decide)
  have k1592 : mK m1556 q1481 = 15 := x1559.k k1553 (by decide)
  have k1593 : mK m1556 q1555 = 16 := by rw [e1558]; exact if_pos rfl
  refine at_putRF (index := 131) cok12 43 368 rfl (by decide +kernel) k1561 (by decide +kernel) tw_1128 rfl rfl rfl rfl (Or.inr ⟨_, rfl⟩) (fun m1594 e1595 => ?_)
  replace h := h m1594 e1595
  have k1596 : mK m1594 q2 = 15 := by rw [e1595]; exact k1560
  have k1597 : mK m1594 t = 13 := by rw [e1595]; exact k1561
  have k1598 : mK m1594 q30 = 15 := by rw [e1595]; exact k1562
  have k1599 : mK m1594 q44 = 16 := by rw [e1595]; exact k1563
  have k1600 : mK m1594 q60 = 16 := by rw [e1595]; exact k1564
  have k1601 : mK m1594 q120 = 15 := by rw [e1595]; exact k1565
  have k1602 : mK m1594 q167 = 15 := by rw [e1595]; exact k1566
  have k1603 : mK m1594 q219 = 14 := by rw [e1595]; exact k1567
  have k1604 : mK m1594 q253 = 14 := by rw [e1595]; exact k1568
  have k1605 : mK m1594 q279 = 15 := by rw [e1595]; exact k1569
  have k1606 : mK m1594 q307 = 15 := by rw [e1595]; exact k1570
  have k1607 : mK m1594 q337 = 15 := by rw [e1595]; exact k1571
  have k1608 : mK m1594 q369 = 15 := by rw [e1595]; exact k1572
  have k1609 : mK m1594 q403 = 15 := by rw [e1595]; exact k1573
  have k1610 : mK m1594 q439 = 15 := by rw [e1595]; exact k1574
  have k1611 : mK m1594 q477 = 15 := by rw [e1595]; exact k1575
  have k1612 : mK m1594 q517 = 15 := by rw [e1595]; exact k1576
  have k1613 : mK m1594 q559 = 17 := by rw [e1595]; exact k1577
  have k1614 : mK m1594 q603 = 17 := by rw [e1595]; exact k1578
  have k1615 : mK m1594 q649 = 15 := by rw [e1595]; exact k1579
  have k1616 : mK m1594 q697 = 15 := by rw [e1595]; exact k1580
  have k1617 : mK m1594 q747 = 15 := by rw [e1595]; exact k1581
  have k1618 : mK m1594 q799 = 15 := by rw [e1595]; exact k1582
  have k1619 : mK m1594 q905 = 15 := by rw [e1595]; exact k1583
  have k1620 : mK m1594 q961 = 15 := by rw [e1595]; exact k1584
  have k1621 : mK m1594 q1019 = 15 := by rw [e1595]; exact k1585
  have k1622 : mK m1594 q1079 = 15 := by rw [e1595]; exact k1586
  have k1623 : mK m1594 q1141 = 15 := by rw [e1595]; exact k1587
  have k1624 : mK m1594 q1205 = 16 := by rw [e1595]; exact k1588
  have k1625 : mK m1594 q1271 = 16 := by rw [e1595]; exact k1589
  have k1626 : mK m1594 q1339 = 15 := by rw [e1595]; exact k1590
  have k1627 : mK m1594 q1409 = 15 := by rw [e1595]; exact k1591
  have k1628 : mK m1594 q1481 = 15 := by rw [e1595]; exact k1592
  have k1629 : mK m1594 q1555 = 16 := by rw [e1595]; exact k1593
  refine at_aload_n (i := 0) 0 369 rfl (by decide +kernel) rfl ?_
  refine at_sipush (n := 800) (800 : Int32) 372 rfl (by decide +kernel) (by decide +kernel) ?_
  obtain ⟨z1630, h⟩ := h
  refine at_newaI 374 rfl z1630 (by decide +kernel) tw_265 (by decide +kernel) (by decide +kernel) (fun q1631 m1632 e1633 e1634 => ?_)
  replace h := h q1631 m1632 e1633 e1634
  have x1635 : Ext m1594 m1632 := by rw [e1634, e1633]; exact Ext.nw z1630 _ _ _
  have k1636 : mK m1632 q2 = 15 := x1635.k k1596 (by decide)
  have k1637 : mK m1632 t = 13 := x1635.k k1597 (by decide)
  have k1638 : mK m1632 q30 = 15 := x1635.k k1598 (by decide)
  have k1639 : mK m1632 q44 = 16 := x1635.k k1599 (by decide)
  have k1640 : mK m1632 q60 = 16 := x1635.k k1600 (by decide)
  have k1641 : mK m1632 q120 = 15 := x1635.k k1601 (by decide)
  have k1642 : mK m1632 q167 = 15 := x1635.k k1602 (by decide)
  have k1643 : mK m1632 q219 = 14 := x1635.k k1603 (by decide)
  have k1644 : mK m1632 q253 = 14 := x1635.k k1604 (by decide)
  have k1645 : mK m1632 q279 = 15 := x1635.k k1605 (by decide)
  have k1646 : mK m1632 q307 = 15 := x1635.k k1606 (by decide)
  have k1647 : mK m1632 q337 = 15 := x1635.k k1607 (by decide)
  have k1648 : mK m1632 q369 = 15 := x1635.k k1608 (by decide)
  have k1649 : mK m1632 q403 = 15 := x1635.k k1609 (by decide)
  have k1650 : mK m1632 q439 = 15 := x1635.k k1610 (by decide)
  have k1651 : mK m1632 q477 = 15 := x1635.k k1611 (by decide)
  have k1652 : mK m1632 q517 = 15 := x1635.k k1612 (by decide)
  have k1653 : mK m1632 q559 = 17 := x1635.k k1613 (by decide)
  have k1654 : mK m1632 q603 = 17 := x1635.k k1614 (by decide)
  have k1655 : mK m1632 q649 = 15 := x1635.k k1615 (by decide)
  have k1656 : mK m1632 q697 = 15 := x1635.k k1616 (by decide)
  have k1657 : mK m1632 q747 = 15 := x1635.k k1617 (by decide)
  have k1658 : mK m1632 q799 = 15 := x1635.k k1618 (by decide)
  have k1659 : mK m1632 q905 = 15 := x1635.k k1619 (by decide)
  have k1660 : mK m1632 q961 = 15 := x1635.k k1620 (by decide)
  have k1661 : mK m1632 q1019 = 15 := x1635.k k1621 (by decide)
  have k1662 : mK m1632 q1079 = 15 := x1635.k k1622 (by decide)
  have k1663 : mK m1632 q1141 = 15 := x1635.k k1623 (by decide)
  have k1664 : mK m1632 q1205 = 16 := x1635.k k1624 (by decide)
  have k1665 : mK m1632 q1271 = 16 := x1635.k k1625 (by decide)
  have k1666 : mK m1632 q1339 = 15 := x1635.k k1626 (by decide)
  have k1667 : mK m1632 q1409 = 15 := x1635.k k1627 (by decide)
  have k1668 : mK m1632 q1481 = 15 := x1635.k k1628 (by decide)
  have k1669 : mK m1632 q1555 = 16 := x1635.k k1629 (by decide)
  have k1670 : mK m1632 q1631 = 15 := by rw [e1634]; exact if_pos rfl
  refine at_putRF (index := 134) cok12 44 377 rfl (by decide +kernel) k1637 (by decide +kernel) tw_1129 rfl rfl rfl rfl (Or.inr ⟨_, rfl⟩) (fun m1671 e1672 => ?_)
  replace h := h m1671 e1672
  have k1673 : mK m1671 q2 = 15 := by rw [e1672]; exact k1636
  have k1674 : mK m1671 t = 13 := by rw [e1672]; exact k1637
  have k1675 : mK m1671 q30 = 15 := by rw [e1672]; exact k1638
  have k1676 : mK m1671 q44 = 16 := by rw [e1672]; exact k1639
  have k1677 : mK m1671 q60 = 16 := by rw [e1672]; exact k1640
  have k1678 : mK m1671 q120 = 15 := by rw [e1672]; exact k1641
  have k1679 : mK m1671 q167 = 15 := by rw [e1672]; exact k1642
  have k1680 : mK m1671 q219 = 14 := by rw [e1672]; exact k1643
  have k1681 : mK m1671 q253 = 14 := by rw [e1672]; exact k1644
  have k1682 : mK m1671 q279 = 15 := by rw [e1672]; exact k1645
  have k1683 : mK m1671 q307 = 15 := by rw [e1672]; exact k1646
  have k1684 : mK m1671 q337 = 15 := by rw [e1672]; exact k1647
  have k1685 : mK m1671 q369 = 15 := by rw [e1672]; exact k1648
  have k1686 : mK m1671 q403 = 15 := by rw [e1672]; exact k1649
  have k1687 : mK m1671 q439 = 15 := by rw [e1672]; exact k1650
  have k1688 : mK m1671 q477 = 15 := by rw [e1672]; exact k1651
  have k1689 : mK m1671 q517 = 15 := by rw [e1672]; exact k1652
  have k1690 : mK m1671 q559 = 17 := by rw [e1672]; exact k1653
  have k1691 : mK m1671 q603 = 17 := by rw [e1672]; exact k1654
  have k1692 : mK m1671 q649 = 15 := by rw [e1672]; exact k1655
  have k1693 : mK m1671 q697 = 15 := by rw [e1672]; exact k1656
  have k1694 : mK m1671 q747 = 15 := by rw [e1672]; exact k1657
  have k1695 : mK m1671 q799 = 15 := by rw [e1672]; exact k1658
  have k1696 : mK m1671 q905 = 15 := by rw [e1672]; exact k1659
  have k1697 : mK m1671 q961 = 15 := by rw [e1672]; exact k1660
  have k1698 : mK m1671 q1019 = 15 := by rw [e1672]; exact k1661
  have k1699 : mK m1671 q1079 = 15 := by rw [e1672]; exact k1662
  have k1700 : mK m1671 q1141 = 15 := by rw [e1672]; exact k1663
  have k1701 : mK m1671 q1205 = 16 := by rw [e1672]; exact k1664
  have k1702 : mK m1671 q1271 = 16 := by rw [e1672]; exact k1665
  have k1703 : mK m1671 q1339 = 15 := by rw [e1672]; exact k1666
  have k1704 : mK m1671 q1409 = 15 := by rw [e1672]; exact k1667
  have k1705 : mK m1671 q1481 = 15 := by rw [e1672]; exact k1668
  have k1706 : mK m1671 q1555 = 16 := by rw [e1672]; exact k1669
  have k1707 : mK m1671 q1631 = 15 := by rw [e1672]; exact k1670
  refine at_aload_n (i := 0) 0 378 rfl (by decide +kernel) rfl ?_
  refine at_sipush (n := 800) (800 : Int32) 381 rfl (by decide +kernel) (by decide +kernel) ?_
  obtain ⟨z1708, h⟩ := h
  refine at_newaI 383 rfl z1708 (by decide +kernel) tw_265 (by decide +kernel) (by decide +kernel) (fun q1709 m1710 e1711 e1712 => ?_)
  replace h := h q1709 m1710 e1711 e1712
  have x1713 : Ext m1671 m1710 := by rw [e1712, e1711]; exact Ext.nw z1708 _ _ _
  have k1714 : mK m1710 q2 = 15 := x1713.k k1673 (by decide)
  have k1715 : mK m1710 t = 13 := x1713.k k1674 (by decide)
  have k1716 : mK m1710 q30 = 15 := x1713.k k1675 (by decide)
  have k1717 : mK m1710 q44 = 16 := x1713.k k1676 (by decide)
  have k1718 : mK m1710 q60 = 16 := x1713.k k1677 (by decide)
  have k1719 : mK m1710 q120 = 15 := x1713.k k1678 (by decide)
  have k1720 : mK m1710 q167 = 15 := x1713.k k1679 (by decide)
  have k1721 : mK m1710 q219 = 14 := x1713.k k1680 (by decide)
  have k1722 : mK m1710 q253 = 14 := x1713.k k1681 (by decide)
  have k1723 : mK m1710 q279 = 15 := x1713.k k1682 (by decide)
  have k1724 : mK m1710 q307 = 15 := x1713.k k1683 (by decide)
  have k1725 : mK m1710 q337 = 15 := x1713.k k1684 (by decide)
  have k1726 : mK m1710 q369 = 15 := x1713.k k1685 (by decide)
  have k1727 : mK m1710 q403 = 15 := x1713.k k1686 (by decide)
  have k1728 : mK m1710 q439 = 15 := x1713.k k1687 (by decide)
  have k1729 : mK m1710 q477 = 15 := x1713.k k1688 (by decide)
  have k1730 : mK m1710 q517 = 15 := x1713.k k1689 (by decide)
  have k1731 : mK m1710 q559 = 17 := x1713.k k1690 (by decide)
  have k1732 : mK m1710 q603 = 17 := x1713.k k1691 (by decide)
  have k1733 : mK m1710 q649 = 15 := x1713.k k1692 (by decide)
  have k1734 : mK m1710 q697 = 15 := x1713.k k1693 (by decide)
  have k1735 : mK m1710 q747 = 15 := x1713.k k1694 (by decide)
  have k1736 : mK m1710 q799 = 15 := x1713.k k1695 (by decide)
  have k1737 : mK m1710 q905 = 15 := x1713.k k1696 (by decide)
  have k1738 : mK m1710 q961 = 15 := x1713.k k1697 (by decide)
  have k1739 : mK m1710 q1019 = 15 := x1713.k k1698 (by decide)
  have k1740 : mK m1710 q1079 = 15 := x1713.k k1699 (by decide)
  have k1741 : mK m1710 q1141 = 15 := x1713.k k1700 (by decide)
  have k1742 : mK m1710 q1205 = 16 := x1713.k k1701 (by decide)
  have k1743 : mK m1710 q1271 = 16 := x1713.k k1702 (by decide)
  have k1744 : mK m1710 q1339 = 15 := x1713.k k1703 (by decide)
  have k1745 : mK m1710 q1409 = 15 := x1713.k k1704 (by decide)
  have k1746 : mK m1710 q1481 = 15 := x1713.k k1705 (by decide)
  have k1747 : mK m1710 q1555 = 16 := x1713.k k1706 (by decide)
  have k1748 : mK m1710 q1631 = 15 := x1713.k k1707 (by decide)
  have k1749 : mK m1710 q1709 = 15 := by rw [e1712]; exact if_pos rfl
  refine at_putRF (index := 137) cok12 45 386 rfl (by decide +kernel) k1715 (by decide +kernel) tw_1130 rfl rfl rfl rfl (Or.inr ⟨_, rfl⟩) (fun m1750 e1751 => ?_)
  replace h := h m1750 e1751
  have k1752 : mK m1750 q2 = 15 := by rw [e1751]; exact k1714
  have k1753 : mK m1750 t = 13 := by rw [e1751]; exact k1715
  have k1754 : mK m1750 q30 = 15 := by rw [e1751]; exact k1716
  have k1755 : mK m1750 q44 = 16 := by rw [e1751]; exact k1717
  have k1756 : mK m1750 q60 = 16 := by rw [e1751]; exact k1718
  have k1757 : mK m1750 q120 = 15 := by rw [e1751]; exact k1719
  have k1758 : mK m1750 q167 = 15 := by rw [e1751]; exact k1720
  have k1759 : mK m1750 q219 = 14 := by rw [e1751]; exact k1721
  have k1760 : mK m1750 q253 = 14 := by rw [e1751]; exact k1722
  have k1761 : mK m1750 q279 = 15 := by rw [e1751]; exact k1723
  have k1762 : mK m1750 q307 = 15 := by rw [e1751]; exact k1724
  have k1763 : mK m1750 q337 = 15 := by rw [e1751]; exact k1725
  have k1764 : mK m1750 q369 = 15 := by rw [e1751]; exact k1726
  have k1765 : mK m1750 q403 = 15 := by rw [e1751]; exact k1727
  have k1766 : mK m1750 q439 = 15 := by rw [e1751]; exact k1728
  have k1767 : mK m1750 q477 = 15 := by rw [e1751]; exact k1729
  have k1768 : mK m1750 q517 = 15 := by rw [e1751]; exact k1730
  have k1769 : mK m1750 q559 = 17 := by rw [e1751]; exact k1731
  have k1770 : mK m1750 q603 = 17 := by rw [e1751]; exact k1732
  have k1771 : mK m1750 q649 = 15 := by rw [e1751]; exact k1733
  have k1772 : mK m1750 q697 = 15 := by rw [e1751]; exact k1734
  have k1773 : mK m1750 q747 = 15 := by rw [e1751]; exact k1735
  have k1774 : mK m1750 q799 = 15 := by rw [e1751]; exact k1736
  have k1775 : mK m1750 q905 = 15 := by rw [e1751]; exact k1737
  have k1776 : mK m1750 q961 = 15 := by rw [e1751]; exact k1738
  have k1777 : mK m1750 q1019 = 15 := by rw [e1751]; exact k1739
  have k1778 : mK m1750 q1079 = 15 := by rw [e1751]; exact k1740
  have k1779 : mK m1750 q1141 = 15 := by rw [e1751]; exact k1741
  have k1780 : mK m1750 q1205 = 16 := by rw [e1751]; exact k1742
  have k1781 : mK m1750 q1271 = 16 := by rw [e1751]; exact k1743
  have k1782 : mK m1750 q1339 = 15 := by rw [e1751]; exact k1744
  have k1783 : mK m1750 q1409 = 15 := by rw [e1751]; exact k1745
  have k1784 : mK m1750 q1481 = 15 := by rw [e1751]; exact k1746
  have k1785 : mK m1750 q1555 = 16 := by rw [e1751]; exact k1747
  have k1786 : mK m1750 q1631 = 15 := by rw [e1751]; exact k1748
  have k1787 : mK m1750 q1709 = 15 := by rw [e1751]; exact k1749
  refine at_aload_n (i := 0) 0 387 rfl (by decide +kernel) rfl ?_
  refine at_sipush (n := 800) (800 : Int32) 390 rfl (by decide +kernel) (by decide +kernel) ?_
  obtain ⟨z1788, h⟩ := h
  refine at_newaJ 392 rfl z1788 (by decide +kernel) tw_199 (by decide +kernel) (by decide +kernel) (fun q1789 m1790 e1791 e1792 => ?_)
  replace h := h q1789 m1790 e1791 e1792
  have x1793 : Ext m1750 m1790 := by rw [e1792, e1791]; exact Ext.nw z1788 _ _ _
  have k1794 : mK m1790 q2 = 15 := x1793.k k1752 (by decide)
  have k1795 : mK m1790 t = 13 := x1793.k k1753 (by decide)
  have k1796 : mK m1790 q30 = 15 := x1793.k k1754 (by decide)
  have k1797 : mK m1790 q44 = 16 := x1793.k k1755 (by decide)
  have k1798 : mK m1790 q60 = 16 := x1793.k k1756 (by decide)
  have k1799 : mK m1790 q120 = 15 := x1793.k k1757 (by decide)
  have k1800 : mK m1790 q167 = 15 := x1793.k k1758 (by decide)
  have k1801 : mK m1790 q219 = 14 := x1793.k k1759 (by decide)
  have k1802 : mK m1790 q253 = 14 := x1793.k k1760 (by decide)
  have k1803 : mK m1790 q279 = 15 := x1793.k k1761 (by decide)
  have k1804 : mK m1790 q307 = 15 := x1793.k k1762 (by decide)
  have k1805 : mK m1790 q337 = 15 := x1793.k k1763 (by decide)
  have k1806 : mK m1790 q369 = 15 := x1793.k k1764 (by decide)
  have k1807 : mK m1790 q403 = 15 := x1793.k k1765 (by decide)
  have k1808 : mK m1790 q439 = 15 := x1793.k k1766 (by decide)
  have k1809 : mK m1790 q477 = 15 := x1793.k k1767 (by decide)
  have k1810 : mK m1790 q517 = 15 := x1793.k k1768 (by decide)
  have k1811 : mK m1790 q559 = 17 := x1793.k k1769 (by decide)
  have k1812 : mK m1790 q603 = 17 := x1793.k k1770 (by decide)
  have k1813 : mK m1790 q649 = 15 := x1793.k k1771 (by decide)
  have k1814 : mK m1790 q697 = 15 := x1793.k k1772 (by decide)
  have k1815 : mK m1790 q747 = 15 := x1793.k k1773 (by decide)
  have k1816 : mK m1790 q799 = 15 := x1793.k k1774 (by decide)
  have k1817 : mK m1790 q905 = 15 := x1793.k k1775 (by decide)
  have k1818 : mK m1790 q961 = 15 := x1793.k k1776 (by decide)
  have k1819 : mK m1790 q1019 = 15 := x1793.k k1777 (by decide)
  have k1820 : mK m1790 q1079 = 15 := x1793.k k1778 (by decide)
  have k1821 : mK m1790 q1141 = 15 := x1793.k k1779 (by decide)
  have k1822 : mK m1790 q1205 = 16 := x1793.k k1780 (by decide)
  have k1823 : mK m1790 q1271 = 16 := x1793.k k1781 (by decide)
  have k1824 : mK m1790 q1339 = 15 := x1793.k k1782 (by decide)
  have k1825 : mK m1790 q1409 = 15 := x1793.k k1783 (by decide)
  have k1826 : mK m1790 q1481 = 15 := x1793.k k1784 (by decide)
  have k1827 : mK m1790 q1555 = 16 := x1793.k k1785 (by decide)
  have k1828 : mK m1790 q1631 = 15 := x1793.k k1786 (by decide)
  have k1829 : mK m1790 q1709 = 15 := x1793.k k1787 (by decide)
  have k1830 : mK m1790 q1789 = 16 := by rw [e1792]; exact if_pos rfl
  refine at_putRF (index := 140) cok12 46 395 rfl (by decide +kernel) k1795 (by decide +kernel) tw_1131 rfl rfl rfl rfl (Or.inr ⟨_, rfl⟩) (fun m1831 e1832 => ?_)
  replace h := h m1831 e1832
  have k1833 : mK m1831 q2 = 15 := by rw [e1832]; exact k1794
  have k1834 : mK m1831 t = 13 := by rw [e1832]; exact k1795
  have k1835 : mK m1831 q30 = 15 := by rw [e1832]; exact k1796
  have k1836 : mK m1831 q44 = 16 := by rw [e1832]; exact k1797
  have k1837 : mK m1831 q60 = 16 := by rw [e1832]; exact k1798
  have k1838 : mK m1831 q120 = 15 := by rw [e1832]; exact k1799
  have k1839 : mK m1831 q167 = 15 := by rw [e1832]; exact k1800
  have k1840 : mK m1831 q219 = 14 := by rw [e1832]; exact k1801
  have k1841 : mK m1831 q253 = 14 := by rw [e1832]; exact k1802
  have k1842 : mK m1831 q279 = 15 := by rw [e1832]; exact k1803
  have k1843 : mK m1831 q307 = 15 := by rw [e1832]; exact k1804
  have k1844 : mK m1831 q337 = 15 := by rw [e1832]; exact k1805
  have k1845 : mK m1831 q369 = 15 := by rw [e1832]; exact k1806
  have k1846 : mK m1831 q403 = 15 := by rw [e1832]; exact k1807
  have k1847 : mK m1831 q439 = 15 := by rw [e1832]; exact k1808
  have k1848 : mK m1831 q477 = 15 := by rw [e1832]; exact k1809
  have k1849 : mK m1831 q517 = 15 := by rw [e1832]; exact k1810
  have k1850 : mK m1831 q559 = 17 := by rw [e1832]; exact k1811
  have k1851 : mK m1831 q603 = 17 := by rw [e1832]; exact k1812
  have k1852 : mK m1831 q649 = 15 := by rw [e1832]; exact k1813
  have k1853 : mK m1831 q697 = 15 := by rw [e1832]; exact k1814
  have k1854 : mK m1831 q747 = 15 := by rw [e1832]; exact k1815
  have k1855 : mK m1831 q799 = 15 := by rw [e1832]; exact k1816
  have k1856 : mK m1831 q905 = 15 := by rw [e1832]; exact k1817
  have k1857 : mK m1831 q961 = 15 := by rw [e1832]; exact k1818
  have k1858 : mK m1831 q1019 = 15 := by rw [e1832]; exact k1819
  have k1859 : mK m1831 q1079 = 15 := by rw [e1832]; exact k1820
  have k1860 : mK m1831 q1141 = 15 := by rw [e1832]; exact k1821
  have k1861 : mK m1831 q1205 = 16 := by rw [e1832]; exact k1822
  have k1862 : mK m1831 q1271 = 16 := by rw [e1832]; exact k1823
  have k1863 : mK m1831 q1339 = 15 := by rw [e1832]; exact k1824
  have k1864 : mK m1831 q1409 = 15 := by rw [e1832]; exact k1825
  have k1865 : mK m1831 q1481 = 15 := by rw [e1832]; exact k1826
  have k1866 : mK m1831 q1555 = 16 := by rw [e1832]; exact k1827
  have k1867 : mK m1831 q1631 = 15 := by rw [e1832]; exact k1828
  have k1868 : mK m1831 q1709 = 15 := by rw [e1832]; exact k1829
  have k1869 : mK m1831 q1789 = 16 := by rw [e1832]; exact k1830
  refine at_aload_n (i := 0) 0 396 rfl (by decide +kernel) rfl ?_
  refine at_bipush (n := 6) (6 : Int32) 398 rfl (by decide +kernel) (by decide +kernel) ?_
  obtain ⟨z1870, h⟩ := h
  refine at_newaJ 400 rfl z1870 (by decide +kernel) tw_199 (by decide +kernel) (by decide +kernel) (fun q1871 m1872 e1873 e1874 => ?_)
  replace h := h q1871 m1872 e1873 e1874
  have x1875 : Ext m1831 m1872 := by rw [e1874, e1873]; exact Ext.nw z1870 _ _ _
  have k1876 : mK m1872 q2 = 15 := x1875.k k1833 (by decide)
  have k1877 : mK m1872 t = 13 := x1875.k k1834 (by decide)
  have k1878 : mK m1872 q30 = 15 := x1875.k k1835 (by decide)
  have k1879 : mK m1872 q44 = 16 := x1875.k k1836 (by decide)
  have k1880 : mK m1872 q60 = 16 := x1875.k k1837 (by decide)
  have k1881 : mK m1872 q120 = 15 := x1875.k k1838 (by decide)
  have k1882 : mK m1872 q167 = 15 := x1875.k k1839 (by decide)
  have k1883 : mK m1872 q219 = 14 := x1875.k k1840 (by decide)
  have k1884 : mK m1872 q253 = 14 := x1875.k k1841 (by decide)
  have k1885 : mK m1872 q279 = 15 := x1875.k k1842 (by decide)
  have k1886 : mK m1872 q307 = 15 := x1875.k k1843 (by decide)
  have k1887 : mK m1872 q337 = 15 := x1875.k k1844 (by decide)
  have k1888 : mK m1872 q369 = 15 := x1875.k k1845 (by decide)
  have k1889 : mK m1872 q403 = 15 := x1875.k k1846 (by decide)
  have k1890 : mK m1872 q439 = 15 := x1875.k k1847 (by decide)
  have k1891 : mK m1872 q477 = 15 := x1875.k k1848 (by decide)
  have k1892 : mK m1872 q517 = 15 := x1875.k k1849 (by decide)
  have k1893 : mK m1872 q559 = 17 := x1875.k k1850 (by decide)
  have k1894 : mK m1872 q603 = 17 := x1875.k k1851 (by decide)
  have k1895 : mK m1872 q649 = 15 := x1875.k k1852 (by decide)
  have k1896 : mK m1872 q697 = 15 := x1875.k k1853 (by decide)
  have k1897 : mK m1872 q747 = 15 := x1875.k k1854 (by decide)
  have k1898 : mK m1872 q799 = 15 := x1875.k k1855 (by decide)
  have k1899 : mK m1872 q905 = 15 := x1875.k k1856 (by decide)
  have k1900 : mK m1872 q961 = 15 := x1875.k k1857 (by decide)
  have k1901 : mK m1872 q1019 = 15 := x1875.k k1858 (by decide)
  have k1902 : mK m1872 q1079 = 15 := x1875.k k1859 (by decide)
  have k1903 : mK m1872 q1141 = 15 := x1875.k k1860 (by decide)
  have k1904 : mK m1872 q1205 = 16 := x1875.k k1861 (by decide)
  have k1905 : mK m1872 q1271 = 16 := x1875.k k1862 (by decide)
  have k1906 : mK m1872 q1339 = 15 := x1875.k k1863 (by decide)
  have k1907 : mK m1872 q1409 = 15 := x1875.k k1864 (by decide)
  have k1908 : mK m1872 q1481 = 15 := x1875.k k1865 (by decide)
  have k1909 : mK m1872 q1555 = 16 := x1875.k k1866 (by decide)
  have k1910 : mK m1872 q1631 = 15 := x1875.k k1867 (by decide)
  have k1911 : mK m1872 q1709 = 15 := x1875.k k1868 (by decide)
  have k1912 : mK m1872 q1789 = 16 := x1875.k k1869 (by decide)
  have k1913 : mK m1872 q1871 = 16 := by rw [e1874]; exact if_pos rfl
  refine at_putRF (index := 143) cok12 56 403 rfl (by decide +kernel) k1877 (by decide +kernel) tw_1141 rfl rfl rfl rfl (Or.inr ⟨_, rfl⟩) (fun m1914 e1915 => ?_)
  replace h := h m1914 e1915
  have k1916 : mK m1914 q2 = 15 := by rw [e1915]; exact k1876
  have k1917 : mK m1914 t = 13 := by rw [e1915]; exact k1877
  have k1918 : mK m1914 q30 = 15 := by rw [e1915]; exact k1878
  have k1919 : mK m1914 q44 = 16 := by rw [e1915]; exact k1879
  have k1920 : mK m1914 q60 = 16 := by rw [e1915]; exact k1880
  have k1921 : mK m1914 q120 = 15 := by rw [e1915]; exact k1881
  have k1922 : mK m1914 q167 = 15 := by rw [e1915]; exact k1882
  have k1923 : mK m1914 q219 = 14 := by rw [e1915]; exact k1883
  have k1924 : mK m1914 q253 = 14 := by rw [e1915]; exact k1884
  have k1925 : mK m1914 q279 = 15 := by rw [e1915]; exact k1885
  have k1926 : mK m1914 q307 = 15 := by rw [e1915]; exact k1886
  have k1927 : mK m1914 q337 = 15 := by rw [e1915]; exact k1887
  have k1928 : mK m1914 q369 = 15 := by rw [e1915]; exact k1888
  have k1929 : mK m1914 q403 = 15 := by rw [e1915]; exact k1889
  have k1930 : mK m1914 q439 = 15 := by rw [e1915]; exact k1890
  have k1931 : mK m1914 q477 = 15 := by rw [e1915]; exact k1891
  have k1932 : mK m1914 q517 = 15 := by rw [e1915]; exact k1892
  have k1933 : mK m1914 q559 = 17 := by rw [e1915]; exact k1893
  have k1934 : mK m1914 q603 = 17 := by rw [e1915]; exact k1894
  have k1935 : mK m1914 q649 = 15 := by rw [e1915]; exact k1895
  have k1936 : mK m1914 q697 = 15 := by rw [e1915]; exact k1896
  have k1937 : mK m1914 q747 = 15 := by rw [e1915]; exact k1897
  have k1938 : mK m1914 q799 = 15 := by rw [e1915]; exact k1898
  have k1939 : mK m1914 q905 = 15 := by rw [e1915]; exact k1899
  have k1940 : mK m1914 q961 = 15 := by rw [e1915]; exact k1900
  have k1941 : mK m1914 q1019 = 15 := by rw [e1915]; exact k1901
  have k1942 : mK m1914 q1079 = 15 := by rw [e1915]; exact k1902
  have k1943 : mK m1914 q1141 = 15 := by rw [e1915]; exact k1903
  have k1944 : mK m1914 q1205 = 16 := by rw [e1915]; exact k1904
  have k1945 : mK m1914 q1271 = 16 := by rw [e1915]; exact k1905
  have k1946 : mK m1914 q1339 = 15 := by rw [e1915]; exact k1906
  have k1947 : mK m1914 q1409 = 15 := by rw [e1915]; exact k1907
  have k1948 : mK m1914 q1481 = 15 := by rw [e1915]; exact k1908
  have k1949 : mK m1914 q1555 = 16 := by rw [e1915]; exact k1909
  have k1950 : mK m1914 q1631 = 15 := by rw [e1915]; exact k1910
  have k1951 : mK m1914 q1709 = 15 := by rw [e1915]; exact k1911
  have k1952 : mK m1914 q1789 = 16 := by rw [e1915]; exact k1912
  have k1953 : mK m1914 q1871 = 16 := by rw [e1915]; exact k1913
  refine at_aload_n (i := 0) 0 404 rfl (by decide +kernel) rfl ?_
  refine at_bipush (n := 61) (61 : Int32) 406 rfl (by decide +kernel) (by decide +kernel) ?_
  obtain ⟨z1954, h⟩ := h
  refine at_newaJ 408 rfl z1954 (by decide +kernel) tw_199 (by decide +kernel) (by decide +kernel) (fun q1955 m1956 e1957 e1958 => ?_)
  replace h := h q1955 m1956 e1957 e1958
  have x1959 : Ext m1914 m1956 := by rw [e1958, e1957]; exact Ext.nw z1954 _ _ _
  have k1960 : mK m1956 q2 = 15 := x1959.k k1916 (by decide)
  have k1961 : mK m1956 t = 13 := x1959.k k1917 (by decide)
  have k1962 : mK m1956 q30 = 15 := x1959.k k1918 (by decide)
  have k1963 : mK m1956 q44 = 16 := x1959.k k1919 (by decide)
  have k1964 : mK m1956 q60 = 16 := x1959.k k1920 (by decide)
  have k1965 : mK m1956 q120 = 15 := x1959.k k1921 (by decide)
  have k1966 : mK m1956 q167 = 15 := x1959.k k1922 (by decide)
  have k1967 : mK m1956 q219 = 14 := x1959.k k1923 (by decide)
  have k1968 : mK m1956 q253 = 14 := x1959.k k1924 (by decide)
  have k1969 : mK m1956 q279 = 15 := x1959.k k1925 (by decide)
  have k1970 : mK m1956 q307 = 15 := x1959.k k1926 (by decide)
  have k1971 : mK m1956 q337 = 15 := x1959.k k1927 (by decide)
  have k1972 : mK m1956 q369 = 15 := x1959.k k1928 (by decide)
  have k1973 : mK m1956 q403 = 15 := x1959.k k1929 (by decide)
  have k1974 : mK m1956 q439 = 15 := x1959.k k1930 (by decide)
  have k1975 : mK m1956 q477 = 15 := x1959.k k1931 (by decide)
  have k1976 : mK m1956 q517 = 15 := x1959.k k1932 (by decide)
  have k1977 : mK m1956 q559 = 17 := x1959.k k1933 (by decide)
  have k1978 : mK m1956 q603 = 17 := x1959.k k1934 (by decide)
  have k1979 : mK m1956 q649 = 15 := x1959.k k1935 (by decide)
  have k1980 : mK m1956 q697 = 15 := x1959.k k1936 (by decide)
  have k1981 : mK m1956 q747 = 15 := x1959.k k1937 (by decide)
  have k1982 : mK m1956 q799 = 15 := x1959.k k1938 (by decide)
  have k1983 : mK m1956 q905 = 15 := x1959.k k1939 (by decide)
  have k1984 : mK m1956 q961 = 15 := x1959.k k1940 (by decide)
  have k1985 : mK m1956 q1019 = 15 := x1959.k k1941 (by decide)
  have k1986 : mK m1956 q1079 = 15 := x1959.k k1942 (by decide)
  have k1987 : mK m1956 q1141 = 15 := x1959.k k1943 (by decide)
  have k1988 : mK m1956 q1205 = 16 := x1959.k k1944 (by decide)
  have k1989 : mK m1956 q1271 = 16 := x1959.k k1945 (by decide)
  have k1990 : mK m1956 q1339 = 15 := x1959.k k1946 (by decide)
  have k1991 : mK m1956 q1409 = 15 := x1959.k k1947 (by decide)
  have k1992 : mK m1956 q1481 = 15 := x1959.k k1948 (by decide)
  have k1993 : mK m1956 q1555 = 16 := x1959.k k1949 (by decide)
  have k1994 : mK m1956 q1631 = 15 := x1959.k k1950 (by decide)
  have k1995 : mK m1956 q1709 = 15 := x1959.k k1951 (by decide)
  have k1996 : mK m1956 q1789 = 16 := x1959.k k1952 (by decide)
  have k1997 : mK m1956 q1871 = 16 := x1959.k k1953 (by decide)
  have k1998 : mK m1956 q1955 = 16 := by rw [e1958]; exact if_pos rfl
  refine at_putRF (index := 146) cok12 65 411 rfl (by decide +kernel) k1961 (by decide +kernel) tw_1150 rfl rfl rfl rfl (Or.inr ⟨_, rfl⟩) (fun m1999 e2000 => ?_)
  replace h := h m1999 e2000
  have k2001 : mK m1999 q2 = 15 := by rw [e2000]; exact k1960
  have k2002 : mK m1999 t = 13 := by rw [e2000]; exact k1961
  have k2003 : mK m1999 q30 = 15 := by rw [e2000]; exact k1962
  have k2004 : mK m1999 q44 = 16 := by rw [e2000]; exact k1963
  have k2005 : mK m1999 q60 = 16 := by rw [e2000]; exact k1964
  have k2006 : mK m1999 q120 = 15 := by rw [e2000]; exact k1965
  have k2007 : mK m1999 q167 = 15 := by rw [e2000]; exact k1966
  have k2008 : mK m1999 q219 = 14 := by rw [e2000]; exact k1967
  have k2009 : mK m1999 q253 = 14 := by rw [e2000]; exact k1968
  have k2010 : mK m1999 q279 = 15 := by rw [e2000]; exact k1969
  have k2011 : mK m1999 q307 = 15 := by rw [e2000]; exact k1970
  have k2012 : mK m1999 q337 = 15 := by rw [e2000]; exact k1971
  have k2013 : mK m1999 q369 = 15 := by rw [e2000]; exact k1972
  have k2014 : mK m1999 q403 = 15 := by rw [e2000]; exact k1973
  have k2015 : mK m1999 q439 = 15 := by rw [e2000]; exact k1974
  have k2016 : mK m1999 q477 = 15 := by rw [e2000]; exact k1975
  have k2017 : mK m1999 q517 = 15 := by rw [e2000]; exact k1976
  have k2018 : mK m1999 q559 = 17 := by rw [e2000]; exact k1977
  have k2019 : mK m1999 q603 = 17 := by rw [e2000]; exact k1978
  have k2020 : mK m1999 q649 = 15 := by rw [e2000]; exact k1979
  have k2021 : mK m1999 q697 = 15 := by rw [e2000]; exact k1980
  have k2022 : mK m1999 q747 = 15 := by rw [e2000]; exact k1981
  have k2023 : mK m1999 q799 = 15 := by rw [e2000]; exact k1982
  have k2024 : mK m1999 q905 = 15 := by rw [e2000]; exact k1983
  have k2025 : mK m1999 q961 = 15 := by rw [e2000]; exact k1984
  have k2026 : mK m1999 q1019 = 15 := by rw [e2000]; exact k1985
  have k2027 : mK m1999 q1079 = 15 := by rw [e2000]; exact k1986
  have k2028 : mK m1999 q1141 = 15 := by rw [e2000]; exact k1987
  have k2029 : mK m1999 q1205 = 16 := by rw [e2000]; exact k1988
  have k2030 : mK m1999 q1271 = 16 := by rw [e2000]; exact k1989
  have k2031 : mK m1999 q1339 = 15 := by rw [e2000]; exact k1990
  have k2032 : mK m1999 q1409 = 15 := by rw [e2000]; exact k1991
  have k2033 : mK m1999 q1481 = 15 := by rw [e2000]; exact k1992
  have k2034 : mK m1999 q1555 = 16 := by rw [e2000]; exact k1993
  have k2035 : mK m1999 q1631 = 15 := by rw [e2000]; exact k1994
  have k2036 : mK m1999 q1709 = 15 := by rw [e2000]; exact k1995
  have k2037 : mK m1999 q1789 = 16 := by rw [e2000]; exact k1996
  have k2038 : mK m1999 q1871 = 16 := by rw [e2000]; exact k1997
  have k2039 : mK m1999 q1955 = 16 := by rw [e2000]; exact k1998
  refine at_iconst (n := 0) (0 : Int32) 412 rfl (by decide +kernel) (by decide +kernel) ?_
  refine at_istore_n (i := 1) (lc' := [(0, va_rf (some t)), (1, .int ((0 : Int32)))]) [1, 0] 413 rfl (by decide +kernel) (by decide +kernel) rfl ?_
  exact h
set_option maxRecDepth 20000 in
set_option maxHeartbeats 4000000 in
theorem en_RF_in (g : Gc) {lv : Nat} {l0 : Int64} {l2 : Int64} {l4 : Int64} {m : Mm} {Q : Int32 → Mm → Prop} (h : if (l0) < (l2) then (Q (0 : Int32) m) else (if (l4) < (l0) then (Q (0 : Int32) m) else (Q (1 : Int32) m))) : CI g M_RF_in (lv + 1) [.long (l0), .long (l2), .long (l4)] m Q := by
  refine Call.of (by decide +kernel) (Nat.le_of_ble_eq_true rfl) ?_
  show At g M_RF_in (lv + 1) 0 [(0, .long (l0)), (2, .long (l2)), (4, .long (l4))] [] m (QI Q)
  refine at_lload_n (i := 0) 0 1 rfl (by decide +kernel) rfl ?_
  refine at_lload_n (i := 2) 1 2 rfl (by decide +kernel) rfl ?_
  refine at_lif_lt (off := 14) 3 17 6 rfl rfl (by decide +kernel) (by decide +kernel) (by decide +kernel) (fun c1 => ?_) (fun c1 => ?_)
  · rw [if_pos c1] at h
    refine at_iconst (n := 0) (0 : Int32) 18 rfl (by decide +kernel) (by decide +kernel) ?_
    exact at_zret rfl (by decide +kernel) (Or.inl rfl) h
  · rw [if_neg c1] at h
    refine at_lload_n (i := 0) 0 7 rfl (by decide +kernel) rfl ?_
    refine at_lload (i := 4) 2 9 rfl (by decide +kernel) rfl ?_
    refine at_lif_gt (off := 7) 10 17 13 rfl rfl (by decide +kernel) (by decide +kernel) (by decide +kernel) (fun c2 => ?_) (fun c2 => ?_)
    · rw [if_pos c2] at h
      refine at_iconst (n := 0) (0 : Int32) 18 rfl (by decide +kernel) (by decide +kernel) ?_
      exact at_zret rfl (by decide +kernel) (Or.inl rfl) h
    · rw [if_neg c2] at h
      refine at_iconst (n := 1) (1 : Int32) 14 rfl (by decide +kernel) (by decide +kernel) ?_
      refine at_goto (off := 4) 18 (by decide +kernel) (by decide +kernel) ?_
      exact at_zret rfl (by decide +kernel) (Or.inr rfl) h
set_option maxRecDepth 20000 in
set_option maxHeartbeats 4000000 in
theorem en_RF_isSlot (g : Gc) {lv : Nat} {l0 : Int32} {m : Mm} {Q : Int32 → Mm → Prop} (h : CI g M_RF_in lv [.long (l0.toInt64), .long ((0 : Int64)), .long ((3 : Int64))] m (fun x1 m2 => (b01 x1 ∧ (Q x1 m2)))) : CI g M_RF_isSlot (lv + 1) [.int (l0)] m Q := by
  refine Call.of (by decide +kernel) (Nat.le_of_ble_eq_true rfl) ?_
  show At g M_RF_isSlot (lv + 1) 0 [(0, .int (l0))] [] m (QI Q)
  refine at_iload_n (i := 0) 0 1 rfl (by decide +kernel) rfl ?_
  refine at_i2l 2 rfl (by decide +kernel) ?_
  refine at_lconst (n := 0) (0 : Int64) 3 rfl (by decide +kernel) (by decide +kernel) ?_
  refine at_ldc2 (index := 152) (3 : Int64) 6 rfl (by decide +kernel) tw_1291 ?_
  refine at_callS mb_RF_in tw_1293 (index := 154) tw_1292 [.long (l0.toInt64), .long ((0 : Int64)), .long ((3 : Int64))] [] rfl rfl (by decide) 9 rfl (by decide +kernel) (Call.toI (CI.monoE h (fun x1 m2 h y3 => ?_)))
  obtain ⟨d4, h⟩ := h
  exact at_zret rfl (by decide +kernel) d4 h
set_option maxRecDepth 20000 in
set_option maxHeartbeats 4000000 in
theorem en_RF_cut (g : Gc) {lv : Nat} {l0 : Int32} {l1 : Int64} {m : Mm} {Q : Int64 → Mm → Prop} (h : if (l0) = 0 then (Q l1.toInt32.toInt8.toInt32.toInt64 m) else (if (l0) = ((1 : Int32)) then (Q l1.toInt32.toInt16.toInt32.toInt64 m) else (if (l0) = ((2 : Int32)) then (Q l1.toInt32.toInt64 m) else (Q l1 m)))) : CJ g M_RF_cut (lv + 1) [.int (l0), .long (l1)] m Q := by
  refine Call.of (by decide +kernel) (Nat.le_of_ble_eq_true rfl) ?_
  show At g M_RF_cut (lv + 1) 0 [(0, .int (l0)), (1, .long (l1))] [] m (QJ Q)
  refine at_iload_n (i := 0) 0 1 rfl (by decide +kernel) rfl ?_
  refine at_if_ne (off := 10) 11 4 rfl (by decide +kernel) (by decide +kernel) (fun c1 => ?_) (fun c1 => ?_)
  · rw [if_neg c1] at h
    refine at_iload_n (i := 0) 0 12 rfl (by decide +kernel) rfl ?_
    refine at_iconst (n := 1) (1 : Int32) 13 rfl (by decide +kernel) (by decide +kernel) ?_
    refine at_icmp_ne (off := 10) 23 16 rfl (by decide +kernel) (by decide +kernel) (fun c2 => ?_) (fun c2 => ?_)
    · rw [if_neg c2] at h
      refine at_iload_n (i := 0) 0 24 rfl (by decide +kernel) rfl ?_
      refine at_iconst (n := 2) (2 : Int32) 25 rfl (by decide +kernel) (by decide +kernel) ?_
      refine at_icmp_ne (off := 9) 34 28 rfl (by decide +kernel) (by decide +kernel) (fun c3 => ?_) (fun c3 => ?_)
      · rw [if_neg c3] at h
        refine at_lload_n (i := 1) 1 35 rfl (by decide +kernel) rfl ?_
        exact at_lret rfl (by decide +kernel) h
      · rw [if_pos c3] at h
        refine at_lload_n (i := 1) 1 29 rfl (by decide +kernel) rfl ?_
        refine at_l2i 30 rfl (by decide +kernel) ?_
        refine at_i2l 31 rfl (by decide +kernel) ?_
        refine at_goto (off := 4) 35 (by decide +kernel) (by decide +kernel) ?_
        exact at_lret rfl (by decide +kernel) h
    · rw [if_pos c2] at h
      refine at_lload_n (i := 1) 1 17 rfl (by decide +kernel) rfl ?_
      refine at_l2i 18 rfl (by decide +kernel) ?_
      refine at_i2s 19 rfl (by decide +kernel) ?_
      refine at_i2l 20 rfl (by decide +kernel) ?_
      refine at_goto (off := 15) 35 (by decide +kernel) (by decide +kernel) ?_
      exact at_lret rfl (by decide +kernel) h
  · rw [if_pos c1] at h
    refine at_lload_n (i := 1) 1 5 rfl (by decide +kernel) rfl ?_
    refine at_l2i 6 rfl (by decide +kernel) ?_
    refine at_i2b 7 rfl (by decide +kernel) ?_
    refine at_i2l 8 rfl (by decide +kernel) ?_
    refine at_goto (off := 27) 35 (by decide +kernel) (by decide +kernel) ?_
    exact at_lret rfl (by decide +kernel) h
set_option maxRecDepth 20000 in
set_option maxHeartbeats 4000000 in
theorem bk_RF_row_57 (g : Gc) {lv : Nat} {t : Nat} {l1 : Int32} {l4 : Int32} {m : Mm} {Q : Int32 → Mm → Prop} (h : if ((60 : Int32)) ≤ (l4) then (Q (0 : Int32) m) else (mK m t = 13 ∧ (∃ b3, mR m t 3 = some b3 ∧ (mK m b3 = 16 ∧ (vp_in (((60 : Int32) * l1) + l4) (mN m b3) ∧ (∀ m7, m7 = sL m b3 (((60 : Int32) * l1) + l4).toNatClampNeg (0 : Int64) → (At g M_RF_row (lv + 1) 57 [(0, va_rf (some t)), (1, .int (l1)), (4, .int (l4 + (1 : Int32)))] [] m7 (QI Q)))))))) : At g M_RF_row (lv + 1) 57 [(0, va_rf (some t)), (1, .int (l1)), (4, .int (l4))] [] m (QI Q) := by
  refine at_iload (i := 4) 2 59 rfl (by decide +kernel) rfl ?_
  refine at_bipush (n := 60) (60 : Int32) 61 rfl (by decide +kernel) (by decide +kernel) ?_
  refine at_icmp_ge (off := 22) 83 64 rfl (by decide +kernel) (by decide +kernel) (fun c1 => ?_) (fun c1 => ?_)
  · rw [if_pos c1] at h
    refine at_iconst (n := 0) (0 : Int32) 84 rfl (by decide +kernel) (by decide +kernel) ?_
    exact at_iret rfl (by decide +kernel) h
  · rw [if_neg c1] at h
    refine at_aload_n (i := 0) 0 65 rfl (by decide +kernel) rfl ?_
    obtain ⟨k2, h⟩ := h
    refine at_get (index := 16) (v := va_rf (mR m t 3)) cok12 3 68 rfl (by decide +kernel) k2 (by decide +kernel) tw_1088 rfl ?_
    refine at_bipush (n := 60) (60 : Int32) 70 rfl (by decide +kernel) (by decide +kernel) ?_
    refine at_iload_n (i := 1) 1 71 rfl (by decide +kernel) rfl ?_
    refine at_imul 72 rfl (by decide +kernel) ?_
    refine at_iload (i := 4) 2 74 rfl (by decide +kernel) rfl ?_
    refine at_iadd 75 rfl (by decide +kernel) ?_
    refine at_lconst (n := 0) (0 : Int64) 76 rfl (by decide +kernel) (by decide +kernel) ?_
    obtain ⟨b3, e4, h⟩ := h
    rw [e4]
    obtain ⟨k5, h⟩ := h
    obtain ⟨v6, h⟩ := h
    refine at_last 77 rfl (by decide +kernel) k5 v6 (fun m7 e8 => ?_)
    replace h := h m7 e8
    have k9 : mK m7 t = 13 := by rw [e8]; exact k2
    have k10 : mK m7 b3 = 16 := by rw [e8]; exact k5
    refine at_iinc (i := 4) (n := 1) (lc' := [(0, va_rf (some t)), (1, .int (l1)), (4, .int (l4 + (1 : Int32)))]) (l4 + (1 : Int32)) 2 [1, 2, 0] 80 rfl (by decide +kernel) rfl (by rw [show Int32.ofInt 1 = (1 : Int32) from by decide +kernel]) (by decide +kernel) rfl ?_
    refine at_goto (off := (-23)) 57 (by decide +kernel) (by decide +kernel) ?_
    exact h
set_option maxRecDepth 20000 in
set_option maxHeartbeats 4000000 in
theorem en_RF_row (g : Gc) {lv : Nat} {t : Nat} {l1 : Int32} {l2 : Int32} {l3 : Int32} {m : Mm} {Q : Int32 → Mm → Prop} (h : mK m t = 13 ∧ (∀ m2, m2 = sI m t 0 (0 : Int32) → (CI g M_RF_isSlot lv [.int (l1)] m2 (fun x5 m6 => (if (x5) = 0 then (Q (-2 : Int32) m6) else (CI g M_RF_in lv [.long (l2.toInt64), .long ((0 : Int64)), .long ((3 : Int64))] m6 (fun x10 m11 => (if (x10) = 0 then (Q (-2 : Int32) m11) else (if (l3) ≤ ((60 : Int32)) then (if 0 ≤ (l3) then (∃ b17, mR m11 t 1 = some b17 ∧ (mK m11 b17 = 15 ∧ (vp_in l1 (mN m11 b17) ∧ (∀ m21, m21 = sI m11 b17 l1.toNatClampNeg l2 → (∃ b25, mR m21 t 2 = some b25 ∧ (mK m21 b25 = 15 ∧ (vp_in l1 (mN m21 b25) ∧ (∀ m29, m29 = sI m21 b25 l1.toNatClampNeg l3 → (At g M_RF_row (lv + 1) 57 [(0, va_rf (some t)), (1, .int (l1)), (4, .int ((0 : Int32)))] [] m29 (QI Q)))))))))) else (Q (-3 : Int32) m11)) else (Q (-2 : Int32) m11)))))))))) : CI g M_RF_row (lv + 1) [va_rf (some t), .int (l1), .int (l2), .int (l3)] m Q := by
  refine Call.of (by decide +kernel) (Nat.le_of_ble_eq_true rfl) ?_
  show At g M_RF_row (lv + 1) 0 [(0, va_rf (some t)), (1, .int (l1)), (2, .int (l2)), (3, .int (l3))] [] m (QI Q)
  refine at_aload_n (i := 0) 0 1 rfl (by decide +kernel) rfl ?_
  refine at_iconst (n := 0) (0 : Int32) 2 rfl (by decide +kernel) (by decide +kernel) ?_
  obtain ⟨k1, h⟩ := h
  refine at_putI (index := 149) cok12 0 5 rfl (by decide +kernel) k1 (by decide +kernel) tw_1085 rfl rfl rfl (fun m2 e3 => ?_)
  replace h := h m2 e3
  have k4 : mK m2 t = 13 := by rw [e3]; exact k1
  refine at_iload_n (i := 1) 1 6 rfl (by decide +kernel) rfl ?_
  refine at_callS mb_RF_isSlot tw_1289 (index := 158) tw_1288 [.int (l1)] [] rfl rfl (by decide) 9 rfl (by decide +kernel) (Call.toI (CI.monoE h (fun x5 m6 h y7 => ?_)))
  have k8 : mK m6 t = 13 := y7.k k4 (by decide)
  refine at_if_eq (off := 21) 30 12 rfl (by decide +kernel) (by decide +kernel) (fun c9 => ?_) (fun c9 => ?_)
  · rw [if_pos c9] at h
    refine at_bipush (n := (-2)) (-2 : Int32) 32 rfl (by decide +kernel) (by decide +kernel) ?_
    exact at_iret rfl (by decide +kernel) h
  · rw [if_neg c9] at h
    refine at_iload_n (i := 2) 2 13 rfl (by decide +kernel) rfl ?_
    refine at_i2l 14 rfl (by decide +kernel) ?_
    refine at_lconst (n := 0) (0 : Int64) 15 rfl (by decide +kernel) (by decide +kernel) ?_
    refine at_ldc2 (index := 152) (3 : Int64) 18 rfl (by decide +kernel) tw_1291 ?_
    refine at_callS mb_RF_in tw_1293 (index := 154) tw_1292 [.long (l2.toInt64), .long ((0 : Int64)), .long ((3 : Int64))] [] rfl rfl (by decide) 21 rfl (by decide +kernel) (Call.toI (CI.monoE h (fun x10 m11 h y12 => ?_)))
    have k13 : mK m11 t = 13 := y12.k k8 (by decide)
    refine at_if_eq (off := 9) 30 24 rfl (by decide +kernel) (by decide +kernel) (fun c14 => ?_) (fun c14 => ?_)
    · rw [if_pos c14] at h
      refine at_bipush (n := (-2)) (-2 : Int32) 32 rfl (by decide +kernel) (by decide +kernel) ?_
      exact at_iret rfl (by decide +kernel) h
    · rw [if_neg c14] at h
      refine at_iload_n (i := 3) 3 25 rfl (by decide +kernel) rfl ?_
      refine at_bipush (n := 60) (60 : Int32) 27 rfl (by decide +kernel) (by decide +kernel) ?_
      refine at_icmp_le (off := 6) 33 30 rfl (by decide +kernel) (by decide +kernel) (fun c15 => ?_) (fun c15 => ?_)
      · rw [if_pos c15] at h
        refine at_iload_n (i := 3) 3 34 rfl (by decide +kernel) rfl ?_
        refine at_if_ge (off := 6) 40 37 rfl (by decide +kernel) (by decide +kernel) (fun c16 => ?_) (fun c16 => ?_)
        · rw [if_pos c16] at h
          refine at_aload_n (i := 0) 0 41 rfl (by decide +kernel) rfl ?_
          refine at_get (index := 9) (v := va_rf (mR m11 t 1)) cok12 1 44 rfl (by decide +kernel) k13 (by decide +kernel) tw_1086 rfl ?_
          refine at_iload_n (i := 1) 1 45 rfl (by decide +kernel) rfl ?_
          refine at_iload_n (i := 2) 2 46 rfl (by decide +kernel) rfl ?_
          obtain ⟨b17, e18, h⟩ := h
          rw [e18]
          obtain ⟨k19, h⟩ := h
          obtain ⟨v20, h⟩ := h
          refine at_iast 47 rfl (by decide +kernel) k19 v20 (fun m21 e22 => ?_)
          replace h := h m21 e22
          have k23 : mK m21 t = 13 := by rw [e22]; exact k13
          have k24 : mK m21 b17 = 15 := by rw [e22]; exact k19
          refine at_aload_n (i := 0) 0 48 rfl (by decide +kernel) rfl ?_
          refine at_get (index := 13) (v := va_rf (mR m21 t 2)) cok12 2 51 rfl (by decide +kernel) k23 (by decide +kernel) tw_1087 rfl ?_
          refine at_iload_n (i := 1) 1 52 rfl (by decide +kernel) rfl ?_
          refine at_iload_n (i := 3) 3 53 rfl (by decide +kernel) rfl ?_
          obtain ⟨b25, e26, h⟩ := h
          rw [e26]
          obtain ⟨k27, h⟩ := h
          obtain ⟨v28, h⟩ := h
          refine at_iast 54 rfl (by decide +kernel) k27 v28 (fun m29 e30 => ?_)
          replace h := h m29 e30
          have k31 : mK m29 t = 13 := by rw [e30]; exact k23
          have k32 : mK m29 b17 = 15 := by rw [e30]; exact k24
          have k33 : mK m29 b25 = 15 := by rw [e30]; exact k27
          refine at_iconst (n := 0) (0 : Int32) 55 rfl (by decide +kernel) (by decide +kernel) ?_
          refine at_istore (i := 4) (lc' := [(0, va_rf (some t)), (1, .int (l1)), (4, .int ((0 : Int32)))]) [1, 2, 0] 57 rfl (by decide +kernel) (by decide +kernel) rfl ?_
          exact h
        · rw [if_neg c16] at h
          refine at_bipush (n := (-3)) (-3 : Int32) 39 rfl (by decide +kernel) (by decide +kernel) ?_
          exact at_iret rfl (by decide +kernel) h
      · rw [if_neg c15] at h
        refine at_bipush (n := (-2)) (-2 : Int32) 32 rfl (by decide +kernel) (by decide +kernel) ?_
        exact at_iret rfl (by decide +kernel) h
set_option maxRecDepth 20000 in
set_option maxHeartbeats 4000000 in
theorem en_RF_tear (g : Gc) {lv : Nat} {t : Nat} {l1 : Int32} {m : Mm} {Q : Int32 → Mm → Prop} (h : mK m t = 13 ∧ (∀ m2, m2 = sI m t 0 (0 : Int32) → (CI g M_RF_isSlot lv [.int (l1)] m2 (fun x5 m6 => (if (x5) = 0 then (Q (0 : Int32) m6) else (∃ b10, mR m6 t 1 = some b10 ∧ (mK m6 b10 = 15 ∧ (vp_in l1 (mN m6 b10) ∧ (if 0 ≤ (mI m6 b10 l1.toNatClampNeg) then (vp_in l1 (mN m6 b10) ∧ (∀ m16, m16 = sI m6 b10 l1.toNatClampNeg (-1 : Int32) → (Q (1 : Int32) m16))) else (Q (0 : Int32) m6)))))))))) : CI g M_RF_tear (lv + 1) [va_rf (some t), .int (l1)] m Q := by
  refine Call.of (by decide +kernel) (Nat.le_of_ble_eq_true rfl) ?_
  show At g M_RF_tear (lv + 1) 0 [(0, va_rf (some t)), (1, .int (l1))] [] m (QI Q)
  refine at_aload_n (i := 0) 0 1 rfl (by decide +kernel) rfl ?_
  refine at_iconst (n := 0) (0 : Int32) 2 rfl (by decide +kernel) (by decide +kernel) ?_
  obtain ⟨k1, h⟩ := h
  refine at_putI (index := 149) cok12 0 5 rfl (by decide +kernel) k1 (by decide +kernel) tw_1085 rfl rfl rfl (fun m2 e3 => ?_)
  replace h := h m2 e3
  have k4 : mK m2 t = 13 := by rw [e3]; exact k1
  refine at_iload_n (i := 1) 1 6 rfl (by decide +kernel) rfl ?_
  refine at_callS mb_RF_isSlot tw_1289 (index := 158) tw_1288 [.int (l1)] [] rfl rfl (by decide) 9 rfl (by decide +kernel) (Call.toI (CI.monoE h (fun x5 m6 h y7 => ?_)))
  have k8 : mK m6 t = 13 := y7.k k4 (by decide)
  refine at_if_eq (off := 12) 21 12 rfl (by decide +kernel) (by decide +kernel) (fun c9 => ?_) (fun c9 => ?_)
  · rw [if_pos c9] at h
    refine at_iconst (n := 0) (0 : Int32) 22 rfl (by decide +kernel) (by decide +kernel) ?_
    exact at_zret rfl (by decide +kernel) (Or.inl rfl) h
  · rw [if_neg c9] at h
    refine at_aload_n (i := 0) 0 13 rfl (by decide +kernel) rfl ?_
    refine at_get (index := 9) (v := va_rf (mR m6 t 1)) cok12 1 16 rfl (by decide +kernel) k8 (by decide +kernel) tw_1086 rfl ?_
    refine at_iload_n (i := 1) 1 17 rfl (by decide +kernel) rfl ?_
    obtain ⟨b10, e11, h⟩ := h
    rw [e11]
    obtain ⟨k12, h⟩ := h
    obtain ⟨v13, h⟩ := h
    refine at_iald 18 rfl (by decide +kernel) k12 v13 ?_
    refine at_if_ge (off := 5) 23 21 rfl (by decide +kernel) (by decide +kernel) (fun c14 => ?_) (fun c14 => ?_)
    · rw [if_pos c14] at h
      refine at_aload_n (i := 0) 0 24 rfl (by decide +kernel) rfl ?_
      refine at_get (index := 9) (v := va_rf (mR m6 t 1)) cok12 1 27 rfl (by decide +kernel) k8 (by decide +kernel) tw_1086 rfl ?_
      rw [e11]
      refine at_iload_n (i := 1) 1 28 rfl (by decide +kernel) rfl ?_
      refine at_iconst (n := (-1)) (-1 : Int32) 29 rfl (by decide +kernel) (by decide +kernel) ?_
      obtain ⟨v15, h⟩ := h
      refine at_iast 30 rfl (by decide +kernel) k12 v15 (fun m16 e17 => ?_)
      replace h := h m16 e17
      have k18 : mK m16 t = 13 := by rw [e17]; exact k8
      have k19 : mK m16 b10 = 15 := by rw [e17]; exact k12
      refine at_iconst (n := 1) (1 : Int32) 31 rfl (by decide +kernel) (by decide +kernel) ?_
      exact at_zret rfl (by decide +kernel) (Or.inr rfl) h
    · rw [if_neg c14] at h
      refine at_iconst (n := 0) (0 : Int32) 22 rfl (by decide +kernel) (by decide +kernel) ?_
      exact at_zret rfl (by decide +kernel) (Or.inl rfl) h
set_option maxRecDepth 20000 in
set_option maxHeartbeats 4000000 in
theorem en_RF_write (g : Gc) {lv : Nat} {t : Nat} {l1 : Int32} {l2 : Int32} {l3 : Int64} {m : Mm} {Q : Int32 → Mm → Prop} (h : mK m t = 13 ∧ (∀ m2, m2 = sI m t 0 (0 : Int32) → (CI g M_RF_isSlot lv [.int (l1)] m2 (fun x5 m6 => (if (x5) = 0 then (Q (-2 : Int32) m6) else (∃ b10, mR m6 t 1 = some b10 ∧ (mK m6 b10 = 15 ∧ (vp_in l1 (mN m6 b10) ∧ (if 0 ≤ (mI m6 b10 l1.toNatClampNeg) then (∃ b15, mR m6 t 2 = some b15 ∧ (mK m6 b15 = 15 ∧ (vp_in l1 (mN m6 b15) ∧ (CI g M_RF_in lv [.long (l2.toInt64), .long ((0 : Int64)), .long (((mI m6 b15 l1.toNatClampNeg) - (1 : Int32)).toInt64)] m6 (fun x19 m20 => (if (x19) = 0 then (Q (-6 : Int32) m20) else (∃ b26, mR m20 t 1 = some b26 ∧ (mK m20 b26 = 15 ∧ (vp_in l1 (mN m20 b26) ∧ (CJ g M_RF_cut lv [.int (mI m20 b26 l1.toNatClampNeg), .long (l3)] m20 (fun x30 m31 => (∃ b37, mR m20 t 3 = some b37 ∧ (mK m31 b37 = 16 ∧ (vp_in (((60 : Int32) * l1) + l2) (mN m31 b37) ∧ (∀ m41, m41 = sL m31 b37 (((60 : Int32) * l1) + l2).toNatClampNeg x30 → (Q (0 : Int32) m41)))))))))))))))) else (Q (-5 : Int32) m6)))))))))) : CI g M_RF_write (lv + 1) [va_rf (some t), .int (l1), .int (l2), .long (l3)] m Q := by
  refine Call.of (by decide +kernel) (Nat.le_of_ble_eq_true rfl) ?_
  show At g M_RF_write (lv + 1) 0 [(0, va_rf (some t)), (1, .int (l1)), (2, .int (l2)), (3, .long (l3))] [] m (QI Q)
  refine at_aload_n (i := 0) 0 1 rfl (by decide +kernel) rfl ?_
  refine at_iconst (n := 0) (0 : Int32) 2 rfl (by decide +kernel) (by decide +kernel) ?_
  obtain ⟨k1, h⟩ := h
  refine at_putI (index := 149) cok12 0 5 rfl (by decide +kernel) k1 (by decide +kernel) tw_1085 rfl rfl rfl (fun m2 e3 => ?_)
  replace h := h m2 e3
  have k4 : mK m2 t = 13 := by rw [e3]; exact k1
  refine at_iload_n (i := 1) 1 6 rfl (by decide +kernel) rfl ?_
  refine at_callS mb_RF_isSlot tw_1289 (index := 158) tw_1288 [.int (l1)] [] rfl rfl (by decide) 9 rfl (by decide +kernel) (Call.toI (CI.monoE h (fun x5 m6 h y7 => ?_)))
  have k8 : mK m6 t = 13 := y7.k k4 (by decide)
  refine at_if_ne (off := 6) 15 12 rfl (by decide +kernel) (by decide +kernel) (fun c9 => ?_) (fun c9 => ?_)
  · rw [if_neg c9] at h
    refine at_aload_n (i := 0) 0 16 rfl (by decide +kernel) rfl ?_
    refine at_get (index := 9) (v := va_rf (mR m6 t 1)) cok12 1 19 rfl (by decide +kernel) k8 (by decide +kernel) tw_1086 rfl ?_
    refine at_iload_n (i := 1) 1 20 rfl (by decide +kernel) rfl ?_
    obtain ⟨b10, e11, h⟩ := h
    rw [e11]
    obtain ⟨k12, h⟩ := h
    obtain ⟨v13, h⟩ := h
    refine at_iald 21 rfl (by decide +kernel) k12 v13 ?_
    refine at_if_ge (off := 6) 27 24 rfl (by decide +kernel) (by decide +kernel) (fun c14 => ?_) (fun c14 => ?_)
    · rw [if_pos c14] at h
      refine at_iload_n (i := 2) 2 28 rfl (by decide +kernel) rfl ?_
      refine at_i2l 29 rfl (by decide +kernel) ?_
      refine at_lconst (n := 0) (0 : Int64) 30 rfl (by decide +kernel) (by decide +kernel) ?_
      refine at_aload_n (i := 0) 0 31 rfl (by decide +kernel) rfl ?_
      refine at_get (index := 13) (v := va_rf (mR m6 t 2)) cok12 2 34 rfl (by decide +kernel) k8 (by decide +kernel) tw_1087 rfl ?_
      refine at_iload_n (i := 1) 1 35 rfl (by decide +kernel) rfl ?_
      obtain ⟨b15, e16, h⟩ := h
      rw [e16]
      obtain ⟨k17, h⟩ := h
      obtain ⟨v18, h⟩ := h
      refine at_iald 36 rfl (by decide +kernel) k17 v18 ?_
      refine at_iconst (n := 1) (1 : Int32) 37 rfl (by decide +kernel) (by decide +kernel) ?_
      refine at_isub 38 rfl (by decide +kernel) ?_
      refine at_i2l 39 rfl (by decide +kernel) ?_
      refine at_callS mb_RF_in tw_1293 (index := 154) tw_1292 [.long (l2.toInt64), .long ((0 : Int64)), .long (((mI m6 b15 l1.toNatClampNeg) - (1 : Int32)).toInt64)] [] rfl rfl (by decide) 42 rfl (by decide +kernel) (Call.toI (CI.monoE h (fun x19 m20 h y21 => ?_)))
      have k22 : mK m20 t = 13 := y21.k k8 (by decide)
      have k23 : mK m20 b10 = 15 := y21.k k12 (by decide)
      have k24 : mK m20 b15 = 15 := y21.k k17 (by decide)
      refine at_if_ne (off := 6) 48 45 rfl (by decide +kernel) (by decide +kernel) (fun c25 => ?_) (fun c25 => ?_)
      · rw [if_neg c25] at h
        refine at_aload_n (i := 0) 0 49 rfl (by decide +kernel) rfl ?_
        refine at_get (index := 16) (v := va_rf (mR m20 t 3)) cok12 3 52 rfl (by decide +kernel) k22 (by decide +kernel) tw_1088 rfl ?_
        refine at_bipush (n := 60) (60 : Int32) 54 rfl (by decide +kernel) (by decide +kernel) ?_
        refine at_iload_n (i := 1) 1 55 rfl (by decide +kernel) rfl ?_
        refine at_imul 56 rfl (by decide +kernel) ?_
        refine at_iload_n (i := 2) 2 57 rfl (by decide +kernel) rfl ?_
        refine at_iadd 58 rfl (by decide +kernel) ?_
        refine at_aload_n (i := 0) 0 59 rfl (by decide +kernel) rfl ?_
        refine at_get (index := 9) (v := va_rf (mR m20 t 1)) cok12 1 62 rfl (by decide +kernel) k22 (by decide +kernel) tw_1086 rfl ?_
        refine at_iload_n (i := 1) 1 63 rfl (by decide +kernel) rfl ?_
        obtain ⟨b26, e27, h⟩ := h
        rw [e27]
        obtain ⟨k28, h⟩ := h
        obtain ⟨v29, h⟩ := h
        refine at_iald 64 rfl (by decide +kernel) k28 v29 ?_
        refine at_lload_n (i := 3) 3 65 rfl (by decide +kernel) rfl ?_
        refine at_callS mb_RF_cut tw_1304 (index := 162) tw_1303 [.int (mI m20 b26 l1.toNatClampNeg), .long (l3)] [.int (((60 : Int32) * l1) + l2), va_rf (mR m20 t 3)] rfl rfl (by simp [va_rf_cat, cat_int, cat_long]) 68 rfl (by decide +kernel) (Call.toJ (CJ.monoE h (fun x30 m31 h y32 => ?_)))
        have k33 : mK m31 t = 13 := y32.k k22 (by decide)
        have k34 : mK m31 b10 = 15 := y32.k k23 (by decide)
        have k35 : mK m31 b15 = 15 := y32.k k24 (by decide)
        have k36 : mK m31 b26 = 15 := y32.k k28 (by decide)
        obtain ⟨b37, e38, h⟩ := h
        rw [e38]
        obtain ⟨k39, h⟩ := h
        obtain ⟨v40, h⟩ := h
        refine at_last 69 rfl (by decide +kernel) k39 v40 (fun m41 e42 => ?_)
        replace h := h m41 e42
        have k43 : mK m41 t = 13 := by rw [e42]; exact k33
        have k44 : mK m41 b10 = 15 := by rw [e42]; exact k34
        have k45 : mK m41 b15 = 15 := by rw [e42]; exact k35
        have k46 : mK m41 b26 = 15 := by rw [e42]; exact k36
        have k47 : mK m41 b37 = 16 := by rw [e42]; exact k39
        refine at_iconst (n := 0) (0 : Int32) 70 rfl (by decide +kernel) (by decide +kernel) ?_
        exact at_iret rfl (by decide +kernel) h
      · rw [if_pos c25] at h
        refine at_bipush (n := (-6)) (-6 : Int32) 47 rfl (by decide +kernel) (by decide +kernel) ?_
        exact at_iret rfl (by decide +kernel) h
    · rw [if_neg c14] at h
      refine at_bipush (n := (-5)) (-5 : Int32) 26 rfl (by decide +kernel) (by decide +kernel) ?_
      exact at_iret rfl (by decide +kernel) h
  · rw [if_pos c9] at h
    refine at_bipush (n := (-2)) (-2 : Int32) 14 rfl (by decide +kernel) (by decide +kernel) ?_
    exact at_iret rfl (by decide +kernel) h
set_option maxRecDepth 20000 in
set_option maxHeartbeats 4000000 in
theorem bk_RF_paste_153 (g : Gc) {lv : Nat} {t : Nat} {l3 : Int32} {l4 : Int32} {l5 : Int32} {l6 : Int32} {m : Mm} {Q : Int32 → Mm → Prop} (h : if (l5) ≤ (l6) then (Q (0 : Int32) m) else (mK m t = 13 ∧ (∃ b3, mR m t 4 = some b3 ∧ (mK m b3 = 16 ∧ (vp_in l6 (mN m b3) ∧ (∃ b7, mR m t 3 = some b7 ∧ (mK m b7 = 16 ∧ (vp_in ((((60 : Int32) * l3) + l4) + l6) (mN m b7) ∧ (∀ m11, m11 = sL m b7 ((((60 : Int32) * l3) + l4) + l6).toNatClampNeg (mL m b3 l6.toNatClampNeg) → (At g M_RF_paste (lv + 1) 153 [(0, va_rf (some t)), (3, .int (l3)), (4, .int (l4)), (5, .int (l5)), (6, .int (l6 + (1 : Int32)))] [] m11 (QI Q))))))))))) : At g M_RF_paste (lv + 1) 153 [(0, va_rf (some t)), (3, .int (l3)), (4, .int (l4)), (5, .int (l5)), (6, .int (l6))] [] m (QI Q) := by
  refine at_iload (i := 6) 4 155 rfl (by decide +kernel) rfl ?_
  refine at_iload (i := 5) 3 157 rfl (by decide +kernel) rfl ?_
  refine at_icmp_ge (off := 31) 188 160 rfl (by decide +kernel) (by decide +kernel) (fun c1 => ?_) (fun c1 => ?_)
  · rw [if_pos c1] at h
    refine at_iconst (n := 0) (0 : Int32) 189 rfl (by decide +kernel) (by decide +kernel) ?_
    exact at_iret rfl (by decide +kernel) h
  · rw [if_neg c1] at h
    refine at_aload_n (i := 0) 0 161 rfl (by decide +kernel) rfl ?_
    obtain ⟨k2, h⟩ := h
    refine at_get (index := 16) (v := va_rf (mR m t 3)) cok12 3 164 rfl (by decide +kernel) k2 (by decide +kernel) tw_1088 rfl ?_
    refine at_bipush (n := 60) (60 : Int32) 166 rfl (by decide +kernel) (by decide +kernel) ?_
    refine at_iload_n (i := 3) 1 167 rfl (by decide +kernel) rfl ?_
    refine at_imul 168 rfl (by decide +kernel) ?_
    refine at_iload (i := 4) 2 170 rfl (by decide +kernel) rfl ?_
    refine at_iadd 171 rfl (by decide +kernel) ?_
    refine at_iload (i := 6) 4 173 rfl (by decide +kernel) rfl ?_
    refine at_iadd 174 rfl (by decide +kernel) ?_
    refine at_aload_n (i := 0) 0 175 rfl (by decide +kernel) rfl ?_
    refine at_get (index := 20) (v := va_rf (mR m t 4)) cok12 4 178 rfl (by decide +kernel) k2 (by decide +kernel) tw_1089 rfl ?_
    refine at_iload (i := 6) 4 180 rfl (by decide +kernel) rfl ?_
    obtain ⟨b3, e4, h⟩ := h
    rw [e4]
    obtain ⟨k5, h⟩ := h
    obtain ⟨v6, h⟩ := h
    refine at_lald 181 rfl (by decide +kernel) k5 v6 ?_
    obtain ⟨b7, e8, h⟩ := h
    rw [e8]
    obtain ⟨k9, h⟩ := h
    obtain ⟨v10, h⟩ := h
    refine at_last 182 rfl (by decide +kernel) k9 v10 (fun m11 e12 => ?_)
    replace h := h m11 e12
    have k13 : mK m11 t = 13 := by rw [e12]; exact k2
    have k14 : mK m11 b3 = 16 := by rw [e12]; exact k5
    have k15 : mK m11 b7 = 16 := by rw [e12]; exact k9
    refine at_iinc (i := 6) (n := 1) (lc' := [(0, va_rf (some t)), (3, .int (l3)), (4, .int (l4)), (5, .int (l5)), (6, .int (l6 + (1 : Int32)))]) (l6 + (1 : Int32)) 4 [1, 2, 3, 4, 0] 185 rfl (by decide +kernel) rfl (by rw [show Int32.ofInt 1 = (1 : Int32) from by decide +kernel]) (by decide +kernel) rfl ?_
    refine at_goto (off := (-32)) 153 (by decide +kernel) (by decide +kernel) ?_
    exact h
set_option maxRecDepth 20000 in
set_option maxHeartbeats 4000000 in
theorem bk_RF_paste_116 (g : Gc) {lv : Nat} {t : Nat} {l1 : Int32} {l2 : Int32} {l3 : Int32} {l4 : Int32} {l5 : Int32} {l6 : Int32} {m : Mm} {Q : Int32 → Mm → Prop} (h : if (l5) ≤ (l6) then (At g M_RF_paste (lv + 1) 153 [(0, va_rf (some t)), (3, .int (l3)), (4, .int (l4)), (5, .int (l5)), (6, .int ((0 : Int32)))] [] m (QI Q)) else (mK m t = 13 ∧ (∃ b3, mR m t 3 = some b3 ∧ (mK m b3 = 16 ∧ (vp_in ((((60 : Int32) * l1) + l2) + l6) (mN m b3) ∧ (∃ b7, mR m t 4 = some b7 ∧ (mK m b7 = 16 ∧ (vp_in l6 (mN m b7) ∧ (∀ m11, m11 = sL m b7 l6.toNatClampNeg (mL m b3 ((((60 : Int32) * l1) + l2) + l6).toNatClampNeg) → (At g M_RF_paste (lv + 1) 116 [(0, va_rf (some t)), (1, .int (l1)), (2, .int (l2)), (3, .int (l3)), (4, .int (l4)), (5, .int (l5)), (6, .int (l6 + (1 : Int32)))] [] m11 (QI Q))))))))))) : At g M_RF_paste (lv + 1) 116 [(0, va_rf (some t)), (1, .int (l1)), (2, .int (l2)), (3, .int (l3)), (4, .int (l4)), (5, .int (l5)), (6, .int (l6))] [] m (QI Q) := by
  refine at_iload (i := 6) 6 118 rfl (by decide +kernel) rfl ?_
  refine at_iload (i := 5) 5 120 rfl (by decide +kernel) rfl ?_
  refine at_icmp_ge (off := 30) 150 123 rfl (by decide +kernel) (by decide +kernel) (fun c1 => ?_) (fun c1 => ?_)
  · rw [if_pos c1] at h
    refine at_iconst (n := 0) (0 : Int32) 151 rfl (by decide +kernel) (by decide +kernel) ?_
    refine at_istore (i := 6) (lc' := [(0, va_rf (some t)), (3, .int (l3)), (4, .int (l4)), (5, .int (l5)), (6, .int ((0 : Int32)))]) [1, 4, 5, 6, 0] 153 rfl (by decide +kernel) (by decide +kernel) rfl ?_
    exact h
  · rw [if_neg c1] at h
    refine at_aload_n (i := 0) 0 124 rfl (by decide +kernel) rfl ?_
    obtain ⟨k2, h⟩ := h
    refine at_get (index := 20) (v := va_rf (mR m t 4)) cok12 4 127 rfl (by decide +kernel) k2 (by decide +kernel) tw_1089 rfl ?_
    refine at_iload (i := 6) 6 129 rfl (by decide +kernel) rfl ?_
    refine at_aload_n (i := 0) 0 130 rfl (by decide +kernel) rfl ?_
    refine at_get (index := 16) (v := va_rf (mR m t 3)) cok12 3 133 rfl (by decide +kernel) k2 (by decide +kernel) tw_1088 rfl ?_
    refine at_bipush (n := 60) (60 : Int32) 135 rfl (by decide +kernel) (by decide +kernel) ?_
    refine at_iload_n (i := 1) 1 136 rfl (by decide +kernel) rfl ?_
    refine at_imul 137 rfl (by decide +kernel) ?_
    refine at_iload_n (i := 2) 2 138 rfl (by decide +kernel) rfl ?_
    refine at_iadd 139 rfl (by decide +kernel) ?_
    refine at_iload (i := 6) 6 141 rfl (by decide +kernel) rfl ?_
    refine at_iadd 142 rfl (by decide +kernel) ?_
    obtain ⟨b3, e4, h⟩ := h
    rw [e4]
    obtain ⟨k5, h⟩ := h
    obtain ⟨v6, h⟩ := h
    refine at_lald 143 rfl (by decide +kernel) k5 v6 ?_
    obtain ⟨b7, e8, h⟩ := h
    rw [e8]
    obtain ⟨k9, h⟩ := h
    obtain ⟨v10, h⟩ := h
    refine at_last 144 rfl (by decide +kernel) k9 v10 (fun m11 e12 => ?_)
    replace h := h m11 e12
    have k13 : mK m11 t = 13 := by rw [e12]; exact k2
    have k14 : mK m11 b3 = 16 := by rw [e12]; exact k5
    have k15 : mK m11 b7 = 16 := by rw [e12]; exact k9
    refine at_iinc (i := 6) (n := 1) (lc' := [(0, va_rf (some t)), (1, .int (l1)), (2, .int (l2)), (3, .int (l3)), (4, .int (l4)), (5, .int (l5)), (6, .int (l6 + (1 : Int32)))]) (l6 + (1 : Int32)) 6 [1, 2, 3, 4, 5, 6, 0] 147 rfl (by decide +kernel) rfl (by rw [show Int32.ofInt 1 = (1 : Int32) from by decide +kernel]) (by decide +kernel) rfl ?_
    refine at_goto (off := (-31)) 116 (by decide +kernel) (by decide +kernel) ?_
    exact h
set_option maxRecDepth 20000 in
set_option maxHeartbeats 4000000 in
theorem en_RF_paste (g : Gc) {lv : Nat} {t : Nat} {l1 : Int32} {l2 : Int32} {l3 : Int32} {l4 : Int32} {l5 : Int32} {m : Mm} {Q : Int32 → Mm → Prop} (h : mK m t = 13 ∧ (∀ m2, m2 = sI m t 0 (0 : Int32) → (CI g M_RF_isSlot lv [.int (l1)] m2 (fun x5 m6 => (if (x5) = 0 then (Q (-2 : Int32) m6) else (CI g M_RF_isSlot lv [.int (l3)] m6 (fun x10 m11 => (if (x10) = 0 then (Q (-2 : Int32) m11) else (∃ b15, mR m11 t 1 = some b15 ∧ (mK m11 b15 = 15 ∧ (vp_in l1 (mN m11 b15) ∧ (if (mI m11 b15 l1.toNatClampNeg) < 0 then (Q (-5 : Int32) m11) else (vp_in l3 (mN m11 b15) ∧ (if 0 ≤ (mI m11 b15 l3.toNatClampNeg) then (vp_in l1 (mN m11 b15) ∧ (vp_in l3 (mN m11 b15) ∧ (if (mI m11 b15 l1.toNatClampNeg) = (mI m11 b15 l3.toNatClampNeg) then (if (l2) < 0 then (Q (-6 : Int32) m11) else (if (l4) < 0 then (Q (-6 : Int32) m11) else (if (l5) < 0 then (Q (-6 : Int32) m11) else (∃ b28, mR m11 t 2 = some b28 ∧ (mK m11 b28 = 15 ∧ (vp_in l1 (mN m11 b28) ∧ (if ((mI m11 b28 l1.toNatClampNeg).toInt64) < (l2.toInt64 + l5.toInt64) then (Q (-6 : Int32) m11) else (vp_in l3 (mN m11 b28) ∧ (if (l4.toInt64 + l5.toInt64) ≤ ((mI m11 b28 l3.toNatClampNeg).toInt64) then (At g M_RF_paste (lv + 1) 116 [(0, va_rf (some t)), (1, .int (l1)), (2, .int (l2)), (3, .int (l3)), (4, .int (l4)), (5, .int (l5)), (6, .int ((0 : Int32)))] [] m11 (QI Q)) else (Q (-6 : Int32) m11)))))))))) else (Q (-7 : Int32) m11)))) else (Q (-5 : Int32) m11))))))))))))))) : CI g M_RF_paste (lv + 1) [va_rf (some t), .int (l1), .int (l2), .int (l3), .int (l4), .int (l5)] m Q := by
  refine Call.of (by decide +kernel) (Nat.le_of_ble_eq_true rfl) ?_
  show At g M_RF_paste (lv + 1) 0 [(0, va_rf (some t)), (1, .int (l1)), (2, .int (l2)), (3, .int (l3)), (4, .int (l4)), (5, .int (l5))] [] m (QI Q)
  refine at_aload_n (i := 0) 0 1 rfl (by decide +kernel) rfl ?_
  refine at_iconst (n := 0) (0 : Int32) 2 rfl (by decide +kernel) (by decide +kernel) ?_
  obtain ⟨k1, h⟩ := h
  refine at_putI (index := 149) cok12 0 5 rfl (by decide +kernel) k1 (by decide +kernel) tw_1085 rfl rfl rfl (fun m2 e3 => ?_)
  replace h := h m2 e3
  have k4 : mK m2 t = 13 := by rw [e3]; exact k1
  refine at_iload_n (i := 1) 1 6 rfl (by decide +kernel) rfl ?_
  refine at_callS mb_RF_isSlot tw_1289 (index := 158) tw_1288 [.int (l1)] [] rfl rfl (by decide) 9 rfl (by decide +kernel) (Call.toI (CI.monoE h (fun x5 m6 h y7 => ?_)))
  have k8 : mK m6 t = 13 := y7.k k4 (by decide)
  refine at_if_eq (off := 10) 19 12 rfl (by decide +kernel) (by decide +kernel) (fun c9 => ?_) (fun c9 => ?_)
  · rw [if_pos c9] at h
    refine at_bipush (n := (-2)) (-2 : Int32) 21 rfl (by decide +kernel) (by decide +kernel) ?_
    exact at_iret rfl (by decide +kernel) h
  · rw [if_neg c9] at h
    refine at_iload_n (i := 3) 3 13 rfl (by decide +kernel) rfl ?_
    refine at_callS mb_RF_isSlot tw_1289 (index := 158) tw_1288 [.int (l3)] [] rfl rfl (by decide) 16 rfl (by decide +kernel) (Call.toI (CI.monoE h (fun x10 m11 h y12 => ?_)))
    have k13 : mK m11 t = 13 := y12.k k8 (by decide)
    refine at_if_ne (off := 6) 22 19 rfl (by decide +kernel) (by decide +kernel) (fun c14 => ?_) (fun c14 => ?_)
    · rw [if_neg c14] at h
      refine at_aload_n (i := 0) 0 23 rfl (by decide +kernel) rfl ?_
      refine at_get (index := 9) (v := va_rf (mR m11 t 1)) cok12 1 26 rfl (by decide +kernel) k13 (by decide +kernel) tw_1086 rfl ?_
      refine at_iload_n (i := 1) 1 27 rfl (by decide +kernel) rfl ?_
      obtain ⟨b15, e16, h⟩ := h
      rw [e16]
      obtain ⟨k17, h⟩ := h
      obtain ⟨v18, h⟩ := h
      refine at_iald 28 rfl (by decide +kernel) k17 v18 ?_
      refine at_if_lt (off := 12) 40 31 rfl (by decide +kernel) (by decide +kernel) (fun c19 => ?_) (fun c19 => ?_)
      · rw [if_pos c19] at h
        refine at_bipush (n := (-5)) (-5 : Int32) 42 rfl (by decide +kernel) (by decide +kernel) ?_
        exact at_iret rfl (by decide +kernel) h
      · rw [if_neg c19] at h
        refine at_aload_n (i := 0) 0 32 rfl (by decide +kernel) rfl ?_
        refine at_get (index := 9) (v := va_rf (mR m11 t 1)) cok12 1 35 rfl (by decide +kernel) k13 (by decide +kernel) tw_1086 rfl ?_
        rw [e16]
        refine at_iload_n (i := 3) 3 36 rfl (by decide +kernel) rfl ?_
        obtain ⟨v20, h⟩ := h
        refine at_iald 37 rfl (by decide +kernel) k17 v20 ?_
        refine at_if_ge (off := 6) 43 40 rfl (by decide +kernel) (by decide +kernel) (fun c21 => ?_) (fun c21 => ?_)
        · rw [if_pos c21] at h
          refine at_aload_n (i := 0) 0 44 rfl (by decide +kernel) rfl ?_
          refine at_get (index := 9) (v := va_rf (mR m11 t 1)) cok12 1 47 rfl (by decide +kernel) k13 (by decide +kernel) tw_1086 rfl ?_
          rw [e16]
          refine at_iload_n (i := 1) 1 48 rfl (by decide +kernel) rfl ?_
          obtain ⟨v22, h⟩ := h
          refine at_iald 49 rfl (by decide +kernel) k17 v22 ?_
          refine at_aload_n (i := 0) 0 50 rfl (by decide +kernel) rfl ?_
          refine at_get (index := 9) (v := va_rf (mR m11 t 1)) cok12 1 53 rfl (by decide +kernel) k13 (by decide +kernel) tw_1086 rfl ?_
          rw [e16]
          refine at_iload_n (i := 3) 3 54 rfl (by decide +kernel) rfl ?_
          obtain ⟨v23, h⟩ := h
          refine at_iald 55 rfl (by decide +kernel) k17 v23 ?_
          refine at_icmp_eq (off := 6) 61 58 rfl (by decide +kernel) (by decide +kernel) (fun c24 => ?_) (fun c24 => ?_)
          · rw [if_pos c24] at h
            refine at_iload_n (i := 2) 2 62 rfl (by decide +kernel) rfl ?_
            refine at_if_lt (off := 48) 110 65 rfl (by decide +kernel) (by decide +kernel) (fun c25 => ?_) (fun c25 => ?_)
            · rw [if_pos c25] at h
              refine at_bipush (n := (-6)) (-6 : Int32) 112 rfl (by decide +kernel) (by decide +kernel) ?_
              exact at_iret rfl (by decide +kernel) h
            · rw [if_neg c25] at h
              refine at_iload (i := 4) 4 67 rfl (by decide +kernel) rfl ?_
              refine at_if_lt (off := 43) 110 70 rfl (by decide +kernel) (by decide +kernel) (fun c26 => ?_) (fun c26 => ?_)
              · rw [if_pos c26] at h
                refine at_bipush (n := (-6)) (-6 : Int32) 112 rfl (by decide +kernel) (by decide +kernel) ?_
                exact at_iret rfl (by decide +kernel) h
              · rw [if_neg c26] at h
                refine at_iload (i := 5) 5 72 rfl (by decide +kernel) rfl ?_
                refine at_if_lt (off := 38) 110 75 rfl (by decide +kernel) (by decide +kernel) (fun c27 => ?_) (fun c27 => ?_)
                · rw [if_pos c27] at h
                  refine at_bipush (n := (-6)) (-6 : Int32) 112 rfl (by decide +kernel) (by decide +kernel) ?_
                  exact at_iret rfl (by decide +kernel) h
                · rw [if_neg c27] at h
                  refine at_iload_n (i := 2) 2 76 rfl (by decide +kernel) rfl ?_
                  refine at_i2l 77 rfl (by decide +kernel) ?_
                  refine at_iload (i := 5) 5 79 rfl (by decide +kernel) rfl ?_
                  refine at_i2l 80 rfl (by decide +kernel) ?_
                  refine at_ladd 81 rfl (by decide +kernel) ?_
                  refine at_aload_n (i := 0) 0 82 rfl (by decide +kernel) rfl ?_
                  refine at_get (index := 13) (v := va_rf (mR m11 t 2)) cok12 2 85 rfl (by decide +kernel) k13 (by decide +kernel) tw_1087 rfl ?_
                  refine at_iload_n (i := 1) 1 86 rfl (by decide +kernel) rfl ?_
                  obtain ⟨b28, e29, h⟩ := h
                  rw [e29]
                  obtain ⟨k30, h⟩ := h
                  obtain ⟨v31, h⟩ := h
                  refine at_iald 87 rfl (by decide +kernel) k30 v31 ?_
                  refine at_i2l 88 rfl (by decide +kernel) ?_
                  refine at_lif_gt (off := 21) 89 110 92 rfl rfl (by decide +kernel) (by decide +kernel) (by decide +kernel) (fun c32 => ?_) (fun c32 => ?_)
                  · rw [if_pos c32] at h
                    refine at_bipush (n := (-6)) (-6 : Int32) 112 rfl (by decide +kernel) (by decide +kernel) ?_
                    exact at_iret rfl (by decide +kernel) h
                  · rw [if_neg c32] at h
                    refine at_iload (i := 4) 4 94 rfl (by decide +kernel) rfl ?_
                    refine at_i2l 95 rfl (by decide +kernel) ?_
                    refine at_iload (i := 5) 5 97 rfl (by decide +kernel) rfl ?_
                    refine at_i2l 98 rfl (by decide +kernel) ?_
                    refine at_ladd 99 rfl (by decide +kernel) ?_
                    refine at_aload_n (i := 0) 0 100 rfl (by decide +kernel) rfl ?_
                    refine at_get (index := 13) (v := va_rf (mR m11 t 2)) cok12 2 103 rfl (by decide +kernel) k13 (by decide +kernel) tw_1087 rfl ?_
                    rw [e29]
                    refine at_iload_n (i := 3) 3 104 rfl (by decide +kernel) rfl ?_
                    obtain ⟨v33, h⟩ := h
                    refine at_iald 105 rfl (by decide +kernel) k30 v33 ?_
                    refine at_i2l 106 rfl (by decide +kernel) ?_
                    refine at_lif_le (off := 6) 107 113 110 rfl rfl (by decide +kernel) (by decide +kernel) (by decide +kernel) (fun c34 => ?_) (fun c34 => ?_)
                    · rw [if_pos c34] at h
                      refine at_iconst (n := 0) (0 : Int32) 114 rfl (by decide +kernel) (by decide +kernel) ?_
                      refine at_istore (i := 6) (lc' := [(0, va_rf (some t)), (1, .int (l1)), (2, .int (l2)), (3, .int (l3)), (4, .int (l4)), (5, .int (l5)), (6, .int ((0 : Int32)))]) [1, 2, 3, 4, 5, 6, 0] 116 rfl (by decide +kernel) (by decide +kernel) rfl ?_
                      exact h
                    · rw [if_neg c34] at h
                      refine at_bipush (n := (-6)) (-6 : Int32) 112 rfl (by decide +kernel) (by decide +kernel) ?_
                      exact at_iret rfl (by decide +kernel) h
          · rw [if_neg c24] at h
            refine at_bipush (n := (-7)) (-7 : Int32) 60 rfl (by decide +kernel) (by decide +kernel) ?_
            exact at_iret rfl (by decide +kernel) h
        · rw [if_neg c21] at h
          refine at_bipush (n := (-5)) (-5 : Int32) 42 rfl (by decide +kernel) (by decide +kernel) ?_
          exact at_iret rfl (by decide +kernel) h
    · rw [if_pos c14] at h
      refine at_bipush (n := (-2)) (-2 : Int32) 21 rfl (by decide +kernel) (by decide +kernel) ?_
      exact at_iret rfl (by decide +kernel) h
set_option maxRecDepth 20000 in
set_option maxHeartbeats 4000000 in
theorem en_RF_terms (g : Gc) {lv : Nat} {t : Nat} {l1 : Int32} {l2 : Int32} {l3 : Int32} {l4 : Int32} {l5 : Int32} {l6 : Int32} {l7 : Int32} {m : Mm} {Q : Int32 → Mm → Prop} (h : mK m t = 13 ∧ (∀ m2, m2 = sI m t 0 (0 : Int32) → (CI g M_RF_in lv [.long (l1.toInt64), .long ((0 : Int64)), .long ((10000000 : Int64))] m2 (fun x5 m6 => (if (x5) = 0 then (Q (-2 : Int32) m6) else (CI g M_RF_in lv [.long (l2.toInt64), .long ((0 : Int64)), .long ((1000000 : Int64))] m6 (fun x10 m11 => (if (x10) = 0 then (Q (-2 : Int32) m11) else (CI g M_RF_in lv [.long (l3.toInt64), .long ((0 : Int64)), .long ((1000 : Int64))] m11 (fun x15 m16 => (if (x15) = 0 then (Q (-2 : Int32) m16) else (CI g M_RF_in lv [.long (l4.toInt64), .long ((0 : Int64)), .long ((10000000 : Int64))] m16 (fun x20 m21 => (if (x20) = 0 then (Q (-2 : Int32) m21) else (CI g M_RF_in lv [.long (l5.toInt64), .long ((1 : Int64)), .long ((10000 : Int64))] m21 (fun x25 m26 => (if (x25) = 0 then (Q (-2 : Int32) m26) else (CI g M_RF_in lv [.long (l6.toInt64), .long ((0 : Int64)), .long ((100 : Int64))] m26 (fun x30 m31 => (if (x30) = 0 then (Q (-2 : Int32) m31) else (CI g M_RF_in lv [.long (l7.toInt64), .long ((0 : Int64)), .long ((200 : Int64))] m31 (fun x35 m36 => (if (x35) = 0 then (Q (-2 : Int32) m36) else (∀ m40, m40 = sI m36 t 5 l1 → (∀ m43, m43 = sI m40 t 6 l2 → (∀ m46, m46 = sI m43 t 7 l3 → (∀ m49, m49 = sI m46 t 8 l4 → (∀ m52, m52 = sI m49 t 9 l5 → (∀ m55, m55 = sI m52 t 10 l6 → (∀ m58, m58 = sI m55 t 11 l7 → (Q (0 : Int32) m58))))))))))))))))))))))))))))))) : CI g M_RF_terms (lv + 1) [va_rf (some t), .int (l1), .int (l2), .int (l3), .int (l4), .int (l5), .int (l6), .int (l7)] m Q := by
  refine Call.of (by decide +kernel) (Nat.le_of_ble_eq_true rfl) ?_
  show At g M_RF_terms (lv + 1) 0 [(0, va_rf (some t)), (1, .int (l1)), (2, .int (l2)), (3, .int (l3)), (4, .int (l4)), (5, .int (l5)), (6, .int (l6)), (7, .int (l7))] [] m (QI Q)
  refine at_aload_n (i := 0) 0 1 rfl (by decide +kernel) rfl ?_
  refine at_iconst (n := 0) (0 : Int32) 2 rfl (by decide +kernel) (by decide +kernel) ?_
  obtain ⟨k1, h⟩ := h
  refine at_putI (index := 149) cok12 0 5 rfl (by decide +kernel) k1 (by decide +kernel) tw_1085 rfl rfl rfl (fun m2 e3 => ?_)
  replace h := h m2 e3
  have k4 : mK m2 t = 13 := by rw [e3]; exact k1
  refine at_iload_n (i := 1) 1 6 rfl (by decide +kernel) rfl ?_
  refine at_i2l 7 rfl (by decide +kernel) ?_
  refine at_lconst (n := 0) (0 : Int64) 8 rfl (by decide +kernel) (by decide +kernel) ?_
  refine at_ldc2 (index := 166) (10000000 : Int64) 11 rfl (by decide +kernel) tw_1314 ?_
  refine at_callS mb_RF_in tw_1293 (index := 154) tw_1292 [.long (l1.toInt64), .long ((0 : Int64)), .long ((10000000 : Int64))] [] rfl rfl (by decide) 14 rfl (by decide +kernel) (Call.toI (CI.monoE h (fun x5 m6 h y7 => ?_)))
  have k8 : mK m6 t = 13 := y7.k k4 (by decide)
  refine at_if_eq (off := 79) 93 17 rfl (by decide +kernel) (by decide +kernel) (fun c9 => ?_) (fun c9 => ?_)
  · rw [if_pos c9] at h
    refine at_bipush (n := (-2)) (-2 : Int32) 95 rfl (by decide +kernel) (by decide +kernel) ?_
    exact at_iret rfl (by decide +kernel) h
  · rw [if_neg c9] at h
    refine at_iload_n (i := 2) 2 18 rfl (by decide +kernel) rfl ?_
    refine at_i2l 19 rfl (by decide +kernel) ?_
    refine at_lconst (n := 0) (0 : Int64) 20 rfl (by decide +kernel) (by decide +kernel) ?_
    refine at_ldc2 (index := 168) (1000000 : Int64) 23 rfl (by decide +kernel) tw_1315 ?_
    refine at_callS mb_RF_in tw_1293 (index := 154) tw_1292 [.long (l2.toInt64), .long ((0 : Int64)), .long ((1000000 : Int64))] [] rfl rfl (by decide) 26 rfl (by decide +kernel) (Call.toI (CI.monoE h (fun x10 m11 h y12 => ?_)))
    have k13 : mK m11 t = 13 := y12.k k8 (by decide)
    refine at_if_eq (off := 67) 93 29 rfl (by decide +kernel) (by decide +kernel) (fun c14 => ?_) (fun c14 => ?_)
    · rw [if_pos c14] at h
      refine at_bipush (n := (-2)) (-2 : Int32) 95 rfl (by decide +kernel) (by decide +kernel) ?_
      exact at_iret rfl (by decide +kernel) h
    · rw [if_neg c14] at h
      refine at_iload_n (i := 3) 3 30 rfl (by decide +kernel) rfl ?_
      refine at_i2l 31 rfl (by decide +kernel) ?_
      refine at_lconst (n := 0) (0 : Int64) 32 rfl (by decide +kernel) (by decide +kernel) ?_
      refine at_ldc2 (index := 170) (1000 : Int64) 35 rfl (by decide +kernel) tw_1316 ?_
      refine at_callS mb_RF_in tw_1293 (index := 154) tw_1292 [.long (l3.toInt64), .long ((0 : Int64)), .long ((1000 : Int64))] [] rfl rfl (by decide) 38 rfl (by decide +kernel) (Call.toI (CI.monoE h (fun x15 m16 h y17 => ?_)))
      have k18 : mK m16 t = 13 := y17.k k13 (by decide)
      refine at_if_eq (off := 55) 93 41 rfl (by decide +kernel) (by decide +kernel) (fun c19 => ?_) (fun c19 => ?_)
      · rw [if_pos c19] at h
        refine at_bipush (n := (-2)) (-2 : Int32) 95 rfl (by decide +kernel) (by decide +kernel) ?_
        exact at_iret rfl (by decide +kernel) h
      · rw [if_neg c19] at h
        refine at_iload (i := 4) 4 43 rfl (by decide +kernel) rfl ?_
        refine at_i2l 44 rfl (by decide +kernel) ?_
        refine at_lconst (n := 0) (0 : Int64) 45 rfl (by decide +kernel) (by decide +kernel) ?_
        refine at_ldc2 (index := 166) (10000000 : Int64) 48 rfl (by decide +kernel) tw_1314 ?_
        refine at_callS mb_RF_in tw_1293 (index := 154) tw_1292 [.long (l4.toInt64), .long ((0 : Int64)), .long ((10000000 : Int64))] [] rfl rfl (by decide) 51 rfl (by decide +kernel) (Call.toI (CI.monoE h (fun x20 m21 h y22 => ?_)))
        have k23 : mK m21 t = 13 := y22.k k18 (by decide)
        refine at_if_eq (off := 42) 93 54 rfl (by decide +kernel) (by decide +kernel) (fun c24 => ?_) (fun c24 => ?_)
        · rw [if_pos c24] at h
          refine at_bipush (n := (-2)) (-2 : Int32) 95 rfl (by decide +kernel) (by decide +kernel) ?_
          exact at_iret rfl (by decide +kernel) h
        · rw [if_neg c24] at h
          refine at_iload (i := 5) 5 56 rfl (by decide +kernel) rfl ?_
          refine at_i2l 57 rfl (by decide +kernel) ?_
          refine at_lconst (n := 1) (1 : Int64) 58 rfl (by decide +kernel) (by decide +kernel) ?_
          refine at_ldc2 (index := 172) (10000 : Int64) 61 rfl (by decide +kernel) tw_1317 ?_
          refine at_callS mb_RF_in tw_1293 (index := 154) tw_1292 [.long (l5.toInt64), .long ((1 : Int64)), .long ((10000 : Int64))] [] rfl rfl (by decide) 64 rfl (by decide +kernel) (Call.toI (CI.monoE h (fun x25 m26 h y27 => ?_)))
          have k28 : mK m26 t = 13 := y27.k k23 (by decide)
          refine at_if_eq (off := 29) 93 67 rfl (by decide +kernel) (by decide +kernel) (fun c29 => ?_) (fun c29 => ?_)
          · rw [if_pos c29] at h
            refine at_bipush (n := (-2)) (-2 : Int32) 95 rfl (by decide +kernel) (by decide +kernel) ?_
            exact at_iret rfl (by decide +kernel) h
          · rw [if_neg c29] at h
            refine at_iload (i := 6) 6 69 rfl (by decide +kernel) rfl ?_
            refine at_i2l 70 rfl (by decide +kernel) ?_
            refine at_lconst (n := 0) (0 : Int64) 71 rfl (by decide +kernel) (by decide +kernel) ?_
            refine at_ldc2 (index := 174) (100 : Int64) 74 rfl (by decide +kernel) tw_1318 ?_
            refine at_callS mb_RF_in tw_1293 (index := 154) tw_1292 [.long (l6.toInt64), .long ((0 : Int64)), .long ((100 : Int64))] [] rfl rfl (by decide) 77 rfl (by decide +kernel) (Call.toI (CI.monoE h (fun x30 m31 h y32 => ?_)))
            have k33 : mK m31 t = 13 := y32.k k28 (by decide)
            refine at_if_eq (off := 16) 93 80 rfl (by decide +kernel) (by decide +kernel) (fun c34 => ?_) (fun c34 => ?_)
            · rw [if_pos c34] at h
              refine at_bipush (n := (-2)) (-2 : Int32) 95 rfl (by decide +kernel) (by decide +kernel) ?_
              exact at_iret rfl (by decide +kernel) h
            · rw [if_neg c34] at h
              refine at_iload (i := 7) 7 82 rfl (by decide +kernel) rfl ?_
              refine at_i2l 83 rfl (by decide +kernel) ?_
              refine at_lconst (n := 0) (0 : Int64) 84 rfl (by decide +kernel) (by decide +kernel) ?_
              refine at_ldc2 (index := 176) (200 : Int64) 87 rfl (by decide +kernel) tw_1319 ?_
              refine at_callS mb_RF_in tw_1293 (index := 154) tw_1292 [.long (l7.toInt64), .long ((0 : Int64)), .long ((200 : Int64))] [] rfl rfl (by decide) 90 rfl (by decide +kernel) (Call.toI (CI.monoE h (fun x35 m36 h y37 => ?_)))
              have k38 : mK m36 t = 13 := y37.k k33 (by decide)
              refine at_if_ne (off := 6) 96 93 rfl (by decide +kernel) (by decide +kernel) (fun c39 => ?_) (fun c39 => ?_)
              · rw [if_neg c39] at h
                refine at_aload_n (i := 0) 0 97 rfl (by decide +kernel) rfl ?_
                refine at_iload_n (i := 1) 1 98 rfl (by decide +kernel) rfl ?_
                refine at_putI (index := 23) cok12 5 101 rfl (by decide +kernel) k38 (by decide +kernel) tw_1090 rfl rfl rfl (fun m40 e41 => ?_)
                replace h := h m40 e41
                have k42 : mK m40 t = 13 := by rw [e41]; exact k38
                refine at_aload_n (i := 0) 0 102 rfl (by decide +kernel) rfl ?_
                refine at_iload_n (i := 2) 2 103 rfl (by decide +kernel) rfl ?_
                refine at_putI (index := 27) cok12 6 106 rfl (by decide +kernel) k42 (by decide +kernel) tw_1091 rfl rfl rfl (fun m43 e44 => ?_)
                replace h := h m43 e44
                have k45 : mK m43 t = 13 := by rw [e44]; exact k42
                refine at_aload_n (i := 0) 0 107 rfl (by decide +kernel) rfl ?_
                refine at_iload_n (i := 3) 3 108 rfl (by decide +kernel) rfl ?_
                refine at_putI (index := 30) cok12 7 111 rfl (by decide +kernel) k45 (by decide +kernel) tw_1092 rfl rfl rfl (fun m46 e47 => ?_)
                replace h := h m46 e47
                have k48 : mK m46 t = 13 := by rw [e47]; exact k45
                refine at_aload_n (i := 0) 0 112 rfl (by decide +kernel) rfl ?_
                refine at_iload (i := 4) 4 114 rfl (by decide +kernel) rfl ?_
                refine at_putI (index := 33) cok12 8 117 rfl (by decide +kernel) k48 (by decide +kernel) tw_1093 rfl rfl rfl (fun m49 e50 => ?_)
                replace h := h m49 e50
                have k51 : mK m49 t = 13 := by rw [e50]; exact k48
                refine at_aload_n (i := 0) 0 118 rfl (by decide +kernel) rfl ?_
                refine at_iload (i := 5) 5 120 rfl (by decide +kernel) rfl ?_
                refine at_putI (index := 36) cok12 9 123 rfl (by decide +kernel) k51 (by decide +kernel) tw_1094 rfl rfl rfl (fun m52 e53 => ?_)
                replace h := h m52 e53
                have k54 : mK m52 t = 13 := by rw [e53]; exact k51
                refine at_aload_n (i := 0) 0 124 rfl (by decide +kernel) rfl ?_
                refine at_iload (i := 6) 6 126 rfl (by decide +kernel) rfl ?_
                refine at_putI (index := 39) cok12 10 129 rfl (by decide +kernel) k54 (by decide +kernel) tw_1095 rfl rfl rfl (fun m55 e56 => ?_)
                replace h := h m55 e56
                have k57 : mK m55 t = 13 := by rw [e56]; exact k54
                refine at_aload_n (i := 0) 0 130 rfl (by decide +kernel) rfl ?_
                refine at_iload (i := 7) 7 132 rfl (by decide +kernel) rfl ?_
                refine at_putI (index := 178) cok12 11 135 rfl (by decide +kernel) k57 (by decide +kernel) tw_1096 rfl rfl rfl (fun m58 e59 => ?_)
                replace h := h m58 e59
                have k60 : mK m58 t = 13 := by rw [e59]; exact k57
                refine at_iconst (n := 0) (0 : Int32) 136 rfl (by decide +kernel) (by decide +kernel) ?_
                exact at_iret rfl (by decide +kernel) h
              · rw [if_pos c39] at h
                refine at_bipush (n := (-2)) (-2 : Int32) 95 rfl (by decide +kernel) (by decide +kernel) ?_
                exact at_iret rfl (by decide +kernel) h
set_option maxRecDepth 20000 in
set_option maxHeartbeats 4000000 in
theorem en_RF_bank (g : Gc) {lv : Nat} {t : Nat} {l1 : Int32} {l2 : Int32} {l3 : Int32} {m : Mm} {Q : Int32 → Mm → Prop} (h : mK m t = 13 ∧ (∀ m2, m2 = sI m t 0 (0 : Int32) → (CI g M_RF_in lv [.long (l1.toInt64), .long ((0 : Int64)), .long ((2 : Int64))] m2 (fun x5 m6 => (if (x5) = 0 then (Q (-2 : Int32) m6) else (CI g M_RF_in lv [.long (l2.toInt64), .long ((0 : Int64)), .long ((100 : Int64))] m6 (fun x10 m11 => (if (x10) = 0 then (Q (-2 : Int32) m11) else (CI g M_RF_in lv [.long (l3.toInt64), .long ((0 : Int64)), .long ((100 : Int64))] m11 (fun x15 m16 => (if (x15) = 0 then (Q (-2 : Int32) m16) else (∃ b20, mR m16 t 12 = some b20 ∧ (mK m16 b20 = 15 ∧ (vp_in l1 (mN m16 b20) ∧ (∀ m24, m24 = sI m16 b20 l1.toNatClampNeg l2 → (∃ b28, mR m24 t 13 = some b28 ∧ (mK m24 b28 = 15 ∧ (vp_in l1 (mN m24 b28) ∧ (∀ m32, m32 = sI m24 b28 l1.toNatClampNeg l3 → (Q (0 : Int32) m32)))))))))))))))))))) : CI g M_RF_bank (lv + 1) [va_rf (some t), .int (l1), .int (l2), .int (l3)] m Q := by
  refine Call.of (by decide +kernel) (Nat.le_of_ble_eq_true rfl) ?_
  show At g M_RF_bank (lv + 1) 0 [(0, va_rf (some t)), (1, .int (l1)), (2, .int (l2)), (3, .int (l3))] [] m (QI Q)
  refine at_aload_n (i := 0) 0 1 rfl (by decide +kernel) rfl ?_
  refine at_iconst (n := 0) (0 : Int32) 2 rfl (by decide +kernel) (by decide +kernel) ?_
  obtain ⟨k1, h⟩ := h
  refine at_putI (index := 149) cok12 0 5 rfl (by decide +kernel) k1 (by decide +kernel) tw_1085 rfl rfl rfl (fun m2 e3 => ?_)
  replace h := h m2 e3
  have k4 : mK m2 t = 13 := by rw [e3]; exact k1
  refine at_iload_n (i := 1) 1 6 rfl (by decide +kernel) rfl ?_
  refine at_i2l 7 rfl (by decide +kernel) ?_
  refine at_lconst (n := 0) (0 : Int64) 8 rfl (by decide +kernel) (by decide +kernel) ?_
  refine at_ldc2 (index := 181) (2 : Int64) 11 rfl (by decide +kernel) tw_1324 ?_
  refine at_callS mb_RF_in tw_1293 (index := 154) tw_1292 [.long (l1.toInt64), .long ((0 : Int64)), .long ((2 : Int64))] [] rfl rfl (by decide) 14 rfl (by decide +kernel) (Call.toI (CI.monoE h (fun x5 m6 h y7 => ?_)))
  have k8 : mK m6 t = 13 := y7.k k4 (by decide)
  refine at_if_eq (off := 27) 41 17 rfl (by decide +kernel) (by decide +kernel) (fun c9 => ?_) (fun c9 => ?_)
  · rw [if_pos c9] at h
    refine at_bipush (n := (-2)) (-2 : Int32) 43 rfl (by decide +kernel) (by decide +kernel) ?_
    exact at_iret rfl (by decide +kernel) h
  · rw [if_neg c9] at h
    refine at_iload_n (i := 2) 2 18 rfl (by decide +kernel) rfl ?_
    refine at_i2l 19 rfl (by decide +kernel) ?_
    refine at_lconst (n := 0) (0 : Int64) 20 rfl (by decide +kernel) (by decide +kernel) ?_
    refine at_ldc2 (index := 174) (100 : Int64) 23 rfl (by decide +kernel) tw_1318 ?_
    refine at_callS mb_RF_in tw_1293 (index := 154) tw_1292 [.long (l2.toInt64), .long ((0 : Int64)), .long ((100 : Int64))] [] rfl rfl (by decide) 26 rfl (by decide +kernel) (Call.toI (CI.monoE h (fun x10 m11 h y12 => ?_)))
    have k13 : mK m11 t = 13 := y12.k k8 (by decide)
    refine at_if_eq (off := 15) 41 29 rfl (by decide +kernel) (by decide +kernel) (fun c14 => ?_) (fun c14 => ?_)
    · rw [if_pos c14] at h
      refine at_bipush (n := (-2)) (-2 : Int32) 43 rfl (by decide +kernel) (by decide +kernel) ?_
      exact at_iret rfl (by decide +kernel) h
    · rw [if_neg c14] at h
      refine at_iload_n (i := 3) 3 30 rfl (by decide +kernel) rfl ?_
      refine at_i2l 31 rfl (by decide +kernel) ?_
      refine at_lconst (n := 0) (0 : Int64) 32 rfl (by decide +kernel) (by decide +kernel) ?_
      refine at_ldc2 (index := 174) (100 : Int64) 35 rfl (by decide +kernel) tw_1318 ?_
      refine at_callS mb_RF_in tw_1293 (index := 154) tw_1292 [.long (l3.toInt64), .long ((0 : Int64)), .long ((100 : Int64))] [] rfl rfl (by decide) 38 rfl (by decide +kernel) (Call.toI (CI.monoE h (fun x15 m16 h y17 => ?_)))
      have k18 : mK m16 t = 13 := y17.k k13 (by decide)
      refine at_if_ne (off := 6) 44 41 rfl (by decide +kernel) (by decide +kernel) (fun c19 => ?_) (fun c19 => ?_)
      · rw [if_neg c19] at h
        refine at_aload_n (i := 0) 0 45 rfl (by decide +kernel) rfl ?_
        refine at_get (index := 42) (v := va_rf (mR m16 t 12)) cok12 12 48 rfl (by decide +kernel) k18 (by decide +kernel) tw_1097 rfl ?_
        refine at_iload_n (i := 1) 1 49 rfl (by decide +kernel) rfl ?_
        refine at_iload_n (i := 2) 2 50 rfl (by decide +kernel) rfl ?_
        obtain ⟨b20, e21, h⟩ := h
        rw [e21]
        obtain ⟨k22, h⟩ := h
        obtain ⟨v23, h⟩ := h
        refine at_iast 51 rfl (by decide +kernel) k22 v23 (fun m24 e25 => ?_)
        replace h := h m24 e25
        have k26 : mK m24 t = 13 := by rw [e25]; exact k18
        have k27 : mK m24 b20 = 15 := by rw [e25]; exact k22
        refine at_aload_n (i := 0) 0 52 rfl (by decide +kernel) rfl ?_
        refine at_get (index := 45) (v := va_rf (mR m24 t 13)) cok12 13 55 rfl (by decide +kernel) k26 (by decide +kernel) tw_1098 rfl ?_
        refine at_iload_n (i := 1) 1 56 rfl (by decide +kernel) rfl ?_
        refine at_iload_n (i := 3) 3 57 rfl (by decide +kernel) rfl ?_
        obtain ⟨b28, e29, h⟩ := h
        rw [e29]
        obtain ⟨k30, h⟩ := h
        obtain ⟨v31, h⟩ := h
        refine at_iast 58 rfl (by decide +kernel) k30 v31 (fun m32 e33 => ?_)
        replace h := h m32 e33
        have k34 : mK m32 t = 13 := by rw [e33]; exact k26
        have k35 : mK m32 b20 = 15 := by rw [e33]; exact k27
        have k36 : mK m32 b28 = 15 := by rw [e33]; exact k30
        refine at_iconst (n := 0) (0 : Int32) 59 rfl (by decide +kernel) (by decide +kernel) ?_
        exact at_iret rfl (by decide +kernel) h
      · rw [if_pos c19] at h
        refine at_bipush (n := (-2)) (-2 : Int32) 43 rfl (by decide +kernel) (by decide +kernel) ?_
        exact at_iret rfl (by decide +kernel) h
set_option maxRecDepth 20000 in
set_option maxHeartbeats 4000000 in
theorem en_RF_grower (g : Gc) {lv : Nat} {t : Nat} {l1 : Int32} {l2 : Int32} {m : Mm} {Q : Int32 → Mm → Prop} (h : mK m t = 13 ∧ (∀ m2, m2 = sI m t 0 (0 : Int32) → (CI g M_RF_in lv [.long (l1.toInt64), .long ((0 : Int64)), .long ((7 : Int64))] m2 (fun x5 m6 => (if (x5) = 0 then (Q (-2 : Int32) m6) else (CI g M_RF_in lv [.long (l2.toInt64), .long ((0 : Int64)), .long ((1000 : Int64))] m6 (fun x10 m11 => (if (x10) = 0 then (Q (-2 : Int32) m11) else (if (mI m11 t 19) = ((12 : Int32)) then (Q (-3 : Int32) m11) else (∃ b16, mR m11 t 31 = some b16 ∧ (mK m11 b16 = 15 ∧ (vp_in (0 : Int32) (mN m11 b16) ∧ (if (mI m11 b16 (0 : Int32).toNatClampNeg) ≤ 0 then (∃ b21, mR m11 t 20 = some b21 ∧ (mK m11 b21 = 15 ∧ (vp_in (mI m11 t 19) (mN m11 b21) ∧ (∀ m25, m25 = sI m11 b21 (mI m11 t 19).toNatClampNeg l1 → (∃ b30, mR m25 t 21 = some b30 ∧ (mK m25 b30 = 15 ∧ (vp_in (mI m25 t 19) (mN m25 b30) ∧ (∀ m34, m34 = sI m25 b30 (mI m25 t 19).toNatClampNeg l2 → (∃ b40, mR m34 t 35 = some b40 ∧ (mK m34 b40 = 15 ∧ (vp_in (mI m34 t 19) (mN m34 b40) ∧ (∀ m44, m44 = sI m34 b40 (mI m34 t 19).toNatClampNeg l2 → (∀ m51, m51 = sI m44 t 19 ((mI m44 t 19) + (1 : Int32)) → (Q ((mI m51 t 19) - (1 : Int32)) m51)))))))))))))) else (Q (-9 : Int32) m11)))))))))))))) : CI g M_RF_grower (lv + 1) [va_rf (some t), .int (l1), .int (l2)] m Q := by
  refine Call.of (by decide +kernel) (Nat.le_of_ble_eq_true rfl) ?_
  show At g M_RF_grower (lv + 1) 0 [(0, va_rf (some t)), (1, .int (l1)), (2, .int (l2))] [] m (QI Q)
  refine at_aload_n (i := 0) 0 1 rfl (by decide +kernel) rfl ?_
  refine at_iconst (n := 0) (0 : Int32) 2 rfl (by decide +kernel) (by decide +kernel) ?_
  obtain ⟨k1, h⟩ := h
  refine at_putI (index := 149) cok12 0 5 rfl (by decide +kernel) k1 (by decide +kernel) tw_1085 rfl rfl rfl (fun m2 e3 => ?_)
  replace h := h m2 e3
  have k4 : mK m2 t = 13 := by rw [e3]; exact k1
  refine at_iload_n (i := 1) 1 6 rfl (by decide +kernel) rfl ?_
  refine at_i2l 7 rfl (by decide +kernel) ?_
  refine at_lconst (n := 0) (0 : Int64) 8 rfl (by decide +kernel) (by decide +kernel) ?_
  refine at_ldc2 (index := 183) (7 : Int64) 11 rfl (by decide +kernel) tw_1329 ?_
  refine at_callS mb_RF_in tw_1293 (index := 154) tw_1292 [.long (l1.toInt64), .long ((0 : Int64)), .long ((7 : Int64))] [] rfl rfl (by decide) 14 rfl (by decide +kernel) (Call.toI (CI.monoE h (fun x5 m6 h y7 => ?_)))
  have k8 : mK m6 t = 13 := y7.k k4 (by decide)
  refine at_if_eq (off := 15) 29 17 rfl (by decide +kernel) (by decide +kernel) (fun c9 => ?_) (fun c9 => ?_)
  · rw [if_pos c9] at h
    refine at_bipush (n := (-2)) (-2 : Int32) 31 rfl (by decide +kernel) (by decide +kernel) ?_
    exact at_iret rfl (by decide +kernel) h
  · rw [if_neg c9] at h
    refine at_iload_n (i := 2) 2 18 rfl (by decide +kernel) rfl ?_
    refine at_i2l 19 rfl (by decide +kernel) ?_
    refine at_lconst (n := 0) (0 : Int64) 20 rfl (by decide +kernel) (by decide +kernel) ?_
    refine at_ldc2 (index := 170) (1000 : Int64) 23 rfl (by decide +kernel) tw_1316 ?_
    refine at_callS mb_RF_in tw_1293 (index := 154) tw_1292 [.long (l2.toInt64), .long ((0 : Int64)), .long ((1000 : Int64))] [] rfl rfl (by decide) 26 rfl (by decide +kernel) (Call.toI (CI.monoE h (fun x10 m11 h y12 => ?_)))
    have k13 : mK m11 t = 13 := y12.k k8 (by decide)
    refine at_if_ne (off := 6) 32 29 rfl (by decide +kernel) (by decide +kernel) (fun c14 => ?_) (fun c14 => ?_)
    · rw [if_neg c14] at h
      refine at_aload_n (i := 0) 0 33 rfl (by decide +kernel) rfl ?_
      refine at_get (index := 185) (v := .int (mI m11 t 19)) cok12 19 36 rfl (by decide +kernel) k13 (by decide +kernel) tw_1104 rfl ?_
      refine at_bipush (n := 12) (12 : Int32) 38 rfl (by decide +kernel) (by decide +kernel) ?_
      refine at_icmp_ne (off := 6) 44 41 rfl (by decide +kernel) (by decide +kernel) (fun c15 => ?_) (fun c15 => ?_)
      · rw [if_neg c15] at h
        refine at_aload_n (i := 0) 0 45 rfl (by decide +kernel) rfl ?_
        refine at_get (index := 95) (v := va_rf (mR m11 t 31)) cok12 31 48 rfl (by decide +kernel) k13 (by decide +kernel) tw_1116 rfl ?_
        refine at_iconst (n := 0) (0 : Int32) 49 rfl (by decide +kernel) (by decide +kernel) ?_
        obtain ⟨b16, e17, h⟩ := h
        rw [e17]
        obtain ⟨k18, h⟩ := h
        obtain ⟨v19, h⟩ := h
        refine at_iald 50 rfl (by decide +kernel) k18 v19 ?_
        refine at_if_le (off := 6) 56 53 rfl (by decide +kernel) (by decide +kernel) (fun c20 => ?_) (fun c20 => ?_)
        · rw [if_pos c20] at h
          refine at_aload_n (i := 0) 0 57 rfl (by decide +kernel) rfl ?_
          refine at_get (index := 61) (v := va_rf (mR m11 t 20)) cok12 20 60 rfl (by decide +kernel) k13 (by decide +kernel) tw_1105 rfl ?_
          refine at_aload_n (i := 0) 0 61 rfl (by decide +kernel) rfl ?_
          refine at_get (index := 185) (v := .int (mI m11 t 19)) cok12 19 64 rfl (by decide +kernel) k13 (by decide +kernel) tw_1104 rfl ?_
          refine at_iload_n (i := 1) 1 65 rfl (by decide +kernel) rfl ?_
          obtain ⟨b21, e22, h⟩ := h
          rw [e22]
          obtain ⟨k23, h⟩ := h
          obtain ⟨v24, h⟩ := h
          refine at_iast 66 rfl (by decide +kernel) k23 v24 (fun m25 e26 => ?_)
          replace h := h m25 e26
          have k27 : mK m25 t = 13 := by rw [e26]; exact k13
          have k28 : mK m25 b16 = 15 := by rw [e26]; exact k18
          have k29 : mK m25 b21 = 15 := by rw [e26]; exact k23
          refine at_aload_n (i := 0) 0 67 rfl (by decide +kernel) rfl ?_
          refine at_get (index := 64) (v := va_rf (mR m25 t 21)) cok12 21 70 rfl (by decide +kernel) k27 (by decide +kernel) tw_1106 rfl ?_
          refine at_aload_n (i := 0) 0 71 rfl (by decide +kernel) rfl ?_
          refine at_get (index := 185) (v := .int (mI m25 t 19)) cok12 19 74 rfl (by decide +kernel) k27 (by decide +kernel) tw_1104 rfl ?_
          refine at_iload_n (i := 2) 2 75 rfl (by decide +kernel) rfl ?_
          obtain ⟨b30, e31, h⟩ := h
          rw [e31]
          obtain ⟨k32, h⟩ := h
          obtain ⟨v33, h⟩ := h
          refine at_iast 76 rfl (by decide +kernel) k32 v33 (fun m34 e35 => ?_)
          replace h := h m34 e35
          have k36 : mK m34 t = 13 := by rw [e35]; exact k27
          have k37 : mK m34 b16 = 15 := by rw [e35]; exact k28
          have k38 : mK m34 b21 = 15 := by rw [e35]; exact k29
          have k39 : mK m34 b30 = 15 := by rw [e35]; exact k32
          refine at_aload_n (i := 0) 0 77 rfl (by decide +kernel) rfl ?_
          refine at_get (index := 107) (v := va_rf (mR m34 t 35)) cok12 35 80 rfl (by decide +kernel) k36 (by decide +kernel) tw_1120 rfl ?_
          refine at_aload_n (i := 0) 0 81 rfl (by decide +kernel) rfl ?_
          refine at_get (index := 185) (v := .int (mI m34 t 19)) cok12 19 84 rfl (by decide +kernel) k36 (by decide +kernel) tw_1104 rfl ?_
          refine at_iload_n (i := 2) 2 85 rfl (by decide +kernel) rfl ?_
          obtain ⟨b40, e41, h⟩ := h
          rw [e41]
          obtain ⟨k42, h⟩ := h
          obtain ⟨v43, h⟩ := h
          refine at_iast 86 rfl (by decide +kernel) k42 v43 (fun m44 e45 => ?_)
          replace h := h m44 e45
          have k46 : mK m44 t = 13 := by rw [e45]; exact k36
          have k47 : mK m44 b16 = 15 := by rw [e45]; exact k37
          have k48 : mK m44 b21 = 15 := by rw [e45]; exact k38
          have k49 : mK m44 b30 = 15 := by rw [e45]; exact k39
          have k50 : mK m44 b40 = 15 := by rw [e45]; exact k42
          refine at_aload_n (i := 0) 0 87 rfl (by decide +kernel) rfl ?_
          refine at_dup 88 rfl (by decide +kernel) (va_rf_cat _) ?_
          refine at_get (index := 185) (v := .int (mI m44 t 19)) cok12 19 91 rfl (by decide +kernel) k46 (by decide +kernel) tw_1104 rfl ?_
          refine at_iconst (n := 1) (1 : Int32) 92 rfl (by decide +kernel) (by decide +kernel) ?_
          refine at_iadd 93 rfl (by decide +kernel) ?_
          refine at_putI (index := 185) cok12 19 96 rfl (by decide +kernel) k46 (by decide +kernel) tw_1104 rfl rfl rfl (fun m51 e52 => ?_)
          replace h := h m51 e52
          have k53 : mK m51 t = 13 := by rw [e52]; exact k46
          have k54 : mK m51 b16 = 15 := by rw [e52]; exact k47
          have k55 : mK m51 b21 = 15 := by rw [e52]; exact k48
          have k56 : mK m51 b30 = 15 := by rw [e52]; exact k49
          have k57 : mK m51 b40 = 15 := by rw [e52]; exact k50
          refine at_aload_n (i := 0) 0 97 rfl (by decide +kernel) rfl ?_
          refine at_get (index := 185) (v := .int (mI m51 t 19)) cok12 19 100 rfl (by decide +kernel) k53 (by decide +kernel) tw_1104 rfl ?_
          refine at_iconst (n := 1) (1 : Int32) 101 rfl (by decide +kernel) (by decide +kernel) ?_
          refine at_isub 102 rfl (by decide +kernel) ?_
          exact at_iret rfl (by decide +kernel) h
        · rw [if_neg c20] at h
          refine at_bipush (n := (-9)) (-9 : Int32) 55 rfl (by decide +kernel) (by decide +kernel) ?_
          exact at_iret rfl (by decide +kernel) h
      · rw [if_pos c15] at h
        refine at_bipush (n := (-3)) (-3 : Int32) 43 rfl (by decide +kernel) (by decide +kernel) ?_
        exact at_iret rfl (by decide +kernel) h
    · rw [if_pos c14] at h
      refine at_bipush (n := (-2)) (-2 : Int32) 31 rfl (by decide +kernel) (by decide +kernel) ?_
      exact at_iret rfl (by decide +kernel) h
set_option maxRecDepth 20000 in
set_option maxHeartbeats 4000000 in
theorem en_RF_isGrower (g : Gc) {lv : Nat} {t : Nat} {l1 : Int32} {m : Mm} {Q : Int32 → Mm → Prop} (h : mK m t = 13 ∧ (CI g M_RF_in lv [.long (l1.toInt64), .long ((0 : Int64)), .long (((mI m t 19) - (1 : Int32)).toInt64)] m (fun x2 m3 => (b01 x2 ∧ (Q x2 m3))))) : CI g M_RF_isGrower (lv + 1) [va_rf (some t), .int (l1)] m Q := by
  refine Call.of (by decide +kernel) (Nat.le_of_ble_eq_true rfl) ?_
  show At g M_RF_isGrower (lv + 1) 0 [(0, va_rf (some t)), (1, .int (l1))] [] m (QI Q)
  refine at_iload_n (i := 1) 1 1 rfl (by decide +kernel) rfl ?_
  refine at_i2l 2 rfl (by decide +kernel) ?_
  refine at_lconst (n := 0) (0 : Int64) 3 rfl (by decide +kernel) (by decide +kernel) ?_
  refine at_aload_n (i := 0) 0 4 rfl (by decide +kernel) rfl ?_
  obtain ⟨k1, h⟩ := h
  refine at_get (index := 185) (v := .int (mI m t 19)) cok12 19 7 rfl (by decide +kernel) k1 (by decide +kernel) tw_1104 rfl ?_
  refine at_iconst (n := 1) (1 : Int32) 8 rfl (by decide +kernel) (by decide +kernel) ?_
  refine at_isub 9 rfl (by decide +kernel) ?_
  refine at_i2l 10 rfl (by decide +kernel) ?_
  refine at_callS mb_RF_in tw_1293 (index := 154) tw_1292 [.long (l1.toInt64), .long ((0 : Int64)), .long (((mI m t 19) - (1 : Int32)).toInt64)] [] rfl rfl (by decide) 13 rfl (by decide +kernel) (Call.toI (CI.monoE h (fun x2 m3 h y4 => ?_)))
  have k5 : mK m3 t = 13 := y4.k k1 (by decide)
  obtain ⟨d6, h⟩ := h
  exact at_zret rfl (by decide +kernel) d6 h
set_option maxRecDepth 20000 in
set_option maxHeartbeats 4000000 in
theorem bk_RF_feed_76 (g : Gc) {lv : Nat} {t : Nat} {l1 : Int32} {l2 : Int32} {l3 : Int32} {l4 : Int32} {l5 : Int32} {l6 : Int32} {s0 : Int32} {m : Mm} {Q : Int32 → Mm → Prop} (h : mK m t = 13 ∧ (∃ b2, mR m t 14 = some b2 ∧ (mK m b2 = 14 ∧ (vp_in ((mI m t 15) + l6) (mN m b2) ∧ (∀ m6, m6 = sI m b2 ((mI m t 15) + l6).toNatClampNeg (((s0 >>> (((24 : Int32) - ((8 : Int32) * (l6 - l6 / (4 : Int32) * (4 : Int32)))) &&& 31)).toInt8.toInt32).toInt8.toInt32) → (At g M_RF_feed (lv + 1) 23 [(0, va_rf (some t)), (1, .int (l1)), (2, .int (l2)), (3, .int (l3)), (4, .int (l4)), (5, .int (l5)), (6, .int (l6 + (1 : Int32)))] [] m6 (QI Q))))))) : At g M_RF_feed (lv + 1) 76 [(0, va_rf (some t)), (1, .int (l1)), (2, .int (l2)), (3, .int (l3)), (4, .int (l4)), (5, .int (l5)), (6, .int (l6))] [.int (s0)] m (QI Q) := by
  refine at_istore (i := 7) (lc' := [(0, va_rf (some t)), (1, .int (l1)), (2, .int (l2)), (3, .int (l3)), (4, .int (l4)), (5, .int (l5)), (6, .int (l6)), (7, .int (s0))]) [1, 2, 3, 4, 5, 6, 7, 0] 78 rfl (by decide +kernel) (by decide +kernel) rfl ?_
  refine at_aload_n (i := 0) 0 79 rfl (by decide +kernel) rfl ?_
  obtain ⟨k1, h⟩ := h
  refine at_get (index := 48) (v := va_rf (mR m t 14)) cok12 14 82 rfl (by decide +kernel) k1 (by decide +kernel) tw_1099 rfl ?_
  refine at_aload_n (i := 0) 0 83 rfl (by decide +kernel) rfl ?_
  refine at_get (index := 188) (v := .int (mI m t 15)) cok12 15 86 rfl (by decide +kernel) k1 (by decide +kernel) tw_1100 rfl ?_
  refine at_iload (i := 6) 6 88 rfl (by decide +kernel) rfl ?_
  refine at_iadd 89 rfl (by decide +kernel) ?_
  refine at_iload (i := 7) 7 91 rfl (by decide +kernel) rfl ?_
  refine at_bipush (n := 24) (24 : Int32) 93 rfl (by decide +kernel) (by decide +kernel) ?_
  refine at_bipush (n := 8) (8 : Int32) 95 rfl (by decide +kernel) (by decide +kernel) ?_
  refine at_iload (i := 6) 6 97 rfl (by decide +kernel) rfl ?_
  refine at_iconst (n := 4) (4 : Int32) 98 rfl (by decide +kernel) (by decide +kernel) ?_
  refine at_irem 99 rfl (by decide +kernel) (by decide +kernel) ?_
  refine at_imul 100 rfl (by decide +kernel) ?_
  refine at_isub 101 rfl (by decide +kernel) ?_
  refine at_ishr 102 rfl (by decide +kernel) ?_
  refine at_i2b 103 rfl (by decide +kernel) ?_
  obtain ⟨b2, e3, h⟩ := h
  rw [e3]
  obtain ⟨k4, h⟩ := h
  obtain ⟨v5, h⟩ := h
  refine at_bast 104 rfl (by decide +kernel) k4 v5 (fun m6 e7 => ?_)
  replace h := h m6 e7
  have k8 : mK m6 t = 13 := by rw [e7]; exact k1
  have k9 : mK m6 b2 = 14 := by rw [e7]; exact k4
  refine at_iinc (i := 6) (n := 1) (lc' := [(0, va_rf (some t)), (1, .int (l1)), (2, .int (l2)), (3, .int (l3)), (4, .int (l4)), (5, .int (l5)), (6, .int (l6 + (1 : Int32)))]) (l6 + (1 : Int32)) 6 [1, 2, 3, 4, 5, 6, 0] 107 rfl (by decide +kernel) rfl (by rw [show Int32.ofInt 1 = (1 : Int32) from by decide +kernel]) (by decide +kernel) rfl ?_
  refine at_goto (off := (-84)) 23 (by decide +kernel) (by decide +kernel) ?_
  exact h
set_option maxRecDepth 20000 in
set_option maxHeartbeats 4000000 in
theorem bk_RF_feed_23 (g : Gc) {lv : Nat} {t : Nat} {l1 : Int32} {l2 : Int32} {l3 : Int32} {l4 : Int32} {l5 : Int32} {l6 : Int32} {m : Mm} {Q : Int32 → Mm → Prop} (h : if ((20 : Int32)) ≤ (l6) then (mK m t = 13 ∧ (∀ m3, m3 = sI m t 15 ((mI m t 15) + (20 : Int32)) → (Q (mI m3 t 15) m3))) else (if ((4 : Int32)) ≤ (l6) then (if ((8 : Int32)) ≤ (l6) then (if ((12 : Int32)) ≤ (l6) then (if ((16 : Int32)) ≤ (l6) then (At g M_RF_feed (lv + 1) 76 [(0, va_rf (some t)), (1, .int (l1)), (2, .int (l2)), (3, .int (l3)), (4, .int (l4)), (5, .int (l5)), (6, .int (l6))] [.int (l5)] m (QI Q)) else (At g M_RF_feed (lv + 1) 76 [(0, va_rf (some t)), (1, .int (l1)), (2, .int (l2)), (3, .int (l3)), (4, .int (l4)), (5, .int (l5)), (6, .int (l6))] [.int (l4)] m (QI Q))) else (At g M_RF_feed (lv + 1) 76 [(0, va_rf (some t)), (1, .int (l1)), (2, .int (l2)), (3, .int (l3)), (4, .int (l4)), (5, .int (l5)), (6, .int (l6))] [.int (l3)] m (QI Q))) else (At g M_RF_feed (lv + 1) 76 [(0, va_rf (some t)), (1, .int (l1)), (2, .int (l2)), (3, .int (l3)), (4, .int (l4)), (5, .int (l5)), (6, .int (l6))] [.int (l2)] m (QI Q))) else (At g M_RF_feed (lv + 1) 76 [(0, va_rf (some t)), (1, .int (l1)), (2, .int (l2)), (3, .int (l3)), (4, .int (l4)), (5, .int (l5)), (6, .int (l6))] [.int (l1)] m (QI Q)))) : At g M_RF_feed (lv + 1) 23 [(0, va_rf (some t)), (1, .int (l1)), (2, .int (l2)), (3, .int (l3)), (4, .int (l4)), (5, .int (l5)), (6, .int (l6))] [] m (QI Q) := by
  refine at_iload (i := 6) 6 25 rfl (by decide +kernel) rfl ?_
  refine at_bipush (n := 20) (20 : Int32) 27 rfl (by decide +kernel) (by decide +kernel) ?_
  refine at_icmp_ge (off := 83) 110 30 rfl (by decide +kernel) (by decide +kernel) (fun c1 => ?_) (fun c1 => ?_)
  · rw [if_pos c1] at h
    refine at_aload_n (i := 0) 0 111 rfl (by decide +kernel) rfl ?_
    refine at_dup 112 rfl (by decide +kernel) (va_rf_cat _) ?_
    obtain ⟨k2, h⟩ := h
    refine at_get (index := 188) (v := .int (mI m t 15)) cok12 15 115 rfl (by decide +kernel) k2 (by decide +kernel) tw_1100 rfl ?_
    refine at_bipush (n := 20) (20 : Int32) 117 rfl (by decide +kernel) (by decide +kernel) ?_
    refine at_iadd 118 rfl (by decide +kernel) ?_
    refine at_putI (index := 188) cok12 15 121 rfl (by decide +kernel) k2 (by decide +kernel) tw_1100 rfl rfl rfl (fun m3 e4 => ?_)
    replace h := h m3 e4
    have k5 : mK m3 t = 13 := by rw [e4]; exact k2
    refine at_aload_n (i := 0) 0 122 rfl (by decide +kernel) rfl ?_
    refine at_get (index := 188) (v := .int (mI m3 t 15)) cok12 15 125 rfl (by decide +kernel) k5 (by decide +kernel) tw_1100 rfl ?_
    exact at_iret rfl (by decide +kernel) h
  · rw [if_neg c1] at h
    refine at_iload (i := 6) 6 32 rfl (by decide +kernel) rfl ?_
    refine at_iconst (n := 4) (4 : Int32) 33 rfl (by decide +kernel) (by decide +kernel) ?_
    refine at_icmp_ge (off := 7) 40 36 rfl (by decide +kernel) (by decide +kernel) (fun c6 => ?_) (fun c6 => ?_)
    · rw [if_pos c6] at h
      refine at_iload (i := 6) 6 42 rfl (by decide +kernel) rfl ?_
      refine at_bipush (n := 8) (8 : Int32) 44 rfl (by decide +kernel) (by decide +kernel) ?_
      refine at_icmp_ge (off := 7) 51 47 rfl (by decide +kernel) (by decide +kernel) (fun c7 => ?_) (fun c7 => ?_)
      · rw [if_pos c7] at h
        refine at_iload (i := 6) 6 53 rfl (by decide +kernel) rfl ?_
        refine at_bipush (n := 12) (12 : Int32) 55 rfl (by decide +kernel) (by decide +kernel) ?_
        refine at_icmp_ge (off := 7) 62 58 rfl (by decide +kernel) (by decide +kernel) (fun c8 => ?_) (fun c8 => ?_)
        · rw [if_pos c8] at h
          refine at_iload (i := 6) 6 64 rfl (by decide +kernel) rfl ?_
          refine at_bipush (n := 16) (16 : Int32) 66 rfl (by decide +kernel) (by decide +kernel) ?_
          refine at_icmp_ge (off := 8) 74 69 rfl (by decide +kernel) (by decide +kernel) (fun c9 => ?_) (fun c9 => ?_)
          · rw [if_pos c9] at h
            refine at_iload (i := 5) 5 76 rfl (by decide +kernel) rfl ?_
            exact h
          · rw [if_neg c9] at h
            refine at_iload (i := 4) 4 71 rfl (by decide +kernel) rfl ?_
            refine at_goto (off := 5) 76 (by decide +kernel) (by decide +kernel) ?_
            exact h
        · rw [if_neg c8] at h
          refine at_iload_n (i := 3) 3 59 rfl (by decide +kernel) rfl ?_
          refine at_goto (off := 17) 76 (by decide +kernel) (by decide +kernel) ?_
          exact h
      · rw [if_neg c7] at h
        refine at_iload_n (i := 2) 2 48 rfl (by decide +kernel) rfl ?_
        refine at_goto (off := 28) 76 (by decide +kernel) (by decide +kernel) ?_
        exact h
    · rw [if_neg c6] at h
      refine at_iload_n (i := 1) 1 37 rfl (by decide +kernel) rfl ?_
      refine at_goto (off := 39) 76 (by decide +kernel) (by decide +kernel) ?_
      exact h
set_option maxRecDepth 20000 in
set_option maxHeartbeats 4000000 in
theorem en_RF_feed (g : Gc) {lv : Nat} {t : Nat} {l1 : Int32} {l2 : Int32} {l3 : Int32} {l4 : Int32} {l5 : Int32} {m : Mm} {Q : Int32 → Mm → Prop} (h : mK m t = 13 ∧ (∀ m2, m2 = sI m t 0 (0 : Int32) → (if ((mI m2 t 15) + (20 : Int32)) ≤ ((300 : Int32)) then (At g M_RF_feed (lv + 1) 23 [(0, va_rf (some t)), (1, .int (l1)), (2, .int (l2)), (3, .int (l3)), (4, .int (l4)), (5, .int (l5)), (6, .int ((0 : Int32)))] [] m2 (QI Q)) else (Q (-1 : Int32) m2)))) : CI g M_RF_feed (lv + 1) [va_rf (some t), .int (l1), .int (l2), .int (l3), .int (l4), .int (l5)] m Q := by
  refine Call.of (by decide +kernel) (Nat.le_of_ble_eq_true rfl) ?_
  show At g M_RF_feed (lv + 1) 0 [(0, va_rf (some t)), (1, .int (l1)), (2, .int (l2)), (3, .int (l3)), (4, .int (l4)), (5, .int (l5))] [] m (QI Q)
  refine at_aload_n (i := 0) 0 1 rfl (by decide +kernel) rfl ?_
  refine at_iconst (n := 0) (0 : Int32) 2 rfl (by decide +kernel) (by decide +kernel) ?_
  obtain ⟨k1, h⟩ := h
  refine at_putI (index := 149) cok12 0 5 rfl (by decide +kernel) k1 (by decide +kernel) tw_1085 rfl rfl rfl (fun m2 e3 => ?_)
  replace h := h m2 e3
  have k4 : mK m2 t = 13 := by rw [e3]; exact k1
  refine at_aload_n (i := 0) 0 6 rfl (by decide +kernel) rfl ?_
  refine at_get (index := 188) (v := .int (mI m2 t 15)) cok12 15 9 rfl (by decide +kernel) k4 (by decide +kernel) tw_1100 rfl ?_
  refine at_bipush (n := 20) (20 : Int32) 11 rfl (by decide +kernel) (by decide +kernel) ?_
  refine at_iadd 12 rfl (by decide +kernel) ?_
  refine at_sipush (n := 300) (300 : Int32) 15 rfl (by decide +kernel) (by decide +kernel) ?_
  refine at_icmp_le (off := 5) 20 18 rfl (by decide +kernel) (by decide +kernel) (fun c5 => ?_) (fun c5 => ?_)
  · rw [if_pos c5] at h
    refine at_iconst (n := 0) (0 : Int32) 21 rfl (by decide +kernel) (by decide +kernel) ?_
    refine at_istore (i := 6) (lc' := [(0, va_rf (some t)), (1, .int (l1)), (2, .int (l2)), (3, .int (l3)), (4, .int (l4)), (5, .int (l5)), (6, .int ((0 : Int32)))]) [1, 2, 3, 4, 5, 6, 0] 23 rfl (by decide +kernel) (by decide +kernel) rfl ?_
    exact h
  · rw [if_neg c5] at h
    refine at_iconst (n := (-1)) (-1 : Int32) 19 rfl (by decide +kernel) (by decide +kernel) ?_
    exact at_iret rfl (by decide +kernel) h
set_option maxRecDepth 20000 in
set_option maxHeartbeats 4000000 in
theorem en_RF_end (g : Gc) {lv : Nat} {t : Nat} {l1 : Int32} {m : Mm} {Q : Int32 → Mm → Prop} (h : mK m t = 13 ∧ (∀ m2, m2 = sI m t 0 (0 : Int32) → (CI g M_RF_in lv [.long (l1.toInt64), .long ((0 : Int64)), .long ((mI m2 t 15).toInt64)] m2 (fun x5 m6 => (if (x5) = 0 then (Q (-1 : Int32) m6) else (∀ m10, m10 = sI m6 t 15 l1 → (Q l1 m10))))))) : CI g M_RF_end (lv + 1) [va_rf (some t), .int (l1)] m Q := by
  refine Call.of (by decide +kernel) (Nat.le_of_ble_eq_true rfl) ?_
  show At g M_RF_end (lv + 1) 0 [(0, va_rf (some t)), (1, .int (l1))] [] m (QI Q)
  refine at_aload_n (i := 0) 0 1 rfl (by decide +kernel) rfl ?_
  refine at_iconst (n := 0) (0 : Int32) 2 rfl (by decide +kernel) (by decide +kernel) ?_
  obtain ⟨k1, h⟩ := h
  refine at_putI (index := 149) cok12 0 5 rfl (by decide +kernel) k1 (by decide +kernel) tw_1085 rfl rfl rfl (fun m2 e3 => ?_)
  replace h := h m2 e3
  have k4 : mK m2 t = 13 := by rw [e3]; exact k1
  refine at_iload_n (i := 1) 1 6 rfl (by decide +kernel) rfl ?_
  refine at_i2l 7 rfl (by decide +kernel) ?_
  refine at_lconst (n := 0) (0 : Int64) 8 rfl (by decide +kernel) (by decide +kernel) ?_
  refine at_aload_n (i := 0) 0 9 rfl (by decide +kernel) rfl ?_
  refine at_get (index := 188) (v := .int (mI m2 t 15)) cok12 15 12 rfl (by decide +kernel) k4 (by decide +kernel) tw_1100 rfl ?_
  refine at_i2l 13 rfl (by decide +kernel) ?_
  refine at_callS mb_RF_in tw_1293 (index := 154) tw_1292 [.long (l1.toInt64), .long ((0 : Int64)), .long ((mI m2 t 15).toInt64)] [] rfl rfl (by decide) 16 rfl (by decide +kernel) (Call.toI (CI.monoE h (fun x5 m6 h y7 => ?_)))
  have k8 : mK m6 t = 13 := y7.k k4 (by decide)
  refine at_if_ne (off := 5) 21 19 rfl (by decide +kernel) (by decide +kernel) (fun c9 => ?_) (fun c9 => ?_)
  · rw [if_neg c9] at h
    refine at_aload_n (i := 0) 0 22 rfl (by decide +kernel) rfl ?_
    refine at_iload_n (i := 1) 1 23 rfl (by decide +kernel) rfl ?_
    refine at_putI (index := 188) cok12 15 26 rfl (by decide +kernel) k8 (by decide +kernel) tw_1100 rfl rfl rfl (fun m10 e11 => ?_)
    replace h := h m10 e11
    have k12 : mK m10 t = 13 := by rw [e11]; exact k8
    refine at_iload_n (i := 1) 1 27 rfl (by decide +kernel) rfl ?_
    exact at_iret rfl (by decide +kernel) h
  · rw [if_pos c9] at h
    refine at_iconst (n := (-1)) (-1 : Int32) 20 rfl (by decide +kernel) (by decide +kernel) ?_
    exact at_iret rfl (by decide +kernel) h
set_option maxRecDepth 20000 in
set_option maxHeartbeats 4000000 in
theorem en_RF_at (g : Gc) {lv : Nat} {t : Nat} {l1 : Int32} {m : Mm} {Q : Int32 → Mm → Prop} (h : mK m t = 13 ∧ (if (mI m t 49) ≤ (l1) then (Q (0 : Int32) m) else (∃ b3, mR m t 17 = some b3 ∧ (mK m b3 = 14 ∧ (vp_in ((mI m t 48) + l1) (mN m b3) ∧ (Q (mI m b3 ((mI m t 48) + l1).toNatClampNeg) m)))))) : CI g M_RF_at (lv + 1) [va_rf (some t), .int (l1)] m Q := by
  refine Call.of (by decide +kernel) (Nat.le_of_ble_eq_true rfl) ?_
  show At g M_RF_at (lv + 1) 0 [(0, va_rf (some t)), (1, .int (l1))] [] m (QI Q)
  refine at_iload_n (i := 1) 1 1 rfl (by decide +kernel) rfl ?_
  refine at_aload_n (i := 0) 0 2 rfl (by decide +kernel) rfl ?_
  obtain ⟨k1, h⟩ := h
  refine at_get (index := 191) (v := .int (mI m t 49)) cok12 49 5 rfl (by decide +kernel) k1 (by decide +kernel) tw_1134 rfl ?_
  refine at_icmp_ge (off := 17) 22 8 rfl (by decide +kernel) (by decide +kernel) (fun c2 => ?_) (fun c2 => ?_)
  · rw [if_pos c2] at h
    refine at_iconst (n := 0) (0 : Int32) 23 rfl (by decide +kernel) (by decide +kernel) ?_
    exact at_iret rfl (by decide +kernel) h
  · rw [if_neg c2] at h
    refine at_aload_n (i := 0) 0 9 rfl (by decide +kernel) rfl ?_
    refine at_get (index := 55) (v := va_rf (mR m t 17)) cok12 17 12 rfl (by decide +kernel) k1 (by decide +kernel) tw_1102 rfl ?_
    refine at_aload_n (i := 0) 0 13 rfl (by decide +kernel) rfl ?_
    refine at_get (index := 194) (v := .int (mI m t 48)) cok12 48 16 rfl (by decide +kernel) k1 (by decide +kernel) tw_1133 rfl ?_
    refine at_iload_n (i := 1) 1 17 rfl (by decide +kernel) rfl ?_
    refine at_iadd 18 rfl (by decide +kernel) ?_
    obtain ⟨b3, e4, h⟩ := h
    rw [e4]
    obtain ⟨k5, h⟩ := h
    obtain ⟨v6, h⟩ := h
    refine at_bald 19 rfl (by decide +kernel) k5 v6 ?_
    refine at_goto (off := 4) 23 (by decide +kernel) (by decide +kernel) ?_
    exact at_iret rfl (by decide +kernel) h
set_option maxRecDepth 20000 in
set_option maxHeartbeats 4000000 in
theorem en_RF_isLetter (g : Gc) {lv : Nat} {l0 : Int32} {m : Mm} {Q : Int32 → Mm → Prop} (h : if (l0) < ((97 : Int32)) then (Q (0 : Int32) m) else (if ((122 : Int32)) < (l0) then (Q (0 : Int32) m) else (Q (1 : Int32) m))) : CI g M_RF_isLetter (lv + 1) [.int (l0)] m Q := by
  refine Call.of (by decide +kernel) (Nat.le_of_ble_eq_true rfl) ?_
  show At g M_RF_isLetter (lv + 1) 0 [(0, .int (l0))] [] m (QI Q)
  refine at_iload_n (i := 0) 0 1 rfl (by decide +kernel) rfl ?_
  refine at_bipush (n := 97) (97 : Int32) 3 rfl (by decide +kernel) (by decide +kernel) ?_
  refine at_icmp_lt (off := 13) 16 6 rfl (by decide +kernel) (by decide +kernel) (fun c1 => ?_) (fun c1 => ?_)
  · rw [if_pos c1] at h
    refine at_iconst (n := 0) (0 : Int32) 17 rfl (by decide +kernel) (by decide +kernel) ?_
    exact at_zret rfl (by decide +kernel) (Or.inl rfl) h
  · rw [if_neg c1] at h
    refine at_iload_n (i := 0) 0 7 rfl (by decide +kernel) rfl ?_
    refine at_bipush (n := 122) (122 : Int32) 9 rfl (by decide +kernel) (by decide +kernel) ?_
    refine at_icmp_gt (off := 7) 16 12 rfl (by decide +kernel) (by decide +kernel) (fun c2 => ?_) (fun c2 => ?_)
    · rw [if_pos c2] at h
      refine at_iconst (n := 0) (0 : Int32) 17 rfl (by decide +kernel) (by decide +kernel) ?_
      exact at_zret rfl (by decide +kernel) (Or.inl rfl) h
    · rw [if_neg c2] at h
      refine at_iconst (n := 1) (1 : Int32) 13 rfl (by decide +kernel) (by decide +kernel) ?_
      refine at_goto (off := 4) 17 (by decide +kernel) (by decide +kernel) ?_
      exact at_zret rfl (by decide +kernel) (Or.inr rfl) h
set_option maxRecDepth 20000 in
set_option maxHeartbeats 4000000 in
theorem en_RF_isDigit (g : Gc) {lv : Nat} {l0 : Int32} {m : Mm} {Q : Int32 → Mm → Prop} (h : if (l0) < ((48 : Int32)) then (Q (0 : Int32) m) else (if ((57 : Int32)) < (l0) then (Q (0 : Int32) m) else (Q (1 : Int32) m))) : CI g M_RF_isDigit (lv + 1) [.int (l0)] m Q := by
  refine Call.of (by decide +kernel) (Nat.le_of_ble_eq_true rfl) ?_
  show At g M_RF_isDigit (lv + 1) 0 [(0, .int (l0))] [] m (QI Q)
  refine at_iload_n (i := 0) 0 1 rfl (by decide +kernel) rfl ?_
  refine at_bipush (n := 48) (48 : Int32) 3 rfl (by decide +kernel) (by decide +kernel) ?_
  refine at_icmp_lt (off := 13) 16 6 rfl (by decide +kernel) (by decide +kernel) (fun c1 => ?_) (fun c1 => ?_)
  · rw [if_pos c1] at h
    refine at_iconst (n := 0) (0 : Int32) 17 rfl (by decide +kernel) (by decide +kernel) ?_
    exact at_zret rfl (by decide +kernel) (Or.inl rfl) h
  · rw [if_neg c1] at h
    refine at_iload_n (i := 0) 0 7 rfl (by decide +kernel) rfl ?_
    refine at_bipush (n := 57) (57 : Int32) 9 rfl (by decide +kernel) (by decide +kernel) ?_
    refine at_icmp_gt (off := 7) 16 12 rfl (by decide +kernel) (by decide +kernel) (fun c2 => ?_) (fun c2 => ?_)
    · rw [if_pos c2] at h
      refine at_iconst (n := 0) (0 : Int32) 17 rfl (by decide +kernel) (by decide +kernel) ?_
      exact at_zret rfl (by decide +kernel) (Or.inl rfl) h
    · rw [if_neg c2] at h
      refine at_iconst (n := 1) (1 : Int32) 13 rfl (by decide +kernel) (by decide +kernel) ?_
      refine at_goto (off := 4) 17 (by decide +kernel) (by decide +kernel) ?_
      exact at_zret rfl (by decide +kernel) (Or.inr rfl) h
set_option maxRecDepth 20000 in
set_option maxHeartbeats 4000000 in
theorem bk_RF_next_142 (g : Gc) {lv : Nat} {t : Nat} {m : Mm} {Q : Mm → Prop} (h : mK m t = 13 ∧ (CI g M_RF_at lv [va_rf (some t), .int (mI m t 50)] m (fun x2 m3 => (CI g M_RF_isDigit lv [.int (x2)] m3 (fun x6 m7 => (if (x6) = 0 then (if (mL m7 t 54) < ((1000000 : Int64)) then (Q m7) else (∀ m12, m12 = sI m7 t 52 (4 : Int32) → (Q m12))) else (if ((1000000 : Int64)) ≤ (mL m7 t 54) then (∀ m16, m16 = sL m7 t 54 (1000000 : Int64) → (∀ m19, m19 = sI m16 t 50 ((mI m16 t 50) + (1 : Int32)) → (At g M_RF_next (lv + 1) 142 [(0, va_rf (some t))] [] m19 (QV Q)))) else (CI g M_RF_at lv [va_rf (some t), .int (mI m7 t 50)] m7 (fun x22 m23 => (∀ m26, m26 = sL m23 t 54 ((((10 : Int64) * (mL m7 t 54)) + x22.toInt64) - (48 : Int64)) → (∀ m29, m29 = sI m26 t 50 ((mI m26 t 50) + (1 : Int32)) → (At g M_RF_next (lv + 1) 142 [(0, va_rf (some t))] [] m29 (QV Q))))))))))))) : At g M_RF_next (lv + 1) 142 [(0, va_rf (some t))] [] m (QV Q) := by
  refine at_aload_n (i := 0) 0 143 rfl (by decide +kernel) rfl ?_
  refine at_aload_n (i := 0) 0 144 rfl (by decide +kernel) rfl ?_
  obtain ⟨k1, h⟩ := h
  refine at_get (index := 197) (v := .int (mI m t 50)) cok12 50 147 rfl (by decide +kernel) k1 (by decide +kernel) tw_1135 rfl ?_
  refine at_callV mb_RF_at tw_1356 tw_35 cok12 k1 (index := 200) tw_1354 [.int (mI m t 50)] [] rfl rfl (by decide) 150 rfl (by decide +kernel) (Call.toI (CI.monoE h (fun x2 m3 h y4 => ?_)))
  have k5 : mK m3 t = 13 := y4.k k1 (by decide)
  refine at_callS mb_RF_isDigit tw_1362 (index := 213) tw_1361 [.int (x2)] [] rfl rfl (by decide) 153 rfl (by decide +kernel) (Call.toI (CI.monoE h (fun x6 m7 h y8 => ?_)))
  have k9 : mK m7 t = 13 := y8.k k5 (by decide)
  refine at_if_eq (off := 59) 212 156 rfl (by decide +kernel) (by decide +kernel) (fun c10 => ?_) (fun c10 => ?_)
  · rw [if_pos c10] at h
    refine at_aload_n (i := 0) 0 213 rfl (by decide +kernel) rfl ?_
    refine at_get (index := 216) (v := .long (mL m7 t 54)) cok12 54 216 rfl (by decide +kernel) k9 (by decide +kernel) tw_1139 rfl ?_
    refine at_ldc2 (index := 168) (1000000 : Int64) 219 rfl (by decide +kernel) tw_1315 ?_
    refine at_lif_lt (off := 90) 220 310 223 rfl rfl (by decide +kernel) (by decide +kernel) (by decide +kernel) (fun c11 => ?_) (fun c11 => ?_)
    · rw [if_pos c11] at h
      exact at_vret rfl (by decide +kernel) h
    · rw [if_neg c11] at h
      refine at_aload_n (i := 0) 0 224 rfl (by decide +kernel) rfl ?_
      refine at_iconst (n := 4) (4 : Int32) 225 rfl (by decide +kernel) (by decide +kernel) ?_
      refine at_putI (index := 207) cok12 52 228 rfl (by decide +kernel) k9 (by decide +kernel) tw_1137 rfl rfl rfl (fun m12 e13 => ?_)
      replace h := h m12 e13
      have k14 : mK m12 t = 13 := by rw [e13]; exact k9
      refine at_goto (off := 82) 310 (by decide +kernel) (by decide +kernel) ?_
      exact at_vret rfl (by decide +kernel) h
  · rw [if_neg c10] at h
    refine at_aload_n (i := 0) 0 157 rfl (by decide +kernel) rfl ?_
    refine at_aload_n (i := 0) 0 158 rfl (by decide +kernel) rfl ?_
    refine at_get (index := 216) (v := .long (mL m7 t 54)) cok12 54 161 rfl (by decide +kernel) k9 (by decide +kernel) tw_1139 rfl ?_
    refine at_ldc2 (index := 168) (1000000 : Int64) 164 rfl (by decide +kernel) tw_1315 ?_
    refine at_lif_ge (off := 28) 165 193 168 rfl rfl (by decide +kernel) (by decide +kernel) (by decide +kernel) (fun c15 => ?_) (fun c15 => ?_)
    · rw [if_pos c15] at h
      refine at_ldc2 (index := 168) (1000000 : Int64) 196 rfl (by decide +kernel) tw_1315 ?_
      refine at_putJ (index := 216) cok12 54 199 rfl (by decide +kernel) k9 (by decide +kernel) tw_1139 rfl rfl rfl (fun m16 e17 => ?_)
      replace h := h m16 e17
      have k18 : mK m16 t = 13 := by rw [e17]; exact k9
      refine at_aload_n (i := 0) 0 200 rfl (by decide +kernel) rfl ?_
      refine at_dup 201 rfl (by decide +kernel) (va_rf_cat _) ?_
      refine at_get (index := 197) (v := .int (mI m16 t 50)) cok12 50 204 rfl (by decide +kernel) k18 (by decide +kernel) tw_1135 rfl ?_
      refine at_iconst (n := 1) (1 : Int32) 205 rfl (by decide +kernel) (by decide +kernel) ?_
      refine at_iadd 206 rfl (by decide +kernel) ?_
      refine at_putI (index := 197) cok12 50 209 rfl (by decide +kernel) k18 (by decide +kernel) tw_1135 rfl rfl rfl (fun m19 e20 => ?_)
      replace h := h m19 e20
      have k21 : mK m19 t = 13 := by rw [e20]; exact k18
      refine at_goto (off := (-67)) 142 (by decide +kernel) (by decide +kernel) ?_
      exact h
    · rw [if_neg c15] at h
      refine at_ldc2 (index := 220) (10 : Int64) 171 rfl (by decide +kernel) tw_1364 ?_
      refine at_aload_n (i := 0) 0 172 rfl (by decide +kernel) rfl ?_
      refine at_get (index := 216) (v := .long (mL m7 t 54)) cok12 54 175 rfl (by decide +kernel) k9 (by decide +kernel) tw_1139 rfl ?_
      refine at_lmul 176 rfl (by decide +kernel) ?_
      refine at_aload_n (i := 0) 0 177 rfl (by decide +kernel) rfl ?_
      refine at_aload_n (i := 0) 0 178 rfl (by decide +kernel) rfl ?_
      refine at_get (index := 197) (v := .int (mI m7 t 50)) cok12 50 181 rfl (by decide +kernel) k9 (by decide +kernel) tw_1135 rfl ?_
      refine at_callV mb_RF_at tw_1356 tw_35 cok12 k9 (index := 200) tw_1354 [.int (mI m7 t 50)] [.long ((10 : Int64) * (mL m7 t 54)), va_rf (some t)] rfl rfl (by simp [va_rf_cat, cat_int, cat_long]) 184 rfl (by decide +kernel) (Call.toI (CI.monoE h (fun x22 m23 h y24 => ?_)))
      have k25 : mK m23 t = 13 := y24.k k9 (by decide)
      refine at_i2l 185 rfl (by decide +kernel) ?_
      refine at_ladd 186 rfl (by decide +kernel) ?_
      refine at_ldc2 (index := 222) (48 : Int64) 189 rfl (by decide +kernel) tw_1365 ?_
      refine at_lsub 190 rfl (by decide +kernel) ?_
      refine at_goto (off := 6) 196 (by decide +kernel) (by decide +kernel) ?_
      refine at_putJ (index := 216) cok12 54 199 rfl (by decide +kernel) k25 (by decide +kernel) tw_1139 rfl rfl rfl (fun m26 e27 => ?_)
      replace h := h m26 e27
      have k28 : mK m26 t = 13 := by rw [e27]; exact k25
      refine at_aload_n (i := 0) 0 200 rfl (by decide +kernel) rfl ?_
      refine at_dup 201 rfl (by decide +kernel) (va_rf_cat _) ?_
      refine at_get (index := 197) (v := .int (mI m26 t 50)) cok12 50 204 rfl (by decide +kernel) k28 (by decide +kernel) tw_1135 rfl ?_
      refine at_iconst (n := 1) (1 : Int32) 205 rfl (by decide +kernel) (by decide +kernel) ?_
      refine at_iadd 206 rfl (by decide +kernel) ?_
      refine at_putI (index := 197) cok12 50 209 rfl (by decide +kernel) k28 (by decide +kernel) tw_1135 rfl rfl rfl (fun m29 e30 => ?_)
      replace h := h m29 e30
      have k31 : mK m29 t = 13 := by rw [e30]; exact k28
      refine at_goto (off := (-67)) 142 (by decide +kernel) (by decide +kernel) ?_
      exact h
set_option maxRecDepth 20000 in
set_option maxHeartbeats 4000000 in
theorem bk_RF_next_98 (g : Gc) {lv : Nat} {t : Nat} {m : Mm} {Q : Mm → Prop} (h : mK m t = 13 ∧ (CI g M_RF_at lv [va_rf (some t), .int (mI m t 50)] m (fun x2 m3 => (CI g M_RF_isLetter lv [.int (x2)] m3 (fun x6 m7 => (if (x6) = 0 then (Q m7) else (∀ m11, m11 = sI m7 t 50 ((mI m7 t 50) + (1 : Int32)) → (At g M_RF_next (lv + 1) 98 [(0, va_rf (some t))] [] m11 (QV Q))))))))) : At g M_RF_next (lv + 1) 98 [(0, va_rf (some t))] [] m (QV Q) := by
  refine at_aload_n (i := 0) 0 99 rfl (by decide +kernel) rfl ?_
  refine at_aload_n (i := 0) 0 100 rfl (by decide +kernel) rfl ?_
  obtain ⟨k1, h⟩ := h
  refine at_get (index := 197) (v := .int (mI m t 50)) cok12 50 103 rfl (by decide +kernel) k1 (by decide +kernel) tw_1135 rfl ?_
  refine at_callV mb_RF_at tw_1356 tw_35 cok12 k1 (index := 200) tw_1354 [.int (mI m t 50)] [] rfl rfl (by decide) 106 rfl (by decide +kernel) (Call.toI (CI.monoE h (fun x2 m3 h y4 => ?_)))
  have k5 : mK m3 t = 13 := y4.k k1 (by decide)
  refine at_callS mb_RF_isLetter tw_1359 (index := 210) tw_1358 [.int (x2)] [] rfl rfl (by decide) 109 rfl (by decide +kernel) (Call.toI (CI.monoE h (fun x6 m7 h y8 => ?_)))
  have k9 : mK m7 t = 13 := y8.k k5 (by decide)
  refine at_if_eq (off := 201) 310 112 rfl (by decide +kernel) (by decide +kernel) (fun c10 => ?_) (fun c10 => ?_)
  · rw [if_pos c10] at h
    exact at_vret rfl (by decide +kernel) h
  · rw [if_neg c10] at h
    refine at_aload_n (i := 0) 0 113 rfl (by decide +kernel) rfl ?_
    refine at_dup 114 rfl (by decide +kernel) (va_rf_cat _) ?_
    refine at_get (index := 197) (v := .int (mI m7 t 50)) cok12 50 117 rfl (by decide +kernel) k9 (by decide +kernel) tw_1135 rfl ?_
    refine at_iconst (n := 1) (1 : Int32) 118 rfl (by decide +kernel) (by decide +kernel) ?_
    refine at_iadd 119 rfl (by decide +kernel) ?_
    refine at_putI (index := 197) cok12 50 122 rfl (by decide +kernel) k9 (by decide +kernel) tw_1135 rfl rfl rfl (fun m11 e12 => ?_)
    replace h := h m11 e12
    have k13 : mK m11 t = 13 := by rw [e12]; exact k9
    refine at_goto (off := (-24)) 98 (by decide +kernel) (by decide +kernel) ?_
    exact h
set_option maxRecDepth 20000 in
set_option maxHeartbeats 4000000 in
theorem bk_RF_next_50 (g : Gc) {lv : Nat} {t : Nat} {m : Mm} {Q : Mm → Prop} (h : mK m t = 13 ∧ (∀ m2, m2 = sI m t 51 (mI m t 50) → (CI g M_RF_at lv [va_rf (some t), .int (mI m2 t 50)] m2 (fun x5 m6 => (if (mI m6 t 50) = (mI m6 t 49) then (∀ m105, m105 = sI m6 t 52 (0 : Int32) → (Q m105)) else (CI g M_RF_isLetter lv [.int (x5)] m6 (fun x10 m11 => (if (x10) = 0 then (CI g M_RF_isDigit lv [.int (x5)] m11 (fun x15 m16 => (if (x15) = 0 then (if (x5) = ((43 : Int32)) then (∀ m21, m21 = sI m16 t 52 (3 : Int32) → (∀ m24, m24 = sI m21 t 50 ((mI m21 t 50) + (1 : Int32)) → (Q m24))) else (if (x5) = ((45 : Int32)) then (∀ m28, m28 = sI m16 t 52 (3 : Int32) → (∀ m31, m31 = sI m28 t 50 ((mI m28 t 50) + (1 : Int32)) → (Q m31))) else (if (x5) = ((42 : Int32)) then (∀ m35, m35 = sI m16 t 52 (3 : Int32) → (∀ m38, m38 = sI m35 t 50 ((mI m35 t 50) + (1 : Int32)) → (Q m38))) else (if (x5) = ((47 : Int32)) then (∀ m42, m42 = sI m16 t 52 (3 : Int32) → (∀ m45, m45 = sI m42 t 50 ((mI m42 t 50) + (1 : Int32)) → (Q m45))) else (if (x5) = ((40 : Int32)) then (∀ m49, m49 = sI m16 t 52 (3 : Int32) → (∀ m52, m52 = sI m49 t 50 ((mI m49 t 50) + (1 : Int32)) → (Q m52))) else (if (x5) = ((41 : Int32)) then (∀ m56, m56 = sI m16 t 52 (3 : Int32) → (∀ m59, m59 = sI m56 t 50 ((mI m56 t 50) + (1 : Int32)) → (Q m59))) else (if (x5) = ((60 : Int32)) then (∀ m63, m63 = sI m16 t 52 (3 : Int32) → (∀ m66, m66 = sI m63 t 50 ((mI m63 t 50) + (1 : Int32)) → (Q m66))) else (if (x5) = ((62 : Int32)) then (∀ m70, m70 = sI m16 t 52 (3 : Int32) → (∀ m73, m73 = sI m70 t 50 ((mI m70 t 50) + (1 : Int32)) → (Q m73))) else (if (x5) = ((61 : Int32)) then (∀ m77, m77 = sI m16 t 52 (3 : Int32) → (∀ m80, m80 = sI m77 t 50 ((mI m77 t 50) + (1 : Int32)) → (Q m80))) else (if (x5) = ((59 : Int32)) then (∀ m90, m90 = sI m16 t 52 (3 : Int32) → (∀ m93, m93 = sI m90 t 50 ((mI m90 t 50) + (1 : Int32)) → (Q m93))) else (∀ m84, m84 = sI m16 t 52 (4 : Int32) → (∀ m87, m87 = sI m84 t 50 ((mI m84 t 50) + (1 : Int32)) → (Q m87))))))))))))) else (∀ m96, m96 = sI m16 t 52 (2 : Int32) → (∀ m99, m99 = sL m96 t 54 (0 : Int64) → (At g M_RF_next (lv + 1) 142 [(0, va_rf (some t))] [] m99 (QV Q))))))) else (∀ m102, m102 = sI m11 t 52 (1 : Int32) → (At g M_RF_next (lv + 1) 98 [(0, va_rf (some t))] [] m102 (QV Q))))))))))) : At g M_RF_next (lv + 1) 50 [(0, va_rf (some t))] [] m (QV Q) := by
  refine at_aload_n (i := 0) 0 51 rfl (by decide +kernel) rfl ?_
  refine at_aload_n (i := 0) 0 52 rfl (by decide +kernel) rfl ?_
  obtain ⟨k1, h⟩ := h
  refine at_get (index := 197) (v := .int (mI m t 50)) cok12 50 55 rfl (by decide +kernel) k1 (by decide +kernel) tw_1135 rfl ?_
  refine at_putI (index := 204) cok12 51 58 rfl (by decide +kernel) k1 (by decide +kernel) tw_1136 rfl rfl rfl (fun m2 e3 => ?_)
  replace h := h m2 e3
  have k4 : mK m2 t = 13 := by rw [e3]; exact k1
  refine at_aload_n (i := 0) 0 59 rfl (by decide +kernel) rfl ?_
  refine at_aload_n (i := 0) 0 60 rfl (by decide +kernel) rfl ?_
  refine at_get (index := 197) (v := .int (mI m2 t 50)) cok12 50 63 rfl (by decide +kernel) k4 (by decide +kernel) tw_1135 rfl ?_
  refine at_callV mb_RF_at tw_1356 tw_35 cok12 k4 (index := 200) tw_1354 [.int (mI m2 t 50)] [] rfl rfl (by decide) 66 rfl (by decide +kernel) (Call.toI (CI.monoE h (fun x5 m6 h y7 => ?_)))
  have k8 : mK m6 t = 13 := y7.k k4 (by decide)
  refine at_istore_n (i := 1) (lc' := [(0, va_rf (some t)), (1, .int (x5))]) [1, 0] 67 rfl (by decide +kernel) (by decide +kernel) rfl ?_
  refine at_aload_n (i := 0) 0 68 rfl (by decide +kernel) rfl ?_
  refine at_get (index := 197) (v := .int (mI m6 t 50)) cok12 50 71 rfl (by decide +kernel) k8 (by decide +kernel) tw_1135 rfl ?_
  refine at_aload_n (i := 0) 0 72 rfl (by decide +kernel) rfl ?_
  refine at_get (index := 191) (v := .int (mI m6 t 49)) cok12 49 75 rfl (by decide +kernel) k8 (by decide +kernel) tw_1134 rfl ?_
  refine at_icmp_ne (off := 11) 86 78 rfl (by decide +kernel) (by decide +kernel) (fun c9 => ?_) (fun c9 => ?_)
  · rw [if_neg c9] at h
    refine at_iload_n (i := 1) 1 87 rfl (by decide +kernel) rfl ?_
    refine at_callS mb_RF_isLetter tw_1359 (index := 210) tw_1358 [.int (x5)] [] rfl rfl (by decide) 90 rfl (by decide +kernel) (Call.toI (CI.monoE h (fun x10 m11 h y12 => ?_)))
    have k13 : mK m11 t = 13 := y12.k k8 (by decide)
    refine at_if_eq (off := 35) 125 93 rfl (by decide +kernel) (by decide +kernel) (fun c14 => ?_) (fun c14 => ?_)
    · rw [if_pos c14] at h
      refine at_iload_n (i := 1) 1 126 rfl (by decide +kernel) rfl ?_
      refine at_callS mb_RF_isDigit tw_1362 (index := 213) tw_1361 [.int (x5)] [] rfl rfl (by decide) 129 rfl (by decide +kernel) (Call.toI (CI.monoE h (fun x15 m16 h y17 => ?_)))
      have k18 : mK m16 t = 13 := y17.k k13 (by decide)
      refine at_if_eq (off := 102) 231 132 rfl (by decide +kernel) (by decide +kernel) (fun c19 => ?_) (fun c19 => ?_)
      · rw [if_pos c19] at h
        refine at_aload_n (i := 0) 0 232 rfl (by decide +kernel) rfl ?_
        refine at_iload_n (i := 1) 1 233 rfl (by decide +kernel) rfl ?_
        refine at_bipush (n := 43) (43 : Int32) 235 rfl (by decide +kernel) (by decide +kernel) ?_
        refine at_icmp_eq (off := 57) 292 238 rfl (by decide +kernel) (by decide +kernel) (fun c20 => ?_) (fun c20 => ?_)
        · rw [if_pos c20] at h
          refine at_iconst (n := 3) (3 : Int32) 293 rfl (by decide +kernel) (by decide +kernel) ?_
          refine at_goto (off := 4) 297 (by decide +kernel) (by decide +kernel) ?_
          refine at_putI (index := 207) cok12 52 300 rfl (by decide +kernel) k18 (by decide +kernel) tw_1137 rfl rfl rfl (fun m21 e22 => ?_)
          replace h := h m21 e22
          have k23 : mK m21 t = 13 := by rw [e22]; exact k18
          refine at_aload_n (i := 0) 0 301 rfl (by decide +kernel) rfl ?_
          refine at_dup 302 rfl (by decide +kernel) (va_rf_cat _) ?_
          refine at_get (index := 197) (v := .int (mI m21 t 50)) cok12 50 305 rfl (by decide +kernel) k23 (by decide +kernel) tw_1135 rfl ?_
          refine at_iconst (n := 1) (1 : Int32) 306 rfl (by decide +kernel) (by decide +kernel) ?_
          refine at_iadd 307 rfl (by decide +kernel) ?_
          refine at_putI (index := 197) cok12 50 310 rfl (by decide +kernel) k23 (by decide +kernel) tw_1135 rfl rfl rfl (fun m24 e25 => ?_)
          replace h := h m24 e25
          have k26 : mK m24 t = 13 := by rw [e25]; exact k23
          exact at_vret rfl (by decide +kernel) h
        · rw [if_neg c20] at h
          refine at_iload_n (i := 1) 1 239 rfl (by decide +kernel) rfl ?_
          refine at_bipush (n := 45) (45 : Int32) 241 rfl (by decide +kernel) (by decide +kernel) ?_
          refine at_icmp_eq (off := 51) 292 244 rfl (by decide +kernel) (by decide +kernel) (fun c27 => ?_) (fun c27 => ?_)
          · rw [if_pos c27] at h
            refine at_iconst (n := 3) (3 : Int32) 293 rfl (by decide +kernel) (by decide +kernel) ?_
            refine at_goto (off := 4) 297 (by decide +kernel) (by decide +kernel) ?_
            refine at_putI (index := 207) cok12 52 300 rfl (by decide +kernel) k18 (by decide +kernel) tw_1137 rfl rfl rfl (fun m28 e29 => ?_)
            replace h := h m28 e29
            have k30 : mK m28 t = 13 := by rw [e29]; exact k18
            refine at_aload_n (i := 0) 0 301 rfl (by decide +kernel) rfl ?_
            refine at_dup 302 rfl (by decide +kernel) (va_rf_cat _) ?_
            refine at_get (index := 197) (v := .int (mI m28 t 50)) cok12 50 305 rfl (by decide +kernel) k30 (by decide +kernel) tw_1135 rfl ?_
            refine at_iconst (n := 1) (1 : Int32) 306 rfl (by decide +kernel) (by decide +kernel) ?_
            refine at_iadd 307 rfl (by decide +kernel) ?_
            refine at_putI (index := 197) cok12 50 310 rfl (by decide +kernel) k30 (by decide +kernel) tw_1135 rfl rfl rfl (fun m31 e32 => ?_)
            replace h := h m31 e32
            have k33 : mK m31 t = 13 := by rw [e32]; exact k30
            exact at_vret rfl (by decide +kernel) h
          · rw [if_neg c27] at h
            refine at_iload_n (i := 1) 1 245 rfl (by decide +kernel) rfl ?_
            refine at_bipush (n := 42) (42 : Int32) 247 rfl (by decide +kernel) (by decide +kernel) ?_
            refine at_icmp_eq (off := 45) 292 250 rfl (by decide +kernel) (by decide +kernel) (fun c34 => ?_) (fun c34 => ?_)
            · rw [if_pos c34] at h
              refine at_iconst (n := 3) (3 : Int32) 293 rfl (by decide +kernel) (by decide +kernel) ?_
              refine at_goto (off := 4) 297 (by decide +kernel) (by decide +kernel) ?_
              refine at_putI (index := 207) cok12 52 300 rfl (by decide +kernel) k18 (by decide +kernel) tw_1137 rfl rfl rfl (fun m35 e36 => ?_)
              replace h := h m35 e36
              have k37 : mK m35 t = 13 := by rw [e36]; exact k18
              refine at_aload_n (i := 0) 0 301 rfl (by decide +kernel) rfl ?_
              refine at_dup 302 rfl (by decide +kernel) (va_rf_cat _) ?_
              refine at_get (index := 197) (v := .int (mI m35 t 50)) cok12 50 305 rfl (by decide +kernel) k37 (by decide +kernel) tw_1135 rfl ?_
              refine at_iconst (n := 1) (1 : Int32) 306 rfl (by decide +kernel) (by decide +kernel) ?_
              refine at_iadd 307 rfl (by decide +kernel) ?_
              refine at_putI (index := 197) cok12 50 310 rfl (by decide +kernel) k37 (by decide +kernel) tw_1135 rfl rfl rfl (fun m38 e39 => ?_)
              replace h := h m38 e39
              have k40 : mK m38 t = 13 := by rw [e39]; exact k37
              exact at_vret rfl (by decide +kernel) h
            · rw [if_neg c34] at h
              refine at_iload_n (i := 1) 1 251 rfl (by decide +kernel) rfl ?_
              refine at_bipush (n := 47) (47 : Int32) 253 rfl (by decide +kernel) (by decide +kernel) ?_
              refine at_icmp_eq (off := 39) 292 256 rfl (by decide +kernel) (by decide +kernel) (fun c41 => ?_) (fun c41 => ?_)
              · rw [if_pos c41] at h
                refine at_iconst (n := 3) (3 : Int32) 293 rfl (by decide +kernel) (by decide +kernel) ?_
                refine at_goto (off := 4) 297 (by decide +kernel) (by decide +kernel) ?_
                refine at_putI (index := 207) cok12 52 300 rfl (by decide +kernel) k18 (by decide +kernel) tw_1137 rfl rfl rfl (fun m42 e43 => ?_)
                replace h := h m42 e43
                have k44 : mK m42 t = 13 := by rw [e43]; exact k18
                refine at_aload_n (i := 0) 0 301 rfl (by decide +kernel) rfl ?_
                refine at_dup 302 rfl (by decide +kernel) (va_rf_cat _) ?_
                refine at_get (index := 197) (v := .int (mI m42 t 50)) cok12 50 305 rfl (by decide +kernel) k44 (by decide +kernel) tw_1135 rfl ?_
                refine at_iconst (n := 1) (1 : Int32) 306 rfl (by decide +kernel) (by decide +kernel) ?_
                refine at_iadd 307 rfl (by decide +kernel) ?_
                refine at_putI (index := 197) cok12 50 310 rfl (by decide +kernel) k44 (by decide +kernel) tw_1135 rfl rfl rfl (fun m45 e46 => ?_)
                replace h := h m45 e46
                have k47 : mK m45 t = 13 := by rw [e46]; exact k44
                exact at_vret rfl (by decide +kernel) h
              · rw [if_neg c41] at h
                refine at_iload_n (i := 1) 1 257 rfl (by decide +kernel) rfl ?_
                refine at_bipush (n := 40) (40 : Int32) 259 rfl (by decide +kernel) (by decide +kernel) ?_
                refine at_icmp_eq (off := 33) 292 262 rfl (by decide +kernel) (by decide +kernel) (fun c48 => ?_) (fun c48 => ?_)
                · rw [if_pos c48] at h
                  refine at_iconst (n := 3) (3 : Int32) 293 rfl (by decide +kernel) (by decide +kernel) ?_
                  refine at_goto (off := 4) 297 (by decide +kernel) (by decide +kernel) ?_
                  refine at_putI (index := 207) cok12 52 300 rfl (by decide +kernel) k18 (by decide +kernel) tw_1137 rfl rfl rfl (fun m49 e50 => ?_)
                  replace h := h m49 e50
                  have k51 : mK m49 t = 13 := by rw [e50]; exact k18
                  refine at_aload_n (i := 0) 0 301 rfl (by decide +kernel) rfl ?_
                  refine at_dup 302 rfl (by decide +kernel) (va_rf_cat _) ?_
                  refine at_get (index := 197) (v := .int (mI m49 t 50)) cok12 50 305 rfl (by decide +kernel) k51 (by decide +kernel) tw_1135 rfl ?_
                  refine at_iconst (n := 1) (1 : Int32) 306 rfl (by decide +kernel) (by decide +kernel) ?_
                  refine at_iadd 307 rfl (by decide +kernel) ?_
                  refine at_putI (index := 197) cok12 50 310 rfl (by decide +kernel) k51 (by decide +kernel) tw_1135 rfl rfl rfl (fun m52 e53 => ?_)
                  replace h := h m52 e53
                  have k54 : mK m52 t = 13 := by rw [e53]; exact k51
                  exact at_vret rfl (by decide +kernel) h
                · rw [if_neg c48] at h
                  refine at_iload_n (i := 1) 1 263 rfl (by decide +kernel) rfl ?_
                  refine at_bipush (n := 41) (41 : Int32) 265 rfl (by decide +kernel) (by decide +kernel) ?_
                  refine at_icmp_eq (off := 27) 292 268 rfl (by decide +kernel) (by decide +kernel) (fun c55 => ?_) (fun c55 => ?_)
                  · rw [if_pos c55] at h
                    refine at_iconst (n := 3) (3 : Int32) 293 rfl (by decide +kernel) (by decide +kernel) ?_
                    refine at_goto (off := 4) 297 (by decide +kernel) (by decide +kernel) ?_
                    refine at_putI (index := 207) cok12 52 300 rfl (by decide +kernel) k18 (by decide +kernel) tw_1137 rfl rfl rfl (fun m56 e57 => ?_)
                    replace h := h m56 e57
                    have k58 : mK m56 t = 13 := by rw [e57]; exact k18
                    refine at_aload_n (i := 0) 0 301 rfl (by decide +kernel) rfl ?_
                    refine at_dup 302 rfl (by decide +kernel) (va_rf_cat _) ?_
                    refine at_get (index := 197) (v := .int (mI m56 t 50)) cok12 50 305 rfl (by decide +kernel) k58 (by decide +kernel) tw_1135 rfl ?_
                    refine at_iconst (n := 1) (1 : Int32) 306 rfl (by decide +kernel) (by decide +kernel) ?_
                    refine at_iadd 307 rfl (by decide +kernel) ?_
                    refine at_putI (index := 197) cok12 50 310 rfl (by decide +kernel) k58 (by decide +kernel) tw_1135 rfl rfl rfl (fun m59 e60 => ?_)
                    replace h := h m59 e60
                    have k61 : mK m59 t = 13 := by rw [e60]; exact k58
                    exact at_vret rfl (by decide +kernel) h
                  · rw [if_neg c55] at h
                    refine at_iload_n (i := 1) 1 269 rfl (by decide +kernel) rfl ?_
                    refine at_bipush (n := 60) (60 : Int32) 271 rfl (by decide +kernel) (by decide +kernel) ?_
                    refine at_icmp_eq (off := 21) 292 274 rfl (by decide +kernel) (by decide +kernel) (fun c62 => ?_) (fun c62 => ?_)
                    · rw [if_pos c62] at h
                      refine at_iconst (n := 3) (3 : Int32) 293 rfl (by decide +kernel) (by decide +kernel) ?_
                      refine at_goto (off := 4) 297 (by decide +kernel) (by decide +kernel) ?_
                      refine at_putI (index := 207) cok12 52 300 rfl (by decide +kernel) k18 (by decide +kernel) tw_1137 rfl rfl rfl (fun m63 e64 => ?_)
                      replace h := h m63 e64
                      have k65 : mK m63 t = 13 := by rw [e64]; exact k18
                      refine at_aload_n (i := 0) 0 301 rfl (by decide +kernel) rfl ?_
                      refine at_dup 302 rfl (by decide +kernel) (va_rf_cat _) ?_
                      refine at_get (index := 197) (v := .int (mI m63 t 50)) cok12 50 305 rfl (by decide +kernel) k65 (by decide +kernel) tw_1135 rfl ?_
                      refine at_iconst (n := 1) (1 : Int32) 306 rfl (by decide +kernel) (by decide +kernel) ?_
                      refine at_iadd 307 rfl (by decide +kernel) ?_
                      refine at_putI (index := 197) cok12 50 310 rfl (by decide +kernel) k65 (by decide +kernel) tw_1135 rfl rfl rfl (fun m66 e67 => ?_)
                      replace h := h m66 e67
                      have k68 : mK m66 t = 13 := by rw [e67]; exact k65
                      exact at_vret rfl (by decide +kernel) h
                    · rw [if_neg c62] at h
                      refine at_iload_n (i := 1) 1 275 rfl (by decide +kernel) rfl ?_
                      refine at_bipush (n := 62) (62 : Int32) 277 rfl (by decide +kernel) (by decide +kernel) ?_
                      refine at_icmp_eq (off := 15) 292 280 rfl (by decide +kernel) (by decide +kernel) (fun c69 => ?_) (fun c69 => ?_)
                      · rw [if_pos c69] at h
                        refine at_iconst (n := 3) (3 : Int32) 293 rfl (by decide +kernel) (by decide +kernel) ?_
                        refine at_goto (off := 4) 297 (by decide +kernel) (by decide +kernel) ?_
                        refine at_putI (index := 207) cok12 52 300 rfl (by decide +kernel) k18 (by decide +kernel) tw_1137 rfl rfl rfl (fun m70 e71 => ?_)
                        replace h := h m70 e71
                        have k72 : mK m70 t = 13 := by rw [e71]; exact k18
                        refine at_aload_n (i := 0) 0 301 rfl (by decide +kernel) rfl ?_
                        refine at_dup 302 rfl (by decide +kernel) (va_rf_cat _) ?_
                        refine at_get (index := 197) (v := .int (mI m70 t 50)) cok12 50 305 rfl (by decide +kernel) k72 (by decide +kernel) tw_1135 rfl ?_
                        refine at_iconst (n := 1) (1 : Int32) 306 rfl (by decide +kernel) (by decide +kernel) ?_
                        refine at_iadd 307 rfl (by decide +kernel) ?_
                        refine at_putI (index := 197) cok12 50 310 rfl (by decide +kernel) k72 (by decide +kernel) tw_1135 rfl rfl rfl (fun m73 e74 => ?_)
                        replace h := h m73 e74
                        have k75 : mK m73 t = 13 := by rw [e74]; exact k72
                        exact at_vret rfl (by decide +kernel) h
                      · rw [if_neg c69] at h
                        refine at_iload_n (i := 1) 1 281 rfl (by decide +kernel) rfl ?_
                        refine at_bipush (n := 61) (61 : Int32) 283 rfl (by decide +kernel) (by decide +kernel) ?_
                        refine at_icmp_eq (off := 9) 292 286 rfl (by decide +kernel) (by decide +kernel) (fun c76 => ?_) (fun c76 => ?_)
                        · rw [if_pos c76] at h
                          refine at_iconst (n := 3) (3 : Int32) 293 rfl (by decide +kernel) (by decide +kernel) ?_
                          refine at_goto (off := 4) 297 (by decide +kernel) (by decide +kernel) ?_
                          refine at_putI (index := 207) cok12 52 300 rfl (by decide +kernel) k18 (by decide +kernel) tw_1137 rfl rfl rfl (fun m77 e78 => ?_)
                          replace h := h m77 e78
                          have k79 : mK m77 t = 13 := by rw [e78]; exact k18
                          refine at_aload_n (i := 0) 0 301 rfl (by decide +kernel) rfl ?_
                          refine at_dup 302 rfl (by decide +kernel) (va_rf_cat _) ?_
                          refine at_get (index := 197) (v := .int (mI m77 t 50)) cok12 50 305 rfl (by decide +kernel) k79 (by decide +kernel) tw_1135 rfl ?_
                          refine at_iconst (n := 1) (1 : Int32) 306 rfl (by decide +kernel) (by decide +kernel) ?_
                          refine at_iadd 307 rfl (by decide +kernel) ?_
                          refine at_putI (index := 197) cok12 50 310 rfl (by decide +kernel) k79 (by decide +kernel) tw_1135 rfl rfl rfl (fun m80 e81 => ?_)
                          replace h := h m80 e81
                          have k82 : mK m80 t = 13 := by rw [e81]; exact k79
                          exact at_vret rfl (by decide +kernel) h
                        · rw [if_neg c76] at h
                          refine at_iload_n (i := 1) 1 287 rfl (by decide +kernel) rfl ?_
                          refine at_bipush (n := 59) (59 : Int32) 289 rfl (by decide +kernel) (by decide +kernel) ?_
                          refine at_icmp_ne (off := 7) 296 292 rfl (by decide +kernel) (by decide +kernel) (fun c83 => ?_) (fun c83 => ?_)
                          · rw [if_neg c83] at h
                            refine at_iconst (n := 4) (4 : Int32) 297 rfl (by decide +kernel) (by decide +kernel) ?_
                            refine at_putI (index := 207) cok12 52 300 rfl (by decide +kernel) k18 (by decide +kernel) tw_1137 rfl rfl rfl (fun m84 e85 => ?_)
                            replace h := h m84 e85
                            have k86 : mK m84 t = 13 := by rw [e85]; exact k18
                            refine at_aload_n (i := 0) 0 301 rfl (by decide +kernel) rfl ?_
                            refine at_dup 302 rfl (by decide +kernel) (va_rf_cat _) ?_
                            refine at_get (index := 197) (v := .int (mI m84 t 50)) cok12 50 305 rfl (by decide +kernel) k86 (by decide +kernel) tw_1135 rfl ?_
                            refine at_iconst (n := 1) (1 : Int32) 306 rfl (by decide +kernel) (by decide +kernel) ?_
                            refine at_iadd 307 rfl (by decide +kernel) ?_
                            refine at_putI (index := 197) cok12 50 310 rfl (by decide +kernel) k86 (by decide +kernel) tw_1135 rfl rfl rfl (fun m87 e88 => ?_)
                            replace h := h m87 e88
                            have k89 : mK m87 t = 13 := by rw [e88]; exact k86
                            exact at_vret rfl (by decide +kernel) h
                          · rw [if_pos c83] at h
                            refine at_iconst (n := 3) (3 : Int32) 293 rfl (by decide +kernel) (by decide +kernel) ?_
                            refine at_goto (off := 4) 297 (by decide +kernel) (by decide +kernel) ?_
                            refine at_putI (index := 207) cok12 52 300 rfl (by decide +kernel) k18 (by decide +kernel) tw_1137 rfl rfl rfl (fun m90 e91 => ?_)
                            replace h := h m90 e91
                            have k92 : mK m90 t = 13 := by rw [e91]; exact k18
                            refine at_aload_n (i := 0) 0 301 rfl (by decide +kernel) rfl ?_
                            refine at_dup 302 rfl (by decide +kernel) (va_rf_cat _) ?_
                            refine at_get (index := 197) (v := .int (mI m90 t 50)) cok12 50 305 rfl (by decide +kernel) k92 (by decide +kernel) tw_1135 rfl ?_
                            refine at_iconst (n := 1) (1 : Int32) 306 rfl (by decide +kernel) (by decide +kernel) ?_
                            refine at_iadd 307 rfl (by decide +kernel) ?_
                            refine at_putI (index := 197) cok12 50 310 rfl (by decide +kernel) k92 (by decide +kernel) tw_1135 rfl rfl rfl (fun m93 e94 => ?_)
                            replace h := h m93 e94
                            have k95 : mK m93 t = 13 := by rw [e94]; exact k92
                            exact at_vret rfl (by decide +kernel) h
      · rw [if_neg c19] at h
        refine at_aload_n (i := 0) 0 133 rfl (by decide +kernel) rfl ?_
        refine at_iconst (n := 2) (2 : Int32) 134 rfl (by decide +kernel) (by decide +kernel) ?_
        refine at_putI (index := 207) cok12 52 137 rfl (by decide +kernel) k18 (by decide +kernel) tw_1137 rfl rfl rfl (fun m96 e97 => ?_)
        replace h := h m96 e97
        have k98 : mK m96 t = 13 := by rw [e97]; exact k18
        refine at_aload_n (i := 0) 0 138 rfl (by decide +kernel) rfl ?_
        refine at_lconst (n := 0) (0 : Int64) 139 rfl (by decide +kernel) (by decide +kernel) ?_
        refine at_putJ (index := 216) cok12 54 142 rfl (by decide +kernel) k98 (by decide +kernel) tw_1139 rfl rfl rfl (fun m99 e100 => ?_)
        replace h := h m99 e100
        have k101 : mK m99 t = 13 := by rw [e100]; exact k98
        exact At.sub [0] rfl h
    · rw [if_neg c14] at h
      refine at_aload_n (i := 0) 0 94 rfl (by decide +kernel) rfl ?_
      refine at_iconst (n := 1) (1 : Int32) 95 rfl (by decide +kernel) (by decide +kernel) ?_
      refine at_putI (index := 207) cok12 52 98 rfl (by decide +kernel) k13 (by decide +kernel) tw_1137 rfl rfl rfl (fun m102 e103 => ?_)
      replace h := h m102 e103
      have k104 : mK m102 t = 13 := by rw [e103]; exact k13
      exact At.sub [0] rfl h
  · rw [if_pos c9] at h
    refine at_aload_n (i := 0) 0 79 rfl (by decide +kernel) rfl ?_
    refine at_iconst (n := 0) (0 : Int32) 80 rfl (by decide +kernel) (by decide +kernel) ?_
    refine at_putI (index := 207) cok12 52 83 rfl (by decide +kernel) k8 (by decide +kernel) tw_1137 rfl rfl rfl (fun m105 e106 => ?_)
    replace h := h m105 e106
    have k107 : mK m105 t = 13 := by rw [e106]; exact k8
    refine at_goto (off := 227) 310 (by decide +kernel) (by decide +kernel) ?_
    exact at_vret rfl (by decide +kernel) h
set_option maxRecDepth 20000 in
set_option maxHeartbeats 4000000 in
theorem en_RF_next (g : Gc) {lv : Nat} {t : Nat} {m : Mm} {Q : Mm → Prop} (h : mK m t = 13 ∧ (if (mI m t 49) ≤ (mI m t 50) then (At g M_RF_next (lv + 1) 50 [(0, va_rf (some t))] [] m (QV Q)) else (CI g M_RF_at lv [va_rf (some t), .int (mI m t 50)] m (fun x3 m4 => (if (x3) = ((32 : Int32)) then (∀ m8, m8 = sI m4 t 50 ((mI m4 t 50) + (1 : Int32)) → (At g M_RF_next (lv + 1) 0 [(0, va_rf (some t))] [] m8 (QV Q))) else (CI g M_RF_at lv [va_rf (some t), .int (mI m4 t 50)] m4 (fun x11 m12 => (if (x11) = ((10 : Int32)) then (∀ m16, m16 = sI m12 t 50 ((mI m12 t 50) + (1 : Int32)) → (At g M_RF_next (lv + 1) 0 [(0, va_rf (some t))] [] m16 (QV Q))) else (At g M_RF_next (lv + 1) 50 [(0, va_rf (some t))] [] m12 (QV Q)))))))))) : CV g M_RF_next (lv + 1) [va_rf (some t)] m Q := by
  refine Call.of (by decide +kernel) (Nat.le_of_ble_eq_true rfl) ?_
  show At g M_RF_next (lv + 1) 0 [(0, va_rf (some t))] [] m (QV Q)
  refine at_aload_n (i := 0) 0 1 rfl (by decide +kernel) rfl ?_
  obtain ⟨k1, h⟩ := h
  refine at_get (index := 197) (v := .int (mI m t 50)) cok12 50 4 rfl (by decide +kernel) k1 (by decide +kernel) tw_1135 rfl ?_
  refine at_aload_n (i := 0) 0 5 rfl (by decide +kernel) rfl ?_
  refine at_get (index := 191) (v := .int (mI m t 49)) cok12 49 8 rfl (by decide +kernel) k1 (by decide +kernel) tw_1134 rfl ?_
  refine at_icmp_ge (off := 42) 50 11 rfl (by decide +kernel) (by decide +kernel) (fun c2 => ?_) (fun c2 => ?_)
  · rw [if_pos c2] at h
    exact h
  · rw [if_neg c2] at h
    refine at_aload_n (i := 0) 0 12 rfl (by decide +kernel) rfl ?_
    refine at_aload_n (i := 0) 0 13 rfl (by decide +kernel) rfl ?_
    refine at_get (index := 197) (v := .int (mI m t 50)) cok12 50 16 rfl (by decide +kernel) k1 (by decide +kernel) tw_1135 rfl ?_
    refine at_callV mb_RF_at tw_1356 tw_35 cok12 k1 (index := 200) tw_1354 [.int (mI m t 50)] [] rfl rfl (by decide) 19 rfl (by decide +kernel) (Call.toI (CI.monoE h (fun x3 m4 h y5 => ?_)))
    have k6 : mK m4 t = 13 := y5.k k1 (by decide)
    refine at_bipush (n := 32) (32 : Int32) 21 rfl (by decide +kernel) (by decide +kernel) ?_
    refine at_icmp_eq (off := 16) 37 24 rfl (by decide +kernel) (by decide +kernel) (fun c7 => ?_) (fun c7 => ?_)
    · rw [if_pos c7] at h
      refine at_aload_n (i := 0) 0 38 rfl (by decide +kernel) rfl ?_
      refine at_dup 39 rfl (by decide +kernel) (va_rf_cat _) ?_
      refine at_get (index := 197) (v := .int (mI m4 t 50)) cok12 50 42 rfl (by decide +kernel) k6 (by decide +kernel) tw_1135 rfl ?_
      refine at_iconst (n := 1) (1 : Int32) 43 rfl (by decide +kernel) (by decide +kernel) ?_
      refine at_iadd 44 rfl (by decide +kernel) ?_
      refine at_putI (index := 197) cok12 50 47 rfl (by decide +kernel) k6 (by decide +kernel) tw_1135 rfl rfl rfl (fun m8 e9 => ?_)
      replace h := h m8 e9
      have k10 : mK m8 t = 13 := by rw [e9]; exact k6
      refine at_goto (off := (-47)) 0 (by decide +kernel) (by decide +kernel) ?_
      exact h
    · rw [if_neg c7] at h
      refine at_aload_n (i := 0) 0 25 rfl (by decide +kernel) rfl ?_
      refine at_aload_n (i := 0) 0 26 rfl (by decide +kernel) rfl ?_
      refine at_get (index := 197) (v := .int (mI m4 t 50)) cok12 50 29 rfl (by decide +kernel) k6 (by decide +kernel) tw_1135 rfl ?_
      refine at_callV mb_RF_at tw_1356 tw_35 cok12 k6 (index := 200) tw_1354 [.int (mI m4 t 50)] [] rfl rfl (by decide) 32 rfl (by decide +kernel) (Call.toI (CI.monoE h (fun x11 m12 h y13 => ?_)))
      have k14 : mK m12 t = 13 := y13.k k6 (by decide)
      refine at_bipush (n := 10) (10 : Int32) 34 rfl (by decide +kernel) (by decide +kernel) ?_
      refine at_icmp_ne (off := 16) 50 37 rfl (by decide +kernel) (by decide +kernel) (fun c15 => ?_) (fun c15 => ?_)
      · rw [if_neg c15] at h
        exact h
      · rw [if_pos c15] at h
        refine at_aload_n (i := 0) 0 38 rfl (by decide +kernel) rfl ?_
        refine at_dup 39 rfl (by decide +kernel) (va_rf_cat _) ?_
        refine at_get (index := 197) (v := .int (mI m12 t 50)) cok12 50 42 rfl (by decide +kernel) k14 (by decide +kernel) tw_1135 rfl ?_
        refine at_iconst (n := 1) (1 : Int32) 43 rfl (by decide +kernel) (by decide +kernel) ?_
        refine at_iadd 44 rfl (by decide +kernel) ?_
        refine at_putI (index := 197) cok12 50 47 rfl (by decide +kernel) k14 (by decide +kernel) tw_1135 rfl rfl rfl (fun m16 e17 => ?_)
        replace h := h m16 e17
        have k18 : mK m16 t = 13 := by rw [e17]; exact k14
        refine at_goto (off := (-47)) 0 (by decide +kernel) (by decide +kernel) ?_
        exact h
set_option maxRecDepth 20000 in
set_option maxHeartbeats 4000000 in
theorem en_RF_bad (g : Gc) {lv : Nat} {t : Nat} {m : Mm} {Q : Mm → Prop} (h : mK m t = 13 ∧ (if (mI m t 55) = 0 then (∀ m6, m6 = sI m t 16 (mI m t 51) → (∀ m9, m9 = sI m6 t 55 (1 : Int32) → (Q m9))) else (∀ m3, m3 = sI m t 55 (1 : Int32) → (Q m3)))) : CV g M_RF_bad (lv + 1) [va_rf (some t)] m Q := by
  refine Call.of (by decide +kernel) (Nat.le_of_ble_eq_true rfl) ?_
  show At g M_RF_bad (lv + 1) 0 [(0, va_rf (some t))] [] m (QV Q)
  refine at_aload_n (i := 0) 0 1 rfl (by decide +kernel) rfl ?_
  obtain ⟨k1, h⟩ := h
  refine at_get (index := 224) (v := .int (mI m t 55)) cok12 55 4 rfl (by decide +kernel) k1 (by decide +kernel) tw_1140 rfl ?_
  refine at_if_ne (off := 11) 15 7 rfl (by decide +kernel) (by decide +kernel) (fun c2 => ?_) (fun c2 => ?_)
  · rw [if_neg c2] at h
    refine at_aload_n (i := 0) 0 16 rfl (by decide +kernel) rfl ?_
    refine at_iconst (n := 1) (1 : Int32) 17 rfl (by decide +kernel) (by decide +kernel) ?_
    refine at_putZ (index := 224) cok12 55 20 rfl (by decide +kernel) k1 (by decide +kernel) tw_1140 rfl rfl rfl (Or.inr rfl) (fun m3 e4 => ?_)
    replace h := h m3 e4
    have k5 : mK m3 t = 13 := by rw [e4]; exact k1
    exact at_vret rfl (by decide +kernel) h
  · rw [if_pos c2] at h
    refine at_aload_n (i := 0) 0 8 rfl (by decide +kernel) rfl ?_
    refine at_aload_n (i := 0) 0 9 rfl (by decide +kernel) rfl ?_
    refine at_get (index := 204) (v := .int (mI m t 51)) cok12 51 12 rfl (by decide +kernel) k1 (by decide +kernel) tw_1136 rfl ?_
    refine at_putI (index := 52) cok12 16 15 rfl (by decide +kernel) k1 (by decide +kernel) tw_1101 rfl rfl rfl (fun m6 e7 => ?_)
    replace h := h m6 e7
    have k8 : mK m6 t = 13 := by rw [e7]; exact k1
    refine at_aload_n (i := 0) 0 16 rfl (by decide +kernel) rfl ?_
    refine at_iconst (n := 1) (1 : Int32) 17 rfl (by decide +kernel) (by decide +kernel) ?_
    refine at_putZ (index := 224) cok12 55 20 rfl (by decide +kernel) k8 (by decide +kernel) tw_1140 rfl rfl rfl (Or.inr rfl) (fun m9 e10 => ?_)
    replace h := h m9 e10
    have k11 : mK m9 t = 13 := by rw [e10]; exact k8
    exact at_vret rfl (by decide +kernel) h
set_option maxRecDepth 20000 in
set_option maxHeartbeats 4000000 in
theorem en_RF_isSign (g : Gc) {lv : Nat} {t : Nat} {l1 : Int32} {m : Mm} {Q : Int32 → Mm → Prop} (h : mK m t = 13 ∧ (if (mI m t 55) = 0 then (if (mI m t 52) = ((3 : Int32)) then (CI g M_RF_at lv [va_rf (some t), .int (mI m t 51)] m (fun x4 m5 => (if (x4) = (l1) then (Q (1 : Int32) m5) else (Q (0 : Int32) m5)))) else (Q (0 : Int32) m)) else (Q (0 : Int32) m))) : CI g M_RF_isSign (lv + 1) [va_rf (some t), .int (l1)] m Q := by
  refine Call.of (by decide +kernel) (Nat.le_of_ble_eq_true rfl) ?_
  show At g M_RF_isSign (lv + 1) 0 [(0, va_rf (some t)), (1, .int (l1))] [] m (QI Q)
  refine at_aload_n (i := 0) 0 1 rfl (by decide +kernel) rfl ?_
  obtain ⟨k1, h⟩ := h
  refine at_get (index := 224) (v := .int (mI m t 55)) cok12 55 4 rfl (by decide +kernel) k1 (by decide +kernel) tw_1140 rfl ?_
  refine at_if_ne (off := 27) 31 7 rfl (by decide +kernel) (by decide +kernel) (fun c2 => ?_) (fun c2 => ?_)
  · rw [if_neg c2] at h
    refine at_iconst (n := 0) (0 : Int32) 32 rfl (by decide +kernel) (by decide +kernel) ?_
    exact at_zret rfl (by decide +kernel) (Or.inl rfl) h
  · rw [if_pos c2] at h
    refine at_aload_n (i := 0) 0 8 rfl (by decide +kernel) rfl ?_
    refine at_get (index := 207) (v := .int (mI m t 52)) cok12 52 11 rfl (by decide +kernel) k1 (by decide +kernel) tw_1137 rfl ?_
    refine at_iconst (n := 3) (3 : Int32) 12 rfl (by decide +kernel) (by decide +kernel) ?_
    refine at_icmp_ne (off := 19) 31 15 rfl (by decide +kernel) (by decide +kernel) (fun c3 => ?_) (fun c3 => ?_)
    · rw [if_neg c3] at h
      refine at_iconst (n := 0) (0 : Int32) 32 rfl (by decide +kernel) (by decide +kernel) ?_
      exact at_zret rfl (by decide +kernel) (Or.inl rfl) h
    · rw [if_pos c3] at h
      refine at_aload_n (i := 0) 0 16 rfl (by decide +kernel) rfl ?_
      refine at_aload_n (i := 0) 0 17 rfl (by decide +kernel) rfl ?_
      refine at_get (index := 204) (v := .int (mI m t 51)) cok12 51 20 rfl (by decide +kernel) k1 (by decide +kernel) tw_1136 rfl ?_
      refine at_callV mb_RF_at tw_1356 tw_35 cok12 k1 (index := 200) tw_1354 [.int (mI m t 51)] [] rfl rfl (by decide) 23 rfl (by decide +kernel) (Call.toI (CI.monoE h (fun x4 m5 h y6 => ?_)))
      have k7 : mK m5 t = 13 := y6.k k1 (by decide)
      refine at_iload_n (i := 1) 1 24 rfl (by decide +kernel) rfl ?_
      refine at_icmp_ne (off := 7) 31 27 rfl (by decide +kernel) (by decide +kernel) (fun c8 => ?_) (fun c8 => ?_)
      · rw [if_neg c8] at h
        refine at_iconst (n := 0) (0 : Int32) 32 rfl (by decide +kernel) (by decide +kernel) ?_
        exact at_zret rfl (by decide +kernel) (Or.inl rfl) h
      · rw [if_pos c8] at h
        refine at_iconst (n := 1) (1 : Int32) 28 rfl (by decide +kernel) (by decide +kernel) ?_
        refine at_goto (off := 4) 32 (by decide +kernel) (by decide +kernel) ?_
        exact at_zret rfl (by decide +kernel) (Or.inr rfl) h
set_option maxRecDepth 20000 in
set_option maxHeartbeats 4000000 in
theorem bk_RF_is_39 (g : Gc) {lv : Nat} {t : Nat} {l1 : Option Nat} {l2 : Int32} {l3 : Int32} {m : Mm} {Q : Int32 → Mm → Prop} (h : if (l2) = 0 then (b01 l2 ∧ (Q l2 m)) else (∃ i3, i3 < 13 ∧ l1 = some (gK g i3) ∧ (CI g M_String_length lv [va_rf (some (gK g i3))] m (fun x6 m7 => (if (x6) ≤ (l3) then (b01 l2 ∧ (Q l2 m7)) else (mK m7 t = 13 ∧ (CI g M_RF_at lv [va_rf (some t), .int ((mI m7 t 51) + l3)] m7 (fun x12 m13 => (CI g M_String_charAt lv [va_rf (some (gK g i3)), .int (l3)] m13 (fun x17 m18 => (if (x12) = (x17) then (At g M_RF_is (lv + 1) 39 [(0, va_rf (some t)), (1, va_rf (some (gK g i3))), (2, .int ((1 : Int32))), (3, .int (l3 + (1 : Int32)))] [] m18 (QI Q)) else (At g M_RF_is (lv + 1) 39 [(0, va_rf (some t)), (1, va_rf (some (gK g i3))), (2, .int ((0 : Int32))), (3, .int (l3 + (1 : Int32)))] [] m18 (QI Q))))))))))))) : At g M_RF_is (lv + 1) 39 [(0, va_rf (some t)), (1, va_rf (l1)), (2, .int (l2)), (3, .int (l3))] [] m (QI Q) := by
  refine at_iload_n (i := 2) 2 40 rfl (by decide +kernel) rfl ?_
  refine at_if_eq (off := 41) 81 43 rfl (by decide +kernel) (by decide +kernel) (fun c1 => ?_) (fun c1 => ?_)
  · rw [if_pos c1] at h
    refine at_iload_n (i := 2) 2 82 rfl (by decide +kernel) rfl ?_
    obtain ⟨d2, h⟩ := h
    exact at_zret rfl (by decide +kernel) d2 h
  · rw [if_neg c1] at h
    refine at_iload_n (i := 3) 3 44 rfl (by decide +kernel) rfl ?_
    refine at_aload_n (i := 1) 1 45 rfl (by decide +kernel) rfl ?_
    obtain ⟨i3, c4, e5, h⟩ := h
    subst e5
    refine at_callVS mb_String_length rfl tw_541 tw_542 c4 (index := 228) tw_1375 [] [.int (l3)] rfl rfl (by simp [va_rf_cat, cat_int, cat_long]) 48 rfl (by decide +kernel) (Call.toI (CI.monoE h (fun x6 m7 h y8 => ?_)))
    refine at_icmp_ge (off := 33) 81 51 rfl (by decide +kernel) (by decide +kernel) (fun c9 => ?_) (fun c9 => ?_)
    · rw [if_pos c9] at h
      refine at_iload_n (i := 2) 2 82 rfl (by decide +kernel) rfl ?_
      obtain ⟨d10, h⟩ := h
      exact at_zret rfl (by decide +kernel) d10 h
    · rw [if_neg c9] at h
      refine at_aload_n (i := 0) 0 52 rfl (by decide +kernel) rfl ?_
      refine at_aload_n (i := 0) 0 53 rfl (by decide +kernel) rfl ?_
      obtain ⟨k11, h⟩ := h
      refine at_get (index := 204) (v := .int (mI m7 t 51)) cok12 51 56 rfl (by decide +kernel) k11 (by decide +kernel) tw_1136 rfl ?_
      refine at_iload_n (i := 3) 3 57 rfl (by decide +kernel) rfl ?_
      refine at_iadd 58 rfl (by decide +kernel) ?_
      refine at_callV mb_RF_at tw_1356 tw_35 cok12 k11 (index := 200) tw_1354 [.int ((mI m7 t 51) + l3)] [] rfl rfl (by decide) 61 rfl (by decide +kernel) (Call.toI (CI.monoE h (fun x12 m13 h y14 => ?_)))
      have k15 : mK m13 t = 13 := y14.k k11 (by decide)
      refine at_aload_n (i := 1) 1 62 rfl (by decide +kernel) rfl ?_
      refine at_iload_n (i := 3) 3 63 rfl (by decide +kernel) rfl ?_
      have c16 : i3 < 13 := by first | assumption | decide
      refine at_callVS mb_String_charAt rfl tw_551 tw_552 c16 (index := 234) tw_1376 [.int (l3)] [.int (x12)] rfl rfl (by simp [va_rf_cat, cat_int, cat_long]) 66 rfl (by decide +kernel) (Call.toI (CI.monoE h (fun x17 m18 h y19 => ?_)))
      have k20 : mK m18 t = 13 := y19.k k15 (by decide)
      refine at_icmp_ne (off := 7) 73 69 rfl (by decide +kernel) (by decide +kernel) (fun c21 => ?_) (fun c21 => ?_)
      · rw [if_neg c21] at h
        refine at_iconst (n := 0) (0 : Int32) 74 rfl (by decide +kernel) (by decide +kernel) ?_
        refine at_istore_n (i := 2) (lc' := [(0, va_rf (some t)), (1, va_rf (some (gK g i3))), (2, .int ((0 : Int32))), (3, .int (l3))]) [1, 2, 0, 3] 75 rfl (by decide +kernel) (by decide +kernel) rfl ?_
        refine at_iinc (i := 3) (n := 1) (lc' := [(0, va_rf (some t)), (1, va_rf (some (gK g i3))), (2, .int ((0 : Int32))), (3, .int (l3 + (1 : Int32)))]) (l3 + (1 : Int32)) 3 [1, 2, 3, 0] 78 rfl (by decide +kernel) rfl (by rw [show Int32.ofInt 1 = (1 : Int32) from by decide +kernel]) (by decide +kernel) rfl ?_
        refine at_goto (off := (-39)) 39 (by decide +kernel) (by decide +kernel) ?_
        exact h
      · rw [if_pos c21] at h
        refine at_iconst (n := 1) (1 : Int32) 70 rfl (by decide +kernel) (by decide +kernel) ?_
        refine at_goto (off := 4) 74 (by decide +kernel) (by decide +kernel) ?_
        refine at_istore_n (i := 2) (lc' := [(0, va_rf (some t)), (1, va_rf (some (gK g i3))), (2, .int ((1 : Int32))), (3, .int (l3))]) [1, 2, 0, 3] 75 rfl (by decide +kernel) (by decide +kernel) rfl ?_
        refine at_iinc (i := 3) (n := 1) (lc' := [(0, va_rf (some t)), (1, va_rf (some (gK g i3))), (2, .int ((1 : Int32))), (3, .int (l3 + (1 : Int32)))]) (l3 + (1 : Int32)) 3 [1, 2, 3, 0] 78 rfl (by decide +kernel) rfl (by rw [show Int32.ofInt 1 = (1 : Int32) from by decide +kernel]) (by decide +kernel) rfl ?_
        refine at_goto (off := (-39)) 39 (by decide +kernel) (by decide +kernel) ?_
        exact h
set_option maxRecDepth 20000 in
set_option maxHeartbeats 4000000 in
theorem en_RF_is (g : Gc) {lv : Nat} {t : Nat} {l1 : Option Nat} {m : Mm} {Q : Int32 → Mm → Prop} (h : mK m t = 13 ∧ (if (mI m t 55) = 0 then (if (mI m t 52) = ((1 : Int32)) then (∃ i4, i4 < 13 ∧ l1 = some (gK g i4) ∧ (CI g M_String_length lv [va_rf (some (gK g i4))] m (fun x7 m8 => (if ((mI m t 50) - (mI m t 51)) = (x7) then (At g M_RF_is (lv + 1) 39 [(0, va_rf (some t)), (1, va_rf (some (gK g i4))), (2, .int ((1 : Int32))), (3, .int ((0 : Int32)))] [] m8 (QI Q)) else (At g M_RF_is (lv + 1) 39 [(0, va_rf (some t)), (1, va_rf (some (gK g i4))), (2, .int ((0 : Int32))), (3, .int ((0 : Int32)))] [] m8 (QI Q)))))) else (At g M_RF_is (lv + 1) 39 [(0, va_rf (some t)), (1, va_rf (l1)), (2, .int ((0 : Int32))), (3, .int ((0 : Int32)))] [] m (QI Q))) else (At g M_RF_is (lv + 1) 39 [(0, va_rf (some t)), (1, va_rf (l1)), (2, .int ((0 : Int32))), (3, .int ((0 : Int32)))] [] m (QI Q)))) : CI g M_RF_is (lv + 1) [va_rf (some t), va_rf (l1)] m Q := by
  refine Call.of (by decide +kernel) (by simp [lg_sl, va_rf_cat, cat_int, cat_long, M_RF_is]) ?_
  rw [show lv_args 0 [va_rf (some t), va_rf (l1)] = [(0, va_rf (some t)), (1, va_rf (l1))] from by simp [lv_args, va_rf_cat, cat_int, cat_long]]
  refine at_aload_n (i := 0) 0 1 rfl (by decide +kernel) rfl ?_
  obtain ⟨k1, h⟩ := h
  refine at_get (index := 224) (v := .int (mI m t 55)) cok12 55 4 rfl (by decide +kernel) k1 (by decide +kernel) tw_1140 rfl ?_
  refine at_if_ne (off := 31) 35 7 rfl (by decide +kernel) (by decide +kernel) (fun c2 => ?_) (fun c2 => ?_)
  · rw [if_neg c2] at h
    refine at_iconst (n := 0) (0 : Int32) 36 rfl (by decide +kernel) (by decide +kernel) ?_
    refine at_istore_n (i := 2) (lc' := [(0, va_rf (some t)), (1, va_rf (l1)), (2, .int ((0 : Int32)))]) [1, 2, 0] 37 rfl (by decide +kernel) (by decide +kernel) (by generalize l1 = rr; cases rr <;> rfl) ?_
    refine at_iconst (n := 0) (0 : Int32) 38 rfl (by decide +kernel) (by decide +kernel) ?_
    refine at_istore_n (i := 3) (lc' := [(0, va_rf (some t)), (1, va_rf (l1)), (2, .int ((0 : Int32))), (3, .int ((0 : Int32)))]) [1, 2, 3, 0] 39 rfl (by decide +kernel) (by decide +kernel) rfl ?_
    exact h
  · rw [if_pos c2] at h
    refine at_aload_n (i := 0) 0 8 rfl (by decide +kernel) rfl ?_
    refine at_get (index := 207) (v := .int (mI m t 52)) cok12 52 11 rfl (by decide +kernel) k1 (by decide +kernel) tw_1137 rfl ?_
    refine at_iconst (n := 1) (1 : Int32) 12 rfl (by decide +kernel) (by decide +kernel) ?_
    refine at_icmp_ne (off := 23) 35 15 rfl (by decide +kernel) (by decide +kernel) (fun c3 => ?_) (fun c3 => ?_)
    · rw [if_neg c3] at h
      refine at_iconst (n := 0) (0 : Int32) 36 rfl (by decide +kernel) (by decide +kernel) ?_
      refine at_istore_n (i := 2) (lc' := [(0, va_rf (some t)), (1, va_rf (l1)), (2, .int ((0 : Int32)))]) [1, 2, 0] 37 rfl (by decide +kernel) (by decide +kernel) (by generalize l1 = rr; cases rr <;> rfl) ?_
      refine at_iconst (n := 0) (0 : Int32) 38 rfl (by decide +kernel) (by decide +kernel) ?_
      refine at_istore_n (i := 3) (lc' := [(0, va_rf (some t)), (1, va_rf (l1)), (2, .int ((0 : Int32))), (3, .int ((0 : Int32)))]) [1, 2, 3, 0] 39 rfl (by decide +kernel) (by decide +kernel) rfl ?_
      exact h
    · rw [if_pos c3] at h
      refine at_aload_n (i := 0) 0 16 rfl (by decide +kernel) rfl ?_
      refine at_get (index := 197) (v := .int (mI m t 50)) cok12 50 19 rfl (by decide +kernel) k1 (by decide +kernel) tw_1135 rfl ?_
      refine at_aload_n (i := 0) 0 20 rfl (by decide +kernel) rfl ?_
      refine at_get (index := 204) (v := .int (mI m t 51)) cok12 51 23 rfl (by decide +kernel) k1 (by decide +kernel) tw_1136 rfl ?_
      refine at_isub 24 rfl (by decide +kernel) ?_
      refine at_aload_n (i := 1) 1 25 rfl (by decide +kernel) rfl ?_
      obtain ⟨i4, c5, e6, h⟩ := h
      subst e6
      refine at_callVS mb_String_length rfl tw_541 tw_542 c5 (index := 228) tw_1375 [] [.int ((mI m t 50) - (mI m t 51))] rfl rfl (by simp [va_rf_cat, cat_int, cat_long]) 28 rfl (by decide +kernel) (Call.toI (CI.monoE h (fun x7 m8 h y9 => ?_)))
      have k10 : mK m8 t = 13 := y9.k k1 (by decide)
      refine at_icmp_ne (off := 7) 35 31 rfl (by decide +kernel) (by decide +kernel) (fun c11 => ?_) (fun c11 => ?_)
      · rw [if_neg c11] at h
        refine at_iconst (n := 0) (0 : Int32) 36 rfl (by decide +kernel) (by decide +kernel) ?_
        refine at_istore_n (i := 2) (lc' := [(0, va_rf (some t)), (1, va_rf (some (gK g i4))), (2, .int ((0 : Int32)))]) [1, 2, 0] 37 rfl (by decide +kernel) (by decide +kernel) rfl ?_
        refine at_iconst (n := 0) (0 : Int32) 38 rfl (by decide +kernel) (by decide +kernel) ?_
        refine at_istore_n (i := 3) (lc' := [(0, va_rf (some t)), (1, va_rf (some (gK g i4))), (2, .int ((0 : Int32))), (3, .int ((0 : Int32)))]) [1, 2, 3, 0] 39 rfl (by decide +kernel) (by decide +kernel) rfl ?_
        exact h
      · rw [if_pos c11] at h
        refine at_iconst (n := 1) (1 : Int32) 32 rfl (by decide +kernel) (by decide +kernel) ?_
        refine at_goto (off := 4) 36 (by decide +kernel) (by decide +kernel) ?_
        refine at_istore_n (i := 2) (lc' := [(0, va_rf (some t)), (1, va_rf (some (gK g i4))), (2, .int ((1 : Int32)))]) [1, 2, 0] 37 rfl (by decide +kernel) (by decide +kernel) rfl ?_
        refine at_iconst (n := 0) (0 : Int32) 38 rfl (by decide +kernel) (by decide +kernel) ?_
        refine at_istore_n (i := 3) (lc' := [(0, va_rf (some t)), (1, va_rf (some (gK g i4))), (2, .int ((1 : Int32))), (3, .int ((0 : Int32)))]) [1, 2, 3, 0] 39 rfl (by decide +kernel) (by decide +kernel) rfl ?_
        exact h
set_option maxRecDepth 20000 in
set_option maxHeartbeats 4000000 in
theorem en_RF_numberOf (g : Gc) {lv : Nat} {t : Nat} {m : Mm} {Q : Int32 → Mm → Prop} (h : mK m t = 13 ∧ (if (mI m t 55) = 0 then (if (mI m t 52) = ((2 : Int32)) then (CV g M_RF_next lv [va_rf (some t)] m (fun m7 => (Q ((mL m t 54).toInt32) m7))) else (CV g M_RF_bad lv [va_rf (some t)] m (fun m10 => (Q (0 : Int32) m10)))) else (CV g M_RF_bad lv [va_rf (some t)] m (fun m3 => (Q (0 : Int32) m3))))) : CI g M_RF_numberOf (lv + 1) [va_rf (some t)] m Q := by
  refine Call.of (by decide +kernel) (Nat.le_of_ble_eq_true rfl) ?_
  show At g M_RF_numberOf (lv + 1) 0 [(0, va_rf (some t))] [] m (QI Q)
  refine at_aload_n (i := 0) 0 1 rfl (by decide +kernel) rfl ?_
  obtain ⟨k1, h⟩ := h
  refine at_get (index := 224) (v := .int (mI m t 55)) cok12 55 4 rfl (by decide +kernel) k1 (by decide +kernel) tw_1140 rfl ?_
  refine at_if_ne (off := 11) 15 7 rfl (by decide +kernel) (by decide +kernel) (fun c2 => ?_) (fun c2 => ?_)
  · rw [if_neg c2] at h
    refine at_aload_n (i := 0) 0 16 rfl (by decide +kernel) rfl ?_
    refine at_callV mb_RF_bad tw_1383 tw_38 cok12 k1 (index := 238) tw_1381 [] [] rfl rfl (by decide) 19 rfl (by decide +kernel) (Call.toV (CV.monoE h (fun m3 h y4 => ?_)))
    have k5 : mK m3 t = 13 := y4.k k1 (by decide)
    refine at_iconst (n := 0) (0 : Int32) 20 rfl (by decide +kernel) (by decide +kernel) ?_
    exact at_iret rfl (by decide +kernel) h
  · rw [if_pos c2] at h
    refine at_aload_n (i := 0) 0 8 rfl (by decide +kernel) rfl ?_
    refine at_get (index := 207) (v := .int (mI m t 52)) cok12 52 11 rfl (by decide +kernel) k1 (by decide +kernel) tw_1137 rfl ?_
    refine at_iconst (n := 2) (2 : Int32) 12 rfl (by decide +kernel) (by decide +kernel) ?_
    refine at_icmp_eq (off := 9) 21 15 rfl (by decide +kernel) (by decide +kernel) (fun c6 => ?_) (fun c6 => ?_)
    · rw [if_pos c6] at h
      refine at_aload_n (i := 0) 0 22 rfl (by decide +kernel) rfl ?_
      refine at_get (index := 216) (v := .long (mL m t 54)) cok12 54 25 rfl (by decide +kernel) k1 (by decide +kernel) tw_1139 rfl ?_
      refine at_l2i 26 rfl (by decide +kernel) ?_
      refine at_istore_n (i := 1) (lc' := [(0, va_rf (some t)), (1, .int ((mL m t 54).toInt32))]) [1, 0] 27 rfl (by decide +kernel) (by decide +kernel) rfl ?_
      refine at_aload_n (i := 0) 0 28 rfl (by decide +kernel) rfl ?_
      refine at_callV mb_RF_next tw_1352 tw_34 cok12 k1 (index := 241) tw_1350 [] [] rfl rfl (by decide) 31 rfl (by decide +kernel) (Call.toV (CV.monoE h (fun m7 h y8 => ?_)))
      have k9 : mK m7 t = 13 := y8.k k1 (by decide)
      refine at_iload_n (i := 1) 1 32 rfl (by decide +kernel) rfl ?_
      exact at_iret rfl (by decide +kernel) h
    · rw [if_neg c6] at h
      refine at_aload_n (i := 0) 0 16 rfl (by decide +kernel) rfl ?_
      refine at_callV mb_RF_bad tw_1383 tw_38 cok12 k1 (index := 238) tw_1381 [] [] rfl rfl (by decide) 19 rfl (by decide +kernel) (Call.toV (CV.monoE h (fun m10 h y11 => ?_)))
      have k12 : mK m10 t = 13 := y11.k k1 (by decide)
      refine at_iconst (n := 0) (0 : Int32) 20 rfl (by decide +kernel) (by decide +kernel) ?_
      exact at_iret rfl (by decide +kernel) h
set_option maxRecDepth 20000 in
set_option maxHeartbeats 4000000 in
theorem bk_RF_factor_105 (g : Gc) {lv : Nat} {t : Nat} {s0 : Int32} {m : Mm} {Q : Int64 → Mm → Prop} (h : if (s0) = ((-1 : Int32)) then (mK m t = 13 ∧ (CI g M_RF_isSign lv [va_rf (some t), .int ((40 : Int32))] m (fun x3 m4 => (if (x3) = 0 then (CV g M_RF_bad lv [va_rf (some t)] m4 (fun m8 => (Q (0 : Int64) m8))) else (if (mI m4 t 53) = ((8 : Int32)) then (CV g M_RF_bad lv [va_rf (some t)] m4 (fun m36 => (Q (0 : Int64) m36))) else (∀ m12, m12 = sI m4 t 53 ((mI m4 t 53) + (1 : Int32)) → (CV g M_RF_next lv [va_rf (some t)] m12 (fun m15 => (CJ g M_RF_sum_ lv [va_rf (some t)] m15 (fun x18 m19 => (CI g M_RF_isSign lv [va_rf (some t), .int ((41 : Int32))] m19 (fun x22 m23 => (if (x22) = 0 then (CV g M_RF_bad lv [va_rf (some t)] m23 (fun m33 => (Q (0 : Int64) m33))) else (∀ m27, m27 = sI m23 t 53 ((mI m23 t 53) - (1 : Int32)) → (CV g M_RF_next lv [va_rf (some t)] m27 (fun m30 => (Q x18 m30))))))))))))))))) else (mK m t = 13 ∧ (CV g M_RF_next lv [va_rf (some t)] m (fun m40 => (∃ b43, mR m40 t 56 = some b43 ∧ (mK m40 b43 = 16 ∧ (vp_in s0 (mN m40 b43) ∧ (Q (mL m40 b43 s0.toNatClampNeg) m40)))))))) : At g M_RF_factor (lv + 1) 105 [(0, va_rf (some t))] [.int (s0)] m (QJ Q) := by
  refine at_istore_n (i := 1) (lc' := [(0, va_rf (some t)), (1, .int (s0))]) [1, 0] 106 rfl (by decide +kernel) (by decide +kernel) rfl ?_
  refine at_iload_n (i := 1) 1 107 rfl (by decide +kernel) rfl ?_
  refine at_iconst (n := (-1)) (-1 : Int32) 108 rfl (by decide +kernel) (by decide +kernel) ?_
  refine at_icmp_eq (off := 14) 122 111 rfl (by decide +kernel) (by decide +kernel) (fun c1 => ?_) (fun c1 => ?_)
  · rw [if_pos c1] at h
    refine at_aload_n (i := 0) 0 123 rfl (by decide +kernel) rfl ?_
    refine at_bipush (n := 40) (40 : Int32) 125 rfl (by decide +kernel) (by decide +kernel) ?_
    obtain ⟨k2, h⟩ := h
    refine at_callV mb_RF_isSign tw_1411 tw_43 cok12 k2 (index := 260) tw_1409 [.int ((40 : Int32))] [] rfl rfl (by decide) 128 rfl (by decide +kernel) (Call.toI (CI.monoE h (fun x3 m4 h y5 => ?_)))
    have k6 : mK m4 t = 13 := y5.k k2 (by decide)
    refine at_if_eq (off := 12) 140 131 rfl (by decide +kernel) (by decide +kernel) (fun c7 => ?_) (fun c7 => ?_)
    · rw [if_pos c7] at h
      refine at_aload_n (i := 0) 0 141 rfl (by decide +kernel) rfl ?_
      refine at_callV mb_RF_bad tw_1383 tw_38 cok12 k6 (index := 238) tw_1381 [] [] rfl rfl (by decide) 144 rfl (by decide +kernel) (Call.toV (CV.monoE h (fun m8 h y9 => ?_)))
      have k10 : mK m8 t = 13 := y9.k k6 (by decide)
      refine at_lconst (n := 0) (0 : Int64) 145 rfl (by decide +kernel) (by decide +kernel) ?_
      exact at_lret rfl (by decide +kernel) h
    · rw [if_neg c7] at h
      refine at_aload_n (i := 0) 0 132 rfl (by decide +kernel) rfl ?_
      refine at_get (index := 263) (v := .int (mI m4 t 53)) cok12 53 135 rfl (by decide +kernel) k6 (by decide +kernel) tw_1138 rfl ?_
      refine at_bipush (n := 8) (8 : Int32) 137 rfl (by decide +kernel) (by decide +kernel) ?_
      refine at_icmp_ne (off := 9) 146 140 rfl (by decide +kernel) (by decide +kernel) (fun c11 => ?_) (fun c11 => ?_)
      · rw [if_neg c11] at h
        refine at_aload_n (i := 0) 0 147 rfl (by decide +kernel) rfl ?_
        refine at_dup 148 rfl (by decide +kernel) (va_rf_cat _) ?_
        refine at_get (index := 263) (v := .int (mI m4 t 53)) cok12 53 151 rfl (by decide +kernel) k6 (by decide +kernel) tw_1138 rfl ?_
        refine at_iconst (n := 1) (1 : Int32) 152 rfl (by decide +kernel) (by decide +kernel) ?_
        refine at_iadd 153 rfl (by decide +kernel) ?_
        refine at_putI (index := 263) cok12 53 156 rfl (by decide +kernel) k6 (by decide +kernel) tw_1138 rfl rfl rfl (fun m12 e13 => ?_)
        replace h := h m12 e13
        have k14 : mK m12 t = 13 := by rw [e13]; exact k6
        refine at_aload_n (i := 0) 0 157 rfl (by decide +kernel) rfl ?_
        refine at_callV mb_RF_next tw_1352 tw_34 cok12 k14 (index := 241) tw_1350 [] [] rfl rfl (by decide) 160 rfl (by decide +kernel) (Call.toV (CV.monoE h (fun m15 h y16 => ?_)))
        have k17 : mK m15 t = 13 := y16.k k14 (by decide)
        refine at_aload_n (i := 0) 0 161 rfl (by decide +kernel) rfl ?_
        refine at_callV mb_RF_sum_ tw_1393 tw_40 cok12 k17 (index := 266) tw_1391 [] [] rfl rfl (by decide) 164 rfl (by decide +kernel) (Call.toJ (CJ.monoE h (fun x18 m19 h y20 => ?_)))
        have k21 : mK m19 t = 13 := y20.k k17 (by decide)
        refine at_lstore_n (i := 2) (lc' := [(0, va_rf (some t)), (2, .long (x18))]) [1, 0] 165 rfl (by decide +kernel) (by decide +kernel) rfl ?_
        refine at_aload_n (i := 0) 0 166 rfl (by decide +kernel) rfl ?_
        refine at_bipush (n := 41) (41 : Int32) 168 rfl (by decide +kernel) (by decide +kernel) ?_
        refine at_callV mb_RF_isSign tw_1411 tw_43 cok12 k21 (index := 260) tw_1409 [.int ((41 : Int32))] [] rfl rfl (by decide) 171 rfl (by decide +kernel) (Call.toI (CI.monoE h (fun x22 m23 h y24 => ?_)))
        have k25 : mK m23 t = 13 := y24.k k21 (by decide)
        refine at_if_ne (off := 9) 180 174 rfl (by decide +kernel) (by decide +kernel) (fun c26 => ?_) (fun c26 => ?_)
        · rw [if_neg c26] at h
          refine at_aload_n (i := 0) 0 181 rfl (by decide +kernel) rfl ?_
          refine at_dup 182 rfl (by decide +kernel) (va_rf_cat _) ?_
          refine at_get (index := 263) (v := .int (mI m23 t 53)) cok12 53 185 rfl (by decide +kernel) k25 (by decide +kernel) tw_1138 rfl ?_
          refine at_iconst (n := 1) (1 : Int32) 186 rfl (by decide +kernel) (by decide +kernel) ?_
          refine at_isub 187 rfl (by decide +kernel) ?_
          refine at_putI (index := 263) cok12 53 190 rfl (by decide +kernel) k25 (by decide +kernel) tw_1138 rfl rfl rfl (fun m27 e28 => ?_)
          replace h := h m27 e28
          have k29 : mK m27 t = 13 := by rw [e28]; exact k25
          refine at_aload_n (i := 0) 0 191 rfl (by decide +kernel) rfl ?_
          refine at_callV mb_RF_next tw_1352 tw_34 cok12 k29 (index := 241) tw_1350 [] [] rfl rfl (by decide) 194 rfl (by decide +kernel) (Call.toV (CV.monoE h (fun m30 h y31 => ?_)))
          have k32 : mK m30 t = 13 := y31.k k29 (by decide)
          refine at_lload_n (i := 2) 1 195 rfl (by decide +kernel) rfl ?_
          exact at_lret rfl (by decide +kernel) h
        · rw [if_pos c26] at h
          refine at_aload_n (i := 0) 0 175 rfl (by decide +kernel) rfl ?_
          refine at_callV mb_RF_bad tw_1383 tw_38 cok12 k25 (index := 238) tw_1381 [] [] rfl rfl (by decide) 178 rfl (by decide +kernel) (Call.toV (CV.monoE h (fun m33 h y34 => ?_)))
          have k35 : mK m33 t = 13 := y34.k k25 (by decide)
          refine at_lconst (n := 0) (0 : Int64) 179 rfl (by decide +kernel) (by decide +kernel) ?_
          exact at_lret rfl (by decide +kernel) h
      · rw [if_pos c11] at h
        refine at_aload_n (i := 0) 0 141 rfl (by decide +kernel) rfl ?_
        refine at_callV mb_RF_bad tw_1383 tw_38 cok12 k6 (index := 238) tw_1381 [] [] rfl rfl (by decide) 144 rfl (by decide +kernel) (Call.toV (CV.monoE h (fun m36 h y37 => ?_)))
        have k38 : mK m36 t = 13 := y37.k k6 (by decide)
        refine at_lconst (n := 0) (0 : Int64) 145 rfl (by decide +kernel) (by decide +kernel) ?_
        exact at_lret rfl (by decide +kernel) h
  · rw [if_neg c1] at h
    refine at_aload_n (i := 0) 0 112 rfl (by decide +kernel) rfl ?_
    obtain ⟨k39, h⟩ := h
    refine at_callV mb_RF_next tw_1352 tw_34 cok12 k39 (index := 241) tw_1350 [] [] rfl rfl (by decide) 115 rfl (by decide +kernel) (Call.toV (CV.monoE h (fun m40 h y41 => ?_)))
    have k42 : mK m40 t = 13 := y41.k k39 (by decide)
    refine at_aload_n (i := 0) 0 116 rfl (by decide +kernel) rfl ?_
    refine at_get (index := 143) (v := va_rf (mR m40 t 56)) cok12 56 119 rfl (by decide +kernel) k42 (by decide +kernel) tw_1141 rfl ?_
    refine at_iload_n (i := 1) 1 120 rfl (by decide +kernel) rfl ?_
    obtain ⟨b43, e44, h⟩ := h
    rw [e44]
    obtain ⟨k45, h⟩ := h
    obtain ⟨v46, h⟩ := h
    refine at_lald 121 rfl (by decide +kernel) k45 v46 ?_
    exact at_lret rfl (by decide +kernel) h
set_option maxRecDepth 20000 in
set_option maxHeartbeats 4000000 in
theorem en_RF_factor (g : Gc) {lv : Nat} {t : Nat} {m : Mm} {Q : Int64 → Mm → Prop} (h : mK m t = 13 ∧ (if (mI m t 55) = 0 then (if (mI m t 52) = ((2 : Int32)) then (CI g M_RF_numberOf lv [va_rf (some t)] m (fun x34 m35 => (Q x34.toInt64 m35))) else (CI g M_RF_is lv [va_rf (some t), va_rf (some (gK g 7))] m (fun x4 m5 => (if (x4) = 0 then (CI g M_RF_is lv [va_rf (some t), va_rf (some (gK g 8))] m5 (fun x9 m10 => (if (x9) = 0 then (CI g M_RF_is lv [va_rf (some t), va_rf (some (gK g 9))] m10 (fun x14 m15 => (if (x14) = 0 then (CI g M_RF_is lv [va_rf (some t), va_rf (some (gK g 10))] m15 (fun x19 m20 => (if (x19) = 0 then (CI g M_RF_is lv [va_rf (some t), va_rf (some (gK g 11))] m20 (fun x24 m25 => (if (x24) = 0 then (CI g M_RF_is lv [va_rf (some t), va_rf (some (gK g 12))] m25 (fun x29 m30 => (if (x29) = 0 then (At g M_RF_factor (lv + 1) 105 [(0, va_rf (some t))] [.int ((-1 : Int32))] m30 (QJ Q)) else (At g M_RF_factor (lv + 1) 105 [(0, va_rf (some t))] [.int ((5 : Int32))] m30 (QJ Q))))) else (At g M_RF_factor (lv + 1) 105 [(0, va_rf (some t))] [.int ((4 : Int32))] m25 (QJ Q))))) else (At g M_RF_factor (lv + 1) 105 [(0, va_rf (some t))] [.int ((3 : Int32))] m20 (QJ Q))))) else (At g M_RF_factor (lv + 1) 105 [(0, va_rf (some t))] [.int ((2 : Int32))] m15 (QJ Q))))) else (At g M_RF_factor (lv + 1) 105 [(0, va_rf (some t))] [.int ((1 : Int32))] m10 (QJ Q))))) else (At g M_RF_factor (lv + 1) 105 [(0, va_rf (some t))] [.int ((0 : Int32))] m5 (QJ Q)))))) else (Q (0 : Int64) m))) : CJ g M_RF_factor (lv + 1) [va_rf (some t)] m Q := by
  refine Call.of (by decide +kernel) (Nat.le_of_ble_eq_true rfl) ?_
  show At g M_RF_factor (lv + 1) 0 [(0, va_rf (some t))] [] m (QJ Q)
  refine at_aload_n (i := 0) 0 1 rfl (by decide +kernel) rfl ?_
  obtain ⟨k1, h⟩ := h
  refine at_get (index := 224) (v := .int (mI m t 55)) cok12 55 4 rfl (by decide +kernel) k1 (by decide +kernel) tw_1140 rfl ?_
  refine at_if_eq (off := 5) 9 7 rfl (by decide +kernel) (by decide +kernel) (fun c2 => ?_) (fun c2 => ?_)
  · rw [if_pos c2] at h
    refine at_aload_n (i := 0) 0 10 rfl (by decide +kernel) rfl ?_
    refine at_get (index := 207) (v := .int (mI m t 52)) cok12 52 13 rfl (by decide +kernel) k1 (by decide +kernel) tw_1137 rfl ?_
    refine at_iconst (n := 2) (2 : Int32) 14 rfl (by decide +kernel) (by decide +kernel) ?_
    refine at_icmp_ne (off := 9) 23 17 rfl (by decide +kernel) (by decide +kernel) (fun c3 => ?_) (fun c3 => ?_)
    · rw [if_neg c3] at h
      refine at_aload_n (i := 0) 0 24 rfl (by decide +kernel) rfl ?_
      refine at_ldcS (index := 247) "crop" 7 26 rfl (by decide +kernel) (by decide +kernel) ?_
      refine at_callV mb_RF_is tw_1373 tw_37 cok12 k1 (index := 249) tw_1371 [va_rf (some (gK g 7))] [] rfl rfl (by decide) 29 rfl (by decide +kernel) (Call.toI (CI.monoE h (fun x4 m5 h y6 => ?_)))
      have k7 : mK m5 t = 13 := y6.k k1 (by decide)
      refine at_if_eq (off := 7) 36 32 rfl (by decide +kernel) (by decide +kernel) (fun c8 => ?_) (fun c8 => ?_)
      · rw [if_pos c8] at h
        refine at_aload_n (i := 0) 0 37 rfl (by decide +kernel) rfl ?_
        refine at_ldcS (index := 252) "store" 8 39 rfl (by decide +kernel) (by decide +kernel) ?_
        refine at_callV mb_RF_is tw_1373 tw_37 cok12 k7 (index := 249) tw_1371 [va_rf (some (gK g 8))] [] rfl rfl (by decide) 42 rfl (by decide +kernel) (Call.toI (CI.monoE h (fun x9 m10 h y11 => ?_)))
        have k12 : mK m10 t = 13 := y11.k k7 (by decide)
        refine at_if_eq (off := 7) 49 45 rfl (by decide +kernel) (by decide +kernel) (fun c13 => ?_) (fun c13 => ?_)
        · rw [if_pos c13] at h
          refine at_aload_n (i := 0) 0 50 rfl (by decide +kernel) rfl ?_
          refine at_ldcS (index := 254) "old" 9 52 rfl (by decide +kernel) (by decide +kernel) ?_
          refine at_callV mb_RF_is tw_1373 tw_37 cok12 k12 (index := 249) tw_1371 [va_rf (some (gK g 9))] [] rfl rfl (by decide) 55 rfl (by decide +kernel) (Call.toI (CI.monoE h (fun x14 m15 h y16 => ?_)))
          have k17 : mK m15 t = 13 := y16.k k12 (by decide)
          refine at_if_eq (off := 7) 62 58 rfl (by decide +kernel) (by decide +kernel) (fun c18 => ?_) (fun c18 => ?_)
          · rw [if_pos c18] at h
            refine at_aload_n (i := 0) 0 63 rfl (by decide +kernel) rfl ?_
            refine at_ldcwS (index := 256) "price" 10 66 rfl (by decide +kernel) (by decide +kernel) ?_
            refine at_callV mb_RF_is tw_1373 tw_37 cok12 k17 (index := 249) tw_1371 [va_rf (some (gK g 10))] [] rfl rfl (by decide) 69 rfl (by decide +kernel) (Call.toI (CI.monoE h (fun x19 m20 h y21 => ?_)))
            have k22 : mK m20 t = 13 := y21.k k17 (by decide)
            refine at_if_eq (off := 7) 76 72 rfl (by decide +kernel) (by decide +kernel) (fun c23 => ?_) (fun c23 => ?_)
            · rw [if_pos c23] at h
              refine at_aload_n (i := 0) 0 77 rfl (by decide +kernel) rfl ?_
              refine at_ldcwS (index := 257) "want" 11 80 rfl (by decide +kernel) (by decide +kernel) ?_
              refine at_callV mb_RF_is tw_1373 tw_37 cok12 k22 (index := 249) tw_1371 [va_rf (some (gK g 11))] [] rfl rfl (by decide) 83 rfl (by decide +kernel) (Call.toI (CI.monoE h (fun x24 m25 h y26 => ?_)))
              have k27 : mK m25 t = 13 := y26.k k22 (by decide)
              refine at_if_eq (off := 7) 90 86 rfl (by decide +kernel) (by decide +kernel) (fun c28 => ?_) (fun c28 => ?_)
              · rw [if_pos c28] at h
                refine at_aload_n (i := 0) 0 91 rfl (by decide +kernel) rfl ?_
                refine at_ldcwS (index := 259) "year" 12 94 rfl (by decide +kernel) (by decide +kernel) ?_
                refine at_callV mb_RF_is tw_1373 tw_37 cok12 k27 (index := 249) tw_1371 [va_rf (some (gK g 12))] [] rfl rfl (by decide) 97 rfl (by decide +kernel) (Call.toI (CI.monoE h (fun x29 m30 h y31 => ?_)))
                have k32 : mK m30 t = 13 := y31.k k27 (by decide)
                refine at_if_eq (off := 7) 104 100 rfl (by decide +kernel) (by decide +kernel) (fun c33 => ?_) (fun c33 => ?_)
                · rw [if_pos c33] at h
                  refine at_iconst (n := (-1)) (-1 : Int32) 105 rfl (by decide +kernel) (by decide +kernel) ?_
                  exact h
                · rw [if_neg c33] at h
                  refine at_iconst (n := 5) (5 : Int32) 101 rfl (by decide +kernel) (by decide +kernel) ?_
                  refine at_goto (off := 4) 105 (by decide +kernel) (by decide +kernel) ?_
                  exact h
              · rw [if_neg c28] at h
                refine at_iconst (n := 4) (4 : Int32) 87 rfl (by decide +kernel) (by decide +kernel) ?_
                refine at_goto (off := 18) 105 (by decide +kernel) (by decide +kernel) ?_
                exact h
            · rw [if_neg c23] at h
              refine at_iconst (n := 3) (3 : Int32) 73 rfl (by decide +kernel) (by decide +kernel) ?_
              refine at_goto (off := 32) 105 (by decide +kernel) (by decide +kernel) ?_
              exact h
          · rw [if_neg c18] at h
            refine at_iconst (n := 2) (2 : Int32) 59 rfl (by decide +kernel) (by decide +kernel) ?_
            refine at_goto (off := 46) 105 (by decide +kernel) (by decide +kernel) ?_
            exact h
        · rw [if_neg c13] at h
          refine at_iconst (n := 1) (1 : Int32) 46 rfl (by decide +kernel) (by decide +kernel) ?_
          refine at_goto (off := 59) 105 (by decide +kernel) (by decide +kernel) ?_
          exact h
      · rw [if_neg c8] at h
        refine at_iconst (n := 0) (0 : Int32) 33 rfl (by decide +kernel) (by decide +kernel) ?_
        refine at_goto (off := 72) 105 (by decide +kernel) (by decide +kernel) ?_
        exact h
    · rw [if_pos c3] at h
      refine at_aload_n (i := 0) 0 18 rfl (by decide +kernel) rfl ?_
      refine at_callV mb_RF_numberOf tw_1387 tw_39 cok12 k1 (index := 244) tw_1385 [] [] rfl rfl (by decide) 21 rfl (by decide +kernel) (Call.toI (CI.monoE h (fun x34 m35 h y36 => ?_)))
      have k37 : mK m35 t = 13 := y36.k k1 (by decide)
      refine at_i2l 22 rfl (by decide +kernel) ?_
      exact at_lret rfl (by decide +kernel) h
  · rw [if_neg c2] at h
    refine at_lconst (n := 0) (0 : Int64) 8 rfl (by decide +kernel) (by decide +kernel) ?_
    exact at_lret rfl (by decide +kernel) h
set_option maxRecDepth 20000 in
set_option maxHeartbeats 4000000 in
theorem bk_RF_term_23 (g : Gc) {lv : Nat} {t : Nat} {l1 : Int64} {m : Mm} {Q : Int64 → Mm → Prop} (h : mK m t = 13 ∧ (CI g M_RF_isSign lv [va_rf (some t), .int ((42 : Int32))] m (fun x2 m3 => (CV g M_RF_next lv [va_rf (some t)] m3 (fun m6 => (CJ g M_RF_factor lv [va_rf (some t)] m6 (fun x9 m10 => (if (x2) = 0 then (if (x9) = ((0 : Int64)) then (At g M_RF_term (lv + 1) 5 [(0, va_rf (some t)), (1, .long ((0 : Int64)))] [] m10 (QJ Q)) else (if (x9) = ((-1 : Int64)) then (At g M_RF_term (lv + 1) 5 [(0, va_rf (some t)), (1, .long (-l1))] [] m10 (QJ Q)) else (¬ x9 = 0 ∧ (At g M_RF_term (lv + 1) 5 [(0, va_rf (some t)), (1, .long (l1 / x9))] [] m10 (QJ Q))))) else (At g M_RF_term (lv + 1) 5 [(0, va_rf (some t)), (1, .long (l1 * x9))] [] m10 (QJ Q)))))))))) : At g M_RF_term (lv + 1) 23 [(0, va_rf (some t)), (1, .long (l1))] [] m (QJ Q) := by
  refine at_aload_n (i := 0) 0 24 rfl (by decide +kernel) rfl ?_
  refine at_bipush (n := 42) (42 : Int32) 26 rfl (by decide +kernel) (by decide +kernel) ?_
  obtain ⟨k1, h⟩ := h
  refine at_callV mb_RF_isSign tw_1411 tw_43 cok12 k1 (index := 260) tw_1409 [.int ((42 : Int32))] [] rfl rfl (by decide) 29 rfl (by decide +kernel) (Call.toI (CI.monoE h (fun x2 m3 h y4 => ?_)))
  have k5 : mK m3 t = 13 := y4.k k1 (by decide)
  refine at_istore_n (i := 3) (lc' := [(0, va_rf (some t)), (1, .long (l1)), (3, .int (x2))]) [1, 2, 0] 30 rfl (by decide +kernel) (by decide +kernel) rfl ?_
  refine at_aload_n (i := 0) 0 31 rfl (by decide +kernel) rfl ?_
  refine at_callV mb_RF_next tw_1352 tw_34 cok12 k5 (index := 241) tw_1350 [] [] rfl rfl (by decide) 34 rfl (by decide +kernel) (Call.toV (CV.monoE h (fun m6 h y7 => ?_)))
  have k8 : mK m6 t = 13 := y7.k k5 (by decide)
  refine at_aload_n (i := 0) 0 35 rfl (by decide +kernel) rfl ?_
  refine at_callV mb_RF_factor tw_1401 tw_42 cok12 k8 (index := 270) tw_1399 [] [] rfl rfl (by decide) 38 rfl (by decide +kernel) (Call.toJ (CJ.monoE h (fun x9 m10 h y11 => ?_)))
  have k12 : mK m10 t = 13 := y11.k k8 (by decide)
  refine at_lstore (i := 4) (lc' := [(0, va_rf (some t)), (1, .long (l1)), (3, .int (x2)), (4, .long (x9))]) [1, 2, 3, 0] 40 rfl (by decide +kernel) (by decide +kernel) rfl ?_
  refine at_iload_n (i := 3) 2 41 rfl (by decide +kernel) rfl ?_
  refine at_if_eq (off := 10) 51 44 rfl (by decide +kernel) (by decide +kernel) (fun c13 => ?_) (fun c13 => ?_)
  · rw [if_pos c13] at h
    refine at_lload (i := 4) 3 53 rfl (by decide +kernel) rfl ?_
    refine at_lconst (n := 0) (0 : Int64) 54 rfl (by decide +kernel) (by decide +kernel) ?_
    refine at_lif_ne (off := 7) 55 62 58 rfl rfl (by decide +kernel) (by decide +kernel) (by decide +kernel) (fun c14 => ?_) (fun c14 => ?_)
    · rw [if_neg c14] at h
      refine at_lload (i := 4) 3 64 rfl (by decide +kernel) rfl ?_
      refine at_ldc2 (index := 273) (-1 : Int64) 67 rfl (by decide +kernel) tw_1413 ?_
      refine at_lif_ne (off := 8) 68 76 71 rfl rfl (by decide +kernel) (by decide +kernel) (by decide +kernel) (fun c15 => ?_) (fun c15 => ?_)
      · rw [if_neg c15] at h
        refine at_lload_n (i := 1) 1 77 rfl (by decide +kernel) rfl ?_
        refine at_lload (i := 4) 3 79 rfl (by decide +kernel) rfl ?_
        obtain ⟨c16, h⟩ := h
        refine at_ldiv 80 rfl (by decide +kernel) c16 ?_
        refine at_lstore_n (i := 1) (lc' := [(0, va_rf (some t)), (1, .long (l1 / x9))]) [1, 0] 81 rfl (by decide +kernel) (by decide +kernel) rfl ?_
        refine at_goto (off := (-76)) 5 (by decide +kernel) (by decide +kernel) ?_
        exact h
      · rw [if_pos c15] at h
        refine at_lload_n (i := 1) 1 72 rfl (by decide +kernel) rfl ?_
        refine at_lneg 73 rfl (by decide +kernel) ?_
        refine at_goto (off := 7) 80 (by decide +kernel) (by decide +kernel) ?_
        refine at_lstore_n (i := 1) (lc' := [(0, va_rf (some t)), (1, .long (-l1))]) [1, 0] 81 rfl (by decide +kernel) (by decide +kernel) rfl ?_
        refine at_goto (off := (-76)) 5 (by decide +kernel) (by decide +kernel) ?_
        exact h
    · rw [if_pos c14] at h
      refine at_lconst (n := 0) (0 : Int64) 59 rfl (by decide +kernel) (by decide +kernel) ?_
      refine at_goto (off := 21) 80 (by decide +kernel) (by decide +kernel) ?_
      refine at_lstore_n (i := 1) (lc' := [(0, va_rf (some t)), (1, .long ((0 : Int64)))]) [1, 0] 81 rfl (by decide +kernel) (by decide +kernel) rfl ?_
      refine at_goto (off := (-76)) 5 (by decide +kernel) (by decide +kernel) ?_
      exact h
  · rw [if_neg c13] at h
    refine at_lload_n (i := 1) 1 45 rfl (by decide +kernel) rfl ?_
    refine at_lload (i := 4) 3 47 rfl (by decide +kernel) rfl ?_
    refine at_lmul 48 rfl (by decide +kernel) ?_
    refine at_goto (off := 32) 80 (by decide +kernel) (by decide +kernel) ?_
    refine at_lstore_n (i := 1) (lc' := [(0, va_rf (some t)), (1, .long (l1 * x9))]) [1, 0] 81 rfl (by decide +kernel) (by decide +kernel) rfl ?_
    refine at_goto (off := (-76)) 5 (by decide +kernel) (by decide +kernel) ?_
    exact h
set_option maxRecDepth 20000 in
set_option maxHeartbeats 4000000 in
theorem bk_RF_term_5 (g : Gc) {lv : Nat} {t : Nat} {l1 : Int64} {m : Mm} {Q : Int64 → Mm → Prop} (h : mK m t = 13 ∧ (CI g M_RF_isSign lv [va_rf (some t), .int ((42 : Int32))] m (fun x2 m3 => (if (x2) = 0 then (CI g M_RF_isSign lv [va_rf (some t), .int ((47 : Int32))] m3 (fun x7 m8 => (if (x7) = 0 then (Q l1 m8) else (At g M_RF_term (lv + 1) 23 [(0, va_rf (some t)), (1, .long (l1))] [] m8 (QJ Q))))) else (At g M_RF_term (lv + 1) 23 [(0, va_rf (some t)), (1, .long (l1))] [] m3 (QJ Q)))))) : At g M_RF_term (lv + 1) 5 [(0, va_rf (some t)), (1, .long (l1))] [] m (QJ Q) := by
  refine at_aload_n (i := 0) 0 6 rfl (by decide +kernel) rfl ?_
  refine at_bipush (n := 42) (42 : Int32) 8 rfl (by decide +kernel) (by decide +kernel) ?_
  obtain ⟨k1, h⟩ := h
  refine at_callV mb_RF_isSign tw_1411 tw_43 cok12 k1 (index := 260) tw_1409 [.int ((42 : Int32))] [] rfl rfl (by decide) 11 rfl (by decide +kernel) (Call.toI (CI.monoE h (fun x2 m3 h y4 => ?_)))
  have k5 : mK m3 t = 13 := y4.k k1 (by decide)
  refine at_if_ne (off := 12) 23 14 rfl (by decide +kernel) (by decide +kernel) (fun c6 => ?_) (fun c6 => ?_)
  · rw [if_neg c6] at h
    exact h
  · rw [if_pos c6] at h
    refine at_aload_n (i := 0) 0 15 rfl (by decide +kernel) rfl ?_
    refine at_bipush (n := 47) (47 : Int32) 17 rfl (by decide +kernel) (by decide +kernel) ?_
    refine at_callV mb_RF_isSign tw_1411 tw_43 cok12 k5 (index := 260) tw_1409 [.int ((47 : Int32))] [] rfl rfl (by decide) 20 rfl (by decide +kernel) (Call.toI (CI.monoE h (fun x7 m8 h y9 => ?_)))
    have k10 : mK m8 t = 13 := y9.k k5 (by decide)
    refine at_if_eq (off := 64) 84 23 rfl (by decide +kernel) (by decide +kernel) (fun c11 => ?_) (fun c11 => ?_)
    · rw [if_pos c11] at h
      refine at_lload_n (i := 1) 1 85 rfl (by decide +kernel) rfl ?_
      exact at_lret rfl (by decide +kernel) h
    · rw [if_neg c11] at h
      exact h
set_option maxRecDepth 20000 in
set_option maxHeartbeats 4000000 in
theorem en_RF_term (g : Gc) {lv : Nat} {t : Nat} {m : Mm} {Q : Int64 → Mm → Prop} (h : mK m t = 13 ∧ (CJ g M_RF_factor lv [va_rf (some t)] m (fun x2 m3 => (At g M_RF_term (lv + 1) 5 [(0, va_rf (some t)), (1, .long (x2))] [] m3 (QJ Q))))) : CJ g M_RF_term (lv + 1) [va_rf (some t)] m Q := by
  refine Call.of (by decide +kernel) (Nat.le_of_ble_eq_true rfl) ?_
  show At g M_RF_term (lv + 1) 0 [(0, va_rf (some t))] [] m (QJ Q)
  refine at_aload_n (i := 0) 0 1 rfl (by decide +kernel) rfl ?_
  obtain ⟨k1, h⟩ := h
  refine at_callV mb_RF_factor tw_1401 tw_42 cok12 k1 (index := 270) tw_1399 [] [] rfl rfl (by decide) 4 rfl (by decide +kernel) (Call.toJ (CJ.monoE h (fun x2 m3 h y4 => ?_)))
  have k5 : mK m3 t = 13 := y4.k k1 (by decide)
  refine at_lstore_n (i := 1) (lc' := [(0, va_rf (some t)), (1, .long (x2))]) [1, 0] 5 rfl (by decide +kernel) (by decide +kernel) rfl ?_
  exact h
set_option maxRecDepth 20000 in
set_option maxHeartbeats 4000000 in
theorem bk_RF_sum__23 (g : Gc) {lv : Nat} {t : Nat} {l1 : Int64} {m : Mm} {Q : Int64 → Mm → Prop} (h : mK m t = 13 ∧ (CI g M_RF_isSign lv [va_rf (some t), .int ((43 : Int32))] m (fun x2 m3 => (CV g M_RF_next lv [va_rf (some t)] m3 (fun m6 => (CJ g M_RF_term lv [va_rf (some t)] m6 (fun x9 m10 => (if (x2) = 0 then (At g M_RF_sum_ (lv + 1) 5 [(0, va_rf (some t)), (1, .long (l1 - x9))] [] m10 (QJ Q)) else (At g M_RF_sum_ (lv + 1) 5 [(0, va_rf (some t)), (1, .long (l1 + x9))] [] m10 (QJ Q)))))))))) : At g M_RF_sum_ (lv + 1) 23 [(0, va_rf (some t)), (1, .long (l1))] [] m (QJ Q) := by
  refine at_aload_n (i := 0) 0 24 rfl (by decide +kernel) rfl ?_
  refine at_bipush (n := 43) (43 : Int32) 26 rfl (by decide +kernel) (by decide +kernel) ?_
  obtain ⟨k1, h⟩ := h
  refine at_callV mb_RF_isSign tw_1411 tw_43 cok12 k1 (index := 260) tw_1409 [.int ((43 : Int32))] [] rfl rfl (by decide) 29 rfl (by decide +kernel) (Call.toI (CI.monoE h (fun x2 m3 h y4 => ?_)))
  have k5 : mK m3 t = 13 := y4.k k1 (by decide)
  refine at_istore_n (i := 3) (lc' := [(0, va_rf (some t)), (1, .long (l1)), (3, .int (x2))]) [1, 2, 0] 30 rfl (by decide +kernel) (by decide +kernel) rfl ?_
  refine at_aload_n (i := 0) 0 31 rfl (by decide +kernel) rfl ?_
  refine at_callV mb_RF_next tw_1352 tw_34 cok12 k5 (index := 241) tw_1350 [] [] rfl rfl (by decide) 34 rfl (by decide +kernel) (Call.toV (CV.monoE h (fun m6 h y7 => ?_)))
  have k8 : mK m6 t = 13 := y7.k k5 (by decide)
  refine at_aload_n (i := 0) 0 35 rfl (by decide +kernel) rfl ?_
  refine at_callV mb_RF_term tw_1397 tw_41 cok12 k8 (index := 275) tw_1395 [] [] rfl rfl (by decide) 38 rfl (by decide +kernel) (Call.toJ (CJ.monoE h (fun x9 m10 h y11 => ?_)))
  have k12 : mK m10 t = 13 := y11.k k8 (by decide)
  refine at_lstore (i := 4) (lc' := [(0, va_rf (some t)), (1, .long (l1)), (3, .int (x2)), (4, .long (x9))]) [1, 2, 3, 0] 40 rfl (by decide +kernel) (by decide +kernel) rfl ?_
  refine at_iload_n (i := 3) 2 41 rfl (by decide +kernel) rfl ?_
  refine at_if_eq (off := 10) 51 44 rfl (by decide +kernel) (by decide +kernel) (fun c13 => ?_) (fun c13 => ?_)
  · rw [if_pos c13] at h
    refine at_lload_n (i := 1) 1 52 rfl (by decide +kernel) rfl ?_
    refine at_lload (i := 4) 3 54 rfl (by decide +kernel) rfl ?_
    refine at_lsub 55 rfl (by decide +kernel) ?_
    refine at_lstore_n (i := 1) (lc' := [(0, va_rf (some t)), (1, .long (l1 - x9))]) [1, 0] 56 rfl (by decide +kernel) (by decide +kernel) rfl ?_
    refine at_goto (off := (-51)) 5 (by decide +kernel) (by decide +kernel) ?_
    exact h
  · rw [if_neg c13] at h
    refine at_lload_n (i := 1) 1 45 rfl (by decide +kernel) rfl ?_
    refine at_lload (i := 4) 3 47 rfl (by decide +kernel) rfl ?_
    refine at_ladd 48 rfl (by decide +kernel) ?_
    refine at_goto (off := 7) 55 (by decide +kernel) (by decide +kernel) ?_
    refine at_lstore_n (i := 1) (lc' := [(0, va_rf (some t)), (1, .long (l1 + x9))]) [1, 0] 56 rfl (by decide +kernel) (by decide +kernel) rfl ?_
    refine at_goto (off := (-51)) 5 (by decide +kernel) (by decide +kernel) ?_
    exact h
set_option maxRecDepth 20000 in
set_option maxHeartbeats 4000000 in
theorem bk_RF_sum__5 (g : Gc) {lv : Nat} {t : Nat} {l1 : Int64} {m : Mm} {Q : Int64 → Mm → Prop} (h : mK m t = 13 ∧ (CI g M_RF_isSign lv [va_rf (some t), .int ((43 : Int32))] m (fun x2 m3 => (if (x2) = 0 then (CI g M_RF_isSign lv [va_rf (some t), .int ((45 : Int32))] m3 (fun x7 m8 => (if (x7) = 0 then (Q l1 m8) else (At g M_RF_sum_ (lv + 1) 23 [(0, va_rf (some t)), (1, .long (l1))] [] m8 (QJ Q))))) else (At g M_RF_sum_ (lv + 1) 23 [(0, va_rf (some t)), (1, .long (l1))] [] m3 (QJ Q)))))) : At g M_RF_sum_ (lv + 1) 5 [(0, va_rf (some t)), (1, .long (l1))] [] m (QJ Q) := by
  refine at_aload_n (i := 0) 0 6 rfl (by decide +kernel) rfl ?_
  refine at_bipush (n := 43) (43 : Int32) 8 rfl (by decide +kernel) (by decide +kernel) ?_
  obtain ⟨k1, h⟩ := h
  refine at_callV mb_RF_isSign tw_1411 tw_43 cok12 k1 (index := 260) tw_1409 [.int ((43 : Int32))] [] rfl rfl (by decide) 11 rfl (by decide +kernel) (Call.toI (CI.monoE h (fun x2 m3 h y4 => ?_)))
  have k5 : mK m3 t = 13 := y4.k k1 (by decide)
  refine at_if_ne (off := 12) 23 14 rfl (by decide +kernel) (by decide +kernel) (fun c6 => ?_) (fun c6 => ?_)
  · rw [if_neg c6] at h
    exact h
  · rw [if_pos c6] at h
    refine at_aload_n (i := 0) 0 15 rfl (by decide +kernel) rfl ?_
    refine at_bipush (n := 45) (45 : Int32) 17 rfl (by decide +kernel) (by decide +kernel) ?_
    refine at_callV mb_RF_isSign tw_1411 tw_43 cok12 k5 (index := 260) tw_1409 [.int ((45 : Int32))] [] rfl rfl (by decide) 20 rfl (by decide +kernel) (Call.toI (CI.monoE h (fun x7 m8 h y9 => ?_)))
    have k10 : mK m8 t = 13 := y9.k k5 (by decide)
    refine at_if_eq (off := 39) 59 23 rfl (by decide +kernel) (by decide +kernel) (fun c11 => ?_) (fun c11 => ?_)
    · rw [if_pos c11] at h
      refine at_lload_n (i := 1) 1 60 rfl (by decide +kernel) rfl ?_
      exact at_lret rfl (by decide +kernel) h
    · rw [if_neg c11] at h
      exact h
set_option maxRecDepth 20000 in
set_option maxHeartbeats 4000000 in
theorem en_RF_sum_ (g : Gc) {lv : Nat} {t : Nat} {m : Mm} {Q : Int64 → Mm → Prop} (h : mK m t = 13 ∧ (CJ g M_RF_term lv [va_rf (some t)] m (fun x2 m3 => (At g M_RF_sum_ (lv + 1) 5 [(0, va_rf (some t)), (1, .long (x2))] [] m3 (QJ Q))))) : CJ g M_RF_sum_ (lv + 1) [va_rf (some t)] m Q := by
  refine Call.of (by decide +kernel) (Nat.le_of_ble_eq_true rfl) ?_
  show At g M_RF_sum_ (lv + 1) 0 [(0, va_rf (some t))] [] m (QJ Q)
  refine at_aload_n (i := 0) 0 1 rfl (by decide +kernel) rfl ?_
  obtain ⟨k1, h⟩ := h
  refine at_callV mb_RF_term tw_1397 tw_41 cok12 k1 (index := 275) tw_1395 [] [] rfl rfl (by decide) 4 rfl (by decide +kernel) (Call.toJ (CJ.monoE h (fun x2 m3 h y4 => ?_)))
  have k5 : mK m3 t = 13 := y4.k k1 (by decide)
  refine at_lstore_n (i := 1) (lc' := [(0, va_rf (some t)), (1, .long (x2))]) [1, 0] 5 rfl (by decide +kernel) (by decide +kernel) rfl ?_
  exact h
set_option maxRecDepth 20000 in
set_option maxHeartbeats 4000000 in
theorem bk_RF_conds_124 (g : Gc) {lv : Nat} {t : Nat} {s0 : Int32} {m : Mm} {Q : Int32 → Mm → Prop} (h : mK m t = 13 ∧ (CI g M_RF_is lv [va_rf (some t), va_rf (some (gK g 6))] m (fun x2 m3 => (if (x2) = 0 then (At g M_RF_conds (lv + 1) 4 [(0, va_rf (some t)), (1, .int (s0)), (2, .int (x2))] [] m3 (QI Q)) else (CV g M_RF_next lv [va_rf (some t)] m3 (fun m7 => (At g M_RF_conds (lv + 1) 4 [(0, va_rf (some t)), (1, .int (s0)), (2, .int (x2))] [] m7 (QI Q)))))))) : At g M_RF_conds (lv + 1) 124 [(0, va_rf (some t))] [.int (s0)] m (QI Q) := by
  refine at_istore_n (i := 1) (lc' := [(0, va_rf (some t)), (1, .int (s0))]) [1, 0] 125 rfl (by decide +kernel) (by decide +kernel) rfl ?_
  refine at_aload_n (i := 0) 0 126 rfl (by decide +kernel) rfl ?_
  refine at_ldcwS (index := 278) "and" 6 129 rfl (by decide +kernel) (by decide +kernel) ?_
  obtain ⟨k1, h⟩ := h
  refine at_callV mb_RF_is tw_1373 tw_37 cok12 k1 (index := 249) tw_1371 [va_rf (some (gK g 6))] [] rfl rfl (by decide) 132 rfl (by decide +kernel) (Call.toI (CI.monoE h (fun x2 m3 h y4 => ?_)))
  have k5 : mK m3 t = 13 := y4.k k1 (by decide)
  refine at_istore_n (i := 2) (lc' := [(0, va_rf (some t)), (1, .int (s0)), (2, .int (x2))]) [1, 2, 0] 133 rfl (by decide +kernel) (by decide +kernel) rfl ?_
  refine at_iload_n (i := 2) 2 134 rfl (by decide +kernel) rfl ?_
  refine at_if_eq (off := 7) 141 137 rfl (by decide +kernel) (by decide +kernel) (fun c6 => ?_) (fun c6 => ?_)
  · rw [if_pos c6] at h
    refine at_goto (off := (-137)) 4 (by decide +kernel) (by decide +kernel) ?_
    exact h
  · rw [if_neg c6] at h
    refine at_aload_n (i := 0) 0 138 rfl (by decide +kernel) rfl ?_
    refine at_callV mb_RF_next tw_1352 tw_34 cok12 k5 (index := 241) tw_1350 [] [] rfl rfl (by decide) 141 rfl (by decide +kernel) (Call.toV (CV.monoE h (fun m7 h y8 => ?_)))
    have k9 : mK m7 t = 13 := y8.k k5 (by decide)
    refine at_goto (off := (-137)) 4 (by decide +kernel) (by decide +kernel) ?_
    exact h
set_option maxRecDepth 20000 in
set_option maxHeartbeats 4000000 in
theorem bk_RF_conds_123 (g : Gc) {lv : Nat} {t : Nat} {m : Mm} {Q : Int32 → Mm → Prop} (h : At g M_RF_conds (lv + 1) 124 [(0, va_rf (some t))] [.int ((0 : Int32))] m (QI Q)) : At g M_RF_conds (lv + 1) 123 [(0, va_rf (some t))] [] m (QI Q) := by
  refine at_iconst (n := 0) (0 : Int32) 124 rfl (by decide +kernel) (by decide +kernel) ?_
  exact h
set_option maxRecDepth 20000 in
set_option maxHeartbeats 4000000 in
theorem bk_RF_conds_119 (g : Gc) {lv : Nat} {t : Nat} {m : Mm} {Q : Int32 → Mm → Prop} (h : At g M_RF_conds (lv + 1) 124 [(0, va_rf (some t))] [.int ((1 : Int32))] m (QI Q)) : At g M_RF_conds (lv + 1) 119 [(0, va_rf (some t))] [] m (QI Q) := by
  refine at_iconst (n := 1) (1 : Int32) 120 rfl (by decide +kernel) (by decide +kernel) ?_
  refine at_goto (off := 4) 124 (by decide +kernel) (by decide +kernel) ?_
  exact h
set_option maxRecDepth 20000 in
set_option maxHeartbeats 4000000 in
theorem bk_RF_conds_53 (g : Gc) {lv : Nat} {t : Nat} {l1 : Int32} {l3 : Int64} {s0 : Int32} {m : Mm} {Q : Int32 → Mm → Prop} (h : if (s0) = ((-1 : Int32)) then (mK m t = 13 ∧ (CV g M_RF_bad lv [va_rf (some t)] m (fun m17 => (Q (0 : Int32) m17)))) else (mK m t = 13 ∧ (CV g M_RF_next lv [va_rf (some t)] m (fun m3 => (CJ g M_RF_sum_ lv [va_rf (some t)] m3 (fun x6 m7 => (if (l1) = 0 then (At g M_RF_conds (lv + 1) 123 [(0, va_rf (some t))] [] m7 (QI Q)) else (if (s0) = 0 then (if (x6) ≤ (l3) then (At g M_RF_conds (lv + 1) 123 [(0, va_rf (some t))] [] m7 (QI Q)) else (At g M_RF_conds (lv + 1) 119 [(0, va_rf (some t))] [] m7 (QI Q))) else (if (s0) = ((1 : Int32)) then (if (l3) ≤ (x6) then (At g M_RF_conds (lv + 1) 123 [(0, va_rf (some t))] [] m7 (QI Q)) else (At g M_RF_conds (lv + 1) 119 [(0, va_rf (some t))] [] m7 (QI Q))) else (if (l3) = (x6) then (At g M_RF_conds (lv + 1) 119 [(0, va_rf (some t))] [] m7 (QI Q)) else (At g M_RF_conds (lv + 1) 123 [(0, va_rf (some t))] [] m7 (QI Q)))))))))))) : At g M_RF_conds (lv + 1) 53 [(0, va_rf (some t)), (1, .int (l1)), (3, .long (l3))] [.int (s0)] m (QI Q) := by
  refine at_istore (i := 5) (lc' := [(0, va_rf (some t)), (1, .int (l1)), (3, .long (l3)), (5, .int (s0))]) [1, 2, 3, 0] 55 rfl (by decide +kernel) (by decide +kernel) rfl ?_
  refine at_iload (i := 5) 3 57 rfl (by decide +kernel) rfl ?_
  refine at_iconst (n := (-1)) (-1 : Int32) 58 rfl (by decide +kernel) (by decide +kernel) ?_
  refine at_icmp_ne (off := 9) 67 61 rfl (by decide +kernel) (by decide +kernel) (fun c1 => ?_) (fun c1 => ?_)
  · rw [if_neg c1] at h
    refine at_aload_n (i := 0) 0 68 rfl (by decide +kernel) rfl ?_
    obtain ⟨k2, h⟩ := h
    refine at_callV mb_RF_next tw_1352 tw_34 cok12 k2 (index := 241) tw_1350 [] [] rfl rfl (by decide) 71 rfl (by decide +kernel) (Call.toV (CV.monoE h (fun m3 h y4 => ?_)))
    have k5 : mK m3 t = 13 := y4.k k2 (by decide)
    refine at_aload_n (i := 0) 0 72 rfl (by decide +kernel) rfl ?_
    refine at_callV mb_RF_sum_ tw_1393 tw_40 cok12 k5 (index := 266) tw_1391 [] [] rfl rfl (by decide) 75 rfl (by decide +kernel) (Call.toJ (CJ.monoE h (fun x6 m7 h y8 => ?_)))
    have k9 : mK m7 t = 13 := y8.k k5 (by decide)
    refine at_lstore (i := 6) (lc' := [(0, va_rf (some t)), (1, .int (l1)), (3, .long (l3)), (5, .int (s0)), (6, .long (x6))]) [1, 2, 3, 4, 0] 77 rfl (by decide +kernel) (by decide +kernel) rfl ?_
    refine at_iload_n (i := 1) 1 78 rfl (by decide +kernel) rfl ?_
    refine at_if_eq (off := 45) 123 81 rfl (by decide +kernel) (by decide +kernel) (fun c10 => ?_) (fun c10 => ?_)
    · rw [if_pos c10] at h
      exact At.sub [0] rfl h
    · rw [if_neg c10] at h
      refine at_iload (i := 5) 3 83 rfl (by decide +kernel) rfl ?_
      refine at_if_ne (off := 13) 96 86 rfl (by decide +kernel) (by decide +kernel) (fun c11 => ?_) (fun c11 => ?_)
      · rw [if_neg c11] at h
        refine at_iload (i := 5) 3 98 rfl (by decide +kernel) rfl ?_
        refine at_iconst (n := 1) (1 : Int32) 99 rfl (by decide +kernel) (by decide +kernel) ?_
        refine at_icmp_ne (off := 13) 112 102 rfl (by decide +kernel) (by decide +kernel) (fun c12 => ?_) (fun c12 => ?_)
        · rw [if_neg c12] at h
          refine at_lload_n (i := 3) 2 113 rfl (by decide +kernel) rfl ?_
          refine at_lload (i := 6) 4 115 rfl (by decide +kernel) rfl ?_
          refine at_lif_ne (off := 7) 116 123 119 rfl rfl (by decide +kernel) (by decide +kernel) (by decide +kernel) (fun c13 => ?_) (fun c13 => ?_)
          · rw [if_neg c13] at h
            exact At.sub [0] rfl h
          · rw [if_pos c13] at h
            exact At.sub [0] rfl h
        · rw [if_pos c12] at h
          refine at_lload_n (i := 3) 2 103 rfl (by decide +kernel) rfl ?_
          refine at_lload (i := 6) 4 105 rfl (by decide +kernel) rfl ?_
          refine at_lif_le (off := 17) 106 123 109 rfl rfl (by decide +kernel) (by decide +kernel) (by decide +kernel) (fun c14 => ?_) (fun c14 => ?_)
          · rw [if_pos c14] at h
            exact At.sub [0] rfl h
          · rw [if_neg c14] at h
            refine at_goto (off := 10) 119 (by decide +kernel) (by decide +kernel) ?_
            exact At.sub [0] rfl h
      · rw [if_pos c11] at h
        refine at_lload_n (i := 3) 2 87 rfl (by decide +kernel) rfl ?_
        refine at_lload (i := 6) 4 89 rfl (by decide +kernel) rfl ?_
        refine at_lif_ge (off := 33) 90 123 93 rfl rfl (by decide +kernel) (by decide +kernel) (by decide +kernel) (fun c15 => ?_) (fun c15 => ?_)
        · rw [if_pos c15] at h
          exact At.sub [0] rfl h
        · rw [if_neg c15] at h
          refine at_goto (off := 26) 119 (by decide +kernel) (by decide +kernel) ?_
          exact At.sub [0] rfl h
  · rw [if_pos c1] at h
    refine at_aload_n (i := 0) 0 62 rfl (by decide +kernel) rfl ?_
    obtain ⟨k16, h⟩ := h
    refine at_callV mb_RF_bad tw_1383 tw_38 cok12 k16 (index := 238) tw_1381 [] [] rfl rfl (by decide) 65 rfl (by decide +kernel) (Call.toV (CV.monoE h (fun m17 h y18 => ?_)))
    have k19 : mK m17 t = 13 := y18.k k16 (by decide)
    refine at_iconst (n := 0) (0 : Int32) 66 rfl (by decide +kernel) (by decide +kernel) ?_
    exact at_zret rfl (by decide +kernel) (Or.inl rfl) h
set_option maxRecDepth 20000 in
set_option maxHeartbeats 4000000 in
theorem bk_RF_conds_4 (g : Gc) {lv : Nat} {t : Nat} {l1 : Int32} {l2 : Int32} {m : Mm} {Q : Int32 → Mm → Prop} (h : if (l2) = 0 then (b01 l1 ∧ (Q l1 m)) else (mK m t = 13 ∧ (CJ g M_RF_sum_ lv [va_rf (some t)] m (fun x4 m5 => (CI g M_RF_isSign lv [va_rf (some t), .int ((60 : Int32))] m5 (fun x8 m9 => (if (x8) = 0 then (CI g M_RF_isSign lv [va_rf (some t), .int ((62 : Int32))] m9 (fun x13 m14 => (if (x13) = 0 then (CI g M_RF_isSign lv [va_rf (some t), .int ((61 : Int32))] m14 (fun x18 m19 => (if (x18) = 0 then (At g M_RF_conds (lv + 1) 53 [(0, va_rf (some t)), (1, .int (l1)), (3, .long (x4))] [.int ((-1 : Int32))] m19 (QI Q)) else (At g M_RF_conds (lv + 1) 53 [(0, va_rf (some t)), (1, .int (l1)), (3, .long (x4))] [.int ((2 : Int32))] m19 (QI Q))))) else (At g M_RF_conds (lv + 1) 53 [(0, va_rf (some t)), (1, .int (l1)), (3, .long (x4))] [.int ((1 : Int32))] m14 (QI Q))))) else (At g M_RF_conds (lv + 1) 53 [(0, va_rf (some t)), (1, .int (l1)), (3, .long (x4))] [.int ((0 : Int32))] m9 (QI Q))))))))) : At g M_RF_conds (lv + 1) 4 [(0, va_rf (some t)), (1, .int (l1)), (2, .int (l2))] [] m (QI Q) := by
  refine at_iload_n (i := 2) 2 5 rfl (by decide +kernel) rfl ?_
  refine at_if_eq (off := 139) 144 8 rfl (by decide +kernel) (by decide +kernel) (fun c1 => ?_) (fun c1 => ?_)
  · rw [if_pos c1] at h
    refine at_iload_n (i := 1) 1 145 rfl (by decide +kernel) rfl ?_
    obtain ⟨d2, h⟩ := h
    exact at_zret rfl (by decide +kernel) d2 h
  · rw [if_neg c1] at h
    refine at_aload_n (i := 0) 0 9 rfl (by decide +kernel) rfl ?_
    obtain ⟨k3, h⟩ := h
    refine at_callV mb_RF_sum_ tw_1393 tw_40 cok12 k3 (index := 266) tw_1391 [] [] rfl rfl (by decide) 12 rfl (by decide +kernel) (Call.toJ (CJ.monoE h (fun x4 m5 h y6 => ?_)))
    have k7 : mK m5 t = 13 := y6.k k3 (by decide)
    refine at_lstore_n (i := 3) (lc' := [(0, va_rf (some t)), (1, .int (l1)), (3, .long (x4))]) [1, 2, 0] 13 rfl (by decide +kernel) (by decide +kernel) rfl ?_
    refine at_aload_n (i := 0) 0 14 rfl (by decide +kernel) rfl ?_
    refine at_bipush (n := 60) (60 : Int32) 16 rfl (by decide +kernel) (by decide +kernel) ?_
    refine at_callV mb_RF_isSign tw_1411 tw_43 cok12 k7 (index := 260) tw_1409 [.int ((60 : Int32))] [] rfl rfl (by decide) 19 rfl (by decide +kernel) (Call.toI (CI.monoE h (fun x8 m9 h y10 => ?_)))
    have k11 : mK m9 t = 13 := y10.k k7 (by decide)
    refine at_if_eq (off := 7) 26 22 rfl (by decide +kernel) (by decide +kernel) (fun c12 => ?_) (fun c12 => ?_)
    · rw [if_pos c12] at h
      refine at_aload_n (i := 0) 0 27 rfl (by decide +kernel) rfl ?_
      refine at_bipush (n := 62) (62 : Int32) 29 rfl (by decide +kernel) (by decide +kernel) ?_
      refine at_callV mb_RF_isSign tw_1411 tw_43 cok12 k11 (index := 260) tw_1409 [.int ((62 : Int32))] [] rfl rfl (by decide) 32 rfl (by decide +kernel) (Call.toI (CI.monoE h (fun x13 m14 h y15 => ?_)))
      have k16 : mK m14 t = 13 := y15.k k11 (by decide)
      refine at_if_eq (off := 7) 39 35 rfl (by decide +kernel) (by decide +kernel) (fun c17 => ?_) (fun c17 => ?_)
      · rw [if_pos c17] at h
        refine at_aload_n (i := 0) 0 40 rfl (by decide +kernel) rfl ?_
        refine at_bipush (n := 61) (61 : Int32) 42 rfl (by decide +kernel) (by decide +kernel) ?_
        refine at_callV mb_RF_isSign tw_1411 tw_43 cok12 k16 (index := 260) tw_1409 [.int ((61 : Int32))] [] rfl rfl (by decide) 45 rfl (by decide +kernel) (Call.toI (CI.monoE h (fun x18 m19 h y20 => ?_)))
        have k21 : mK m19 t = 13 := y20.k k16 (by decide)
        refine at_if_eq (off := 7) 52 48 rfl (by decide +kernel) (by decide +kernel) (fun c22 => ?_) (fun c22 => ?_)
        · rw [if_pos c22] at h
          refine at_iconst (n := (-1)) (-1 : Int32) 53 rfl (by decide +kernel) (by decide +kernel) ?_
          exact h
        · rw [if_neg c22] at h
          refine at_iconst (n := 2) (2 : Int32) 49 rfl (by decide +kernel) (by decide +kernel) ?_
          refine at_goto (off := 4) 53 (by decide +kernel) (by decide +kernel) ?_
          exact h
      · rw [if_neg c17] at h
        refine at_iconst (n := 1) (1 : Int32) 36 rfl (by decide +kernel) (by decide +kernel) ?_
        refine at_goto (off := 17) 53 (by decide +kernel) (by decide +kernel) ?_
        exact h
    · rw [if_neg c12] at h
      refine at_iconst (n := 0) (0 : Int32) 23 rfl (by decide +kernel) (by decide +kernel) ?_
      refine at_goto (off := 30) 53 (by decide +kernel) (by decide +kernel) ?_
      exact h
set_option maxRecDepth 20000 in
set_option maxHeartbeats 4000000 in
theorem en_RF_conds (g : Gc) {lv : Nat} {t : Nat} {m : Mm} {Q : Int32 → Mm → Prop} (h : At g M_RF_conds (lv + 1) 4 [(0, va_rf (some t)), (1, .int ((1 : Int32))), (2, .int ((1 : Int32)))] [] m (QI Q)) : CI g M_RF_conds (lv + 1) [va_rf (some t)] m Q := by
  refine Call.of (by decide +kernel) (Nat.le_of_ble_eq_true rfl) ?_
  show At g M_RF_conds (lv + 1) 0 [(0, va_rf (some t))] [] m (QI Q)
  refine at_iconst (n := 1) (1 : Int32) 1 rfl (by decide +kernel) (by decide +kernel) ?_
  refine at_istore_n (i := 1) (lc' := [(0, va_rf (some t)), (1, .int ((1 : Int32)))]) [1, 0] 2 rfl (by decide +kernel) (by decide +kernel) rfl ?_
  refine at_iconst (n := 1) (1 : Int32) 3 rfl (by decide +kernel) (by decide +kernel) ?_
  refine at_istore_n (i := 2) (lc' := [(0, va_rf (some t)), (1, .int ((1 : Int32))), (2, .int ((1 : Int32)))]) [1, 2, 0] 4 rfl (by decide +kernel) (by decide +kernel) rfl ?_
  exact h
set_option maxRecDepth 20000 in
set_option maxHeartbeats 4000000 in
theorem bk_RF_clause_306 (g : Gc) {lv : Nat} {t : Nat} {l1 : Int32} {s0 : Option Nat} {s1 : Int32} {m : Mm} {Q : Mm → Prop} (h : ∃ b1, s0 = some b1 ∧ (mK m b1 = 13 ∧ (b01 s1 ∧ (∀ m5, m5 = sI m b1 59 s1 → (mK m5 t = 13 ∧ (if (mI m5 t 60) = 0 then (if (l1) = 0 then (∀ m19, m19 = sI m5 t 60 (1 : Int32) → (Q m19)) else (∀ m15, m15 = sI m5 t 60 (0 : Int32) → (Q m15))) else (∀ m10, m10 = sI m5 t 60 (1 : Int32) → (Q m10)))))))) : At g M_RF_clause (lv + 1) 306 [(0, va_rf (some t)), (1, .int (l1))] [.int (s1), va_rf (s0)] m (QV Q) := by
  obtain ⟨b1, e2, h⟩ := h
  rw [e2]
  obtain ⟨k3, h⟩ := h
  obtain ⟨d4, h⟩ := h
  refine at_putZ (index := 314) cok12 59 309 rfl (by decide +kernel) k3 (by decide +kernel) tw_1144 rfl rfl rfl d4 (fun m5 e6 => ?_)
  replace h := h m5 e6
  have k7 : mK m5 b1 = 13 := by rw [e6]; exact k3
  refine at_aload_n (i := 0) 0 310 rfl (by decide +kernel) rfl ?_
  refine at_aload_n (i := 0) 0 311 rfl (by decide +kernel) rfl ?_
  obtain ⟨k8, h⟩ := h
  refine at_get (index := 320) (v := .int (mI m5 t 60)) cok12 60 314 rfl (by decide +kernel) k8 (by decide +kernel) tw_1145 rfl ?_
  refine at_if_ne (off := 7) 321 317 rfl (by decide +kernel) (by decide +kernel) (fun c9 => ?_) (fun c9 => ?_)
  · rw [if_neg c9] at h
    refine at_iconst (n := 1) (1 : Int32) 322 rfl (by decide +kernel) (by decide +kernel) ?_
    refine at_goto (off := 4) 326 (by decide +kernel) (by decide +kernel) ?_
    refine at_putZ (index := 320) cok12 60 329 rfl (by decide +kernel) k8 (by decide +kernel) tw_1145 rfl rfl rfl (Or.inr rfl) (fun m10 e11 => ?_)
    replace h := h m10 e11
    have k12 : mK m10 b1 = 13 := by rw [e11]; exact k7
    have k13 : mK m10 t = 13 := by rw [e11]; exact k8
    exact at_vret rfl (by decide +kernel) h
  · rw [if_pos c9] at h
    refine at_iload_n (i := 1) 1 318 rfl (by decide +kernel) rfl ?_
    refine at_if_ne (off := 7) 325 321 rfl (by decide +kernel) (by decide +kernel) (fun c14 => ?_) (fun c14 => ?_)
    · rw [if_neg c14] at h
      refine at_iconst (n := 0) (0 : Int32) 326 rfl (by decide +kernel) (by decide +kernel) ?_
      refine at_putZ (index := 320) cok12 60 329 rfl (by decide +kernel) k8 (by decide +kernel) tw_1145 rfl rfl rfl (Or.inl rfl) (fun m15 e16 => ?_)
      replace h := h m15 e16
      have k17 : mK m15 b1 = 13 := by rw [e16]; exact k7
      have k18 : mK m15 t = 13 := by rw [e16]; exact k8
      exact at_vret rfl (by decide +kernel) h
    · rw [if_pos c14] at h
      refine at_iconst (n := 1) (1 : Int32) 322 rfl (by decide +kernel) (by decide +kernel) ?_
      refine at_goto (off := 4) 326 (by decide +kernel) (by decide +kernel) ?_
      refine at_putZ (index := 320) cok12 60 329 rfl (by decide +kernel) k8 (by decide +kernel) tw_1145 rfl rfl rfl (Or.inr rfl) (fun m19 e20 => ?_)
      replace h := h m19 e20
      have k21 : mK m19 b1 = 13 := by rw [e20]; exact k7
      have k22 : mK m19 t = 13 := by rw [e20]; exact k8
      exact at_vret rfl (by decide +kernel) h
set_option maxRecDepth 20000 in
set_option maxHeartbeats 4000000 in
theorem bk_RF_clause_301 (g : Gc) {lv : Nat} {t : Nat} {l1 : Int32} {s0 : Option Nat} {m : Mm} {Q : Mm → Prop} (h : At g M_RF_clause (lv + 1) 306 [(0, va_rf (some t)), (1, .int (l1))] [.int ((1 : Int32)), va_rf (s0)] m (QV Q)) : At g M_RF_clause (lv + 1) 301 [(0, va_rf (some t)), (1, .int (l1))] [va_rf (s0)] m (QV Q) := by
  refine at_iconst (n := 1) (1 : Int32) 302 rfl (by decide +kernel) (by decide +kernel) ?_
  refine at_goto (off := 4) 306 (by decide +kernel) (by decide +kernel) ?_
  exact h
set_option maxRecDepth 20000 in
set_option maxHeartbeats 4000000 in
theorem bk_RF_clause_289 (g : Gc) {lv : Nat} {t : Nat} {l1 : Int32} {m : Mm} {Q : Mm → Prop} (h : mK m t = 13 ∧ (if (mI m t 59) = 0 then (if (l1) = 0 then (At g M_RF_clause (lv + 1) 306 [(0, va_rf (some t)), (1, .int (l1))] [.int ((0 : Int32)), va_rf (some t)] m (QV Q)) else (At g M_RF_clause (lv + 1) 301 [(0, va_rf (some t)), (1, .int (l1))] [va_rf (some t)] m (QV Q))) else (At g M_RF_clause (lv + 1) 301 [(0, va_rf (some t)), (1, .int (l1))] [va_rf (some t)] m (QV Q)))) : At g M_RF_clause (lv + 1) 289 [(0, va_rf (some t)), (1, .int (l1))] [] m (QV Q) := by
  refine at_aload_n (i := 0) 0 290 rfl (by decide +kernel) rfl ?_
  refine at_aload_n (i := 0) 0 291 rfl (by decide +kernel) rfl ?_
  obtain ⟨k1, h⟩ := h
  refine at_get (index := 314) (v := .int (mI m t 59)) cok12 59 294 rfl (by decide +kernel) k1 (by decide +kernel) tw_1144 rfl ?_
  refine at_if_ne (off := 7) 301 297 rfl (by decide +kernel) (by decide +kernel) (fun c2 => ?_) (fun c2 => ?_)
  · rw [if_neg c2] at h
    exact h
  · rw [if_pos c2] at h
    refine at_iload_n (i := 1) 1 298 rfl (by decide +kernel) rfl ?_
    refine at_if_eq (off := 7) 305 301 rfl (by decide +kernel) (by decide +kernel) (fun c3 => ?_) (fun c3 => ?_)
    · rw [if_pos c3] at h
      refine at_iconst (n := 0) (0 : Int32) 306 rfl (by decide +kernel) (by decide +kernel) ?_
      exact h
    · rw [if_neg c3] at h
      exact h
set_option maxRecDepth 20000 in
set_option maxHeartbeats 4000000 in
theorem bk_RF_clause_273 (g : Gc) {lv : Nat} {t : Nat} {l1 : Int32} {l3 : Int64} {m : Mm} {Q : Mm → Prop} (h : if (l1) = 0 then (mK m t = 13 ∧ (if (mI m t 60) = 0 then (∀ m4, m4 = sL m t 58 l3 → (At g M_RF_clause (lv + 1) 289 [(0, va_rf (some t)), (1, .int (l1))] [] m4 (QV Q))) else (At g M_RF_clause (lv + 1) 289 [(0, va_rf (some t)), (1, .int (l1))] [] m (QV Q)))) else (At g M_RF_clause (lv + 1) 289 [(0, va_rf (some t)), (1, .int (l1))] [] m (QV Q))) : At g M_RF_clause (lv + 1) 273 [(0, va_rf (some t)), (1, .int (l1)), (3, .long (l3))] [] m (QV Q) := by
  refine at_iload_n (i := 1) 1 274 rfl (by decide +kernel) rfl ?_
  refine at_if_ne (off := 15) 289 277 rfl (by decide +kernel) (by decide +kernel) (fun c1 => ?_) (fun c1 => ?_)
  · rw [if_neg c1] at h
    exact At.sub [0, 1] rfl h
  · rw [if_pos c1] at h
    refine at_aload_n (i := 0) 0 278 rfl (by decide +kernel) rfl ?_
    obtain ⟨k2, h⟩ := h
    refine at_get (index := 320) (v := .int (mI m t 60)) cok12 60 281 rfl (by decide +kernel) k2 (by decide +kernel) tw_1145 rfl ?_
    refine at_if_ne (off := 8) 289 284 rfl (by decide +kernel) (by decide +kernel) (fun c3 => ?_) (fun c3 => ?_)
    · rw [if_neg c3] at h
      exact At.sub [0, 1] rfl h
    · rw [if_pos c3] at h
      refine at_aload_n (i := 0) 0 285 rfl (by decide +kernel) rfl ?_
      refine at_lload_n (i := 3) 2 286 rfl (by decide +kernel) rfl ?_
      refine at_putJ (index := 323) cok12 58 289 rfl (by decide +kernel) k2 (by decide +kernel) tw_1143 rfl rfl rfl (fun m4 e5 => ?_)
      replace h := h m4 e5
      have k6 : mK m4 t = 13 := by rw [e5]; exact k2
      exact At.sub [0, 1] rfl h
set_option maxRecDepth 20000 in
set_option maxHeartbeats 4000000 in
theorem bk_RF_clause_244 (g : Gc) {lv : Nat} {t : Nat} {l1 : Int32} {l3 : Int64} {l5 : Int32} {m : Mm} {Q : Mm → Prop} (h : mK m t = 13 ∧ (if (mI m t 55) = 0 then (if (l5) = 0 then (Q m) else (if (l1) = 0 then (At g M_RF_clause (lv + 1) 273 [(0, va_rf (some t)), (1, .int (l1)), (3, .long (l3))] [] m (QV Q)) else (if (mI m t 59) = 0 then (∀ m6, m6 = sL m t 57 l3 → (At g M_RF_clause (lv + 1) 273 [(0, va_rf (some t)), (1, .int (l1)), (3, .long (l3))] [] m6 (QV Q))) else (At g M_RF_clause (lv + 1) 273 [(0, va_rf (some t)), (1, .int (l1)), (3, .long (l3))] [] m (QV Q))))) else (Q m))) : At g M_RF_clause (lv + 1) 244 [(0, va_rf (some t)), (1, .int (l1)), (3, .long (l3)), (5, .int (l5))] [] m (QV Q) := by
  refine at_aload_n (i := 0) 0 245 rfl (by decide +kernel) rfl ?_
  obtain ⟨k1, h⟩ := h
  refine at_get (index := 224) (v := .int (mI m t 55)) cok12 55 248 rfl (by decide +kernel) k1 (by decide +kernel) tw_1140 rfl ?_
  refine at_if_ne (off := 8) 256 251 rfl (by decide +kernel) (by decide +kernel) (fun c2 => ?_) (fun c2 => ?_)
  · rw [if_neg c2] at h
    exact at_vret rfl (by decide +kernel) h
  · rw [if_pos c2] at h
    refine at_iload (i := 5) 3 253 rfl (by decide +kernel) rfl ?_
    refine at_if_ne (off := 4) 257 256 rfl (by decide +kernel) (by decide +kernel) (fun c3 => ?_) (fun c3 => ?_)
    · rw [if_neg c3] at h
      refine at_iload_n (i := 1) 1 258 rfl (by decide +kernel) rfl ?_
      refine at_if_eq (off := 15) 273 261 rfl (by decide +kernel) (by decide +kernel) (fun c4 => ?_) (fun c4 => ?_)
      · rw [if_pos c4] at h
        exact At.sub [0, 1, 2] rfl h
      · rw [if_neg c4] at h
        refine at_aload_n (i := 0) 0 262 rfl (by decide +kernel) rfl ?_
        refine at_get (index := 314) (v := .int (mI m t 59)) cok12 59 265 rfl (by decide +kernel) k1 (by decide +kernel) tw_1144 rfl ?_
        refine at_if_ne (off := 8) 273 268 rfl (by decide +kernel) (by decide +kernel) (fun c5 => ?_) (fun c5 => ?_)
        · rw [if_neg c5] at h
          exact At.sub [0, 1, 2] rfl h
        · rw [if_pos c5] at h
          refine at_aload_n (i := 0) 0 269 rfl (by decide +kernel) rfl ?_
          refine at_lload_n (i := 3) 2 270 rfl (by decide +kernel) rfl ?_
          refine at_putJ (index := 317) cok12 57 273 rfl (by decide +kernel) k1 (by decide +kernel) tw_1142 rfl rfl rfl (fun m6 e7 => ?_)
          replace h := h m6 e7
          have k8 : mK m6 t = 13 := by rw [e7]; exact k1
          exact At.sub [0, 1, 2] rfl h
    · rw [if_pos c3] at h
      exact at_vret rfl (by decide +kernel) h
set_option maxRecDepth 20000 in
set_option maxHeartbeats 4000000 in
theorem bk_RF_clause_180 (g : Gc) {lv : Nat} {t : Nat} {l3 : Int32} {l4 : Int32} {m : Mm} {Q : Mm → Prop} (h : if (l3) = ((2 : Int32)) then (mK m t = 13 ∧ (if (mI m t 63) = ((-1 : Int32)) then (∀ m7, m7 = sI m t 63 l4 → (Q m7)) else (∀ m4, m4 = sI m t 63 (imn (mI m t 63) l4) → (Q m4)))) else (Q m)) : At g M_RF_clause (lv + 1) 180 [(0, va_rf (some t)), (3, .int (l3)), (4, .int (l4))] [] m (QV Q) := by
  refine at_iload_n (i := 3) 1 181 rfl (by decide +kernel) rfl ?_
  refine at_iconst (n := 2) (2 : Int32) 182 rfl (by decide +kernel) (by decide +kernel) ?_
  refine at_icmp_ne (off := 29) 211 185 rfl (by decide +kernel) (by decide +kernel) (fun c1 => ?_) (fun c1 => ?_)
  · rw [if_neg c1] at h
    exact at_vret rfl (by decide +kernel) h
  · rw [if_pos c1] at h
    refine at_aload_n (i := 0) 0 186 rfl (by decide +kernel) rfl ?_
    refine at_aload_n (i := 0) 0 187 rfl (by decide +kernel) rfl ?_
    obtain ⟨k2, h⟩ := h
    refine at_get (index := 303) (v := .int (mI m t 63)) cok12 63 190 rfl (by decide +kernel) k2 (by decide +kernel) tw_1148 rfl ?_
    refine at_iconst (n := (-1)) (-1 : Int32) 191 rfl (by decide +kernel) (by decide +kernel) ?_
    refine at_icmp_ne (off := 8) 199 194 rfl (by decide +kernel) (by decide +kernel) (fun c3 => ?_) (fun c3 => ?_)
    · rw [if_neg c3] at h
      refine at_aload_n (i := 0) 0 200 rfl (by decide +kernel) rfl ?_
      refine at_get (index := 303) (v := .int (mI m t 63)) cok12 63 203 rfl (by decide +kernel) k2 (by decide +kernel) tw_1148 rfl ?_
      refine at_iload (i := 4) 2 205 rfl (by decide +kernel) rfl ?_
      refine at_imn (index := 305) 208 rfl (by decide +kernel) tw_1390 (by simp [va_rf_cat, cat_int, cat_long]) ?_
      refine at_putI (index := 303) cok12 63 211 rfl (by decide +kernel) k2 (by decide +kernel) tw_1148 rfl rfl rfl (fun m4 e5 => ?_)
      replace h := h m4 e5
      have k6 : mK m4 t = 13 := by rw [e5]; exact k2
      exact at_vret rfl (by decide +kernel) h
    · rw [if_pos c3] at h
      refine at_iload (i := 4) 2 196 rfl (by decide +kernel) rfl ?_
      refine at_goto (off := 12) 208 (by decide +kernel) (by decide +kernel) ?_
      refine at_putI (index := 303) cok12 63 211 rfl (by decide +kernel) k2 (by decide +kernel) tw_1148 rfl rfl rfl (fun m7 e8 => ?_)
      replace h := h m7 e8
      have k9 : mK m7 t = 13 := by rw [e8]; exact k2
      exact at_vret rfl (by decide +kernel) h
set_option maxRecDepth 20000 in
set_option maxHeartbeats 4000000 in
theorem bk_RF_clause_162 (g : Gc) {lv : Nat} {t : Nat} {l3 : Int32} {l4 : Int32} {m : Mm} {Q : Mm → Prop} (h : if (l3) = ((1 : Int32)) then (mK m t = 13 ∧ (∀ m3, m3 = sI m t 62 (imx (mI m t 62) l4) → (At g M_RF_clause (lv + 1) 180 [(0, va_rf (some t)), (3, .int (l3)), (4, .int (l4))] [] m3 (QV Q)))) else (At g M_RF_clause (lv + 1) 180 [(0, va_rf (some t)), (3, .int (l3)), (4, .int (l4))] [] m (QV Q))) : At g M_RF_clause (lv + 1) 162 [(0, va_rf (some t)), (3, .int (l3)), (4, .int (l4))] [] m (QV Q) := by
  refine at_iload_n (i := 3) 1 163 rfl (by decide +kernel) rfl ?_
  refine at_iconst (n := 1) (1 : Int32) 164 rfl (by decide +kernel) (by decide +kernel) ?_
  refine at_icmp_ne (off := 16) 180 167 rfl (by decide +kernel) (by decide +kernel) (fun c1 => ?_) (fun c1 => ?_)
  · rw [if_neg c1] at h
    exact h
  · rw [if_pos c1] at h
    refine at_aload_n (i := 0) 0 168 rfl (by decide +kernel) rfl ?_
    refine at_aload_n (i := 0) 0 169 rfl (by decide +kernel) rfl ?_
    obtain ⟨k2, h⟩ := h
    refine at_get (index := 295) (v := .int (mI m t 62)) cok12 62 172 rfl (by decide +kernel) k2 (by decide +kernel) tw_1147 rfl ?_
    refine at_iload (i := 4) 2 174 rfl (by decide +kernel) rfl ?_
    refine at_imx (index := 297) 177 rfl (by decide +kernel) tw_1389 (by simp [va_rf_cat, cat_int, cat_long]) ?_
    refine at_putI (index := 295) cok12 62 180 rfl (by decide +kernel) k2 (by decide +kernel) tw_1147 rfl rfl rfl (fun m3 e4 => ?_)
    replace h := h m3 e4
    have k5 : mK m3 t = 13 := by rw [e4]; exact k2
    exact h
set_option maxRecDepth 20000 in
set_option maxHeartbeats 4000000 in
theorem bk_RF_clause_119 (g : Gc) {lv : Nat} {t : Nat} {s0 : Int32} {m : Mm} {Q : Mm → Prop} (h : mK m t = 13 ∧ (CV g M_RF_next lv [va_rf (some t)] m (fun m2 => (CI g M_RF_numberOf lv [va_rf (some t)] m2 (fun x5 m6 => (if (mI m6 t 55) = 0 then (if (s0) = 0 then (if ((8 : Int32)) ≤ (x5) then (At g M_RF_clause (lv + 1) 162 [(0, va_rf (some t)), (3, .int (s0)), (4, .int (x5))] [] m6 (QV Q)) else (∀ m12, m12 = sI m6 t 61 ((mI m6 t 61) ||| ((1 : Int32) <<< (x5 &&& 31))) → (At g M_RF_clause (lv + 1) 162 [(0, va_rf (some t)), (3, .int (s0)), (4, .int (x5))] [] m12 (QV Q)))) else (At g M_RF_clause (lv + 1) 162 [(0, va_rf (some t)), (3, .int (s0)), (4, .int (x5))] [] m6 (QV Q))) else (Q m6))))))) : At g M_RF_clause (lv + 1) 119 [(0, va_rf (some t))] [.int (s0)] m (QV Q) := by
  refine at_istore_n (i := 3) (lc' := [(0, va_rf (some t)), (3, .int (s0))]) [1, 0] 120 rfl (by decide +kernel) (by decide +kernel) rfl ?_
  refine at_aload_n (i := 0) 0 121 rfl (by decide +kernel) rfl ?_
  obtain ⟨k1, h⟩ := h
  refine at_callV mb_RF_next tw_1352 tw_34 cok12 k1 (index := 241) tw_1350 [] [] rfl rfl (by decide) 124 rfl (by decide +kernel) (Call.toV (CV.monoE h (fun m2 h y3 => ?_)))
  have k4 : mK m2 t = 13 := y3.k k1 (by decide)
  refine at_aload_n (i := 0) 0 125 rfl (by decide +kernel) rfl ?_
  refine at_callV mb_RF_numberOf tw_1387 tw_39 cok12 k4 (index := 244) tw_1385 [] [] rfl rfl (by decide) 128 rfl (by decide +kernel) (Call.toI (CI.monoE h (fun x5 m6 h y7 => ?_)))
  have k8 : mK m6 t = 13 := y7.k k4 (by decide)
  refine at_istore (i := 4) (lc' := [(0, va_rf (some t)), (3, .int (s0)), (4, .int (x5))]) [1, 2, 0] 130 rfl (by decide +kernel) (by decide +kernel) rfl ?_
  refine at_aload_n (i := 0) 0 131 rfl (by decide +kernel) rfl ?_
  refine at_get (index := 224) (v := .int (mI m6 t 55)) cok12 55 134 rfl (by decide +kernel) k8 (by decide +kernel) tw_1140 rfl ?_
  refine at_if_eq (off := 4) 138 137 rfl (by decide +kernel) (by decide +kernel) (fun c9 => ?_) (fun c9 => ?_)
  · rw [if_pos c9] at h
    refine at_iload_n (i := 3) 1 139 rfl (by decide +kernel) rfl ?_
    refine at_if_ne (off := 23) 162 142 rfl (by decide +kernel) (by decide +kernel) (fun c10 => ?_) (fun c10 => ?_)
    · rw [if_neg c10] at h
      exact h
    · rw [if_pos c10] at h
      refine at_iload (i := 4) 2 144 rfl (by decide +kernel) rfl ?_
      refine at_bipush (n := 8) (8 : Int32) 146 rfl (by decide +kernel) (by decide +kernel) ?_
      refine at_icmp_ge (off := 16) 162 149 rfl (by decide +kernel) (by decide +kernel) (fun c11 => ?_) (fun c11 => ?_)
      · rw [if_pos c11] at h
        exact h
      · rw [if_neg c11] at h
        refine at_aload_n (i := 0) 0 150 rfl (by decide +kernel) rfl ?_
        refine at_dup 151 rfl (by decide +kernel) (va_rf_cat _) ?_
        refine at_get (index := 292) (v := .int (mI m6 t 61)) cok12 61 154 rfl (by decide +kernel) k8 (by decide +kernel) tw_1146 rfl ?_
        refine at_iconst (n := 1) (1 : Int32) 155 rfl (by decide +kernel) (by decide +kernel) ?_
        refine at_iload (i := 4) 2 157 rfl (by decide +kernel) rfl ?_
        refine at_ishl 158 rfl (by decide +kernel) ?_
        refine at_ior 159 rfl (by decide +kernel) ?_
        refine at_putI (index := 292) cok12 61 162 rfl (by decide +kernel) k8 (by decide +kernel) tw_1146 rfl rfl rfl (fun m12 e13 => ?_)
        replace h := h m12 e13
        have k14 : mK m12 t = 13 := by rw [e13]; exact k8
        exact h
  · rw [if_neg c9] at h
    exact at_vret rfl (by decide +kernel) h
set_option maxRecDepth 20000 in
set_option maxHeartbeats 4000000 in
theorem bk_RF_clause_76 (g : Gc) {lv : Nat} {t : Nat} {l1 : Int32} {l2 : Int32} {m : Mm} {Q : Mm → Prop} (h : mK m t = 13 ∧ (∀ m2, m2 = sI m t 64 ((mI m t 64) + (1 : Int32)) → (if (l2) = 0 then (CV g M_RF_next lv [va_rf (some t)] m2 (fun m6 => (CJ g M_RF_sum_ lv [va_rf (some t)] m6 (fun x9 m10 => (CI g M_RF_is lv [va_rf (some t), va_rf (some (gK g 5))] m10 (fun x13 m14 => (if (x13) = 0 then (At g M_RF_clause (lv + 1) 244 [(0, va_rf (some t)), (1, .int (l1)), (3, .long (x9)), (5, .int ((1 : Int32)))] [] m14 (QV Q)) else (CV g M_RF_next lv [va_rf (some t)] m14 (fun m18 => (CI g M_RF_conds lv [va_rf (some t)] m18 (fun x21 m22 => (At g M_RF_clause (lv + 1) 244 [(0, va_rf (some t)), (1, .int (l1)), (3, .long (x9)), (5, .int (x21))] [] m22 (QV Q))))))))))))) else (CI g M_RF_is lv [va_rf (some t), va_rf (some (gK g 2))] m2 (fun x25 m26 => (if (x25) = 0 then (CI g M_RF_is lv [va_rf (some t), va_rf (some (gK g 3))] m26 (fun x30 m31 => (if (x30) = 0 then (At g M_RF_clause (lv + 1) 119 [(0, va_rf (some t))] [.int ((2 : Int32))] m31 (QV Q)) else (At g M_RF_clause (lv + 1) 119 [(0, va_rf (some t))] [.int ((1 : Int32))] m31 (QV Q))))) else (At g M_RF_clause (lv + 1) 119 [(0, va_rf (some t))] [.int ((0 : Int32))] m26 (QV Q)))))))) : At g M_RF_clause (lv + 1) 76 [(0, va_rf (some t)), (1, .int (l1)), (2, .int (l2))] [] m (QV Q) := by
  refine at_aload_n (i := 0) 0 77 rfl (by decide +kernel) rfl ?_
  refine at_dup 78 rfl (by decide +kernel) (va_rf_cat _) ?_
  obtain ⟨k1, h⟩ := h
  refine at_get (index := 287) (v := .int (mI m t 64)) cok12 64 81 rfl (by decide +kernel) k1 (by decide +kernel) tw_1149 rfl ?_
  refine at_iconst (n := 1) (1 : Int32) 82 rfl (by decide +kernel) (by decide +kernel) ?_
  refine at_iadd 83 rfl (by decide +kernel) ?_
  refine at_putI (index := 287) cok12 64 86 rfl (by decide +kernel) k1 (by decide +kernel) tw_1149 rfl rfl rfl (fun m2 e3 => ?_)
  replace h := h m2 e3
  have k4 : mK m2 t = 13 := by rw [e3]; exact k1
  refine at_iload_n (i := 2) 2 87 rfl (by decide +kernel) rfl ?_
  refine at_if_eq (off := 125) 212 90 rfl (by decide +kernel) (by decide +kernel) (fun c5 => ?_) (fun c5 => ?_)
  · rw [if_pos c5] at h
    refine at_aload_n (i := 0) 0 213 rfl (by decide +kernel) rfl ?_
    refine at_callV mb_RF_next tw_1352 tw_34 cok12 k4 (index := 241) tw_1350 [] [] rfl rfl (by decide) 216 rfl (by decide +kernel) (Call.toV (CV.monoE h (fun m6 h y7 => ?_)))
    have k8 : mK m6 t = 13 := y7.k k4 (by decide)
    refine at_aload_n (i := 0) 0 217 rfl (by decide +kernel) rfl ?_
    refine at_callV mb_RF_sum_ tw_1393 tw_40 cok12 k8 (index := 266) tw_1391 [] [] rfl rfl (by decide) 220 rfl (by decide +kernel) (Call.toJ (CJ.monoE h (fun x9 m10 h y11 => ?_)))
    have k12 : mK m10 t = 13 := y11.k k8 (by decide)
    refine at_lstore_n (i := 3) (lc' := [(0, va_rf (some t)), (1, .int (l1)), (3, .long (x9))]) [1, 2, 0] 221 rfl (by decide +kernel) (by decide +kernel) rfl ?_
    refine at_iconst (n := 1) (1 : Int32) 222 rfl (by decide +kernel) (by decide +kernel) ?_
    refine at_istore (i := 5) (lc' := [(0, va_rf (some t)), (1, .int (l1)), (3, .long (x9)), (5, .int ((1 : Int32)))]) [1, 2, 3, 0] 224 rfl (by decide +kernel) (by decide +kernel) rfl ?_
    refine at_aload_n (i := 0) 0 225 rfl (by decide +kernel) rfl ?_
    refine at_ldcwS (index := 308) "if" 5 228 rfl (by decide +kernel) (by decide +kernel) ?_
    refine at_callV mb_RF_is tw_1373 tw_37 cok12 k12 (index := 249) tw_1371 [va_rf (some (gK g 5))] [] rfl rfl (by decide) 231 rfl (by decide +kernel) (Call.toI (CI.monoE h (fun x13 m14 h y15 => ?_)))
    have k16 : mK m14 t = 13 := y15.k k12 (by decide)
    refine at_if_eq (off := 13) 244 234 rfl (by decide +kernel) (by decide +kernel) (fun c17 => ?_) (fun c17 => ?_)
    · rw [if_pos c17] at h
      exact h
    · rw [if_neg c17] at h
      refine at_aload_n (i := 0) 0 235 rfl (by decide +kernel) rfl ?_
      refine at_callV mb_RF_next tw_1352 tw_34 cok12 k16 (index := 241) tw_1350 [] [] rfl rfl (by decide) 238 rfl (by decide +kernel) (Call.toV (CV.monoE h (fun m18 h y19 => ?_)))
      have k20 : mK m18 t = 13 := y19.k k16 (by decide)
      refine at_aload_n (i := 0) 0 239 rfl (by decide +kernel) rfl ?_
      refine at_callV mb_RF_conds tw_1417 tw_44 cok12 k20 (index := 310) tw_1415 [] [] rfl rfl (by decide) 242 rfl (by decide +kernel) (Call.toI (CI.monoE h (fun x21 m22 h y23 => ?_)))
      have k24 : mK m22 t = 13 := y23.k k20 (by decide)
      refine at_istore (i := 5) (lc' := [(0, va_rf (some t)), (1, .int (l1)), (3, .long (x9)), (5, .int (x21))]) [1, 2, 3, 0] 244 rfl (by decide +kernel) (by decide +kernel) rfl ?_
      exact h
  · rw [if_neg c5] at h
    refine at_aload_n (i := 0) 0 91 rfl (by decide +kernel) rfl ?_
    refine at_ldcwS (index := 282) "free" 2 94 rfl (by decide +kernel) (by decide +kernel) ?_
    refine at_callV mb_RF_is tw_1373 tw_37 cok12 k4 (index := 249) tw_1371 [va_rf (some (gK g 2))] [] rfl rfl (by decide) 97 rfl (by decide +kernel) (Call.toI (CI.monoE h (fun x25 m26 h y27 => ?_)))
    have k28 : mK m26 t = 13 := y27.k k4 (by decide)
    refine at_if_eq (off := 7) 104 100 rfl (by decide +kernel) (by decide +kernel) (fun c29 => ?_) (fun c29 => ?_)
    · rw [if_pos c29] at h
      refine at_aload_n (i := 0) 0 105 rfl (by decide +kernel) rfl ?_
      refine at_ldcwS (index := 283) "least" 3 108 rfl (by decide +kernel) (by decide +kernel) ?_
      refine at_callV mb_RF_is tw_1373 tw_37 cok12 k28 (index := 249) tw_1371 [va_rf (some (gK g 3))] [] rfl rfl (by decide) 111 rfl (by decide +kernel) (Call.toI (CI.monoE h (fun x30 m31 h y32 => ?_)))
      have k33 : mK m31 t = 13 := y32.k k28 (by decide)
      refine at_if_eq (off := 7) 118 114 rfl (by decide +kernel) (by decide +kernel) (fun c34 => ?_) (fun c34 => ?_)
      · rw [if_pos c34] at h
        refine at_iconst (n := 2) (2 : Int32) 119 rfl (by decide +kernel) (by decide +kernel) ?_
        exact At.sub [0] rfl h
      · rw [if_neg c34] at h
        refine at_iconst (n := 1) (1 : Int32) 115 rfl (by decide +kernel) (by decide +kernel) ?_
        refine at_goto (off := 4) 119 (by decide +kernel) (by decide +kernel) ?_
        exact At.sub [0] rfl h
    · rw [if_neg c29] at h
      refine at_iconst (n := 0) (0 : Int32) 101 rfl (by decide +kernel) (by decide +kernel) ?_
      refine at_goto (off := 18) 119 (by decide +kernel) (by decide +kernel) ?_
      exact At.sub [0] rfl h
set_option maxRecDepth 20000 in
set_option maxHeartbeats 4000000 in
theorem bk_RF_clause_43 (g : Gc) {lv : Nat} {t : Nat} {l1 : Int32} {s0 : Int32} {m : Mm} {Q : Mm → Prop} (h : mK m t = 13 ∧ (if (mI m t 64) = ((12 : Int32)) then (CV g M_RF_bad lv [va_rf (some t)] m (fun m3 => (Q m3))) else (if (l1) = 0 then (CI g M_RF_is lv [va_rf (some t), va_rf (some (gK g 1))] m (fun x7 m8 => (if (x7) = 0 then (if (s0) = 0 then (CV g M_RF_bad lv [va_rf (some t)] m8 (fun m13 => (Q m13))) else (At g M_RF_clause (lv + 1) 76 [(0, va_rf (some t)), (1, .int (l1)), (2, .int (s0))] [] m8 (QV Q))) else (At g M_RF_clause (lv + 1) 76 [(0, va_rf (some t)), (1, .int (l1)), (2, .int (s0))] [] m8 (QV Q))))) else (At g M_RF_clause (lv + 1) 76 [(0, va_rf (some t)), (1, .int (l1)), (2, .int (s0))] [] m (QV Q))))) : At g M_RF_clause (lv + 1) 43 [(0, va_rf (some t)), (1, .int (l1))] [.int (s0)] m (QV Q) := by
  refine at_istore_n (i := 2) (lc' := [(0, va_rf (some t)), (1, .int (l1)), (2, .int (s0))]) [1, 2, 0] 44 rfl (by decide +kernel) (by decide +kernel) rfl ?_
  refine at_aload_n (i := 0) 0 45 rfl (by decide +kernel) rfl ?_
  obtain ⟨k1, h⟩ := h
  refine at_get (index := 287) (v := .int (mI m t 64)) cok12 64 48 rfl (by decide +kernel) k1 (by decide +kernel) tw_1149 rfl ?_
  refine at_bipush (n := 12) (12 : Int32) 50 rfl (by decide +kernel) (by decide +kernel) ?_
  refine at_icmp_eq (off := 21) 71 53 rfl (by decide +kernel) (by decide +kernel) (fun c2 => ?_) (fun c2 => ?_)
  · rw [if_pos c2] at h
    refine at_aload_n (i := 0) 0 72 rfl (by decide +kernel) rfl ?_
    refine at_callV mb_RF_bad tw_1383 tw_38 cok12 k1 (index := 238) tw_1381 [] [] rfl rfl (by decide) 75 rfl (by decide +kernel) (Call.toV (CV.monoE h (fun m3 h y4 => ?_)))
    have k5 : mK m3 t = 13 := y4.k k1 (by decide)
    exact at_vret rfl (by decide +kernel) h
  · rw [if_neg c2] at h
    refine at_iload_n (i := 1) 1 54 rfl (by decide +kernel) rfl ?_
    refine at_if_ne (off := 22) 76 57 rfl (by decide +kernel) (by decide +kernel) (fun c6 => ?_) (fun c6 => ?_)
    · rw [if_neg c6] at h
      exact h
    · rw [if_pos c6] at h
      refine at_aload_n (i := 0) 0 58 rfl (by decide +kernel) rfl ?_
      refine at_ldcwS (index := 290) "sell" 1 61 rfl (by decide +kernel) (by decide +kernel) ?_
      refine at_callV mb_RF_is tw_1373 tw_37 cok12 k1 (index := 249) tw_1371 [va_rf (some (gK g 1))] [] rfl rfl (by decide) 64 rfl (by decide +kernel) (Call.toI (CI.monoE h (fun x7 m8 h y9 => ?_)))
      have k10 : mK m8 t = 13 := y9.k k1 (by decide)
      refine at_if_ne (off := 12) 76 67 rfl (by decide +kernel) (by decide +kernel) (fun c11 => ?_) (fun c11 => ?_)
      · rw [if_neg c11] at h
        exact h
      · rw [if_pos c11] at h
        refine at_iload_n (i := 2) 2 68 rfl (by decide +kernel) rfl ?_
        refine at_if_ne (off := 8) 76 71 rfl (by decide +kernel) (by decide +kernel) (fun c12 => ?_) (fun c12 => ?_)
        · rw [if_neg c12] at h
          exact h
        · rw [if_pos c12] at h
          refine at_aload_n (i := 0) 0 72 rfl (by decide +kernel) rfl ?_
          refine at_callV mb_RF_bad tw_1383 tw_38 cok12 k10 (index := 238) tw_1381 [] [] rfl rfl (by decide) 75 rfl (by decide +kernel) (Call.toV (CV.monoE h (fun m13 h y14 => ?_)))
          have k15 : mK m13 t = 13 := y14.k k10 (by decide)
          exact at_vret rfl (by decide +kernel) h
set_option maxRecDepth 20000 in
set_option maxHeartbeats 4000000 in
theorem bk_RF_clause_38 (g : Gc) {lv : Nat} {t : Nat} {l1 : Int32} {m : Mm} {Q : Mm → Prop} (h : At g M_RF_clause (lv + 1) 43 [(0, va_rf (some t)), (1, .int (l1))] [.int ((1 : Int32))] m (QV Q)) : At g M_RF_clause (lv + 1) 38 [(0, va_rf (some t)), (1, .int (l1))] [] m (QV Q) := by
  refine at_iconst (n := 1) (1 : Int32) 39 rfl (by decide +kernel) (by decide +kernel) ?_
  refine at_goto (off := 4) 43 (by decide +kernel) (by decide +kernel) ?_
  exact h
set_option maxRecDepth 20000 in
set_option maxHeartbeats 4000000 in
theorem en_RF_clause (g : Gc) {lv : Nat} {t : Nat} {m : Mm} {Q : Mm → Prop} (h : mK m t = 13 ∧ (CI g M_RF_is lv [va_rf (some t), va_rf (some (gK g 0))] m (fun x2 m3 => (CI g M_RF_is lv [va_rf (some t), va_rf (some (gK g 2))] m3 (fun x6 m7 => (if (x6) = 0 then (CI g M_RF_is lv [va_rf (some t), va_rf (some (gK g 3))] m7 (fun x11 m12 => (if (x11) = 0 then (CI g M_RF_is lv [va_rf (some t), va_rf (some (gK g 4))] m12 (fun x16 m17 => (if (x16) = 0 then (At g M_RF_clause (lv + 1) 43 [(0, va_rf (some t)), (1, .int (x2))] [.int ((0 : Int32))] m17 (QV Q)) else (At g M_RF_clause (lv + 1) 38 [(0, va_rf (some t)), (1, .int (x2))] [] m17 (QV Q))))) else (At g M_RF_clause (lv + 1) 38 [(0, va_rf (some t)), (1, .int (x2))] [] m12 (QV Q))))) else (At g M_RF_clause (lv + 1) 38 [(0, va_rf (some t)), (1, .int (x2))] [] m7 (QV Q)))))))) : CV g M_RF_clause (lv + 1) [va_rf (some t)] m Q := by
  refine Call.of (by decide +kernel) (Nat.le_of_ble_eq_true rfl) ?_
  show At g M_RF_clause (lv + 1) 0 [(0, va_rf (some t))] [] m (QV Q)
  refine at_aload_n (i := 0) 0 1 rfl (by decide +kernel) rfl ?_
  refine at_ldcwS (index := 280) "keep" 0 4 rfl (by decide +kernel) (by decide +kernel) ?_
  obtain ⟨k1, h⟩ := h
  refine at_callV mb_RF_is tw_1373 tw_37 cok12 k1 (index := 249) tw_1371 [va_rf (some (gK g 0))] [] rfl rfl (by decide) 7 rfl (by decide +kernel) (Call.toI (CI.monoE h (fun x2 m3 h y4 => ?_)))
  have k5 : mK m3 t = 13 := y4.k k1 (by decide)
  refine at_istore_n (i := 1) (lc' := [(0, va_rf (some t)), (1, .int (x2))]) [1, 0] 8 rfl (by decide +kernel) (by decide +kernel) rfl ?_
  refine at_aload_n (i := 0) 0 9 rfl (by decide +kernel) rfl ?_
  refine at_ldcwS (index := 282) "free" 2 12 rfl (by decide +kernel) (by decide +kernel) ?_
  refine at_callV mb_RF_is tw_1373 tw_37 cok12 k5 (index := 249) tw_1371 [va_rf (some (gK g 2))] [] rfl rfl (by decide) 15 rfl (by decide +kernel) (Call.toI (CI.monoE h (fun x6 m7 h y8 => ?_)))
  have k9 : mK m7 t = 13 := y8.k k5 (by decide)
  refine at_if_ne (off := 23) 38 18 rfl (by decide +kernel) (by decide +kernel) (fun c10 => ?_) (fun c10 => ?_)
  · rw [if_neg c10] at h
    exact h
  · rw [if_pos c10] at h
    refine at_aload_n (i := 0) 0 19 rfl (by decide +kernel) rfl ?_
    refine at_ldcwS (index := 283) "least" 3 22 rfl (by decide +kernel) (by decide +kernel) ?_
    refine at_callV mb_RF_is tw_1373 tw_37 cok12 k9 (index := 249) tw_1371 [va_rf (some (gK g 3))] [] rfl rfl (by decide) 25 rfl (by decide +kernel) (Call.toI (CI.monoE h (fun x11 m12 h y13 => ?_)))
    have k14 : mK m12 t = 13 := y13.k k9 (by decide)
    refine at_if_ne (off := 13) 38 28 rfl (by decide +kernel) (by decide +kernel) (fun c15 => ?_) (fun c15 => ?_)
    · rw [if_neg c15] at h
      exact h
    · rw [if_pos c15] at h
      refine at_aload_n (i := 0) 0 29 rfl (by decide +kernel) rfl ?_
      refine at_ldcwS (index := 285) "still" 4 32 rfl (by decide +kernel) (by decide +kernel) ?_
      refine at_callV mb_RF_is tw_1373 tw_37 cok12 k14 (index := 249) tw_1371 [va_rf (some (gK g 4))] [] rfl rfl (by decide) 35 rfl (by decide +kernel) (Call.toI (CI.monoE h (fun x16 m17 h y18 => ?_)))
      have k19 : mK m17 t = 13 := y18.k k14 (by decide)
      refine at_if_eq (off := 7) 42 38 rfl (by decide +kernel) (by decide +kernel) (fun c20 => ?_) (fun c20 => ?_)
      · rw [if_pos c20] at h
        refine at_iconst (n := 0) (0 : Int32) 43 rfl (by decide +kernel) (by decide +kernel) ?_
        exact h
      · rw [if_neg c20] at h
        exact h
set_option maxRecDepth 20000 in
set_option maxHeartbeats 4000000 in
theorem bk_RF_reads_91 (g : Gc) {lv : Nat} {t : Nat} {m : Mm} {Q : Mm → Prop} (h : mK m t = 13 ∧ (CI g M_RF_isSign lv [va_rf (some t), .int ((59 : Int32))] m (fun x2 m3 => (if (x2) = 0 then (if (mI m3 t 52) = 0 then (Q m3) else (CV g M_RF_bad lv [va_rf (some t)] m3 (fun m8 => (Q m8)))) else (CV g M_RF_next lv [va_rf (some t)] m3 (fun m11 => (CV g M_RF_clause lv [va_rf (some t)] m11 (fun m14 => (At g M_RF_reads (lv + 1) 91 [(0, va_rf (some t))] [] m14 (QV Q)))))))))) : At g M_RF_reads (lv + 1) 91 [(0, va_rf (some t))] [] m (QV Q) := by
  refine at_aload_n (i := 0) 0 92 rfl (by decide +kernel) rfl ?_
  refine at_bipush (n := 59) (59 : Int32) 94 rfl (by decide +kernel) (by decide +kernel) ?_
  obtain ⟨k1, h⟩ := h
  refine at_callV mb_RF_isSign tw_1411 tw_43 cok12 k1 (index := 260) tw_1409 [.int ((59 : Int32))] [] rfl rfl (by decide) 97 rfl (by decide +kernel) (Call.toI (CI.monoE h (fun x2 m3 h y4 => ?_)))
  have k5 : mK m3 t = 13 := y4.k k1 (by decide)
  refine at_if_eq (off := 14) 111 100 rfl (by decide +kernel) (by decide +kernel) (fun c6 => ?_) (fun c6 => ?_)
  · rw [if_pos c6] at h
    refine at_aload_n (i := 0) 0 112 rfl (by decide +kernel) rfl ?_
    refine at_get (index := 207) (v := .int (mI m3 t 52)) cok12 52 115 rfl (by decide +kernel) k5 (by decide +kernel) tw_1137 rfl ?_
    refine at_if_eq (off := 7) 122 118 rfl (by decide +kernel) (by decide +kernel) (fun c7 => ?_) (fun c7 => ?_)
    · rw [if_pos c7] at h
      exact at_vret rfl (by decide +kernel) h
    · rw [if_neg c7] at h
      refine at_aload_n (i := 0) 0 119 rfl (by decide +kernel) rfl ?_
      refine at_callV mb_RF_bad tw_1383 tw_38 cok12 k5 (index := 238) tw_1381 [] [] rfl rfl (by decide) 122 rfl (by decide +kernel) (Call.toV (CV.monoE h (fun m8 h y9 => ?_)))
      have k10 : mK m8 t = 13 := y9.k k5 (by decide)
      exact at_vret rfl (by decide +kernel) h
  · rw [if_neg c6] at h
    refine at_aload_n (i := 0) 0 101 rfl (by decide +kernel) rfl ?_
    refine at_callV mb_RF_next tw_1352 tw_34 cok12 k5 (index := 241) tw_1350 [] [] rfl rfl (by decide) 104 rfl (by decide +kernel) (Call.toV (CV.monoE h (fun m11 h y12 => ?_)))
    have k13 : mK m11 t = 13 := y12.k k5 (by decide)
    refine at_aload_n (i := 0) 0 105 rfl (by decide +kernel) rfl ?_
    refine at_callV mb_RF_clause tw_1368 tw_36 cok12 k13 (index := 326) tw_1366 [] [] rfl rfl (by decide) 108 rfl (by decide +kernel) (Call.toV (CV.monoE h (fun m14 h y15 => ?_)))
    have k16 : mK m14 t = 13 := y15.k k13 (by decide)
    refine at_goto (off := (-17)) 91 (by decide +kernel) (by decide +kernel) ?_
    exact h
set_option maxRecDepth 20000 in
set_option maxHeartbeats 4000000 in
theorem en_RF_reads (g : Gc) {lv : Nat} {t : Nat} {l1 : Int32} {m : Mm} {Q : Mm → Prop} (h : mK m t = 13 ∧ (∀ m2, m2 = sI m t 48 ((300 : Int32) * l1) → (∃ b5, mR m2 t 18 = some b5 ∧ (mK m2 b5 = 15 ∧ (vp_in l1 (mN m2 b5) ∧ (∀ m9, m9 = sI m2 t 49 (mI m2 b5 l1.toNatClampNeg) → (∀ m13, m13 = sI m9 t 50 (0 : Int32) → (∀ m17, m17 = sI m13 t 53 (0 : Int32) → (∀ m21, m21 = sI m17 t 55 (0 : Int32) → (∀ m25, m25 = sL m21 t 57 (0 : Int64) → (∀ m29, m29 = sL m25 t 58 (0 : Int64) → (∀ m33, m33 = sI m29 t 59 (0 : Int32) → (∀ m37, m37 = sI m33 t 60 (0 : Int32) → (∀ m41, m41 = sI m37 t 61 (0 : Int32) → (∀ m45, m45 = sI m41 t 62 (0 : Int32) → (∀ m49, m49 = sI m45 t 63 (-1 : Int32) → (∀ m53, m53 = sI m49 t 64 (0 : Int32) → (if (mI m53 t 49) = ((-1 : Int32)) then (Q m53) else (CV g M_RF_next lv [va_rf (some t)] m53 (fun m58 => (CV g M_RF_clause lv [va_rf (some t)] m58 (fun m62 => (At g M_RF_reads (lv + 1) 91 [(0, va_rf (some t))] [] m62 (QV Q)))))))))))))))))))))))) : CV g M_RF_reads (lv + 1) [va_rf (some t), .int (l1)] m Q := by
  refine Call.of (by decide +kernel) (Nat.le_of_ble_eq_true rfl) ?_
  show At g M_RF_reads (lv + 1) 0 [(0, va_rf (some t)), (1, .int (l1))] [] m (QV Q)
  refine at_aload_n (i := 0) 0 1 rfl (by decide +kernel) rfl ?_
  refine at_sipush (n := 300) (300 : Int32) 4 rfl (by decide +kernel) (by decide +kernel) ?_
  refine at_iload_n (i := 1) 1 5 rfl (by decide +kernel) rfl ?_
  refine at_imul 6 rfl (by decide +kernel) ?_
  obtain ⟨k1, h⟩ := h
  refine at_putI (index := 194) cok12 48 9 rfl (by decide +kernel) k1 (by decide +kernel) tw_1133 rfl rfl rfl (fun m2 e3 => ?_)
  replace h := h m2 e3
  have k4 : mK m2 t = 13 := by rw [e3]; exact k1
  refine at_aload_n (i := 0) 0 10 rfl (by decide +kernel) rfl ?_
  refine at_aload_n (i := 0) 0 11 rfl (by decide +kernel) rfl ?_
  refine at_get (index := 58) (v := va_rf (mR m2 t 18)) cok12 18 14 rfl (by decide +kernel) k4 (by decide +kernel) tw_1103 rfl ?_
  refine at_iload_n (i := 1) 1 15 rfl (by decide +kernel) rfl ?_
  obtain ⟨b5, e6, h⟩ := h
  rw [e6]
  obtain ⟨k7, h⟩ := h
  obtain ⟨v8, h⟩ := h
  refine at_iald 16 rfl (by decide +kernel) k7 v8 ?_
  refine at_putI (index := 191) cok12 49 19 rfl (by decide +kernel) k4 (by decide +kernel) tw_1134 rfl rfl rfl (fun m9 e10 => ?_)
  replace h := h m9 e10
  have k11 : mK m9 t = 13 := by rw [e10]; exact k4
  have k12 : mK m9 b5 = 15 := by rw [e10]; exact k7
  refine at_aload_n (i := 0) 0 20 rfl (by decide +kernel) rfl ?_
  refine at_iconst (n := 0) (0 : Int32) 21 rfl (by decide +kernel) (by decide +kernel) ?_
  refine at_putI (index := 197) cok12 50 24 rfl (by decide +kernel) k11 (by decide +kernel) tw_1135 rfl rfl rfl (fun m13 e14 => ?_)
  replace h := h m13 e14
  have k15 : mK m13 t = 13 := by rw [e14]; exact k11
  have k16 : mK m13 b5 = 15 := by rw [e14]; exact k12
  refine at_aload_n (i := 0) 0 25 rfl (by decide +kernel) rfl ?_
  refine at_iconst (n := 0) (0 : Int32) 26 rfl (by decide +kernel) (by decide +kernel) ?_
  refine at_putI (index := 263) cok12 53 29 rfl (by decide +kernel) k15 (by decide +kernel) tw_1138 rfl rfl rfl (fun m17 e18 => ?_)
  replace h := h m17 e18
  have k19 : mK m17 t = 13 := by rw [e18]; exact k15
  have k20 : mK m17 b5 = 15 := by rw [e18]; exact k16
  refine at_aload_n (i := 0) 0 30 rfl (by decide +kernel) rfl ?_
  refine at_iconst (n := 0) (0 : Int32) 31 rfl (by decide +kernel) (by decide +kernel) ?_
  refine at_putZ (index := 224) cok12 55 34 rfl (by decide +kernel) k19 (by decide +kernel) tw_1140 rfl rfl rfl (Or.inl rfl) (fun m21 e22 => ?_)
  replace h := h m21 e22
  have k23 : mK m21 t = 13 := by rw [e22]; exact k19
  have k24 : mK m21 b5 = 15 := by rw [e22]; exact k20
  refine at_aload_n (i := 0) 0 35 rfl (by decide +kernel) rfl ?_
  refine at_lconst (n := 0) (0 : Int64) 36 rfl (by decide +kernel) (by decide +kernel) ?_
  refine at_putJ (index := 317) cok12 57 39 rfl (by decide +kernel) k23 (by decide +kernel) tw_1142 rfl rfl rfl (fun m25 e26 => ?_)
  replace h := h m25 e26
  have k27 : mK m25 t = 13 := by rw [e26]; exact k23
  have k28 : mK m25 b5 = 15 := by rw [e26]; exact k24
  refine at_aload_n (i := 0) 0 40 rfl (by decide +kernel) rfl ?_
  refine at_lconst (n := 0) (0 : Int64) 41 rfl (by decide +kernel) (by decide +kernel) ?_
  refine at_putJ (index := 323) cok12 58 44 rfl (by decide +kernel) k27 (by decide +kernel) tw_1143 rfl rfl rfl (fun m29 e30 => ?_)
  replace h := h m29 e30
  have k31 : mK m29 t = 13 := by rw [e30]; exact k27
  have k32 : mK m29 b5 = 15 := by rw [e30]; exact k28
  refine at_aload_n (i := 0) 0 45 rfl (by decide +kernel) rfl ?_
  refine at_iconst (n := 0) (0 : Int32) 46 rfl (by decide +kernel) (by decide +kernel) ?_
  refine at_putZ (index := 314) cok12 59 49 rfl (by decide +kernel) k31 (by decide +kernel) tw_1144 rfl rfl rfl (Or.inl rfl) (fun m33 e34 => ?_)
  replace h := h m33 e34
  have k35 : mK m33 t = 13 := by rw [e34]; exact k31
  have k36 : mK m33 b5 = 15 := by rw [e34]; exact k32
  refine at_aload_n (i := 0) 0 50 rfl (by decide +kernel) rfl ?_
  refine at_iconst (n := 0) (0 : Int32) 51 rfl (by decide +kernel) (by decide +kernel) ?_
  refine at_putZ (index := 320) cok12 60 54 rfl (by decide +kernel) k35 (by decide +kernel) tw_1145 rfl rfl rfl (Or.inl rfl) (fun m37 e38 => ?_)
  replace h := h m37 e38
  have k39 : mK m37 t = 13 := by rw [e38]; exact k35
  have k40 : mK m37 b5 = 15 := by rw [e38]; exact k36
  refine at_aload_n (i := 0) 0 55 rfl (by decide +kernel) rfl ?_
  refine at_iconst (n := 0) (0 : Int32) 56 rfl (by decide +kernel) (by decide +kernel) ?_
  refine at_putI (index := 292) cok12 61 59 rfl (by decide +kernel) k39 (by decide +kernel) tw_1146 rfl rfl rfl (fun m41 e42 => ?_)
  replace h := h m41 e42
  have k43 : mK m41 t = 13 := by rw [e42]; exact k39
  have k44 : mK m41 b5 = 15 := by rw [e42]; exact k40
  refine at_aload_n (i := 0) 0 60 rfl (by decide +kernel) rfl ?_
  refine at_iconst (n := 0) (0 : Int32) 61 rfl (by decide +kernel) (by decide +kernel) ?_
  refine at_putI (index := 295) cok12 62 64 rfl (by decide +kernel) k43 (by decide +kernel) tw_1147 rfl rfl rfl (fun m45 e46 => ?_)
  replace h := h m45 e46
  have k47 : mK m45 t = 13 := by rw [e46]; exact k43
  have k48 : mK m45 b5 = 15 := by rw [e46]; exact k44
  refine at_aload_n (i := 0) 0 65 rfl (by decide +kernel) rfl ?_
  refine at_iconst (n := (-1)) (-1 : Int32) 66 rfl (by decide +kernel) (by decide +kernel) ?_
  refine at_putI (index := 303) cok12 63 69 rfl (by decide +kernel) k47 (by decide +kernel) tw_1148 rfl rfl rfl (fun m49 e50 => ?_)
  replace h := h m49 e50
  have k51 : mK m49 t = 13 := by rw [e50]; exact k47
  have k52 : mK m49 b5 = 15 := by rw [e50]; exact k48
  refine at_aload_n (i := 0) 0 70 rfl (by decide +kernel) rfl ?_
  refine at_iconst (n := 0) (0 : Int32) 71 rfl (by decide +kernel) (by decide +kernel) ?_
  refine at_putI (index := 287) cok12 64 74 rfl (by decide +kernel) k51 (by decide +kernel) tw_1149 rfl rfl rfl (fun m53 e54 => ?_)
  replace h := h m53 e54
  have k55 : mK m53 t = 13 := by rw [e54]; exact k51
  have k56 : mK m53 b5 = 15 := by rw [e54]; exact k52
  refine at_aload_n (i := 0) 0 75 rfl (by decide +kernel) rfl ?_
  refine at_get (index := 191) (v := .int (mI m53 t 49)) cok12 49 78 rfl (by decide +kernel) k55 (by decide +kernel) tw_1134 rfl ?_
  refine at_iconst (n := (-1)) (-1 : Int32) 79 rfl (by decide +kernel) (by decide +kernel) ?_
  refine at_icmp_ne (off := 4) 83 82 rfl (by decide +kernel) (by decide +kernel) (fun c57 => ?_) (fun c57 => ?_)
  · rw [if_neg c57] at h
    refine at_aload_n (i := 0) 0 84 rfl (by decide +kernel) rfl ?_
    refine at_callV mb_RF_next tw_1352 tw_34 cok12 k55 (index := 241) tw_1350 [] [] rfl rfl (by decide) 87 rfl (by decide +kernel) (Call.toV (CV.monoE h (fun m58 h y59 => ?_)))
    have k60 : mK m58 t = 13 := y59.k k55 (by decide)
    have k61 : mK m58 b5 = 15 := y59.k k56 (by decide)
    refine at_aload_n (i := 0) 0 88 rfl (by decide +kernel) rfl ?_
    refine at_callV mb_RF_clause tw_1368 tw_36 cok12 k60 (index := 326) tw_1366 [] [] rfl rfl (by decide) 91 rfl (by decide +kernel) (Call.toV (CV.monoE h (fun m62 h y63 => ?_)))
    have k64 : mK m62 t = 13 := y63.k k60 (by decide)
    have k65 : mK m62 b5 = 15 := y63.k k61 (by decide)
    exact At.sub [0] rfl h
  · rw [if_pos c57] at h
    exact at_vret rfl (by decide +kernel) h
set_option maxRecDepth 20000 in
set_option maxHeartbeats 4000000 in
theorem bk_RF_isLaw_2 (g : Gc) {lv : Nat} {t : Nat} {l1 : Int32} {m : Mm} {Q : Int32 → Mm → Prop} (h : mK m t = 13 ∧ (if (mI m t 15) ≤ (l1) then (∃ b3, mR m t 18 = some b3 ∧ (mK m b3 = 15 ∧ (vp_in (30 : Int32) (mN m b3) ∧ (∀ m7, m7 = sI m b3 (30 : Int32).toNatClampNeg (mI m t 15) → (∀ m11, m11 = sI m7 t 15 (0 : Int32) → (∀ m15, m15 = sI m11 t 16 (-1 : Int32) → (CV g M_RF_reads lv [va_rf (some t), .int ((30 : Int32))] m15 (fun m19 => (if (mI m19 t 55) = 0 then (Q (1 : Int32) m19) else (Q (0 : Int32) m19)))))))))) else (∃ b24, mR m t 14 = some b24 ∧ (mK m b24 = 14 ∧ (vp_in l1 (mN m b24) ∧ (∃ b28, mR m t 17 = some b28 ∧ (mK m b28 = 14 ∧ (vp_in ((9000 : Int32) + l1) (mN m b28) ∧ (∀ m32, m32 = sI m b28 ((9000 : Int32) + l1).toNatClampNeg ((mI m b24 l1.toNatClampNeg).toInt8.toInt32) → (At g M_RF_isLaw (lv + 1) 2 [(0, va_rf (some t)), (1, .int (l1 + (1 : Int32)))] [] m32 (QI Q))))))))))) : At g M_RF_isLaw (lv + 1) 2 [(0, va_rf (some t)), (1, .int (l1))] [] m (QI Q) := by
  refine at_iload_n (i := 1) 1 3 rfl (by decide +kernel) rfl ?_
  refine at_aload_n (i := 0) 0 4 rfl (by decide +kernel) rfl ?_
  obtain ⟨k1, h⟩ := h
  refine at_get (index := 188) (v := .int (mI m t 15)) cok12 15 7 rfl (by decide +kernel) k1 (by decide +kernel) tw_1100 rfl ?_
  refine at_icmp_ge (off := 25) 32 10 rfl (by decide +kernel) (by decide +kernel) (fun c2 => ?_) (fun c2 => ?_)
  · rw [if_pos c2] at h
    refine at_aload_n (i := 0) 0 33 rfl (by decide +kernel) rfl ?_
    refine at_get (index := 58) (v := va_rf (mR m t 18)) cok12 18 36 rfl (by decide +kernel) k1 (by decide +kernel) tw_1103 rfl ?_
    refine at_bipush (n := 30) (30 : Int32) 38 rfl (by decide +kernel) (by decide +kernel) ?_
    refine at_aload_n (i := 0) 0 39 rfl (by decide +kernel) rfl ?_
    refine at_get (index := 188) (v := .int (mI m t 15)) cok12 15 42 rfl (by decide +kernel) k1 (by decide +kernel) tw_1100 rfl ?_
    obtain ⟨b3, e4, h⟩ := h
    rw [e4]
    obtain ⟨k5, h⟩ := h
    obtain ⟨v6, h⟩ := h
    refine at_iast 43 rfl (by decide +kernel) k5 v6 (fun m7 e8 => ?_)
    replace h := h m7 e8
    have k9 : mK m7 t = 13 := by rw [e8]; exact k1
    have k10 : mK m7 b3 = 15 := by rw [e8]; exact k5
    refine at_aload_n (i := 0) 0 44 rfl (by decide +kernel) rfl ?_
    refine at_iconst (n := 0) (0 : Int32) 45 rfl (by decide +kernel) (by decide +kernel) ?_
    refine at_putI (index := 188) cok12 15 48 rfl (by decide +kernel) k9 (by decide +kernel) tw_1100 rfl rfl rfl (fun m11 e12 => ?_)
    replace h := h m11 e12
    have k13 : mK m11 t = 13 := by rw [e12]; exact k9
    have k14 : mK m11 b3 = 15 := by rw [e12]; exact k10
    refine at_aload_n (i := 0) 0 49 rfl (by decide +kernel) rfl ?_
    refine at_iconst (n := (-1)) (-1 : Int32) 50 rfl (by decide +kernel) (by decide +kernel) ?_
    refine at_putI (index := 52) cok12 16 53 rfl (by decide +kernel) k13 (by decide +kernel) tw_1101 rfl rfl rfl (fun m15 e16 => ?_)
    replace h := h m15 e16
    have k17 : mK m15 t = 13 := by rw [e16]; exact k13
    have k18 : mK m15 b3 = 15 := by rw [e16]; exact k14
    refine at_aload_n (i := 0) 0 54 rfl (by decide +kernel) rfl ?_
    refine at_bipush (n := 30) (30 : Int32) 56 rfl (by decide +kernel) (by decide +kernel) ?_
    refine at_callV mb_RF_reads tw_1348 tw_33 cok12 k17 (index := 329) tw_1346 [.int ((30 : Int32))] [] rfl rfl (by decide) 59 rfl (by decide +kernel) (Call.toV (CV.monoE h (fun m19 h y20 => ?_)))
    have k21 : mK m19 t = 13 := y20.k k17 (by decide)
    have k22 : mK m19 b3 = 15 := y20.k k18 (by decide)
    refine at_aload_n (i := 0) 0 60 rfl (by decide +kernel) rfl ?_
    refine at_get (index := 224) (v := .int (mI m19 t 55)) cok12 55 63 rfl (by decide +kernel) k21 (by decide +kernel) tw_1140 rfl ?_
    refine at_if_ne (off := 7) 70 66 rfl (by decide +kernel) (by decide +kernel) (fun c23 => ?_) (fun c23 => ?_)
    · rw [if_neg c23] at h
      refine at_iconst (n := 0) (0 : Int32) 71 rfl (by decide +kernel) (by decide +kernel) ?_
      exact at_zret rfl (by decide +kernel) (Or.inl rfl) h
    · rw [if_pos c23] at h
      refine at_iconst (n := 1) (1 : Int32) 67 rfl (by decide +kernel) (by decide +kernel) ?_
      refine at_goto (off := 4) 71 (by decide +kernel) (by decide +kernel) ?_
      exact at_zret rfl (by decide +kernel) (Or.inr rfl) h
  · rw [if_neg c2] at h
    refine at_aload_n (i := 0) 0 11 rfl (by decide +kernel) rfl ?_
    refine at_get (index := 55) (v := va_rf (mR m t 17)) cok12 17 14 rfl (by decide +kernel) k1 (by decide +kernel) tw_1102 rfl ?_
    refine at_sipush (n := 9000) (9000 : Int32) 17 rfl (by decide +kernel) (by decide +kernel) ?_
    refine at_iload_n (i := 1) 1 18 rfl (by decide +kernel) rfl ?_
    refine at_iadd 19 rfl (by decide +kernel) ?_
    refine at_aload_n (i := 0) 0 20 rfl (by decide +kernel) rfl ?_
    refine at_get (index := 48) (v := va_rf (mR m t 14)) cok12 14 23 rfl (by decide +kernel) k1 (by decide +kernel) tw_1099 rfl ?_
    refine at_iload_n (i := 1) 1 24 rfl (by decide +kernel) rfl ?_
    obtain ⟨b24, e25, h⟩ := h
    rw [e25]
    obtain ⟨k26, h⟩ := h
    obtain ⟨v27, h⟩ := h
    refine at_bald 25 rfl (by decide +kernel) k26 v27 ?_
    obtain ⟨b28, e29, h⟩ := h
    rw [e29]
    obtain ⟨k30, h⟩ := h
    obtain ⟨v31, h⟩ := h
    refine at_bast 26 rfl (by decide +kernel) k30 v31 (fun m32 e33 => ?_)
    replace h := h m32 e33
    have k34 : mK m32 t = 13 := by rw [e33]; exact k1
    have k35 : mK m32 b24 = 14 := by rw [e33]; exact k26
    have k36 : mK m32 b28 = 14 := by rw [e33]; exact k30
    refine at_iinc (i := 1) (n := 1) (lc' := [(0, va_rf (some t)), (1, .int (l1 + (1 : Int32)))]) (l1 + (1 : Int32)) 1 [1, 0] 29 rfl (by decide +kernel) rfl (by rw [show Int32.ofInt 1 = (1 : Int32) from by decide +kernel]) (by decide +kernel) rfl ?_
    refine at_goto (off := (-27)) 2 (by decide +kernel) (by decide +kernel) ?_
    exact h
set_option maxRecDepth 20000 in
set_option maxHeartbeats 4000000 in
theorem en_RF_isLaw (g : Gc) {lv : Nat} {t : Nat} {m : Mm} {Q : Int32 → Mm → Prop} (h : At g M_RF_isLaw (lv + 1) 2 [(0, va_rf (some t)), (1, .int ((0 : Int32)))] [] m (QI Q)) : CI g M_RF_isLaw (lv + 1) [va_rf (some t)] m Q := by
  refine Call.of (by decide +kernel) (Nat.le_of_ble_eq_true rfl) ?_
  show At g M_RF_isLaw (lv + 1) 0 [(0, va_rf (some t))] [] m (QI Q)
  refine at_iconst (n := 0) (0 : Int32) 1 rfl (by decide +kernel) (by decide +kernel) ?_
  refine at_istore_n (i := 1) (lc' := [(0, va_rf (some t)), (1, .int ((0 : Int32)))]) [1, 0] 2 rfl (by decide +kernel) (by decide +kernel) rfl ?_
  exact h
set_option maxRecDepth 20000 in
set_option maxHeartbeats 4000000 in
theorem bk_RF_law_49 (g : Gc) {lv : Nat} {t : Nat} {l2 : Int32} {l3 : Int32} {l4 : Int32} {m : Mm} {Q : Int32 → Mm → Prop} (h : mK m t = 13 ∧ (∃ b2, mR m t 18 = some b2 ∧ (mK m b2 = 15 ∧ (vp_in (30 : Int32) (mN m b2) ∧ (if (mI m b2 (30 : Int32).toNatClampNeg) ≤ (l4) then (vp_in (30 : Int32) (mN m b2) ∧ (vp_in l3 (mN m b2) ∧ (∀ m9, m9 = sI m b2 l3.toNatClampNeg (mI m b2 (30 : Int32).toNatClampNeg) → (At g M_RF_law (lv + 1) 41 [(0, va_rf (some t)), (2, .int (l2)), (3, .int (l3 + (1 : Int32)))] [] m9 (QI Q))))) else (∃ b13, mR m t 17 = some b13 ∧ (mK m b13 = 14 ∧ (vp_in ((9000 : Int32) + l4) (mN m b13) ∧ (vp_in (((300 : Int32) * l3) + l4) (mN m b13) ∧ (∀ m18, m18 = sI m b13 (((300 : Int32) * l3) + l4).toNatClampNeg ((mI m b13 ((9000 : Int32) + l4).toNatClampNeg).toInt8.toInt32) → (At g M_RF_law (lv + 1) 49 [(0, va_rf (some t)), (2, .int (l2)), (3, .int (l3)), (4, .int (l4 + (1 : Int32)))] [] m18 (QI Q)))))))))))) : At g M_RF_law (lv + 1) 49 [(0, va_rf (some t)), (2, .int (l2)), (3, .int (l3)), (4, .int (l4))] [] m (QI Q) := by
  refine at_iload (i := 4) 3 51 rfl (by decide +kernel) rfl ?_
  refine at_aload_n (i := 0) 0 52 rfl (by decide +kernel) rfl ?_
  obtain ⟨k1, h⟩ := h
  refine at_get (index := 58) (v := va_rf (mR m t 18)) cok12 18 55 rfl (by decide +kernel) k1 (by decide +kernel) tw_1103 rfl ?_
  refine at_bipush (n := 30) (30 : Int32) 57 rfl (by decide +kernel) (by decide +kernel) ?_
  obtain ⟨b2, e3, h⟩ := h
  rw [e3]
  obtain ⟨k4, h⟩ := h
  obtain ⟨v5, h⟩ := h
  refine at_iald 58 rfl (by decide +kernel) k4 v5 ?_
  refine at_icmp_ge (off := 33) 91 61 rfl (by decide +kernel) (by decide +kernel) (fun c6 => ?_) (fun c6 => ?_)
  · rw [if_pos c6] at h
    refine at_aload_n (i := 0) 0 92 rfl (by decide +kernel) rfl ?_
    refine at_get (index := 58) (v := va_rf (mR m t 18)) cok12 18 95 rfl (by decide +kernel) k1 (by decide +kernel) tw_1103 rfl ?_
    rw [e3]
    refine at_iload_n (i := 3) 2 96 rfl (by decide +kernel) rfl ?_
    refine at_aload_n (i := 0) 0 97 rfl (by decide +kernel) rfl ?_
    refine at_get (index := 58) (v := va_rf (mR m t 18)) cok12 18 100 rfl (by decide +kernel) k1 (by decide +kernel) tw_1103 rfl ?_
    rw [e3]
    refine at_bipush (n := 30) (30 : Int32) 102 rfl (by decide +kernel) (by decide +kernel) ?_
    obtain ⟨v7, h⟩ := h
    refine at_iald 103 rfl (by decide +kernel) k4 v7 ?_
    obtain ⟨v8, h⟩ := h
    refine at_iast 104 rfl (by decide +kernel) k4 v8 (fun m9 e10 => ?_)
    replace h := h m9 e10
    have k11 : mK m9 t = 13 := by rw [e10]; exact k1
    have k12 : mK m9 b2 = 15 := by rw [e10]; exact k4
    refine at_iinc (i := 3) (n := 1) (lc' := [(0, va_rf (some t)), (2, .int (l2)), (3, .int (l3 + (1 : Int32)))]) (l3 + (1 : Int32)) 2 [1, 2, 0] 107 rfl (by decide +kernel) rfl (by rw [show Int32.ofInt 1 = (1 : Int32) from by decide +kernel]) (by decide +kernel) rfl ?_
    refine at_goto (off := (-66)) 41 (by decide +kernel) (by decide +kernel) ?_
    exact h
  · rw [if_neg c6] at h
    refine at_aload_n (i := 0) 0 62 rfl (by decide +kernel) rfl ?_
    refine at_get (index := 55) (v := va_rf (mR m t 17)) cok12 17 65 rfl (by decide +kernel) k1 (by decide +kernel) tw_1102 rfl ?_
    refine at_sipush (n := 300) (300 : Int32) 68 rfl (by decide +kernel) (by decide +kernel) ?_
    refine at_iload_n (i := 3) 2 69 rfl (by decide +kernel) rfl ?_
    refine at_imul 70 rfl (by decide +kernel) ?_
    refine at_iload (i := 4) 3 72 rfl (by decide +kernel) rfl ?_
    refine at_iadd 73 rfl (by decide +kernel) ?_
    refine at_aload_n (i := 0) 0 74 rfl (by decide +kernel) rfl ?_
    refine at_get (index := 55) (v := va_rf (mR m t 17)) cok12 17 77 rfl (by decide +kernel) k1 (by decide +kernel) tw_1102 rfl ?_
    refine at_sipush (n := 9000) (9000 : Int32) 80 rfl (by decide +kernel) (by decide +kernel) ?_
    refine at_iload (i := 4) 3 82 rfl (by decide +kernel) rfl ?_
    refine at_iadd 83 rfl (by decide +kernel) ?_
    obtain ⟨b13, e14, h⟩ := h
    rw [e14]
    obtain ⟨k15, h⟩ := h
    obtain ⟨v16, h⟩ := h
    refine at_bald 84 rfl (by decide +kernel) k15 v16 ?_
    obtain ⟨v17, h⟩ := h
    refine at_bast 85 rfl (by decide +kernel) k15 v17 (fun m18 e19 => ?_)
    replace h := h m18 e19
    have k20 : mK m18 t = 13 := by rw [e19]; exact k1
    have k21 : mK m18 b2 = 15 := by rw [e19]; exact k4
    have k22 : mK m18 b13 = 14 := by rw [e19]; exact k15
    refine at_iinc (i := 4) (n := 1) (lc' := [(0, va_rf (some t)), (2, .int (l2)), (3, .int (l3)), (4, .int (l4 + (1 : Int32)))]) (l4 + (1 : Int32)) 3 [1, 2, 3, 0] 88 rfl (by decide +kernel) rfl (by rw [show Int32.ofInt 1 = (1 : Int32) from by decide +kernel]) (by decide +kernel) rfl ?_
    refine at_goto (off := (-39)) 49 (by decide +kernel) (by decide +kernel) ?_
    exact h
set_option maxRecDepth 20000 in
set_option maxHeartbeats 4000000 in
theorem bk_RF_law_41 (g : Gc) {lv : Nat} {t : Nat} {l2 : Int32} {l3 : Int32} {m : Mm} {Q : Int32 → Mm → Prop} (h : if (l2) < (l3) then (mK m t = 13 ∧ (Q (mI m t 64) m)) else (At g M_RF_law (lv + 1) 49 [(0, va_rf (some t)), (2, .int (l2)), (3, .int (l3)), (4, .int ((0 : Int32)))] [] m (QI Q))) : At g M_RF_law (lv + 1) 41 [(0, va_rf (some t)), (2, .int (l2)), (3, .int (l3))] [] m (QI Q) := by
  refine at_iload_n (i := 3) 2 42 rfl (by decide +kernel) rfl ?_
  refine at_iload_n (i := 2) 1 43 rfl (by decide +kernel) rfl ?_
  refine at_icmp_gt (off := 67) 110 46 rfl (by decide +kernel) (by decide +kernel) (fun c1 => ?_) (fun c1 => ?_)
  · rw [if_pos c1] at h
    refine at_aload_n (i := 0) 0 111 rfl (by decide +kernel) rfl ?_
    obtain ⟨k2, h⟩ := h
    refine at_get (index := 287) (v := .int (mI m t 64)) cok12 64 114 rfl (by decide +kernel) k2 (by decide +kernel) tw_1149 rfl ?_
    exact at_iret rfl (by decide +kernel) h
  · rw [if_neg c1] at h
    refine at_iconst (n := 0) (0 : Int32) 47 rfl (by decide +kernel) (by decide +kernel) ?_
    refine at_istore (i := 4) (lc' := [(0, va_rf (some t)), (2, .int (l2)), (3, .int (l3)), (4, .int ((0 : Int32)))]) [1, 2, 3, 0] 49 rfl (by decide +kernel) (by decide +kernel) rfl ?_
    exact h
set_option maxRecDepth 20000 in
set_option maxHeartbeats 4000000 in
theorem en_RF_law (g : Gc) {lv : Nat} {t : Nat} {l1 : Int32} {l2 : Int32} {m : Mm} {Q : Int32 → Mm → Prop} (h : mK m t = 13 ∧ (∀ m2, m2 = sI m t 0 (0 : Int32) → (∃ b5, mR m2 t 31 = some b5 ∧ (mK m2 b5 = 15 ∧ (vp_in (0 : Int32) (mN m2 b5) ∧ (if (l1) < (mI m2 b5 (0 : Int32).toNatClampNeg) then (Q (-2 : Int32) m2) else (if ((30 : Int32)) ≤ (l2) then (Q (-2 : Int32) m2) else (if (l1) ≤ (l2) then (CI g M_RF_isLaw lv [va_rf (some t)] m2 (fun x12 m13 => (if (x12) = 0 then (Q (-4 : Int32) m13) else (At g M_RF_law (lv + 1) 41 [(0, va_rf (some t)), (2, .int (l2)), (3, .int (l1))] [] m13 (QI Q))))) else (Q (-2 : Int32) m2))))))))) : CI g M_RF_law (lv + 1) [va_rf (some t), .int (l1), .int (l2)] m Q := by
  refine Call.of (by decide +kernel) (Nat.le_of_ble_eq_true rfl) ?_
  show At g M_RF_law (lv + 1) 0 [(0, va_rf (some t)), (1, .int (l1)), (2, .int (l2))] [] m (QI Q)
  refine at_aload_n (i := 0) 0 1 rfl (by decide +kernel) rfl ?_
  refine at_iconst (n := 0) (0 : Int32) 2 rfl (by decide +kernel) (by decide +kernel) ?_
  obtain ⟨k1, h⟩ := h
  refine at_putI (index := 149) cok12 0 5 rfl (by decide +kernel) k1 (by decide +kernel) tw_1085 rfl rfl rfl (fun m2 e3 => ?_)
  replace h := h m2 e3
  have k4 : mK m2 t = 13 := by rw [e3]; exact k1
  refine at_iload_n (i := 1) 1 6 rfl (by decide +kernel) rfl ?_
  refine at_aload_n (i := 0) 0 7 rfl (by decide +kernel) rfl ?_
  refine at_get (index := 95) (v := va_rf (mR m2 t 31)) cok12 31 10 rfl (by decide +kernel) k4 (by decide +kernel) tw_1116 rfl ?_
  refine at_iconst (n := 0) (0 : Int32) 11 rfl (by decide +kernel) (by decide +kernel) ?_
  obtain ⟨b5, e6, h⟩ := h
  rw [e6]
  obtain ⟨k7, h⟩ := h
  obtain ⟨v8, h⟩ := h
  refine at_iald 12 rfl (by decide +kernel) k7 v8 ?_
  refine at_icmp_lt (off := 14) 26 15 rfl (by decide +kernel) (by decide +kernel) (fun c9 => ?_) (fun c9 => ?_)
  · rw [if_pos c9] at h
    refine at_bipush (n := (-2)) (-2 : Int32) 28 rfl (by decide +kernel) (by decide +kernel) ?_
    exact at_iret rfl (by decide +kernel) h
  · rw [if_neg c9] at h
    refine at_iload_n (i := 2) 2 16 rfl (by decide +kernel) rfl ?_
    refine at_bipush (n := 30) (30 : Int32) 18 rfl (by decide +kernel) (by decide +kernel) ?_
    refine at_icmp_ge (off := 8) 26 21 rfl (by decide +kernel) (by decide +kernel) (fun c10 => ?_) (fun c10 => ?_)
    · rw [if_pos c10] at h
      refine at_bipush (n := (-2)) (-2 : Int32) 28 rfl (by decide +kernel) (by decide +kernel) ?_
      exact at_iret rfl (by decide +kernel) h
    · rw [if_neg c10] at h
      refine at_iload_n (i := 1) 1 22 rfl (by decide +kernel) rfl ?_
      refine at_iload_n (i := 2) 2 23 rfl (by decide +kernel) rfl ?_
      refine at_icmp_le (off := 6) 29 26 rfl (by decide +kernel) (by decide +kernel) (fun c11 => ?_) (fun c11 => ?_)
      · rw [if_pos c11] at h
        refine at_aload_n (i := 0) 0 30 rfl (by decide +kernel) rfl ?_
        refine at_callV mb_RF_isLaw tw_1344 tw_32 cok12 k4 (index := 333) tw_1342 [] [] rfl rfl (by decide) 33 rfl (by decide +kernel) (Call.toI (CI.monoE h (fun x12 m13 h y14 => ?_)))
        have k15 : mK m13 t = 13 := y14.k k4 (by decide)
        have k16 : mK m13 b5 = 15 := y14.k k7 (by decide)
        refine at_if_ne (off := 6) 39 36 rfl (by decide +kernel) (by decide +kernel) (fun c17 => ?_) (fun c17 => ?_)
        · rw [if_neg c17] at h
          refine at_iload_n (i := 1) 1 40 rfl (by decide +kernel) rfl ?_
          refine at_istore_n (i := 3) (lc' := [(0, va_rf (some t)), (2, .int (l2)), (3, .int (l1))]) [1, 3, 0] 41 rfl (by decide +kernel) (by decide +kernel) rfl ?_
          exact h
        · rw [if_pos c17] at h
          refine at_bipush (n := (-4)) (-4 : Int32) 38 rfl (by decide +kernel) (by decide +kernel) ?_
          exact at_iret rfl (by decide +kernel) h
      · rw [if_neg c11] at h
        refine at_bipush (n := (-2)) (-2 : Int32) 28 rfl (by decide +kernel) (by decide +kernel) ?_
        exact at_iret rfl (by decide +kernel) h
set_option maxRecDepth 20000 in
set_option maxHeartbeats 4000000 in
theorem en_RF_fault (g : Gc) {lv : Nat} {t : Nat} {m : Mm} {Q : Int32 → Mm → Prop} (h : mK m t = 13 ∧ (∀ m2, m2 = sI m t 0 (0 : Int32) → (Q (mI m2 t 16) m2))) : CI g M_RF_fault (lv + 1) [va_rf (some t)] m Q := by
  refine Call.of (by decide +kernel) (Nat.le_of_ble_eq_true rfl) ?_
  show At g M_RF_fault (lv + 1) 0 [(0, va_rf (some t))] [] m (QI Q)
  refine at_aload_n (i := 0) 0 1 rfl (by decide +kernel) rfl ?_
  refine at_iconst (n := 0) (0 : Int32) 2 rfl (by decide +kernel) (by decide +kernel) ?_
  obtain ⟨k1, h⟩ := h
  refine at_putI (index := 149) cok12 0 5 rfl (by decide +kernel) k1 (by decide +kernel) tw_1085 rfl rfl rfl (fun m2 e3 => ?_)
  replace h := h m2 e3
  have k4 : mK m2 t = 13 := by rw [e3]; exact k1
  refine at_aload_n (i := 0) 0 6 rfl (by decide +kernel) rfl ?_
  refine at_get (index := 52) (v := .int (mI m2 t 16)) cok12 16 9 rfl (by decide +kernel) k4 (by decide +kernel) tw_1101 rfl ?_
  exact at_iret rfl (by decide +kernel) h
set_option maxRecDepth 20000 in
set_option maxHeartbeats 4000000 in
theorem en_RF_crop (g : Gc) {lv : Nat} {t : Nat} {l1 : Int32} {l2 : Int32} {m : Mm} {Q : Int32 → Mm → Prop} (h : mK m t = 13 ∧ (∀ m2, m2 = sI m t 0 (0 : Int32) → (CI g M_RF_isGrower lv [va_rf (some t), .int (l1)] m2 (fun x5 m6 => (if (x5) = 0 then (Q (-2 : Int32) m6) else (CI g M_RF_in lv [.long (l2.toInt64), .long ((0 : Int64)), .long ((500000 : Int64))] m6 (fun x10 m11 => (if (x10) = 0 then (Q (-2 : Int32) m11) else (∃ b15, mR m11 t 22 = some b15 ∧ (mK m11 b15 = 15 ∧ (vp_in l1 (mN m11 b15) ∧ (∀ m19, m19 = sI m11 b15 l1.toNatClampNeg l2 → (Q (0 : Int32) m19))))))))))))) : CI g M_RF_crop (lv + 1) [va_rf (some t), .int (l1), .int (l2)] m Q := by
  refine Call.of (by decide +kernel) (Nat.le_of_ble_eq_true rfl) ?_
  show At g M_RF_crop (lv + 1) 0 [(0, va_rf (some t)), (1, .int (l1)), (2, .int (l2))] [] m (QI Q)
  refine at_aload_n (i := 0) 0 1 rfl (by decide +kernel) rfl ?_
  refine at_iconst (n := 0) (0 : Int32) 2 rfl (by decide +kernel) (by decide +kernel) ?_
  obtain ⟨k1, h⟩ := h
  refine at_putI (index := 149) cok12 0 5 rfl (by decide +kernel) k1 (by decide +kernel) tw_1085 rfl rfl rfl (fun m2 e3 => ?_)
  replace h := h m2 e3
  have k4 : mK m2 t = 13 := by rw [e3]; exact k1
  refine at_aload_n (i := 0) 0 6 rfl (by decide +kernel) rfl ?_
  refine at_iload_n (i := 1) 1 7 rfl (by decide +kernel) rfl ?_
  refine at_callV mb_RF_isGrower tw_1430 tw_45 cok12 k4 (index := 336) tw_1428 [.int (l1)] [] rfl rfl (by decide) 10 rfl (by decide +kernel) (Call.toI (CI.monoE h (fun x5 m6 h y7 => ?_)))
  have k8 : mK m6 t = 13 := y7.k k4 (by decide)
  refine at_if_eq (off := 15) 25 13 rfl (by decide +kernel) (by decide +kernel) (fun c9 => ?_) (fun c9 => ?_)
  · rw [if_pos c9] at h
    refine at_bipush (n := (-2)) (-2 : Int32) 27 rfl (by decide +kernel) (by decide +kernel) ?_
    exact at_iret rfl (by decide +kernel) h
  · rw [if_neg c9] at h
    refine at_iload_n (i := 2) 2 14 rfl (by decide +kernel) rfl ?_
    refine at_i2l 15 rfl (by decide +kernel) ?_
    refine at_lconst (n := 0) (0 : Int64) 16 rfl (by decide +kernel) (by decide +kernel) ?_
    refine at_ldc2 (index := 339) (500000 : Int64) 19 rfl (by decide +kernel) tw_1432 ?_
    refine at_callS mb_RF_in tw_1293 (index := 154) tw_1292 [.long (l2.toInt64), .long ((0 : Int64)), .long ((500000 : Int64))] [] rfl rfl (by decide) 22 rfl (by decide +kernel) (Call.toI (CI.monoE h (fun x10 m11 h y12 => ?_)))
    have k13 : mK m11 t = 13 := y12.k k8 (by decide)
    refine at_if_ne (off := 6) 28 25 rfl (by decide +kernel) (by decide +kernel) (fun c14 => ?_) (fun c14 => ?_)
    · rw [if_neg c14] at h
      refine at_aload_n (i := 0) 0 29 rfl (by decide +kernel) rfl ?_
      refine at_get (index := 67) (v := va_rf (mR m11 t 22)) cok12 22 32 rfl (by decide +kernel) k13 (by decide +kernel) tw_1107 rfl ?_
      refine at_iload_n (i := 1) 1 33 rfl (by decide +kernel) rfl ?_
      refine at_iload_n (i := 2) 2 34 rfl (by decide +kernel) rfl ?_
      obtain ⟨b15, e16, h⟩ := h
      rw [e16]
      obtain ⟨k17, h⟩ := h
      obtain ⟨v18, h⟩ := h
      refine at_iast 35 rfl (by decide +kernel) k17 v18 (fun m19 e20 => ?_)
      replace h := h m19 e20
      have k21 : mK m19 t = 13 := by rw [e20]; exact k13
      have k22 : mK m19 b15 = 15 := by rw [e20]; exact k17
      refine at_iconst (n := 0) (0 : Int32) 36 rfl (by decide +kernel) (by decide +kernel) ?_
      exact at_iret rfl (by decide +kernel) h
    · rw [if_pos c14] at h
      refine at_bipush (n := (-2)) (-2 : Int32) 27 rfl (by decide +kernel) (by decide +kernel) ?_
      exact at_iret rfl (by decide +kernel) h
set_option maxRecDepth 20000 in
set_option maxHeartbeats 4000000 in
theorem bk_RF_crops_85 (g : Gc) {lv : Nat} {t : Nat} {l1 : Int32} {l2 : Int32} {m : Mm} {Q : Int32 → Mm → Prop} (h : mK m t = 13 ∧ (if (mI m t 19) ≤ (l2) then (Q (mI m t 19) m) else (∃ b3, mR m t 3 = some b3 ∧ (mK m b3 = 16 ∧ (vp_in (((60 : Int32) * l1) + l2) (mN m b3) ∧ (∃ b7, mR m t 22 = some b7 ∧ (mK m b7 = 15 ∧ (vp_in l2 (mN m b7) ∧ (∀ m11, m11 = sI m b7 l2.toNatClampNeg ((mL m b3 (((60 : Int32) * l1) + l2).toNatClampNeg).toInt32) → (At g M_RF_crops (lv + 1) 85 [(0, va_rf (some t)), (1, .int (l1)), (2, .int (l2 + (1 : Int32)))] [] m11 (QI Q))))))))))) : At g M_RF_crops (lv + 1) 85 [(0, va_rf (some t)), (1, .int (l1)), (2, .int (l2))] [] m (QI Q) := by
  refine at_iload_n (i := 2) 2 86 rfl (by decide +kernel) rfl ?_
  refine at_aload_n (i := 0) 0 87 rfl (by decide +kernel) rfl ?_
  obtain ⟨k1, h⟩ := h
  refine at_get (index := 185) (v := .int (mI m t 19)) cok12 19 90 rfl (by decide +kernel) k1 (by decide +kernel) tw_1104 rfl ?_
  refine at_icmp_ge (off := 27) 117 93 rfl (by decide +kernel) (by decide +kernel) (fun c2 => ?_) (fun c2 => ?_)
  · rw [if_pos c2] at h
    refine at_aload_n (i := 0) 0 118 rfl (by decide +kernel) rfl ?_
    refine at_get (index := 185) (v := .int (mI m t 19)) cok12 19 121 rfl (by decide +kernel) k1 (by decide +kernel) tw_1104 rfl ?_
    exact at_iret rfl (by decide +kernel) h
  · rw [if_neg c2] at h
    refine at_aload_n (i := 0) 0 94 rfl (by decide +kernel) rfl ?_
    refine at_get (index := 67) (v := va_rf (mR m t 22)) cok12 22 97 rfl (by decide +kernel) k1 (by decide +kernel) tw_1107 rfl ?_
    refine at_iload_n (i := 2) 2 98 rfl (by decide +kernel) rfl ?_
    refine at_aload_n (i := 0) 0 99 rfl (by decide +kernel) rfl ?_
    refine at_get (index := 16) (v := va_rf (mR m t 3)) cok12 3 102 rfl (by decide +kernel) k1 (by decide +kernel) tw_1088 rfl ?_
    refine at_bipush (n := 60) (60 : Int32) 104 rfl (by decide +kernel) (by decide +kernel) ?_
    refine at_iload_n (i := 1) 1 105 rfl (by decide +kernel) rfl ?_
    refine at_imul 106 rfl (by decide +kernel) ?_
    refine at_iload_n (i := 2) 2 107 rfl (by decide +kernel) rfl ?_
    refine at_iadd 108 rfl (by decide +kernel) ?_
    obtain ⟨b3, e4, h⟩ := h
    rw [e4]
    obtain ⟨k5, h⟩ := h
    obtain ⟨v6, h⟩ := h
    refine at_lald 109 rfl (by decide +kernel) k5 v6 ?_
    refine at_l2i 110 rfl (by decide +kernel) ?_
    obtain ⟨b7, e8, h⟩ := h
    rw [e8]
    obtain ⟨k9, h⟩ := h
    obtain ⟨v10, h⟩ := h
    refine at_iast 111 rfl (by decide +kernel) k9 v10 (fun m11 e12 => ?_)
    replace h := h m11 e12
    have k13 : mK m11 t = 13 := by rw [e12]; exact k1
    have k14 : mK m11 b3 = 16 := by rw [e12]; exact k5
    have k15 : mK m11 b7 = 15 := by rw [e12]; exact k9
    refine at_iinc (i := 2) (n := 1) (lc' := [(0, va_rf (some t)), (1, .int (l1)), (2, .int (l2 + (1 : Int32)))]) (l2 + (1 : Int32)) 2 [1, 2, 0] 114 rfl (by decide +kernel) rfl (by rw [show Int32.ofInt 1 = (1 : Int32) from by decide +kernel]) (by decide +kernel) rfl ?_
    refine at_goto (off := (-29)) 85 (by decide +kernel) (by decide +kernel) ?_
    exact h
set_option maxRecDepth 20000 in
set_option maxHeartbeats 4000000 in
theorem bk_RF_crops_45 (g : Gc) {lv : Nat} {t : Nat} {l1 : Int32} {l2 : Int32} {m : Mm} {Q : Int32 → Mm → Prop} (h : mK m t = 13 ∧ (if (mI m t 19) ≤ (l2) then (At g M_RF_crops (lv + 1) 85 [(0, va_rf (some t)), (1, .int (l1)), (2, .int ((0 : Int32)))] [] m (QI Q)) else (∃ b3, mR m t 3 = some b3 ∧ (mK m b3 = 16 ∧ (vp_in (((60 : Int32) * l1) + l2) (mN m b3) ∧ (CI g M_RF_in lv [.long (mL m b3 (((60 : Int32) * l1) + l2).toNatClampNeg), .long ((0 : Int64)), .long ((500000 : Int64))] m (fun x7 m8 => (if (x7) = 0 then (Q (-4 : Int32) m8) else (At g M_RF_crops (lv + 1) 45 [(0, va_rf (some t)), (1, .int (l1)), (2, .int (l2 + (1 : Int32)))] [] m8 (QI Q)))))))))) : At g M_RF_crops (lv + 1) 45 [(0, va_rf (some t)), (1, .int (l1)), (2, .int (l2))] [] m (QI Q) := by
  refine at_iload_n (i := 2) 2 46 rfl (by decide +kernel) rfl ?_
  refine at_aload_n (i := 0) 0 47 rfl (by decide +kernel) rfl ?_
  obtain ⟨k1, h⟩ := h
  refine at_get (index := 185) (v := .int (mI m t 19)) cok12 19 50 rfl (by decide +kernel) k1 (by decide +kernel) tw_1104 rfl ?_
  refine at_icmp_ge (off := 33) 83 53 rfl (by decide +kernel) (by decide +kernel) (fun c2 => ?_) (fun c2 => ?_)
  · rw [if_pos c2] at h
    refine at_iconst (n := 0) (0 : Int32) 84 rfl (by decide +kernel) (by decide +kernel) ?_
    refine at_istore_n (i := 2) (lc' := [(0, va_rf (some t)), (1, .int (l1)), (2, .int ((0 : Int32)))]) [1, 2, 0] 85 rfl (by decide +kernel) (by decide +kernel) rfl ?_
    exact h
  · rw [if_neg c2] at h
    refine at_aload_n (i := 0) 0 54 rfl (by decide +kernel) rfl ?_
    refine at_get (index := 16) (v := va_rf (mR m t 3)) cok12 3 57 rfl (by decide +kernel) k1 (by decide +kernel) tw_1088 rfl ?_
    refine at_bipush (n := 60) (60 : Int32) 59 rfl (by decide +kernel) (by decide +kernel) ?_
    refine at_iload_n (i := 1) 1 60 rfl (by decide +kernel) rfl ?_
    refine at_imul 61 rfl (by decide +kernel) ?_
    refine at_iload_n (i := 2) 2 62 rfl (by decide +kernel) rfl ?_
    refine at_iadd 63 rfl (by decide +kernel) ?_
    obtain ⟨b3, e4, h⟩ := h
    rw [e4]
    obtain ⟨k5, h⟩ := h
    obtain ⟨v6, h⟩ := h
    refine at_lald 64 rfl (by decide +kernel) k5 v6 ?_
    refine at_lconst (n := 0) (0 : Int64) 65 rfl (by decide +kernel) (by decide +kernel) ?_
    refine at_ldc2 (index := 339) (500000 : Int64) 68 rfl (by decide +kernel) tw_1432 ?_
    refine at_callS mb_RF_in tw_1293 (index := 154) tw_1292 [.long (mL m b3 (((60 : Int32) * l1) + l2).toNatClampNeg), .long ((0 : Int64)), .long ((500000 : Int64))] [] rfl rfl (by decide) 71 rfl (by decide +kernel) (Call.toI (CI.monoE h (fun x7 m8 h y9 => ?_)))
    have k10 : mK m8 t = 13 := y9.k k1 (by decide)
    have k11 : mK m8 b3 = 16 := y9.k k5 (by decide)
    refine at_if_ne (off := 6) 77 74 rfl (by decide +kernel) (by decide +kernel) (fun c12 => ?_) (fun c12 => ?_)
    · rw [if_neg c12] at h
      refine at_iinc (i := 2) (n := 1) (lc' := [(0, va_rf (some t)), (1, .int (l1)), (2, .int (l2 + (1 : Int32)))]) (l2 + (1 : Int32)) 2 [1, 2, 0] 80 rfl (by decide +kernel) rfl (by rw [show Int32.ofInt 1 = (1 : Int32) from by decide +kernel]) (by decide +kernel) rfl ?_
      refine at_goto (off := (-35)) 45 (by decide +kernel) (by decide +kernel) ?_
      exact h
    · rw [if_pos c12] at h
      refine at_bipush (n := (-4)) (-4 : Int32) 76 rfl (by decide +kernel) (by decide +kernel) ?_
      exact at_iret rfl (by decide +kernel) h
set_option maxRecDepth 20000 in
set_option maxHeartbeats 4000000 in
theorem en_RF_crops (g : Gc) {lv : Nat} {t : Nat} {l1 : Int32} {m : Mm} {Q : Int32 → Mm → Prop} (h : mK m t = 13 ∧ (∀ m2, m2 = sI m t 0 (0 : Int32) → (CI g M_RF_isSlot lv [.int (l1)] m2 (fun x5 m6 => (if (x5) = 0 then (Q (-2 : Int32) m6) else (∃ b10, mR m6 t 1 = some b10 ∧ (mK m6 b10 = 15 ∧ (vp_in l1 (mN m6 b10) ∧ (if 0 ≤ (mI m6 b10 l1.toNatClampNeg) then (∃ b15, mR m6 t 2 = some b15 ∧ (mK m6 b15 = 15 ∧ (vp_in l1 (mN m6 b15) ∧ (if (mI m6 t 19) ≤ (mI m6 b15 l1.toNatClampNeg) then (At g M_RF_crops (lv + 1) 45 [(0, va_rf (some t)), (1, .int (l1)), (2, .int ((0 : Int32)))] [] m6 (QI Q)) else (Q (-6 : Int32) m6))))) else (Q (-5 : Int32) m6)))))))))) : CI g M_RF_crops (lv + 1) [va_rf (some t), .int (l1)] m Q := by
  refine Call.of (by decide +kernel) (Nat.le_of_ble_eq_true rfl) ?_
  show At g M_RF_crops (lv + 1) 0 [(0, va_rf (some t)), (1, .int (l1))] [] m (QI Q)
  refine at_aload_n (i := 0) 0 1 rfl (by decide +kernel) rfl ?_
  refine at_iconst (n := 0) (0 : Int32) 2 rfl (by decide +kernel) (by decide +kernel) ?_
  obtain ⟨k1, h⟩ := h
  refine at_putI (index := 149) cok12 0 5 rfl (by decide +kernel) k1 (by decide +kernel) tw_1085 rfl rfl rfl (fun m2 e3 => ?_)
  replace h := h m2 e3
  have k4 : mK m2 t = 13 := by rw [e3]; exact k1
  refine at_iload_n (i := 1) 1 6 rfl (by decide +kernel) rfl ?_
  refine at_callS mb_RF_isSlot tw_1289 (index := 158) tw_1288 [.int (l1)] [] rfl rfl (by decide) 9 rfl (by decide +kernel) (Call.toI (CI.monoE h (fun x5 m6 h y7 => ?_)))
  have k8 : mK m6 t = 13 := y7.k k4 (by decide)
  refine at_if_ne (off := 6) 15 12 rfl (by decide +kernel) (by decide +kernel) (fun c9 => ?_) (fun c9 => ?_)
  · rw [if_neg c9] at h
    refine at_aload_n (i := 0) 0 16 rfl (by decide +kernel) rfl ?_
    refine at_get (index := 9) (v := va_rf (mR m6 t 1)) cok12 1 19 rfl (by decide +kernel) k8 (by decide +kernel) tw_1086 rfl ?_
    refine at_iload_n (i := 1) 1 20 rfl (by decide +kernel) rfl ?_
    obtain ⟨b10, e11, h⟩ := h
    rw [e11]
    obtain ⟨k12, h⟩ := h
    obtain ⟨v13, h⟩ := h
    refine at_iald 21 rfl (by decide +kernel) k12 v13 ?_
    refine at_if_ge (off := 6) 27 24 rfl (by decide +kernel) (by decide +kernel) (fun c14 => ?_) (fun c14 => ?_)
    · rw [if_pos c14] at h
      refine at_aload_n (i := 0) 0 28 rfl (by decide +kernel) rfl ?_
      refine at_get (index := 13) (v := va_rf (mR m6 t 2)) cok12 2 31 rfl (by decide +kernel) k8 (by decide +kernel) tw_1087 rfl ?_
      refine at_iload_n (i := 1) 1 32 rfl (by decide +kernel) rfl ?_
      obtain ⟨b15, e16, h⟩ := h
      rw [e16]
      obtain ⟨k17, h⟩ := h
      obtain ⟨v18, h⟩ := h
      refine at_iald 33 rfl (by decide +kernel) k17 v18 ?_
      refine at_aload_n (i := 0) 0 34 rfl (by decide +kernel) rfl ?_
      refine at_get (index := 185) (v := .int (mI m6 t 19)) cok12 19 37 rfl (by decide +kernel) k8 (by decide +kernel) tw_1104 rfl ?_
      refine at_icmp_ge (off := 6) 43 40 rfl (by decide +kernel) (by decide +kernel) (fun c19 => ?_) (fun c19 => ?_)
      · rw [if_pos c19] at h
        refine at_iconst (n := 0) (0 : Int32) 44 rfl (by decide +kernel) (by decide +kernel) ?_
        refine at_istore_n (i := 2) (lc' := [(0, va_rf (some t)), (1, .int (l1)), (2, .int ((0 : Int32)))]) [1, 2, 0] 45 rfl (by decide +kernel) (by decide +kernel) rfl ?_
        exact h
      · rw [if_neg c19] at h
        refine at_bipush (n := (-6)) (-6 : Int32) 42 rfl (by decide +kernel) (by decide +kernel) ?_
        exact at_iret rfl (by decide +kernel) h
    · rw [if_neg c14] at h
      refine at_bipush (n := (-5)) (-5 : Int32) 26 rfl (by decide +kernel) (by decide +kernel) ?_
      exact at_iret rfl (by decide +kernel) h
  · rw [if_pos c9] at h
    refine at_bipush (n := (-2)) (-2 : Int32) 14 rfl (by decide +kernel) (by decide +kernel) ?_
    exact at_iret rfl (by decide +kernel) h
set_option maxRecDepth 20000 in
set_option maxHeartbeats 4000000 in
theorem bk_RF_store_4 (g : Gc) {lv : Nat} {t : Nat} {l1 : Int32} {l2 : Int32} {l3 : Int32} {m : Mm} {Q : Int32 → Mm → Prop} (h : mK m t = 13 ∧ (∃ b2, mR m t 33 = some b2 ∧ (mK m b2 = 15 ∧ (vp_in l1 (mN m b2) ∧ (if (mI m b2 l1.toNatClampNeg) ≤ (l3) then (Q l2 m) else (∃ b7, mR m t 41 = some b7 ∧ (mK m b7 = 15 ∧ (vp_in (((400 : Int32) * l1) + l3) (mN m b7) ∧ (At g M_RF_store (lv + 1) 4 [(0, va_rf (some t)), (1, .int (l1)), (2, .int (l2 + (mI m b7 (((400 : Int32) * l1) + l3).toNatClampNeg))), (3, .int (l3 + (1 : Int32)))] [] m (QI Q)))))))))) : At g M_RF_store (lv + 1) 4 [(0, va_rf (some t)), (1, .int (l1)), (2, .int (l2)), (3, .int (l3))] [] m (QI Q) := by
  refine at_iload_n (i := 3) 3 5 rfl (by decide +kernel) rfl ?_
  refine at_aload_n (i := 0) 0 6 rfl (by decide +kernel) rfl ?_
  obtain ⟨k1, h⟩ := h
  refine at_get (index := 101) (v := va_rf (mR m t 33)) cok12 33 9 rfl (by decide +kernel) k1 (by decide +kernel) tw_1118 rfl ?_
  refine at_iload_n (i := 1) 1 10 rfl (by decide +kernel) rfl ?_
  obtain ⟨b2, e3, h⟩ := h
  rw [e3]
  obtain ⟨k4, h⟩ := h
  obtain ⟨v5, h⟩ := h
  refine at_iald 11 rfl (by decide +kernel) k4 v5 ?_
  refine at_icmp_ge (off := 24) 35 14 rfl (by decide +kernel) (by decide +kernel) (fun c6 => ?_) (fun c6 => ?_)
  · rw [if_pos c6] at h
    refine at_iload_n (i := 2) 2 36 rfl (by decide +kernel) rfl ?_
    exact at_iret rfl (by decide +kernel) h
  · rw [if_neg c6] at h
    refine at_iload_n (i := 2) 2 15 rfl (by decide +kernel) rfl ?_
    refine at_aload_n (i := 0) 0 16 rfl (by decide +kernel) rfl ?_
    refine at_get (index := 125) (v := va_rf (mR m t 41)) cok12 41 19 rfl (by decide +kernel) k1 (by decide +kernel) tw_1126 rfl ?_
    refine at_sipush (n := 400) (400 : Int32) 22 rfl (by decide +kernel) (by decide +kernel) ?_
    refine at_iload_n (i := 1) 1 23 rfl (by decide +kernel) rfl ?_
    refine at_imul 24 rfl (by decide +kernel) ?_
    refine at_iload_n (i := 3) 3 25 rfl (by decide +kernel) rfl ?_
    refine at_iadd 26 rfl (by decide +kernel) ?_
    obtain ⟨b7, e8, h⟩ := h
    rw [e8]
    obtain ⟨k9, h⟩ := h
    obtain ⟨v10, h⟩ := h
    refine at_iald 27 rfl (by decide +kernel) k9 v10 ?_
    refine at_iadd 28 rfl (by decide +kernel) ?_
    refine at_istore_n (i := 2) (lc' := [(0, va_rf (some t)), (1, .int (l1)), (2, .int (l2 + (mI m b7 (((400 : Int32) * l1) + l3).toNatClampNeg))), (3, .int (l3))]) [1, 2, 0, 3] 29 rfl (by decide +kernel) (by decide +kernel) rfl ?_
    refine at_iinc (i := 3) (n := 1) (lc' := [(0, va_rf (some t)), (1, .int (l1)), (2, .int (l2 + (mI m b7 (((400 : Int32) * l1) + l3).toNatClampNeg))), (3, .int (l3 + (1 : Int32)))]) (l3 + (1 : Int32)) 3 [1, 2, 3, 0] 32 rfl (by decide +kernel) rfl (by rw [show Int32.ofInt 1 = (1 : Int32) from by decide +kernel]) (by decide +kernel) rfl ?_
    refine at_goto (off := (-28)) 4 (by decide +kernel) (by decide +kernel) ?_
    exact h
set_option maxRecDepth 20000 in
set_option maxHeartbeats 4000000 in
theorem en_RF_store (g : Gc) {lv : Nat} {t : Nat} {l1 : Int32} {m : Mm} {Q : Int32 → Mm → Prop} (h : At g M_RF_store (lv + 1) 4 [(0, va_rf (some t)), (1, .int (l1)), (2, .int ((0 : Int32))), (3, .int ((0 : Int32)))] [] m (QI Q)) : CI g M_RF_store (lv + 1) [va_rf (some t), .int (l1)] m Q := by
  refine Call.of (by decide +kernel) (Nat.le_of_ble_eq_true rfl) ?_
  show At g M_RF_store (lv + 1) 0 [(0, va_rf (some t)), (1, .int (l1))] [] m (QI Q)
  refine at_iconst (n := 0) (0 : Int32) 1 rfl (by decide +kernel) (by decide +kernel) ?_
  refine at_istore_n (i := 2) (lc' := [(0, va_rf (some t)), (1, .int (l1)), (2, .int ((0 : Int32)))]) [1, 2, 0] 2 rfl (by decide +kernel) (by decide +kernel) rfl ?_
  refine at_iconst (n := 0) (0 : Int32) 3 rfl (by decide +kernel) (by decide +kernel) ?_
  refine at_istore_n (i := 3) (lc' := [(0, va_rf (some t)), (1, .int (l1)), (2, .int ((0 : Int32))), (3, .int ((0 : Int32)))]) [1, 2, 3, 0] 4 rfl (by decide +kernel) (by decide +kernel) rfl ?_
  exact h
set_option maxRecDepth 20000 in
set_option maxHeartbeats 4000000 in
theorem bk_RF_frees_4 (g : Gc) {lv : Nat} {t : Nat} {l1 : Int32} {l2 : Int32} {l3 : Int32} {m : Mm} {Q : Int32 → Mm → Prop} (h : mK m t = 13 ∧ (if (mI m t 19) ≤ (l3) then (Q l2 m) else (∃ b3, mR m t 37 = some b3 ∧ (mK m b3 = 15 ∧ (vp_in (((12 : Int32) * l1) + l3) (mN m b3) ∧ (At g M_RF_frees (lv + 1) 4 [(0, va_rf (some t)), (1, .int (l1)), (2, .int (l2 + (mI m b3 (((12 : Int32) * l1) + l3).toNatClampNeg))), (3, .int (l3 + (1 : Int32)))] [] m (QI Q))))))) : At g M_RF_frees (lv + 1) 4 [(0, va_rf (some t)), (1, .int (l1)), (2, .int (l2)), (3, .int (l3))] [] m (QI Q) := by
  refine at_iload_n (i := 3) 3 5 rfl (by decide +kernel) rfl ?_
  refine at_aload_n (i := 0) 0 6 rfl (by decide +kernel) rfl ?_
  obtain ⟨k1, h⟩ := h
  refine at_get (index := 185) (v := .int (mI m t 19)) cok12 19 9 rfl (by decide +kernel) k1 (by decide +kernel) tw_1104 rfl ?_
  refine at_icmp_ge (off := 23) 32 12 rfl (by decide +kernel) (by decide +kernel) (fun c2 => ?_) (fun c2 => ?_)
  · rw [if_pos c2] at h
    refine at_iload_n (i := 2) 2 33 rfl (by decide +kernel) rfl ?_
    exact at_iret rfl (by decide +kernel) h
  · rw [if_neg c2] at h
    refine at_iload_n (i := 2) 2 13 rfl (by decide +kernel) rfl ?_
    refine at_aload_n (i := 0) 0 14 rfl (by decide +kernel) rfl ?_
    refine at_get (index := 113) (v := va_rf (mR m t 37)) cok12 37 17 rfl (by decide +kernel) k1 (by decide +kernel) tw_1122 rfl ?_
    refine at_bipush (n := 12) (12 : Int32) 19 rfl (by decide +kernel) (by decide +kernel) ?_
    refine at_iload_n (i := 1) 1 20 rfl (by decide +kernel) rfl ?_
    refine at_imul 21 rfl (by decide +kernel) ?_
    refine at_iload_n (i := 3) 3 22 rfl (by decide +kernel) rfl ?_
    refine at_iadd 23 rfl (by decide +kernel) ?_
    obtain ⟨b3, e4, h⟩ := h
    rw [e4]
    obtain ⟨k5, h⟩ := h
    obtain ⟨v6, h⟩ := h
    refine at_iald 24 rfl (by decide +kernel) k5 v6 ?_
    refine at_iadd 25 rfl (by decide +kernel) ?_
    refine at_istore_n (i := 2) (lc' := [(0, va_rf (some t)), (1, .int (l1)), (2, .int (l2 + (mI m b3 (((12 : Int32) * l1) + l3).toNatClampNeg))), (3, .int (l3))]) [1, 2, 0, 3] 26 rfl (by decide +kernel) (by decide +kernel) rfl ?_
    refine at_iinc (i := 3) (n := 1) (lc' := [(0, va_rf (some t)), (1, .int (l1)), (2, .int (l2 + (mI m b3 (((12 : Int32) * l1) + l3).toNatClampNeg))), (3, .int (l3 + (1 : Int32)))]) (l3 + (1 : Int32)) 3 [1, 2, 3, 0] 29 rfl (by decide +kernel) rfl (by rw [show Int32.ofInt 1 = (1 : Int32) from by decide +kernel]) (by decide +kernel) rfl ?_
    refine at_goto (off := (-25)) 4 (by decide +kernel) (by decide +kernel) ?_
    exact h
set_option maxRecDepth 20000 in
set_option maxHeartbeats 4000000 in
theorem en_RF_frees (g : Gc) {lv : Nat} {t : Nat} {l1 : Int32} {m : Mm} {Q : Int32 → Mm → Prop} (h : At g M_RF_frees (lv + 1) 4 [(0, va_rf (some t)), (1, .int (l1)), (2, .int ((0 : Int32))), (3, .int ((0 : Int32)))] [] m (QI Q)) : CI g M_RF_frees (lv + 1) [va_rf (some t), .int (l1)] m Q := by
  refine Call.of (by decide +kernel) (Nat.le_of_ble_eq_true rfl) ?_
  show At g M_RF_frees (lv + 1) 0 [(0, va_rf (some t)), (1, .int (l1))] [] m (QI Q)
  refine at_iconst (n := 0) (0 : Int32) 1 rfl (by decide +kernel) (by decide +kernel) ?_
  refine at_istore_n (i := 2) (lc' := [(0, va_rf (some t)), (1, .int (l1)), (2, .int ((0 : Int32)))]) [1, 2, 0] 2 rfl (by decide +kernel) (by decide +kernel) rfl ?_
  refine at_iconst (n := 0) (0 : Int32) 3 rfl (by decide +kernel) (by decide +kernel) ?_
  refine at_istore_n (i := 3) (lc' := [(0, va_rf (some t)), (1, .int (l1)), (2, .int ((0 : Int32))), (3, .int ((0 : Int32)))]) [1, 2, 3, 0] 4 rfl (by decide +kernel) (by decide +kernel) rfl ?_
  exact h
set_option maxRecDepth 20000 in
set_option maxHeartbeats 4000000 in
theorem en_RF_wants (g : Gc) {lv : Nat} {t : Nat} {l1 : Int32} {m : Mm} {Q : Int32 → Mm → Prop} (h : mK m t = 13 ∧ (∃ b2, mR m t 32 = some b2 ∧ (mK m b2 = 15 ∧ (vp_in l1 (mN m b2) ∧ (Q ((lmx (0 : Int64) (((mI m t 5).toInt64) - ((((mI m t 6).toInt64) * ((mI m b2 l1.toNatClampNeg).toInt64)) / (100 : Int64)))).toInt32) m))))) : CI g M_RF_wants (lv + 1) [va_rf (some t), .int (l1)] m Q := by
  refine Call.of (by decide +kernel) (Nat.le_of_ble_eq_true rfl) ?_
  show At g M_RF_wants (lv + 1) 0 [(0, va_rf (some t)), (1, .int (l1))] [] m (QI Q)
  refine at_lconst (n := 0) (0 : Int64) 1 rfl (by decide +kernel) (by decide +kernel) ?_
  refine at_aload_n (i := 0) 0 2 rfl (by decide +kernel) rfl ?_
  obtain ⟨k1, h⟩ := h
  refine at_get (index := 23) (v := .int (mI m t 5)) cok12 5 5 rfl (by decide +kernel) k1 (by decide +kernel) tw_1090 rfl ?_
  refine at_i2l 6 rfl (by decide +kernel) ?_
  refine at_aload_n (i := 0) 0 7 rfl (by decide +kernel) rfl ?_
  refine at_get (index := 27) (v := .int (mI m t 6)) cok12 6 10 rfl (by decide +kernel) k1 (by decide +kernel) tw_1091 rfl ?_
  refine at_i2l 11 rfl (by decide +kernel) ?_
  refine at_aload_n (i := 0) 0 12 rfl (by decide +kernel) rfl ?_
  refine at_get (index := 98) (v := va_rf (mR m t 32)) cok12 32 15 rfl (by decide +kernel) k1 (by decide +kernel) tw_1117 rfl ?_
  refine at_iload_n (i := 1) 1 16 rfl (by decide +kernel) rfl ?_
  obtain ⟨b2, e3, h⟩ := h
  rw [e3]
  obtain ⟨k4, h⟩ := h
  obtain ⟨v5, h⟩ := h
  refine at_iald 17 rfl (by decide +kernel) k4 v5 ?_
  refine at_i2l 18 rfl (by decide +kernel) ?_
  refine at_lmul 19 rfl (by decide +kernel) ?_
  refine at_ldc2 (index := 174) (100 : Int64) 22 rfl (by decide +kernel) tw_1318 ?_
  refine at_ldiv 23 rfl (by decide +kernel) (by decide +kernel) ?_
  refine at_lsub 24 rfl (by decide +kernel) ?_
  refine at_lmx (index := 341) 27 rfl (by decide +kernel) tw_1453 (by decide) ?_
  refine at_l2i 28 rfl (by decide +kernel) ?_
  exact at_iret rfl (by decide +kernel) h
