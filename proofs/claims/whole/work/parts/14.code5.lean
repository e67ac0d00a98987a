set_option maxRecDepth 20000 in
set_option maxHeartbeats 4000000 in
theorem bk_RF_init_434 (g : Gc) {lv : Nat} {t : Nat} {l1 : Int32} {m : Mm} {Q : Mm → Prop} (h : if ((12 : Int32)) ≤ (l1) then (Q m) else (mK m t = 13 ∧ (∃ b3, mR m t 22 = some b3 ∧ (mK m b3 = 15 ∧ (vp_in l1 (mN m b3) ∧ (∀ m7, m7 = sI m b3 l1.toNatClampNeg (-1 : Int32) → (At g M_RF_init (lv + 1) 434 [(0, va_rf (some t)), (1, .int (l1 + (1 : Int32)))] [] m7 (QV Q)))))))) : At g M_RF_init (lv + 1) 434 [(0, va_rf (some t)), (1, .int (l1))] [] m (QV Q) := by
  refine at_iload_n (i := 1) 1 435 rfl (by decide +kernel) rfl ?_
  refine at_bipush (n := 12) (12 : Int32) 437 rfl (by decide +kernel) (by decide +kernel) ?_
  refine at_icmp_ge (off := 16) 453 440 rfl (by decide +kernel) (by decide +kernel) (fun c1 => ?_) (fun c1 => ?_)
  · rw [if_pos c1] at h
    exact at_vret rfl (by decide +kernel) h
  · rw [if_neg c1] at h
    refine at_aload_n (i := 0) 0 441 rfl (by decide +kernel) rfl ?_
    obtain ⟨k2, h⟩ := h
    refine at_get (index := 67) (v := va_rf (mR m t 22)) cok12 22 444 rfl (by decide +kernel) k2 (by decide +kernel) tw_1107 rfl ?_
    obtain ⟨b3, e4, h⟩ := h
    rw [e4]
    refine at_iload_n (i := 1) 1 445 rfl (by decide +kernel) rfl ?_
    refine at_iconst (n := (-1)) (-1 : Int32) 446 rfl (by decide +kernel) (by decide +kernel) ?_
    obtain ⟨k5, h⟩ := h
    obtain ⟨v6, h⟩ := h
    refine at_iast 447 rfl (by decide +kernel) k5 v6 (fun m7 e8 => ?_)
    replace h := h m7 e8
    have x9 : Ext m m7 := by rw [e8]; exact Ext.sI _ _ _ _
    have k10 : mK m7 t = 13 := x9.k k2 (by decide)
    have k11 : mK m7 b3 = 15 := x9.k k5 (by decide)
    have e12 : mR m7 t 22 = some b3 := x9.r k2 (by decide) rfl e4
    refine at_iinc (i := 1) (n := 1) (lc' := [(0, va_rf (some t)), (1, .int (l1 + (1 : Int32)))]) (l1 + (1 : Int32)) 1 [1, 0] 450 rfl (by decide +kernel) rfl (by rw [show Int32.ofInt 1 = (1 : Int32) from by decide +kernel]) (by decide +kernel) rfl ?_
    refine at_goto (off := (-16)) 434 (by decide +kernel) (by decide +kernel) ?_
    exact h
set_option maxRecDepth 20000 in
set_option maxHeartbeats 4000000 in
theorem bk_RF_init_413 (g : Gc) {lv : Nat} {t : Nat} {l1 : Int32} {m : Mm} {Q : Mm → Prop} (h : if ((31 : Int32)) ≤ (l1) then (At g M_RF_init (lv + 1) 434 [(0, va_rf (some t)), (1, .int ((0 : Int32)))] [] m (QV Q)) else (mK m t = 13 ∧ (∃ b3, mR m t 18 = some b3 ∧ (mK m b3 = 15 ∧ (vp_in l1 (mN m b3) ∧ (∀ m7, m7 = sI m b3 l1.toNatClampNeg (-1 : Int32) → (At g M_RF_init (lv + 1) 413 [(0, va_rf (some t)), (1, .int (l1 + (1 : Int32)))] [] m7 (QV Q)))))))) : At g M_RF_init (lv + 1) 413 [(0, va_rf (some t)), (1, .int (l1))] [] m (QV Q) := by
  refine at_iload_n (i := 1) 1 414 rfl (by decide +kernel) rfl ?_
  refine at_bipush (n := 31) (31 : Int32) 416 rfl (by decide +kernel) (by decide +kernel) ?_
  refine at_icmp_ge (off := 16) 432 419 rfl (by decide +kernel) (by decide +kernel) (fun c1 => ?_) (fun c1 => ?_)
  · rw [if_pos c1] at h
    refine at_iconst (n := 0) (0 : Int32) 433 rfl (by decide +kernel) (by decide +kernel) ?_
    refine at_istore_n (i := 1) (lc' := [(0, va_rf (some t)), (1, .int ((0 : Int32)))]) [1, 0] 434 rfl (by decide +kernel) (by decide +kernel) rfl ?_
    exact h
  · rw [if_neg c1] at h
    refine at_aload_n (i := 0) 0 420 rfl (by decide +kernel) rfl ?_
    obtain ⟨k2, h⟩ := h
    refine at_get (index := 58) (v := va_rf (mR m t 18)) cok12 18 423 rfl (by decide +kernel) k2 (by decide +kernel) tw_1103 rfl ?_
    obtain ⟨b3, e4, h⟩ := h
    rw [e4]
    refine at_iload_n (i := 1) 1 424 rfl (by decide +kernel) rfl ?_
    refine at_iconst (n := (-1)) (-1 : Int32) 425 rfl (by decide +kernel) (by decide +kernel) ?_
    obtain ⟨k5, h⟩ := h
    obtain ⟨v6, h⟩ := h
    refine at_iast 426 rfl (by decide +kernel) k5 v6 (fun m7 e8 => ?_)
    replace h := h m7 e8
    have x9 : Ext m m7 := by rw [e8]; exact Ext.sI _ _ _ _
    have k10 : mK m7 t = 13 := x9.k k2 (by decide)
    have k11 : mK m7 b3 = 15 := x9.k k5 (by decide)
    have e12 : mR m7 t 18 = some b3 := x9.r k2 (by decide) rfl e4
    refine at_iinc (i := 1) (n := 1) (lc' := [(0, va_rf (some t)), (1, .int (l1 + (1 : Int32)))]) (l1 + (1 : Int32)) 1 [1, 0] 429 rfl (by decide +kernel) rfl (by rw [show Int32.ofInt 1 = (1 : Int32) from by decide +kernel]) (by decide +kernel) rfl ?_
    refine at_goto (off := (-16)) 413 (by decide +kernel) (by decide +kernel) ?_
    exact h
set_option maxRecDepth 20000 in
set_option maxHeartbeats 4000000 in
theorem en_RF_init (g : Gc) {lv : Nat} {t : Nat} {m : Mm} {Q : Mm → Prop} (h : mK m (gz g + mC m) = 0 ∧ (∀ q2 m3, q2 = gz g + mC m → m3 = nw m q2 15 ((4 : Int32).toNatClampNeg) ((4 : Int32).toNatClampNeg) → (vp_in (0 : Int32) (mN m3 q2) ∧ (∀ m9, m9 = sI m3 q2 (0 : Int32).toNatClampNeg (-1 : Int32) → (vp_in (1 : Int32) (mN m9 q2) ∧ (∀ m14, m14 = sI m9 q2 (1 : Int32).toNatClampNeg (-1 : Int32) → (vp_in (2 : Int32) (mN m14 q2) ∧ (∀ m19, m19 = sI m14 q2 (2 : Int32).toNatClampNeg (-1 : Int32) → (vp_in (3 : Int32) (mN m19 q2) ∧ (∀ m24, m24 = sI m19 q2 (3 : Int32).toNatClampNeg (-1 : Int32) → (mK m24 t = 13 ∧ (mR m24 t 1 = none ∧ (∀ m30, m30 = sR m24 t 1 (some q2) → (mK m30 (gz g + mC m30) = 0 ∧ (∀ q37 m38, q37 = gz g + mC m30 → m38 = nw m30 q37 15 ((4 : Int32).toNatClampNeg) ((4 : Int32).toNatClampNeg) → (mR m38 t 2 = none ∧ (∀ m47, m47 = sR m38 t 2 (some q37) → (mK m47 (gz g + mC m47) = 0 ∧ (∀ q56 m57, q56 = gz g + mC m47 → m57 = nw m47 q56 16 ((240 : Int32).toNatClampNeg) ((240 : Int32).toNatClampNeg) → (mR m57 t 3 = none ∧ (∀ m68, m68 = sR m57 t 3 (some q56) → (mK m68 (gz g + mC m68) = 0 ∧ (∀ q79 m80, q79 = gz g + mC m68 → m80 = nw m68 q79 16 ((60 : Int32).toNatClampNeg) ((60 : Int32).toNatClampNeg) → (mR m80 t 4 = none ∧ (∀ m93, m93 = sR m80 t 4 (some q79) → (∀ m105, m105 = sI m93 t 5 (1000 : Int32) → (∀ m117, m117 = sI m105 t 6 (100 : Int32) → (∀ m129, m129 = sI m117 t 7 (100 : Int32) → (∀ m141, m141 = sI m129 t 8 (100 : Int32) → (∀ m153, m153 = sI m141 t 9 (120 : Int32) → (∀ m165, m165 = sI m153 t 10 (10 : Int32) → (mK m165 (gz g + mC m165) = 0 ∧ (∀ q178 m179, q178 = gz g + mC m165 → m179 = nw m165 q178 15 ((3 : Int32).toNatClampNeg) ((3 : Int32).toNatClampNeg) → (vp_in (0 : Int32) (mN m179 q178) ∧ (∀ m194, m194 = sI m179 q178 (0 : Int32).toNatClampNeg (50 : Int32) → (vp_in (1 : Int32) (mN m194 q178) ∧ (∀ m208, m208 = sI m194 q178 (1 : Int32).toNatClampNeg (50 : Int32) → (vp_in (2 : Int32) (mN m208 q178) ∧ (∀ m222, m222 = sI m208 q178 (2 : Int32).toNatClampNeg (50 : Int32) → (mR m222 t 12 = none ∧ (∀ m236, m236 = sR m222 t 12 (some q178) → (mK m236 (gz g + mC m236) = 0 ∧ (∀ q251 m252, q251 = gz g + mC m236 → m252 = nw m236 q251 15 ((3 : Int32).toNatClampNeg) ((3 : Int32).toNatClampNeg) → (vp_in (0 : Int32) (mN m252 q251) ∧ (∀ m269, m269 = sI m252 q251 (0 : Int32).toNatClampNeg (10 : Int32) → (vp_in (1 : Int32) (mN m269 q251) ∧ (∀ m285, m285 = sI m269 q251 (1 : Int32).toNatClampNeg (10 : Int32) → (vp_in (2 : Int32) (mN m285 q251) ∧ (∀ m301, m301 = sI m285 q251 (2 : Int32).toNatClampNeg (10 : Int32) → (mR m301 t 13 = none ∧ (∀ m317, m317 = sR m301 t 13 (some q251) → (mK m317 (gz g + mC m317) = 0 ∧ (∀ q334 m335, q334 = gz g + mC m317 → m335 = nw m317 q334 14 ((300 : Int32).toNatClampNeg) ((300 : Int32).toNatClampNeg) → (mR m335 t 14 = none ∧ (∀ m354, m354 = sR m335 t 14 (some q334) → (∀ m372, m372 = sI m354 t 16 (-1 : Int32) → (mK m372 (gz g + mC m372) = 0 ∧ (∀ q391 m392, q391 = gz g + mC m372 → m392 = nw m372 q391 14 ((9300 : Int32).toNatClampNeg) ((9300 : Int32).toNatClampNeg) → (mR m392 t 17 = none ∧ (∀ m413, m413 = sR m392 t 17 (some q391) → (mK m413 (gz g + mC m413) = 0 ∧ (∀ q434 m435, q434 = gz g + mC m413 → m435 = nw m413 q434 15 ((31 : Int32).toNatClampNeg) ((31 : Int32).toNatClampNeg) → (mR m435 t 18 = none ∧ (∀ m458, m458 = sR m435 t 18 (some q434) → (mK m458 (gz g + mC m458) = 0 ∧ (∀ q481 m482, q481 = gz g + mC m458 → m482 = nw m458 q481 15 ((12 : Int32).toNatClampNeg) ((12 : Int32).toNatClampNeg) → (mR m482 t 20 = none ∧ (∀ m507, m507 = sR m482 t 20 (some q481) → (mK m507 (gz g + mC m507) = 0 ∧ (∀ q532 m533, q532 = gz g + mC m507 → m533 = nw m507 q532 15 ((12 : Int32).toNatClampNeg) ((12 : Int32).toNatClampNeg) → (mR m533 t 21 = none ∧ (∀ m560, m560 = sR m533 t 21 (some q532) → (mK m560 (gz g + mC m560) = 0 ∧ (∀ q587 m588, q587 = gz g + mC m560 → m588 = nw m560 q587 15 ((12 : Int32).toNatClampNeg) ((12 : Int32).toNatClampNeg) → (mR m588 t 22 = none ∧ (∀ m617, m617 = sR m588 t 22 (some q587) → (mK m617 (gz g + mC m617) = 0 ∧ (∀ q646 m647, q646 = gz g + mC m617 → m647 = nw m617 q646 15 ((360 : Int32).toNatClampNeg) ((360 : Int32).toNatClampNeg) → (mR m647 t 23 = none ∧ (∀ m678, m678 = sR m647 t 23 (some q646) → (mK m678 (gz g + mC m678) = 0 ∧ (∀ q709 m710, q709 = gz g + mC m678 → m710 = nw m678 q709 15 ((360 : Int32).toNatClampNeg) ((360 : Int32).toNatClampNeg) → (mR m710 t 24 = none ∧ (∀ m743, m743 = sR m710 t 24 (some q709) → (mK m743 (gz g + mC m743) = 0 ∧ (∀ q776 m777, q776 = gz g + mC m743 → m777 = nw m743 q776 15 ((30 : Int32).toNatClampNeg) ((30 : Int32).toNatClampNeg) → (mR m777 t 25 = none ∧ (∀ m812, m812 = sR m777 t 25 (some q776) → (mK m812 (gz g + mC m812) = 0 ∧ (∀ q847 m848, q847 = gz g + mC m812 → m848 = nw m812 q847 15 ((30 : Int32).toNatClampNeg) ((30 : Int32).toNatClampNeg) → (mR m848 t 26 = none ∧ (∀ m885, m885 = sR m848 t 26 (some q847) → (mK m885 (gz g + mC m885) = 0 ∧ (∀ q922 m923, q922 = gz g + mC m885 → m923 = nw m885 q922 17 ((360 : Int32).toNatClampNeg) ((360 : Int32).toNatClampNeg) → (mR m923 t 27 = none ∧ (∀ m962, m962 = sR m923 t 27 (some q922) → (mK m962 (gz g + mC m962) = 0 ∧ (∀ q1001 m1002, q1001 = gz g + mC m962 → m1002 = nw m962 q1001 17 ((360 : Int32).toNatClampNeg) ((360 : Int32).toNatClampNeg) → (mR m1002 t 28 = none ∧ (∀ m1043, m1043 = sR m1002 t 28 (some q1001) → (mK m1043 (gz g + mC m1043) = 0 ∧ (∀ q1084 m1085, q1084 = gz g + mC m1043 → m1085 = nw m1043 q1084 15 ((12 : Int32).toNatClampNeg) ((12 : Int32).toNatClampNeg) → (mR m1085 t 29 = none ∧ (∀ m1128, m1128 = sR m1085 t 29 (some q1084) → (mK m1128 (gz g + mC m1128) = 0 ∧ (∀ q1171 m1172, q1171 = gz g + mC m1128 → m1172 = nw m1128 q1171 15 ((12 : Int32).toNatClampNeg) ((12 : Int32).toNatClampNeg) → (mR m1172 t 30 = none ∧ (∀ m1217, m1217 = sR m1172 t 30 (some q1171) → (mK m1217 (gz g + mC m1217) = 0 ∧ (∀ q1262 m1263, q1262 = gz g + mC m1217 → m1263 = nw m1217 q1262 15 ((2 : Int32).toNatClampNeg) ((2 : Int32).toNatClampNeg) → (mR m1263 t 31 = none ∧ (∀ m1310, m1310 = sR m1263 t 31 (some q1262) → (mK m1310 (gz g + mC m1310) = 0 ∧ (∀ q1357 m1358, q1357 = gz g + mC m1310 → m1358 = nw m1310 q1357 15 ((2 : Int32).toNatClampNeg) ((2 : Int32).toNatClampNeg) → (vp_in (0 : Int32) (mN m1358 q1357) ∧ (∀ m1407, m1407 = sI m1358 q1357 (0 : Int32).toNatClampNeg (100 : Int32) → (vp_in (1 : Int32) (mN m1407 q1357) ∧ (∀ m1455, m1455 = sI m1407 q1357 (1 : Int32).toNatClampNeg (100 : Int32) → (mR m1455 t 32 = none ∧ (∀ m1503, m1503 = sR m1455 t 32 (some q1357) → (mK m1503 (gz g + mC m1503) = 0 ∧ (∀ q1552 m1553, q1552 = gz g + mC m1503 → m1553 = nw m1503 q1552 15 ((2 : Int32).toNatClampNeg) ((2 : Int32).toNatClampNeg) → (mR m1553 t 33 = none ∧ (∀ m1604, m1604 = sR m1553 t 33 (some q1552) → (mK m1604 (gz g + mC m1604) = 0 ∧ (∀ q1655 m1656, q1655 = gz g + mC m1604 → m1656 = nw m1604 q1655 15 ((2 : Int32).toNatClampNeg) ((2 : Int32).toNatClampNeg) → (mR m1656 t 34 = none ∧ (∀ m1709, m1709 = sR m1656 t 34 (some q1655) → (mK m1709 (gz g + mC m1709) = 0 ∧ (∀ q1762 m1763, q1762 = gz g + mC m1709 → m1763 = nw m1709 q1762 15 ((24 : Int32).toNatClampNeg) ((24 : Int32).toNatClampNeg) → (mR m1763 t 35 = none ∧ (∀ m1818, m1818 = sR m1763 t 35 (some q1762) → (mK m1818 (gz g + mC m1818) = 0 ∧ (∀ q1873 m1874, q1873 = gz g + mC m1818 → m1874 = nw m1818 q1873 15 ((72 : Int32).toNatClampNeg) ((72 : Int32).toNatClampNeg) → (mR m1874 t 36 = none ∧ (∀ m1931, m1931 = sR m1874 t 36 (some q1873) → (mK m1931 (gz g + mC m1931) = 0 ∧ (∀ q1988 m1989, q1988 = gz g + mC m1931 → m1989 = nw m1931 q1988 15 ((24 : Int32).toNatClampNeg) ((24 : Int32).toNatClampNeg) → (mR m1989 t 37 = none ∧ (∀ m2048, m2048 = sR m1989 t 37 (some q1988) → (mK m2048 (gz g + mC m2048) = 0 ∧ (∀ q2107 m2108, q2107 = gz g + mC m2048 → m2108 = nw m2048 q2107 16 ((24 : Int32).toNatClampNeg) ((24 : Int32).toNatClampNeg) → (mR m2108 t 38 = none ∧ (∀ m2169, m2169 = sR m2108 t 38 (some q2107) → (mK m2169 (gz g + mC m2169) = 0 ∧ (∀ q2230 m2231, q2230 = gz g + mC m2169 → m2231 = nw m2169 q2230 16 ((30 : Int32).toNatClampNeg) ((30 : Int32).toNatClampNeg) → (mR m2231 t 39 = none ∧ (∀ m2294, m2294 = sR m2231 t 39 (some q2230) → (mK m2294 (gz g + mC m2294) = 0 ∧ (∀ q2357 m2358, q2357 = gz g + mC m2294 → m2358 = nw m2294 q2357 15 ((800 : Int32).toNatClampNeg) ((800 : Int32).toNatClampNeg) → (mR m2358 t 40 = none ∧ (∀ m2423, m2423 = sR m2358 t 40 (some q2357) → (mK m2423 (gz g + mC m2423) = 0 ∧ (∀ q2488 m2489, q2488 = gz g + mC m2423 → m2489 = nw m2423 q2488 15 ((800 : Int32).toNatClampNeg) ((800 : Int32).toNatClampNeg) → (mR m2489 t 41 = none ∧ (∀ m2556, m2556 = sR m2489 t 41 (some q2488) → (mK m2556 (gz g + mC m2556) = 0 ∧ (∀ q2623 m2624, q2623 = gz g + mC m2556 → m2624 = nw m2556 q2623 15 ((800 : Int32).toNatClampNeg) ((800 : Int32).toNatClampNeg) → (mR m2624 t 42 = none ∧ (∀ m2693, m2693 = sR m2624 t 42 (some q2623) → (mK m2693 (gz g + mC m2693) = 0 ∧ (∀ q2762 m2763, q2762 = gz g + mC m2693 → m2763 = nw m2693 q2762 16 ((16 : Int32).toNatClampNeg) ((16 : Int32).toNatClampNeg) → (mR m2763 t 43 = none ∧ (∀ m2834, m2834 = sR m2763 t 43 (some q2762) → (mK m2834 (gz g + mC m2834) = 0 ∧ (∀ q2905 m2906, q2905 = gz g + mC m2834 → m2906 = nw m2834 q2905 15 ((800 : Int32).toNatClampNeg) ((800 : Int32).toNatClampNeg) → (mR m2906 t 44 = none ∧ (∀ m2979, m2979 = sR m2906 t 44 (some q2905) → (mK m2979 (gz g + mC m2979) = 0 ∧ (∀ q3052 m3053, q3052 = gz g + mC m2979 → m3053 = nw m2979 q3052 15 ((800 : Int32).toNatClampNeg) ((800 : Int32).toNatClampNeg) → (mR m3053 t 45 = none ∧ (∀ m3128, m3128 = sR m3053 t 45 (some q3052) → (mK m3128 (gz g + mC m3128) = 0 ∧ (∀ q3203 m3204, q3203 = gz g + mC m3128 → m3204 = nw m3128 q3203 16 ((800 : Int32).toNatClampNeg) ((800 : Int32).toNatClampNeg) → (mR m3204 t 46 = none ∧ (∀ m3281, m3281 = sR m3204 t 46 (some q3203) → (mK m3281 (gz g + mC m3281) = 0 ∧ (∀ q3358 m3359, q3358 = gz g + mC m3281 → m3359 = nw m3281 q3358 16 ((6 : Int32).toNatClampNeg) ((6 : Int32).toNatClampNeg) → (mR m3359 t 56 = none ∧ (∀ m3438, m3438 = sR m3359 t 56 (some q3358) → (mK m3438 (gz g + mC m3438) = 0 ∧ (∀ q3517 m3518, q3517 = gz g + mC m3438 → m3518 = nw m3438 q3517 16 ((61 : Int32).toNatClampNeg) ((61 : Int32).toNatClampNeg) → (mR m3518 t 65 = none ∧ (∀ m3599, m3599 = sR m3518 t 65 (some q3517) → (At g M_RF_init (lv + 1) 413 [(0, va_rf (some t)), (1, .int ((0 : Int32)))] [] m3599 (QV Q)))))))))))))))))))))))))))))))))))))))))))))))))))))))))))))))))))))))))))))))))))))))))))))))))))))))))))))))))))))))))))))))))))))))))))))))))))))))))))))))))))))))))))))))))))))))))) : CV g M_RF_init (lv + 1) [va_rf (some t)] m Q := by
  refine Call.of (by decide +kernel) (Nat.le_of_ble_eq_true rfl) ?_
  show At g M_RF_init (lv + 1) 0 [(0, va_rf (some t))] [] m (QV Q)
  refine at_aload_n (i := 0) 0 1 rfl (by decide +kernel) rfl ?_
  refine at_objInit 4 rfl (by decide +kernel) tw_1084 tw_91 tw_92 (by decide) ?_
  refine at_aload_n (i := 0) 0 5 rfl (by decide +kernel) rfl ?_
  refine at_iconst (n := 4) (4 : Int32) 6 rfl (by decide +kernel) (by decide +kernel) ?_
  obtain ⟨z1, h⟩ := h
  refine at_newaI 8 rfl z1 (by decide +kernel) tw_265 (by decide +kernel) (by decide +kernel) (fun q2 m3 e4 e5 => ?_)
  replace h := h q2 m3 e4 e5
  have x6 : Ext m m3 := by rw [e5, e4]; exact Ext.nw z1 _ _ _
  have k7 : mK m3 q2 = 15 := by rw [e5]; exact if_pos rfl
  refine at_dup 9 rfl (by decide +kernel) (va_rf_cat _) ?_
  refine at_iconst (n := 0) (0 : Int32) 10 rfl (by decide +kernel) (by decide +kernel) ?_
  refine at_iconst (n := (-1)) (-1 : Int32) 11 rfl (by decide +kernel) (by decide +kernel) ?_
  obtain ⟨v8, h⟩ := h
  refine at_iast 12 rfl (by decide +kernel) k7 v8 (fun m9 e10 => ?_)
  replace h := h m9 e10
  have x11 : Ext m3 m9 := by rw [e10]; exact Ext.sI _ _ _ _
  have k12 : mK m9 q2 = 15 := x11.k k7 (by decide)
  refine at_dup 13 rfl (by decide +kernel) (va_rf_cat _) ?_
  refine at_iconst (n := 1) (1 : Int32) 14 rfl (by decide +kernel) (by decide +kernel) ?_
  refine at_iconst (n := (-1)) (-1 : Int32) 15 rfl (by decide +kernel) (by decide +kernel) ?_
  obtain ⟨v13, h⟩ := h
  refine at_iast 16 rfl (by decide +kernel) k12 v13 (fun m14 e15 => ?_)
  replace h := h m14 e15
  have x16 : Ext m9 m14 := by rw [e15]; exact Ext.sI _ _ _ _
  have k17 : mK m14 q2 = 15 := x16.k k12 (by decide)
  refine at_dup 17 rfl (by decide +kernel) (va_rf_cat _) ?_
  refine at_iconst (n := 2) (2 : Int32) 18 rfl (by decide +kernel) (by decide +kernel) ?_
  refine at_iconst (n := (-1)) (-1 : Int32) 19 rfl (by decide +kernel) (by decide +kernel) ?_
  obtain ⟨v18, h⟩ := h
  refine at_iast 20 rfl (by decide +kernel) k17 v18 (fun m19 e20 => ?_)
  replace h := h m19 e20
  have x21 : Ext m14 m19 := by rw [e20]; exact Ext.sI _ _ _ _
  have k22 : mK m19 q2 = 15 := x21.k k17 (by decide)
  refine at_dup 21 rfl (by decide +kernel) (va_rf_cat _) ?_
  refine at_iconst (n := 3) (3 : Int32) 22 rfl (by decide +kernel) (by decide +kernel) ?_
  refine at_iconst (n := (-1)) (-1 : Int32) 23 rfl (by decide +kernel) (by decide +kernel) ?_
  obtain ⟨v23, h⟩ := h
  refine at_iast 24 rfl (by decide +kernel) k22 v23 (fun m24 e25 => ?_)
  replace h := h m24 e25
  have x26 : Ext m19 m24 := by rw [e25]; exact Ext.sI _ _ _ _
  have k27 : mK m24 q2 = 15 := x26.k k22 (by decide)
  obtain ⟨k28, h⟩ := h
  obtain ⟨n29, h⟩ := h
  refine at_putRF (index := 9) cok12 1 27 rfl (by decide +kernel) k28 n29 (by decide +kernel) tw_1086 rfl rfl rfl rfl (Or.inr ⟨_, rfl⟩) (fun m30 e31 => ?_)
  replace h := h m30 e31
  have x32 : Ext m24 m30 := by rw [e31]; exact Ext.sR _ (Or.inr n29)
  have k33 : mK m30 q2 = 15 := x32.k k27 (by decide)
  have k34 : mK m30 t = 13 := x32.k k28 (by decide)
  have e35 : mR m30 t 1 = some q2 := by rw [e31]; simp [mR, sR, up2]
  refine at_aload_n (i := 0) 0 28 rfl (by decide +kernel) rfl ?_
  refine at_iconst (n := 4) (4 : Int32) 29 rfl (by decide +kernel) (by decide +kernel) ?_
  obtain ⟨z36, h⟩ := h
  refine at_newaI 31 rfl z36 (by decide +kernel) tw_265 (by decide +kernel) (by decide +kernel) (fun q37 m38 e39 e40 => ?_)
  replace h := h q37 m38 e39 e40
  have x41 : Ext m30 m38 := by rw [e40, e39]; exact Ext.nw z36 _ _ _
  have k42 : mK m38 q2 = 15 := x41.k k33 (by decide)
  have k43 : mK m38 t = 13 := x41.k k34 (by decide)
  have e44 : mR m38 t 1 = some q2 := x41.r k34 (by decide) rfl e35
  have k45 : mK m38 q37 = 15 := by rw [e40]; exact if_pos rfl
  obtain ⟨n46, h⟩ := h
  refine at_putRF (index := 13) cok12 2 34 rfl (by decide +kernel) k43 n46 (by decide +kernel) tw_1087 rfl rfl rfl rfl (Or.inr ⟨_, rfl⟩) (fun m47 e48 => ?_)
  replace h := h m47 e48
  have x49 : Ext m38 m47 := by rw [e48]; exact Ext.sR _ (Or.inr n46)
  have k50 : mK m47 q2 = 15 := x49.k k42 (by decide)
  have k51 : mK m47 t = 13 := x49.k k43 (by decide)
  have k52 : mK m47 q37 = 15 := x49.k k45 (by decide)
  have e53 : mR m47 t 1 = some q2 := x49.r k43 (by decide) rfl e44
  have e54 : mR m47 t 2 = some q37 := by rw [e48]; simp [mR, sR, up2]
  refine at_aload_n (i := 0) 0 35 rfl (by decide +kernel) rfl ?_
  refine at_sipush (n := 240) (240 : Int32) 38 rfl (by decide +kernel) (by decide +kernel) ?_
  obtain ⟨z55, h⟩ := h
  refine at_newaJ 40 rfl z55 (by decide +kernel) tw_199 (by decide +kernel) (by decide +kernel) (fun q56 m57 e58 e59 => ?_)
  replace h := h q56 m57 e58 e59
  have x60 : Ext m47 m57 := by rw [e59, e58]; exact Ext.nw z55 _ _ _
  have k61 : mK m57 q2 = 15 := x60.k k50 (by decide)
  have k62 : mK m57 t = 13 := x60.k k51 (by decide)
  have k63 : mK m57 q37 = 15 := x60.k k52 (by decide)
  have e64 : mR m57 t 1 = some q2 := x60.r k51 (by decide) rfl e53
  have e65 : mR m57 t 2 = some q37 := x60.r k51 (by decide) rfl e54
  have k66 : mK m57 q56 = 16 := by rw [e59]; exact if_pos rfl
  obtain ⟨n67, h⟩ := h
  refine at_putRF (index := 16) cok12 3 43 rfl (by decide +kernel) k62 n67 (by decide +kernel) tw_1088 rfl rfl rfl rfl (Or.inr ⟨_, rfl⟩) (fun m68 e69 => ?_)
  replace h := h m68 e69
  have x70 : Ext m57 m68 := by rw [e69]; exact Ext.sR _ (Or.inr n67)
  have k71 : mK m68 q2 = 15 := x70.k k61 (by decide)
  have k72 : mK m68 t = 13 := x70.k k62 (by decide)
  have k73 : mK m68 q37 = 15 := x70.k k63 (by decide)
  have k74 : mK m68 q56 = 16 := x70.k k66 (by decide)
  have e75 : mR m68 t 1 = some q2 := x70.r k62 (by decide) rfl e64
  have e76 : mR m68 t 2 = some q37 := x70.r k62 (by decide) rfl e65
  have e77 : mR m68 t 3 = some q56 := by rw [e69]; simp [mR, sR, up2]
  refine at_aload_n (i := 0) 0 44 rfl (by decide +kernel) rfl ?_
  refine at_bipush (n := 60) (60 : Int32) 46 rfl (by decide +kernel) (by decide +kernel) ?_
  obtain ⟨z78, h⟩ := h
  refine at_newaJ 48 rfl z78 (by decide +kernel) tw_199 (by decide +kernel) (by decide +kernel) (fun q79 m80 e81 e82 => ?_)
  replace h := h q79 m80 e81 e82
  have x83 : Ext m68 m80 := by rw [e82, e81]; exact Ext.nw z78 _ _ _
  have k84 : mK m80 q2 = 15 := x83.k k71 (by decide)
  have k85 : mK m80 t = 13 := x83.k k72 (by decide)
  have k86 : mK m80 q37 = 15 := x83.k k73 (by decide)
  have k87 : mK m80 q56 = 16 := x83.k k74 (by decide)
  have e88 : mR m80 t 1 = some q2 := x83.r k72 (by decide) rfl e75
  have e89 : mR m80 t 2 = some q37 := x83.r k72 (by decide) rfl e76
  have e90 : mR m80 t 3 = some q56 := x83.r k72 (by decide) rfl e77
  have k91 : mK m80 q79 = 16 := by rw [e82]; exact if_pos rfl
  obtain ⟨n92, h⟩ := h
  refine at_putRF (index := 20) cok12 4 51 rfl (by decide +kernel) k85 n92 (by decide +kernel) tw_1089 rfl rfl rfl rfl (Or.inr ⟨_, rfl⟩) (fun m93 e94 => ?_)
  replace h := h m93 e94
  have x95 : Ext m80 m93 := by rw [e94]; exact Ext.sR _ (Or.inr n92)
  have k96 : mK m93 q2 = 15 := x95.k k84 (by decide)
  have k97 : mK m93 t = 13 := x95.k k85 (by decide)
  have k98 : mK m93 q37 = 15 := x95.k k86 (by decide)
  have k99 : mK m93 q56 = 16 := x95.k k87 (by decide)
  have k100 : mK m93 q79 = 16 := x95.k k91 (by decide)
  have e101 : mR m93 t 1 = some q2 := x95.r k85 (by decide) rfl e88
  have e102 : mR m93 t 2 = some q37 := x95.r k85 (by decide) rfl e89
  have e103 : mR m93 t 3 = some q56 := x95.r k85 (by decide) rfl e90
  have e104 : mR m93 t 4 = some q79 := by rw [e94]; simp [mR, sR, up2]
  refine at_aload_n (i := 0) 0 52 rfl (by decide +kernel) rfl ?_
  refine at_sipush (n := 1000) (1000 : Int32) 55 rfl (by decide +kernel) (by decide +kernel) ?_
  refine at_putI (index := 23) cok12 5 58 rfl (by decide +kernel) k97 (by decide +kernel) tw_1090 rfl rfl rfl (fun m105 e106 => ?_)
  replace h := h m105 e106
  have x107 : Ext m93 m105 := by rw [e106]; exact Ext.sI _ _ _ _
  have k108 : mK m105 q2 = 15 := x107.k k96 (by decide)
  have k109 : mK m105 t = 13 := x107.k k97 (by decide)
  have k110 : mK m105 q37 = 15 := x107.k k98 (by decide)
  have k111 : mK m105 q56 = 16 := x107.k k99 (by decide)
  have k112 : mK m105 q79 = 16 := x107.k k100 (by decide)
  have e113 : mR m105 t 1 = some q2 := x107.r k97 (by decide) rfl e101
  have e114 : mR m105 t 2 = some q37 := x107.r k97 (by decide) rfl e102
  have e115 : mR m105 t 3 = some q56 := x107.r k97 (by decide) rfl e103
  have e116 : mR m105 t 4 = some q79 := x107.r k97 (by decide) rfl e104
  refine at_aload_n (i := 0) 0 59 rfl (by decide +kernel) rfl ?_
  refine at_bipush (n := 100) (100 : Int32) 61 rfl (by decide +kernel) (by decide +kernel) ?_
  refine at_putI (index := 27) cok12 6 64 rfl (by decide +kernel) k109 (by decide +kernel) tw_1091 rfl rfl rfl (fun m117 e118 => ?_)
  replace h := h m117 e118
  have x119 : Ext m105 m117 := by rw [e118]; exact Ext.sI _ _ _ _
  have k120 : mK m117 q2 = 15 := x119.k k108 (by decide)
  have k121 : mK m117 t = 13 := x119.k k109 (by decide)
  have k122 : mK m117 q37 = 15 := x119.k k110 (by decide)
  have k123 : mK m117 q56 = 16 := x119.k k111 (by decide)
  have k124 : mK m117 q79 = 16 := x119.k k112 (by decide)
  have e125 : mR m117 t 1 = some q2 := x119.r k109 (by decide) rfl e113
  have e126 : mR m117 t 2 = some q37 := x119.r k109 (by decide) rfl e114
  have e127 : mR m117 t 3 = some q56 := x119.r k109 (by decide) rfl e115
  have e128 : mR m117 t 4 = some q79 := x119.r k109 (by decide) rfl e116
  refine at_aload_n (i := 0) 0 65 rfl (by decide +kernel) rfl ?_
  refine at_bipush (n := 100) (100 : Int32) 67 rfl (by decide +kernel) (by decide +kernel) ?_
  refine at_putI (index := 30) cok12 7 70 rfl (by decide +kernel) k121 (by decide +kernel) tw_1092 rfl rfl rfl (fun m129 e130 => ?_)
  replace h := h m129 e130
  have x131 : Ext m117 m129 := by rw [e130]; exact Ext.sI _ _ _ _
  have k132 : mK m129 q2 = 15 := x131.k k120 (by decide)
  have k133 : mK m129 t = 13 := x131.k k121 (by decide)
  have k134 : mK m129 q37 = 15 := x131.k k122 (by decide)
  have k135 : mK m129 q56 = 16 := x131.k k123 (by decide)
  have k136 : mK m129 q79 = 16 := x131.k k124 (by decide)
  have e137 : mR m129 t 1 = some q2 := x131.r k121 (by decide) rfl e125
  have e138 : mR m129 t 2 = some q37 := x131.r k121 (by decide) rfl e126
  have e139 : mR m129 t 3 = some q56 := x131.r k121 (by decide) rfl e127
  have e140 : mR m129 t 4 = some q79 := x131.r k121 (by decide) rfl e128
  refine at_aload_n (i := 0) 0 71 rfl (by decide +kernel) rfl ?_
  refine at_bipush (n := 100) (100 : Int32) 73 rfl (by decide +kernel) (by decide +kernel) ?_
  refine at_putI (index := 33) cok12 8 76 rfl (by decide +kernel) k133 (by decide +kernel) tw_1093 rfl rfl rfl (fun m141 e142 => ?_)
  replace h := h m141 e142
  have x143 : Ext m129 m141 := by rw [e142]; exact Ext.sI _ _ _ _
  have k144 : mK m141 q2 = 15 := x143.k k132 (by decide)
  have k145 : mK m141 t = 13 := x143.k k133 (by decide)
  have k146 : mK m141 q37 = 15 := x143.k k134 (by decide)
  have k147 : mK m141 q56 = 16 := x143.k k135 (by decide)
  have k148 : mK m141 q79 = 16 := x143.k k136 (by decide)
  have e149 : mR m141 t 1 = some q2 := x143.r k133 (by decide) rfl e137
  have e150 : mR m141 t 2 = some q37 := x143.r k133 (by decide) rfl e138
  have e151 : mR m141 t 3 = some q56 := x143.r k133 (by decide) rfl e139
  have e152 : mR m141 t 4 = some q79 := x143.r k133 (by decide) rfl e140
  refine at_aload_n (i := 0) 0 77 rfl (by decide +kernel) rfl ?_
  refine at_bipush (n := 120) (120 : Int32) 79 rfl (by decide +kernel) (by decide +kernel) ?_
  refine at_putI (index := 36) cok12 9 82 rfl (by decide +kernel) k145 (by decide +kernel) tw_1094 rfl rfl rfl (fun m153 e154 => ?_)
  replace h := h m153 e154
  have x155 : Ext m141 m153 := by rw [e154]; exact Ext.sI _ _ _ _
  have k156 : mK m153 q2 = 15 := x155.k k144 (by decide)
  have k157 : mK m153 t = 13 := x155.k k145 (by decide)
  have k158 : mK m153 q37 = 15 := x155.k k146 (by decide)
  have k159 : mK m153 q56 = 16 := x155.k k147 (by decide)
  have k160 : mK m153 q79 = 16 := x155.k k148 (by decide)
  have e161 : mR m153 t 1 = some q2 := x155.r k145 (by decide) rfl e149
  have e162 : mR m153 t 2 = some q37 := x155.r k145 (by decide) rfl e150
  have e163 : mR m153 t 3 = some q56 := x155.r k145 (by decide) rfl e151
  have e164 : mR m153 t 4 = some q79 := x155.r k145 (by decide) rfl e152
  refine at_aload_n (i := 0) 0 83 rfl (by decide +kernel) rfl ?_
  refine at_bipush (n := 10) (10 : Int32) 85 rfl (by decide +kernel) (by decide +kernel) ?_
  refine at_putI (index := 39) cok12 10 88 rfl (by decide +kernel) k157 (by decide +kernel) tw_1095 rfl rfl rfl (fun m165 e166 => ?_)
  replace h := h m165 e166
  have x167 : Ext m153 m165 := by rw [e166]; exact Ext.sI _ _ _ _
  have k168 : mK m165 q2 = 15 := x167.k k156 (by decide)
  have k169 : mK m165 t = 13 := x167.k k157 (by decide)
  have k170 : mK m165 q37 = 15 := x167.k k158 (by decide)
  have k171 : mK m165 q56 = 16 := x167.k k159 (by decide)
  have k172 : mK m165 q79 = 16 := x167.k k160 (by decide)
  have e173 : mR m165 t 1 = some q2 := x167.r k157 (by decide) rfl e161
  have e174 : mR m165 t 2 = some q37 := x167.r k157 (by decide) rfl e162
  have e175 : mR m165 t 3 = some q56 := x167.r k157 (by decide) rfl e163
  have e176 : mR m165 t 4 = some q79 := x167.r k157 (by decide) rfl e164
  refine at_aload_n (i := 0) 0 89 rfl (by decide +kernel) rfl ?_
  refine at_iconst (n := 3) (3 : Int32) 90 rfl (by decide +kernel) (by decide +kernel) ?_
  obtain ⟨z177, h⟩ := h
  refine at_newaI 92 rfl z177 (by decide +kernel) tw_265 (by decide +kernel) (by decide +kernel) (fun q178 m179 e180 e181 => ?_)
  replace h := h q178 m179 e180 e181
  have x182 : Ext m165 m179 := by rw [e181, e180]; exact Ext.nw z177 _ _ _
  have k183 : mK m179 q2 = 15 := x182.k k168 (by decide)
  have k184 : mK m179 t = 13 := x182.k k169 (by decide)
  have k185 : mK m179 q37 = 15 := x182.k k170 (by decide)
  have k186 : mK m179 q56 = 16 := x182.k k171 (by decide)
  have k187 : mK m179 q79 = 16 := x182.k k172 (by decide)
  have e188 : mR m179 t 1 = some q2 := x182.r k169 (by decide) rfl e173
  have e189 : mR m179 t 2 = some q37 := x182.r k169 (by decide) rfl e174
  have e190 : mR m179 t 3 = some q56 := x182.r k169 (by decide) rfl e175
  have e191 : mR m179 t 4 = some q79 := x182.r k169 (by decide) rfl e176
  have k192 : mK m179 q178 = 15 := by rw [e181]; exact if_pos rfl
  refine at_dup 93 rfl (by decide +kernel) (va_rf_cat _) ?_
  refine at_iconst (n := 0) (0 : Int32) 94 rfl (by decide +kernel) (by decide +kernel) ?_
  refine at_bipush (n := 50) (50 : Int32) 96 rfl (by decide +kernel) (by decide +kernel) ?_
  obtain ⟨v193, h⟩ := h
  refine at_iast 97 rfl (by decide +kernel) k192 v193 (fun m194 e195 => ?_)
  replace h := h m194 e195
  have x196 : Ext m179 m194 := by rw [e195]; exact Ext.sI _ _ _ _
  have k197 : mK m194 q2 = 15 := x196.k k183 (by decide)
  have k198 : mK m194 t = 13 := x196.k k184 (by decide)
  have k199 : mK m194 q37 = 15 := x196.k k185 (by decide)
  have k200 : mK m194 q56 = 16 := x196.k k186 (by decide)
  have k201 : mK m194 q79 = 16 := x196.k k187 (by decide)
  have k202 : mK m194 q178 = 15 := x196.k k192 (by decide)
  have e203 : mR m194 t 1 = some q2 := x196.r k184 (by decide) rfl e188
  have e204 : mR m194 t 2 = some q37 := x196.r k184 (by decide) rfl e189
  have e205 : mR m194 t 3 = some q56 := x196.r k184 (by decide) rfl e190
  have e206 : mR m194 t 4 = some q79 := x196.r k184 (by decide) rfl e191
  refine at_dup 98 rfl (by decide +kernel) (va_rf_cat _) ?_
  refine at_iconst (n := 1) (1 : Int32) 99 rfl (by decide +kernel) (by decide +kernel) ?_
  refine at_bipush (n := 50) (50 : Int32) 101 rfl (by decide +kernel) (by decide +kernel) ?_
  obtain ⟨v207, h⟩ := h
  refine at_iast 102 rfl (by decide +kernel) k202 v207 (fun m208 e209 => ?_)
  replace h := h m208 e209
  have x210 : Ext m194 m208 := by rw [e209]; exact Ext.sI _ _ _ _
  have k211 : mK m208 q2 = 15 := x210.k k197 (by decide)
  have k212 : mK m208 t = 13 := x210.k k198 (by decide)
  have k213 : mK m208 q37 = 15 := x210.k k199 (by decide)
  have k214 : mK m208 q56 = 16 := x210.k k200 (by decide)
  have k215 : mK m208 q79 = 16 := x210.k k201 (by decide)
  have k216 : mK m208 q178 = 15 := x210.k k202 (by decide)
  have e217 : mR m208 t 1 = some q2 := x210.r k198 (by decide) rfl e203
  have e218 : mR m208 t 2 = some q37 := x210.r k198 (by decide) rfl e204
  have e219 : mR m208 t 3 = some q56 := x210.r k198 (by decide) rfl e205
  have e220 : mR m208 t 4 = some q79 := x210.r k198 (by decide) rfl e206
  refine at_dup 103 rfl (by decide +kernel) (va_rf_cat _) ?_
  refine at_iconst (n := 2) (2 : Int32) 104 rfl (by decide +kernel) (by decide +kernel) ?_
  refine at_bipush (n := 50) (50 : Int32) 106 rfl (by decide +kernel) (by decide +kernel) ?_
  obtain ⟨v221, h⟩ := h
  refine at_iast 107 rfl (by decide +kernel) k216 v221 (fun m222 e223 => ?_)
  replace h := h m222 e223
  have x224 : Ext m208 m222 := by rw [e223]; exact Ext.sI _ _ _ _
  have k225 : mK m222 q2 = 15 := x224.k k211 (by decide)
  have k226 : mK m222 t = 13 := x224.k k212 (by decide)
  have k227 : mK m222 q37 = 15 := x224.k k213 (by decide)
  have k228 : mK m222 q56 = 16 := x224.k k214 (by decide)
  have k229 : mK m222 q79 = 16 := x224.k k215 (by decide)
  have k230 : mK m222 q178 = 15 := x224.k k216 (by decide)
  have e231 : mR m222 t 1 = some q2 := x224.r k212 (by decide) rfl e217
  have e232 : mR m222 t 2 = some q37 := x224.r k212 (by decide) rfl e218
  have e233 : mR m222 t 3 = some q56 := x224.r k212 (by decide) rfl e219
  have e234 : mR m222 t 4 = some q79 := x224.r k212 (by decide) rfl e220
  obtain ⟨n235, h⟩ := h
  refine at_putRF (index := 42) cok12 12 110 rfl (by decide +kernel) k226 n235 (by decide +kernel) tw_1097 rfl rfl rfl rfl (Or.inr ⟨_, rfl⟩) (fun m236 e237 => ?_)
  replace h := h m236 e237
  have x238 : Ext m222 m236 := by rw [e237]; exact Ext.sR _ (Or.inr n235)
  have k239 : mK m236 q2 = 15 := x238.k k225 (by decide)
  have k240 : mK m236 t = 13 := x238.k k226 (by decide)
  have k241 : mK m236 q37 = 15 := x238.k k227 (by decide)
  have k242 : mK m236 q56 = 16 := x238.k k228 (by decide)
  have k243 : mK m236 q79 = 16 := x238.k k229 (by decide)
  have k244 : mK m236 q178 = 15 := x238.k k230 (by decide)
  have e245 : mR m236 t 1 = some q2 := x238.r k226 (by decide) rfl e231
  have e246 : mR m236 t 2 = some q37 := x238.r k226 (by decide) rfl e232
  have e247 : mR m236 t 3 = some q56 := x238.r k226 (by decide) rfl e233
  have e248 : mR m236 t 4 = some q79 := x238.r k226 (by decide) rfl e234
  have e249 : mR m236 t 12 = some q178 := by rw [e237]; simp [mR, sR, up2]
  refine at_aload_n (i := 0) 0 111 rfl (by decide +kernel) rfl ?_
  refine at_iconst (n := 3) (3 : Int32) 112 rfl (by decide +kernel) (by decide +kernel) ?_
  obtain ⟨z250, h⟩ := h
  refine at_newaI 114 rfl z250 (by decide +kernel) tw_265 (by decide +kernel) (by decide +kernel) (fun q251 m252 e253 e254 => ?_)
  replace h := h q251 m252 e253 e254
  have x255 : Ext m236 m252 := by rw [e254, e253]; exact Ext.nw z250 _ _ _
  have k256 : mK m252 q2 = 15 := x255.k k239 (by decide)
  have k257 : mK m252 t = 13 := x255.k k240 (by decide)
  have k258 : mK m252 q37 = 15 := x255.k k241 (by decide)
  have k259 : mK m252 q56 = 16 := x255.k k242 (by decide)
  have k260 : mK m252 q79 = 16 := x255.k k243 (by decide)
  have k261 : mK m252 q178 = 15 := x255.k k244 (by decide)
  have e262 : mR m252 t 1 = some q2 := x255.r k240 (by decide) rfl e245
  have e263 : mR m252 t 2 = some q37 := x255.r k240 (by decide) rfl e246
  have e264 : mR m252 t 3 = some q56 := x255.r k240 (by decide) rfl e247
  have e265 : mR m252 t 4 = some q79 := x255.r k240 (by decide) rfl e248
  have e266 : mR m252 t 12 = some q178 := x255.r k240 (by decide) rfl e249
  have k267 : mK m252 q251 = 15 := by rw [e254]; exact if_pos rfl
  refine at_dup 115 rfl (by decide +kernel) (va_rf_cat _) ?_
  refine at_iconst (n := 0) (0 : Int32) 116 rfl (by decide +kernel) (by decide +kernel) ?_
  refine at_bipush (n := 10) (10 : Int32) 118 rfl (by decide +kernel) (by decide +kernel) ?_
  obtain ⟨v268, h⟩ := h
  refine at_iast 119 rfl (by decide +kernel) k267 v268 (fun m269 e270 => ?_)
  replace h := h m269 e270
  have x271 : Ext m252 m269 := by rw [e270]; exact Ext.sI _ _ _ _
  have k272 : mK m269 q2 = 15 := x271.k k256 (by decide)
  have k273 : mK m269 t = 13 := x271.k k257 (by decide)
  have k274 : mK m269 q37 = 15 := x271.k k258 (by decide)
  have k275 : mK m269 q56 = 16 := x271.k k259 (by decide)
  have k276 : mK m269 q79 = 16 := x271.k k260 (by decide)
  have k277 : mK m269 q178 = 15 := x271.k k261 (by decide)
  have k278 : mK m269 q251 = 15 := x271.k k267 (by decide)
  have e279 : mR m269 t 1 = some q2 := x271.r k257 (by decide) rfl e262
  have e280 : mR m269 t 2 = some q37 := x271.r k257 (by decide) rfl e263
  have e281 : mR m269 t 3 = some q56 := x271.r k257 (by decide) rfl e264
  have e282 : mR m269 t 4 = some q79 := x271.r k257 (by decide) rfl e265
  have e283 : mR m269 t 12 = some q178 := x271.r k257 (by decide) rfl e266
  refine at_dup 120 rfl (by decide +kernel) (va_rf_cat _) ?_
  refine at_iconst (n := 1) (1 : Int32) 121 rfl (by decide +kernel) (by decide +kernel) ?_
  refine at_bipush (n := 10) (10 : Int32) 123 rfl (by decide +kernel) (by decide +kernel) ?_
  obtain ⟨v284, h⟩ := h
  refine at_iast 124 rfl (by decide +kernel) k278 v284 (fun m285 e286 => ?_)
  replace h := h m285 e286
  have x287 : Ext m269 m285 := by rw [e286]; exact Ext.sI _ _ _ _
  have k288 : mK m285 q2 = 15 := x287.k k272 (by decide)
  have k289 : mK m285 t = 13 := x287.k k273 (by decide)
  have k290 : mK m285 q37 = 15 := x287.k k274 (by decide)
  have k291 : mK m285 q56 = 16 := x287.k k275 (by decide)
  have k292 : mK m285 q79 = 16 := x287.k k276 (by decide)
  have k293 : mK m285 q178 = 15 := x287.k k277 (by decide)
  have k294 : mK m285 q251 = 15 := x287.k k278 (by decide)
  have e295 : mR m285 t 1 = some q2 := x287.r k273 (by decide) rfl e279
  have e296 : mR m285 t 2 = some q37 := x287.r k273 (by decide) rfl e280
  have e297 : mR m285 t 3 = some q56 := x287.r k273 (by decide) rfl e281
  have e298 : mR m285 t 4 = some q79 := x287.r k273 (by decide) rfl e282
  have e299 : mR m285 t 12 = some q178 := x287.r k273 (by decide) rfl e283
  refine at_dup 125 rfl (by decide +kernel) (va_rf_cat _) ?_
  refine at_iconst (n := 2) (2 : Int32) 126 rfl (by decide +kernel) (by decide +kernel) ?_
  refine at_bipush (n := 10) (10 : Int32) 128 rfl (by decide +kernel) (by decide +kernel) ?_
  obtain ⟨v300, h⟩ := h
  refine at_iast 129 rfl (by decide +kernel) k294 v300 (fun m301 e302 => ?_)
  replace h := h m301 e302
  have x303 : Ext m285 m301 := by rw [e302]; exact Ext.sI _ _ _ _
  have k304 : mK m301 q2 = 15 := x303.k k288 (by decide)
  have k305 : mK m301 t = 13 := x303.k k289 (by decide)
  have k306 : mK m301 q37 = 15 := x303.k k290 (by decide)
  have k307 : mK m301 q56 = 16 := x303.k k291 (by decide)
  have k308 : mK m301 q79 = 16 := x303.k k292 (by decide)
  have k309 : mK m301 q178 = 15 := x303.k k293 (by decide)
  have k310 : mK m301 q251 = 15 := x303.k k294 (by decide)
  have e311 : mR m301 t 1 = some q2 := x303.r k289 (by decide) rfl e295
  have e312 : mR m301 t 2 = some q37 := x303.r k289 (by decide) rfl e296
  have e313 : mR m301 t 3 = some q56 := x303.r k289 (by decide) rfl e297
  have e314 : mR m301 t 4 = some q79 := x303.r k289 (by decide) rfl e298
  have e315 : mR m301 t 12 = some q178 := x303.r k289 (by decide) rfl e299
  obtain ⟨n316, h⟩ := h
  refine at_putRF (index := 45) cok12 13 132 rfl (by decide +kernel) k305 n316 (by decide +kernel) tw_1098 rfl rfl rfl rfl (Or.inr ⟨_, rfl⟩) (fun m317 e318 => ?_)
  replace h := h m317 e318
  have x319 : Ext m301 m317 := by rw [e318]; exact Ext.sR _ (Or.inr n316)
  have k320 : mK m317 q2 = 15 := x319.k k304 (by decide)
  have k321 : mK m317 t = 13 := x319.k k305 (by decide)
  have k322 : mK m317 q37 = 15 := x319.k k306 (by decide)
  have k323 : mK m317 q56 = 16 := x319.k k307 (by decide)
  have k324 : mK m317 q79 = 16 := x319.k k308 (by decide)
  have k325 : mK m317 q178 = 15 := x319.k k309 (by decide)
  have k326 : mK m317 q251 = 15 := x319.k k310 (by decide)
  have e327 : mR m317 t 1 = some q2 := x319.r k305 (by decide) rfl e311
  have e328 : mR m317 t 2 = some q37 := x319.r k305 (by decide) rfl e312
  have e329 : mR m317 t 3 = some q56 := x319.r k305 (by decide) rfl e313
  have e330 : mR m317 t 4 = some q79 := x319.r k305 (by decide) rfl e314
  have e331 : mR m317 t 12 = some q178 := x319.r k305 (by decide) rfl e315
  have e332 : mR m317 t 13 = some q251 := by rw [e318]; simp [mR, sR, up2]
  refine at_aload_n (i := 0) 0 133 rfl (by decide +kernel) rfl ?_
  refine at_sipush (n := 300) (300 : Int32) 136 rfl (by decide +kernel) (by decide +kernel) ?_
  obtain ⟨z333, h⟩ := h
  refine at_newaB 138 rfl z333 (by decide +kernel) tw_374 (by decide +kernel) (by decide +kernel) (fun q334 m335 e336 e337 => ?_)
  replace h := h q334 m335 e336 e337
  have x338 : Ext m317 m335 := by rw [e337, e336]; exact Ext.nw z333 _ _ _
  have k339 : mK m335 q2 = 15 := x338.k k320 (by decide)
  have k340 : mK m335 t = 13 := x338.k k321 (by decide)
  have k341 : mK m335 q37 = 15 := x338.k k322 (by decide)
  have k342 : mK m335 q56 = 16 := x338.k k323 (by decide)
  have k343 : mK m335 q79 = 16 := x338.k k324 (by decide)
  have k344 : mK m335 q178 = 15 := x338.k k325 (by decide)
  have k345 : mK m335 q251 = 15 := x338.k k326 (by decide)
  have e346 : mR m335 t 1 = some q2 := x338.r k321 (by decide) rfl e327
  have e347 : mR m335 t 2 = some q37 := x338.r k321 (by decide) rfl e328
  have e348 : mR m335 t 3 = some q56 := x338.r k321 (by decide) rfl e329
  have e349 : mR m335 t 4 = some q79 := x338.r k321 (by decide) rfl e330
  have e350 : mR m335 t 12 = some q178 := x338.r k321 (by decide) rfl e331
  have e351 : mR m335 t 13 = some q251 := x338.r k321 (by decide) rfl e332
  have k352 : mK m335 q334 = 14 := by rw [e337]; exact if_pos rfl
  obtain ⟨n353, h⟩ := h
  refine at_putRF (index := 48) cok12 14 141 rfl (by decide +kernel) k340 n353 (by decide +kernel) tw_1099 rfl rfl rfl rfl (Or.inr ⟨_, rfl⟩) (fun m354 e355 => ?_)
  replace h := h m354 e355
  have x356 : Ext m335 m354 := by rw [e355]; exact Ext.sR _ (Or.inr n353)
  have k357 : mK m354 q2 = 15 := x356.k k339 (by decide)
  have k358 : mK m354 t = 13 := x356.k k340 (by decide)
  have k359 : mK m354 q37 = 15 := x356.k k341 (by decide)
  have k360 : mK m354 q56 = 16 := x356.k k342 (by decide)
  have k361 : mK m354 q79 = 16 := x356.k k343 (by decide)
  have k362 : mK m354 q178 = 15 := x356.k k344 (by decide)
  have k363 : mK m354 q251 = 15 := x356.k k345 (by decide)
  have k364 : mK m354 q334 = 14 := x356.k k352 (by decide)
  have e365 : mR m354 t 1 = some q2 := x356.r k340 (by decide) rfl e346
  have e366 : mR m354 t 2 = some q37 := x356.r k340 (by decide) rfl e347
  have e367 : mR m354 t 3 = some q56 := x356.r k340 (by decide) rfl e348
  have e368 : mR m354 t 4 = some q79 := x356.r k340 (by decide) rfl e349
  have e369 : mR m354 t 12 = some q178 := x356.r k340 (by decide) rfl e350
  have e370 : mR m354 t 13 = some q251 := x356.r k340 (by decide) rfl e351
  have e371 : mR m354 t 14 = some q334 := by rw [e355]; simp [mR, sR, up2]
  refine at_aload_n (i := 0) 0 142 rfl (by decide +kernel) rfl ?_
  refine at_iconst (n := (-1)) (-1 : Int32) 143 rfl (by decide +kernel) (by decide +kernel) ?_
  refine at_putI (index := 52) cok12 16 146 rfl (by decide +kernel) k358 (by decide +kernel) tw_1101 rfl rfl rfl (fun m372 e373 => ?_)
  replace h := h m372 e373
  have x374 : Ext m354 m372 := by rw [e373]; exact Ext.sI _ _ _ _
  have k375 : mK m372 q2 = 15 := x374.k k357 (by decide)
  have k376 : mK m372 t = 13 := x374.k k358 (by decide)
  have k377 : mK m372 q37 = 15 := x374.k k359 (by decide)
  have k378 : mK m372 q56 = 16 := x374.k k360 (by decide)
  have k379 : mK m372 q79 = 16 := x374.k k361 (by decide)
  have k380 : mK m372 q178 = 15 := x374.k k362 (by decide)
  have k381 : mK m372 q251 = 15 := x374.k k363 (by decide)
  have k382 : mK m372 q334 = 14 := x374.k k364 (by decide)
  have e383 : mR m372 t 1 = some q2 := x374.r k358 (by decide) rfl e365
  have e384 : mR m372 t 2 = some q37 := x374.r k358 (by decide) rfl e366
  have e385 : mR m372 t 3 = some q56 := x374.r k358 (by decide) rfl e367
  have e386 : mR m372 t 4 = some q79 := x374.r k358 (by decide) rfl e368
  have e387 : mR m372 t 12 = some q178 := x374.r k358 (by decide) rfl e369
  have e388 : mR m372 t 13 = some q251 := x374.r k358 (by decide) rfl e370
  have e389 : mR m372 t 14 = some q334 := x374.r k358 (by decide) rfl e371
  refine at_aload_n (i := 0) 0 147 rfl (by decide +kernel) rfl ?_
  refine at_sipush (n := 9300) (9300 : Int32) 150 rfl (by decide +kernel) (by decide +kernel) ?_
  obtain ⟨z390, h⟩ := h
  refine at_newaB 152 rfl z390 (by decide +kernel) tw_374 (by decide +kernel) (by decide +kernel) (fun q391 m392 e393 e394 => ?_)
  replace h := h q391 m392 e393 e394
  have x395 : Ext m372 m392 := by rw [e394, e393]; exact Ext.nw z390 _ _ _
  have k396 : mK m392 q2 = 15 := x395.k k375 (by decide)
  have k397 : mK m392 t = 13 := x395.k k376 (by decide)
  have k398 : mK m392 q37 = 15 := x395.k k377 (by decide)
  have k399 : mK m392 q56 = 16 := x395.k k378 (by decide)
  have k400 : mK m392 q79 = 16 := x395.k k379 (by decide)
  have k401 : mK m392 q178 = 15 := x395.k k380 (by decide)
  have k402 : mK m392 q251 = 15 := x395.k k381 (by decide)
  have k403 : mK m392 q334 = 14 := x395.k k382 (by decide)
  have e404 : mR m392 t 1 = some q2 := x395.r k376 (by decide) rfl e383
  have e405 : mR m392 t 2 = some q37 := x395.r k376 (by decide) rfl e384
  have e406 : mR m392 t 3 = some q56 := x395.r k376 (by decide) rfl e385
  have e407 : mR m392 t 4 = some q79 := x395.r k376 (by decide) rfl e386
  have e408 : mR m392 t 12 = some q178 := x395.r k376 (by decide) rfl e387
  have e409 : mR m392 t 13 = some q251 := x395.r k376 (by decide) rfl e388
  have e410 : mR m392 t 14 = some q334 := x395.r k376 (by decide) rfl e389
  have k411 : mK m392 q391 = 14 := by rw [e394]; exact if_pos rfl
  obtain ⟨n412, h⟩ := h
  refine at_putRF (index := 55) cok12 17 155 rfl (by decide +kernel) k397 n412 (by decide +kernel) tw_1102 rfl rfl rfl rfl (Or.inr ⟨_, rfl⟩) (fun m413 e414 => ?_)
  replace h := h m413 e414
  have x415 : Ext m392 m413 := by rw [e414]; exact Ext.sR _ (Or.inr n412)
  have k416 : mK m413 q2 = 15 := x415.k k396 (by decide)
  have k417 : mK m413 t = 13 := x415.k k397 (by decide)
  have k418 : mK m413 q37 = 15 := x415.k k398 (by decide)
  have k419 : mK m413 q56 = 16 := x415.k k399 (by decide)
  have k420 : mK m413 q79 = 16 := x415.k k400 (by decide)
  have k421 : mK m413 q178 = 15 := x415.k k401 (by decide)
  have k422 : mK m413 q251 = 15 := x415.k k402 (by decide)
  have k423 : mK m413 q334 = 14 := x415.k k403 (by decide)
  have k424 : mK m413 q391 = 14 := x415.k k411 (by decide)
  have e425 : mR m413 t 1 = some q2 := x415.r k397 (by decide) rfl e404
  have e426 : mR m413 t 2 = some q37 := x415.r k397 (by decide) rfl e405
  have e427 : mR m413 t 3 = some q56 := x415.r k397 (by decide) rfl e406
  have e428 : mR m413 t 4 = some q79 := x415.r k397 (by decide) rfl e407
  have e429 : mR m413 t 12 = some q178 := x415.r k397 (by decide) rfl e408
  have e430 : mR m413 t 13 = some q251 := x415.r k397 (by decide) rfl e409
  have e431 : mR m413 t 14 = some q334 := x415.r k397 (by decide) rfl e410
  have e432 : mR m413 t 17 = some q391 := by rw [e414]; simp [mR, sR, up2]
  refine at_aload_n (i := 0) 0 156 rfl (by decide +kernel) rfl ?_
  refine at_bipush (n := 31) (31 : Int32) 158 rfl (by decide +kernel) (by decide +kernel) ?_
  obtain ⟨z433, h⟩ := h
  refine at_newaI 160 rfl z433 (by decide +kernel) tw_265 (by decide +kernel) (by decide +kernel) (fun q434 m435 e436 e437 => ?_)
  replace h := h q434 m435 e436 e437
  have x438 : Ext m413 m435 := by rw [e437, e436]; exact Ext.nw z433 _ _ _
  have k439 : mK m435 q2 = 15 := x438.k k416 (by decide)
  have k440 : mK m435 t = 13 := x438.k k417 (by decide)
  have k441 : mK m435 q37 = 15 := x438.k k418 (by decide)
  have k442 : mK m435 q56 = 16 := x438.k k419 (by decide)
  have k443 : mK m435 q79 = 16 := x438.k k420 (by decide)
  have k444 : mK m435 q178 = 15 := x438.k k421 (by decide)
  have k445 : mK m435 q251 = 15 := x438.k k422 (by decide)
  have k446 : mK m435 q334 = 14 := x438.k k423 (by decide)
  have k447 : mK m435 q391 = 14 := x438.k k424 (by decide)
  have e448 : mR m435 t 1 = some q2 := x438.r k417 (by decide) rfl e425
  have e449 : mR m435 t 2 = some q37 := x438.r k417 (by decide) rfl e426
  have e450 : mR m435 t 3 = some q56 := x438.r k417 (by decide) rfl e427
  have e451 : mR m435 t 4 = some q79 := x438.r k417 (by decide) rfl e428
  have e452 : mR m435 t 12 = some q178 := x438.r k417 (by decide) rfl e429
  have e453 : mR m435 t 13 = some q251 := x438.r k417 (by decide) rfl e430
  have e454 : mR m435 t 14 = some q334 := x438.r k417 (by decide) rfl e431
  have e455 : mR m435 t 17 = some q391 := x438.r k417 (by decide) rfl e432
  have k456 : mK m435 q434 = 15 := by rw [e437]; exact if_pos rfl
  obtain ⟨n457, h⟩ := h
  refine at_putRF (index := 58) cok12 18 163 rfl (by decide +kernel) k440 n457 (by decide +kernel) tw_1103 rfl rfl rfl rfl (Or.inr ⟨_, rfl⟩) (fun m458 e459 => ?_)
  replace h := h m458 e459
  have x460 : Ext m435 m458 := by rw [e459]; exact Ext.sR _ (Or.inr n457)
  have k461 : mK m458 q2 = 15 := x460.k k439 (by decide)
  have k462 : mK m458 t = 13 := x460.k k440 (by decide)
  have k463 : mK m458 q37 = 15 := x460.k k441 (by decide)
  have k464 : mK m458 q56 = 16 := x460.k k442 (by decide)
  have k465 : mK m458 q79 = 16 := x460.k k443 (by decide)
  have k466 : mK m458 q178 = 15 := x460.k k444 (by decide)
  have k467 : mK m458 q251 = 15 := x460.k k445 (by decide)
  have k468 : mK m458 q334 = 14 := x460.k k446 (by decide)
  have k469 : mK m458 q391 = 14 := x460.k k447 (by decide)
  have k470 : mK m458 q434 = 15 := x460.k k456 (by decide)
  have e471 : mR m458 t 1 = some q2 := x460.r k440 (by decide) rfl e448
  have e472 : mR m458 t 2 = some q37 := x460.r k440 (by decide) rfl e449
  have e473 : mR m458 t 3 = some q56 := x460.r k440 (by decide) rfl e450
  have e474 : mR m458 t 4 = some q79 := x460.r k440 (by decide) rfl e451
  have e475 : mR m458 t 12 = some q178 := x460.r k440 (by decide) rfl e452
  have e476 : mR m458 t 13 = some q251 := x460.r k440 (by decide) rfl e453
  have e477 : mR m458 t 14 = some q334 := x460.r k440 (by decide) rfl e454
  have e478 : mR m458 t 17 = some q391 := x460.r k440 (by decide) rfl e455
  have e479 : mR m458 t 18 = some q434 := by rw [e459]; simp [mR, sR, up2]
  refine at_aload_n (i := 0) 0 164 rfl (by decide +kernel) rfl ?_
  refine at_bipush (n := 12) (12 : Int32) 166 rfl (by decide +kernel) (by decide +kernel) ?_
  obtain ⟨z480, h⟩ := h
  refine at_newaI 168 rfl z480 (by decide +kernel) tw_265 (by decide +kernel) (by decide +kernel) (fun q481 m482 e483 e484 => ?_)
  replace h := h q481 m482 e483 e484
  have x485 : Ext m458 m482 := by rw [e484, e483]; exact Ext.nw z480 _ _ _
  have k486 : mK m482 q2 = 15 := x485.k k461 (by decide)
  have k487 : mK m482 t = 13 := x485.k k462 (by decide)
  have k488 : mK m482 q37 = 15 := x485.k k463 (by decide)
  have k489 : mK m482 q56 = 16 := x485.k k464 (by decide)
  have k490 : mK m482 q79 = 16 := x485.k k465 (by decide)
  have k491 : mK m482 q178 = 15 := x485.k k466 (by decide)
  have k492 : mK m482 q251 = 15 := x485.k k467 (by decide)
  have k493 : mK m482 q334 = 14 := x485.k k468 (by decide)
  have k494 : mK m482 q391 = 14 := x485.k k469 (by decide)
  have k495 : mK m482 q434 = 15 := x485.k k470 (by decide)
  have e496 : mR m482 t 1 = some q2 := x485.r k462 (by decide) rfl e471
  have e497 : mR m482 t 2 = some q37 := x485.r k462 (by decide) rfl e472
  have e498 : mR m482 t 3 = some q56 := x485.r k462 (by decide) rfl e473
  have e499 : mR m482 t 4 = some q79 := x485.r k462 (by decide) rfl e474
  have e500 : mR m482 t 12 = some q178 := x485.r k462 (by decide) rfl e475
  have e501 : mR m482 t 13 = some q251 := x485.r k462 (by decide) rfl e476
  have e502 : mR m482 t 14 = some q334 := x485.r k462 (by decide) rfl e477
  have e503 : mR m482 t 17 = some q391 := x485.r k462 (by decide) rfl e478
  have e504 : mR m482 t 18 = some q434 := x485.r k462 (by decide) rfl e479
  have k505 : mK m482 q481 = 15 := by rw [e484]; exact if_pos rfl
  obtain ⟨n506, h⟩ := h
  refine at_putRF (index := 61) cok12 20 171 rfl (by decide +kernel) k487 n506 (by decide +kernel) tw_1105 rfl rfl rfl rfl (Or.inr ⟨_, rfl⟩) (fun m507 e508 => ?_)
  replace h := h m507 e508
  have x509 : Ext m482 m507 := by rw [e508]; exact Ext.sR _ (Or.inr n506)
  have k510 : mK m507 q2 = 15 := x509.k k486 (by decide)
  have k511 : mK m507 t = 13 := x509.k k487 (by decide)
  have k512 : mK m507 q37 = 15 := x509.k k488 (by decide)
  have k513 : mK m507 q56 = 16 := x509.k k489 (by decide)
  have k514 : mK m507 q79 = 16 := x509.k k490 (by decide)
  have k515 : mK m507 q178 = 15 := x509.k k491 (by decide)
  have k516 : mK m507 q251 = 15 := x509.k k492 (by decide)
  have k517 : mK m507 q334 = 14 := x509.k k493 (by decide)
  have k518 : mK m507 q391 = 14 := x509.k k494 (by decide)
  have k519 : mK m507 q434 = 15 := x509.k k495 (by decide)
  have k520 : mK m507 q481 = 15 := x509.k k505 (by decide)
  have e521 : mR m507 t 1 = some q2 := x509.r k487 (by decide) rfl e496
  have e522 : mR m507 t 2 = some q37 := x509.r k487 (by decide) rfl e497
  have e523 : mR m507 t 3 = some q56 := x509.r k487 (by decide) rfl e498
  have e524 : mR m507 t 4 = some q79 := x509.r k487 (by decide) rfl e499
  have e525 : mR m507 t 12 = some q178 := x509.r k487 (by decide) rfl e500
  have e526 : mR m507 t 13 = some q251 := x509.r k487 (by decide) rfl e501
  have e527 : mR m507 t 14 = some q334 := x509.r k487 (by decide) rfl e502
  have e528 : mR m507 t 17 = some q391 := x509.r k487 (by decide) rfl e503
  have e529 : mR m507 t 18 = some q434 := x509.r k487 (by decide) rfl e504
  have e530 : mR m507 t 20 = some q481 := by rw [e508]; simp [mR, sR, up2]
  refine at_aload_n (i := 0) 0 172 rfl (by decide +kernel) rfl ?_
  refine at_bipush (n := 12) (12 : Int32) 174 rfl (by decide +kernel) (by decide +kernel) ?_
  obtain ⟨z531, h⟩ := h
  refine at_newaI 176 rfl z531 (by decide +kernel) tw_265 (by decide +kernel) (by decide +kernel) (fun q532 m533 e534 e535 => ?_)
  replace h := h q532 m533 e534 e535
  have x536 : Ext m507 m533 := by rw [e535, e534]; exact Ext.nw z531 _ _ _
  have k537 : mK m533 q2 = 15 := x536.k k510 (by decide)
  have k538 : mK m533 t = 13 := x536.k k511 (by decide)
  have k539 : mK m533 q37 = 15 := x536.k k512 (by decide)
  have k540 : mK m533 q56 = 16 := x536.k k513 (by decide)
  have k541 : mK m533 q79 = 16 := x536.k k514 (by decide)
  have k542 : mK m533 q178 = 15 := x536.k k515 (by decide)
  have k543 : mK m533 q251 = 15 := x536.k k516 (by decide)
  have k544 : mK m533 q334 = 14 := x536.k k517 (by decide)
  have k545 : mK m533 q391 = 14 := x536.k k518 (by decide)
  have k546 : mK m533 q434 = 15 := x536.k k519 (by decide)
  have k547 : mK m533 q481 = 15 := x536.k k520 (by decide)
  have e548 : mR m533 t 1 = some q2 := x536.r k511 (by decide) rfl e521
  have e549 : mR m533 t 2 = some q37 := x536.r k511 (by decide) rfl e522
  have e550 : mR m533 t 3 = some q56 := x536.r k511 (by decide) rfl e523
  have e551 : mR m533 t 4 = some q79 := x536.r k511 (by decide) rfl e524
  have e552 : mR m533 t 12 = some q178 := x536.r k511 (by decide) rfl e525
  have e553 : mR m533 t 13 = some q251 := x536.r k511 (by decide) rfl e526
  have e554 : mR m533 t 14 = some q334 := x536.r k511 (by decide) rfl e527
  have e555 : mR m533 t 17 = some q391 := x536.r k511 (by decide) rfl e528
  have e556 : mR m533 t 18 = some q434 := x536.r k511 (by decide) rfl e529
  have e557 : mR m533 t 20 = some q481 := x536.r k511 (by decide) rfl e530
  have k558 : mK m533 q532 = 15 := by rw [e535]; exact if_pos rfl
  obtain ⟨n559, h⟩ := h
  refine at_putRF (index := 64) cok12 21 179 rfl (by decide +kernel) k538 n559 (by decide +kernel) tw_1106 rfl rfl rfl rfl (Or.inr ⟨_, rfl⟩) (fun m560 e561 => ?_)
  replace h := h m560 e561
  have x562 : Ext m533 m560 := by rw [e561]; exact Ext.sR _ (Or.inr n559)
  have k563 : mK m560 q2 = 15 := x562.k k537 (by decide)
  have k564 : mK m560 t = 13 := x562.k k538 (by decide)
  have k565 : mK m560 q37 = 15 := x562.k k539 (by decide)
  have k566 : mK m560 q56 = 16 := x562.k k540 (by decide)
  have k567 : mK m560 q79 = 16 := x562.k k541 (by decide)
  have k568 : mK m560 q178 = 15 := x562.k k542 (by decide)
  have k569 : mK m560 q251 = 15 := x562.k k543 (by decide)
  have k570 : mK m560 q334 = 14 := x562.k k544 (by decide)
  have k571 : mK m560 q391 = 14 := x562.k k545 (by decide)
  have k572 : mK m560 q434 = 15 := x562.k k546 (by decide)
  have k573 : mK m560 q481 = 15 := x562.k k547 (by decide)
  have k574 : mK m560 q532 = 15 := x562.k k558 (by decide)
  have e575 : mR m560 t 1 = some q2 := x562.r k538 (by decide) rfl e548
  have e576 : mR m560 t 2 = some q37 := x562.r k538 (by decide) rfl e549
  have e577 : mR m560 t 3 = some q56 := x562.r k538 (by decide) rfl e550
  have e578 : mR m560 t 4 = some q79 := x562.r k538 (by decide) rfl e551
  have e579 : mR m560 t 12 = some q178 := x562.r k538 (by decide) rfl e552
  have e580 : mR m560 t 13 = some q251 := x562.r k538 (by decide) rfl e553
  have e581 : mR m560 t 14 = some q334 := x562.r k538 (by decide) rfl e554
  have e582 : mR m560 t 17 = some q391 := x562.r k538 (by decide) rfl e555
  have e583 : mR m560 t 18 = some q434 := x562.r k538 (by decide) rfl e556
  have e584 : mR m560 t 20 = some q481 := x562.r k538 (by decide) rfl e557
  have e585 : mR m560 t 21 = some q532 := by rw [e561]; simp [mR, sR, up2]
  refine at_aload_n (i := 0) 0 180 rfl (by decide +kernel) rfl ?_
  refine at_bipush (n := 12) (12 : Int32) 182 rfl (by decide +kernel) (by decide +kernel) ?_
  obtain ⟨z586, h⟩ := h
  refine at_newaI 184 rfl z586 (by decide +kernel) tw_265 (by decide +kernel) (by decide +kernel) (fun q587 m588 e589 e590 => ?_)
  replace h := h q587 m588 e589 e590
  have x591 : Ext m560 m588 := by rw [e590, e589]; exact Ext.nw z586 _ _ _
  have k592 : mK m588 q2 = 15 := x591.k k563 (by decide)
  have k593 : mK m588 t = 13 := x591.k k564 (by decide)
  have k594 : mK m588 q37 = 15 := x591.k k565 (by decide)
  have k595 : mK m588 q56 = 16 := x591.k k566 (by decide)
  have k596 : mK m588 q79 = 16 := x591.k k567 (by decide)
  have k597 : mK m588 q178 = 15 := x591.k k568 (by decide)
  have k598 : mK m588 q251 = 15 := x591.k k569 (by decide)
  have k599 : mK m588 q334 = 14 := x591.k k570 (by decide)
  have k600 : mK m588 q391 = 14 := x591.k k571 (by decide)
  have k601 : mK m588 q434 = 15 := x591.k k572 (by decide)
  have k602 : mK m588 q481 = 15 := x591.k k573 (by decide)
  have k603 : mK m588 q532 = 15 := x591.k k574 (by decide)
  have e604 : mR m588 t 1 = some q2 := x591.r k564 (by decide) rfl e575
  have e605 : mR m588 t 2 = some q37 := x591.r k564 (by decide) rfl e576
  have e606 : mR m588 t 3 = some q56 := x591.r k564 (by decide) rfl e577
  have e607 : mR m588 t 4 = some q79 := x591.r k564 (by decide) rfl e578
  have e608 : mR m588 t 12 = some q178 := x591.r k564 (by decide) rfl e579
  have e609 : mR m588 t 13 = some q251 := x591.r k564 (by decide) rfl e580
  have e610 : mR m588 t 14 = some q334 := x591.r k564 (by decide) rfl e581
  have e611 : mR m588 t 17 = some q391 := x591.r k564 (by decide) rfl e582
  have e612 : mR m588 t 18 = some q434 := x591.r k564 (by decide) rfl e583
  have e613 : mR m588 t 20 = some q481 := x591.r k564 (by decide) rfl e584
  have e614 : mR m588 t 21 = some q532 := x591.r k564 (by decide) rfl e585
  have k615 : mK m588 q587 = 15 := by rw [e590]; exact if_pos rfl
  obtain ⟨n616, h⟩ := h
  refine at_putRF (index := 67) cok12 22 187 rfl (by decide +kernel) k593 n616 (by decide +kernel) tw_1107 rfl rfl rfl rfl (Or.inr ⟨_, rfl⟩) (fun m617 e618 => ?_)
  replace h := h m617 e618
  have x619 : Ext m588 m617 := by rw [e618]; exact Ext.sR _ (Or.inr n616)
  have k620 : mK m617 q2 = 15 := x619.k k592 (by decide)
  have k621 : mK m617 t = 13 := x619.k k593 (by decide)
  have k622 : mK m617 q37 = 15 := x619.k k594 (by decide)
  have k623 : mK m617 q56 = 16 := x619.k k595 (by decide)
  have k624 : mK m617 q79 = 16 := x619.k k596 (by decide)
  have k625 : mK m617 q178 = 15 := x619.k k597 (by decide)
  have k626 : mK m617 q251 = 15 := x619.k k598 (by decide)
  have k627 : mK m617 q334 = 14 := x619.k k599 (by decide)
  have k628 : mK m617 q391 = 14 := x619.k k600 (by decide)
  have k629 : mK m617 q434 = 15 := x619.k k601 (by decide)
  have k630 : mK m617 q481 = 15 := x619.k k602 (by decide)
  have k631 : mK m617 q532 = 15 := x619.k k603 (by decide)
  have k632 : mK m617 q587 = 15 := x619.k k615 (by decide)
  have e633 : mR m617 t 1 = some q2 := x619.r k593 (by decide) rfl e604
  have e634 : mR m617 t 2 = some q37 := x619.r k593 (by decide) rfl e605
  have e635 : mR m617 t 3 = some q56 := x619.r k593 (by decide) rfl e606
  have e636 : mR m617 t 4 = some q79 := x619.r k593 (by decide) rfl e607
  have e637 : mR m617 t 12 = some q178 := x619.r k593 (by decide) rfl e608
  have e638 : mR m617 t 13 = some q251 := x619.r k593 (by decide) rfl e609
  have e639 : mR m617 t 14 = some q334 := x619.r k593 (by decide) rfl e610
  have e640 : mR m617 t 17 = some q391 := x619.r k593 (by decide) rfl e611
  have e641 : mR m617 t 18 = some q434 := x619.r k593 (by decide) rfl e612
  have e642 : mR m617 t 20 = some q481 := x619.r k593 (by decide) rfl e613
  have e643 : mR m617 t 21 = some q532 := x619.r k593 (by decide) rfl e614
  have e644 : mR m617 t 22 = some q587 := by rw [e618]; simp [mR, sR, up2]
  refine at_aload_n (i := 0) 0 188 rfl (by decide +kernel) rfl ?_
  refine at_sipush (n := 360) (360 : Int32) 191 rfl (by decide +kernel) (by decide +kernel) ?_
  obtain ⟨z645, h⟩ := h
  refine at_newaI 193 rfl z645 (by decide +kernel) tw_265 (by decide +kernel) (by decide +kernel) (fun q646 m647 e648 e649 => ?_)
  replace h := h q646 m647 e648 e649
  have x650 : Ext m617 m647 := by rw [e649, e648]; exact Ext.nw z645 _ _ _
  have k651 : mK m647 q2 = 15 := x650.k k620 (by decide)
  have k652 : mK m647 t = 13 := x650.k k621 (by decide)
  have k653 : mK m647 q37 = 15 := x650.k k622 (by decide)
  have k654 : mK m647 q56 = 16 := x650.k k623 (by decide)
  have k655 : mK m647 q79 = 16 := x650.k k624 (by decide)
  have k656 : mK m647 q178 = 15 := x650.k k625 (by decide)
  have k657 : mK m647 q251 = 15 := x650.k k626 (by decide)
  have k658 : mK m647 q334 = 14 := x650.k k627 (by decide)
  have k659 : mK m647 q391 = 14 := x650.k k628 (by decide)
  have k660 : mK m647 q434 = 15 := x650.k k629 (by decide)
  have k661 : mK m647 q481 = 15 := x650.k k630 (by decide)
  have k662 : mK m647 q532 = 15 := x650.k k631 (by decide)
  have k663 : mK m647 q587 = 15 := x650.k k632 (by decide)
  have e664 : mR m647 t 1 = some q2 := x650.r k621 (by decide) rfl e633
  have e665 : mR m647 t 2 = some q37 := x650.r k621 (by decide) rfl e634
  have e666 : mR m647 t 3 = some q56 := x650.r k621 (by decide) rfl e635
  have e667 : mR m647 t 4 = some q79 := x650.r k621 (by decide) rfl e636
  have e668 : mR m647 t 12 = some q178 := x650.r k621 (by decide) rfl e637
  have e669 : mR m647 t 13 = some q251 := x650.r k621 (by decide) rfl e638
  have e670 : mR m647 t 14 = some q334 := x650.r k621 (by decide) rfl e639
  have e671 : mR m647 t 17 = some q391 := x650.r k621 (by decide) rfl e640
  have e672 : mR m647 t 18 = some q434 := x650.r k621 (by decide) rfl e641
  have e673 : mR m647 t 20 = some q481 := x650.r k621 (by decide) rfl e642
  have e674 : mR m647 t 21 = some q532 := x650.r k621 (by decide) rfl e643
  have e675 : mR m647 t 22 = some q587 := x650.r k621 (by decide) rfl e644
  have k676 : mK m647 q646 = 15 := by rw [e649]; exact if_pos rfl
  obtain ⟨n677, h⟩ := h
  refine at_putRF (index := 70) cok12 23 196 rfl (by decide +kernel) k652 n677 (by decide +kernel) tw_1108 rfl rfl rfl rfl (Or.inr ⟨_, rfl⟩) (fun m678 e679 => ?_)
  replace h := h m678 e679
  have x680 : Ext m647 m678 := by rw [e679]; exact Ext.sR _ (Or.inr n677)
  have k681 : mK m678 q2 = 15 := x680.k k651 (by decide)
  have k682 : mK m678 t = 13 := x680.k k652 (by decide)
  have k683 : mK m678 q37 = 15 := x680.k k653 (by decide)
  have k684 : mK m678 q56 = 16 := x680.k k654 (by decide)
  have k685 : mK m678 q79 = 16 := x680.k k655 (by decide)
  have k686 : mK m678 q178 = 15 := x680.k k656 (by decide)
  have k687 : mK m678 q251 = 15 := x680.k k657 (by decide)
  have k688 : mK m678 q334 = 14 := x680.k k658 (by decide)
  have k689 : mK m678 q391 = 14 := x680.k k659 (by decide)
  have k690 : mK m678 q434 = 15 := x680.k k660 (by decide)
  have k691 : mK m678 q481 = 15 := x680.k k661 (by decide)
  have k692 : mK m678 q532 = 15 := x680.k k662 (by decide)
  have k693 : mK m678 q587 = 15 := x680.k k663 (by decide)
  have k694 : mK m678 q646 = 15 := x680.k k676 (by decide)
  have e695 : mR m678 t 1 = some q2 := x680.r k652 (by decide) rfl e664
  have e696 : mR m678 t 2 = some q37 := x680.r k652 (by decide) rfl e665
  have e697 : mR m678 t 3 = some q56 := x680.r k652 (by decide) rfl e666
  have e698 : mR m678 t 4 = some q79 := x680.r k652 (by decide) rfl e667
  have e699 : mR m678 t 12 = some q178 := x680.r k652 (by decide) rfl e668
  have e700 : mR m678 t 13 = some q251 := x680.r k652 (by decide) rfl e669
  have e701 : mR m678 t 14 = some q334 := x680.r k652 (by decide) rfl e670
  have e702 : mR m678 t 17 = some q391 := x680.r k652 (by decide) rfl e671
  have e703 : mR m678 t 18 = some q434 := x680.r k652 (by decide) rfl e672
  have e704 : mR m678 t 20 = some q481 := x680.r k652 (by decide) rfl e673
  have e705 : mR m678 t 21 = some q532 := x680.r k652 (by decide) rfl e674
  have e706 : mR m678 t 22 = some q587 := x680.r k652 (by decide) rfl e675
  have e707 : mR m678 t 23 = some q646 := by rw [e679]; simp [mR, sR, up2]
  refine at_aload_n (i := 0) 0 197 rfl (by decide +kernel) rfl ?_
  refine at_sipush (n := 360) (360 : Int32) 200 rfl (by decide +kernel) (by decide +kernel) ?_
  obtain ⟨z708, h⟩ := h
  refine at_newaI 202 rfl z708 (by decide +kernel) tw_265 (by decide +kernel) (by decide +kernel) (fun q709 m710 e711 e712 => ?_)
  replace h := h q709 m710 e711 e712
  have x713 : Ext m678 m710 := by rw [e712, e711]; exact Ext.nw z708 _ _ _
  have k714 : mK m710 q2 = 15 := x713.k k681 (by decide)
  have k715 : mK m710 t = 13 := x713.k k682 (by decide)
  have k716 : mK m710 q37 = 15 := x713.k k683 (by decide)
  have k717 : mK m710 q56 = 16 := x713.k k684 (by decide)
  have k718 : mK m710 q79 = 16 := x713.k k685 (by decide)
  have k719 : mK m710 q178 = 15 := x713.k k686 (by decide)
  have k720 : mK m710 q251 = 15 := x713.k k687 (by decide)
  have k721 : mK m710 q334 = 14 := x713.k k688 (by decide)
  have k722 : mK m710 q391 = 14 := x713.k k689 (by decide)
  have k723 : mK m710 q434 = 15 := x713.k k690 (by decide)
  have k724 : mK m710 q481 = 15 := x713.k k691 (by decide)
  have k725 : mK m710 q532 = 15 := x713.k k692 (by decide)
  have k726 : mK m710 q587 = 15 := x713.k k693 (by decide)
  have k727 : mK m710 q646 = 15 := x713.k k694 (by decide)
  have e728 : mR m710 t 1 = some q2 := x713.r k682 (by decide) rfl e695
  have e729 : mR m710 t 2 = some q37 := x713.r k682 (by decide) rfl e696
  have e730 : mR m710 t 3 = some q56 := x713.r k682 (by decide) rfl e697
  have e731 : mR m710 t 4 = some q79 := x713.r k682 (by decide) rfl e698
  have e732 : mR m710 t 12 = some q178 := x713.r k682 (by decide) rfl e699
  have e733 : mR m710 t 13 = some q251 := x713.r k682 (by decide) rfl e700
  have e734 : mR m710 t 14 = some q334 := x713.r k682 (by decide) rfl e701
  have e735 : mR m710 t 17 = some q391 := x713.r k682 (by decide) rfl e702
  have e736 : mR m710 t 18 = some q434 := x713.r k682 (by decide) rfl e703
  have e737 : mR m710 t 20 = some q481 := x713.r k682 (by decide) rfl e704
  have e738 : mR m710 t 21 = some q532 := x713.r k682 (by decide) rfl e705
  have e739 : mR m710 t 22 = some q587 := x713.r k682 (by decide) rfl e706
  have e740 : mR m710 t 23 = some q646 := x713.r k682 (by decide) rfl e707
  have k741 : mK m710 q709 = 15 := by rw [e712]; exact if_pos rfl
  obtain ⟨n742, h⟩ := h
  refine at_putRF (index := 73) cok12 24 205 rfl (by decide +kernel) k715 n742 (by decide +kernel) tw_1109 rfl rfl rfl rfl (Or.inr ⟨_, rfl⟩) (fun m743 e744 => ?_)
  replace h := h m743 e744
  have x745 : Ext m710 m743 := by rw [e744]; exact Ext.sR _ (Or.inr n742)
  have k746 : mK m743 q2 = 15 := x745.k k714 (by decide)
  have k747 : mK m743 t = 13 := x745.k k715 (by decide)
  have k748 : mK m743 q37 = 15 := x745.k k716 (by decide)
  have k749 : mK m743 q56 = 16 := x745.k k717 (by decide)
  have k750 : mK m743 q79 = 16 := x745.k k718 (by decide)
  have k751 : mK m743 q178 = 15 := x745.k k719 (by decide)
  have k752 : mK m743 q251 = 15 := x745.k k720 (by decide)
  have k753 : mK m743 q334 = 14 := x745.k k721 (by decide)
  have k754 : mK m743 q391 = 14 := x745.k k722 (by decide)
  have k755 : mK m743 q434 = 15 := x745.k k723 (by decide)
  have k756 : mK m743 q481 = 15 := x745.k k724 (by decide)
  have k757 : mK m743 q532 = 15 := x745.k k725 (by decide)
  have k758 : mK m743 q587 = 15 := x745.k k726 (by decide)
  have k759 : mK m743 q646 = 15 := x745.k k727 (by decide)
  have k760 : mK m743 q709 = 15 := x745.k k741 (by decide)
  have e761 : mR m743 t 1 = some q2 := x745.r k715 (by decide) rfl e728
  have e762 : mR m743 t 2 = some q37 := x745.r k715 (by decide) rfl e729
  have e763 : mR m743 t 3 = some q56 := x745.r k715 (by decide) rfl e730
  have e764 : mR m743 t 4 = some q79 := x745.r k715 (by decide) rfl e731
  have e765 : mR m743 t 12 = some q178 := x745.r k715 (by decide) rfl e732
  have e766 : mR m743 t 13 = some q251 := x745.r k715 (by decide) rfl e733
  have e767 : mR m743 t 14 = some q334 := x745.r k715 (by decide) rfl e734
  have e768 : mR m743 t 17 = some q391 := x745.r k715 (by decide) rfl e735
  have e769 : mR m743 t 18 = some q434 := x745.r k715 (by decide) rfl e736
  have e770 : mR m743 t 20 = some q481 := x745.r k715 (by decide) rfl e737
  have e771 : mR m743 t 21 = some q532 := x745.r k715 (by decide) rfl e738
  have e772 : mR m743 t 22 = some q587 := x745.r k715 (by decide) rfl e739
  have e773 : mR m743 t 23 = some q646 := x745.r k715 (by decide) rfl e740
  have e774 : mR m743 t 24 = some q709 := by rw [e744]; simp [mR, sR, up2]
  refine at_aload_n (i := 0) 0 206 rfl (by decide +kernel) rfl ?_
  refine at_bipush (n := 30) (30 : Int32) 208 rfl (by decide +kernel) (by decide +kernel) ?_
  obtain ⟨z775, h⟩ := h
  refine at_newaI 210 rfl z775 (by decide +kernel) tw_265 (by decide +kernel) (by decide +kernel) (fun q776 m777 e778 e779 => ?_)
  replace h := h q776 m777 e778 e779
  have x780 : Ext m743 m777 := by rw [e779, e778]; exact Ext.nw z775 _ _ _
  have k781 : mK m777 q2 = 15 := x780.k k746 (by decide)
  have k782 : mK m777 t = 13 := x780.k k747 (by decide)
  have k783 : mK m777 q37 = 15 := x780.k k748 (by decide)
  have k784 : mK m777 q56 = 16 := x780.k k749 (by decide)
  have k785 : mK m777 q79 = 16 := x780.k k750 (by decide)
  have k786 : mK m777 q178 = 15 := x780.k k751 (by decide)
  have k787 : mK m777 q251 = 15 := x780.k k752 (by decide)
  have k788 : mK m777 q334 = 14 := x780.k k753 (by decide)
  have k789 : mK m777 q391 = 14 := x780.k k754 (by decide)
  have k790 : mK m777 q434 = 15 := x780.k k755 (by decide)
  have k791 : mK m777 q481 = 15 := x780.k k756 (by decide)
  have k792 : mK m777 q532 = 15 := x780.k k757 (by decide)
  have k793 : mK m777 q587 = 15 := x780.k k758 (by decide)
  have k794 : mK m777 q646 = 15 := x780.k k759 (by decide)
  have k795 : mK m777 q709 = 15 := x780.k k760 (by decide)
  have e796 : mR m777 t 1 = some q2 := x780.r k747 (by decide) rfl e761
  have e797 : mR m777 t 2 = some q37 := x780.r k747 (by decide) rfl e762
  have e798 : mR m777 t 3 = some q56 := x780.r k747 (by decide) rfl e763
  have e799 : mR m777 t 4 = some q79 := x780.r k747 (by decide) rfl e764
  have e800 : mR m777 t 12 = some q178 := x780.r k747 (by decide) rfl e765
  have e801 : mR m777 t 13 = some q251 := x780.r k747 (by decide) rfl e766
  have e802 : mR m777 t 14 = some q334 := x780.r k747 (by decide) rfl e767
  have e803 : mR m777 t 17 = some q391 := x780.r k747 (by decide) rfl e768
  have e804 : mR m777 t 18 = some q434 := x780.r k747 (by decide) rfl e769
  have e805 : mR m777 t 20 = some q481 := x780.r k747 (by decide) rfl e770
  have e806 : mR m777 t 21 = some q532 := x780.r k747 (by decide) rfl e771
  have e807 : mR m777 t 22 = some q587 := x780.r k747 (by decide) rfl e772
  have e808 : mR m777 t 23 = some q646 := x780.r k747 (by decide) rfl e773
  have e809 : mR m777 t 24 = some q709 := x780.r k747 (by decide) rfl e774
  have k810 : mK m777 q776 = 15 := by rw [e779]; exact if_pos rfl
  obtain ⟨n811, h⟩ := h
  refine at_putRF (index := 76) cok12 25 213 rfl (by decide +kernel) k782 n811 (by decide +kernel) tw_1110 rfl rfl rfl rfl (Or.inr ⟨_, rfl⟩) (fun m812 e813 => ?_)
  replace h := h m812 e813
  have x814 : Ext m777 m812 := by rw [e813]; exact Ext.sR _ (Or.inr n811)
  have k815 : mK m812 q2 = 15 := x814.k k781 (by decide)
  have k816 : mK m812 t = 13 := x814.k k782 (by decide)
  have k817 : mK m812 q37 = 15 := x814.k k783 (by decide)
  have k818 : mK m812 q56 = 16 := x814.k k784 (by decide)
  have k819 : mK m812 q79 = 16 := x814.k k785 (by decide)
  have k820 : mK m812 q178 = 15 := x814.k k786 (by decide)
  have k821 : mK m812 q251 = 15 := x814.k k787 (by decide)
  have k822 : mK m812 q334 = 14 := x814.k k788 (by decide)
  have k823 : mK m812 q391 = 14 := x814.k k789 (by decide)
  have k824 : mK m812 q434 = 15 := x814.k k790 (by decide)
  have k825 : mK m812 q481 = 15 := x814.k k791 (by decide)
  have k826 : mK m812 q532 = 15 := x814.k k792 (by decide)
  have k827 : mK m812 q587 = 15 := x814.k k793 (by decide)
  have k828 : mK m812 q646 = 15 := x814.k k794 (by decide)
  have k829 : mK m812 q709 = 15 := x814.k k795 (by decide)
  have k830 : mK m812 q776 = 15 := x814.k k810 (by decide)
  have e831 : mR m812 t 1 = some q2 := x814.r k782 (by decide) rfl e796
  have e832 : mR m812 t 2 = some q37 := x814.r k782 (by decide) rfl e797
  have e833 : mR m812 t 3 = some q56 := x814.r k782 (by decide) rfl e798
  have e834 : mR m812 t 4 = some q79 := x814.r k782 (by decide) rfl e799
  have e835 : mR m812 t 12 = some q178 := x814.r k782 (by decide) rfl e800
  have e836 : mR m812 t 13 = some q251 := x814.r k782 (by decide) rfl e801
  have e837 : mR m812 t 14 = some q334 := x814.r k782 (by decide) rfl e802
  have e838 : mR m812 t 17 = some q391 := x814.r k782 (by decide) rfl e803
  have e839 : mR m812 t 18 = some q434 := x814.r k782 (by decide) rfl e804
  have e840 : mR m812 t 20 = some q481 := x814.r k782 (by decide) rfl e805
  have e841 : mR m812 t 21 = some q532 := x814.r k782 (by decide) rfl e806
  have e842 : mR m812 t 22 = some q587 := x814.r k782 (by decide) rfl e807
  have e843 : mR m812 t 23 = some q646 := x814.r k782 (by decide) rfl e808
  have e844 : mR m812 t 24 = some q709 := x814.r k782 (by decide) rfl e809
  have e845 : mR m812 t 25 = some q776 := by rw [e813]; simp [mR, sR, up2]
  refine at_aload_n (i := 0) 0 214 rfl (by decide +kernel) rfl ?_
  refine at_bipush (n := 30) (30 : Int32) 216 rfl (by decide +kernel) (by decide +kernel) ?_
  obtain ⟨z846, h⟩ := h
  refine at_newaI 218 rfl z846 (by decide +kernel) tw_265 (by decide +kernel) (by decide +kernel) (fun q847 m848 e849 e850 => ?_)
  replace h := h q847 m848 e849 e850
  have x851 : Ext m812 m848 := by rw [e850, e849]; exact Ext.nw z846 _ _ _
  have k852 : mK m848 q2 = 15 := x851.k k815 (by decide)
  have k853 : mK m848 t = 13 := x851.k k816 (by decide)
  have k854 : mK m848 q37 = 15 := x851.k k817 (by decide)
  have k855 : mK m848 q56 = 16 := x851.k k818 (by decide)
  have k856 : mK m848 q79 = 16 := x851.k k819 (by decide)
  have k857 : mK m848 q178 = 15 := x851.k k820 (by decide)
  have k858 : mK m848 q251 = 15 := x851.k k821 (by decide)
  have k859 : mK m848 q334 = 14 := x851.k k822 (by decide)
  have k860 : mK m848 q391 = 14 := x851.k k823 (by decide)
  have k861 : mK m848 q434 = 15 := x851.k k824 (by decide)
  have k862 : mK m848 q481 = 15 := x851.k k825 (by decide)
  have k863 : mK m848 q532 = 15 := x851.k k826 (by decide)
  have k864 : mK m848 q587 = 15 := x851.k k827 (by decide)
  have k865 : mK m848 q646 = 15 := x851.k k828 (by decide)
  have k866 : mK m848 q709 = 15 := x851.k k829 (by decide)
  have k867 : mK m848 q776 = 15 := x851.k k830 (by decide)
  have e868 : mR m848 t 1 = some q2 := x851.r k816 (by decide) rfl e831
  have e869 : mR m848 t 2 = some q37 := x851.r k816 (by decide) rfl e832
  have e870 : mR m848 t 3 = some q56 := x851.r k816 (by decide) rfl e833
  have e871 : mR m848 t 4 = some q79 := x851.r k816 (by decide) rfl e834
  have e872 : mR m848 t 12 = some q178 := x851.r k816 (by decide) rfl e835
  have e873 : mR m848 t 13 = some q251 := x851.r k816 (by decide) rfl e836
  have e874 : mR m848 t 14 = some q334 := x851.r k816 (by decide) rfl e837
  have e875 : mR m848 t 17 = some q391 := x851.r k816 (by decide) rfl e838
  have e876 : mR m848 t 18 = some q434 := x851.r k816 (by decide) rfl e839
  have e877 : mR m848 t 20 = some q481 := x851.r k816 (by decide) rfl e840
  have e878 : mR m848 t 21 = some q532 := x851.r k816 (by decide) rfl e841
  have e879 : mR m848 t 22 = some q587 := x851.r k816 (by decide) rfl e842
  have e880 : mR m848 t 23 = some q646 := x851.r k816 (by decide) rfl e843
  have e881 : mR m848 t 24 = some q709 := x851.r k816 (by decide) rfl e844
  have e882 : mR m848 t 25 = some q776 := x851.r k816 (by decide) rfl e845
  have k883 : mK m848 q847 = 15 := by rw [e850]; exact if_pos rfl
  obtain ⟨n884, h⟩ := h
  refine at_putRF (index := 79) cok12 26 221 rfl (by decide +kernel) k853 n884 (by decide +kernel) tw_1111 rfl rfl rfl rfl (Or.inr ⟨_, rfl⟩) (fun m885 e886 => ?_)
  replace h := h m885 e886
  have x887 : Ext m848 m885 := by rw [e886]; exact Ext.sR _ (Or.inr n884)
  have k888 : mK m885 q2 = 15 := x887.k k852 (by decide)
  have k889 : mK m885 t = 13 := x887.k k853 (by decide)
  have k890 : mK m885 q37 = 15 := x887.k k854 (by decide)
  have k891 : mK m885 q56 = 16 := x887.k k855 (by decide)
  have k892 : mK m885 q79 = 16 := x887.k k856 (by decide)
  have k893 : mK m885 q178 = 15 := x887.k k857 (by decide)
  have k894 : mK m885 q251 = 15 := x887.k k858 (by decide)
  have k895 : mK m885 q334 = 14 := x887.k k859 (by decide)
  have k896 : mK m885 q391 = 14 := x887.k k860 (by decide)
  have k897 : mK m885 q434 = 15 := x887.k k861 (by decide)
  have k898 : mK m885 q481 = 15 := x887.k k862 (by decide)
  have k899 : mK m885 q532 = 15 := x887.k k863 (by decide)
  have k900 : mK m885 q587 = 15 := x887.k k864 (by decide)
  have k901 : mK m885 q646 = 15 := x887.k k865 (by decide)
  have k902 : mK m885 q709 = 15 := x887.k k866 (by decide)
  have k903 : mK m885 q776 = 15 := x887.k k867 (by decide)
  have k904 : mK m885 q847 = 15 := x887.k k883 (by decide)
  have e905 : mR m885 t 1 = some q2 := x887.r k853 (by decide) rfl e868
  have e906 : mR m885 t 2 = some q37 := x887.r k853 (by decide) rfl e869
  have e907 : mR m885 t 3 = some q56 := x887.r k853 (by decide) rfl e870
  have e908 : mR m885 t 4 = some q79 := x887.r k853 (by decide) rfl e871
  have e909 : mR m885 t 12 = some q178 := x887.r k853 (by decide) rfl e872
  have e910 : mR m885 t 13 = some q251 := x887.r k853 (by decide) rfl e873
  have e911 : mR m885 t 14 = some q334 := x887.r k853 (by decide) rfl e874
  have e912 : mR m885 t 17 = some q391 := x887.r k853 (by decide) rfl e875
  have e913 : mR m885 t 18 = some q434 := x887.r k853 (by decide) rfl e876
  have e914 : mR m885 t 20 = some q481 := x887.r k853 (by decide) rfl e877
  have e915 : mR m885 t 21 = some q532 := x887.r k853 (by decide) rfl e878
  have e916 : mR m885 t 22 = some q587 := x887.r k853 (by decide) rfl e879
  have e917 : mR m885 t 23 = some q646 := x887.r k853 (by decide) rfl e880
  have e918 : mR m885 t 24 = some q709 := x887.r k853 (by decide) rfl e881
  have e919 : mR m885 t 25 = some q776 := x887.r k853 (by decide) rfl e882
  have e920 : mR m885 t 26 = some q847 := by rw [e886]; simp [mR, sR, up2]
  refine at_aload_n (i := 0) 0 222 rfl (by decide +kernel) rfl ?_
  refine at_sipush (n := 360) (360 : Int32) 225 rfl (by decide +kernel) (by decide +kernel) ?_
  obtain ⟨z921, h⟩ := h
  refine at_newaZ 227 rfl z921 (by decide +kernel) tw_200 (by decide +kernel) (by decide +kernel) (fun q922 m923 e924 e925 => ?_)
  replace h := h q922 m923 e924 e925
  have x926 : Ext m885 m923 := by rw [e925, e924]; exact Ext.nw z921 _ _ _
  have k927 : mK m923 q2 = 15 := x926.k k888 (by decide)
  have k928 : mK m923 t = 13 := x926.k k889 (by decide)
  have k929 : mK m923 q37 = 15 := x926.k k890 (by decide)
  have k930 : mK m923 q56 = 16 := x926.k k891 (by decide)
  have k931 : mK m923 q79 = 16 := x926.k k892 (by decide)
  have k932 : mK m923 q178 = 15 := x926.k k893 (by decide)
  have k933 : mK m923 q251 = 15 := x926.k k894 (by decide)
  have k934 : mK m923 q334 = 14 := x926.k k895 (by decide)
  have k935 : mK m923 q391 = 14 := x926.k k896 (by decide)
  have k936 : mK m923 q434 = 15 := x926.k k897 (by decide)
  have k937 : mK m923 q481 = 15 := x926.k k898 (by decide)
  have k938 : mK m923 q532 = 15 := x926.k k899 (by decide)
  have k939 : mK m923 q587 = 15 := x926.k k900 (by decide)
  have k940 : mK m923 q646 = 15 := x926.k k901 (by decide)
  have k941 : mK m923 q709 = 15 := x926.k k902 (by decide)
  have k942 : mK m923 q776 = 15 := x926.k k903 (by decide)
  have k943 : mK m923 q847 = 15 := x926.k k904 (by decide)
  have e944 : mR m923 t 1 = some q2 := x926.r k889 (by decide) rfl e905
  have e945 : mR m923 t 2 = some q37 := x926.r k889 (by decide) rfl e906
  have e946 : mR m923 t 3 = some q56 := x926.r k889 (by decide) rfl e907
  have e947 : mR m923 t 4 = some q79 := x926.r k889 (by decide) rfl e908
  have e948 : mR m923 t 12 = some q178 := x926.r k889 (by decide) rfl e909
  have e949 : mR m923 t 13 = some q251 := x926.r k889 (by decide) rfl e910
  have e950 : mR m923 t 14 = some q334 := x926.r k889 (by decide) rfl e911
  have e951 : mR m923 t 17 = some q391 := x926.r k889 (by decide) rfl e912
  have e952 : mR m923 t 18 = some q434 := x926.r k889 (by decide) rfl e913
  have e953 : mR m923 t 20 = some q481 := x926.r k889 (by decide) rfl e914
  have e954 : mR m923 t 21 = some q532 := x926.r k889 (by decide) rfl e915
  have e955 : mR m923 t 22 = some q587 := x926.r k889 (by decide) rfl e916
  have e956 : mR m923 t 23 = some q646 := x926.r k889 (by decide) rfl e917
  have e957 : mR m923 t 24 = some q709 := x926.r k889 (by decide) rfl e918
  have e958 : mR m923 t 25 = some q776 := x926.r k889 (by decide) rfl e919
  have e959 : mR m923 t 26 = some q847 := x926.r k889 (by decide) rfl e920
  have k960 : mK m923 q922 = 17 := by rw [e925]; exact if_pos rfl
  obtain ⟨n961, h⟩ := h
  refine at_putRF (index := 82) cok12 27 230 rfl (by decide +kernel) k928 n961 (by decide +kernel) tw_1112 rfl rfl rfl rfl (Or.inr ⟨_, rfl⟩) (fun m962 e963 => ?_)
  replace h := h m962 e963
  have x964 : Ext m923 m962 := by rw [e963]; exact Ext.sR _ (Or.inr n961)
  have k965 : mK m962 q2 = 15 := x964.k k927 (by decide)
  have k966 : mK m962 t = 13 := x964.k k928 (by decide)
  have k967 : mK m962 q37 = 15 := x964.k k929 (by decide)
  have k968 : mK m962 q56 = 16 := x964.k k930 (by decide)
  have k969 : mK m962 q79 = 16 := x964.k k931 (by decide)
  have k970 : mK m962 q178 = 15 := x964.k k932 (by decide)
  have k971 : mK m962 q251 = 15 := x964.k k933 (by decide)
  have k972 : mK m962 q334 = 14 := x964.k k934 (by decide)
  have k973 : mK m962 q391 = 14 := x964.k k935 (by decide)
  have k974 : mK m962 q434 = 15 := x964.k k936 (by decide)
  have k975 : mK m962 q481 = 15 := x964.k k937 (by decide)
  have k976 : mK m962 q532 = 15 := x964.k k938 (by decide)
  have k977 : mK m962 q587 = 15 := x964.k k939 (by decide)
  have k978 : mK m962 q646 = 15 := x964.k k940 (by decide)
  have k979 : mK m962 q709 = 15 := x964.k k941 (by decide)
  have k980 : mK m962 q776 = 15 := x964.k k942 (by decide)
  have k981 : mK m962 q847 = 15 := x964.k k943 (by decide)
  have k982 : mK m962 q922 = 17 := x964.k k960 (by decide)
  have e983 : mR m962 t 1 = some q2 := x964.r k928 (by decide) rfl e944
  have e984 : mR m962 t 2 = some q37 := x964.r k928 (by decide) rfl e945
  have e985 : mR m962 t 3 = some q56 := x964.r k928 (by decide) rfl e946
  have e986 : mR m962 t 4 = some q79 := x964.r k928 (by decide) rfl e947
  have e987 : mR m962 t 12 = some q178 := x964.r k928 (by decide) rfl e948
  have e988 : mR m962 t 13 = some q251 := x964.r k928 (by decide) rfl e949
  have e989 : mR m962 t 14 = some q334 := x964.r k928 (by decide) rfl e950
  have e990 : mR m962 t 17 = some q391 := x964.r k928 (by decide) rfl e951
  have e991 : mR m962 t 18 = some q434 := x964.r k928 (by decide) rfl e952
  have e992 : mR m962 t 20 = some q481 := x964.r k928 (by decide) rfl e953
  have e993 : mR m962 t 21 = some q532 := x964.r k928 (by decide) rfl e954
  have e994 : mR m962 t 22 = some q587 := x964.r k928 (by decide) rfl e955
  have e995 : mR m962 t 23 = some q646 := x964.r k928 (by decide) rfl e956
  have e996 : mR m962 t 24 = some q709 := x964.r k928 (by decide) rfl e957
  have e997 : mR m962 t 25 = some q776 := x964.r k928 (by decide) rfl e958
  have e998 : mR m962 t 26 = some q847 := x964.r k928 (by decide) rfl e959
  have e999 : mR m962 t 27 = some q922 := by rw [e963]; simp [mR, sR, up2]
  refine at_aload_n (i := 0) 0 231 rfl (by decide +kernel) rfl ?_
  refine at_sipush (n := 360) (360 : Int32) 234 rfl (by decide +kernel) (by decide +kernel) ?_
  obtain ⟨z1000, h⟩ := h
  refine at_newaZ 236 rfl z1000 (by decide +kernel) tw_200 (by decide +kernel) (by decide +kernel) (fun q1001 m1002 e1003 e1004 => ?_)
  replace h := h q1001 m1002 e1003 e1004
  have x1005 : Ext m962 m1002 := by rw [e1004, e1003]; exact Ext.nw z1000 _ _ _
  have k1006 : mK m1002 q2 = 15 := x1005.k k965 (by decide)
  have k1007 : mK m1002 t = 13 := x1005.k k966 (by decide)
  have k1008 : mK m1002 q37 = 15 := x1005.k k967 (by decide)
  have k1009 : mK m1002 q56 = 16 := x1005.k k968 (by decide)
  have k1010 : mK m1002 q79 = 16 := x1005.k k969 (by decide)
  have k1011 : mK m1002 q178 = 15 := x1005.k k970 (by decide)
  have k1012 : mK m1002 q251 = 15 := x1005.k k971 (by decide)
  have k1013 : mK m1002 q334 = 14 := x1005.k k972 (by decide)
  have k1014 : mK m1002 q391 = 14 := x1005.k k973 (by decide)
  have k1015 : mK m1002 q434 = 15 := x1005.k k974 (by decide)
  have k1016 : mK m1002 q481 = 15 := x1005.k k975 (by decide)
  have k1017 : mK m1002 q532 = 15 := x1005.k k976 (by decide)
  have k1018 : mK m1002 q587 = 15 := x1005.k k977 (by decide)
  have k1019 : mK m1002 q646 = 15 := x1005.k k978 (by decide)
  have k1020 : mK m1002 q709 = 15 := x1005.k k979 (by decide)
  have k1021 : mK m1002 q776 = 15 := x1005.k k980 (by decide)
  have k1022 : mK m1002 q847 = 15 := x1005.k k981 (by decide)
  have k1023 : mK m1002 q922 = 17 := x1005.k k982 (by decide)
  have e1024 : mR m1002 t 1 = some q2 := x1005.r k966 (by decide) rfl e983
  have e1025 : mR m1002 t 2 = some q37 := x1005.r k966 (by decide) rfl e984
  have e1026 : mR m1002 t 3 = some q56 := x1005.r k966 (by decide) rfl e985
  have e1027 : mR m1002 t 4 = some q79 := x1005.r k966 (by decide) rfl e986
  have e1028 : mR m1002 t 12 = some q178 := x1005.r k966 (by decide) rfl e987
  have e1029 : mR m1002 t 13 = some q251 := x1005.r k966 (by decide) rfl e988
  have e1030 : mR m1002 t 14 = some q334 := x1005.r k966 (by decide) rfl e989
  have e1031 : mR m1002 t 17 = some q391 := x1005.r k966 (by decide) rfl e990
  have e1032 : mR m1002 t 18 = some q434 := x1005.r k966 (by decide) rfl e991
  have e1033 : mR m1002 t 20 = some q481 := x1005.r k966 (by decide) rfl e992
  have e1034 : mR m1002 t 21 = some q532 := x1005.r k966 (by decide) rfl e993
  have e1035 : mR m1002 t 22 = some q587 := x1005.r k966 (by decide) rfl e994
  have e1036 : mR m1002 t 23 = some q646 := x1005.r k966 (by decide) rfl e995
  have e1037 : mR m1002 t 24 = some q709 := x1005.r k966 (by decide) rfl e996
  have e1038 : mR m1002 t 25 = some q776 := x1005.r k966 (by decide) rfl e997
  have e1039 : mR m1002 t 26 = some q847 := x1005.r k966 (by decide) rfl e998
  have e1040 : mR m1002 t 27 = some q922 := x1005.r k966 (by decide) rfl e999
  have k1041 : mK m1002 q1001 = 17 := by rw [e1004]; exact if_pos rfl
  obtain ⟨n1042, h⟩ := h
  refine at_putRF (index := 86) cok12 28 239 rfl (by decide +kernel) k1007 n1042 (by decide +kernel) tw_1113 rfl rfl rfl rfl (Or.inr ⟨_, rfl⟩) (fun m1043 e1044 => ?_)
  replace h := h m1043 e1044
  have x1045 : Ext m1002 m1043 := by rw [e1044]; exact Ext.sR _ (Or.inr n1042)
  have k1046 : mK m1043 q2 = 15 := x1045.k k1006 (by decide)
  have k1047 : mK m1043 t = 13 := x1045.k k1007 (by decide)
  have k1048 : mK m1043 q37 = 15 := x1045.k k1008 (by decide)
  have k1049 : mK m1043 q56 = 16 := x1045.k k1009 (by decide)
  have k1050 : mK m1043 q79 = 16 := x1045.k k1010 (by decide)
  have k1051 : mK m1043 q178 = 15 := x1045.k k1011 (by decide)
  have k1052 : mK m1043 q251 = 15 := x1045.k k1012 (by decide)
  have k1053 : mK m1043 q334 = 14 := x1045.k k1013 (by decide)
  have k1054 : mK m1043 q391 = 14 := x1045.k k1014 (by decide)
  have k1055 : mK m1043 q434 = 15 := x1045.k k1015 (by decide)
  have k1056 : mK m1043 q481 = 15 := x1045.k k1016 (by decide)
  have k1057 : mK m1043 q532 = 15 := x1045.k k1017 (by decide)
  have k1058 : mK m1043 q587 = 15 := x1045.k k1018 (by decide)
  have k1059 : mK m1043 q646 = 15 := x1045.k k1019 (by decide)
  have k1060 : mK m1043 q709 = 15 := x1045.k k1020 (by decide)
  have k1061 : mK m1043 q776 = 15 := x1045.k k1021 (by decide)
  have k1062 : mK m1043 q847 = 15 := x1045.k k1022 (by decide)
  have k1063 : mK m1043 q922 = 17 := x1045.k k1023 (by decide)
  have k1064 : mK m1043 q1001 = 17 := x1045.k k1041 (by decide)
  have e1065 : mR m1043 t 1 = some q2 := x1045.r k1007 (by decide) rfl e1024
  have e1066 : mR m1043 t 2 = some q37 := x1045.r k1007 (by decide) rfl e1025
  have e1067 : mR m1043 t 3 = some q56 := x1045.r k1007 (by decide) rfl e1026
  have e1068 : mR m1043 t 4 = some q79 := x1045.r k1007 (by decide) rfl e1027
  have e1069 : mR m1043 t 12 = some q178 := x1045.r k1007 (by decide) rfl e1028
  have e1070 : mR m1043 t 13 = some q251 := x1045.r k1007 (by decide) rfl e1029
  have e1071 : mR m1043 t 14 = some q334 := x1045.r k1007 (by decide) rfl e1030
  have e1072 : mR m1043 t 17 = some q391 := x1045.r k1007 (by decide) rfl e1031
  have e1073 : mR m1043 t 18 = some q434 := x1045.r k1007 (by decide) rfl e1032
  have e1074 : mR m1043 t 20 = some q481 := x1045.r k1007 (by decide) rfl e1033
  have e1075 : mR m1043 t 21 = some q532 := x1045.r k1007 (by decide) rfl e1034
  have e1076 : mR m1043 t 22 = some q587 := x1045.r k1007 (by decide) rfl e1035
  have e1077 : mR m1043 t 23 = some q646 := x1045.r k1007 (by decide) rfl e1036
  have e1078 : mR m1043 t 24 = some q709 := x1045.r k1007 (by decide) rfl e1037
  have e1079 : mR m1043 t 25 = some q776 := x1045.r k1007 (by decide) rfl e1038
  have e1080 : mR m1043 t 26 = some q847 := x1045.r k1007 (by decide) rfl e1039
  have e1081 : mR m1043 t 27 = some q922 := x1045.r k1007 (by decide) rfl e1040
  have e1082 : mR m1043 t 28 = some q1001 := by rw [e1044]; simp [mR, sR, up2]
  refine at_aload_n (i := 0) 0 240 rfl (by decide +kernel) rfl ?_
  refine at_bipush (n := 12) (12 : Int32) 242 rfl (by decide +kernel) (by decide +kernel) ?_
  obtain ⟨z1083, h⟩ := h
  refine at_newaI 244 rfl z1083 (by decide +kernel) tw_265 (by decide +kernel) (by decide +kernel) (fun q1084 m1085 e1086 e1087 => ?_)
  replace h := h q1084 m1085 e1086 e1087
  have x1088 : Ext m1043 m1085 := by rw [e1087, e1086]; exact Ext.nw z1083 _ _ _
  have k1089 : mK m1085 q2 = 15 := x1088.k k1046 (by decide)
  have k1090 : mK m1085 t = 13 := x1088.k k1047 (by decide)
  have k1091 : mK m1085 q37 = 15 := x1088.k k1048 (by decide)
  have k1092 : mK m1085 q56 = 16 := x1088.k k1049 (by decide)
  have k1093 : mK m1085 q79 = 16 := x1088.k k1050 (by decide)
  have k1094 : mK m1085 q178 = 15 := x1088.k k1051 (by decide)
  have k1095 : mK m1085 q251 = 15 := x1088.k k1052 (by decide)
  have k1096 : mK m1085 q334 = 14 := x1088.k k1053 (by decide)
  have k1097 : mK m1085 q391 = 14 := x1088.k k1054 (by decide)
  have k1098 : mK m1085 q434 = 15 := x1088.k k1055 (by decide)
  have k1099 : mK m1085 q481 = 15 := x1088.k k1056 (by decide)
  have k1100 : mK m1085 q532 = 15 := x1088.k k1057 (by decide)
  have k1101 : mK m1085 q587 = 15 := x1088.k k1058 (by decide)
  have k1102 : mK m1085 q646 = 15 := x1088.k k1059 (by decide)
  have k1103 : mK m1085 q709 = 15 := x1088.k k1060 (by decide)
  have k1104 : mK m1085 q776 = 15 := x1088.k k1061 (by decide)
  have k1105 : mK m1085 q847 = 15 := x1088.k k1062 (by decide)
  have k1106 : mK m1085 q922 = 17 := x1088.k k1063 (by decide)
  have k1107 : mK m1085 q1001 = 17 := x1088.k k1064 (by decide)
  have e1108 : mR m1085 t 1 = some q2 := x1088.r k1047 (by decide) rfl e1065
  have e1109 : mR m1085 t 2 = some q37 := x1088.r k1047 (by decide) rfl e1066
  have e1110 : mR m1085 t 3 = some q56 := x1088.r k1047 (by decide) rfl e1067
  have e1111 : mR m1085 t 4 = some q79 := x1088.r k1047 (by decide) rfl e1068
  have e1112 : mR m1085 t 12 = some q178 := x1088.r k1047 (by decide) rfl e1069
  have e1113 : mR m1085 t 13 = some q251 := x1088.r k1047 (by decide) rfl e1070
  have e1114 : mR m1085 t 14 = some q334 := x1088.r k1047 (by decide) rfl e1071
  have e1115 : mR m1085 t 17 = some q391 := x1088.r k1047 (by decide) rfl e1072
  have e1116 : mR m1085 t 18 = some q434 := x1088.r k1047 (by decide) rfl e1073
  have e1117 : mR m1085 t 20 = some q481 := x1088.r k1047 (by decide) rfl e1074
  have e1118 : mR m1085 t 21 = some q532 := x1088.r k1047 (by decide) rfl e1075
  have e1119 : mR m1085 t 22 = some q587 := x1088.r k1047 (by decide) rfl e1076
  have e1120 : mR m1085 t 23 = some q646 := x1088.r k1047 (by decide) rfl e1077
  have e1121 : mR m1085 t 24 = some q709 := x1088.r k1047 (by decide) rfl e1078
  have e1122 : mR m1085 t 25 = some q776 := x1088.r k1047 (by decide) rfl e1079
  have e1123 : mR m1085 t 26 = some q847 := x1088.r k1047 (by decide) rfl e1080
  have e1124 : mR m1085 t 27 = some q922 := x1088.r k1047 (by decide) rfl e1081
  have e1125 : mR m1085 t 28 = some q1001 := x1088.r k1047 (by decide) rfl e1082
  have k1126 : mK m1085 q1084 = 15 := by rw [e1087]; exact if_pos rfl
  obtain ⟨n1127, h⟩ := h
  refine at_putRF (index := 89) cok12 29 247 rfl (by decide +kernel) k1090 n1127 (by decide +kernel) tw_1114 rfl rfl rfl rfl (Or.inr ⟨_, rfl⟩) (fun m1128 e1129 => ?_)
  replace h := h m1128 e1129
  have x1130 : Ext m1085 m1128 := by rw [e1129]; exact Ext.sR _ (Or.inr n1127)
  have k1131 : mK m1128 q2 = 15 := x1130.k k1089 (by decide)
  have k1132 : mK m1128 t = 13 := x1130.k k1090 (by decide)
  have k1133 : mK m1128 q37 = 15 := x1130.k k1091 (by decide)
  have k1134 : mK m1128 q56 = 16 := x1130.k k1092 (by decide)
  have k1135 : mK m1128 q79 = 16 := x1130.k k1093 (by decide)
  have k1136 : mK m1128 q178 = 15 := x1130.k k1094 (by decide)
  have k1137 : mK m1128 q251 = 15 := x1130.k k1095 (by decide)
  have k1138 : mK m1128 q334 = 14 := x1130.k k1096 (by decide)
  have k1139 : mK m1128 q391 = 14 := x1130.k k1097 (by decide)
  have k1140 : mK m1128 q434 = 15 := x1130.k k1098 (by decide)
  have k1141 : mK m1128 q481 = 15 := x1130.k k1099 (by decide)
  have k1142 : mK m1128 q532 = 15 := x1130.k k1100 (by decide)
  have k1143 : mK m1128 q587 = 15 := x1130.k k1101 (by decide)
  have k1144 : mK m1128 q646 = 15 := x1130.k k1102 (by decide)
  have k1145 : mK m1128 q709 = 15 := x1130.k k1103 (by decide)
  have k1146 : mK m1128 q776 = 15 := x1130.k k1104 (by decide)
  have k1147 : mK m1128 q847 = 15 := x1130.k k1105 (by decide)
  have k1148 : mK m1128 q922 = 17 := x1130.k k1106 (by decide)
  have k1149 : mK m1128 q1001 = 17 := x1130.k k1107 (by decide)
  have k1150 : mK m1128 q1084 = 15 := x1130.k k1126 (by decide)
  have e1151 : mR m1128 t 1 = some q2 := x1130.r k1090 (by decide) rfl e1108
  have e1152 : mR m1128 t 2 = some q37 := x1130.r k1090 (by decide) rfl e1109
  have e1153 : mR m1128 t 3 = some q56 := x1130.r k1090 (by decide) rfl e1110
  have e1154 : mR m1128 t 4 = some q79 := x1130.r k1090 (by decide) rfl e1111
  have e1155 : mR m1128 t 12 = some q178 := x1130.r k1090 (by decide) rfl e1112
  have e1156 : mR m1128 t 13 = some q251 := x1130.r k1090 (by decide) rfl e1113
  have e1157 : mR m1128 t 14 = some q334 := x1130.r k1090 (by decide) rfl e1114
  have e1158 : mR m1128 t 17 = some q391 := x1130.r k1090 (by decide) rfl e1115
  have e1159 : mR m1128 t 18 = some q434 := x1130.r k1090 (by decide) rfl e1116
  have e1160 : mR m1128 t 20 = some q481 := x1130.r k1090 (by decide) rfl e1117
  have e1161 : mR m1128 t 21 = some q532 := x1130.r k1090 (by decide) rfl e1118
  have e1162 : mR m1128 t 22 = some q587 := x1130.r k1090 (by decide) rfl e1119
  have e1163 : mR m1128 t 23 = some q646 := x1130.r k1090 (by decide) rfl e1120
  have e1164 : mR m1128 t 24 = some q709 := x1130.r k1090 (by decide) rfl e1121
  have e1165 : mR m1128 t 25 = some q776 := x1130.r k1090 (by decide) rfl e1122
  have e1166 : mR m1128 t 26 = some q847 := x1130.r k1090 (by decide) rfl e1123
  have e1167 : mR m1128 t 27 = some q922 := x1130.r k1090 (by decide) rfl e1124
  have e1168 : mR m1128 t 28 = some q1001 := x1130.r k1090 (by decide) rfl e1125
  have e1169 : mR m1128 t 29 = some q1084 := by rw [e1129]; simp [mR, sR, up2]
  refine at_aload_n (i := 0) 0 248 rfl (by decide +kernel) rfl ?_
  refine at_bipush (n := 12) (12 : Int32) 250 rfl (by decide +kernel) (by decide +kernel) ?_
  obtain ⟨z1170, h⟩ := h
  refine at_newaI 252 rfl z1170 (by decide +kernel) tw_265 (by decide +kernel) (by decide +kernel) (fun q1171 m1172 e1173 e1174 => ?_)
  replace h := h q1171 m1172 e1173 e1174
  have x1175 : Ext m1128 m1172 := by rw [e1174, e1173]; exact Ext.nw z1170 _ _ _
  have k1176 : mK m1172 q2 = 15 := x1175.k k1131 (by decide)
  have k1177 : mK m1172 t = 13 := x1175.k k1132 (by decide)
  have k1178 : mK m1172 q37 = 15 := x1175.k k1133 (by decide)
  have k1179 : mK m1172 q56 = 16 := x1175.k k1134 (by decide)
  have k1180 : mK m1172 q79 = 16 := x1175.k k1135 (by decide)
  have k1181 : mK m1172 q178 = 15 := x1175.k k1136 (by decide)
  have k1182 : mK m1172 q251 = 15 := x1175.k k1137 (by decide)
  have k1183 : mK m1172 q334 = 14 := x1175.k k1138 (by decide)
  have k1184 : mK m1172 q391 = 14 := x1175.k k1139 (by decide)
  have k1185 : mK m1172 q434 = 15 := x1175.k k1140 (by decide)
  have k1186 : mK m1172 q481 = 15 := x1175.k k1141 (by decide)
  have k1187 : mK m1172 q532 = 15 := x1175.k k1142 (by decide)
  have k1188 : mK m1172 q587 = 15 := x1175.k k1143 (by decide)
  have k1189 : mK m1172 q646 = 15 := x1175.k k1144 (by decide)
  have k1190 : mK m1172 q709 = 15 := x1175.k k1145 (by decide)
  have k1191 : mK m1172 q776 = 15 := x1175.k k1146 (by decide)
  have k1192 : mK m1172 q847 = 15 := x1175.k k1147 (by decide)
  have k1193 : mK m1172 q922 = 17 := x1175.k k1148 (by decide)
  have k1194 : mK m1172 q1001 = 17 := x1175.k k1149 (by decide)
  have k1195 : mK m1172 q1084 = 15 := x1175.k k1150 (by decide)
  have e1196 : mR m1172 t 1 = some q2 := x1175.r k1132 (by decide) rfl e1151
  have e1197 : mR m1172 t 2 = some q37 := x1175.r k1132 (by decide) rfl e1152
  have e1198 : mR m1172 t 3 = some q56 := x1175.r k1132 (by decide) rfl e1153
  have e1199 : mR m1172 t 4 = some q79 := x1175.r k1132 (by decide) rfl e1154
  have e1200 : mR m1172 t 12 = some q178 := x1175.r k1132 (by decide) rfl e1155
  have e1201 : mR m1172 t 13 = some q251 := x1175.r k1132 (by decide) rfl e1156
  have e1202 : mR m1172 t 14 = some q334 := x1175.r k1132 (by decide) rfl e1157
  have e1203 : mR m1172 t 17 = some q391 := x1175.r k1132 (by decide) rfl e1158
  have e1204 : mR m1172 t 18 = some q434 := x1175.r k1132 (by decide) rfl e1159
  have e1205 : mR m1172 t 20 = some q481 := x1175.r k1132 (by decide) rfl e1160
  have e1206 : mR m1172 t 21 = some q532 := x1175.r k1132 (by decide) rfl e1161
  have e1207 : mR m1172 t 22 = some q587 := x1175.r k1132 (by decide) rfl e1162
  have e1208 : mR m1172 t 23 = some q646 := x1175.r k1132 (by decide) rfl e1163
  have e1209 : mR m1172 t 24 = some q709 := x1175.r k1132 (by decide) rfl e1164
  have e1210 : mR m1172 t 25 = some q776 := x1175.r k1132 (by decide) rfl e1165
  have e1211 : mR m1172 t 26 = some q847 := x1175.r k1132 (by decide) rfl e1166
  have e1212 : mR m1172 t 27 = some q922 := x1175.r k1132 (by decide) rfl e1167
  have e1213 : mR m1172 t 28 = some q1001 := x1175.r k1132 (by decide) rfl e1168
  have e1214 : mR m1172 t 29 = some q1084 := x1175.r k1132 (by decide) rfl e1169
  have k1215 : mK m1172 q1171 = 15 := by rw [e1174]; exact if_pos rfl
  obtain ⟨n1216, h⟩ := h
  refine at_putRF (index := 92) cok12 30 255 rfl (by decide +kernel) k1177 n1216 (by decide +kernel) tw_1115 rfl rfl rfl rfl (Or.inr ⟨_, rfl⟩) (fun m1217 e1218 => ?_)
  replace h := h m1217 e1218
  have x1219 : Ext m1172 m1217 := by rw [e1218]; exact Ext.sR _ (Or.inr n1216)
  have k1220 : mK m1217 q2 = 15 := x1219.k k1176 (by decide)
  have k1221 : mK m1217 t = 13 := x1219.k k1177 (by decide)
  have k1222 : mK m1217 q37 = 15 := x1219.k k1178 (by decide)
  have k1223 : mK m1217 q56 = 16 := x1219.k k1179 (by decide)
  have k1224 : mK m1217 q79 = 16 := x1219.k k1180 (by decide)
  have k1225 : mK m1217 q178 = 15 := x1219.k k1181 (by decide)
  have k1226 : mK m1217 q251 = 15 := x1219.k k1182 (by decide)
  have k1227 : mK m1217 q334 = 14 := x1219.k k1183 (by decide)
  have k1228 : mK m1217 q391 = 14 := x1219.k k1184 (by decide)
  have k1229 : mK m1217 q434 = 15 := x1219.k k1185 (by decide)
  have k1230 : mK m1217 q481 = 15 := x1219.k k1186 (by decide)
  have k1231 : mK m1217 q532 = 15 := x1219.k k1187 (by decide)
  have k1232 : mK m1217 q587 = 15 := x1219.k k1188 (by decide)
  have k1233 : mK m1217 q646 = 15 := x1219.k k1189 (by decide)
  have k1234 : mK m1217 q709 = 15 := x1219.k k1190 (by decide)
  have k1235 : mK m1217 q776 = 15 := x1219.k k1191 (by decide)
  have k1236 : mK m1217 q847 = 15 := x1219.k k1192 (by decide)
  have k1237 : mK m1217 q922 = 17 := x1219.k k1193 (by decide)
  have k1238 : mK m1217 q1001 = 17 := x1219.k k1194 (by decide)
  have k1239 : mK m1217 q1084 = 15 := x1219.k k1195 (by decide)
  have k1240 : mK m1217 q1171 = 15 := x1219.k k1215 (by decide)
  have e1241 : mR m1217 t 1 = some q2 := x1219.r k1177 (by decide) rfl e1196
  have e1242 : mR m1217 t 2 = some q37 := x1219.r k1177 (by decide) rfl e1197
  have e1243 : mR m1217 t 3 = some q56 := x1219.r k1177 (by decide) rfl e1198
  have e1244 : mR m1217 t 4 = some q79 := x1219.r k1177 (by decide) rfl e1199
  have e1245 : mR m1217 t 12 = some q178 := x1219.r k1177 (by decide) rfl e1200
  have e1246 : mR m1217 t 13 = some q251 := x1219.r k1177 (by decide) rfl e1201
  have e1247 : mR m1217 t 14 = some q334 := x1219.r k1177 (by decide) rfl e1202
  have e1248 : mR m1217 t 17 = some q391 := x1219.r k1177 (by decide) rfl e1203
  have e1249 : mR m1217 t 18 = some q434 := x1219.r k1177 (by decide) rfl e1204
  have e1250 : mR m1217 t 20 = some q481 := x1219.r k1177 (by decide) rfl e1205
  have e1251 : mR m1217 t 21 = some q532 := x1219.r k1177 (by decide) rfl e1206
  have e1252 : mR m1217 t 22 = some q587 := x1219.r k1177 (by decide) rfl e1207
  have e1253 : mR m1217 t 23 = some q646 := x1219.r k1177 (by decide) rfl e1208
  have e1254 : mR m1217 t 24 = some q709 := x1219.r k1177 (by decide) rfl e1209
  have e1255 : mR m1217 t 25 = some q776 := x1219.r k1177 (by decide) rfl e1210
  have e1256 : mR m1217 t 26 = some q847 := x1219.r k1177 (by decide) rfl e1211
  have e1257 : mR m1217 t 27 = some q922 := x1219.r k1177 (by decide) rfl e1212
  have e1258 : mR m1217 t 28 = some q1001 := x1219.r k1177 (by decide) rfl e1213
  have e1259 : mR m1217 t 29 = some q1084 := x1219.r k1177 (by decide) rfl e1214
  have e1260 : mR m1217 t 30 = some q1171 := by rw [e1218]; simp [mR, sR, up2]
  refine at_aload_n (i := 0) 0 256 rfl (by decide +kernel) rfl ?_
  refine at_iconst (n := 2) (2 : Int32) 257 rfl (by decide +kernel) (by decide +kernel) ?_
  obtain ⟨z1261, h⟩ := h
  refine at_newaI 259 rfl z1261 (by decide +kernel) tw_265 (by decide +kernel) (by decide +kernel) (fun q1262 m1263 e1264 e1265 => ?_)
  replace h := h q1262 m1263 e1264 e1265
  have x1266 : Ext m1217 m1263 := by rw [e1265, e1264]; exact Ext.nw z1261 _ _ _
  have k1267 : mK m1263 q2 = 15 := x1266.k k1220 (by decide)
  have k1268 : mK m1263 t = 13 := x1266.k k1221 (by decide)
  have k1269 : mK m1263 q37 = 15 := x1266.k k1222 (by decide)
  have k1270 : mK m1263 q56 = 16 := x1266.k k1223 (by decide)
  have k1271 : mK m1263 q79 = 16 := x1266.k k1224 (by decide)
  have k1272 : mK m1263 q178 = 15 := x1266.k k1225 (by decide)
  have k1273 : mK m1263 q251 = 15 := x1266.k k1226 (by decide)
  have k1274 : mK m1263 q334 = 14 := x1266.k k1227 (by decide)
  have k1275 : mK m1263 q391 = 14 := x1266.k k1228 (by decide)
  have k1276 : mK m1263 q434 = 15 := x1266.k k1229 (by decide)
  have k1277 : mK m1263 q481 = 15 := x1266.k k1230 (by decide)
  have k1278 : mK m1263 q532 = 15 := x1266.k k1231 (by decide)
  have k1279 : mK m1263 q587 = 15 := x1266.k k1232 (by decide)
  have k1280 : mK m1263 q646 = 15 := x1266.k k1233 (by decide)
  have k1281 : mK m1263 q709 = 15 := x1266.k k1234 (by decide)
  have k1282 : mK m1263 q776 = 15 := x1266.k k1235 (by decide)
  have k1283 : mK m1263 q847 = 15 := x1266.k k1236 (by decide)
  have k1284 : mK m1263 q922 = 17 := x1266.k k1237 (by decide)
  have k1285 : mK m1263 q1001 = 17 := x1266.k k1238 (by decide)
  have k1286 : mK m1263 q1084 = 15 := x1266.k k1239 (by decide)
  have k1287 : mK m1263 q1171 = 15 := x1266.k k1240 (by decide)
  have e1288 : mR m1263 t 1 = some q2 := x1266.r k1221 (by decide) rfl e1241
  have e1289 : mR m1263 t 2 = some q37 := x1266.r k1221 (by decide) rfl e1242
  have e1290 : mR m1263 t 3 = some q56 := x1266.r k1221 (by decide) rfl e1243
  have e1291 : mR m1263 t 4 = some q79 := x1266.r k1221 (by decide) rfl e1244
  have e1292 : mR m1263 t 12 = some q178 := x1266.r k1221 (by decide) rfl e1245
  have e1293 : mR m1263 t 13 = some q251 := x1266.r k1221 (by decide) rfl e1246
  have e1294 : mR m1263 t 14 = some q334 := x1266.r k1221 (by decide) rfl e1247
  have e1295 : mR m1263 t 17 = some q391 := x1266.r k1221 (by decide) rfl e1248
  have e1296 : mR m1263 t 18 = some q434 := x1266.r k1221 (by decide) rfl e1249
  have e1297 : mR m1263 t 20 = some q481 := x1266.r k1221 (by decide) rfl e1250
  have e1298 : mR m1263 t 21 = some q532 := x1266.r k1221 (by decide) rfl e1251
  have e1299 : mR m1263 t 22 = some q587 := x1266.r k1221 (by decide) rfl e1252
  have e1300 : mR m1263 t 23 = some q646 := x1266.r k1221 (by decide) rfl e1253
  have e1301 : mR m1263 t 24 = some q709 := x1266.r k1221 (by decide) rfl e1254
  have e1302 : mR m1263 t 25 = some q776 := x1266.r k1221 (by decide) rfl e1255
  have e1303 : mR m1263 t 26 = some q847 := x1266.r k1221 (by decide) rfl e1256
  have e1304 : mR m1263 t 27 = some q922 := x1266.r k1221 (by decide) rfl e1257
  have e1305 : mR m1263 t 28 = some q1001 := x1266.r k1221 (by decide) rfl e1258
  have e1306 : mR m1263 t 29 = some q1084 := x1266.r k1221 (by decide) rfl e1259
  have e1307 : mR m1263 t 30 = some q1171 := x1266.r k1221 (by decide) rfl e1260
  have k1308 : mK m1263 q1262 = 15 := by rw [e1265]; exact if_pos rfl
  obtain ⟨n1309, h⟩ := h
  refine at_putRF (index := 95) cok12 31 262 rfl (by decide +kernel) k1268 n1309 (by decide +kernel) tw_1116 rfl rfl rfl rfl (Or.inr ⟨_, rfl⟩) (fun m1310 e1311 => ?_)
  replace h := h m1310 e1311
  have x1312 : Ext m1263 m1310 := by rw [e1311]; exact Ext.sR _ (Or.inr n1309)
  have k1313 : mK m1310 q2 = 15 := x1312.k k1267 (by decide)
  have k1314 : mK m1310 t = 13 := x1312.k k1268 (by decide)
  have k1315 : mK m1310 q37 = 15 := x1312.k k1269 (by decide)
  have k1316 : mK m1310 q56 = 16 := x1312.k k1270 (by decide)
  have k1317 : mK m1310 q79 = 16 := x1312.k k1271 (by decide)
  have k1318 : mK m1310 q178 = 15 := x1312.k k1272 (by decide)
  have k1319 : mK m1310 q251 = 15 := x1312.k k1273 (by decide)
  have k1320 : mK m1310 q334 = 14 := x1312.k k1274 (by decide)
  have k1321 : mK m1310 q391 = 14 := x1312.k k1275 (by decide)
  have k1322 : mK m1310 q434 = 15 := x1312.k k1276 (by decide)
  have k1323 : mK m1310 q481 = 15 := x1312.k k1277 (by decide)
  have k1324 : mK m1310 q532 = 15 := x1312.k k1278 (by decide)
  have k1325 : mK m1310 q587 = 15 := x1312.k k1279 (by decide)
  have k1326 : mK m1310 q646 = 15 := x1312.k k1280 (by decide)
  have k1327 : mK m1310 q709 = 15 := x1312.k k1281 (by decide)
  have k1328 : mK m1310 q776 = 15 := x1312.k k1282 (by decide)
  have k1329 : mK m1310 q847 = 15 := x1312.k k1283 (by decide)
  have k1330 : mK m1310 q922 = 17 := x1312.k k1284 (by decide)
  have k1331 : mK m1310 q1001 = 17 := x1312.k k1285 (by decide)
  have k1332 : mK m1310 q1084 = 15 := x1312.k k1286 (by decide)
  have k1333 : mK m1310 q1171 = 15 := x1312.k k1287 (by decide)
  have k1334 : mK m1310 q1262 = 15 := x1312.k k1308 (by decide)
  have e1335 : mR m1310 t 1 = some q2 := x1312.r k1268 (by decide) rfl e1288
  have e1336 : mR m1310 t 2 = some q37 := x1312.r k1268 (by decide) rfl e1289
  have e1337 : mR m1310 t 3 = some q56 := x1312.r k1268 (by decide) rfl e1290
  have e1338 : mR m1310 t 4 = some q79 := x1312.r k1268 (by decide) rfl e1291
  have e1339 : mR m1310 t 12 = some q178 := x1312.r k1268 (by decide) rfl e1292
  have e1340 : mR m1310 t 13 = some q251 := x1312.r k1268 (by decide) rfl e1293
  have e1341 : mR m1310 t 14 = some q334 := x1312.r k1268 (by decide) rfl e1294
  have e1342 : mR m1310 t 17 = some q391 := x1312.r k1268 (by decide) rfl e1295
  have e1343 : mR m1310 t 18 = some q434 := x1312.r k1268 (by decide) rfl e1296
  have e1344 : mR m1310 t 20 = some q481 := x1312.r k1268 (by decide) rfl e1297
  have e1345 : mR m1310 t 21 = some q532 := x1312.r k1268 (by decide) rfl e1298
  have e1346 : mR m1310 t 22 = some q587 := x1312.r k1268 (by decide) rfl e1299
  have e1347 : mR m1310 t 23 = some q646 := x1312.r k1268 (by decide) rfl e1300
  have e1348 : mR m1310 t 24 = some q709 := x1312.r k1268 (by decide) rfl e1301
  have e1349 : mR m1310 t 25 = some q776 := x1312.r k1268 (by decide) rfl e1302
  have e1350 : mR m1310 t 26 = some q847 := x1312.r k1268 (by decide) rfl e1303
  have e1351 : mR m1310 t 27 = some q922 := x1312.r k1268 (by decide) rfl e1304
  have e1352 : mR m1310 t 28 = some q1001 := x1312.r k1268 (by decide) rfl e1305
  have e1353 : mR m1310 t 29 = some q1084 := x1312.r k1268 (by decide) rfl e1306
  have e1354 : mR m1310 t 30 = some q1171 := x1312.r k1268 (by decide) rfl e1307
  have e1355 : mR m1310 t 31 = some q1262 := by rw [e1311]; simp [mR, sR, up2]
  refine at_aload_n (i := 0) 0 263 rfl (by decide +kernel) rfl ?_
  refine at_iconst (n := 2) (2 : Int32) 264 rfl (by decide +kernel) (by decide +kernel) ?_
  obtain ⟨z1356, h⟩ := h
  refine at_newaI 266 rfl z1356 (by decide +kernel) tw_265 (by decide +kernel) (by decide +kernel) (fun q1357 m1358 e1359 e1360 => ?_)
  replace h := h q1357 m1358 e1359 e1360
  have x1361 : Ext m1310 m1358 := by rw [e1360, e1359]; exact Ext.nw z1356 _ _ _
  have k1362 : mK m1358 q2 = 15 := x1361.k k1313 (by decide)
  have k1363 : mK m1358 t = 13 := x1361.k k1314 (by decide)
  have k1364 : mK m1358 q37 = 15 := x1361.k k1315 (by decide)
  have k1365 : mK m1358 q56 = 16 := x1361.k k1316 (by decide)
  have k1366 : mK m1358 q79 = 16 := x1361.k k1317 (by decide)
  have k1367 : mK m1358 q178 = 15 := x1361.k k1318 (by decide)
  have k1368 : mK m1358 q251 = 15 := x1361.k k1319 (by decide)
  have k1369 : mK m1358 q334 = 14 := x1361.k k1320 (by decide)
  have k1370 : mK m1358 q391 = 14 := x1361.k k1321 (by decide)
  have k1371 : mK m1358 q434 = 15 := x1361.k k1322 (by decide)
  have k1372 : mK m1358 q481 = 15 := x1361.k k1323 (by decide)
  have k1373 : mK m1358 q532 = 15 := x1361.k k1324 (by decide)
  have k1374 : mK m1358 q587 = 15 := x1361.k k1325 (by decide)
  have k1375 : mK m1358 q646 = 15 := x1361.k k1326 (by decide)
  have k1376 : mK m1358 q709 = 15 := x1361.k k1327 (by decide)
  have k1377 : mK m1358 q776 = 15 := x1361.k k1328 (by decide)
  have k1378 : mK m1358 q847 = 15 := x1361.k k1329 (by decide)
  have k1379 : mK m1358 q922 = 17 := x1361.k k1330 (by decide)
  have k1380 : mK m1358 q1001 = 17 := x1361.k k1331 (by decide)
  have k1381 : mK m1358 q1084 = 15 := x1361.k k1332 (by decide)
  have k1382 : mK m1358 q1171 = 15 := x1361.k k1333 (by decide)
  have k1383 : mK m1358 q1262 = 15 := x1361.k k1334 (by decide)
  have e1384 : mR m1358 t 1 = some q2 := x1361.r k1314 (by decide) rfl e1335
  have e1385 : mR m1358 t 2 = some q37 := x1361.r k1314 (by decide) rfl e1336
  have e1386 : mR m1358 t 3 = some q56 := x1361.r k1314 (by decide) rfl e1337
  have e1387 : mR m1358 t 4 = some q79 := x1361.r k1314 (by decide) rfl e1338
  have e1388 : mR m1358 t 12 = some q178 := x1361.r k1314 (by decide) rfl e1339
  have e1389 : mR m1358 t 13 = some q251 := x1361.r k1314 (by decide) rfl e1340
  have e1390 : mR m1358 t 14 = some q334 := x1361.r k1314 (by decide) rfl e1341
  have e1391 : mR m1358 t 17 = some q391 := x1361.r k1314 (by decide) rfl e1342
  have e1392 : mR m1358 t 18 = some q434 := x1361.r k1314 (by decide) rfl e1343
  have e1393 : mR m1358 t 20 = some q481 := x1361.r k1314 (by decide) rfl e1344
  have e1394 : mR m1358 t 21 = some q532 := x1361.r k1314 (by decide) rfl e1345
  have e1395 : mR m1358 t 22 = some q587 := x1361.r k1314 (by decide) rfl e1346
  have e1396 : mR m1358 t 23 = some q646 := x1361.r k1314 (by decide) rfl e1347
  have e1397 : mR m1358 t 24 = some q709 := x1361.r k1314 (by decide) rfl e1348
  have e1398 : mR m1358 t 25 = some q776 := x1361.r k1314 (by decide) rfl e1349
  have e1399 : mR m1358 t 26 = some q847 := x1361.r k1314 (by decide) rfl e1350
  have e1400 : mR m1358 t 27 = some q922 := x1361.r k1314 (by decide) rfl e1351
  have e1401 : mR m1358 t 28 = some q1001 := x1361.r k1314 (by decide) rfl e1352
  have e1402 : mR m1358 t 29 = some q1084 := x1361.r k1314 (by decide) rfl e1353
  have e1403 : mR m1358 t 30 = some q1171 := x1361.r k1314 (by decide) rfl e1354
  have e1404 : mR m1358 t 31 = some q1262 := x1361.r k1314 (by decide) rfl e1355
  have k1405 : mK m1358 q1357 = 15 := by rw [e1360]; exact if_pos rfl
  refine at_dup 267 rfl (by decide +kernel) (va_rf_cat _) ?_
  refine at_iconst (n := 0) (0 : Int32) 268 rfl (by decide +kernel) (by decide +kernel) ?_
  refine at_bipush (n := 100) (100 : Int32) 270 rfl (by decide +kernel) (by decide +kernel) ?_
  obtain ⟨v1406, h⟩ := h
  refine at_iast 271 rfl (by decide +kernel) k1405 v1406 (fun m1407 e1408 => ?_)
  replace h := h m1407 e1408
  have x1409 : Ext m1358 m1407 := by rw [e1408]; exact Ext.sI _ _ _ _
  have k1410 : mK m1407 q2 = 15 := x1409.k k1362 (by decide)
  have k1411 : mK m1407 t = 13 := x1409.k k1363 (by decide)
  have k1412 : mK m1407 q37 = 15 := x1409.k k1364 (by decide)
  have k1413 : mK m1407 q56 = 16 := x1409.k k1365 (by decide)
  have k1414 : mK m1407 q79 = 16 := x1409.k k1366 (by decide)
  have k1415 : mK m1407 q178 = 15 := x1409.k k1367 (by decide)
  have k1416 : mK m1407 q251 = 15 := x1409.k k1368 (by decide)
  have k1417 : mK m1407 q334 = 14 := x1409.k k1369 (by decide)
  have k1418 : mK m1407 q391 = 14 := x1409.k k1370 (by decide)
  have k1419 : mK m1407 q434 = 15 := x1409.k k1371 (by decide)
  have k1420 : mK m1407 q481 = 15 := x1409.k k1372 (by decide)
  have k1421 : mK m1407 q532 = 15 := x1409.k k1373 (by decide)
  have k1422 : mK m1407 q587 = 15 := x1409.k k1374 (by decide)
  have k1423 : mK m1407 q646 = 15 := x1409.k k1375 (by decide)
  have k1424 : mK m1407 q709 = 15 := x1409.k k1376 (by decide)
  have k1425 : mK m1407 q776 = 15 := x1409.k k1377 (by decide)
  have k1426 : mK m1407 q847 = 15 := x1409.k k1378 (by decide)
  have k1427 : mK m1407 q922 = 17 := x1409.k k1379 (by decide)
  have k1428 : mK m1407 q1001 = 17 := x1409.k k1380 (by decide)
  have k1429 : mK m1407 q1084 = 15 := x1409.k k1381 (by decide)
  have k1430 : mK m1407 q1171 = 15 := x1409.k k1382 (by decide)
  have k1431 : mK m1407 q1262 = 15 := x1409.k k1383 (by decide)
  have k1432 : mK m1407 q1357 = 15 := x1409.k k1405 (by decide)
  have e1433 : mR m1407 t 1 = some q2 := x1409.r k1363 (by decide) rfl e1384
  have e1434 : mR m1407 t 2 = some q37 := x1409.r k1363 (by decide) rfl e1385
  have e1435 : mR m1407 t 3 = some q56 := x1409.r k1363 (by decide) rfl e1386
  have e1436 : mR m1407 t 4 = some q79 := x1409.r k1363 (by decide) rfl e1387
  have e1437 : mR m1407 t 12 = some q178 := x1409.r k1363 (by decide) rfl e1388
  have e1438 : mR m1407 t 13 = some q251 := x1409.r k1363 (by decide) rfl e1389
  have e1439 : mR m1407 t 14 = some q334 := x1409.r k1363 (by decide) rfl e1390
  have e1440 : mR m1407 t 17 = some q391 := x1409.r k1363 (by decide) rfl e1391
  have e1441 : mR m1407 t 18 = some q434 := x1409.r k1363 (by decide) rfl e1392
  have e1442 : mR m1407 t 20 = some q481 := x1409.r k1363 (by decide) rfl e1393
  have e1443 : mR m1407 t 21 = some q532 := x1409.r k1363 (by decide) rfl e1394
  have e1444 : mR m1407 t 22 = some q587 := x1409.r k1363 (by decide) rfl e1395
  have e1445 : mR m1407 t 23 = some q646 := x1409.r k1363 (by decide) rfl e1396
  have e1446 : mR m1407 t 24 = some q709 := x1409.r k1363 (by decide) rfl e1397
  have e1447 : mR m1407 t 25 = some q776 := x1409.r k1363 (by decide) rfl e1398
  have e1448 : mR m1407 t 26 = some q847 := x1409.r k1363 (by decide) rfl e1399
  have e1449 : mR m1407 t 27 = some q922 := x1409.r k1363 (by decide) rfl e1400
  have e1450 : mR m1407 t 28 = some q1001 := x1409.r k1363 (by decide) rfl e1401
  have e1451 : mR m1407 t 29 = some q1084 := x1409.r k1363 (by decide) rfl e1402
  have e1452 : mR m1407 t 30 = some q1171 := x1409.r k1363 (by decide) rfl e1403
  have e1453 : mR m1407 t 31 = some q1262 := x1409.r k1363 (by decide) rfl e1404
  refine at_dup 272 rfl (by decide +kernel) (va_rf_cat _) ?_
  refine at_iconst (n := 1) (1 : Int32) 273 rfl (by decide +kernel) (by decide +kernel) ?_
  refine at_bipush (n := 100) (100 : Int32) 275 rfl (by decide +kernel) (by decide +kernel) ?_
  obtain ⟨v1454, h⟩ := h
  refine at_iast 276 rfl (by decide +kernel) k1432 v1454 (fun m1455 e1456 => ?_)
  replace h := h m1455 e1456
  have x1457 : Ext m1407 m1455 := by rw [e1456]; exact Ext.sI _ _ _ _
  have k1458 : mK m1455 q2 = 15 := x1457.k k1410 (by decide)
  have k1459 : mK m1455 t = 13 := x1457.k k1411 (by decide)
  have k1460 : mK m1455 q37 = 15 := x1457.k k1412 (by decide)
  have k1461 : mK m1455 q56 = 16 := x1457.k k1413 (by decide)
  have k1462 : mK m1455 q79 = 16 := x1457.k k1414 (by decide)
  have k1463 : mK m1455 q178 = 15 := x1457.k k1415 (by decide)
  have k1464 : mK m1455 q251 = 15 := x1457.k k1416 (by decide)
  have k1465 : mK m1455 q334 = 14 := x1457.k k1417 (by decide)
  have k1466 : mK m1455 q391 = 14 := x1457.k k1418 (by decide)
  have k1467 : mK m1455 q434 = 15 := x1457.k k1419 (by decide)
  have k1468 : mK m1455 q481 = 15 := x1457.k k1420 (by decide)
  have k1469 : mK m1455 q532 = 15 := x1457.k k1421 (by decide)
  have k1470 : mK m1455 q587 = 15 := x1457.k k1422 (by decide)
  have k1471 : mK m1455 q646 = 15 := x1457.k k1423 (by decide)
  have k1472 : mK m1455 q709 = 15 := x1457.k k1424 (by decide)
  have k1473 : mK m1455 q776 = 15 := x1457.k k1425 (by decide)
  have k1474 : mK m1455 q847 = 15 := x1457.k k1426 (by decide)
  have k1475 : mK m1455 q922 = 17 := x1457.k k1427 (by decide)
  have k1476 : mK m1455 q1001 = 17 := x1457.k k1428 (by decide)
  have k1477 : mK m1455 q1084 = 15 := x1457.k k1429 (by decide)
  have k1478 : mK m1455 q1171 = 15 := x1457.k k1430 (by decide)
  have k1479 : mK m1455 q1262 = 15 := x1457.k k1431 (by decide)
  have k1480 : mK m1455 q1357 = 15 := x1457.k k1432 (by decide)
  have e1481 : mR m1455 t 1 = some q2 := x1457.r k1411 (by decide) rfl e1433
  have e1482 : mR m1455 t 2 = some q37 := x1457.r k1411 (by decide) rfl e1434
  have e1483 : mR m1455 t 3 = some q56 := x1457.r k1411 (by decide) rfl e1435
  have e1484 : mR m1455 t 4 = some q79 := x1457.r k1411 (by decide) rfl e1436
  have e1485 : mR m1455 t 12 = some q178 := x1457.r k1411 (by decide) rfl e1437
  have e1486 : mR m1455 t 13 = some q251 := x1457.r k1411 (by decide) rfl e1438
  have e1487 : mR m1455 t 14 = some q334 := x1457.r k1411 (by decide) rfl e1439
  have e1488 : mR m1455 t 17 = some q391 := x1457.r k1411 (by decide) rfl e1440
  have e1489 : mR m1455 t 18 = some q434 := x1457.r k1411 (by decide) rfl e1441
  have e1490 : mR m1455 t 20 = some q481 := x1457.r k1411 (by decide) rfl e1442
  have e1491 : mR m1455 t 21 = some q532 := x1457.r k1411 (by decide) rfl e1443
  have e1492 : mR m1455 t 22 = some q587 := x1457.r k1411 (by decide) rfl e1444
  have e1493 : mR m1455 t 23 = some q646 := x1457.r k1411 (by decide) rfl e1445
  have e1494 : mR m1455 t 24 = some q709 := x1457.r k1411 (by decide) rfl e1446
  have e1495 : mR m1455 t 25 = some q776 := x1457.r k1411 (by decide) rfl e1447
  have e1496 : mR m1455 t 26 = some q847 := x1457.r k1411 (by decide) rfl e1448
  have e1497 : mR m1455 t 27 = some q922 := x1457.r k1411 (by decide) rfl e1449
  have e1498 : mR m1455 t 28 = some q1001 := x1457.r k1411 (by decide) rfl e1450
  have e1499 : mR m1455 t 29 = some q1084 := x1457.r k1411 (by decide) rfl e1451
  have e1500 : mR m1455 t 30 = some q1171 := x1457.r k1411 (by decide) rfl e1452
  have e1501 : mR m1455 t 31 = some q1262 := x1457.r k1411 (by decide) rfl e1453
  obtain ⟨n1502, h⟩ := h
  refine at_putRF (index := 98) cok12 32 279 rfl (by decide +kernel) k1459 n1502 (by decide +kernel) tw_1117 rfl rfl rfl rfl (Or.inr ⟨_, rfl⟩) (fun m1503 e1504 => ?_)
  replace h := h m1503 e1504
  have x1505 : Ext m1455 m1503 := by rw [e1504]; exact Ext.sR _ (Or.inr n1502)
  have k1506 : mK m1503 q2 = 15 := x1505.k k1458 (by decide)
  have k1507 : mK m1503 t = 13 := x1505.k k1459 (by decide)
  have k1508 : mK m1503 q37 = 15 := x1505.k k1460 (by decide)
  have k1509 : mK m1503 q56 = 16 := x1505.k k1461 (by decide)
  have k1510 : mK m1503 q79 = 16 := x1505.k k1462 (by decide)
  have k1511 : mK m1503 q178 = 15 := x1505.k k1463 (by decide)
  have k1512 : mK m1503 q251 = 15 := x1505.k k1464 (by decide)
  have k1513 : mK m1503 q334 = 14 := x1505.k k1465 (by decide)
  have k1514 : mK m1503 q391 = 14 := x1505.k k1466 (by decide)
  have k1515 : mK m1503 q434 = 15 := x1505.k k1467 (by decide)
  have k1516 : mK m1503 q481 = 15 := x1505.k k1468 (by decide)
  have k1517 : mK m1503 q532 = 15 := x1505.k k1469 (by decide)
  have k1518 : mK m1503 q587 = 15 := x1505.k k1470 (by decide)
  have k1519 : mK m1503 q646 = 15 := x1505.k k1471 (by decide)
  have k1520 : mK m1503 q709 = 15 := x1505.k k1472 (by decide)
  have k1521 : mK m1503 q776 = 15 := x1505.k k1473 (by decide)
  have k1522 : mK m1503 q847 = 15 := x1505.k k1474 (by decide)
  have k1523 : mK m1503 q922 = 17 := x1505.k k1475 (by decide)
  have k1524 : mK m1503 q1001 = 17 := x1505.k k1476 (by decide)
  have k1525 : mK m1503 q1084 = 15 := x1505.k k1477 (by decide)
  have k1526 : mK m1503 q1171 = 15 := x1505.k k1478 (by decide)
  have k1527 : mK m1503 q1262 = 15 := x1505.k k1479 (by decide)
  have k1528 : mK m1503 q1357 = 15 := x1505.k k1480 (by decide)
  have e1529 : mR m1503 t 1 = some q2 := x1505.r k1459 (by decide) rfl e1481
  have e1530 : mR m1503 t 2 = some q37 := x1505.r k1459 (by decide) rfl e1482
  have e1531 : mR m1503 t 3 = some q56 := x1505.r k1459 (by decide) rfl e1483
  have e1532 : mR m1503 t 4 = some q79 := x1505.r k1459 (by decide) rfl e1484
  have e1533 : mR m1503 t 12 = some q178 := x1505.r k1459 (by decide) rfl e1485
  have e1534 : mR m1503 t 13 = some q251 := x1505.r k1459 (by decide) rfl e1486
  have e1535 : mR m1503 t 14 = some q334 := x1505.r k1459 (by decide) rfl e1487
  have e1536 : mR m1503 t 17 = some q391 := x1505.r k1459 (by decide) rfl e1488
  have e1537 : mR m1503 t 18 = some q434 := x1505.r k1459 (by decide) rfl e1489
  have e1538 : mR m1503 t 20 = some q481 := x1505.r k1459 (by decide) rfl e1490
  have e1539 : mR m1503 t 21 = some q532 := x1505.r k1459 (by decide) rfl e1491
  have e1540 : mR m1503 t 22 = some q587 := x1505.r k1459 (by decide) rfl e1492
  have e1541 : mR m1503 t 23 = some q646 := x1505.r k1459 (by decide) rfl e1493
  have e1542 : mR m1503 t 24 = some q709 := x1505.r k1459 (by decide) rfl e1494
  have e1543 : mR m1503 t 25 = some q776 := x1505.r k1459 (by decide) rfl e1495
  have e1544 : mR m1503 t 26 = some q847 := x1505.r k1459 (by decide) rfl e1496
  have e1545 : mR m1503 t 27 = some q922 := x1505.r k1459 (by decide) rfl e1497
  have e1546 : mR m1503 t 28 = some q1001 := x1505.r k1459 (by decide) rfl e1498
  have e1547 : mR m1503 t 29 = some q1084 := x1505.r k1459 (by decide) rfl e1499
  have e1548 : mR m1503 t 30 = some q1171 := x1505.r k1459 (by decide) rfl e1500
  have e1549 : mR m1503 t 31 = some q1262 := x1505.r k1459 (by decide) rfl e1501
  have e1550 : mR m1503 t 32 = some q1357 := by rw [e1504]; simp [mR, sR, up2]
  refine at_aload_n (i := 0) 0 280 rfl (by decide +kernel) rfl ?_
  refine at_iconst (n := 2) (2 : Int32) 281 rfl (by decide +kernel) (by decide +kernel) ?_
  obtain ⟨z1551, h⟩ := h
  refine at_newaI 283 rfl z1551 (by decide +kernel) tw_265 (by decide +kernel) (by decide +kernel) (fun q1552 m1553 e1554 e1555 => ?_)
  replace h := h q1552 m1553 e1554 e1555
  have x1556 : Ext m1503 m1553 := by rw [e1555, e1554]; exact Ext.nw z1551 _ _ _
  have k1557 : mK m1553 q2 = 15 := x1556.k k1506 (by decide)
  have k1558 : mK m1553 t = 13 := x1556.k k1507 (by decide)
  have k1559 : mK m1553 q37 = 15 := x1556.k k1508 (by decide)
  have k1560 : mK m1553 q56 = 16 := x1556.k k1509 (by decide)
  have k1561 : mK m1553 q79 = 16 := x1556.k k1510 (by decide)
  have k1562 : mK m1553 q178 = 15 := x1556.k k1511 (by decide)
  have k1563 : mK m1553 q251 = 15 := x1556.k k1512 (by decide)
  have k1564 : mK m1553 q334 = 14 := x1556.k k1513 (by decide)
  have k1565 : mK m1553 q391 = 14 := x1556.k k1514 (by decide)
  have k1566 : mK m1553 q434 = 15 := x1556.k k1515 (by decide)
  have k1567 : mK m1553 q481 = 15 := x1556.k k1516 (by decide)
  have k1568 : mK m1553 q532 = 15 := x1556.k k1517 (by decide)
  have k1569 : mK m1553 q587 = 15 := x1556.k k1518 (by decide)
  have k1570 : mK m1553 q646 = 15 := x1556.k k1519 (by decide)
  have k1571 : mK m1553 q709 = 15 := x1556.k k1520 (by decide)
  have k1572 : mK m1553 q776 = 15 := x1556.k k1521 (by decide)
  have k1573 : mK m1553 q847 = 15 := x1556.k k1522 (by decide)
  have k1574 : mK m1553 q922 = 17 := x1556.k k1523 (by decide)
  have k1575 : mK m1553 q1001 = 17 := x1556.k k1524 (by decide)
  have k1576 : mK m1553 q1084 = 15 := x1556.k k1525 (by decide)
  have k1577 : mK m1553 q1171 = 15 := x1556.k k1526 (by decide)
  have k1578 : mK m1553 q1262 = 15 := x1556.k k1527 (by decide)
  have k1579 : mK m1553 q1357 = 15 := x1556.k k1528 (by decide)
  have e1580 : mR m1553 t 1 = some q2 := x1556.r k1507 (by decide) rfl e1529
  have e1581 : mR m1553 t 2 = some q37 := x1556.r k1507 (by decide) rfl e1530
  have e1582 : mR m1553 t 3 = some q56 := x1556.r k1507 (by decide) rfl e1531
  have e1583 : mR m1553 t 4 = some q79 := x1556.r k1507 (by decide) rfl e1532
  have e1584 : mR m1553 t 12 = some q178 := x1556.r k1507 (by decide) rfl e1533
  have e1585 : mR m1553 t 13 = some q251 := x1556.r k1507 (by decide) rfl e1534
  have e1586 : mR m1553 t 14 = some q334 := x1556.r k1507 (by decide) rfl e1535
  have e1587 : mR m1553 t 17 = some q391 := x1556.r k1507 (by decide) rfl e1536
  have e1588 : mR m1553 t 18 = some q434 := x1556.r k1507 (by decide) rfl e1537
  have e1589 : mR m1553 t 20 = some q481 := x1556.r k1507 (by decide) rfl e1538
  have e1590 : mR m1553 t 21 = some q532 := x1556.r k1507 (by decide) rfl e1539
  have e1591 : mR m1553 t 22 = some q587 := x1556.r k1507 (by decide) rfl e1540
  have e1592 : mR m1553 t 23 = some q646 := x1556.r k1507 (by decide) rfl e1541
  have e1593 : mR m1553 t 24 = some q709 := x1556.r k1507 (by decide) rfl e1542
  have e1594 : mR m1553 t 25 = some q776 := x1556.r k1507 (by decide) rfl e1543
  have e1595 : mR m1553 t 26 = some q847 := x1556.r k1507 (by decide) rfl e1544
  have e1596 : mR m1553 t 27 = some q922 := x1556.r k1507 (by decide) rfl e1545
  have e1597 : mR m1553 t 28 = some q1001 := x1556.r k1507 (by decide) rfl e1546
  have e1598 : mR m1553 t 29 = some q1084 := x1556.r k1507 (by decide) rfl e1547
  have e1599 : mR m1553 t 30 = some q1171 := x1556.r k1507 (by decide) rfl e1548
  have e1600 : mR m1553 t 31 = some q1262 := x1556.r k1507 (by decide) rfl e1549
  have e1601 : mR m1553 t 32 = some q1357 := x1556.r k1507 (by decide) rfl e1550
  have k1602 : mK m1553 q1552 = 15 := by rw [e1555]; exact if_pos rfl
  obtain ⟨n1603, h⟩ := h
  refine at_putRF (index := 101) cok12 33 286 rfl (by decide +kernel) k1558 n1603 (by decide +kernel) tw_1118 rfl rfl rfl rfl (Or.inr ⟨_, rfl⟩) (fun m1604 e1605 => ?_)
  replace h := h m1604 e1605
  have x1606 : Ext m1553 m1604 := by rw [e1605]; exact Ext.sR _ (Or.inr n1603)
  have k1607 : mK m1604 q2 = 15 := x1606.k k1557 (by decide)
  have k1608 : mK m1604 t = 13 := x1606.k k1558 (by decide)
  have k1609 : mK m1604 q37 = 15 := x1606.k k1559 (by decide)
  have k1610 : mK m1604 q56 = 16 := x1606.k k1560 (by decide)
  have k1611 : mK m1604 q79 = 16 := x1606.k k1561 (by decide)
  have k1612 : mK m1604 q178 = 15 := x1606.k k1562 (by decide)
  have k1613 : mK m1604 q251 = 15 := x1606.k k1563 (by decide)
  have k1614 : mK m1604 q334 = 14 := x1606.k k1564 (by decide)
  have k1615 : mK m1604 q391 = 14 := x1606.k k1565 (by decide)
  have k1616 : mK m1604 q434 = 15 := x1606.k k1566 (by decide)
  have k1617 : mK m1604 q481 = 15 := x1606.k k1567 (by decide)
  have k1618 : mK m1604 q532 = 15 := x1606.k k1568 (by decide)
  have k1619 : mK m1604 q587 = 15 := x1606.k k1569 (by decide)
  have k1620 : mK m1604 q646 = 15 := x1606.k k1570 (by decide)
  have k1621 : mK m1604 q709 = 15 := x1606.k k1571 (by decide)
  have k1622 : mK m1604 q776 = 15 := x1606.k k1572 (by decide)
  have k1623 : mK m1604 q847 = 15 := x1606.k k1573 (by decide)
  have k1624 : mK m1604 q922 = 17 := x1606.k k1574 (by decide)
  have k1625 : mK m1604 q1001 = 17 := x1606.k k1575 (by decide)
  have k1626 : mK m1604 q1084 = 15 := x1606.k k1576 (by decide)
  have k1627 : mK m1604 q1171 = 15 := x1606.k k1577 (by decide)
  have k1628 : mK m1604 q1262 = 15 := x1606.k k1578 (by decide)
  have k1629 : mK m1604 q1357 = 15 := x1606.k k1579 (by decide)
  have k1630 : mK m1604 q1552 = 15 := x1606.k k1602 (by decide)
  have e1631 : mR m1604 t 1 = some q2 := x1606.r k1558 (by decide) rfl e1580
  have e1632 : mR m1604 t 2 = some q37 := x1606.r k1558 (by decide) rfl e1581
  have e1633 : mR m1604 t 3 = some q56 := x1606.r k1558 (by decide) rfl e1582
  have e1634 : mR m1604 t 4 = some q79 := x1606.r k1558 (by decide) rfl e1583
  have e1635 : mR m1604 t 12 = some q178 := x1606.r k1558 (by decide) rfl e1584
  have e1636 : mR m1604 t 13 = some q251 := x1606.r k1558 (by decide) rfl e1585
  have e1637 : mR m1604 t 14 = some q334 := x1606.r k1558 (by decide) rfl e1586
  have e1638 : mR m1604 t 17 = some q391 := x1606.r k1558 (by decide) rfl e1587
  have e1639 : mR m1604 t 18 = some q434 := x1606.r k1558 (by decide) rfl e1588
  have e1640 : mR m1604 t 20 = some q481 := x1606.r k1558 (by decide) rfl e1589
  have e1641 : mR m1604 t 21 = some q532 := x1606.r k1558 (by decide) rfl e1590
  have e1642 : mR m1604 t 22 = some q587 := x1606.r k1558 (by decide) rfl e1591
  have e1643 : mR m1604 t 23 = some q646 := x1606.r k1558 (by decide) rfl e1592
  have e1644 : mR m1604 t 24 = some q709 := x1606.r k1558 (by decide) rfl e1593
  have e1645 : mR m1604 t 25 = some q776 := x1606.r k1558 (by decide) rfl e1594
  have e1646 : mR m1604 t 26 = some q847 := x1606.r k1558 (by decide) rfl e1595
  have e1647 : mR m1604 t 27 = some q922 := x1606.r k1558 (by decide) rfl e1596
  have e1648 : mR m1604 t 28 = some q1001 := x1606.r k1558 (by decide) rfl e1597
  have e1649 : mR m1604 t 29 = some q1084 := x1606.r k1558 (by decide) rfl e1598
  have e1650 : mR m1604 t 30 = some q1171 := x1606.r k1558 (by decide) rfl e1599
  have e1651 : mR m1604 t 31 = some q1262 := x1606.r k1558 (by decide) rfl e1600
  have e1652 : mR m1604 t 32 = some q1357 := x1606.r k1558 (by decide) rfl e1601
  have e1653 : mR m1604 t 33 = some q1552 := by rw [e1605]; simp [mR, sR, up2]
  refine at_aload_n (i := 0) 0 287 rfl (by decide +kernel) rfl ?_
  refine at_iconst (n := 2) (2 : Int32) 288 rfl (by decide +kernel) (by decide +kernel) ?_
  obtain ⟨z1654, h⟩ := h
  refine at_newaI 290 rfl z1654 (by decide +kernel) tw_265 (by decide +kernel) (by decide +kernel) (fun q1655 m1656 e1657 e1658 => ?_)
  replace h := h q1655 m1656 e1657 e1658
  have x1659 : Ext m1604 m1656 := by rw [e1658, e1657]; exact Ext.nw z1654 _ _ _
  have k1660 : mK m1656 q2 = 15 := x1659.k k1607 (by decide)
  have k1661 : mK m1656 t = 13 := x1659.k k1608 (by decide)
  have k1662 : mK m1656 q37 = 15 := x1659.k k1609 (by decide)
  have k1663 : mK m1656 q56 = 16 := x1659.k k1610 (by decide)
  have k1664 : mK m1656 q79 = 16 := x1659.k k1611 (by decide)
  have k1665 : mK m1656 q178 = 15 := x1659.k k1612 (by decide)
  have k1666 : mK m1656 q251 = 15 := x1659.k k1613 (by decide)
  have k1667 : mK m1656 q334 = 14 := x1659.k k1614 (by decide)
  have k1668 : mK m1656 q391 = 14 := x1659.k k1615 (by decide)
  have k1669 : mK m1656 q434 = 15 := x1659.k k1616 (by decide)
  have k1670 : mK m1656 q481 = 15 := x1659.k k1617 (by decide)
  have k1671 : mK m1656 q532 = 15 := x1659.k k1618 (by decide)
  have k1672 : mK m1656 q587 = 15 := x1659.k k1619 (by decide)
  have k1673 : mK m1656 q646 = 15 := x1659.k k1620 (by decide)
  have k1674 : mK m1656 q709 = 15 := x1659.k k1621 (by decide)
  have k1675 : mK m1656 q776 = 15 := x1659.k k1622 (by decide)
  have k1676 : mK m1656 q847 = 15 := x1659.k k1623 (by decide)
  have k1677 : mK m1656 q922 = 17 := x1659.k k1624 (by decide)
  have k1678 : mK m1656 q1001 = 17 := x1659.k k1625 (by decide)
  have k1679 : mK m1656 q1084 = 15 := x1659.k k1626 (by decide)
  have k1680 : mK m1656 q1171 = 15 := x1659.k k1627 (by decide)
  have k1681 : mK m1656 q1262 = 15 := x1659.k k1628 (by decide)
  have k1682 : mK m1656 q1357 = 15 := x1659.k k1629 (by decide)
  have k1683 : mK m1656 q1552 = 15 := x1659.k k1630 (by decide)
  have e1684 : mR m1656 t 1 = some q2 := x1659.r k1608 (by decide) rfl e1631
  have e1685 : mR m1656 t 2 = some q37 := x1659.r k1608 (by decide) rfl e1632
  have e1686 : mR m1656 t 3 = some q56 := x1659.r k1608 (by decide) rfl e1633
  have e1687 : mR m1656 t 4 = some q79 := x1659.r k1608 (by decide) rfl e1634
  have e1688 : mR m1656 t 12 = some q178 := x1659.r k1608 (by decide) rfl e1635
  have e1689 : mR m1656 t 13 = some q251 := x1659.r k1608 (by decide) rfl e1636
  have e1690 : mR m1656 t 14 = some q334 := x1659.r k1608 (by decide) rfl e1637
  have e1691 : mR m1656 t 17 = some q391 := x1659.r k1608 (by decide) rfl e1638
  have e1692 : mR m1656 t 18 = some q434 := x1659.r k1608 (by decide) rfl e1639
  have e1693 : mR m1656 t 20 = some q481 := x1659.r k1608 (by decide) rfl e1640
  have e1694 : mR m1656 t 21 = some q532 := x1659.r k1608 (by decide) rfl e1641
  have e1695 : mR m1656 t 22 = some q587 := x1659.r k1608 (by decide) rfl e1642
  have e1696 : mR m1656 t 23 = some q646 := x1659.r k1608 (by decide) rfl e1643
  have e1697 : mR m1656 t 24 = some q709 := x1659.r k1608 (by decide) rfl e1644
  have e1698 : mR m1656 t 25 = some q776 := x1659.r k1608 (by decide) rfl e1645
  have e1699 : mR m1656 t 26 = some q847 := x1659.r k1608 (by decide) rfl e1646
  have e1700 : mR m1656 t 27 = some q922 := x1659.r k1608 (by decide) rfl e1647
  have e1701 : mR m1656 t 28 = some q1001 := x1659.r k1608 (by decide) rfl e1648
  have e1702 : mR m1656 t 29 = some q1084 := x1659.r k1608 (by decide) rfl e1649
  have e1703 : mR m1656 t 30 = some q1171 := x1659.r k1608 (by decide) rfl e1650
  have e1704 : mR m1656 t 31 = some q1262 := x1659.r k1608 (by decide) rfl e1651
  have e1705 : mR m1656 t 32 = some q1357 := x1659.r k1608 (by decide) rfl e1652
  have e1706 : mR m1656 t 33 = some q1552 := x1659.r k1608 (by decide) rfl e1653
  have k1707 : mK m1656 q1655 = 15 := by rw [e1658]; exact if_pos rfl
  obtain ⟨n1708, h⟩ := h
  refine at_putRF (index := 104) cok12 34 293 rfl (by decide +kernel) k1661 n1708 (by decide +kernel) tw_1119 rfl rfl rfl rfl (Or.inr ⟨_, rfl⟩) (fun m1709 e1710 => ?_)
  replace h := h m1709 e1710
  have x1711 : Ext m1656 m1709 := by rw [e1710]; exact Ext.sR _ (Or.inr n1708)
  have k1712 : mK m1709 q2 = 15 := x1711.k k1660 (by decide)
  have k1713 : mK m1709 t = 13 := x1711.k k1661 (by decide)
  have k1714 : mK m1709 q37 = 15 := x1711.k k1662 (by decide)
  have k1715 : mK m1709 q56 = 16 := x1711.k k1663 (by decide)
  have k1716 : mK m1709 q79 = 16 := x1711.k k1664 (by decide)
  have k1717 : mK m1709 q178 = 15 := x1711.k k1665 (by decide)
  have k1718 : mK m1709 q251 = 15 := x1711.k k1666 (by decide)
  have k1719 : mK m1709 q334 = 14 := x1711.k k1667 (by decide)
  have k1720 : mK m1709 q391 = 14 := x1711.k k1668 (by decide)
  have k1721 : mK m1709 q434 = 15 := x1711.k k1669 (by decide)
  have k1722 : mK m1709 q481 = 15 := x1711.k k1670 (by decide)
  have k1723 : mK m1709 q532 = 15 := x1711.k k1671 (by decide)
  have k1724 : mK m1709 q587 = 15 := x1711.k k1672 (by decide)
  have k1725 : mK m1709 q646 = 15 := x1711.k k1673 (by decide)
  have k1726 : mK m1709 q709 = 15 := x1711.k k1674 (by decide)
  have k1727 : mK m1709 q776 = 15 := x1711.k k1675 (by decide)
  have k1728 : mK m1709 q847 = 15 := x1711.k k1676 (by decide)
  have k1729 : mK m1709 q922 = 17 := x1711.k k1677 (by decide)
  have k1730 : mK m1709 q1001 = 17 := x1711.k k1678 (by decide)
  have k1731 : mK m1709 q1084 = 15 := x1711.k k1679 (by decide)
  have k1732 : mK m1709 q1171 = 15 := x1711.k k1680 (by decide)
  have k1733 : mK m1709 q1262 = 15 := x1711.k k1681 (by decide)
  have k1734 : mK m1709 q1357 = 15 := x1711.k k1682 (by decide)
  have k1735 : mK m1709 q1552 = 15 := x1711.k k1683 (by decide)
  have k1736 : mK m1709 q1655 = 15 := x1711.k k1707 (by decide)
  have e1737 : mR m1709 t 1 = some q2 := x1711.r k1661 (by decide) rfl e1684
  have e1738 : mR m1709 t 2 = some q37 := x1711.r k1661 (by decide) rfl e1685
  have e1739 : mR m1709 t 3 = some q56 := x1711.r k1661 (by decide) rfl e1686
  have e1740 : mR m1709 t 4 = some q79 := x1711.r k1661 (by decide) rfl e1687
  have e1741 : mR m1709 t 12 = some q178 := x1711.r k1661 (by decide) rfl e1688
  have e1742 : mR m1709 t 13 = some q251 := x1711.r k1661 (by decide) rfl e1689
  have e1743 : mR m1709 t 14 = some q334 := x1711.r k1661 (by decide) rfl e1690
  have e1744 : mR m1709 t 17 = some q391 := x1711.r k1661 (by decide) rfl e1691
  have e1745 : mR m1709 t 18 = some q434 := x1711.r k1661 (by decide) rfl e1692
  have e1746 : mR m1709 t 20 = some q481 := x1711.r k1661 (by decide) rfl e1693
  have e1747 : mR m1709 t 21 = some q532 := x1711.r k1661 (by decide) rfl e1694
  have e1748 : mR m1709 t 22 = some q587 := x1711.r k1661 (by decide) rfl e1695
  have e1749 : mR m1709 t 23 = some q646 := x1711.r k1661 (by decide) rfl e1696
  have e1750 : mR m1709 t 24 = some q709 := x1711.r k1661 (by decide) rfl e1697
  have e1751 : mR m1709 t 25 = some q776 := x1711.r k1661 (by decide) rfl e1698
  have e1752 : mR m1709 t 26 = some q847 := x1711.r k1661 (by decide) rfl e1699
  have e1753 : mR m1709 t 27 = some q922 := x1711.r k1661 (by decide) rfl e1700
  have e1754 : mR m1709 t 28 = some q1001 := x1711.r k1661 (by decide) rfl e1701
  have e1755 : mR m1709 t 29 = some q1084 := x1711.r k1661 (by decide) rfl e1702
  have e1756 : mR m1709 t 30 = some q1171 := x1711.r k1661 (by decide) rfl e1703
  have e1757 : mR m1709 t 31 = some q1262 := x1711.r k1661 (by decide) rfl e1704
  have e1758 : mR m1709 t 32 = some q1357 := x1711.r k1661 (by decide) rfl e1705
  have e1759 : mR m1709 t 33 = some q1552 := x1711.r k1661 (by decide) rfl e1706
  have e1760 : mR m1709 t 34 = some q1655 := by rw [e1710]; simp [mR, sR, up2]
  refine at_aload_n (i := 0) 0 294 rfl (by decide +kernel) rfl ?_
  refine at_bipush (n := 24) (24 : Int32) 296 rfl (by decide +kernel) (by decide +kernel) ?_
  obtain ⟨z1761, h⟩ := h
  refine at_newaI 298 rfl z1761 (by decide +kernel) tw_265 (by decide +kernel) (by decide +kernel) (fun q1762 m1763 e1764 e1765 => ?_)
  replace h := h q1762 m1763 e1764 e1765
  have x1766 : Ext m1709 m1763 := by rw [e1765, e1764]; exact Ext.nw z1761 _ _ _
  have k1767 : mK m1763 q2 = 15 := x1766.k k1712 (by decide)
  have k1768 : mK m1763 t = 13 := x1766.k k1713 (by decide)
  have k1769 : mK m1763 q37 = 15 := x1766.k k1714 (by decide)
  have k1770 : mK m1763 q56 = 16 := x1766.k k1715 (by decide)
  have k1771 : mK m1763 q79 = 16 := x1766.k k1716 (by decide)
  have k1772 : mK m1763 q178 = 15 := x1766.k k1717 (by decide)
  have k1773 : mK m1763 q251 = 15 := x1766.k k1718 (by decide)
  have k1774 : mK m1763 q334 = 14 := x1766.k k1719 (by decide)
  have k1775 : mK m1763 q391 = 14 := x1766.k k1720 (by decide)
  have k1776 : mK m1763 q434 = 15 := x1766.k k1721 (by decide)
  have k1777 : mK m1763 q481 = 15 := x1766.k k1722 (by decide)
  have k1778 : mK m1763 q532 = 15 := x1766.k k1723 (by decide)
  have k1779 : mK m1763 q587 = 15 := x1766.k k1724 (by decide)
  have k1780 : mK m1763 q646 = 15 := x1766.k k1725 (by decide)
  have k1781 : mK m1763 q709 = 15 := x1766.k k1726 (by decide)
  have k1782 : mK m1763 q776 = 15 := x1766.k k1727 (by decide)
  have k1783 : mK m1763 q847 = 15 := x1766.k k1728 (by decide)
  have k1784 : mK m1763 q922 = 17 := x1766.k k1729 (by decide)
  have k1785 : mK m1763 q1001 = 17 := x1766.k k1730 (by decide)
  have k1786 : mK m1763 q1084 = 15 := x1766.k k1731 (by decide)
  have k1787 : mK m1763 q1171 = 15 := x1766.k k1732 (by decide)
  have k1788 : mK m1763 q1262 = 15 := x1766.k k1733 (by decide)
  have k1789 : mK m1763 q1357 = 15 := x1766.k k1734 (by decide)
  have k1790 : mK m1763 q1552 = 15 := x1766.k k1735 (by decide)
  have k1791 : mK m1763 q1655 = 15 := x1766.k k1736 (by decide)
  have e1792 : mR m1763 t 1 = some q2 := x1766.r k1713 (by decide) rfl e1737
  have e1793 : mR m1763 t 2 = some q37 := x1766.r k1713 (by decide) rfl e1738
  have e1794 : mR m1763 t 3 = some q56 := x1766.r k1713 (by decide) rfl e1739
  have e1795 : mR m1763 t 4 = some q79 := x1766.r k1713 (by decide) rfl e1740
  have e1796 : mR m1763 t 12 = some q178 := x1766.r k1713 (by decide) rfl e1741
  have e1797 : mR m1763 t 13 = some q251 := x1766.r k1713 (by decide) rfl e1742
  have e1798 : mR m1763 t 14 = some q334 := x1766.r k1713 (by decide) rfl e1743
  have e1799 : mR m1763 t 17 = some q391 := x1766.r k1713 (by decide) rfl e1744
  have e1800 : mR m1763 t 18 = some q434 := x1766.r k1713 (by decide) rfl e1745
  have e1801 : mR m1763 t 20 = some q481 := x1766.r k1713 (by decide) rfl e1746
  have e1802 : mR m1763 t 21 = some q532 := x1766.r k1713 (by decide) rfl e1747
  have e1803 : mR m1763 t 22 = some q587 := x1766.r k1713 (by decide) rfl e1748
  have e1804 : mR m1763 t 23 = some q646 := x1766.r k1713 (by decide) rfl e1749
  have e1805 : mR m1763 t 24 = some q709 := x1766.r k1713 (by decide) rfl e1750
  have e1806 : mR m1763 t 25 = some q776 := x1766.r k1713 (by decide) rfl e1751
  have e1807 : mR m1763 t 26 = some q847 := x1766.r k1713 (by decide) rfl e1752
  have e1808 : mR m1763 t 27 = some q922 := x1766.r k1713 (by decide) rfl e1753
  have e1809 : mR m1763 t 28 = some q1001 := x1766.r k1713 (by decide) rfl e1754
  have e1810 : mR m1763 t 29 = some q1084 := x1766.r k1713 (by decide) rfl e1755
  have e1811 : mR m1763 t 30 = some q1171 := x1766.r k1713 (by decide) rfl e1756
  have e1812 : mR m1763 t 31 = some q1262 := x1766.r k1713 (by decide) rfl e1757
  have e1813 : mR m1763 t 32 = some q1357 := x1766.r k1713 (by decide) rfl e1758
  have e1814 : mR m1763 t 33 = some q1552 := x1766.r k1713 (by decide) rfl e1759
  have e1815 : mR m1763 t 34 = some q1655 := x1766.r k1713 (by decide) rfl e1760
  have k1816 : mK m1763 q1762 = 15 := by rw [e1765]; exact if_pos rfl
  obtain ⟨n1817, h⟩ := h
  refine at_putRF (index := 107) cok12 35 301 rfl (by decide +kernel) k1768 n1817 (by decide +kernel) tw_1120 rfl rfl rfl rfl (Or.inr ⟨_, rfl⟩) (fun m1818 e1819 => ?_)
  replace h := h m1818 e1819
  have x1820 : Ext m1763 m1818 := by rw [e1819]; exact Ext.sR _ (Or.inr n1817)
  have k1821 : mK m1818 q2 = 15 := x1820.k k1767 (by decide)
  have k1822 : mK m1818 t = 13 := x1820.k k1768 (by decide)
  have k1823 : mK m1818 q37 = 15 := x1820.k k1769 (by decide)
  have k1824 : mK m1818 q56 = 16 := x1820.k k1770 (by decide)
  have k1825 : mK m1818 q79 = 16 := x1820.k k1771 (by decide)
  have k1826 : mK m1818 q178 = 15 := x1820.k k1772 (by decide)
  have k1827 : mK m1818 q251 = 15 := x1820.k k1773 (by decide)
  have k1828 : mK m1818 q334 = 14 := x1820.k k1774 (by decide)
  have k1829 : mK m1818 q391 = 14 := x1820.k k1775 (by decide)
  have k1830 : mK m1818 q434 = 15 := x1820.k k1776 (by decide)
  have k1831 : mK m1818 q481 = 15 := x1820.k k1777 (by decide)
  have k1832 : mK m1818 q532 = 15 := x1820.k k1778 (by decide)
  have k1833 : mK m1818 q587 = 15 := x1820.k k1779 (by decide)
  have k1834 : mK m1818 q646 = 15 := x1820.k k1780 (by decide)
  have k1835 : mK m1818 q709 = 15 := x1820.k k1781 (by decide)
  have k1836 : mK m1818 q776 = 15 := x1820.k k1782 (by decide)
  have k1837 : mK m1818 q847 = 15 := x1820.k k1783 (by decide)
  have k1838 : mK m1818 q922 = 17 := x1820.k k1784 (by decide)
  have k1839 : mK m1818 q1001 = 17 := x1820.k k1785 (by decide)
  have k1840 : mK m1818 q1084 = 15 := x1820.k k1786 (by decide)
  have k1841 : mK m1818 q1171 = 15 := x1820.k k1787 (by decide)
  have k1842 : mK m1818 q1262 = 15 := x1820.k k1788 (by decide)
  have k1843 : mK m1818 q1357 = 15 := x1820.k k1789 (by decide)
  have k1844 : mK m1818 q1552 = 15 := x1820.k k1790 (by decide)
  have k1845 : mK m1818 q1655 = 15 := x1820.k k1791 (by decide)
  have k1846 : mK m1818 q1762 = 15 := x1820.k k1816 (by decide)
  have e1847 : mR m1818 t 1 = some q2 := x1820.r k1768 (by decide) rfl e1792
  have e1848 : mR m1818 t 2 = some q37 := x1820.r k1768 (by decide) rfl e1793
  have e1849 : mR m1818 t 3 = some q56 := x1820.r k1768 (by decide) rfl e1794
  have e1850 : mR m1818 t 4 = some q79 := x1820.r k1768 (by decide) rfl e1795
  have e1851 : mR m1818 t 12 = some q178 := x1820.r k1768 (by decide) rfl e1796
  have e1852 : mR m1818 t 13 = some q251 := x1820.r k1768 (by decide) rfl e1797
  have e1853 : mR m1818 t 14 = some q334 := x1820.r k1768 (by decide) rfl e1798
  have e1854 : mR m1818 t 17 = some q391 := x1820.r k1768 (by decide) rfl e1799
  have e1855 : mR m1818 t 18 = some q434 := x1820.r k1768 (by decide) rfl e1800
  have e1856 : mR m1818 t 20 = some q481 := x1820.r k1768 (by decide) rfl e1801
  have e1857 : mR m1818 t 21 = some q532 := x1820.r k1768 (by decide) rfl e1802
  have e1858 : mR m1818 t 22 = some q587 := x1820.r k1768 (by decide) rfl e1803
  have e1859 : mR m1818 t 23 = some q646 := x1820.r k1768 (by decide) rfl e1804
  have e1860 : mR m1818 t 24 = some q709 := x1820.r k1768 (by decide) rfl e1805
  have e1861 : mR m1818 t 25 = some q776 := x1820.r k1768 (by decide) rfl e1806
  have e1862 : mR m1818 t 26 = some q847 := x1820.r k1768 (by decide) rfl e1807
  have e1863 : mR m1818 t 27 = some q922 := x1820.r k1768 (by decide) rfl e1808
  have e1864 : mR m1818 t 28 = some q1001 := x1820.r k1768 (by decide) rfl e1809
  have e1865 : mR m1818 t 29 = some q1084 := x1820.r k1768 (by decide) rfl e1810
  have e1866 : mR m1818 t 30 = some q1171 := x1820.r k1768 (by decide) rfl e1811
  have e1867 : mR m1818 t 31 = some q1262 := x1820.r k1768 (by decide) rfl e1812
  have e1868 : mR m1818 t 32 = some q1357 := x1820.r k1768 (by decide) rfl e1813
  have e1869 : mR m1818 t 33 = some q1552 := x1820.r k1768 (by decide) rfl e1814
  have e1870 : mR m1818 t 34 = some q1655 := x1820.r k1768 (by decide) rfl e1815
  have e1871 : mR m1818 t 35 = some q1762 := by rw [e1819]; simp [mR, sR, up2]
  refine at_aload_n (i := 0) 0 302 rfl (by decide +kernel) rfl ?_
  refine at_bipush (n := 72) (72 : Int32) 304 rfl (by decide +kernel) (by decide +kernel) ?_
  obtain ⟨z1872, h⟩ := h
  refine at_newaI 306 rfl z1872 (by decide +kernel) tw_265 (by decide +kernel) (by decide +kernel) (fun q1873 m1874 e1875 e1876 => ?_)
  replace h := h q1873 m1874 e1875 e1876
  have x1877 : Ext m1818 m1874 := by rw [e1876, e1875]; exact Ext.nw z1872 _ _ _
  have k1878 : mK m1874 q2 = 15 := x1877.k k1821 (by decide)
  have k1879 : mK m1874 t = 13 := x1877.k k1822 (by decide)
  have k1880 : mK m1874 q37 = 15 := x1877.k k1823 (by decide)
  have k1881 : mK m1874 q56 = 16 := x1877.k k1824 (by decide)
  have k1882 : mK m1874 q79 = 16 := x1877.k k1825 (by decide)
  have k1883 : mK m1874 q178 = 15 := x1877.k k1826 (by decide)
  have k1884 : mK m1874 q251 = 15 := x1877.k k1827 (by decide)
  have k1885 : mK m1874 q334 = 14 := x1877.k k1828 (by decide)
  have k1886 : mK m1874 q391 = 14 := x1877.k k1829 (by decide)
  have k1887 : mK m1874 q434 = 15 := x1877.k k1830 (by decide)
  have k1888 : mK m1874 q481 = 15 := x1877.k k1831 (by decide)
  have k1889 : mK m1874 q532 = 15 := x1877.k k1832 (by decide)
  have k1890 : mK m1874 q587 = 15 := x1877.k k1833 (by decide)
  have k1891 : mK m1874 q646 = 15 := x1877.k k1834 (by decide)
  have k1892 : mK m1874 q709 = 15 := x1877.k k1835 (by decide)
  have k1893 : mK m1874 q776 = 15 := x1877.k k1836 (by decide)
  have k1894 : mK m1874 q847 = 15 := x1877.k k1837 (by decide)
  have k1895 : mK m1874 q922 = 17 := x1877.k k1838 (by decide)
  have k1896 : mK m1874 q1001 = 17 := x1877.k k1839 (by decide)
  have k1897 : mK m1874 q1084 = 15 := x1877.k k1840 (by decide)
  have k1898 : mK m1874 q1171 = 15 := x1877.k k1841 (by decide)
  have k1899 : mK m1874 q1262 = 15 := x1877.k k1842 (by decide)
  have k1900 : mK m1874 q1357 = 15 := x1877.k k1843 (by decide)
  have k1901 : mK m1874 q1552 = 15 := x1877.k k1844 (by decide)
  have k1902 : mK m1874 q1655 = 15 := x1877.k k1845 (by decide)
  have k1903 : mK m1874 q1762 = 15 := x1877.k k1846 (by decide)
  have e1904 : mR m1874 t 1 = some q2 := x1877.r k1822 (by decide) rfl e1847
  have e1905 : mR m1874 t 2 = some q37 := x1877.r k1822 (by decide) rfl e1848
  have e1906 : mR m1874 t 3 = some q56 := x1877.r k1822 (by decide) rfl e1849
  have e1907 : mR m1874 t 4 = some q79 := x1877.r k1822 (by decide) rfl e1850
  have e1908 : mR m1874 t 12 = some q178 := x1877.r k1822 (by decide) rfl e1851
  have e1909 : mR m1874 t 13 = some q251 := x1877.r k1822 (by decide) rfl e1852
  have e1910 : mR m1874 t 14 = some q334 := x1877.r k1822 (by decide) rfl e1853
  have e1911 : mR m1874 t 17 = some q391 := x1877.r k1822 (by decide) rfl e1854
  have e1912 : mR m1874 t 18 = some q434 := x1877.r k1822 (by decide) rfl e1855
  have e1913 : mR m1874 t 20 = some q481 := x1877.r k1822 (by decide) rfl e1856
  have e1914 : mR m1874 t 21 = some q532 := x1877.r k1822 (by decide) rfl e1857
  have e1915 : mR m1874 t 22 = some q587 := x1877.r k1822 (by decide) rfl e1858
  have e1916 : mR m1874 t 23 = some q646 := x1877.r k1822 (by decide) rfl e1859
  have e1917 : mR m1874 t 24 = some q709 := x1877.r k1822 (by decide) rfl e1860
  have e1918 : mR m1874 t 25 = some q776 := x1877.r k1822 (by decide) rfl e1861
  have e1919 : mR m1874 t 26 = some q847 := x1877.r k1822 (by decide) rfl e1862
  have e1920 : mR m1874 t 27 = some q922 := x1877.r k1822 (by decide) rfl e1863
  have e1921 : mR m1874 t 28 = some q1001 := x1877.r k1822 (by decide) rfl e1864
  have e1922 : mR m1874 t 29 = some q1084 := x1877.r k1822 (by decide) rfl e1865
  have e1923 : mR m1874 t 30 = some q1171 := x1877.r k1822 (by decide) rfl e1866
  have e1924 : mR m1874 t 31 = some q1262 := x1877.r k1822 (by decide) rfl e1867
  have e1925 : mR m1874 t 32 = some q1357 := x1877.r k1822 (by decide) rfl e1868
  have e1926 : mR m1874 t 33 = some q1552 := x1877.r k1822 (by decide) rfl e1869
  have e1927 : mR m1874 t 34 = some q1655 := x1877.r k1822 (by decide) rfl e1870
  have e1928 : mR m1874 t 35 = some q1762 := x1877.r k1822 (by decide) rfl e1871
  have k1929 : mK m1874 q1873 = 15 := by rw [e1876]; exact if_pos rfl
  obtain ⟨n1930, h⟩ := h
  refine at_putRF (index := 110) cok12 36 309 rfl (by decide +kernel) k1879 n1930 (by decide +kernel) tw_1121 rfl rfl rfl rfl (Or.inr ⟨_, rfl⟩) (fun m1931 e1932 => ?_)
  replace h := h m1931 e1932
  have x1933 : Ext m1874 m1931 := by rw [e1932]; exact Ext.sR _ (Or.inr n1930)
  have k1934 : mK m1931 q2 = 15 := x1933.k k1878 (by decide)
  have k1935 : mK m1931 t = 13 := x1933.k k1879 (by decide)
  have k1936 : mK m1931 q37 = 15 := x1933.k k1880 (by decide)
  have k1937 : mK m1931 q56 = 16 := x1933.k k1881 (by decide)
  have k1938 : mK m1931 q79 = 16 := x1933.k k1882 (by decide)
  have k1939 : mK m1931 q178 = 15 := x1933.k k1883 (by decide)
  have k1940 : mK m1931 q251 = 15 := x1933.k k1884 (by decide)
  have k1941 : mK m1931 q334 = 14 := x1933.k k1885 (by decide)
  have k1942 : mK m1931 q391 = 14 := x1933.k k1886 (by decide)
  have k1943 : mK m1931 q434 = 15 := x1933.k k1887 (by decide)
  have k1944 : mK m1931 q481 = 15 := x1933.k k1888 (by decide)
  have k1945 : mK m1931 q532 = 15 := x1933.k k1889 (by decide)
  have k1946 : mK m1931 q587 = 15 := x1933.k k1890 (by decide)
  have k1947 : mK m1931 q646 = 15 := x1933.k k1891 (by decide)
  have k1948 : mK m1931 q709 = 15 := x1933.k k1892 (by decide)
  have k1949 : mK m1931 q776 = 15 := x1933.k k1893 (by decide)
  have k1950 : mK m1931 q847 = 15 := x1933.k k1894 (by decide)
  have k1951 : mK m1931 q922 = 17 := x1933.k k1895 (by decide)
  have k1952 : mK m1931 q1001 = 17 := x1933.k k1896 (by decide)
  have k1953 : mK m1931 q1084 = 15 := x1933.k k1897 (by decide)
  have k1954 : mK m1931 q1171 = 15 := x1933.k k1898 (by decide)
  have k1955 : mK m1931 q1262 = 15 := x1933.k k1899 (by decide)
  have k1956 : mK m1931 q1357 = 15 := x1933.k k1900 (by decide)
  have k1957 : mK m1931 q1552 = 15 := x1933.k k1901 (by decide)
  have k1958 : mK m1931 q1655 = 15 := x1933.k k1902 (by decide)
  have k1959 : mK m1931 q1762 = 15 := x1933.k k1903 (by decide)
  have k1960 : mK m1931 q1873 = 15 := x1933.k k1929 (by decide)
  have e1961 : mR m1931 t 1 = some q2 := x1933.r k1879 (by decide) rfl e1904
  have e1962 : mR m1931 t 2 = some q37 := x1933.r k1879 (by decide) rfl e1905
  have e1963 : mR m1931 t 3 = some q56 := x1933.r k1879 (by decide) rfl e1906
  have e1964 : mR m1931 t 4 = some q79 := x1933.r k1879 (by decide) rfl e1907
  have e1965 : mR m1931 t 12 = some q178 := x1933.r k1879 (by decide) rfl e1908
  have e1966 : mR m1931 t 13 = some q251 := x1933.r k1879 (by decide) rfl e1909
  have e1967 : mR m1931 t 14 = some q334 := x1933.r k1879 (by decide) rfl e1910
  have e1968 : mR m1931 t 17 = some q391 := x1933.r k1879 (by decide) rfl e1911
  have e1969 : mR m1931 t 18 = some q434 := x1933.r k1879 (by decide) rfl e1912
  have e1970 : mR m1931 t 20 = some q481 := x1933.r k1879 (by decide) rfl e1913
  have e1971 : mR m1931 t 21 = some q532 := x1933.r k1879 (by decide) rfl e1914
  have e1972 : mR m1931 t 22 = some q587 := x1933.r k1879 (by decide) rfl e1915
  have e1973 : mR m1931 t 23 = some q646 := x1933.r k1879 (by decide) rfl e1916
  have e1974 : mR m1931 t 24 = some q709 := x1933.r k1879 (by decide) rfl e1917
  have e1975 : mR m1931 t 25 = some q776 := x1933.r k1879 (by decide) rfl e1918
  have e1976 : mR m1931 t 26 = some q847 := x1933.r k1879 (by decide) rfl e1919
  have e1977 : mR m1931 t 27 = some q922 := x1933.r k1879 (by decide) rfl e1920
  have e1978 : mR m1931 t 28 = some q1001 := x1933.r k1879 (by decide) rfl e1921
  have e1979 : mR m1931 t 29 = some q1084 := x1933.r k1879 (by decide) rfl e1922
  have e1980 : mR m1931 t 30 = some q1171 := x1933.r k1879 (by decide) rfl e1923
  have e1981 : mR m1931 t 31 = some q1262 := x1933.r k1879 (by decide) rfl e1924
  have e1982 : mR m1931 t 32 = some q1357 := x1933.r k1879 (by decide) rfl e1925
  have e1983 : mR m1931 t 33 = some q1552 := x1933.r k1879 (by decide) rfl e1926
  have e1984 : mR m1931 t 34 = some q1655 := x1933.r k1879 (by decide) rfl e1927
  have e1985 : mR m1931 t 35 = some q1762 := x1933.r k1879 (by decide) rfl e1928
  have e1986 : mR m1931 t 36 = some q1873 := by rw [e1932]; simp [mR, sR, up2]
  refine at_aload_n (i := 0) 0 310 rfl (by decide +kernel) rfl ?_
  refine at_bipush (n := 24) (24 : Int32) 312 rfl (by decide +kernel) (by decide +kernel) ?_
  obtain ⟨z1987, h⟩ := h
  refine at_newaI 314 rfl z1987 (by decide +kernel) tw_265 (by decide +kernel) (by decide +kernel) (fun q1988 m1989 e1990 e1991 => ?_)
  replace h := h q1988 m1989 e1990 e1991
  have x1992 : Ext m1931 m1989 := by rw [e1991, e1990]; exact Ext.nw z1987 _ _ _
  have k1993 : mK m1989 q2 = 15 := x1992.k k1934 (by decide)
  have k1994 : mK m1989 t = 13 := x1992.k k1935 (by decide)
  have k1995 : mK m1989 q37 = 15 := x1992.k k1936 (by decide)
  have k1996 : mK m1989 q56 = 16 := x1992.k k1937 (by decide)
  have k1997 : mK m1989 q79 = 16 := x1992.k k1938 (by decide)
  have k1998 : mK m1989 q178 = 15 := x1992.k k1939 (by decide)
  have k1999 : mK m1989 q251 = 15 := x1992.k k1940 (by decide)
  have k2000 : mK m1989 q334 = 14 := x1992.k k1941 (by decide)
  have k2001 : mK m1989 q391 = 14 := x1992.k k1942 (by decide)
  have k2002 : mK m1989 q434 = 15 := x1992.k k1943 (by decide)
  have k2003 : mK m1989 q481 = 15 := x1992.k k1944 (by decide)
  have k2004 : mK m1989 q532 = 15 := x1992.k k1945 (by decide)
  have k2005 : mK m1989 q587 = 15 := x1992.k k1946 (by decide)
  have k2006 : mK m1989 q646 = 15 := x1992.k k1947 (by decide)
  have k2007 : mK m1989 q709 = 15 := x1992.k k1948 (by decide)
  have k2008 : mK m1989 q776 = 15 := x1992.k k1949 (by decide)
  have k2009 : mK m1989 q847 = 15 := x1992.k k1950 (by decide)
  have k2010 : mK m1989 q922 = 17 := x1992.k k1951 (by decide)
  have k2011 : mK m1989 q1001 = 17 := x1992.k k1952 (by decide)
  have k2012 : mK m1989 q1084 = 15 := x1992.k k1953 (by decide)
  have k2013 : mK m1989 q1171 = 15 := x1992.k k1954 (by decide)
  have k2014 : mK m1989 q1262 = 15 := x1992.k k1955 (by decide)
  have k2015 : mK m1989 q1357 = 15 := x1992.k k1956 (by decide)
  have k2016 : mK m1989 q1552 = 15 := x1992.k k1957 (by decide)
  have k2017 : mK m1989 q1655 = 15 := x1992.k k1958 (by decide)
  have k2018 : mK m1989 q1762 = 15 := x1992.k k1959 (by decide)
  have k2019 : mK m1989 q1873 = 15 := x1992.k k1960 (by decide)
  have e2020 : mR m1989 t 1 = some q2 := x1992.r k1935 (by decide) rfl e1961
  have e2021 : mR m1989 t 2 = some q37 := x1992.r k1935 (by decide) rfl e1962
  have e2022 : mR m1989 t 3 = some q56 := x1992.r k1935 (by decide) rfl e1963
  have e2023 : mR m1989 t 4 = some q79 := x1992.r k1935 (by decide) rfl e1964
  have e2024 : mR m1989 t 12 = some q178 := x1992.r k1935 (by decide) rfl e1965
  have e2025 : mR m1989 t 13 = some q251 := x1992.r k1935 (by decide) rfl e1966
  have e2026 : mR m1989 t 14 = some q334 := x1992.r k1935 (by decide) rfl e1967
  have e2027 : mR m1989 t 17 = some q391 := x1992.r k1935 (by decide) rfl e1968
  have e2028 : mR m1989 t 18 = some q434 := x1992.r k1935 (by decide) rfl e1969
  have e2029 : mR m1989 t 20 = some q481 := x1992.r k1935 (by decide) rfl e1970
  have e2030 : mR m1989 t 21 = some q532 := x1992.r k1935 (by decide) rfl e1971
  have e2031 : mR m1989 t 22 = some q587 := x1992.r k1935 (by decide) rfl e1972
  have e2032 : mR m1989 t 23 = some q646 := x1992.r k1935 (by decide) rfl e1973
  have e2033 : mR m1989 t 24 = some q709 := x1992.r k1935 (by decide) rfl e1974
  have e2034 : mR m1989 t 25 = some q776 := x1992.r k1935 (by decide) rfl e1975
  have e2035 : mR m1989 t 26 = some q847 := x1992.r k1935 (by decide) rfl e1976
  have e2036 : mR m1989 t 27 = some q922 := x1992.r k1935 (by decide) rfl e1977
  have e2037 : mR m1989 t 28 = some q1001 := x1992.r k1935 (by decide) rfl e1978
  have e2038 : mR m1989 t 29 = some q1084 := x1992.r k1935 (by decide) rfl e1979
  have e2039 : mR m1989 t 30 = some q1171 := x1992.r k1935 (by decide) rfl e1980
  have e2040 : mR m1989 t 31 = some q1262 := x1992.r k1935 (by decide) rfl e1981
  have e2041 : mR m1989 t 32 = some q1357 := x1992.r k1935 (by decide) rfl e1982
  have e2042 : mR m1989 t 33 = some q1552 := x1992.r k1935 (by decide) rfl e1983
  have e2043 : mR m1989 t 34 = some q1655 := x1992.r k1935 (by decide) rfl e1984
  have e2044 : mR m1989 t 35 = some q1762 := x1992.r k1935 (by decide) rfl e1985
  have e2045 : mR m1989 t 36 = some q1873 := x1992.r k1935 (by decide) rfl e1986
  have k2046 : mK m1989 q1988 = 15 := by rw [e1991]; exact if_pos rfl
  obtain ⟨n2047, h⟩ := h
  refine at_putRF (index := 113) cok12 37 317 rfl (by decide +kernel) k1994 n2047 (by decide +kernel) tw_1122 rfl rfl rfl rfl (Or.inr ⟨_, rfl⟩) (fun m2048 e2049 => ?_)
  replace h := h m2048 e2049
  have x2050 : Ext m1989 m2048 := by rw [e2049]; exact Ext.sR _ (Or.inr n2047)
  have k2051 : mK m2048 q2 = 15 := x2050.k k1993 (by decide)
  have k2052 : mK m2048 t = 13 := x2050.k k1994 (by decide)
  have k2053 : mK m2048 q37 = 15 := x2050.k k1995 (by decide)
  have k2054 : mK m2048 q56 = 16 := x2050.k k1996 (by decide)
  have k2055 : mK m2048 q79 = 16 := x2050.k k1997 (by decide)
  have k2056 : mK m2048 q178 = 15 := x2050.k k1998 (by decide)
  have k2057 : mK m2048 q251 = 15 := x2050.k k1999 (by decide)
  have k2058 : mK m2048 q334 = 14 := x2050.k k2000 (by decide)
  have k2059 : mK m2048 q391 = 14 := x2050.k k2001 (by decide)
  have k2060 : mK m2048 q434 = 15 := x2050.k k2002 (by decide)
  have k2061 : mK m2048 q481 = 15 := x2050.k k2003 (by decide)
  have k2062 : mK m2048 q532 = 15 := x2050.k k2004 (by decide)
  have k2063 : mK m2048 q587 = 15 := x2050.k k2005 (by decide)
  have k2064 : mK m2048 q646 = 15 := x2050.k k2006 (by decide)
  have k2065 : mK m2048 q709 = 15 := x2050.k k2007 (by decide)
  have k2066 : mK m2048 q776 = 15 := x2050.k k2008 (by decide)
  have k2067 : mK m2048 q847 = 15 := x2050.k k2009 (by decide)
  have k2068 : mK m2048 q922 = 17 := x2050.k k2010 (by decide)
  have k2069 : mK m2048 q1001 = 17 := x2050.k k2011 (by decide)
  have k2070 : mK m2048 q1084 = 15 := x2050.k k2012 (by decide)
  have k2071 : mK m2048 q1171 = 15 := x2050.k k2013 (by decide)
  have k2072 : mK m2048 q1262 = 15 := x2050.k k2014 (by decide)
  have k2073 : mK m2048 q1357 = 15 := x2050.k k2015 (by decide)
  have k2074 : mK m2048 q1552 = 15 := x2050.k k2016 (by decide)
  have k2075 : mK m2048 q1655 = 15 := x2050.k k2017 (by decide)
  have k2076 : mK m2048 q1762 = 15 := x2050.k k2018 (by decide)
  have k2077 : mK m2048 q1873 = 15 := x2050.k k2019 (by decide)
  have k2078 : mK m2048 q1988 = 15 := x2050.k k2046 (by decide)
  have e2079 : mR m2048 t 1 = some q2 := x2050.r k1994 (by decide) rfl e2020
  have e2080 : mR m2048 t 2 = some q37 := x2050.r k1994 (by decide) rfl e2021
  have e2081 : mR m2048 t 3 = some q56 := x2050.r k1994 (by decide) rfl e2022
  have e2082 : mR m2048 t 4 = some q79 := x2050.r k1994 (by decide) rfl e2023
  have e2083 : mR m2048 t 12 = some q178 := x2050.r k1994 (by decide) rfl e2024
  have e2084 : mR m2048 t 13 = some q251 := x2050.r k1994 (by decide) rfl e2025
  have e2085 : mR m2048 t 14 = some q334 := x2050.r k1994 (by decide) rfl e2026
  have e2086 : mR m2048 t 17 = some q391 := x2050.r k1994 (by decide) rfl e2027
  have e2087 : mR m2048 t 18 = some q434 := x2050.r k1994 (by decide) rfl e2028
  have e2088 : mR m2048 t 20 = some q481 := x2050.r k1994 (by decide) rfl e2029
  have e2089 : mR m2048 t 21 = some q532 := x2050.r k1994 (by decide) rfl e2030
  have e2090 : mR m2048 t 22 = some q587 := x2050.r k1994 (by decide) rfl e2031
  have e2091 : mR m2048 t 23 = some q646 := x2050.r k1994 (by decide) rfl e2032
  have e2092 : mR m2048 t 24 = some q709 := x2050.r k1994 (by decide) rfl e2033
  have e2093 : mR m2048 t 25 = some q776 := x2050.r k1994 (by decide) rfl e2034
  have e2094 : mR m2048 t 26 = some q847 := x2050.r k1994 (by decide) rfl e2035
  have e2095 : mR m2048 t 27 = some q922 := x2050.r k1994 (by decide) rfl e2036
  have e2096 : mR m2048 t 28 = some q1001 := x2050.r k1994 (by decide) rfl e2037
  have e2097 : mR m2048 t 29 = some q1084 := x2050.r k1994 (by decide) rfl e2038
  have e2098 : mR m2048 t 30 = some q1171 := x2050.r k1994 (by decide) rfl e2039
  have e2099 : mR m2048 t 31 = some q1262 := x2050.r k1994 (by decide) rfl e2040
  have e2100 : mR m2048 t 32 = some q1357 := x2050.r k1994 (by decide) rfl e2041
  have e2101 : mR m2048 t 33 = some q1552 := x2050.r k1994 (by decide) rfl e2042
  have e2102 : mR m2048 t 34 = some q1655 := x2050.r k1994 (by decide) rfl e2043
  have e2103 : mR m2048 t 35 = some q1762 := x2050.r k1994 (by decide) rfl e2044
  have e2104 : mR m2048 t 36 = some q1873 := x2050.r k1994 (by decide) rfl e2045
  have e2105 : mR m2048 t 37 = some q1988 := by rw [e2049]; simp [mR, sR, up2]
  refine at_aload_n (i := 0) 0 318 rfl (by decide +kernel) rfl ?_
  refine at_bipush (n := 24) (24 : Int32) 320 rfl (by decide +kernel) (by decide +kernel) ?_
  obtain ⟨z2106, h⟩ := h
  refine at_newaJ 322 rfl z2106 (by decide +kernel) tw_199 (by decide +kernel) (by decide +kernel) (fun q2107 m2108 e2109 e2110 => ?_)
  replace h := h q2107 m2108 e2109 e2110
  have x2111 : Ext m2048 m2108 := by rw [e2110, e2109]; exact Ext.nw z2106 _ _ _
  have k2112 : mK m2108 q2 = 15 := x2111.k k2051 (by decide)
  have k2113 : mK m2108 t = 13 := x2111.k k2052 (by decide)
  have k2114 : mK m2108 q37 = 15 := x2111.k k2053 (by decide)
  have k2115 : mK m2108 q56 = 16 := x2111.k k2054 (by decide)
  have k2116 : mK m2108 q79 = 16 := x2111.k k2055 (by decide)
  have k2117 : mK m2108 q178 = 15 := x2111.k k2056 (by decide)
  have k2118 : mK m2108 q251 = 15 := x2111.k k2057 (by decide)
  have k2119 : mK m2108 q334 = 14 := x2111.k k2058 (by decide)
  have k2120 : mK m2108 q391 = 14 := x2111.k k2059 (by decide)
  have k2121 : mK m2108 q434 = 15 := x2111.k k2060 (by decide)
  have k2122 : mK m2108 q481 = 15 := x2111.k k2061 (by decide)
  have k2123 : mK m2108 q532 = 15 := x2111.k k2062 (by decide)
  have k2124 : mK m2108 q587 = 15 := x2111.k k2063 (by decide)
  have k2125 : mK m2108 q646 = 15 := x2111.k k2064 (by decide)
  have k2126 : mK m2108 q709 = 15 := x2111.k k2065 (by decide)
  have k2127 : mK m2108 q776 = 15 := x2111.k k2066 (by decide)
  have k2128 : mK m2108 q847 = 15 := x2111.k k2067 (by decide)
  have k2129 : mK m2108 q922 = 17 := x2111.k k2068 (by decide)
  have k2130 : mK m2108 q1001 = 17 := x2111.k k2069 (by decide)
  have k2131 : mK m2108 q1084 = 15 := x2111.k k2070 (by decide)
  have k2132 : mK m2108 q1171 = 15 := x2111.k k2071 (by decide)
  have k2133 : mK m2108 q1262 = 15 := x2111.k k2072 (by decide)
  have k2134 : mK m2108 q1357 = 15 := x2111.k k2073 (by decide)
  have k2135 : mK m2108 q1552 = 15 := x2111.k k2074 (by decide)
  have k2136 : mK m2108 q1655 = 15 := x2111.k k2075 (by decide)
  have k2137 : mK m2108 q1762 = 15 := x2111.k k2076 (by decide)
  have k2138 : mK m2108 q1873 = 15 := x2111.k k2077 (by decide)
  have k2139 : mK m2108 q1988 = 15 := x2111.k k2078 (by decide)
  have e2140 : mR m2108 t 1 = some q2 := x2111.r k2052 (by decide) rfl e2079
  have e2141 : mR m2108 t 2 = some q37 := x2111.r k2052 (by decide) rfl e2080
  have e2142 : mR m2108 t 3 = some q56 := x2111.r k2052 (by decide) rfl e2081
  have e2143 : mR m2108 t 4 = some q79 := x2111.r k2052 (by decide) rfl e2082
  have e2144 : mR m2108 t 12 = some q178 := x2111.r k2052 (by decide) rfl e2083
  have e2145 : mR m2108 t 13 = some q251 := x2111.r k2052 (by decide) rfl e2084
  have e2146 : mR m2108 t 14 = some q334 := x2111.r k2052 (by decide) rfl e2085
  have e2147 : mR m2108 t 17 = some q391 := x2111.r k2052 (by decide) rfl e2086
  have e2148 : mR m2108 t 18 = some q434 := x2111.r k2052 (by decide) rfl e2087
  have e2149 : mR m2108 t 20 = some q481 := x2111.r k2052 (by decide) rfl e2088
  have e2150 : mR m2108 t 21 = some q532 := x2111.r k2052 (by decide) rfl e2089
  have e2151 : mR m2108 t 22 = some q587 := x2111.r k2052 (by decide) rfl e2090
  have e2152 : mR m2108 t 23 = some q646 := x2111.r k2052 (by decide) rfl e2091
  have e2153 : mR m2108 t 24 = some q709 := x2111.r k2052 (by decide) rfl e2092
  have e2154 : mR m2108 t 25 = some q776 := x2111.r k2052 (by decide) rfl e2093
  have e2155 : mR m2108 t 26 = some q847 := x2111.r k2052 (by decide) rfl e2094
  have e2156 : mR m2108 t 27 = some q922 := x2111.r k2052 (by decide) rfl e2095
  have e2157 : mR m2108 t 28 = some q1001 := x2111.r k2052 (by decide) rfl e2096
  have e2158 : mR m2108 t 29 = some q1084 := x2111.r k2052 (by decide) rfl e2097
  have e2159 : mR m2108 t 30 = some q1171 := x2111.r k2052 (by decide) rfl e2098
  have e2160 : mR m2108 t 31 = some q1262 := x2111.r k2052 (by decide) rfl e2099
  have e2161 : mR m2108 t 32 = some q1357 := x2111.r k2052 (by decide) rfl e2100
  have e2162 : mR m2108 t 33 = some q1552 := x2111.r k2052 (by decide) rfl e2101
  have e2163 : mR m2108 t 34 = some q1655 := x2111.r k2052 (by decide) rfl e2102
  have e2164 : mR m2108 t 35 = some q1762 := x2111.r k2052 (by decide) rfl e2103
  have e2165 : mR m2108 t 36 = some q1873 := x2111.r k2052 (by decide) rfl e2104
  have e2166 : mR m2108 t 37 = some q1988 := x2111.r k2052 (by decide) rfl e2105
  have k2167 : mK m2108 q2107 = 16 := by rw [e2110]; exact if_pos rfl
  obtain ⟨n2168, h⟩ := h
  refine at_putRF (index := 116) cok12 38 325 rfl (by decide +kernel) k2113 n2168 (by decide +kernel) tw_1123 rfl rfl rfl rfl (Or.inr ⟨_, rfl⟩) (fun m2169 e2170 => ?_)
  replace h := h m2169 e2170
  have x2171 : Ext m2108 m2169 := by rw [e2170]; exact Ext.sR _ (Or.inr n2168)
  have k2172 : mK m2169 q2 = 15 := x2171.k k2112 (by decide)
  have k2173 : mK m2169 t = 13 := x2171.k k2113 (by decide)
  have k2174 : mK m2169 q37 = 15 := x2171.k k2114 (by decide)
  have k2175 : mK m2169 q56 = 16 := x2171.k k2115 (by decide)
  have k2176 : mK m2169 q79 = 16 := x2171.k k2116 (by decide)
  have k2177 : mK m2169 q178 = 15 := x2171.k k2117 (by decide)
  have k2178 : mK m2169 q251 = 15 := x2171.k k2118 (by decide)
  have k2179 : mK m2169 q334 = 14 := x2171.k k2119 (by decide)
  have k2180 : mK m2169 q391 = 14 := x2171.k k2120 (by decide)
  have k2181 : mK m2169 q434 = 15 := x2171.k k2121 (by decide)
  have k2182 : mK m2169 q481 = 15 := x2171.k k2122 (by decide)
  have k2183 : mK m2169 q532 = 15 := x2171.k k2123 (by decide)
  have k2184 : mK m2169 q587 = 15 := x2171.k k2124 (by decide)
  have k2185 : mK m2169 q646 = 15 := x2171.k k2125 (by decide)
  have k2186 : mK m2169 q709 = 15 := x2171.k k2126 (by decide)
  have k2187 : mK m2169 q776 = 15 := x2171.k k2127 (by decide)
  have k2188 : mK m2169 q847 = 15 := x2171.k k2128 (by decide)
  have k2189 : mK m2169 q922 = 17 := x2171.k k2129 (by decide)
  have k2190 : mK m2169 q1001 = 17 := x2171.k k2130 (by decide)
  have k2191 : mK m2169 q1084 = 15 := x2171.k k2131 (by decide)
  have k2192 : mK m2169 q1171 = 15 := x2171.k k2132 (by decide)
  have k2193 : mK m2169 q1262 = 15 := x2171.k k2133 (by decide)
  have k2194 : mK m2169 q1357 = 15 := x2171.k k2134 (by decide)
  have k2195 : mK m2169 q1552 = 15 := x2171.k k2135 (by decide)
  have k2196 : mK m2169 q1655 = 15 := x2171.k k2136 (by decide)
  have k2197 : mK m2169 q1762 = 15 := x2171.k k2137 (by decide)
  have k2198 : mK m2169 q1873 = 15 := x2171.k k2138 (by decide)
  have k2199 : mK m2169 q1988 = 15 := x2171.k k2139 (by decide)
  have k2200 : mK m2169 q2107 = 16 := x2171.k k2167 (by decide)
  have e2201 : mR m2169 t 1 = some q2 := x2171.r k2113 (by decide) rfl e2140
  have e2202 : mR m2169 t 2 = some q37 := x2171.r k2113 (by decide) rfl e2141
  have e2203 : mR m2169 t 3 = some q56 := x2171.r k2113 (by decide) rfl e2142
  have e2204 : mR m2169 t 4 = some q79 := x2171.r k2113 (by decide) rfl e2143
  have e2205 : mR m2169 t 12 = some q178 := x2171.r k2113 (by decide) rfl e2144
  have e2206 : mR m2169 t 13 = some q251 := x2171.r k2113 (by decide) rfl e2145
  have e2207 : mR m2169 t 14 = some q334 := x2171.r k2113 (by decide) rfl e2146
  have e2208 : mR m2169 t 17 = some q391 := x2171.r k2113 (by decide) rfl e2147
  have e2209 : mR m2169 t 18 = some q434 := x2171.r k2113 (by decide) rfl e2148
  have e2210 : mR m2169 t 20 = some q481 := x2171.r k2113 (by decide) rfl e2149
  have e2211 : mR m2169 t 21 = some q532 := x2171.r k2113 (by decide) rfl e2150
  have e2212 : mR m2169 t 22 = some q587 := x2171.r k2113 (by decide) rfl e2151
  have e2213 : mR m2169 t 23 = some q646 := x2171.r k2113 (by decide) rfl e2152
  have e2214 : mR m2169 t 24 = some q709 := x2171.r k2113 (by decide) rfl e2153
  have e2215 : mR m2169 t 25 = some q776 := x2171.r k2113 (by decide) rfl e2154
  have e2216 : mR m2169 t 26 = some q847 := x2171.r k2113 (by decide) rfl e2155
  have e2217 : mR m2169 t 27 = some q922 := x2171.r k2113 (by decide) rfl e2156
  have e2218 : mR m2169 t 28 = some q1001 := x2171.r k2113 (by decide) rfl e2157
  have e2219 : mR m2169 t 29 = some q1084 := x2171.r k2113 (by decide) rfl e2158
  have e2220 : mR m2169 t 30 = some q1171 := x2171.r k2113 (by decide) rfl e2159
  have e2221 : mR m2169 t 31 = some q1262 := x2171.r k2113 (by decide) rfl e2160
  have e2222 : mR m2169 t 32 = some q1357 := x2171.r k2113 (by decide) rfl e2161
  have e2223 : mR m2169 t 33 = some q1552 := x2171.r k2113 (by decide) rfl e2162
  have e2224 : mR m2169 t 34 = some q1655 := x2171.r k2113 (by decide) rfl e2163
  have e2225 : mR m2169 t 35 = some q1762 := x2171.r k2113 (by decide) rfl e2164
  have e2226 : mR m2169 t 36 = some q1873 := x2171.r k2113 (by decide) rfl e2165
  have e2227 : mR m2169 t 37 = some q1988 := x2171.r k2113 (by decide) rfl e2166
  have e2228 : mR m2169 t 38 = some q2107 := by rw [e2170]; simp [mR, sR, up2]
  refine at_aload_n (i := 0) 0 326 rfl (by decide +kernel) rfl ?_
  refine at_bipush (n := 30) (30 : Int32) 328 rfl (by decide +kernel) (by decide +kernel) ?_
  obtain ⟨z2229, h⟩ := h
  refine at_newaJ 330 rfl z2229 (by decide +kernel) tw_199 (by decide +kernel) (by decide +kernel) (fun q2230 m2231 e2232 e2233 => ?_)
  replace h := h q2230 m2231 e2232 e2233
  have x2234 : Ext m2169 m2231 := by rw [e2233, e2232]; exact Ext.nw z2229 _ _ _
  have k2235 : mK m2231 q2 = 15 := x2234.k k2172 (by decide)
  have k2236 : mK m2231 t = 13 := x2234.k k2173 (by decide)
  have k2237 : mK m2231 q37 = 15 := x2234.k k2174 (by decide)
  have k2238 : mK m2231 q56 = 16 := x2234.k k2175 (by decide)
  have k2239 : mK m2231 q79 = 16 := x2234.k k2176 (by decide)
  have k2240 : mK m2231 q178 = 15 := x2234.k k2177 (by decide)
  have k2241 : mK m2231 q251 = 15 := x2234.k k2178 (by decide)
  have k2242 : mK m2231 q334 = 14 := x2234.k k2179 (by decide)
  have k2243 : mK m2231 q391 = 14 := x2234.k k2180 (by decide)
  have k2244 : mK m2231 q434 = 15 := x2234.k k2181 (by decide)
  have k2245 : mK m2231 q481 = 15 := x2234.k k2182 (by decide)
  have k2246 : mK m2231 q532 = 15 := x2234.k k2183 (by decide)
  have k2247 : mK m2231 q587 = 15 := x2234.k k2184 (by decide)
  have k2248 : mK m2231 q646 = 15 := x2234.k k2185 (by decide)
  have k2249 : mK m2231 q709 = 15 := x2234.k k2186 (by decide)
  have k2250 : mK m2231 q776 = 15 := x2234.k k2187 (by decide)
  have k2251 : mK m2231 q847 = 15 := x2234.k k2188 (by decide)
  have k2252 : mK m2231 q922 = 17 := x2234.k k2189 (by decide)
  have k2253 : mK m2231 q1001 = 17 := x2234.k k2190 (by decide)
  have k2254 : mK m2231 q1084 = 15 := x2234.k k2191 (by decide)
  have k2255 : mK m2231 q1171 = 15 := x2234.k k2192 (by decide)
  have k2256 : mK m2231 q1262 = 15 := x2234.k k2193 (by decide)
  have k2257 : mK m2231 q1357 = 15 := x2234.k k2194 (by decide)
  have k2258 : mK m2231 q1552 = 15 := x2234.k k2195 (by decide)
  have k2259 : mK m2231 q1655 = 15 := x2234.k k2196 (by decide)
  have k2260 : mK m2231 q1762 = 15 := x2234.k k2197 (by decide)
  have k2261 : mK m2231 q1873 = 15 := x2234.k k2198 (by decide)
  have k2262 : mK m2231 q1988 = 15 := x2234.k k2199 (by decide)
  have k2263 : mK m2231 q2107 = 16 := x2234.k k2200 (by decide)
  have e2264 : mR m2231 t 1 = some q2 := x2234.r k2173 (by decide) rfl e2201
  have e2265 : mR m2231 t 2 = some q37 := x2234.r k2173 (by decide) rfl e2202
  have e2266 : mR m2231 t 3 = some q56 := x2234.r k2173 (by decide) rfl e2203
  have e2267 : mR m2231 t 4 = some q79 := x2234.r k2173 (by decide) rfl e2204
  have e2268 : mR m2231 t 12 = some q178 := x2234.r k2173 (by decide) rfl e2205
  have e2269 : mR m2231 t 13 = some q251 := x2234.r k2173 (by decide) rfl e2206
  have e2270 : mR m2231 t 14 = some q334 := x2234.r k2173 (by decide) rfl e2207
  have e2271 : mR m2231 t 17 = some q391 := x2234.r k2173 (by decide) rfl e2208
  have e2272 : mR m2231 t 18 = some q434 := x2234.r k2173 (by decide) rfl e2209
  have e2273 : mR m2231 t 20 = some q481 := x2234.r k2173 (by decide) rfl e2210
  have e2274 : mR m2231 t 21 = some q532 := x2234.r k2173 (by decide) rfl e2211
  have e2275 : mR m2231 t 22 = some q587 := x2234.r k2173 (by decide) rfl e2212
  have e2276 : mR m2231 t 23 = some q646 := x2234.r k2173 (by decide) rfl e2213
  have e2277 : mR m2231 t 24 = some q709 := x2234.r k2173 (by decide) rfl e2214
  have e2278 : mR m2231 t 25 = some q776 := x2234.r k2173 (by decide) rfl e2215
  have e2279 : mR m2231 t 26 = some q847 := x2234.r k2173 (by decide) rfl e2216
  have e2280 : mR m2231 t 27 = some q922 := x2234.r k2173 (by decide) rfl e2217
  have e2281 : mR m2231 t 28 = some q1001 := x2234.r k2173 (by decide) rfl e2218
  have e2282 : mR m2231 t 29 = some q1084 := x2234.r k2173 (by decide) rfl e2219
  have e2283 : mR m2231 t 30 = some q1171 := x2234.r k2173 (by decide) rfl e2220
  have e2284 : mR m2231 t 31 = some q1262 := x2234.r k2173 (by decide) rfl e2221
  have e2285 : mR m2231 t 32 = some q1357 := x2234.r k2173 (by decide) rfl e2222
  have e2286 : mR m2231 t 33 = some q1552 := x2234.r k2173 (by decide) rfl e2223
  have e2287 : mR m2231 t 34 = some q1655 := x2234.r k2173 (by decide) rfl e2224
  have e2288 : mR m2231 t 35 = some q1762 := x2234.r k2173 (by decide) rfl e2225
  have e2289 : mR m2231 t 36 = some q1873 := x2234.r k2173 (by decide) rfl e2226
  have e2290 : mR m2231 t 37 = some q1988 := x2234.r k2173 (by decide) rfl e2227
  have e2291 : mR m2231 t 38 = some q2107 := x2234.r k2173 (by decide) rfl e2228
  have k2292 : mK m2231 q2230 = 16 := by rw [e2233]; exact if_pos rfl
  obtain ⟨n2293, h⟩ := h
  refine at_putRF (index := 119) cok12 39 333 rfl (by decide +kernel) k2236 n2293 (by decide +kernel) tw_1124 rfl rfl rfl rfl (Or.inr ⟨_, rfl⟩) (fun m2294 e2295 => ?_)
  replace h := h m2294 e2295
  have x2296 : Ext m2231 m2294 := by rw [e2295]; exact Ext.sR _ (Or.inr n2293)
  have k2297 : mK m2294 q2 = 15 := x2296.k k2235 (by decide)
  have k2298 : mK m2294 t = 13 := x2296.k k2236 (by decide)
  have k2299 : mK m2294 q37 = 15 := x2296.k k2237 (by decide)
  have k2300 : mK m2294 q56 = 16 := x2296.k k2238 (by decide)
  have k2301 : mK m2294 q79 = 16 := x2296.k k2239 (by decide)
  have k2302 : mK m2294 q178 = 15 := x2296.k k2240 (by decide)
  have k2303 : mK m2294 q251 = 15 := x2296.k k2241 (by decide)
  have k2304 : mK m2294 q334 = 14 := x2296.k k2242 (by decide)
  have k2305 : mK m2294 q391 = 14 := x2296.k k2243 (by decide)
  have k2306 : mK m2294 q434 = 15 := x2296.k k2244 (by decide)
  have k2307 : mK m2294 q481 = 15 := x2296.k k2245 (by decide)
  have k2308 : mK m2294 q532 = 15 := x2296.k k2246 (by decide)
  have k2309 : mK m2294 q587 = 15 := x2296.k k2247 (by decide)
  have k2310 : mK m2294 q646 = 15 := x2296.k k2248 (by decide)
  have k2311 : mK m2294 q709 = 15 := x2296.k k2249 (by decide)
  have k2312 : mK m2294 q776 = 15 := x2296.k k2250 (by decide)
  have k2313 : mK m2294 q847 = 15 := x2296.k k2251 (by decide)
  have k2314 : mK m2294 q922 = 17 := x2296.k k2252 (by decide)
  have k2315 : mK m2294 q1001 = 17 := x2296.k k2253 (by decide)
  have k2316 : mK m2294 q1084 = 15 := x2296.k k2254 (by decide)
  have k2317 : mK m2294 q1171 = 15 := x2296.k k2255 (by decide)
  have k2318 : mK m2294 q1262 = 15 := x2296.k k2256 (by decide)
  have k2319 : mK m2294 q1357 = 15 := x2296.k k2257 (by decide)
  have k2320 : mK m2294 q1552 = 15 := x2296.k k2258 (by decide)
  have k2321 : mK m2294 q1655 = 15 := x2296.k k2259 (by decide)
  have k2322 : mK m2294 q1762 = 15 := x2296.k k2260 (by decide)
  have k2323 : mK m2294 q1873 = 15 := x2296.k k2261 (by decide)
  have k2324 : mK m2294 q1988 = 15 := x2296.k k2262 (by decide)
  have k2325 : mK m2294 q2107 = 16 := x2296.k k2263 (by decide)
  have k2326 : mK m2294 q2230 = 16 := x2296.k k2292 (by decide)
  have e2327 : mR m2294 t 1 = some q2 := x2296.r k2236 (by decide) rfl e2264
  have e2328 : mR m2294 t 2 = some q37 := x2296.r k2236 (by decide) rfl e2265
  have e2329 : mR m2294 t 3 = some q56 := x2296.r k2236 (by decide) rfl e2266
  have e2330 : mR m2294 t 4 = some q79 := x2296.r k2236 (by decide) rfl e2267
  have e2331 : mR m2294 t 12 = some q178 := x2296.r k2236 (by decide) rfl e2268
  have e2332 : mR m2294 t 13 = some q251 := x2296.r k2236 (by decide) rfl e2269
  have e2333 : mR m2294 t 14 = some q334 := x2296.r k2236 (by decide) rfl e2270
  have e2334 : mR m2294 t 17 = some q391 := x2296.r k2236 (by decide) rfl e2271
  have e2335 : mR m2294 t 18 = some q434 := x2296.r k2236 (by decide) rfl e2272
  have e2336 : mR m2294 t 20 = some q481 := x2296.r k2236 (by decide) rfl e2273
  have e2337 : mR m2294 t 21 = some q532 := x2296.r k2236 (by decide) rfl e2274
  have e2338 : mR m2294 t 22 = some q587 := x2296.r k2236 (by decide) rfl e2275
  have e2339 : mR m2294 t 23 = some q646 := x2296.r k2236 (by decide) rfl e2276
  have e2340 : mR m2294 t 24 = some q709 := x2296.r k2236 (by decide) rfl e2277
  have e2341 : mR m2294 t 25 = some q776 := x2296.r k2236 (by decide) rfl e2278
  have e2342 : mR m2294 t 26 = some q847 := x2296.r k2236 (by decide) rfl e2279
  have e2343 : mR m2294 t 27 = some q922 := x2296.r k2236 (by decide) rfl e2280
  have e2344 : mR m2294 t 28 = some q1001 := x2296.r k2236 (by decide) rfl e2281
  have e2345 : mR m2294 t 29 = some q1084 := x2296.r k2236 (by decide) rfl e2282
  have e2346 : mR m2294 t 30 = some q1171 := x2296.r k2236 (by decide) rfl e2283
  have e2347 : mR m2294 t 31 = some q1262 := x2296.r k2236 (by decide) rfl e2284
  have e2348 : mR m2294 t 32 = some q1357 := x2296.r k2236 (by decide) rfl e2285
  have e2349 : mR m2294 t 33 = some q1552 := x2296.r k2236 (by decide) rfl e2286
  have e2350 : mR m2294 t 34 = some q1655 := x2296.r k2236 (by decide) rfl e2287
  have e2351 : mR m2294 t 35 = some q1762 := x2296.r k2236 (by decide) rfl e2288
  have e2352 : mR m2294 t 36 = some q1873 := x2296.r k2236 (by decide) rfl e2289
  have e2353 : mR m2294 t 37 = some q1988 := x2296.r k2236 (by decide) rfl e2290
  have e2354 : mR m2294 t 38 = some q2107 := x2296.r k2236 (by decide) rfl e2291
  have e2355 : mR m2294 t 39 = some q2230 := by rw [e2295]; simp [mR, sR, up2]
  refine at_aload_n (i := 0) 0 334 rfl (by decide +kernel) rfl ?_
  refine at_sipush (n := 800) (800 : Int32) 337 rfl (by decide +kernel) (by decide +kernel) ?_
  obtain ⟨z2356, h⟩ := h
  refine at_newaI 339 rfl z2356 (by decide +kernel) tw_265 (by decide +kernel) (by decide +kernel) (fun q2357 m2358 e2359 e2360 => ?_)
  replace h := h q2357 m2358 e2359 e2360
  have x2361 : Ext m2294 m2358 := by rw [e2360, e2359]; exact Ext.nw z2356 _ _ _
  have k2362 : mK m2358 q2 = 15 := x2361.k k2297 (by decide)
  have k2363 : mK m2358 t = 13 := x2361.k k2298 (by decide)
  have k2364 : mK m2358 q37 = 15 := x2361.k k2299 (by decide)
  have k2365 : mK m2358 q56 = 16 := x2361.k k2300 (by decide)
  have k2366 : mK m2358 q79 = 16 := x2361.k k2301 (by decide)
  have k2367 : mK m2358 q178 = 15 := x2361.k k2302 (by decide)
  have k2368 : mK m2358 q251 = 15 := x2361.k k2303 (by decide)
  have k2369 : mK m2358 q334 = 14 := x2361.k k2304 (by decide)
  have k2370 : mK m2358 q391 = 14 := x2361.k k2305 (by decide)
  have k2371 : mK m2358 q434 = 15 := x2361.k k2306 (by decide)
  have k2372 : mK m2358 q481 = 15 := x2361.k k2307 (by decide)
  have k2373 : mK m2358 q532 = 15 := x2361.k k2308 (by decide)
  have k2374 : mK m2358 q587 = 15 := x2361.k k2309 (by decide)
  have k2375 : mK m2358 q646 = 15 := x2361.k k2310 (by decide)
  have k2376 : mK m2358 q709 = 15 := x2361.k k2311 (by decide)
  have k2377 : mK m2358 q776 = 15 := x2361.k k2312 (by decide)
  have k2378 : mK m2358 q847 = 15 := x2361.k k2313 (by decide)
  have k2379 : mK m2358 q922 = 17 := x2361.k k2314 (by decide)
  have k2380 : mK m2358 q1001 = 17 := x2361.k k2315 (by decide)
  have k2381 : mK m2358 q1084 = 15 := x2361.k k2316 (by decide)
  have k2382 : mK m2358 q1171 = 15 := x2361.k k2317 (by decide)
  have k2383 : mK m2358 q1262 = 15 := x2361.k k2318 (by decide)
  have k2384 : mK m2358 q1357 = 15 := x2361.k k2319 (by decide)
  have k2385 : mK m2358 q1552 = 15 := x2361.k k2320 (by decide)
  have k2386 : mK m2358 q1655 = 15 := x2361.k k2321 (by decide)
  have k2387 : mK m2358 q1762 = 15 := x2361.k k2322 (by decide)
  have k2388 : mK m2358 q1873 = 15 := x2361.k k2323 (by decide)
  have k2389 : mK m2358 q1988 = 15 := x2361.k k2324 (by decide)
  have k2390 : mK m2358 q2107 = 16 := x2361.k k2325 (by decide)
  have k2391 : mK m2358 q2230 = 16 := x2361.k k2326 (by decide)
  have e2392 : mR m2358 t 1 = some q2 := x2361.r k2298 (by decide) rfl e2327
  have e2393 : mR m2358 t 2 = some q37 := x2361.r k2298 (by decide) rfl e2328
  have e2394 : mR m2358 t 3 = some q56 := x2361.r k2298 (by decide) rfl e2329
  have e2395 : mR m2358 t 4 = some q79 := x2361.r k2298 (by decide) rfl e2330
  have e2396 : mR m2358 t 12 = some q178 := x2361.r k2298 (by decide) rfl e2331
  have e2397 : mR m2358 t 13 = some q251 := x2361.r k2298 (by decide) rfl e2332
  have e2398 : mR m2358 t 14 = some q334 := x2361.r k2298 (by decide) rfl e2333
  have e2399 : mR m2358 t 17 = some q391 := x2361.r k2298 (by decide) rfl e2334
  have e2400 : mR m2358 t 18 = some q434 := x2361.r k2298 (by decide) rfl e2335
  have e2401 : mR m2358 t 20 = some q481 := x2361.r k2298 (by decide) rfl e2336
  have e2402 : mR m2358 t 21 = some q532 := x2361.r k2298 (by decide) rfl e2337
  have e2403 : mR m2358 t 22 = some q587 := x2361.r k2298 (by decide) rfl e2338
  have e2404 : mR m2358 t 23 = some q646 := x2361.r k2298 (by decide) rfl e2339
  have e2405 : mR m2358 t 24 = some q709 := x2361.r k2298 (by decide) rfl e2340
  have e2406 : mR m2358 t 25 = some q776 := x2361.r k2298 (by decide) rfl e2341
  have e2407 : mR m2358 t 26 = some q847 := x2361.r k2298 (by decide) rfl e2342
  have e2408 : mR m2358 t 27 = some q922 := x2361.r k2298 (by decide) rfl e2343
  have e2409 : mR m2358 t 28 = some q1001 := x2361.r k2298 (by decide) rfl e2344
  have e2410 : mR m2358 t 29 = some q1084 := x2361.r k2298 (by decide) rfl e2345
  have e2411 : mR m2358 t 30 = some q1171 := x2361.r k2298 (by decide) rfl e2346
  have e2412 : mR m2358 t 31 = some q1262 := x2361.r k2298 (by decide) rfl e2347
  have e2413 : mR m2358 t 32 = some q1357 := x2361.r k2298 (by decide) rfl e2348
  have e2414 : mR m2358 t 33 = some q1552 := x2361.r k2298 (by decide) rfl e2349
  have e2415 : mR m2358 t 34 = some q1655 := x2361.r k2298 (by decide) rfl e2350
  have e2416 : mR m2358 t 35 = some q1762 := x2361.r k2298 (by decide) rfl e2351
  have e2417 : mR m2358 t 36 = some q1873 := x2361.r k2298 (by decide) rfl e2352
  have e2418 : mR m2358 t 37 = some q1988 := x2361.r k2298 (by decide) rfl e2353
  have e2419 : mR m2358 t 38 = some q2107 := x2361.r k2298 (by decide) rfl e2354
  have e2420 : mR m2358 t 39 = some q2230 := x2361.r k2298 (by decide) rfl e2355
  have k2421 : mK m2358 q2357 = 15 := by rw [e2360]; exact if_pos rfl
  obtain ⟨n2422, h⟩ := h
  refine at_putRF (index := 122) cok12 40 342 rfl (by decide +kernel) k2363 n2422 (by decide +kernel) tw_1125 rfl rfl rfl rfl (Or.inr ⟨_, rfl⟩) (fun m2423 e2424 => ?_)
  replace h := h m2423 e2424
  have x2425 : Ext m2358 m2423 := by rw [e2424]; exact Ext.sR _ (Or.inr n2422)
  have k2426 : mK m2423 q2 = 15 := x2425.k k2362 (by decide)
  have k2427 : mK m2423 t = 13 := x2425.k k2363 (by decide)
  have k2428 : mK m2423 q37 = 15 := x2425.k k2364 (by decide)
  have k2429 : mK m2423 q56 = 16 := x2425.k k2365 (by decide)
  have k2430 : mK m2423 q79 = 16 := x2425.k k2366 (by decide)
  have k2431 : mK m2423 q178 = 15 := x2425.k k2367 (by decide)
  have k2432 : mK m2423 q251 = 15 := x2425.k k2368 (by decide)
  have k2433 : mK m2423 q334 = 14 := x2425.k k2369 (by decide)
  have k2434 : mK m2423 q391 = 14 := x2425.k k2370 (by decide)
  have k2435 : mK m2423 q434 = 15 := x2425.k k2371 (by decide)
  have k2436 : mK m2423 q481 = 15 := x2425.k k2372 (by decide)
  have k2437 : mK m2423 q532 = 15 := x2425.k k2373 (by decide)
  have k2438 : mK m2423 q587 = 15 := x2425.k k2374 (by decide)
  have k2439 : mK m2423 q646 = 15 := x2425.k k2375 (by decide)
  have k2440 : mK m2423 q709 = 15 := x2425.k k2376 (by decide)
  have k2441 : mK m2423 q776 = 15 := x2425.k k2377 (by decide)
  have k2442 : mK m2423 q847 = 15 := x2425.k k2378 (by decide)
  have k2443 : mK m2423 q922 = 17 := x2425.k k2379 (by decide)
  have k2444 : mK m2423 q1001 = 17 := x2425.k k2380 (by decide)
  have k2445 : mK m2423 q1084 = 15 := x2425.k k2381 (by decide)
  have k2446 : mK m2423 q1171 = 15 := x2425.k k2382 (by decide)
  have k2447 : mK m2423 q1262 = 15 := x2425.k k2383 (by decide)
  have k2448 : mK m2423 q1357 = 15 := x2425.k k2384 (by decide)
  have k2449 : mK m2423 q1552 = 15 := x2425.k k2385 (by decide)
  have k2450 : mK m2423 q1655 = 15 := x2425.k k2386 (by decide)
  have k2451 : mK m2423 q1762 = 15 := x2425.k k2387 (by decide)
  have k2452 : mK m2423 q1873 = 15 := x2425.k k2388 (by decide)
  have k2453 : mK m2423 q1988 = 15 := x2425.k k2389 (by decide)
  have k2454 : mK m2423 q2107 = 16 := x2425.k k2390 (by decide)
  have k2455 : mK m2423 q2230 = 16 := x2425.k k2391 (by decide)
  have k2456 : mK m2423 q2357 = 15 := x2425.k k2421 (by decide)
  have e2457 : mR m2423 t 1 = some q2 := x2425.r k2363 (by decide) rfl e2392
  have e2458 : mR m2423 t 2 = some q37 := x2425.r k2363 (by decide) rfl e2393
  have e2459 : mR m2423 t 3 = some q56 := x2425.r k2363 (by decide) rfl e2394
  have e2460 : mR m2423 t 4 = some q79 := x2425.r k2363 (by decide) rfl e2395
  have e2461 : mR m2423 t 12 = some q178 := x2425.r k2363 (by decide) rfl e2396
  have e2462 : mR m2423 t 13 = some q251 := x2425.r k2363 (by decide) rfl e2397
  have e2463 : mR m2423 t 14 = some q334 := x2425.r k2363 (by decide) rfl e2398
  have e2464 : mR m2423 t 17 = some q391 := x2425.r k2363 (by decide) rfl e2399
  have e2465 : mR m2423 t 18 = some q434 := x2425.r k2363 (by decide) rfl e2400
  have e2466 : mR m2423 t 20 = some q481 := x2425.r k2363 (by decide) rfl e2401
  have e2467 : mR m2423 t 21 = some q532 := x2425.r k2363 (by decide) rfl e2402
  have e2468 : mR m2423 t 22 = some q587 := x2425.r k2363 (by decide) rfl e2403
  have e2469 : mR m2423 t 23 = some q646 := x2425.r k2363 (by decide) rfl e2404
  have e2470 : mR m2423 t 24 = some q709 := x2425.r k2363 (by decide) rfl e2405
  have e2471 : mR m2423 t 25 = some q776 := x2425.r k2363 (by decide) rfl e2406
  have e2472 : mR m2423 t 26 = some q847 := x2425.r k2363 (by decide) rfl e2407
  have e2473 : mR m2423 t 27 = some q922 := x2425.r k2363 (by decide) rfl e2408
  have e2474 : mR m2423 t 28 = some q1001 := x2425.r k2363 (by decide) rfl e2409
  have e2475 : mR m2423 t 29 = some q1084 := x2425.r k2363 (by decide) rfl e2410
  have e2476 : mR m2423 t 30 = some q1171 := x2425.r k2363 (by decide) rfl e2411
  have e2477 : mR m2423 t 31 = some q1262 := x2425.r k2363 (by decide) rfl e2412
  have e2478 : mR m2423 t 32 = some q1357 := x2425.r k2363 (by decide) rfl e2413
  have e2479 : mR m2423 t 33 = some q1552 := x2425.r k2363 (by decide) rfl e2414
  have e2480 : mR m2423 t 34 = some q1655 := x2425.r k2363 (by decide) rfl e2415
  have e2481 : mR m2423 t 35 = some q1762 := x2425.r k2363 (by decide) rfl e2416
  have e2482 : mR m2423 t 36 = some q1873 := x2425.r k2363 (by decide) rfl e2417
  have e2483 : mR m2423 t 37 = some q1988 := x2425.r k2363 (by decide) rfl e2418
  have e2484 : mR m2423 t 38 = some q2107 := x2425.r k2363 (by decide) rfl e2419
  have e2485 : mR m2423 t 39 = some q2230 := x2425.r k2363 (by decide) rfl e2420
  have e2486 : mR m2423 t 40 = some q2357 := by rw [e2424]; simp [mR, sR, up2]
  refine at_aload_n (i := 0) 0 343 rfl (by decide +kernel) rfl ?_
  refine at_sipush (n := 800) (800 : Int32) 346 rfl (by decide +kernel) (by decide +kernel) ?_
  obtain ⟨z2487, h⟩ := h
  refine at_newaI 348 rfl z2487 (by decide +kernel) tw_265 (by decide +kernel) (by decide +kernel) (fun q2488 m2489 e2490 e2491 => ?_)
  replace h := h q2488 m2489 e2490 e2491
  have x2492 : Ext m2423 m2489 := by rw [e2491, e2490]; exact Ext.nw z2487 _ _ _
  have k2493 : mK m2489 q2 = 15 := x2492.k k2426 (by decide)
  have k2494 : mK m2489 t = 13 := x2492.k k2427 (by decide)
  have k2495 : mK m2489 q37 = 15 := x2492.k k2428 (by decide)
  have k2496 : mK m2489 q56 = 16 := x2492.k k2429 (by decide)
  have k2497 : mK m2489 q79 = 16 := x2492.k k2430 (by decide)
  have k2498 : mK m2489 q178 = 15 := x2492.k k2431 (by decide)
  have k2499 : mK m2489 q251 = 15 := x2492.k k2432 (by decide)
  have k2500 : mK m2489 q334 = 14 := x2492.k k2433 (by decide)
  have k2501 : mK m2489 q391 = 14 := x2492.k k2434 (by decide)
  have k2502 : mK m2489 q434 = 15 := x2492.k k2435 (by decide)
  have k2503 : mK m2489 q481 = 15 := x2492.k k2436 (by decide)
  have k2504 : mK m2489 q532 = 15 := x2492.k k2437 (by decide)
  have k2505 : mK m2489 q587 = 15 := x2492.k k2438 (by decide)
  have k2506 : mK m2489 q646 = 15 := x2492.k k2439 (by decide)
  have k2507 : mK m2489 q709 = 15 := x2492.k k2440 (by decide)
  have k2508 : mK m2489 q776 = 15 := x2492.k k2441 (by decide)
  have k2509 : mK m2489 q847 = 15 := x2492.k k2442 (by decide)
  have k2510 : mK m2489 q922 = 17 := x2492.k k2443 (by decide)
  have k2511 : mK m2489 q1001 = 17 := x2492.k k2444 (by decide)
  have k2512 : mK m2489 q1084 = 15 := x2492.k k2445 (by decide)
  have k2513 : mK m2489 q1171 = 15 := x2492.k k2446 (by decide)
  have k2514 : mK m2489 q1262 = 15 := x2492.k k2447 (by decide)
  have k2515 : mK m2489 q1357 = 15 := x2492.k k2448 (by decide)
  have k2516 : mK m2489 q1552 = 15 := x2492.k k2449 (by decide)
  have k2517 : mK m2489 q1655 = 15 := x2492.k k2450 (by decide)
  have k2518 : mK m2489 q1762 = 15 := x2492.k k2451 (by decide)
  have k2519 : mK m2489 q1873 = 15 := x2492.k k2452 (by decide)
  have k2520 : mK m2489 q1988 = 15 := x2492.k k2453 (by decide)
  have k2521 : mK m2489 q2107 = 16 := x2492.k k2454 (by decide)
  have k2522 : mK m2489 q2230 = 16 := x2492.k k2455 (by decide)
  have k2523 : mK m2489 q2357 = 15 := x2492.k k2456 (by decide)
  have e2524 : mR m2489 t 1 = some q2 := x2492.r k2427 (by decide) rfl e2457
  have e2525 : mR m2489 t 2 = some q37 := x2492.r k2427 (by decide) rfl e2458
  have e2526 : mR m2489 t 3 = some q56 := x2492.r k2427 (by decide) rfl e2459
  have e2527 : mR m2489 t 4 = some q79 := x2492.r k2427 (by decide) rfl e2460
  have e2528 : mR m2489 t 12 = some q178 := x2492.r k2427 (by decide) rfl e2461
  have e2529 : mR m2489 t 13 = some q251 := x2492.r k2427 (by decide) rfl e2462
  have e2530 : mR m2489 t 14 = some q334 := x2492.r k2427 (by decide) rfl e2463
  have e2531 : mR m2489 t 17 = some q391 := x2492.r k2427 (by decide) rfl e2464
  have e2532 : mR m2489 t 18 = some q434 := x2492.r k2427 (by decide) rfl e2465
  have e2533 : mR m2489 t 20 = some q481 := x2492.r k2427 (by decide) rfl e2466
  have e2534 : mR m2489 t 21 = some q532 := x2492.r k2427 (by decide) rfl e2467
  have e2535 : mR m2489 t 22 = some q587 := x2492.r k2427 (by decide) rfl e2468
  have e2536 : mR m2489 t 23 = some q646 := x2492.r k2427 (by decide) rfl e2469
  have e2537 : mR m2489 t 24 = some q709 := x2492.r k2427 (by decide) rfl e2470
  have e2538 : mR m2489 t 25 = some q776 := x2492.r k2427 (by decide) rfl e2471
  have e2539 : mR m2489 t 26 = some q847 := x2492.r k2427 (by decide) rfl e2472
  have e2540 : mR m2489 t 27 = some q922 := x2492.r k2427 (by decide) rfl e2473
  have e2541 : mR m2489 t 28 = some q1001 := x2492.r k2427 (by decide) rfl e2474
  have e2542 : mR m2489 t 29 = some q1084 := x2492.r k2427 (by decide) rfl e2475
  have e2543 : mR m2489 t 30 = some q1171 := x2492.r k2427 (by decide) rfl e2476
  have e2544 : mR m2489 t 31 = some q1262 := x2492.r k2427 (by decide) rfl e2477
  have e2545 : mR m2489 t 32 = some q1357 := x2492.r k2427 (by decide) rfl e2478
  have e2546 : mR m2489 t 33 = some q1552 := x2492.r k2427 (by decide) rfl e2479
  have e2547 : mR m2489 t 34 = some q1655 := x2492.r k2427 (by decide) rfl e2480
  have e2548 : mR m2489 t 35 = some q1762 := x2492.r k2427 (by decide) rfl e2481
  have e2549 : mR m2489 t 36 = some q1873 := x2492.r k2427 (by decide) rfl e2482
  have e2550 : mR m2489 t 37 = some q1988 := x2492.r k2427 (by decide) rfl e2483
  have e2551 : mR m2489 t 38 = some q2107 := x2492.r k2427 (by decide) rfl e2484
  have e2552 : mR m2489 t 39 = some q2230 := x2492.r k2427 (by decide) rfl e2485
  have e2553 : mR m2489 t 40 = some q2357 := x2492.r k2427 (by decide) rfl e2486
  have k2554 : mK m2489 q2488 = 15 := by rw [e2491]; exact if_pos rfl
  obtain ⟨n2555, h⟩ := h
  refine at_putRF (index := 125) cok12 41 351 rfl (by decide +kernel) k2494 n2555 (by decide +kernel) tw_1126 rfl rfl rfl rfl (Or.inr ⟨_, rfl⟩) (fun m2556 e2557 => ?_)
  replace h := h m2556 e2557
  have x2558 : Ext m2489 m2556 := by rw [e2557]; exact Ext.sR _ (Or.inr n2555)
  have k2559 : mK m2556 q2 = 15 := x2558.k k2493 (by decide)
  have k2560 : mK m2556 t = 13 := x2558.k k2494 (by decide)
  have k2561 : mK m2556 q37 = 15 := x2558.k k2495 (by decide)
  have k2562 : mK m2556 q56 = 16 := x2558.k k2496 (by decide)
  have k2563 : mK m2556 q79 = 16 := x2558.k k2497 (by decide)
  have k2564 : mK m2556 q178 = 15 := x2558.k k2498 (by decide)
  have k2565 : mK m2556 q251 = 15 := x2558.k k2499 (by decide)
  have k2566 : mK m2556 q334 = 14 := x2558.k k2500 (by decide)
  have k2567 : mK m2556 q391 = 14 := x2558.k k2501 (by decide)
  have k2568 : mK m2556 q434 = 15 := x2558.k k2502 (by decide)
  have k2569 : mK m2556 q481 = 15 := x2558.k k2503 (by decide)
  have k2570 : mK m2556 q532 = 15 := x2558.k k2504 (by decide)
  have k2571 : mK m2556 q587 = 15 := x2558.k k2505 (by decide)
  have k2572 : mK m2556 q646 = 15 := x2558.k k2506 (by decide)
  have k2573 : mK m2556 q709 = 15 := x2558.k k2507 (by decide)
  have k2574 : mK m2556 q776 = 15 := x2558.k k2508 (by decide)
  have k2575 : mK m2556 q847 = 15 := x2558.k k2509 (by decide)
  have k2576 : mK m2556 q922 = 17 := x2558.k k2510 (by decide)
  have k2577 : mK m2556 q1001 = 17 := x2558.k k2511 (by decide)
  have k2578 : mK m2556 q1084 = 15 := x2558.k k2512 (by decide)
  have k2579 : mK m2556 q1171 = 15 := x2558.k k2513 (by decide)
  have k2580 : mK m2556 q1262 = 15 := x2558.k k2514 (by decide)
  have k2581 : mK m2556 q1357 = 15 := x2558.k k2515 (by decide)
  have k2582 : mK m2556 q1552 = 15 := x2558.k k2516 (by decide)
  have k2583 : mK m2556 q1655 = 15 := x2558.k k2517 (by decide)
  have k2584 : mK m2556 q1762 = 15 := x2558.k k2518 (by decide)
  have k2585 : mK m2556 q1873 = 15 := x2558.k k2519 (by decide)
  have k2586 : mK m2556 q1988 = 15 := x2558.k k2520 (by decide)
  have k2587 : mK m2556 q2107 = 16 := x2558.k k2521 (by decide)
  have k2588 : mK m2556 q2230 = 16 := x2558.k k2522 (by decide)
  have k2589 : mK m2556 q2357 = 15 := x2558.k k2523 (by decide)
  have k2590 : mK m2556 q2488 = 15 := x2558.k k2554 (by decide)
  have e2591 : mR m2556 t 1 = some q2 := x2558.r k2494 (by decide) rfl e2524
  have e2592 : mR m2556 t 2 = some q37 := x2558.r k2494 (by decide) rfl e2525
  have e2593 : mR m2556 t 3 = some q56 := x2558.r k2494 (by decide) rfl e2526
  have e2594 : mR m2556 t 4 = some q79 := x2558.r k2494 (by decide) rfl e2527
  have e2595 : mR m2556 t 12 = some q178 := x2558.r k2494 (by decide) rfl e2528
  have e2596 : mR m2556 t 13 = some q251 := x2558.r k2494 (by decide) rfl e2529
  have e2597 : mR m2556 t 14 = some q334 := x2558.r k2494 (by decide) rfl e2530
  have e2598 : mR m2556 t 17 = some q391 := x2558.r k2494 (by decide) rfl e2531
  have e2599 : mR m2556 t 18 = some q434 := x2558.r k2494 (by decide) rfl e2532
  have e2600 : mR m2556 t 20 = some q481 := x2558.r k2494 (by decide) rfl e2533
  have e2601 : mR m2556 t 21 = some q532 := x2558.r k2494 (by decide) rfl e2534
  have e2602 : mR m2556 t 22 = some q587 := x2558.r k2494 (by decide) rfl e2535
  have e2603 : mR m2556 t 23 = some q646 := x2558.r k2494 (by decide) rfl e2536
  have e2604 : mR m2556 t 24 = some q709 := x2558.r k2494 (by decide) rfl e2537
  have e2605 : mR m2556 t 25 = some q776 := x2558.r k2494 (by decide) rfl e2538
  have e2606 : mR m2556 t 26 = some q847 := x2558.r k2494 (by decide) rfl e2539
  have e2607 : mR m2556 t 27 = some q922 := x2558.r k2494 (by decide) rfl e2540
  have e2608 : mR m2556 t 28 = some q1001 := x2558.r k2494 (by decide) rfl e2541
  have e2609 : mR m2556 t 29 = some q1084 := x2558.r k2494 (by decide) rfl e2542
  have e2610 : mR m2556 t 30 = some q1171 := x2558.r k2494 (by decide) rfl e2543
  have e2611 : mR m2556 t 31 = some q1262 := x2558.r k2494 (by decide) rfl e2544
  have e2612 : mR m2556 t 32 = some q1357 := x2558.r k2494 (by decide) rfl e2545
  have e2613 : mR m2556 t 33 = some q1552 := x2558.r k2494 (by decide) rfl e2546
  have e2614 : mR m2556 t 34 = some q1655 := x2558.r k2494 (by decide) rfl e2547
  have e2615 : mR m2556 t 35 = some q1762 := x2558.r k2494 (by decide) rfl e2548
  have e2616 : mR m2556 t 36 = some q1873 := x2558.r k2494 (by decide) rfl e2549
  have e2617 : mR m2556 t 37 = some q1988 := x2558.r k2494 (by decide) rfl e2550
  have e2618 : mR m2556 t 38 = some q2107 := x2558.r k2494 (by decide) rfl e2551
  have e2619 : mR m2556 t 39 = some q2230 := x2558.r k2494 (by decide) rfl e2552
  have e2620 : mR m2556 t 40 = some q2357 := x2558.r k2494 (by decide) rfl e2553
  have e2621 : mR m2556 t 41 = some q2488 := by rw [e2557]; simp [mR, sR, up2]
  refine at_aload_n (i := 0) 0 352 rfl (by decide +kernel) rfl ?_
  refine at_sipush (n := 800) (800 : Int32) 355 rfl (by decide +kernel) (by decide +kernel) ?_
  obtain ⟨z2622, h⟩ := h
  refine at_newaI 357 rfl z2622 (by decide +kernel) tw_265 (by decide +kernel) (by decide +kernel) (fun q2623 m2624 e2625 e2626 => ?_)
  replace h := h q2623 m2624 e2625 e2626
  have x2627 : Ext m2556 m2624 := by rw [e2626, e2625]; exact Ext.nw z2622 _ _ _
  have k2628 : mK m2624 q2 = 15 := x2627.k k2559 (by decide)
  have k2629 : mK m2624 t = 13 := x2627.k k2560 (by decide)
  have k2630 : mK m2624 q37 = 15 := x2627.k k2561 (by decide)
  have k2631 : mK m2624 q56 = 16 := x2627.k k2562 (by decide)
  have k2632 : mK m2624 q79 = 16 := x2627.k k2563 (by decide)
  have k2633 : mK m2624 q178 = 15 := x2627.k k2564 (by decide)
  have k2634 : mK m2624 q251 = 15 := x2627.k k2565 (by decide)
  have k2635 : mK m2624 q334 = 14 := x2627.k k2566 (by decide)
  have k2636 : mK m2624 q391 = 14 := x2627.k k2567 (by decide)
  have k2637 : mK m2624 q434 = 15 := x2627.k k2568 (by decide)
  have k2638 : mK m2624 q481 = 15 := x2627.k k2569 (by decide)
  have k2639 : mK m2624 q532 = 15 := x2627.k k2570 (by decide)
  have k2640 : mK m2624 q587 = 15 := x2627.k k2571 (by decide)
  have k2641 : mK m2624 q646 = 15 := x2627.k k2572 (by decide)
  have k2642 : mK m2624 q709 = 15 := x2627.k k2573 (by decide)
  have k2643 : mK m2624 q776 = 15 := x2627.k k2574 (by decide)
  have k2644 : mK m2624 q847 = 15 := x2627.k k2575 (by decide)
  have k2645 : mK m2624 q922 = 17 := x2627.k k2576 (by decide)
  have k2646 : mK m2624 q1001 = 17 := x2627.k k2577 (by decide)
  have k2647 : mK m2624 q1084 = 15 := x2627.k k2578 (by decide)
  have k2648 : mK m2624 q1171 = 15 := x2627.k k2579 (by decide)
  have k2649 : mK m2624 q1262 = 15 := x2627.k k2580 (by decide)
  have k2650 : mK m2624 q1357 = 15 := x2627.k k2581 (by decide)
  have k2651 : mK m2624 q1552 = 15 := x2627.k k2582 (by decide)
  have k2652 : mK m2624 q1655 = 15 := x2627.k k2583 (by decide)
  have k2653 : mK m2624 q1762 = 15 := x2627.k k2584 (by decide)
  have k2654 : mK m2624 q1873 = 15 := x2627.k k2585 (by decide)
  have k2655 : mK m2624 q1988 = 15 := x2627.k k2586 (by decide)
  have k2656 : mK m2624 q2107 = 16 := x2627.k k2587 (by decide)
  have k2657 : mK m2624 q2230 = 16 := x2627.k k2588 (by decide)
  have k2658 : mK m2624 q2357 = 15 := x2627.k k2589 (by decide)
  have k2659 : mK m2624 q2488 = 15 := x2627.k k2590 (by decide)
  have e2660 : mR m2624 t 1 = some q2 := x2627.r k2560 (by decide) rfl e2591
  have e2661 : mR m2624 t 2 = some q37 := x2627.r k2560 (by decide) rfl e2592
  have e2662 : mR m2624 t 3 = some q56 := x2627.r k2560 (by decide) rfl e2593
  have e2663 : mR m2624 t 4 = some q79 := x2627.r k2560 (by decide) rfl e2594
  have e2664 : mR m2624 t 12 = some q178 := x2627.r k2560 (by decide) rfl e2595
  have e2665 : mR m2624 t 13 = some q251 := x2627.r k2560 (by decide) rfl e2596
  have e2666 : mR m2624 t 14 = some q334 := x2627.r k2560 (by decide) rfl e2597
  have e2667 : mR m2624 t 17 = some q391 := x2627.r k2560 (by decide) rfl e2598
  have e2668 : mR m2624 t 18 = some q434 := x2627.r k2560 (by decide) rfl e2599
  have e2669 : mR m2624 t 20 = some q481 := x2627.r k2560 (by decide) rfl e2600
  have e2670 : mR m2624 t 21 = some q532 := x2627.r k2560 (by decide) rfl e2601
  have e2671 : mR m2624 t 22 = some q587 := x2627.r k2560 (by decide) rfl e2602
  have e2672 : mR m2624 t 23 = some q646 := x2627.r k2560 (by decide) rfl e2603
  have e2673 : mR m2624 t 24 = some q709 := x2627.r k2560 (by decide) rfl e2604
  have e2674 : mR m2624 t 25 = some q776 := x2627.r k2560 (by decide) rfl e2605
  have e2675 : mR m2624 t 26 = some q847 := x2627.r k2560 (by decide) rfl e2606
  have e2676 : mR m2624 t 27 = some q922 := x2627.r k2560 (by decide) rfl e2607
  have e2677 : mR m2624 t 28 = some q1001 := x2627.r k2560 (by decide) rfl e2608
  have e2678 : mR m2624 t 29 = some q1084 := x2627.r k2560 (by decide) rfl e2609
  have e2679 : mR m2624 t 30 = some q1171 := x2627.r k2560 (by decide) rfl e2610
  have e2680 : mR m2624 t 31 = some q1262 := x2627.r k2560 (by decide) rfl e2611
  have e2681 : mR m2624 t 32 = some q1357 := x2627.r k2560 (by decide) rfl e2612
  have e2682 : mR m2624 t 33 = some q1552 := x2627.r k2560 (by decide) rfl e2613
  have e2683 : mR m2624 t 34 = some q1655 := x2627.r k2560 (by decide) rfl e2614
  have e2684 : mR m2624 t 35 = some q1762 := x2627.r k2560 (by decide) rfl e2615
  have e2685 : mR m2624 t 36 = some q1873 := x2627.r k2560 (by decide) rfl e2616
  have e2686 : mR m2624 t 37 = some q1988 := x2627.r k2560 (by decide) rfl e2617
  have e2687 : mR m2624 t 38 = some q2107 := x2627.r k2560 (by decide) rfl e2618
  have e2688 : mR m2624 t 39 = some q2230 := x2627.r k2560 (by decide) rfl e2619
  have e2689 : mR m2624 t 40 = some q2357 := x2627.r k2560 (by decide) rfl e2620
  have e2690 : mR m2624 t 41 = some q2488 := x2627.r k2560 (by decide) rfl e2621
  have k2691 : mK m2624 q2623 = 15 := by rw [e2626]; exact if_pos rfl
  obtain ⟨n2692, h⟩ := h
  refine at_putRF (index := 128) cok12 42 360 rfl (by decide +kernel) k2629 n2692 (by decide +kernel) tw_1127 rfl rfl rfl rfl (Or.inr ⟨_, rfl⟩) (fun m2693 e2694 => ?_)
  replace h := h m2693 e2694
  have x2695 : Ext m2624 m2693 := by rw [e2694]; exact Ext.sR _ (Or.inr n2692)
  have k2696 : mK m2693 q2 = 15 := x2695.k k2628 (by decide)
  have k2697 : mK m2693 t = 13 := x2695.k k2629 (by decide)
  have k2698 : mK m2693 q37 = 15 := x2695.k k2630 (by decide)
  have k2699 : mK m2693 q56 = 16 := x2695.k k2631 (by decide)
  have k2700 : mK m2693 q79 = 16 := x2695.k k2632 (by decide)
  have k2701 : mK m2693 q178 = 15 := x2695.k k2633 (by decide)
  have k2702 : mK m2693 q251 = 15 := x2695.k k2634 (by decide)
  have k2703 : mK m2693 q334 = 14 := x2695.k k2635 (by decide)
  have k2704 : mK m2693 q391 = 14 := x2695.k k2636 (by decide)
  have k2705 : mK m2693 q434 = 15 := x2695.k k2637 (by decide)
  have k2706 : mK m2693 q481 = 15 := x2695.k k2638 (by decide)
  have k2707 : mK m2693 q532 = 15 := x2695.k k2639 (by decide)
  have k2708 : mK m2693 q587 = 15 := x2695.k k2640 (by decide)
  have k2709 : mK m2693 q646 = 15 := x2695.k k2641 (by decide)
  have k2710 : mK m2693 q709 = 15 := x2695.k k2642 (by decide)
  have k2711 : mK m2693 q776 = 15 := x2695.k k2643 (by decide)
  have k2712 : mK m2693 q847 = 15 := x2695.k k2644 (by decide)
  have k2713 : mK m2693 q922 = 17 := x2695.k k2645 (by decide)
  have k2714 : mK m2693 q1001 = 17 := x2695.k k2646 (by decide)
  have k2715 : mK m2693 q1084 = 15 := x2695.k k2647 (by decide)
  have k2716 : mK m2693 q1171 = 15 := x2695.k k2648 (by decide)
  have k2717 : mK m2693 q1262 = 15 := x2695.k k2649 (by decide)
  have k2718 : mK m2693 q1357 = 15 := x2695.k k2650 (by decide)
  have k2719 : mK m2693 q1552 = 15 := x2695.k k2651 (by decide)
  have k2720 : mK m2693 q1655 = 15 := x2695.k k2652 (by decide)
  have k2721 : mK m2693 q1762 = 15 := x2695.k k2653 (by decide)
  have k2722 : mK m2693 q1873 = 15 := x2695.k k2654 (by decide)
  have k2723 : mK m2693 q1988 = 15 := x2695.k k2655 (by decide)
  have k2724 : mK m2693 q2107 = 16 := x2695.k k2656 (by decide)
  have k2725 : mK m2693 q2230 = 16 := x2695.k k2657 (by decide)
  have k2726 : mK m2693 q2357 = 15 := x2695.k k2658 (by decide)
  have k2727 : mK m2693 q2488 = 15 := x2695.k k2659 (by decide)
  have k2728 : mK m2693 q2623 = 15 := x2695.k k2691 (by decide)
  have e2729 : mR m2693 t 1 = some q2 := x2695.r k2629 (by decide) rfl e2660
  have e2730 : mR m2693 t 2 = some q37 := x2695.r k2629 (by decide) rfl e2661
  have e2731 : mR m2693 t 3 = some q56 := x2695.r k2629 (by decide) rfl e2662
  have e2732 : mR m2693 t 4 = some q79 := x2695.r k2629 (by decide) rfl e2663
  have e2733 : mR m2693 t 12 = some q178 := x2695.r k2629 (by decide) rfl e2664
  have e2734 : mR m2693 t 13 = some q251 := x2695.r k2629 (by decide) rfl e2665
  have e2735 : mR m2693 t 14 = some q334 := x2695.r k2629 (by decide) rfl e2666
  have e2736 : mR m2693 t 17 = some q391 := x2695.r k2629 (by decide) rfl e2667
  have e2737 : mR m2693 t 18 = some q434 := x2695.r k2629 (by decide) rfl e2668
  have e2738 : mR m2693 t 20 = some q481 := x2695.r k2629 (by decide) rfl e2669
  have e2739 : mR m2693 t 21 = some q532 := x2695.r k2629 (by decide) rfl e2670
  have e2740 : mR m2693 t 22 = some q587 := x2695.r k2629 (by decide) rfl e2671
  have e2741 : mR m2693 t 23 = some q646 := x2695.r k2629 (by decide) rfl e2672
  have e2742 : mR m2693 t 24 = some q709 := x2695.r k2629 (by decide) rfl e2673
  have e2743 : mR m2693 t 25 = some q776 := x2695.r k2629 (by decide) rfl e2674
  have e2744 : mR m2693 t 26 = some q847 := x2695.r k2629 (by decide) rfl e2675
  have e2745 : mR m2693 t 27 = some q922 := x2695.r k2629 (by decide) rfl e2676
  have e2746 : mR m2693 t 28 = some q1001 := x2695.r k2629 (by decide) rfl e2677
  have e2747 : mR m2693 t 29 = some q1084 := x2695.r k2629 (by decide) rfl e2678
  have e2748 : mR m2693 t 30 = some q1171 := x2695.r k2629 (by decide) rfl e2679
  have e2749 : mR m2693 t 31 = some q1262 := x2695.r k2629 (by decide) rfl e2680
  have e2750 : mR m2693 t 32 = some q1357 := x2695.r k2629 (by decide) rfl e2681
  have e2751 : mR m2693 t 33 = some q1552 := x2695.r k2629 (by decide) rfl e2682
  have e2752 : mR m2693 t 34 = some q1655 := x2695.r k2629 (by decide) rfl e2683
  have e2753 : mR m2693 t 35 = some q1762 := x2695.r k2629 (by decide) rfl e2684
  have e2754 : mR m2693 t 36 = some q1873 := x2695.r k2629 (by decide) rfl e2685
  have e2755 : mR m2693 t 37 = some q1988 := x2695.r k2629 (by decide) rfl e2686
  have e2756 : mR m2693 t 38 = some q2107 := x2695.r k2629 (by decide) rfl e2687
  have e2757 : mR m2693 t 39 = some q2230 := x2695.r k2629 (by decide) rfl e2688
  have e2758 : mR m2693 t 40 = some q2357 := x2695.r k2629 (by decide) rfl e2689
  have e2759 : mR m2693 t 41 = some q2488 := x2695.r k2629 (by decide) rfl e2690
  have e2760 : mR m2693 t 42 = some q2623 := by rw [e2694]; simp [mR, sR, up2]
  refine at_aload_n (i := 0) 0 361 rfl (by decide +kernel) rfl ?_
  refine at_bipush (n := 16) (16 : Int32) 363 rfl (by decide +kernel) (by decide +kernel) ?_
  obtain ⟨z2761, h⟩ := h
  refine at_newaJ 365 rfl z2761 (by decide +kernel) tw_199 (by decide +kernel) (by decide +kernel) (fun q2762 m2763 e2764 e2765 => ?_)
  replace h := h q2762 m2763 e2764 e2765
  have x2766 : Ext m2693 m2763 := by rw [e2765, e2764]; exact Ext.nw z2761 _ _ _
  have k2767 : mK m2763 q2 = 15 := x2766.k k2696 (by decide)
  have k2768 : mK m2763 t = 13 := x2766.k k2697 (by decide)
  have k2769 : mK m2763 q37 = 15 := x2766.k k2698 (by decide)
  have k2770 : mK m2763 q56 = 16 := x2766.k k2699 (by decide)
  have k2771 : mK m2763 q79 = 16 := x2766.k k2700 (by decide)
  have k2772 : mK m2763 q178 = 15 := x2766.k k2701 (by decide)
  have k2773 : mK m2763 q251 = 15 := x2766.k k2702 (by decide)
  have k2774 : mK m2763 q334 = 14 := x2766.k k2703 (by decide)
  have k2775 : mK m2763 q391 = 14 := x2766.k k2704 (by decide)
  have k2776 : mK m2763 q434 = 15 := x2766.k k2705 (by decide)
  have k2777 : mK m2763 q481 = 15 := x2766.k k2706 (by decide)
  have k2778 : mK m2763 q532 = 15 := x2766.k k2707 (by decide)
  have k2779 : mK m2763 q587 = 15 := x2766.k k2708 (by decide)
  have k2780 : mK m2763 q646 = 15 := x2766.k k2709 (by decide)
  have k2781 : mK m2763 q709 = 15 := x2766.k k2710 (by decide)
  have k2782 : mK m2763 q776 = 15 := x2766.k k2711 (by decide)
  have k2783 : mK m2763 q847 = 15 := x2766.k k2712 (by decide)
  have k2784 : mK m2763 q922 = 17 := x2766.k k2713 (by decide)
  have k2785 : mK m2763 q1001 = 17 := x2766.k k2714 (by decide)
  have k2786 : mK m2763 q1084 = 15 := x2766.k k2715 (by decide)
  have k2787 : mK m2763 q1171 = 15 := x2766.k k2716 (by decide)
  have k2788 : mK m2763 q1262 = 15 := x2766.k k2717 (by decide)
  have k2789 : mK m2763 q1357 = 15 := x2766.k k2718 (by decide)
  have k2790 : mK m2763 q1552 = 15 := x2766.k k2719 (by decide)
  have k2791 : mK m2763 q1655 = 15 := x2766.k k2720 (by decide)
  have k2792 : mK m2763 q1762 = 15 := x2766.k k2721 (by decide)
  have k2793 : mK m2763 q1873 = 15 := x2766.k k2722 (by decide)
  have k2794 : mK m2763 q1988 = 15 := x2766.k k2723 (by decide)
  have k2795 : mK m2763 q2107 = 16 := x2766.k k2724 (by decide)
  have k2796 : mK m2763 q2230 = 16 := x2766.k k2725 (by decide)
  have k2797 : mK m2763 q2357 = 15 := x2766.k k2726 (by decide)
  have k2798 : mK m2763 q2488 = 15 := x2766.k k2727 (by decide)
  have k2799 : mK m2763 q2623 = 15 := x2766.k k2728 (by decide)
  have e2800 : mR m2763 t 1 = some q2 := x2766.r k2697 (by decide) rfl e2729
  have e2801 : mR m2763 t 2 = some q37 := x2766.r k2697 (by decide) rfl e2730
  have e2802 : mR m2763 t 3 = some q56 := x2766.r k2697 (by decide) rfl e2731
  have e2803 : mR m2763 t 4 = some q79 := x2766.r k2697 (by decide) rfl e2732
  have e2804 : mR m2763 t 12 = some q178 := x2766.r k2697 (by decide) rfl e2733
  have e2805 : mR m2763 t 13 = some q251 := x2766.r k2697 (by decide) rfl e2734
  have e2806 : mR m2763 t 14 = some q334 := x2766.r k2697 (by decide) rfl e2735
  have e2807 : mR m2763 t 17 = some q391 := x2766.r k2697 (by decide) rfl e2736
  have e2808 : mR m2763 t 18 = some q434 := x2766.r k2697 (by decide) rfl e2737
  have e2809 : mR m2763 t 20 = some q481 := x2766.r k2697 (by decide) rfl e2738
  have e2810 : mR m2763 t 21 = some q532 := x2766.r k2697 (by decide) rfl e2739
  have e2811 : mR m2763 t 22 = some q587 := x2766.r k2697 (by decide) rfl e2740
  have e2812 : mR m2763 t 23 = some q646 := x2766.r k2697 (by decide) rfl e2741
  have e2813 : mR m2763 t 24 = some q709 := x2766.r k2697 (by decide) rfl e2742
  have e2814 : mR m2763 t 25 = some q776 := x2766.r k2697 (by decide) rfl e2743
  have e2815 : mR m2763 t 26 = some q847 := x2766.r k2697 (by decide) rfl e2744
  have e2816 : mR m2763 t 27 = some q922 := x2766.r k2697 (by decide) rfl e2745
  have e2817 : mR m2763 t 28 = some q1001 := x2766.r k2697 (by decide) rfl e2746
  have e2818 : mR m2763 t 29 = some q1084 := x2766.r k2697 (by decide) rfl e2747
  have e2819 : mR m2763 t 30 = some q1171 := x2766.r k2697 (by decide) rfl e2748
  have e2820 : mR m2763 t 31 = some q1262 := x2766.r k2697 (by decide) rfl e2749
  have e2821 : mR m2763 t 32 = some q1357 := x2766.r k2697 (by decide) rfl e2750
  have e2822 : mR m2763 t 33 = some q1552 := x2766.r k2697 (by decide) rfl e2751
  have e2823 : mR m2763 t 34 = some q1655 := x2766.r k2697 (by decide) rfl e2752
  have e2824 : mR m2763 t 35 = some q1762 := x2766.r k2697 (by decide) rfl e2753
  have e2825 : mR m2763 t 36 = some q1873 := x2766.r k2697 (by decide) rfl e2754
  have e2826 : mR m2763 t 37 = some q1988 := x2766.r k2697 (by decide) rfl e2755
  have e2827 : mR m2763 t 38 = some q2107 := x2766.r k2697 (by decide) rfl e2756
  have e2828 : mR m2763 t 39 = some q2230 := x2766.r k2697 (by decide) rfl e2757
  have e2829 : mR m2763 t 40 = some q2357 := x2766.r k2697 (by decide) rfl e2758
  have e2830 : mR m2763 t 41 = some q2488 := x2766.r k2697 (by decide) rfl e2759
  have e2831 : mR m2763 t 42 = some q2623 := x2766.r k2697 (by decide) rfl e2760
  have k2832 : mK m2763 q2762 = 16 := by rw [e2765]; exact if_pos rfl
  obtain ⟨n2833, h⟩ := h
  refine at_putRF (index := 131) cok12 43 368 rfl (by decide +kernel) k2768 n2833 (by decide +kernel) tw_1128 rfl rfl rfl rfl (Or.inr ⟨_, rfl⟩) (fun m2834 e2835 => ?_)
  replace h := h m2834 e2835
  have x2836 : Ext m2763 m2834 := by rw [e2835]; exact Ext.sR _ (Or.inr n2833)
  have k2837 : mK m2834 q2 = 15 := x2836.k k2767 (by decide)
  have k2838 : mK m2834 t = 13 := x2836.k k2768 (by decide)
  have k2839 : mK m2834 q37 = 15 := x2836.k k2769 (by decide)
  have k2840 : mK m2834 q56 = 16 := x2836.k k2770 (by decide)
  have k2841 : mK m2834 q79 = 16 := x2836.k k2771 (by decide)
  have k2842 : mK m2834 q178 = 15 := x2836.k k2772 (by decide)
  have k2843 : mK m2834 q251 = 15 := x2836.k k2773 (by decide)
  have k2844 : mK m2834 q334 = 14 := x2836.k k2774 (by decide)
  have k2845 : mK m2834 q391 = 14 := x2836.k k2775 (by decide)
  have k2846 : mK m2834 q434 = 15 := x2836.k k2776 (by decide)
  have k2847 : mK m2834 q481 = 15 := x2836.k k2777 (by decide)
  have k2848 : mK m2834 q532 = 15 := x2836.k k2778 (by decide)
  have k2849 : mK m2834 q587 = 15 := x2836.k k2779 (by decide)
  have k2850 : mK m2834 q646 = 15 := x2836.k k2780 (by decide)
  have k2851 : mK m2834 q709 = 15 := x2836.k k2781 (by decide)
  have k2852 : mK m2834 q776 = 15 := x2836.k k2782 (by decide)
  have k2853 : mK m2834 q847 = 15 := x2836.k k2783 (by decide)
  have k2854 : mK m2834 q922 = 17 := x2836.k k2784 (by decide)
  have k2855 : mK m2834 q1001 = 17 := x2836.k k2785 (by decide)
  have k2856 : mK m2834 q1084 = 15 := x2836.k k2786 (by decide)
  have k2857 : mK m2834 q1171 = 15 := x2836.k k2787 (by decide)
  have k2858 : mK m2834 q1262 = 15 := x2836.k k2788 (by decide)
  have k2859 : mK m2834 q1357 = 15 := x2836.k k2789 (by decide)
  have k2860 : mK m2834 q1552 = 15 := x2836.k k2790 (by decide)
  have k2861 : mK m2834 q1655 = 15 := x2836.k k2791 (by decide)
  have k2862 : mK m2834 q1762 = 15 := x2836.k k2792 (by decide)
  have k2863 : mK m2834 q1873 = 15 := x2836.k k2793 (by decide)
  have k2864 : mK m2834 q1988 = 15 := x2836.k k2794 (by decide)
  have k2865 : mK m2834 q2107 = 16 := x2836.k k2795 (by decide)
  have k2866 : mK m2834 q2230 = 16 := x2836.k k2796 (by decide)
  have k2867 : mK m2834 q2357 = 15 := x2836.k k2797 (by decide)
  have k2868 : mK m2834 q2488 = 15 := x2836.k k2798 (by decide)
  have k2869 : mK m2834 q2623 = 15 := x2836.k k2799 (by decide)
  have k2870 : mK m2834 q2762 = 16 := x2836.k k2832 (by decide)
  have e2871 : mR m2834 t 1 = some q2 := x2836.r k2768 (by decide) rfl e2800
  have e2872 : mR m2834 t 2 = some q37 := x2836.r k2768 (by decide) rfl e2801
  have e2873 : mR m2834 t 3 = some q56 := x2836.r k2768 (by decide) rfl e2802
  have e2874 : mR m2834 t 4 = some q79 := x2836.r k2768 (by decide) rfl e2803
  have e2875 : mR m2834 t 12 = some q178 := x2836.r k2768 (by decide) rfl e2804
  have e2876 : mR m2834 t 13 = some q251 := x2836.r k2768 (by decide) rfl e2805
  have e2877 : mR m2834 t 14 = some q334 := x2836.r k2768 (by decide) rfl e2806
  have e2878 : mR m2834 t 17 = some q391 := x2836.r k2768 (by decide) rfl e2807
  have e2879 : mR m2834 t 18 = some q434 := x2836.r k2768 (by decide) rfl e2808
  have e2880 : mR m2834 t 20 = some q481 := x2836.r k2768 (by decide) rfl e2809
  have e2881 : mR m2834 t 21 = some q532 := x2836.r k2768 (by decide) rfl e2810
  have e2882 : mR m2834 t 22 = some q587 := x2836.r k2768 (by decide) rfl e2811
  have e2883 : mR m2834 t 23 = some q646 := x2836.r k2768 (by decide) rfl e2812
  have e2884 : mR m2834 t 24 = some q709 := x2836.r k2768 (by decide) rfl e2813
  have e2885 : mR m2834 t 25 = some q776 := x2836.r k2768 (by decide) rfl e2814
  have e2886 : mR m2834 t 26 = some q847 := x2836.r k2768 (by decide) rfl e2815
  have e2887 : mR m2834 t 27 = some q922 := x2836.r k2768 (by decide) rfl e2816
  have e2888 : mR m2834 t 28 = some q1001 := x2836.r k2768 (by decide) rfl e2817
  have e2889 : mR m2834 t 29 = some q1084 := x2836.r k2768 (by decide) rfl e2818
  have e2890 : mR m2834 t 30 = some q1171 := x2836.r k2768 (by decide) rfl e2819
  have e2891 : mR m2834 t 31 = some q1262 := x2836.r k2768 (by decide) rfl e2820
  have e2892 : mR m2834 t 32 = some q1357 := x2836.r k2768 (by decide) rfl e2821
  have e2893 : mR m2834 t 33 = some q1552 := x2836.r k2768 (by decide) rfl e2822
  have e2894 : mR m2834 t 34 = some q1655 := x2836.r k2768 (by decide) rfl e2823
  have e2895 : mR m2834 t 35 = some q1762 := x2836.r k2768 (by decide) rfl e2824
  have e2896 : mR m2834 t 36 = some q1873 := x2836.r k2768 (by decide) rfl e2825
  have e2897 : mR m2834 t 37 = some q1988 := x2836.r k2768 (by decide) rfl e2826
  have e2898 : mR m2834 t 38 = some q2107 := x2836.r k2768 (by decide) rfl e2827
  have e2899 : mR m2834 t 39 = some q2230 := x2836.r k2768 (by decide) rfl e2828
  have e2900 : mR m2834 t 40 = some q2357 := x2836.r k2768 (by decide) rfl e2829
  have e2901 : mR m2834 t 41 = some q2488 := x2836.r k2768 (by decide) rfl e2830
  have e2902 : mR m2834 t 42 = some q2623 := x2836.r k2768 (by decide) rfl e2831
  have e2903 : mR m2834 t 43 = some q2762 := by rw [e2835]; simp [mR, sR, up2]
  refine at_aload_n (i := 0) 0 369 rfl (by decide +kernel) rfl ?_
  refine at_sipush (n := 800) (800 : Int32) 372 rfl (by decide +kernel) (by decide +kernel) ?_
  obtain ⟨z2904, h⟩ := h
  refine at_newaI 374 rfl z2904 (by decide +kernel) tw_265 (by decide +kernel) (by decide +kernel) (fun q2905 m2906 e2907 e2908 => ?_)
  replace h := h q2905 m2906 e2907 e2908
  have x2909 : Ext m2834 m2906 := by rw [e2908, e2907]; exact Ext.nw z2904 _ _ _
  have k2910 : mK m2906 q2 = 15 := x2909.k k2837 (by decide)
  have k2911 : mK m2906 t = 13 := x2909.k k2838 (by decide)
  have k2912 : mK m2906 q37 = 15 := x2909.k k2839 (by decide)
  have k2913 : mK m2906 q56 = 16 := x2909.k k2840 (by decide)
  have k2914 : mK m2906 q79 = 16 := x2909.k k2841 (by decide)
  have k2915 : mK m2906 q178 = 15 := x2909.k k2842 (by decide)
  have k2916 : mK m2906 q251 = 15 := x2909.k k2843 (by decide)
  have k2917 : mK m2906 q334 = 14 := x2909.k k2844 (by decide)
  have k2918 : mK m2906 q391 = 14 := x2909.k k2845 (by decide)
  have k2919 : mK m2906 q434 = 15 := x2909.k k2846 (by decide)
  have k2920 : mK m2906 q481 = 15 := x2909.k k2847 (by decide)
  have k2921 : mK m2906 q532 = 15 := x2909.k k2848 (by decide)
  have k2922 : mK m2906 q587 = 15 := x2909.k k2849 (by decide)
  have k2923 : mK m2906 q646 = 15 := x2909.k k2850 (by decide)
  have k2924 : mK m2906 q709 = 15 := x2909.k k2851 (by decide)
  have k2925 : mK m2906 q776 = 15 := x2909.k k2852 (by decide)
  have k2926 : mK m2906 q847 = 15 := x2909.k k2853 (by decide)
  have k2927 : mK m2906 q922 = 17 := x2909.k k2854 (by decide)
  have k2928 : mK m2906 q1001 = 17 := x2909.k k2855 (by decide)
  have k2929 : mK m2906 q1084 = 15 := x2909.k k2856 (by decide)
  have k2930 : mK m2906 q1171 = 15 := x2909.k k2857 (by decide)
  have k2931 : mK m2906 q1262 = 15 := x2909.k k2858 (by decide)
  have k2932 : mK m2906 q1357 = 15 := x2909.k k2859 (by decide)
  have k2933 : mK m2906 q1552 = 15 := x2909.k k2860 (by decide)
  have k2934 : mK m2906 q1655 = 15 := x2909.k k2861 (by decide)
  have k2935 : mK m2906 q1762 = 15 := x2909.k k2862 (by decide)
  have k2936 : mK m2906 q1873 = 15 := x2909.k k2863 (by decide)
  have k2937 : mK m2906 q1988 = 15 := x2909.k k2864 (by decide)
  have k2938 : mK m2906 q2107 = 16 := x2909.k k2865 (by decide)
  have k2939 : mK m2906 q2230 = 16 := x2909.k k2866 (by decide)
  have k2940 : mK m2906 q2357 = 15 := x2909.k k2867 (by decide)
  have k2941 : mK m2906 q2488 = 15 := x2909.k k2868 (by decide)
  have k2942 : mK m2906 q2623 = 15 := x2909.k k2869 (by decide)
  have k2943 : mK m2906 q2762 = 16 := x2909.k k2870 (by decide)
  have e2944 : mR m2906 t 1 = some q2 := x2909.r k2838 (by decide) rfl e2871
  have e2945 : mR m2906 t 2 = some q37 := x2909.r k2838 (by decide) rfl e2872
  have e2946 : mR m2906 t 3 = some q56 := x2909.r k2838 (by decide) rfl e2873
  have e2947 : mR m2906 t 4 = some q79 := x2909.r k2838 (by decide) rfl e2874
  have e2948 : mR m2906 t 12 = some q178 := x2909.r k2838 (by decide) rfl e2875
  have e2949 : mR m2906 t 13 = some q251 := x2909.r k2838 (by decide) rfl e2876
  have e2950 : mR m2906 t 14 = some q334 := x2909.r k2838 (by decide) rfl e2877
  have e2951 : mR m2906 t 17 = some q391 := x2909.r k2838 (by decide) rfl e2878
  have e2952 : mR m2906 t 18 = some q434 := x2909.r k2838 (by decide) rfl e2879
  have e2953 : mR m2906 t 20 = some q481 := x2909.r k2838 (by decide) rfl e2880
  have e2954 : mR m2906 t 21 = some q532 := x2909.r k2838 (by decide) rfl e2881
  have e2955 : mR m2906 t 22 = some q587 := x2909.r k2838 (by decide) rfl e2882
  have e2956 : mR m2906 t 23 = some q646 := x2909.r k2838 (by decide) rfl e2883
  have e2957 : mR m2906 t 24 = some q709 := x2909.r k2838 (by decide) rfl e2884
  have e2958 : mR m2906 t 25 = some q776 := x2909.r k2838 (by decide) rfl e2885
  have e2959 : mR m2906 t 26 = some q847 := x2909.r k2838 (by decide) rfl e2886
  have e2960 : mR m2906 t 27 = some q922 := x2909.r k2838 (by decide) rfl e2887
  have e2961 : mR m2906 t 28 = some q1001 := x2909.r k2838 (by decide) rfl e2888
  have e2962 : mR m2906 t 29 = some q1084 := x2909.r k2838 (by decide) rfl e2889
  have e2963 : mR m2906 t 30 = some q1171 := x2909.r k2838 (by decide) rfl e2890
  have e2964 : mR m2906 t 31 = some q1262 := x2909.r k2838 (by decide) rfl e2891
  have e2965 : mR m2906 t 32 = some q1357 := x2909.r k2838 (by decide) rfl e2892
  have e2966 : mR m2906 t 33 = some q1552 := x2909.r k2838 (by decide) rfl e2893
  have e2967 : mR m2906 t 34 = some q1655 := x2909.r k2838 (by decide) rfl e2894
  have e2968 : mR m2906 t 35 = some q1762 := x2909.r k2838 (by decide) rfl e2895
  have e2969 : mR m2906 t 36 = some q1873 := x2909.r k2838 (by decide) rfl e2896
  have e2970 : mR m2906 t 37 = some q1988 := x2909.r k2838 (by decide) rfl e2897
  have e2971 : mR m2906 t 38 = some q2107 := x2909.r k2838 (by decide) rfl e2898
  have e2972 : mR m2906 t 39 = some q2230 := x2909.r k2838 (by decide) rfl e2899
  have e2973 : mR m2906 t 40 = some q2357 := x2909.r k2838 (by decide) rfl e2900
  have e2974 : mR m2906 t 41 = some q2488 := x2909.r k2838 (by decide) rfl e2901
  have e2975 : mR m2906 t 42 = some q2623 := x2909.r k2838 (by decide) rfl e2902
  have e2976 : mR m2906 t 43 = some q2762 := x2909.r k2838 (by decide) rfl e2903
  have k2977 : mK m2906 q2905 = 15 := by rw [e2908]; exact if_pos rfl
  obtain ⟨n2978, h⟩ := h
  refine at_putRF (index := 134) cok12 44 377 rfl (by decide +kernel) k2911 n2978 (by decide +kernel) tw_1129 rfl rfl rfl rfl (Or.inr ⟨_, rfl⟩) (fun m2979 e2980 => ?_)
  replace h := h m2979 e2980
  have x2981 : Ext m2906 m2979 := by rw [e2980]; exact Ext.sR _ (Or.inr n2978)
  have k2982 : mK m2979 q2 = 15 := x2981.k k2910 (by decide)
  have k2983 : mK m2979 t = 13 := x2981.k k2911 (by decide)
  have k2984 : mK m2979 q37 = 15 := x2981.k k2912 (by decide)
  have k2985 : mK m2979 q56 = 16 := x2981.k k2913 (by decide)
  have k2986 : mK m2979 q79 = 16 := x2981.k k2914 (by decide)
  have k2987 : mK m2979 q178 = 15 := x2981.k k2915 (by decide)
  have k2988 : mK m2979 q251 = 15 := x2981.k k2916 (by decide)
  have k2989 : mK m2979 q334 = 14 := x2981.k k2917 (by decide)
  have k2990 : mK m2979 q391 = 14 := x2981.k k2918 (by decide)
  have k2991 : mK m2979 q434 = 15 := x2981.k k2919 (by decide)
  have k2992 : mK m2979 q481 = 15 := x2981.k k2920 (by decide)
  have k2993 : mK m2979 q532 = 15 := x2981.k k2921 (by decide)
  have k2994 : mK m2979 q587 = 15 := x2981.k k2922 (by decide)
  have k2995 : mK m2979 q646 = 15 := x2981.k k2923 (by decide)
  have k2996 : mK m2979 q709 = 15 := x2981.k k2924 (by decide)
  have k2997 : mK m2979 q776 = 15 := x2981.k k2925 (by decide)
  have k2998 : mK m2979 q847 = 15 := x2981.k k2926 (by decide)
  have k2999 : mK m2979 q922 = 17 := x2981.k k2927 (by decide)
  have k3000 : mK m2979 q1001 = 17 := x2981.k k2928 (by decide)
  have k3001 : mK m2979 q1084 = 15 := x2981.k k2929 (by decide)
  have k3002 : mK m2979 q1171 = 15 := x2981.k k2930 (by decide)
  have k3003 : mK m2979 q1262 = 15 := x2981.k k2931 (by decide)
  have k3004 : mK m2979 q1357 = 15 := x2981.k k2932 (by decide)
  have k3005 : mK m2979 q1552 = 15 := x2981.k k2933 (by decide)
  have k3006 : mK m2979 q1655 = 15 := x2981.k k2934 (by decide)
  have k3007 : mK m2979 q1762 = 15 := x2981.k k2935 (by decide)
  have k3008 : mK m2979 q1873 = 15 := x2981.k k2936 (by decide)
  have k3009 : mK m2979 q1988 = 15 := x2981.k k2937 (by decide)
  have k3010 : mK m2979 q2107 = 16 := x2981.k k2938 (by decide)
  have k3011 : mK m2979 q2230 = 16 := x2981.k k2939 (by decide)
  have k3012 : mK m2979 q2357 = 15 := x2981.k k2940 (by decide)
  have k3013 : mK m2979 q2488 = 15 := x2981.k k2941 (by decide)
  have k3014 : mK m2979 q2623 = 15 := x2981.k k2942 (by decide)
  have k3015 : mK m2979 q2762 = 16 := x2981.k k2943 (by decide)
  have k3016 : mK m2979 q2905 = 15 := x2981.k k2977 (by decide)
  have e3017 : mR m2979 t 1 = some q2 := x2981.r k2911 (by decide) rfl e2944
  have e3018 : mR m2979 t 2 = some q37 := x2981.r k2911 (by decide) rfl e2945
  have e3019 : mR m2979 t 3 = some q56 := x2981.r k2911 (by decide) rfl e2946
  have e3020 : mR m2979 t 4 = some q79 := x2981.r k2911 (by decide) rfl e2947
  have e3021 : mR m2979 t 12 = some q178 := x2981.r k2911 (by decide) rfl e2948
  have e3022 : mR m2979 t 13 = some q251 := x2981.r k2911 (by decide) rfl e2949
  have e3023 : mR m2979 t 14 = some q334 := x2981.r k2911 (by decide) rfl e2950
  have e3024 : mR m2979 t 17 = some q391 := x2981.r k2911 (by decide) rfl e2951
  have e3025 : mR m2979 t 18 = some q434 := x2981.r k2911 (by decide) rfl e2952
  have e3026 : mR m2979 t 20 = some q481 := x2981.r k2911 (by decide) rfl e2953
  have e3027 : mR m2979 t 21 = some q532 := x2981.r k2911 (by decide) rfl e2954
  have e3028 : mR m2979 t 22 = some q587 := x2981.r k2911 (by decide) rfl e2955
  have e3029 : mR m2979 t 23 = some q646 := x2981.r k2911 (by decide) rfl e2956
  have e3030 : mR m2979 t 24 = some q709 := x2981.r k2911 (by decide) rfl e2957
  have e3031 : mR m2979 t 25 = some q776 := x2981.r k2911 (by decide) rfl e2958
  have e3032 : mR m2979 t 26 = some q847 := x2981.r k2911 (by decide) rfl e2959
  have e3033 : mR m2979 t 27 = some q922 := x2981.r k2911 (by decide) rfl e2960
  have e3034 : mR m2979 t 28 = some q1001 := x2981.r k2911 (by decide) rfl e2961
  have e3035 : mR m2979 t 29 = some q1084 := x2981.r k2911 (by decide) rfl e2962
  have e3036 : mR m2979 t 30 = some q1171 := x2981.r k2911 (by decide) rfl e2963
  have e3037 : mR m2979 t 31 = some q1262 := x2981.r k2911 (by decide) rfl e2964
  have e3038 : mR m2979 t 32 = some q1357 := x2981.r k2911 (by decide) rfl e2965
  have e3039 : mR m2979 t 33 = some q1552 := x2981.r k2911 (by decide) rfl e2966
  have e3040 : mR m2979 t 34 = some q1655 := x2981.r k2911 (by decide) rfl e2967
  have e3041 : mR m2979 t 35 = some q1762 := x2981.r k2911 (by decide) rfl e2968
  have e3042 : mR m2979 t 36 = some q1873 := x2981.r k2911 (by decide) rfl e2969
  have e3043 : mR m2979 t 37 = some q1988 := x2981.r k2911 (by decide) rfl e2970
  have e3044 : mR m2979 t 38 = some q2107 := x2981.r k2911 (by decide) rfl e2971
  have e3045 : mR m2979 t 39 = some q2230 := x2981.r k2911 (by decide) rfl e2972
  have e3046 : mR m2979 t 40 = some q2357 := x2981.r k2911 (by decide) rfl e2973
  have e3047 : mR m2979 t 41 = some q2488 := x2981.r k2911 (by decide) rfl e2974
  have e3048 : mR m2979 t 42 = some q2623 := x2981.r k2911 (by decide) rfl e2975
  have e3049 : mR m2979 t 43 = some q2762 := x2981.r k2911 (by decide) rfl e2976
  have e3050 : mR m2979 t 44 = some q2905 := by rw [e2980]; simp [mR, sR, up2]
  refine at_aload_n (i := 0) 0 378 rfl (by decide +kernel) rfl ?_
  refine at_sipush (n := 800) (800 : Int32) 381 rfl (by decide +kernel) (by decide +kernel) ?_
  obtain ⟨z3051, h⟩ := h
  refine at_newaI 383 rfl z3051 (by decide +kernel) tw_265 (by decide +kernel) (by decide +kernel) (fun q3052 m3053 e3054 e3055 => ?_)
  replace h := h q3052 m3053 e3054 e3055
  have x3056 : Ext m2979 m3053 := by rw [e3055, e3054]; exact Ext.nw z3051 _ _ _
  have k3057 : mK m3053 q2 = 15 := x3056.k k2982 (by decide)
  have k3058 : mK m3053 t = 13 := x3056.k k2983 (by decide)
  have k3059 : mK m3053 q37 = 15 := x3056.k k2984 (by decide)
  have k3060 : mK m3053 q56 = 16 := x3056.k k2985 (by decide)
  have k3061 : mK m3053 q79 = 16 := x3056.k k2986 (by decide)
  have k3062 : mK m3053 q178 = 15 := x3056.k k2987 (by decide)
  have k3063 : mK m3053 q251 = 15 := x3056.k k2988 (by decide)
  have k3064 : mK m3053 q334 = 14 := x3056.k k2989 (by decide)
  have k3065 : mK m3053 q391 = 14 := x3056.k k2990 (by decide)
  have k3066 : mK m3053 q434 = 15 := x3056.k k2991 (by decide)
  have k3067 : mK m3053 q481 = 15 := x3056.k k2992 (by decide)
  have k3068 : mK m3053 q532 = 15 := x3056.k k2993 (by decide)
  have k3069 : mK m3053 q587 = 15 := x3056.k k2994 (by decide)
  have k3070 : mK m3053 q646 = 15 := x3056.k k2995 (by decide)
  have k3071 : mK m3053 q709 = 15 := x3056.k k2996 (by decide)
  have k3072 : mK m3053 q776 = 15 := x3056.k k2997 (by decide)
  have k3073 : mK m3053 q847 = 15 := x3056.k k2998 (by decide)
  have k3074 : mK m3053 q922 = 17 := x3056.k k2999 (by decide)
  have k3075 : mK m3053 q1001 = 17 := x3056.k k3000 (by decide)
  have k3076 : mK m3053 q1084 = 15 := x3056.k k3001 (by decide)
  have k3077 : mK m3053 q1171 = 15 := x3056.k k3002 (by decide)
  have k3078 : mK m3053 q1262 = 15 := x3056.k k3003 (by decide)
  have k3079 : mK m3053 q1357 = 15 := x3056.k k3004 (by decide)
  have k3080 : mK m3053 q1552 = 15 := x3056.k k3005 (by decide)
  have k3081 : mK m3053 q1655 = 15 := x3056.k k3006 (by decide)
  have k3082 : mK m3053 q1762 = 15 := x3056.k k3007 (by decide)
  have k3083 : mK m3053 q1873 = 15 := x3056.k k3008 (by decide)
  have k3084 : mK m3053 q1988 = 15 := x3056.k k3009 (by decide)
  have k3085 : mK m3053 q2107 = 16 := x3056.k k3010 (by decide)
  have k3086 : mK m3053 q2230 = 16 := x3056.k k3011 (by decide)
  have k3087 : mK m3053 q2357 = 15 := x3056.k k3012 (by decide)
  have k3088 : mK m3053 q2488 = 15 := x3056.k k3013 (by decide)
  have k3089 : mK m3053 q2623 = 15 := x3056.k k3014 (by decide)
  have k3090 : mK m3053 q2762 = 16 := x3056.k k3015 (by decide)
  have k3091 : mK m3053 q2905 = 15 := x3056.k k3016 (by decide)
  have e3092 : mR m3053 t 1 = some q2 := x3056.r k2983 (by decide) rfl e3017
  have e3093 : mR m3053 t 2 = some q37 := x3056.r k2983 (by decide) rfl e3018
  have e3094 : mR m3053 t 3 = some q56 := x3056.r k2983 (by decide) rfl e3019
  have e3095 : mR m3053 t 4 = some q79 := x3056.r k2983 (by decide) rfl e3020
  have e3096 : mR m3053 t 12 = some q178 := x3056.r k2983 (by decide) rfl e3021
  have e3097 : mR m3053 t 13 = some q251 := x3056.r k2983 (by decide) rfl e3022
  have e3098 : mR m3053 t 14 = some q334 := x3056.r k2983 (by decide) rfl e3023
  have e3099 : mR m3053 t 17 = some q391 := x3056.r k2983 (by decide) rfl e3024
  have e3100 : mR m3053 t 18 = some q434 := x3056.r k2983 (by decide) rfl e3025
  have e3101 : mR m3053 t 20 = some q481 := x3056.r k2983 (by decide) rfl e3026
  have e3102 : mR m3053 t 21 = some q532 := x3056.r k2983 (by decide) rfl e3027
  have e3103 : mR m3053 t 22 = some q587 := x3056.r k2983 (by decide) rfl e3028
  have e3104 : mR m3053 t 23 = some q646 := x3056.r k2983 (by decide) rfl e3029
  have e3105 : mR m3053 t 24 = some q709 := x3056.r k2983 (by decide) rfl e3030
  have e3106 : mR m3053 t 25 = some q776 := x3056.r k2983 (by decide) rfl e3031
  have e3107 : mR m3053 t 26 = some q847 := x3056.r k2983 (by decide) rfl e3032
  have e3108 : mR m3053 t 27 = some q922 := x3056.r k2983 (by decide) rfl e3033
  have e3109 : mR m3053 t 28 = some q1001 := x3056.r k2983 (by decide) rfl e3034
  have e3110 : mR m3053 t 29 = some q1084 := x3056.r k2983 (by decide) rfl e3035
  have e3111 : mR m3053 t 30 = some q1171 := x3056.r k2983 (by decide) rfl e3036
  have e3112 : mR m3053 t 31 = some q1262 := x3056.r k2983 (by decide) rfl e3037
  have e3113 : mR m3053 t 32 = some q1357 := x3056.r k2983 (by decide) rfl e3038
  have e3114 : mR m3053 t 33 = some q1552 := x3056.r k2983 (by decide) rfl e3039
  have e3115 : mR m3053 t 34 = some q1655 := x3056.r k2983 (by decide) rfl e3040
  have e3116 : mR m3053 t 35 = some q1762 := x3056.r k2983 (by decide) rfl e3041
  have e3117 : mR m3053 t 36 = some q1873 := x3056.r k2983 (by decide) rfl e3042
  have e3118 : mR m3053 t 37 = some q1988 := x3056.r k2983 (by decide) rfl e3043
  have e3119 : mR m3053 t 38 = some q2107 := x3056.r k2983 (by decide) rfl e3044
  have e3120 : mR m3053 t 39 = some q2230 := x3056.r k2983 (by decide) rfl e3045
  have e3121 : mR m3053 t 40 = some q2357 := x3056.r k2983 (by decide) rfl e3046
  have e3122 : mR m3053 t 41 = some q2488 := x3056.r k2983 (by decide) rfl e3047
  have e3123 : mR m3053 t 42 = some q2623 := x3056.r k2983 (by decide) rfl e3048
  have e3124 : mR m3053 t 43 = some q2762 := x3056.r k2983 (by decide) rfl e3049
  have e3125 : mR m3053 t 44 = some q2905 := x3056.r k2983 (by decide) rfl e3050
  have k3126 : mK m3053 q3052 = 15 := by rw [e3055]; exact if_pos rfl
  obtain ⟨n3127, h⟩ := h
  refine at_putRF (index := 137) cok12 45 386 rfl (by decide +kernel) k3058 n3127 (by decide +kernel) tw_1130 rfl rfl rfl rfl (Or.inr ⟨_, rfl⟩) (fun m3128 e3129 => ?_)
  replace h := h m3128 e3129
  have x3130 : Ext m3053 m3128 := by rw [e3129]; exact Ext.sR _ (Or.inr n3127)
  have k3131 : mK m3128 q2 = 15 := x3130.k k3057 (by decide)
  have k3132 : mK m3128 t = 13 := x3130.k k3058 (by decide)
  have k3133 : mK m3128 q37 = 15 := x3130.k k3059 (by decide)
  have k3134 : mK m3128 q56 = 16 := x3130.k k3060 (by decide)
  have k3135 : mK m3128 q79 = 16 := x3130.k k3061 (by decide)
  have k3136 : mK m3128 q178 = 15 := x3130.k k3062 (by decide)
  have k3137 : mK m3128 q251 = 15 := x3130.k k3063 (by decide)
  have k3138 : mK m3128 q334 = 14 := x3130.k k3064 (by decide)
  have k3139 : mK m3128 q391 = 14 := x3130.k k3065 (by decide)
  have k3140 : mK m3128 q434 = 15 := x3130.k k3066 (by decide)
  have k3141 : mK m3128 q481 = 15 := x3130.k k3067 (by decide)
  have k3142 : mK m3128 q532 = 15 := x3130.k k3068 (by decide)
  have k3143 : mK m3128 q587 = 15 := x3130.k k3069 (by decide)
  have k3144 : mK m3128 q646 = 15 := x3130.k k3070 (by decide)
  have k3145 : mK m3128 q709 = 15 := x3130.k k3071 (by decide)
  have k3146 : mK m3128 q776 = 15 := x3130.k k3072 (by decide)
  have k3147 : mK m3128 q847 = 15 := x3130.k k3073 (by decide)
  have k3148 : mK m3128 q922 = 17 := x3130.k k3074 (by decide)
  have k3149 : mK m3128 q1001 = 17 := x3130.k k3075 (by decide)
  have k3150 : mK m3128 q1084 = 15 := x3130.k k3076 (by decide)
  have k3151 : mK m3128 q1171 = 15 := x3130.k k3077 (by decide)
  have k3152 : mK m3128 q1262 = 15 := x3130.k k3078 (by decide)
  have k3153 : mK m3128 q1357 = 15 := x3130.k k3079 (by decide)
  have k3154 : mK m3128 q1552 = 15 := x3130.k k3080 (by decide)
  have k3155 : mK m3128 q1655 = 15 := x3130.k k3081 (by decide)
  have k3156 : mK m3128 q1762 = 15 := x3130.k k3082 (by decide)
  have k3157 : mK m3128 q1873 = 15 := x3130.k k3083 (by decide)
  have k3158 : mK m3128 q1988 = 15 := x3130.k k3084 (by decide)
  have k3159 : mK m3128 q2107 = 16 := x3130.k k3085 (by decide)
  have k3160 : mK m3128 q2230 = 16 := x3130.k k3086 (by decide)
  have k3161 : mK m3128 q2357 = 15 := x3130.k k3087 (by decide)
  have k3162 : mK m3128 q2488 = 15 := x3130.k k3088 (by decide)
  have k3163 : mK m3128 q2623 = 15 := x3130.k k3089 (by decide)
  have k3164 : mK m3128 q2762 = 16 := x3130.k k3090 (by decide)
  have k3165 : mK m3128 q2905 = 15 := x3130.k k3091 (by decide)
  have k3166 : mK m3128 q3052 = 15 := x3130.k k3126 (by decide)
  have e3167 : mR m3128 t 1 = some q2 := x3130.r k3058 (by decide) rfl e3092
  have e3168 : mR m3128 t 2 = some q37 := x3130.r k3058 (by decide) rfl e3093
  have e3169 : mR m3128 t 3 = some q56 := x3130.r k3058 (by decide) rfl e3094
  have e3170 : mR m3128 t 4 = some q79 := x3130.r k3058 (by decide) rfl e3095
  have e3171 : mR m3128 t 12 = some q178 := x3130.r k3058 (by decide) rfl e3096
  have e3172 : mR m3128 t 13 = some q251 := x3130.r k3058 (by decide) rfl e3097
  have e3173 : mR m3128 t 14 = some q334 := x3130.r k3058 (by decide) rfl e3098
  have e3174 : mR m3128 t 17 = some q391 := x3130.r k3058 (by decide) rfl e3099
  have e3175 : mR m3128 t 18 = some q434 := x3130.r k3058 (by decide) rfl e3100
  have e3176 : mR m3128 t 20 = some q481 := x3130.r k3058 (by decide) rfl e3101
  have e3177 : mR m3128 t 21 = some q532 := x3130.r k3058 (by decide) rfl e3102
  have e3178 : mR m3128 t 22 = some q587 := x3130.r k3058 (by decide) rfl e3103
  have e3179 : mR m3128 t 23 = some q646 := x3130.r k3058 (by decide) rfl e3104
  have e3180 : mR m3128 t 24 = some q709 := x3130.r k3058 (by decide) rfl e3105
  have e3181 : mR m3128 t 25 = some q776 := x3130.r k3058 (by decide) rfl e3106
  have e3182 : mR m3128 t 26 = some q847 := x3130.r k3058 (by decide) rfl e3107
  have e3183 : mR m3128 t 27 = some q922 := x3130.r k3058 (by decide) rfl e3108
  have e3184 : mR m3128 t 28 = some q1001 := x3130.r k3058 (by decide) rfl e3109
  have e3185 : mR m3128 t 29 = some q1084 := x3130.r k3058 (by decide) rfl e3110
  have e3186 : mR m3128 t 30 = some q1171 := x3130.r k3058 (by decide) rfl e3111
  have e3187 : mR m3128 t 31 = some q1262 := x3130.r k3058 (by decide) rfl e3112
  have e3188 : mR m3128 t 32 = some q1357 := x3130.r k3058 (by decide) rfl e3113
  have e3189 : mR m3128 t 33 = some q1552 := x3130.r k3058 (by decide) rfl e3114
  have e3190 : mR m3128 t 34 = some q1655 := x3130.r k3058 (by decide) rfl e3115
  have e3191 : mR m3128 t 35 = some q1762 := x3130.r k3058 (by decide) rfl e3116
  have e3192 : mR m3128 t 36 = some q1873 := x3130.r k3058 (by decide) rfl e3117
  have e3193 : mR m3128 t 37 = some q1988 := x3130.r k3058 (by decide) rfl e3118
  have e3194 : mR m3128 t 38 = some q2107 := x3130.r k3058 (by decide) rfl e3119
  have e3195 : mR m3128 t 39 = some q2230 := x3130.r k3058 (by decide) rfl e3120
  have e3196 : mR m3128 t 40 = some q2357 := x3130.r k3058 (by decide) rfl e3121
  have e3197 : mR m3128 t 41 = some q2488 := x3130.r k3058 (by decide) rfl e3122
  have e3198 : mR m3128 t 42 = some q2623 := x3130.r k3058 (by decide) rfl e3123
  have e3199 : mR m3128 t 43 = some q2762 := x3130.r k3058 (by decide) rfl e3124
  have e3200 : mR m3128 t 44 = some q2905 := x3130.r k3058 (by decide) rfl e3125
  have e3201 : mR m3128 t 45 = some q3052 := by rw [e3129]; simp [mR, sR, up2]
  refine at_aload_n (i := 0) 0 387 rfl (by decide +kernel) rfl ?_
  refine at_sipush (n := 800) (800 : Int32) 390 rfl (by decide +kernel) (by decide +kernel) ?_
  obtain ⟨z3202, h⟩ := h
  refine at_newaJ 392 rfl z3202 (by decide +kernel) tw_199 (by decide +kernel) (by decide +kernel) (fun q3203 m3204 e3205 e3206 => ?_)
  replace h := h q3203 m3204 e3205 e3206
  have x3207 : Ext m3128 m3204 := by rw [e3206, e3205]; exact Ext.nw z3202 _ _ _
  have k3208 : mK m3204 q2 = 15 := x3207.k k3131 (by decide)
  have k3209 : mK m3204 t = 13 := x3207.k k3132 (by decide)
  have k3210 : mK m3204 q37 = 15 := x3207.k k3133 (by decide)
  have k3211 : mK m3204 q56 = 16 := x3207.k k3134 (by decide)
  have k3212 : mK m3204 q79 = 16 := x3207.k k3135 (by decide)
  have k3213 : mK m3204 q178 = 15 := x3207.k k3136 (by decide)
  have k3214 : mK m3204 q251 = 15 := x3207.k k3137 (by decide)
  have k3215 : mK m3204 q334 = 14 := x3207.k k3138 (by decide)
  have k3216 : mK m3204 q391 = 14 := x3207.k k3139 (by decide)
  have k3217 : mK m3204 q434 = 15 := x3207.k k3140 (by decide)
  have k3218 : mK m3204 q481 = 15 := x3207.k k3141 (by decide)
  have k3219 : mK m3204 q532 = 15 := x3207.k k3142 (by decide)
  have k3220 : mK m3204 q587 = 15 := x3207.k k3143 (by decide)
  have k3221 : mK m3204 q646 = 15 := x3207.k k3144 (by decide)
  have k3222 : mK m3204 q709 = 15 := x3207.k k3145 (by decide)
  have k3223 : mK m3204 q776 = 15 := x3207.k k3146 (by decide)
  have k3224 : mK m3204 q847 = 15 := x3207.k k3147 (by decide)
  have k3225 : mK m3204 q922 = 17 := x3207.k k3148 (by decide)
  have k3226 : mK m3204 q1001 = 17 := x3207.k k3149 (by decide)
  have k3227 : mK m3204 q1084 = 15 := x3207.k k3150 (by decide)
  have k3228 : mK m3204 q1171 = 15 := x3207.k k3151 (by decide)
  have k3229 : mK m3204 q1262 = 15 := x3207.k k3152 (by decide)
  have k3230 : mK m3204 q1357 = 15 := x3207.k k3153 (by decide)
  have k3231 : mK m3204 q1552 = 15 := x3207.k k3154 (by decide)
  have k3232 : mK m3204 q1655 = 15 := x3207.k k3155 (by decide)
  have k3233 : mK m3204 q1762 = 15 := x3207.k k3156 (by decide)
  have k3234 : mK m3204 q1873 = 15 := x3207.k k3157 (by decide)
  have k3235 : mK m3204 q1988 = 15 := x3207.k k3158 (by decide)
  have k3236 : mK m3204 q2107 = 16 := x3207.k k3159 (by decide)
  have k3237 : mK m3204 q2230 = 16 := x3207.k k3160 (by decide)
  have k3238 : mK m3204 q2357 = 15 := x3207.k k3161 (by decide)
  have k3239 : mK m3204 q2488 = 15 := x3207.k k3162 (by decide)
  have k3240 : mK m3204 q2623 = 15 := x3207.k k3163 (by decide)
  have k3241 : mK m3204 q2762 = 16 := x3207.k k3164 (by decide)
  have k3242 : mK m3204 q2905 = 15 := x3207.k k3165 (by decide)
  have k3243 : mK m3204 q3052 = 15 := x3207.k k3166 (by decide)
  have e3244 : mR m3204 t 1 = some q2 := x3207.r k3132 (by decide) rfl e3167
  have e3245 : mR m3204 t 2 = some q37 := x3207.r k3132 (by decide) rfl e3168
  have e3246 : mR m3204 t 3 = some q56 := x3207.r k3132 (by decide) rfl e3169
  have e3247 : mR m3204 t 4 = some q79 := x3207.r k3132 (by decide) rfl e3170
  have e3248 : mR m3204 t 12 = some q178 := x3207.r k3132 (by decide) rfl e3171
  have e3249 : mR m3204 t 13 = some q251 := x3207.r k3132 (by decide) rfl e3172
  have e3250 : mR m3204 t 14 = some q334 := x3207.r k3132 (by decide) rfl e3173
  have e3251 : mR m3204 t 17 = some q391 := x3207.r k3132 (by decide) rfl e3174
  have e3252 : mR m3204 t 18 = some q434 := x3207.r k3132 (by decide) rfl e3175
  have e3253 : mR m3204 t 20 = some q481 := x3207.r k3132 (by decide) rfl e3176
  have e3254 : mR m3204 t 21 = some q532 := x3207.r k3132 (by decide) rfl e3177
  have e3255 : mR m3204 t 22 = some q587 := x3207.r k3132 (by decide) rfl e3178
  have e3256 : mR m3204 t 23 = some q646 := x3207.r k3132 (by decide) rfl e3179
  have e3257 : mR m3204 t 24 = some q709 := x3207.r k3132 (by decide) rfl e3180
  have e3258 : mR m3204 t 25 = some q776 := x3207.r k3132 (by decide) rfl e3181
  have e3259 : mR m3204 t 26 = some q847 := x3207.r k3132 (by decide) rfl e3182
  have e3260 : mR m3204 t 27 = some q922 := x3207.r k3132 (by decide) rfl e3183
  have e3261 : mR m3204 t 28 = some q1001 := x3207.r k3132 (by decide) rfl e3184
  have e3262 : mR m3204 t 29 = some q1084 := x3207.r k3132 (by decide) rfl e3185
  have e3263 : mR m3204 t 30 = some q1171 := x3207.r k3132 (by decide) rfl e3186
  have e3264 : mR m3204 t 31 = some q1262 := x3207.r k3132 (by decide) rfl e3187
  have e3265 : mR m3204 t 32 = some q1357 := x3207.r k3132 (by decide) rfl e3188
  have e3266 : mR m3204 t 33 = some q1552 := x3207.r k3132 (by decide) rfl e3189
  have e3267 : mR m3204 t 34 = some q1655 := x3207.r k3132 (by decide) rfl e3190
  have e3268 : mR m3204 t 35 = some q1762 := x3207.r k3132 (by decide) rfl e3191
  have e3269 : mR m3204 t 36 = some q1873 := x3207.r k3132 (by decide) rfl e3192
  have e3270 : mR m3204 t 37 = some q1988 := x3207.r k3132 (by decide) rfl e3193
  have e3271 : mR m3204 t 38 = some q2107 := x3207.r k3132 (by decide) rfl e3194
  have e3272 : mR m3204 t 39 = some q2230 := x3207.r k3132 (by decide) rfl e3195
  have e3273 : mR m3204 t 40 = some q2357 := x3207.r k3132 (by decide) rfl e3196
  have e3274 : mR m3204 t 41 = some q2488 := x3207.r k3132 (by decide) rfl e3197
  have e3275 : mR m3204 t 42 = some q2623 := x3207.r k3132 (by decide) rfl e3198
  have e3276 : mR m3204 t 43 = some q2762 := x3207.r k3132 (by decide) rfl e3199
  have e3277 : mR m3204 t 44 = some q2905 := x3207.r k3132 (by decide) rfl e3200
  have e3278 : mR m3204 t 45 = some q3052 := x3207.r k3132 (by decide) rfl e3201
  have k3279 : mK m3204 q3203 = 16 := by rw [e3206]; exact if_pos rfl
  obtain ⟨n3280, h⟩ := h
  refine at_putRF (index := 140) cok12 46 395 rfl (by decide +kernel) k3209 n3280 (by decide +kernel) tw_1131 rfl rfl rfl rfl (Or.inr ⟨_, rfl⟩) (fun m3281 e3282 => ?_)
  replace h := h m3281 e3282
  have x3283 : Ext m3204 m3281 := by rw [e3282]; exact Ext.sR _ (Or.inr n3280)
  have k3284 : mK m3281 q2 = 15 := x3283.k k3208 (by decide)
  have k3285 : mK m3281 t = 13 := x3283.k k3209 (by decide)
  have k3286 : mK m3281 q37 = 15 := x3283.k k3210 (by decide)
  have k3287 : mK m3281 q56 = 16 := x3283.k k3211 (by decide)
  have k3288 : mK m3281 q79 = 16 := x3283.k k3212 (by decide)
  have k3289 : mK m3281 q178 = 15 := x3283.k k3213 (by decide)
  have k3290 : mK m3281 q251 = 15 := x3283.k k3214 (by decide)
  have k3291 : mK m3281 q334 = 14 := x3283.k k3215 (by decide)
  have k3292 : mK m3281 q391 = 14 := x3283.k k3216 (by decide)
  have k3293 : mK m3281 q434 = 15 := x3283.k k3217 (by decide)
  have k3294 : mK m3281 q481 = 15 := x3283.k k3218 (by decide)
  have k3295 : mK m3281 q532 = 15 := x3283.k k3219 (by decide)
  have k3296 : mK m3281 q587 = 15 := x3283.k k3220 (by decide)
  have k3297 : mK m3281 q646 = 15 := x3283.k k3221 (by decide)
  have k3298 : mK m3281 q709 = 15 := x3283.k k3222 (by decide)
  have k3299 : mK m3281 q776 = 15 := x3283.k k3223 (by decide)
  have k3300 : mK m3281 q847 = 15 := x3283.k k3224 (by decide)
  have k3301 : mK m3281 q922 = 17 := x3283.k k3225 (by decide)
  have k3302 : mK m3281 q1001 = 17 := x3283.k k3226 (by decide)
  have k3303 : mK m3281 q1084 = 15 := x3283.k k3227 (by decide)
  have k3304 : mK m3281 q1171 = 15 := x3283.k k3228 (by decide)
  have k3305 : mK m3281 q1262 = 15 := x3283.k k3229 (by decide)
  have k3306 : mK m3281 q1357 = 15 := x3283.k k3230 (by decide)
  have k3307 : mK m3281 q1552 = 15 := x3283.k k3231 (by decide)
  have k3308 : mK m3281 q1655 = 15 := x3283.k k3232 (by decide)
  have k3309 : mK m3281 q1762 = 15 := x3283.k k3233 (by decide)
  have k3310 : mK m3281 q1873 = 15 := x3283.k k3234 (by decide)
  have k3311 : mK m3281 q1988 = 15 := x3283.k k3235 (by decide)
  have k3312 : mK m3281 q2107 = 16 := x3283.k k3236 (by decide)
  have k3313 : mK m3281 q2230 = 16 := x3283.k k3237 (by decide)
  have k3314 : mK m3281 q2357 = 15 := x3283.k k3238 (by decide)
  have k3315 : mK m3281 q2488 = 15 := x3283.k k3239 (by decide)
  have k3316 : mK m3281 q2623 = 15 := x3283.k k3240 (by decide)
  have k3317 : mK m3281 q2762 = 16 := x3283.k k3241 (by decide)
  have k3318 : mK m3281 q2905 = 15 := x3283.k k3242 (by decide)
  have k3319 : mK m3281 q3052 = 15 := x3283.k k3243 (by decide)
  have k3320 : mK m3281 q3203 = 16 := x3283.k k3279 (by decide)
  have e3321 : mR m3281 t 1 = some q2 := x3283.r k3209 (by decide) rfl e3244
  have e3322 : mR m3281 t 2 = some q37 := x3283.r k3209 (by decide) rfl e3245
  have e3323 : mR m3281 t 3 = some q56 := x3283.r k3209 (by decide) rfl e3246
  have e3324 : mR m3281 t 4 = some q79 := x3283.r k3209 (by decide) rfl e3247
  have e3325 : mR m3281 t 12 = some q178 := x3283.r k3209 (by decide) rfl e3248
  have e3326 : mR m3281 t 13 = some q251 := x3283.r k3209 (by decide) rfl e3249
  have e3327 : mR m3281 t 14 = some q334 := x3283.r k3209 (by decide) rfl e3250
  have e3328 : mR m3281 t 17 = some q391 := x3283.r k3209 (by decide) rfl e3251
  have e3329 : mR m3281 t 18 = some q434 := x3283.r k3209 (by decide) rfl e3252
  have e3330 : mR m3281 t 20 = some q481 := x3283.r k3209 (by decide) rfl e3253
  have e3331 : mR m3281 t 21 = some q532 := x3283.r k3209 (by decide) rfl e3254
  have e3332 : mR m3281 t 22 = some q587 := x3283.r k3209 (by decide) rfl e3255
  have e3333 : mR m3281 t 23 = some q646 := x3283.r k3209 (by decide) rfl e3256
  have e3334 : mR m3281 t 24 = some q709 := x3283.r k3209 (by decide) rfl e3257
  have e3335 : mR m3281 t 25 = some q776 := x3283.r k3209 (by decide) rfl e3258
  have e3336 : mR m3281 t 26 = some q847 := x3283.r k3209 (by decide) rfl e3259
  have e3337 : mR m3281 t 27 = some q922 := x3283.r k3209 (by decide) rfl e3260
  have e3338 : mR m3281 t 28 = some q1001 := x3283.r k3209 (by decide) rfl e3261
  have e3339 : mR m3281 t 29 = some q1084 := x3283.r k3209 (by decide) rfl e3262
  have e3340 : mR m3281 t 30 = some q1171 := x3283.r k3209 (by decide) rfl e3263
  have e3341 : mR m3281 t 31 = some q1262 := x3283.r k3209 (by decide) rfl e3264
  have e3342 : mR m3281 t 32 = some q1357 := x3283.r k3209 (by decide) rfl e3265
  have e3343 : mR m3281 t 33 = some q1552 := x3283.r k3209 (by decide) rfl e3266
  have e3344 : mR m3281 t 34 = some q1655 := x3283.r k3209 (by decide) rfl e3267
  have e3345 : mR m3281 t 35 = some q1762 := x3283.r k3209 (by decide) rfl e3268
  have e3346 : mR m3281 t 36 = some q1873 := x3283.r k3209 (by decide) rfl e3269
  have e3347 : mR m3281 t 37 = some q1988 := x3283.r k3209 (by decide) rfl e3270
  have e3348 : mR m3281 t 38 = some q2107 := x3283.r k3209 (by decide) rfl e3271
  have e3349 : mR m3281 t 39 = some q2230 := x3283.r k3209 (by decide) rfl e3272
  have e3350 : mR m3281 t 40 = some q2357 := x3283.r k3209 (by decide) rfl e3273
  have e3351 : mR m3281 t 41 = some q2488 := x3283.r k3209 (by decide) rfl e3274
  have e3352 : mR m3281 t 42 = some q2623 := x3283.r k3209 (by decide) rfl e3275
  have e3353 : mR m3281 t 43 = some q2762 := x3283.r k3209 (by decide) rfl e3276
  have e3354 : mR m3281 t 44 = some q2905 := x3283.r k3209 (by decide) rfl e3277
  have e3355 : mR m3281 t 45 = some q3052 := x3283.r k3209 (by decide) rfl e3278
  have e3356 : mR m3281 t 46 = some q3203 := by rw [e3282]; simp [mR, sR, up2]
  refine at_aload_n (i := 0) 0 396 rfl (by decide +kernel) rfl ?_
  refine at_bipush (n := 6) (6 : Int32) 398 rfl (by decide +kernel) (by decide +kernel) ?_
  obtain ⟨z3357, h⟩ := h
  refine at_newaJ 400 rfl z3357 (by decide +kernel) tw_199 (by decide +kernel) (by decide +kernel) (fun q3358 m3359 e3360 e3361 => ?_)
  replace h := h q3358 m3359 e3360 e3361
  have x3362 : Ext m3281 m3359 := by rw [e3361, e3360]; exact Ext.nw z3357 _ _ _
  have k3363 : mK m3359 q2 = 15 := x3362.k k3284 (by decide)
  have k3364 : mK m3359 t = 13 := x3362.k k3285 (by decide)
  have k3365 : mK m3359 q37 = 15 := x3362.k k3286 (by decide)
  have k3366 : mK m3359 q56 = 16 := x3362.k k3287 (by decide)
  have k3367 : mK m3359 q79 = 16 := x3362.k k3288 (by decide)
  have k3368 : mK m3359 q178 = 15 := x3362.k k3289 (by decide)
  have k3369 : mK m3359 q251 = 15 := x3362.k k3290 (by decide)
  have k3370 : mK m3359 q334 = 14 := x3362.k k3291 (by decide)
  have k3371 : mK m3359 q391 = 14 := x3362.k k3292 (by decide)
  have k3372 : mK m3359 q434 = 15 := x3362.k k3293 (by decide)
  have k3373 : mK m3359 q481 = 15 := x3362.k k3294 (by decide)
  have k3374 : mK m3359 q532 = 15 := x3362.k k3295 (by decide)
  have k3375 : mK m3359 q587 = 15 := x3362.k k3296 (by decide)
  have k3376 : mK m3359 q646 = 15 := x3362.k k3297 (by decide)
  have k3377 : mK m3359 q709 = 15 := x3362.k k3298 (by decide)
  have k3378 : mK m3359 q776 = 15 := x3362.k k3299 (by decide)
  have k3379 : mK m3359 q847 = 15 := x3362.k k3300 (by decide)
  have k3380 : mK m3359 q922 = 17 := x3362.k k3301 (by decide)
  have k3381 : mK m3359 q1001 = 17 := x3362.k k3302 (by decide)
  have k3382 : mK m3359 q1084 = 15 := x3362.k k3303 (by decide)
  have k3383 : mK m3359 q1171 = 15 := x3362.k k3304 (by decide)
  have k3384 : mK m3359 q1262 = 15 := x3362.k k3305 (by decide)
  have k3385 : mK m3359 q1357 = 15 := x3362.k k3306 (by decide)
  have k3386 : mK m3359 q1552 = 15 := x3362.k k3307 (by decide)
  have k3387 : mK m3359 q1655 = 15 := x3362.k k3308 (by decide)
  have k3388 : mK m3359 q1762 = 15 := x3362.k k3309 (by decide)
  have k3389 : mK m3359 q1873 = 15 := x3362.k k3310 (by decide)
  have k3390 : mK m3359 q1988 = 15 := x3362.k k3311 (by decide)
  have k3391 : mK m3359 q2107 = 16 := x3362.k k3312 (by decide)
  have k3392 : mK m3359 q2230 = 16 := x3362.k k3313 (by decide)
  have k3393 : mK m3359 q2357 = 15 := x3362.k k3314 (by decide)
  have k3394 : mK m3359 q2488 = 15 := x3362.k k3315 (by decide)
  have k3395 : mK m3359 q2623 = 15 := x3362.k k3316 (by decide)
  have k3396 : mK m3359 q2762 = 16 := x3362.k k3317 (by decide)
  have k3397 : mK m3359 q2905 = 15 := x3362.k k3318 (by decide)
  have k3398 : mK m3359 q3052 = 15 := x3362.k k3319 (by decide)
  have k3399 : mK m3359 q3203 = 16 := x3362.k k3320 (by decide)
  have e3400 : mR m3359 t 1 = some q2 := x3362.r k3285 (by decide) rfl e3321
  have e3401 : mR m3359 t 2 = some q37 := x3362.r k3285 (by decide) rfl e3322
  have e3402 : mR m3359 t 3 = some q56 := x3362.r k3285 (by decide) rfl e3323
  have e3403 : mR m3359 t 4 = some q79 := x3362.r k3285 (by decide) rfl e3324
  have e3404 : mR m3359 t 12 = some q178 := x3362.r k3285 (by decide) rfl e3325
  have e3405 : mR m3359 t 13 = some q251 := x3362.r k3285 (by decide) rfl e3326
  have e3406 : mR m3359 t 14 = some q334 := x3362.r k3285 (by decide) rfl e3327
  have e3407 : mR m3359 t 17 = some q391 := x3362.r k3285 (by decide) rfl e3328
  have e3408 : mR m3359 t 18 = some q434 := x3362.r k3285 (by decide) rfl e3329
  have e3409 : mR m3359 t 20 = some q481 := x3362.r k3285 (by decide) rfl e3330
  have e3410 : mR m3359 t 21 = some q532 := x3362.r k3285 (by decide) rfl e3331
  have e3411 : mR m3359 t 22 = some q587 := x3362.r k3285 (by decide) rfl e3332
  have e3412 : mR m3359 t 23 = some q646 := x3362.r k3285 (by decide) rfl e3333
  have e3413 : mR m3359 t 24 = some q709 := x3362.r k3285 (by decide) rfl e3334
  have e3414 : mR m3359 t 25 = some q776 := x3362.r k3285 (by decide) rfl e3335
  have e3415 : mR m3359 t 26 = some q847 := x3362.r k3285 (by decide) rfl e3336
  have e3416 : mR m3359 t 27 = some q922 := x3362.r k3285 (by decide) rfl e3337
  have e3417 : mR m3359 t 28 = some q1001 := x3362.r k3285 (by decide) rfl e3338
  have e3418 : mR m3359 t 29 = some q1084 := x3362.r k3285 (by decide) rfl e3339
  have e3419 : mR m3359 t 30 = some q1171 := x3362.r k3285 (by decide) rfl e3340
  have e3420 : mR m3359 t 31 = some q1262 := x3362.r k3285 (by decide) rfl e3341
  have e3421 : mR m3359 t 32 = some q1357 := x3362.r k3285 (by decide) rfl e3342
  have e3422 : mR m3359 t 33 = some q1552 := x3362.r k3285 (by decide) rfl e3343
  have e3423 : mR m3359 t 34 = some q1655 := x3362.r k3285 (by decide) rfl e3344
  have e3424 : mR m3359 t 35 = some q1762 := x3362.r k3285 (by decide) rfl e3345
  have e3425 : mR m3359 t 36 = some q1873 := x3362.r k3285 (by decide) rfl e3346
  have e3426 : mR m3359 t 37 = some q1988 := x3362.r k3285 (by decide) rfl e3347
  have e3427 : mR m3359 t 38 = some q2107 := x3362.r k3285 (by decide) rfl e3348
  have e3428 : mR m3359 t 39 = some q2230 := x3362.r k3285 (by decide) rfl e3349
  have e3429 : mR m3359 t 40 = some q2357 := x3362.r k3285 (by decide) rfl e3350
  have e3430 : mR m3359 t 41 = some q2488 := x3362.r k3285 (by decide) rfl e3351
  have e3431 : mR m3359 t 42 = some q2623 := x3362.r k3285 (by decide) rfl e3352
  have e3432 : mR m3359 t 43 = some q2762 := x3362.r k3285 (by decide) rfl e3353
  have e3433 : mR m3359 t 44 = some q2905 := x3362.r k3285 (by decide) rfl e3354
  have e3434 : mR m3359 t 45 = some q3052 := x3362.r k3285 (by decide) rfl e3355
  have e3435 : mR m3359 t 46 = some q3203 := x3362.r k3285 (by decide) rfl e3356
  have k3436 : mK m3359 q3358 = 16 := by rw [e3361]; exact if_pos rfl
  obtain ⟨n3437, h⟩ := h
  refine at_putRF (index := 143) cok12 56 403 rfl (by decide +kernel) k3364 n3437 (by decide +kernel) tw_1141 rfl rfl rfl rfl (Or.inr ⟨_, rfl⟩) (fun m3438 e3439 => ?_)
  replace h := h m3438 e3439
  have x3440 : Ext m3359 m3438 := by rw [e3439]; exact Ext.sR _ (Or.inr n3437)
  have k3441 : mK m3438 q2 = 15 := x3440.k k3363 (by decide)
  have k3442 : mK m3438 t = 13 := x3440.k k3364 (by decide)
  have k3443 : mK m3438 q37 = 15 := x3440.k k3365 (by decide)
  have k3444 : mK m3438 q56 = 16 := x3440.k k3366 (by decide)
  have k3445 : mK m3438 q79 = 16 := x3440.k k3367 (by decide)
  have k3446 : mK m3438 q178 = 15 := x3440.k k3368 (by decide)
  have k3447 : mK m3438 q251 = 15 := x3440.k k3369 (by decide)
  have k3448 : mK m3438 q334 = 14 := x3440.k k3370 (by decide)
  have k3449 : mK m3438 q391 = 14 := x3440.k k3371 (by decide)
  have k3450 : mK m3438 q434 = 15 := x3440.k k3372 (by decide)
  have k3451 : mK m3438 q481 = 15 := x3440.k k3373 (by decide)
  have k3452 : mK m3438 q532 = 15 := x3440.k k3374 (by decide)
  have k3453 : mK m3438 q587 = 15 := x3440.k k3375 (by decide)
  have k3454 : mK m3438 q646 = 15 := x3440.k k3376 (by decide)
  have k3455 : mK m3438 q709 = 15 := x3440.k k3377 (by decide)
  have k3456 : mK m3438 q776 = 15 := x3440.k k3378 (by decide)
  have k3457 : mK m3438 q847 = 15 := x3440.k k3379 (by decide)
  have k3458 : mK m3438 q922 = 17 := x3440.k k3380 (by decide)
  have k3459 : mK m3438 q1001 = 17 := x3440.k k3381 (by decide)
  have k3460 : mK m3438 q1084 = 15 := x3440.k k3382 (by decide)
  have k3461 : mK m3438 q1171 = 15 := x3440.k k3383 (by decide)
  have k3462 : mK m3438 q1262 = 15 := x3440.k k3384 (by decide)
  have k3463 : mK m3438 q1357 = 15 := x3440.k k3385 (by decide)
  have k3464 : mK m3438 q1552 = 15 := x3440.k k3386 (by decide)
  have k3465 : mK m3438 q1655 = 15 := x3440.k k3387 (by decide)
  have k3466 : mK m3438 q1762 = 15 := x3440.k k3388 (by decide)
  have k3467 : mK m3438 q1873 = 15 := x3440.k k3389 (by decide)
  have k3468 : mK m3438 q1988 = 15 := x3440.k k3390 (by decide)
  have k3469 : mK m3438 q2107 = 16 := x3440.k k3391 (by decide)
  have k3470 : mK m3438 q2230 = 16 := x3440.k k3392 (by decide)
  have k3471 : mK m3438 q2357 = 15 := x3440.k k3393 (by decide)
  have k3472 : mK m3438 q2488 = 15 := x3440.k k3394 (by decide)
  have k3473 : mK m3438 q2623 = 15 := x3440.k k3395 (by decide)
  have k3474 : mK m3438 q2762 = 16 := x3440.k k3396 (by decide)
  have k3475 : mK m3438 q2905 = 15 := x3440.k k3397 (by decide)
  have k3476 : mK m3438 q3052 = 15 := x3440.k k3398 (by decide)
  have k3477 : mK m3438 q3203 = 16 := x3440.k k3399 (by decide)
  have k3478 : mK m3438 q3358 = 16 := x3440.k k3436 (by decide)
  have e3479 : mR m3438 t 1 = some q2 := x3440.r k3364 (by decide) rfl e3400
  have e3480 : mR m3438 t 2 = some q37 := x3440.r k3364 (by decide) rfl e3401
  have e3481 : mR m3438 t 3 = some q56 := x3440.r k3364 (by decide) rfl e3402
  have e3482 : mR m3438 t 4 = some q79 := x3440.r k3364 (by decide) rfl e3403
  have e3483 : mR m3438 t 12 = some q178 := x3440.r k3364 (by decide) rfl e3404
  have e3484 : mR m3438 t 13 = some q251 := x3440.r k3364 (by decide) rfl e3405
  have e3485 : mR m3438 t 14 = some q334 := x3440.r k3364 (by decide) rfl e3406
  have e3486 : mR m3438 t 17 = some q391 := x3440.r k3364 (by decide) rfl e3407
  have e3487 : mR m3438 t 18 = some q434 := x3440.r k3364 (by decide) rfl e3408
  have e3488 : mR m3438 t 20 = some q481 := x3440.r k3364 (by decide) rfl e3409
  have e3489 : mR m3438 t 21 = some q532 := x3440.r k3364 (by decide) rfl e3410
  have e3490 : mR m3438 t 22 = some q587 := x3440.r k3364 (by decide) rfl e3411
  have e3491 : mR m3438 t 23 = some q646 := x3440.r k3364 (by decide) rfl e3412
  have e3492 : mR m3438 t 24 = some q709 := x3440.r k3364 (by decide) rfl e3413
  have e3493 : mR m3438 t 25 = some q776 := x3440.r k3364 (by decide) rfl e3414
  have e3494 : mR m3438 t 26 = some q847 := x3440.r k3364 (by decide) rfl e3415
  have e3495 : mR m3438 t 27 = some q922 := x3440.r k3364 (by decide) rfl e3416
  have e3496 : mR m3438 t 28 = some q1001 := x3440.r k3364 (by decide) rfl e3417
  have e3497 : mR m3438 t 29 = some q1084 := x3440.r k3364 (by decide) rfl e3418
  have e3498 : mR m3438 t 30 = some q1171 := x3440.r k3364 (by decide) rfl e3419
  have e3499 : mR m3438 t 31 = some q1262 := x3440.r k3364 (by decide) rfl e3420
  have e3500 : mR m3438 t 32 = some q1357 := x3440.r k3364 (by decide) rfl e3421
  have e3501 : mR m3438 t 33 = some q1552 := x3440.r k3364 (by decide) rfl e3422
  have e3502 : mR m3438 t 34 = some q1655 := x3440.r k3364 (by decide) rfl e3423
  have e3503 : mR m3438 t 35 = some q1762 := x3440.r k3364 (by decide) rfl e3424
  have e3504 : mR m3438 t 36 = some q1873 := x3440.r k3364 (by decide) rfl e3425
  have e3505 : mR m3438 t 37 = some q1988 := x3440.r k3364 (by decide) rfl e3426
  have e3506 : mR m3438 t 38 = some q2107 := x3440.r k3364 (by decide) rfl e3427
  have e3507 : mR m3438 t 39 = some q2230 := x3440.r k3364 (by decide) rfl e3428
  have e3508 : mR m3438 t 40 = some q2357 := x3440.r k3364 (by decide) rfl e3429
  have e3509 : mR m3438 t 41 = some q2488 := x3440.r k3364 (by decide) rfl e3430
  have e3510 : mR m3438 t 42 = some q2623 := x3440.r k3364 (by decide) rfl e3431
  have e3511 : mR m3438 t 43 = some q2762 := x3440.r k3364 (by decide) rfl e3432
  have e3512 : mR m3438 t 44 = some q2905 := x3440.r k3364 (by decide) rfl e3433
  have e3513 : mR m3438 t 45 = some q3052 := x3440.r k3364 (by decide) rfl e3434
  have e3514 : mR m3438 t 46 = some q3203 := x3440.r k3364 (by decide) rfl e3435
  have e3515 : mR m3438 t 56 = some q3358 := by rw [e3439]; simp [mR, sR, up2]
  refine at_aload_n (i := 0) 0 404 rfl (by decide +kernel) rfl ?_
  refine at_bipush (n := 61) (61 : Int32) 406 rfl (by decide +kernel) (by decide +kernel) ?_
  obtain ⟨z3516, h⟩ := h
  refine at_newaJ 408 rfl z3516 (by decide +kernel) tw_199 (by decide +kernel) (by decide +kernel) (fun q3517 m3518 e3519 e3520 => ?_)
  replace h := h q3517 m3518 e3519 e3520
  have x3521 : Ext m3438 m3518 := by rw [e3520, e3519]; exact Ext.nw z3516 _ _ _
  have k3522 : mK m3518 q2 = 15 := x3521.k k3441 (by decide)
  have k3523 : mK m3518 t = 13 := x3521.k k3442 (by decide)
  have k3524 : mK m3518 q37 = 15 := x3521.k k3443 (by decide)
  have k3525 : mK m3518 q56 = 16 := x3521.k k3444 (by decide)
  have k3526 : mK m3518 q79 = 16 := x3521.k k3445 (by decide)
  have k3527 : mK m3518 q178 = 15 := x3521.k k3446 (by decide)
  have k3528 : mK m3518 q251 = 15 := x3521.k k3447 (by decide)
  have k3529 : mK m3518 q334 = 14 := x3521.k k3448 (by decide)
  have k3530 : mK m3518 q391 = 14 := x3521.k k3449 (by decide)
  have k3531 : mK m3518 q434 = 15 := x3521.k k3450 (by decide)
  have k3532 : mK m3518 q481 = 15 := x3521.k k3451 (by decide)
  have k3533 : mK m3518 q532 = 15 := x3521.k k3452 (by decide)
  have k3534 : mK m3518 q587 = 15 := x3521.k k3453 (by decide)
  have k3535 : mK m3518 q646 = 15 := x3521.k k3454 (by decide)
  have k3536 : mK m3518 q709 = 15 := x3521.k k3455 (by decide)
  have k3537 : mK m3518 q776 = 15 := x3521.k k3456 (by decide)
  have k3538 : mK m3518 q847 = 15 := x3521.k k3457 (by decide)
  have k3539 : mK m3518 q922 = 17 := x3521.k k3458 (by decide)
  have k3540 : mK m3518 q1001 = 17 := x3521.k k3459 (by decide)
  have k3541 : mK m3518 q1084 = 15 := x3521.k k3460 (by decide)
  have k3542 : mK m3518 q1171 = 15 := x3521.k k3461 (by decide)
  have k3543 : mK m3518 q1262 = 15 := x3521.k k3462 (by decide)
  have k3544 : mK m3518 q1357 = 15 := x3521.k k3463 (by decide)
  have k3545 : mK m3518 q1552 = 15 := x3521.k k3464 (by decide)
  have k3546 : mK m3518 q1655 = 15 := x3521.k k3465 (by decide)
  have k3547 : mK m3518 q1762 = 15 := x3521.k k3466 (by decide)
  have k3548 : mK m3518 q1873 = 15 := x3521.k k3467 (by decide)
  have k3549 : mK m3518 q1988 = 15 := x3521.k k3468 (by decide)
  have k3550 : mK m3518 q2107 = 16 := x3521.k k3469 (by decide)
  have k3551 : mK m3518 q2230 = 16 := x3521.k k3470 (by decide)
  have k3552 : mK m3518 q2357 = 15 := x3521.k k3471 (by decide)
  have k3553 : mK m3518 q2488 = 15 := x3521.k k3472 (by decide)
  have k3554 : mK m3518 q2623 = 15 := x3521.k k3473 (by decide)
  have k3555 : mK m3518 q2762 = 16 := x3521.k k3474 (by decide)
  have k3556 : mK m3518 q2905 = 15 := x3521.k k3475 (by decide)
  have k3557 : mK m3518 q3052 = 15 := x3521.k k3476 (by decide)
  have k3558 : mK m3518 q3203 = 16 := x3521.k k3477 (by decide)
  have k3559 : mK m3518 q3358 = 16 := x3521.k k3478 (by decide)
  have e3560 : mR m3518 t 1 = some q2 := x3521.r k3442 (by decide) rfl e3479
  have e3561 : mR m3518 t 2 = some q37 := x3521.r k3442 (by decide) rfl e3480
  have e3562 : mR m3518 t 3 = some q56 := x3521.r k3442 (by decide) rfl e3481
  have e3563 : mR m3518 t 4 = some q79 := x3521.r k3442 (by decide) rfl e3482
  have e3564 : mR m3518 t 12 = some q178 := x3521.r k3442 (by decide) rfl e3483
  have e3565 : mR m3518 t 13 = some q251 := x3521.r k3442 (by decide) rfl e3484
  have e3566 : mR m3518 t 14 = some q334 := x3521.r k3442 (by decide) rfl e3485
  have e3567 : mR m3518 t 17 = some q391 := x3521.r k3442 (by decide) rfl e3486
  have e3568 : mR m3518 t 18 = some q434 := x3521.r k3442 (by decide) rfl e3487
  have e3569 : mR m3518 t 20 = some q481 := x3521.r k3442 (by decide) rfl e3488
  have e3570 : mR m3518 t 21 = some q532 := x3521.r k3442 (by decide) rfl e3489
  have e3571 : mR m3518 t 22 = some q587 := x3521.r k3442 (by decide) rfl e3490
  have e3572 : mR m3518 t 23 = some q646 := x3521.r k3442 (by decide) rfl e3491
  have e3573 : mR m3518 t 24 = some q709 := x3521.r k3442 (by decide) rfl e3492
  have e3574 : mR m3518 t 25 = some q776 := x3521.r k3442 (by decide) rfl e3493
  have e3575 : mR m3518 t 26 = some q847 := x3521.r k3442 (by decide) rfl e3494
  have e3576 : mR m3518 t 27 = some q922 := x3521.r k3442 (by decide) rfl e3495
  have e3577 : mR m3518 t 28 = some q1001 := x3521.r k3442 (by decide) rfl e3496
  have e3578 : mR m3518 t 29 = some q1084 := x3521.r k3442 (by decide) rfl e3497
  have e3579 : mR m3518 t 30 = some q1171 := x3521.r k3442 (by decide) rfl e3498
  have e3580 : mR m3518 t 31 = some q1262 := x3521.r k3442 (by decide) rfl e3499
  have e3581 : mR m3518 t 32 = some q1357 := x3521.r k3442 (by decide) rfl e3500
  have e3582 : mR m3518 t 33 = some q1552 := x3521.r k3442 (by decide) rfl e3501
  have e3583 : mR m3518 t 34 = some q1655 := x3521.r k3442 (by decide) rfl e3502
  have e3584 : mR m3518 t 35 = some q1762 := x3521.r k3442 (by decide) rfl e3503
  have e3585 : mR m3518 t 36 = some q1873 := x3521.r k3442 (by decide) rfl e3504
  have e3586 : mR m3518 t 37 = some q1988 := x3521.r k3442 (by decide) rfl e3505
  have e3587 : mR m3518 t 38 = some q2107 := x3521.r k3442 (by decide) rfl e3506
  have e3588 : mR m3518 t 39 = some q2230 := x3521.r k3442 (by decide) rfl e3507
  have e3589 : mR m3518 t 40 = some q2357 := x3521.r k3442 (by decide) rfl e3508
  have e3590 : mR m3518 t 41 = some q2488 := x3521.r k3442 (by decide) rfl e3509
  have e3591 : mR m3518 t 42 = some q2623 := x3521.r k3442 (by decide) rfl e3510
  have e3592 : mR m3518 t 43 = some q2762 := x3521.r k3442 (by decide) rfl e3511
  have e3593 : mR m3518 t 44 = some q2905 := x3521.r k3442 (by decide) rfl e3512
  have e3594 : mR m3518 t 45 = some q3052 := x3521.r k3442 (by decide) rfl e3513
  have e3595 : mR m3518 t 46 = some q3203 := x3521.r k3442 (by decide) rfl e3514
  have e3596 : mR m3518 t 56 = some q3358 := x3521.r k3442 (by decide) rfl e3515
  have k3597 : mK m3518 q3517 = 16 := by rw [e3520]; exact if_pos rfl
  obtain ⟨n3598, h⟩ := h
  refine at_putRF (index := 146) cok12 65 411 rfl (by decide +kernel) k3523 n3598 (by decide +kernel) tw_1150 rfl rfl rfl rfl (Or.inr ⟨_, rfl⟩) (fun m3599 e3600 => ?_)
  replace h := h m3599 e3600
  have x3601 : Ext m3518 m3599 := by rw [e3600]; exact Ext.sR _ (Or.inr n3598)
  have k3602 : mK m3599 q2 = 15 := x3601.k k3522 (by decide)
  have k3603 : mK m3599 t = 13 := x3601.k k3523 (by decide)
  have k3604 : mK m3599 q37 = 15 := x3601.k k3524 (by decide)
  have k3605 : mK m3599 q56 = 16 := x3601.k k3525 (by decide)
  have k3606 : mK m3599 q79 = 16 := x3601.k k3526 (by decide)
  have k3607 : mK m3599 q178 = 15 := x3601.k k3527 (by decide)
  have k3608 : mK m3599 q251 = 15 := x3601.k k3528 (by decide)
  have k3609 : mK m3599 q334 = 14 := x3601.k k3529 (by decide)
  have k3610 : mK m3599 q391 = 14 := x3601.k k3530 (by decide)
  have k3611 : mK m3599 q434 = 15 := x3601.k k3531 (by decide)
  have k3612 : mK m3599 q481 = 15 := x3601.k k3532 (by decide)
  have k3613 : mK m3599 q532 = 15 := x3601.k k3533 (by decide)
  have k3614 : mK m3599 q587 = 15 := x3601.k k3534 (by decide)
  have k3615 : mK m3599 q646 = 15 := x3601.k k3535 (by decide)
  have k3616 : mK m3599 q709 = 15 := x3601.k k3536 (by decide)
  have k3617 : mK m3599 q776 = 15 := x3601.k k3537 (by decide)
  have k3618 : mK m3599 q847 = 15 := x3601.k k3538 (by decide)
  have k3619 : mK m3599 q922 = 17 := x3601.k k3539 (by decide)
  have k3620 : mK m3599 q1001 = 17 := x3601.k k3540 (by decide)
  have k3621 : mK m3599 q1084 = 15 := x3601.k k3541 (by decide)
  have k3622 : mK m3599 q1171 = 15 := x3601.k k3542 (by decide)
  have k3623 : mK m3599 q1262 = 15 := x3601.k k3543 (by decide)
  have k3624 : mK m3599 q1357 = 15 := x3601.k k3544 (by decide)
  have k3625 : mK m3599 q1552 = 15 := x3601.k k3545 (by decide)
  have k3626 : mK m3599 q1655 = 15 := x3601.k k3546 (by decide)
  have k3627 : mK m3599 q1762 = 15 := x3601.k k3547 (by decide)
  have k3628 : mK m3599 q1873 = 15 := x3601.k k3548 (by decide)
  have k3629 : mK m3599 q1988 = 15 := x3601.k k3549 (by decide)
  have k3630 : mK m3599 q2107 = 16 := x3601.k k3550 (by decide)
  have k3631 : mK m3599 q2230 = 16 := x3601.k k3551 (by decide)
  have k3632 : mK m3599 q2357 = 15 := x3601.k k3552 (by decide)
  have k3633 : mK m3599 q2488 = 15 := x3601.k k3553 (by decide)
  have k3634 : mK m3599 q2623 = 15 := x3601.k k3554 (by decide)
  have k3635 : mK m3599 q2762 = 16 := x3601.k k3555 (by decide)
  have k3636 : mK m3599 q2905 = 15 := x3601.k k3556 (by decide)
  have k3637 : mK m3599 q3052 = 15 := x3601.k k3557 (by decide)
  have k3638 : mK m3599 q3203 = 16 := x3601.k k3558 (by decide)
  have k3639 : mK m3599 q3358 = 16 := x3601.k k3559 (by decide)
  have k3640 : mK m3599 q3517 = 16 := x3601.k k3597 (by decide)
  have e3641 : mR m3599 t 1 = some q2 := x3601.r k3523 (by decide) rfl e3560
  have e3642 : mR m3599 t 2 = some q37 := x3601.r k3523 (by decide) rfl e3561
  have e3643 : mR m3599 t 3 = some q56 := x3601.r k3523 (by decide) rfl e3562
  have e3644 : mR m3599 t 4 = some q79 := x3601.r k3523 (by decide) rfl e3563
  have e3645 : mR m3599 t 12 = some q178 := x3601.r k3523 (by decide) rfl e3564
  have e3646 : mR m3599 t 13 = some q251 := x3601.r k3523 (by decide) rfl e3565
  have e3647 : mR m3599 t 14 = some q334 := x3601.r k3523 (by decide) rfl e3566
  have e3648 : mR m3599 t 17 = some q391 := x3601.r k3523 (by decide) rfl e3567
  have e3649 : mR m3599 t 18 = some q434 := x3601.r k3523 (by decide) rfl e3568
  have e3650 : mR m3599 t 20 = some q481 := x3601.r k3523 (by decide) rfl e3569
  have e3651 : mR m3599 t 21 = some q532 := x3601.r k3523 (by decide) rfl e3570
  have e3652 : mR m3599 t 22 = some q587 := x3601.r k3523 (by decide) rfl e3571
  have e3653 : mR m3599 t 23 = some q646 := x3601.r k3523 (by decide) rfl e3572
  have e3654 : mR m3599 t 24 = some q709 := x3601.r k3523 (by decide) rfl e3573
  have e3655 : mR m3599 t 25 = some q776 := x3601.r k3523 (by decide) rfl e3574
  have e3656 : mR m3599 t 26 = some q847 := x3601.r k3523 (by decide) rfl e3575
  have e3657 : mR m3599 t 27 = some q922 := x3601.r k3523 (by decide) rfl e3576
  have e3658 : mR m3599 t 28 = some q1001 := x3601.r k3523 (by decide) rfl e3577
  have e3659 : mR m3599 t 29 = some q1084 := x3601.r k3523 (by decide) rfl e3578
  have e3660 : mR m3599 t 30 = some q1171 := x3601.r k3523 (by decide) rfl e3579
  have e3661 : mR m3599 t 31 = some q1262 := x3601.r k3523 (by decide) rfl e3580
  have e3662 : mR m3599 t 32 = some q1357 := x3601.r k3523 (by decide) rfl e3581
  have e3663 : mR m3599 t 33 = some q1552 := x3601.r k3523 (by decide) rfl e3582
  have e3664 : mR m3599 t 34 = some q1655 := x3601.r k3523 (by decide) rfl e3583
  have e3665 : mR m3599 t 35 = some q1762 := x3601.r k3523 (by decide) rfl e3584
  have e3666 : mR m3599 t 36 = some q1873 := x3601.r k3523 (by decide) rfl e3585
  have e3667 : mR m3599 t 37 = some q1988 := x3601.r k3523 (by decide) rfl e3586
  have e3668 : mR m3599 t 38 = some q2107 := x3601.r k3523 (by decide) rfl e3587
  have e3669 : mR m3599 t 39 = some q2230 := x3601.r k3523 (by decide) rfl e3588
  have e3670 : mR m3599 t 40 = some q2357 := x3601.r k3523 (by decide) rfl e3589
  have e3671 : mR m3599 t 41 = some q2488 := x3601.r k3523 (by decide) rfl e3590
  have e3672 : mR m3599 t 42 = some q2623 := x3601.r k3523 (by decide) rfl e3591
  have e3673 : mR m3599 t 43 = some q2762 := x3601.r k3523 (by decide) rfl e3592
  have e3674 : mR m3599 t 44 = some q2905 := x3601.r k3523 (by decide) rfl e3593
  have e3675 : mR m3599 t 45 = some q3052 := x3601.r k3523 (by decide) rfl e3594
  have e3676 : mR m3599 t 46 = some q3203 := x3601.r k3523 (by decide) rfl e3595
  have e3677 : mR m3599 t 56 = some q3358 := x3601.r k3523 (by decide) rfl e3596
  have e3678 : mR m3599 t 65 = some q3517 := by rw [e3600]; simp [mR, sR, up2]
  refine at_iconst (n := 0) (0 : Int32) 412 rfl (by decide +kernel) (by decide +kernel) ?_
  refine at_istore_n (i := 1) (lc' := [(0, va_rf (some t)), (1, .int ((0 : Int32)))]) [1, 0] 413 rfl (by decide +kernel) (by decide +kernel) rfl ?_
  exact h
set_option maxRecDepth 20000 in
set_option maxHeartbeats 4000000 in
theorem en_RF_in (g : Gc) {lv : Nat} {l0 : Int64} {l2 : Int64} {l4 : Int64} {m : Mm} {Q : Int32 → Mm → Prop} (h : if (l0) < (l2) then (Q (0 : Int32) m) else (if (l4) < (l0) then (Q (0 : Int32) m) else (Q (1 : Int32) m))) : CI g M_RF_in (lv + 1) [.long (l0), .long (l2), .long (l4)] m Q := by
  refine Call.of (by decide +kernel) (Nat.le_of_ble_eq_true rfl) ?_
  show At g M_RF_in (lv + 1) 0 [(0, .long (l0)), (2, .long (l2)), (4, .long (l4))] [] m (QI Q)
  refine at_lload_n (i := 0) 0 1 rfl (by decide +kernel) rfl ?_
  refine at_lload_n (i := 2) 1 2 rfl (by decide +kernel) rfl ?_
  refine at_lif_lt (off := 14) 3 17 6 rfl rfl (by decide +kernel) (by decide +kernel) (by decide +kernel) (fun c1 => ?_) (fun c1 => ?_)
  · rw [if_pos c1] at h
    refine at_iconst (n := 0) (0 : Int32) 18 rfl (by decide +kernel) (by decide +kernel) ?_
    exact at_zret rfl (by decide +kernel) (Or.inl rfl) h
  · rw [if_neg c1] at h
    refine at_lload_n (i := 0) 0 7 rfl (by decide +kernel) rfl ?_
    refine at_lload (i := 4) 2 9 rfl (by decide +kernel) rfl ?_
    refine at_lif_gt (off := 7) 10 17 13 rfl rfl (by decide +kernel) (by decide +kernel) (by decide +kernel) (fun c2 => ?_) (fun c2 => ?_)
    · rw [if_pos c2] at h
      refine at_iconst (n := 0) (0 : Int32) 18 rfl (by decide +kernel) (by decide +kernel) ?_
      exact at_zret rfl (by decide +kernel) (Or.inl rfl) h
    · rw [if_neg c2] at h
      refine at_iconst (n := 1) (1 : Int32) 14 rfl (by decide +kernel) (by decide +kernel) ?_
      refine at_goto (off := 4) 18 (by decide +kernel) (by decide +kernel) ?_
      exact at_zret rfl (by decide +kernel) (Or.inr rfl) h
set_option maxRecDepth 20000 in
set_option maxHeartbeats 4000000 in
theorem en_RF_isSlot (g : Gc) {lv : Nat} {l0 : Int32} {m : Mm} {Q : Int32 → Mm → Prop} (h : CI g M_RF_in lv [.long (l0.toInt64), .long ((0 : Int64)), .long ((3 : Int64))] m (fun x1 m2 => (b01 x1 ∧ (Q x1 m2)))) : CI g M_RF_isSlot (lv + 1) [.int (l0)] m Q := by
  refine Call.of (by decide +kernel) (Nat.le_of_ble_eq_true rfl) ?_
  show At g M_RF_isSlot (lv + 1) 0 [(0, .int (l0))] [] m (QI Q)
  refine at_iload_n (i := 0) 0 1 rfl (by decide +kernel) rfl ?_
  refine at_i2l 2 rfl (by decide +kernel) ?_
  refine at_lconst (n := 0) (0 : Int64) 3 rfl (by decide +kernel) (by decide +kernel) ?_
  refine at_ldc2 (index := 152) (3 : Int64) 6 rfl (by decide +kernel) tw_1291 ?_
  refine at_callS mb_RF_in tw_1293 (index := 154) tw_1292 [.long (l0.toInt64), .long ((0 : Int64)), .long ((3 : Int64))] [] rfl rfl (by decide) 9 rfl (by decide +kernel) (Call.toI (CI.monoE h (fun x1 m2 h y3 => ?_)))
  obtain ⟨d4, h⟩ := h
  exact at_zret rfl (by decide +kernel) d4 h
set_option maxRecDepth 20000 in
set_option maxHeartbeats 4000000 in
theorem en_RF_cut (g : Gc) {lv : Nat} {l0 : Int32} {l1 : Int64} {m : Mm} {Q : Int64 → Mm → Prop} (h : if (l0) = 0 then (Q l1.toInt32.toInt8.toInt32.toInt64 m) else (if (l0) = ((1 : Int32)) then (Q l1.toInt32.toInt16.toInt32.toInt64 m) else (if (l0) = ((2 : Int32)) then (Q l1.toInt32.toInt64 m) else (Q l1 m)))) : CJ g M_RF_cut (lv + 1) [.int (l0), .long (l1)] m Q := by
  refine Call.of (by decide +kernel) (Nat.le_of_ble_eq_true rfl) ?_
  show At g M_RF_cut (lv + 1) 0 [(0, .int (l0)), (1, .long (l1))] [] m (QJ Q)
  refine at_iload_n (i := 0) 0 1 rfl (by decide +kernel) rfl ?_
  refine at_if_ne (off := 10) 11 4 rfl (by decide +kernel) (by decide +kernel) (fun c1 => ?_) (fun c1 => ?_)
  · rw [if_neg c1] at h
    refine at_iload_n (i := 0) 0 12 rfl (by decide +kernel) rfl ?_
    refine at_iconst (n := 1) (1 : Int32) 13 rfl (by decide +kernel) (by decide +kernel) ?_
    refine at_icmp_ne (off := 10) 23 16 rfl (by decide +kernel) (by decide +kernel) (fun c2 => ?_) (fun c2 => ?_)
    · rw [if_neg c2] at h
      refine at_iload_n (i := 0) 0 24 rfl (by decide +kernel) rfl ?_
      refine at_iconst (n := 2) (2 : Int32) 25 rfl (by decide +kernel) (by decide +kernel) ?_
      refine at_icmp_ne (off := 9) 34 28 rfl (by decide +kernel) (by decide +kernel) (fun c3 => ?_) (fun c3 => ?_)
      · rw [if_neg c3] at h
        refine at_lload_n (i := 1) 1 35 rfl (by decide +kernel) rfl ?_
        exact at_lret rfl (by decide +kernel) h
      · rw [if_pos c3] at h
        refine at_lload_n (i := 1) 1 29 rfl (by decide +kernel) rfl ?_
        refine at_l2i 30 rfl (by decide +kernel) ?_
        refine at_i2l 31 rfl (by decide +kernel) ?_
        refine at_goto (off := 4) 35 (by decide +kernel) (by decide +kernel) ?_
        exact at_lret rfl (by decide +kernel) h
    · rw [if_pos c2] at h
      refine at_lload_n (i := 1) 1 17 rfl (by decide +kernel) rfl ?_
      refine at_l2i 18 rfl (by decide +kernel) ?_
      refine at_i2s 19 rfl (by decide +kernel) ?_
      refine at_i2l 20 rfl (by decide +kernel) ?_
      refine at_goto (off := 15) 35 (by decide +kernel) (by decide +kernel) ?_
      exact at_lret rfl (by decide +kernel) h
  · rw [if_pos c1] at h
    refine at_lload_n (i := 1) 1 5 rfl (by decide +kernel) rfl ?_
    refine at_l2i 6 rfl (by decide +kernel) ?_
    refine at_i2b 7 rfl (by decide +kernel) ?_
    refine at_i2l 8 rfl (by decide +kernel) ?_
    refine at_goto (off := 27) 35 (by decide +kernel) (by decide +kernel) ?_
    exact at_lret rfl (by decide +kernel) h
set_option maxRecDepth 20000 in
set_option maxHeartbeats 4000000 in
theorem bk_RF_row_57 (g : Gc) {lv : Nat} {t : Nat} {l1 : Int32} {l4 : Int32} {m : Mm} {Q : Int32 → Mm → Prop} (h : if ((60 : Int32)) ≤ (l4) then (Q (0 : Int32) m) else (mK m t = 13 ∧ (∃ b3, mR m t 3 = some b3 ∧ (mK m b3 = 16 ∧ (vp_in (((60 : Int32) * l1) + l4) (mN m b3) ∧ (∀ m7, m7 = sL m b3 (((60 : Int32) * l1) + l4).toNatClampNeg (0 : Int64) → (At g M_RF_row (lv + 1) 57 [(0, va_rf (some t)), (1, .int (l1)), (4, .int (l4 + (1 : Int32)))] [] m7 (QI Q)))))))) : At g M_RF_row (lv + 1) 57 [(0, va_rf (some t)), (1, .int (l1)), (4, .int (l4))] [] m (QI Q) := by
  refine at_iload (i := 4) 2 59 rfl (by decide +kernel) rfl ?_
  refine at_bipush (n := 60) (60 : Int32) 61 rfl (by decide +kernel) (by decide +kernel) ?_
  refine at_icmp_ge (off := 22) 83 64 rfl (by decide +kernel) (by decide +kernel) (fun c1 => ?_) (fun c1 => ?_)
  · rw [if_pos c1] at h
    refine at_iconst (n := 0) (0 : Int32) 84 rfl (by decide +kernel) (by decide +kernel) ?_
    exact at_iret rfl (by decide +kernel) h
  · rw [if_neg c1] at h
    refine at_aload_n (i := 0) 0 65 rfl (by decide +kernel) rfl ?_
    obtain ⟨k2, h⟩ := h
    refine at_get (index := 16) (v := va_rf (mR m t 3)) cok12 3 68 rfl (by decide +kernel) k2 (by decide +kernel) tw_1088 rfl ?_
    obtain ⟨b3, e4, h⟩ := h
    rw [e4]
    refine at_bipush (n := 60) (60 : Int32) 70 rfl (by decide +kernel) (by decide +kernel) ?_
    refine at_iload_n (i := 1) 1 71 rfl (by decide +kernel) rfl ?_
    refine at_imul 72 rfl (by decide +kernel) ?_
    refine at_iload (i := 4) 2 74 rfl (by decide +kernel) rfl ?_
    refine at_iadd 75 rfl (by decide +kernel) ?_
    refine at_lconst (n := 0) (0 : Int64) 76 rfl (by decide +kernel) (by decide +kernel) ?_
    obtain ⟨k5, h⟩ := h
    obtain ⟨v6, h⟩ := h
    refine at_last 77 rfl (by decide +kernel) k5 v6 (fun m7 e8 => ?_)
    replace h := h m7 e8
    have x9 : Ext m m7 := by rw [e8]; exact Ext.sL _ _ _ _
    have k10 : mK m7 t = 13 := x9.k k2 (by decide)
    have k11 : mK m7 b3 = 16 := x9.k k5 (by decide)
    have e12 : mR m7 t 3 = some b3 := x9.r k2 (by decide) rfl e4
    refine at_iinc (i := 4) (n := 1) (lc' := [(0, va_rf (some t)), (1, .int (l1)), (4, .int (l4 + (1 : Int32)))]) (l4 + (1 : Int32)) 2 [1, 2, 0] 80 rfl (by decide +kernel) rfl (by rw [show Int32.ofInt 1 = (1 : Int32) from by decide +kernel]) (by decide +kernel) rfl ?_
    refine at_goto (off := (-23)) 57 (by decide +kernel) (by decide +kernel) ?_
    exact h
set_option maxRecDepth 20000 in
set_option maxHeartbeats 4000000 in
theorem en_RF_row (g : Gc) {lv : Nat} {t : Nat} {l1 : Int32} {l2 : Int32} {l3 : Int32} {m : Mm} {Q : Int32 → Mm → Prop} (h : mK m t = 13 ∧ (∀ m2, m2 = sI m t 0 (0 : Int32) → (CI g M_RF_isSlot lv [.int (l1)] m2 (fun x6 m7 => (if (x6) = 0 then (Q (-2 : Int32) m7) else (CI g M_RF_in lv [.long (l2.toInt64), .long ((0 : Int64)), .long ((3 : Int64))] m7 (fun x11 m12 => (if (x11) = 0 then (Q (-2 : Int32) m12) else (if (l3) ≤ ((60 : Int32)) then (if 0 ≤ (l3) then (∃ b18, mR m12 t 1 = some b18 ∧ (mK m12 b18 = 15 ∧ (vp_in l1 (mN m12 b18) ∧ (∀ m22, m22 = sI m12 b18 l1.toNatClampNeg l2 → (∃ b28, mR m22 t 2 = some b28 ∧ (mK m22 b28 = 15 ∧ (vp_in l1 (mN m22 b28) ∧ (∀ m32, m32 = sI m22 b28 l1.toNatClampNeg l3 → (At g M_RF_row (lv + 1) 57 [(0, va_rf (some t)), (1, .int (l1)), (4, .int ((0 : Int32)))] [] m32 (QI Q)))))))))) else (Q (-3 : Int32) m12)) else (Q (-2 : Int32) m12)))))))))) : CI g M_RF_row (lv + 1) [va_rf (some t), .int (l1), .int (l2), .int (l3)] m Q := by
  refine Call.of (by decide +kernel) (Nat.le_of_ble_eq_true rfl) ?_
  show At g M_RF_row (lv + 1) 0 [(0, va_rf (some t)), (1, .int (l1)), (2, .int (l2)), (3, .int (l3))] [] m (QI Q)
  refine at_aload_n (i := 0) 0 1 rfl (by decide +kernel) rfl ?_
  refine at_iconst (n := 0) (0 : Int32) 2 rfl (by decide +kernel) (by decide +kernel) ?_
  obtain ⟨k1, h⟩ := h
  refine at_putI (index := 149) cok12 0 5 rfl (by decide +kernel) k1 (by decide +kernel) tw_1085 rfl rfl rfl (fun m2 e3 => ?_)
  replace h := h m2 e3
  have x4 : Ext m m2 := by rw [e3]; exact Ext.sI _ _ _ _
  have k5 : mK m2 t = 13 := x4.k k1 (by decide)
  refine at_iload_n (i := 1) 1 6 rfl (by decide +kernel) rfl ?_
  refine at_callS mb_RF_isSlot tw_1289 (index := 158) tw_1288 [.int (l1)] [] rfl rfl (by decide) 9 rfl (by decide +kernel) (Call.toI (CI.monoE h (fun x6 m7 h y8 => ?_)))
  have k9 : mK m7 t = 13 := y8.k k5 (by decide)
  refine at_if_eq (off := 21) 30 12 rfl (by decide +kernel) (by decide +kernel) (fun c10 => ?_) (fun c10 => ?_)
  · rw [if_pos c10] at h
    refine at_bipush (n := (-2)) (-2 : Int32) 32 rfl (by decide +kernel) (by decide +kernel) ?_
    exact at_iret rfl (by decide +kernel) h
  · rw [if_neg c10] at h
    refine at_iload_n (i := 2) 2 13 rfl (by decide +kernel) rfl ?_
    refine at_i2l 14 rfl (by decide +kernel) ?_
    refine at_lconst (n := 0) (0 : Int64) 15 rfl (by decide +kernel) (by decide +kernel) ?_
    refine at_ldc2 (index := 152) (3 : Int64) 18 rfl (by decide +kernel) tw_1291 ?_
    refine at_callS mb_RF_in tw_1293 (index := 154) tw_1292 [.long (l2.toInt64), .long ((0 : Int64)), .long ((3 : Int64))] [] rfl rfl (by decide) 21 rfl (by decide +kernel) (Call.toI (CI.monoE h (fun x11 m12 h y13 => ?_)))
    have k14 : mK m12 t = 13 := y13.k k9 (by decide)
    refine at_if_eq (off := 9) 30 24 rfl (by decide +kernel) (by decide +kernel) (fun c15 => ?_) (fun c15 => ?_)
    · rw [if_pos c15] at h
      refine at_bipush (n := (-2)) (-2 : Int32) 32 rfl (by decide +kernel) (by decide +kernel) ?_
      exact at_iret rfl (by decide +kernel) h
    · rw [if_neg c15] at h
      refine at_iload_n (i := 3) 3 25 rfl (by decide +kernel) rfl ?_
      refine at_bipush (n := 60) (60 : Int32) 27 rfl (by decide +kernel) (by decide +kernel) ?_
      refine at_icmp_le (off := 6) 33 30 rfl (by decide +kernel) (by decide +kernel) (fun c16 => ?_) (fun c16 => ?_)
      · rw [if_pos c16] at h
        refine at_iload_n (i := 3) 3 34 rfl (by decide +kernel) rfl ?_
        refine at_if_ge (off := 6) 40 37 rfl (by decide +kernel) (by decide +kernel) (fun c17 => ?_) (fun c17 => ?_)
        · rw [if_pos c17] at h
          refine at_aload_n (i := 0) 0 41 rfl (by decide +kernel) rfl ?_
          refine at_get (index := 9) (v := va_rf (mR m12 t 1)) cok12 1 44 rfl (by decide +kernel) k14 (by decide +kernel) tw_1086 rfl ?_
          obtain ⟨b18, e19, h⟩ := h
          rw [e19]
          refine at_iload_n (i := 1) 1 45 rfl (by decide +kernel) rfl ?_
          refine at_iload_n (i := 2) 2 46 rfl (by decide +kernel) rfl ?_
          obtain ⟨k20, h⟩ := h
          obtain ⟨v21, h⟩ := h
          refine at_iast 47 rfl (by decide +kernel) k20 v21 (fun m22 e23 => ?_)
          replace h := h m22 e23
          have x24 : Ext m12 m22 := by rw [e23]; exact Ext.sI _ _ _ _
          have k25 : mK m22 t = 13 := x24.k k14 (by decide)
          have k26 : mK m22 b18 = 15 := x24.k k20 (by decide)
          have e27 : mR m22 t 1 = some b18 := x24.r k14 (by decide) rfl e19
          refine at_aload_n (i := 0) 0 48 rfl (by decide +kernel) rfl ?_
          refine at_get (index := 13) (v := va_rf (mR m22 t 2)) cok12 2 51 rfl (by decide +kernel) k25 (by decide +kernel) tw_1087 rfl ?_
          obtain ⟨b28, e29, h⟩ := h
          rw [e29]
          refine at_iload_n (i := 1) 1 52 rfl (by decide +kernel) rfl ?_
          refine at_iload_n (i := 3) 3 53 rfl (by decide +kernel) rfl ?_
          obtain ⟨k30, h⟩ := h
          obtain ⟨v31, h⟩ := h
          refine at_iast 54 rfl (by decide +kernel) k30 v31 (fun m32 e33 => ?_)
          replace h := h m32 e33
          have x34 : Ext m22 m32 := by rw [e33]; exact Ext.sI _ _ _ _
          have k35 : mK m32 t = 13 := x34.k k25 (by decide)
          have k36 : mK m32 b18 = 15 := x34.k k26 (by decide)
          have k37 : mK m32 b28 = 15 := x34.k k30 (by decide)
          have e38 : mR m32 t 1 = some b18 := x34.r k25 (by decide) rfl e27
          have e39 : mR m32 t 2 = some b28 := x34.r k25 (by decide) rfl e29
          refine at_iconst (n := 0) (0 : Int32) 55 rfl (by decide +kernel) (by decide +kernel) ?_
          refine at_istore (i := 4) (lc' := [(0, va_rf (some t)), (1, .int (l1)), (4, .int ((0 : Int32)))]) [1, 2, 0] 57 rfl (by decide +kernel) (by decide +kernel) rfl ?_
          exact h
        · rw [if_neg c17] at h
          refine at_bipush (n := (-3)) (-3 : Int32) 39 rfl (by decide +kernel) (by decide +kernel) ?_
          exact at_iret rfl (by decide +kernel) h
      · rw [if_neg c16] at h
        refine at_bipush (n := (-2)) (-2 : Int32) 32 rfl (by decide +kernel) (by decide +kernel) ?_
        exact at_iret rfl (by decide +kernel) h
set_option maxRecDepth 20000 in
set_option maxHeartbeats 4000000 in
theorem en_RF_tear (g : Gc) {lv : Nat} {t : Nat} {l1 : Int32} {m : Mm} {Q : Int32 → Mm → Prop} (h : mK m t = 13 ∧ (∀ m2, m2 = sI m t 0 (0 : Int32) → (CI g M_RF_isSlot lv [.int (l1)] m2 (fun x6 m7 => (if (x6) = 0 then (Q (0 : Int32) m7) else (∃ b11, mR m7 t 1 = some b11 ∧ (mK m7 b11 = 15 ∧ (vp_in l1 (mN m7 b11) ∧ (if 0 ≤ (mI m7 b11 l1.toNatClampNeg) then (vp_in l1 (mN m7 b11) ∧ (∀ m17, m17 = sI m7 b11 l1.toNatClampNeg (-1 : Int32) → (Q (1 : Int32) m17))) else (Q (0 : Int32) m7)))))))))) : CI g M_RF_tear (lv + 1) [va_rf (some t), .int (l1)] m Q := by
  refine Call.of (by decide +kernel) (Nat.le_of_ble_eq_true rfl) ?_
  show At g M_RF_tear (lv + 1) 0 [(0, va_rf (some t)), (1, .int (l1))] [] m (QI Q)
  refine at_aload_n (i := 0) 0 1 rfl (by decide +kernel) rfl ?_
  refine at_iconst (n := 0) (0 : Int32) 2 rfl (by decide +kernel) (by decide +kernel) ?_
  obtain ⟨k1, h⟩ := h
  refine at_putI (index := 149) cok12 0 5 rfl (by decide +kernel) k1 (by decide +kernel) tw_1085 rfl rfl rfl (fun m2 e3 => ?_)
  replace h := h m2 e3
  have x4 : Ext m m2 := by rw [e3]; exact Ext.sI _ _ _ _
  have k5 : mK m2 t = 13 := x4.k k1 (by decide)
  refine at_iload_n (i := 1) 1 6 rfl (by decide +kernel) rfl ?_
  refine at_callS mb_RF_isSlot tw_1289 (index := 158) tw_1288 [.int (l1)] [] rfl rfl (by decide) 9 rfl (by decide +kernel) (Call.toI (CI.monoE h (fun x6 m7 h y8 => ?_)))
  have k9 : mK m7 t = 13 := y8.k k5 (by decide)
  refine at_if_eq (off := 12) 21 12 rfl (by decide +kernel) (by decide +kernel) (fun c10 => ?_) (fun c10 => ?_)
  · rw [if_pos c10] at h
    refine at_iconst (n := 0) (0 : Int32) 22 rfl (by decide +kernel) (by decide +kernel) ?_
    exact at_zret rfl (by decide +kernel) (Or.inl rfl) h
  · rw [if_neg c10] at h
    refine at_aload_n (i := 0) 0 13 rfl (by decide +kernel) rfl ?_
    refine at_get (index := 9) (v := va_rf (mR m7 t 1)) cok12 1 16 rfl (by decide +kernel) k9 (by decide +kernel) tw_1086 rfl ?_
    obtain ⟨b11, e12, h⟩ := h
    rw [e12]
    refine at_iload_n (i := 1) 1 17 rfl (by decide +kernel) rfl ?_
    obtain ⟨k13, h⟩ := h
    obtain ⟨v14, h⟩ := h
    refine at_iald 18 rfl (by decide +kernel) k13 v14 ?_
    refine at_if_ge (off := 5) 23 21 rfl (by decide +kernel) (by decide +kernel) (fun c15 => ?_) (fun c15 => ?_)
    · rw [if_pos c15] at h
      refine at_aload_n (i := 0) 0 24 rfl (by decide +kernel) rfl ?_
      refine at_get (index := 9) (v := va_rf (mR m7 t 1)) cok12 1 27 rfl (by decide +kernel) k9 (by decide +kernel) tw_1086 rfl ?_
      rw [e12]
      refine at_iload_n (i := 1) 1 28 rfl (by decide +kernel) rfl ?_
      refine at_iconst (n := (-1)) (-1 : Int32) 29 rfl (by decide +kernel) (by decide +kernel) ?_
      obtain ⟨v16, h⟩ := h
      refine at_iast 30 rfl (by decide +kernel) k13 v16 (fun m17 e18 => ?_)
      replace h := h m17 e18
      have x19 : Ext m7 m17 := by rw [e18]; exact Ext.sI _ _ _ _
      have k20 : mK m17 t = 13 := x19.k k9 (by decide)
      have k21 : mK m17 b11 = 15 := x19.k k13 (by decide)
      have e22 : mR m17 t 1 = some b11 := x19.r k9 (by decide) rfl e12
      refine at_iconst (n := 1) (1 : Int32) 31 rfl (by decide +kernel) (by decide +kernel) ?_
      exact at_zret rfl (by decide +kernel) (Or.inr rfl) h
    · rw [if_neg c15] at h
      refine at_iconst (n := 0) (0 : Int32) 22 rfl (by decide +kernel) (by decide +kernel) ?_
      exact at_zret rfl (by decide +kernel) (Or.inl rfl) h
set_option maxRecDepth 20000 in
set_option maxHeartbeats 4000000 in
theorem en_RF_write (g : Gc) {lv : Nat} {t : Nat} {l1 : Int32} {l2 : Int32} {l3 : Int64} {m : Mm} {Q : Int32 → Mm → Prop} (h : mK m t = 13 ∧ (∀ m2, m2 = sI m t 0 (0 : Int32) → (CI g M_RF_isSlot lv [.int (l1)] m2 (fun x6 m7 => (if (x6) = 0 then (Q (-2 : Int32) m7) else (∃ b11, mR m7 t 1 = some b11 ∧ (mK m7 b11 = 15 ∧ (vp_in l1 (mN m7 b11) ∧ (if 0 ≤ (mI m7 b11 l1.toNatClampNeg) then (∃ b16, mR m7 t 2 = some b16 ∧ (mK m7 b16 = 15 ∧ (vp_in l1 (mN m7 b16) ∧ (CI g M_RF_in lv [.long (l2.toInt64), .long ((0 : Int64)), .long (((mI m7 b16 l1.toNatClampNeg) - (1 : Int32)).toInt64)] m7 (fun x20 m21 => (if (x20) = 0 then (Q (-6 : Int32) m21) else (∃ b29, mR m21 t 3 = some b29 ∧ (vp_in l1 (mN m21 b11) ∧ (CJ g M_RF_cut lv [.int (mI m21 b11 l1.toNatClampNeg), .long (l3)] m21 (fun x32 m33 => (mK m33 b29 = 16 ∧ (vp_in (((60 : Int32) * l1) + l2) (mN m33 b29) ∧ (∀ m43, m43 = sL m33 b29 (((60 : Int32) * l1) + l2).toNatClampNeg x32 → (Q (0 : Int32) m43)))))))))))))) else (Q (-5 : Int32) m7)))))))))) : CI g M_RF_write (lv + 1) [va_rf (some t), .int (l1), .int (l2), .long (l3)] m Q := by
  refine Call.of (by decide +kernel) (Nat.le_of_ble_eq_true rfl) ?_
  show At g M_RF_write (lv + 1) 0 [(0, va_rf (some t)), (1, .int (l1)), (2, .int (l2)), (3, .long (l3))] [] m (QI Q)
  refine at_aload_n (i := 0) 0 1 rfl (by decide +kernel) rfl ?_
  refine at_iconst (n := 0) (0 : Int32) 2 rfl (by decide +kernel) (by decide +kernel) ?_
  obtain ⟨k1, h⟩ := h
  refine at_putI (index := 149) cok12 0 5 rfl (by decide +kernel) k1 (by decide +kernel) tw_1085 rfl rfl rfl (fun m2 e3 => ?_)
  replace h := h m2 e3
  have x4 : Ext m m2 := by rw [e3]; exact Ext.sI _ _ _ _
  have k5 : mK m2 t = 13 := x4.k k1 (by decide)
  refine at_iload_n (i := 1) 1 6 rfl (by decide +kernel) rfl ?_
  refine at_callS mb_RF_isSlot tw_1289 (index := 158) tw_1288 [.int (l1)] [] rfl rfl (by decide) 9 rfl (by decide +kernel) (Call.toI (CI.monoE h (fun x6 m7 h y8 => ?_)))
  have k9 : mK m7 t = 13 := y8.k k5 (by decide)
  refine at_if_ne (off := 6) 15 12 rfl (by decide +kernel) (by decide +kernel) (fun c10 => ?_) (fun c10 => ?_)
  · rw [if_neg c10] at h
    refine at_aload_n (i := 0) 0 16 rfl (by decide +kernel) rfl ?_
    refine at_get (index := 9) (v := va_rf (mR m7 t 1)) cok12 1 19 rfl (by decide +kernel) k9 (by decide +kernel) tw_1086 rfl ?_
    obtain ⟨b11, e12, h⟩ := h
    rw [e12]
    refine at_iload_n (i := 1) 1 20 rfl (by decide +kernel) rfl ?_
    obtain ⟨k13, h⟩ := h
    obtain ⟨v14, h⟩ := h
    refine at_iald 21 rfl (by decide +kernel) k13 v14 ?_
    refine at_if_ge (off := 6) 27 24 rfl (by decide +kernel) (by decide +kernel) (fun c15 => ?_) (fun c15 => ?_)
    · rw [if_pos c15] at h
      refine at_iload_n (i := 2) 2 28 rfl (by decide +kernel) rfl ?_
      refine at_i2l 29 rfl (by decide +kernel) ?_
      refine at_lconst (n := 0) (0 : Int64) 30 rfl (by decide +kernel) (by decide +kernel) ?_
      refine at_aload_n (i := 0) 0 31 rfl (by decide +kernel) rfl ?_
      refine at_get (index := 13) (v := va_rf (mR m7 t 2)) cok12 2 34 rfl (by decide +kernel) k9 (by decide +kernel) tw_1087 rfl ?_
      obtain ⟨b16, e17, h⟩ := h
      rw [e17]
      refine at_iload_n (i := 1) 1 35 rfl (by decide +kernel) rfl ?_
      obtain ⟨k18, h⟩ := h
      obtain ⟨v19, h⟩ := h
      refine at_iald 36 rfl (by decide +kernel) k18 v19 ?_
      refine at_iconst (n := 1) (1 : Int32) 37 rfl (by decide +kernel) (by decide +kernel) ?_
      refine at_isub 38 rfl (by decide +kernel) ?_
      refine at_i2l 39 rfl (by decide +kernel) ?_
      refine at_callS mb_RF_in tw_1293 (index := 154) tw_1292 [.long (l2.toInt64), .long ((0 : Int64)), .long (((mI m7 b16 l1.toNatClampNeg) - (1 : Int32)).toInt64)] [] rfl rfl (by decide) 42 rfl (by decide +kernel) (Call.toI (CI.monoE h (fun x20 m21 h y22 => ?_)))
      have k23 : mK m21 t = 13 := y22.k k9 (by decide)
      have k24 : mK m21 b11 = 15 := y22.k k13 (by decide)
      have k25 : mK m21 b16 = 15 := y22.k k18 (by decide)
      have e26 : mR m21 t 1 = some b11 := y22.r k9 (by decide) rfl e12
      have e27 : mR m21 t 2 = some b16 := y22.r k9 (by decide) rfl e17
      refine at_if_ne (off := 6) 48 45 rfl (by decide +kernel) (by decide +kernel) (fun c28 => ?_) (fun c28 => ?_)
      · rw [if_neg c28] at h
        refine at_aload_n (i := 0) 0 49 rfl (by decide +kernel) rfl ?_
        refine at_get (index := 16) (v := va_rf (mR m21 t 3)) cok12 3 52 rfl (by decide +kernel) k23 (by decide +kernel) tw_1088 rfl ?_
        obtain ⟨b29, e30, h⟩ := h
        rw [e30]
        refine at_bipush (n := 60) (60 : Int32) 54 rfl (by decide +kernel) (by decide +kernel) ?_
        refine at_iload_n (i := 1) 1 55 rfl (by decide +kernel) rfl ?_
        refine at_imul 56 rfl (by decide +kernel) ?_
        refine at_iload_n (i := 2) 2 57 rfl (by decide +kernel) rfl ?_
        refine at_iadd 58 rfl (by decide +kernel) ?_
        refine at_aload_n (i := 0) 0 59 rfl (by decide +kernel) rfl ?_
        refine at_get (index := 9) (v := va_rf (mR m21 t 1)) cok12 1 62 rfl (by decide +kernel) k23 (by decide +kernel) tw_1086 rfl ?_
        rw [e26]
        refine at_iload_n (i := 1) 1 63 rfl (by decide +kernel) rfl ?_
        obtain ⟨v31, h⟩ := h
        refine at_iald 64 rfl (by decide +kernel) k24 v31 ?_
        refine at_lload_n (i := 3) 3 65 rfl (by decide +kernel) rfl ?_
        refine at_callS mb_RF_cut tw_1304 (index := 162) tw_1303 [.int (mI m21 b11 l1.toNatClampNeg), .long (l3)] [.int (((60 : Int32) * l1) + l2), va_rf (some b29)] rfl rfl (by simp [va_rf_cat, cat_int, cat_long]) 68 rfl (by decide +kernel) (Call.toJ (CJ.monoE h (fun x32 m33 h y34 => ?_)))
        have k35 : mK m33 t = 13 := y34.k k23 (by decide)
        have k36 : mK m33 b11 = 15 := y34.k k24 (by decide)
        have k37 : mK m33 b16 = 15 := y34.k k25 (by decide)
        have e38 : mR m33 t 1 = some b11 := y34.r k23 (by decide) rfl e26
        have e39 : mR m33 t 2 = some b16 := y34.r k23 (by decide) rfl e27
        have e40 : mR m33 t 3 = some b29 := y34.r k23 (by decide) rfl e30
        obtain ⟨k41, h⟩ := h
        obtain ⟨v42, h⟩ := h
        refine at_last 69 rfl (by decide +kernel) k41 v42 (fun m43 e44 => ?_)
        replace h := h m43 e44
        have x45 : Ext m33 m43 := by rw [e44]; exact Ext.sL _ _ _ _
        have k46 : mK m43 t = 13 := x45.k k35 (by decide)
        have k47 : mK m43 b11 = 15 := x45.k k36 (by decide)
        have k48 : mK m43 b16 = 15 := x45.k k37 (by decide)
        have k49 : mK m43 b29 = 16 := x45.k k41 (by decide)
        have e50 : mR m43 t 1 = some b11 := x45.r k35 (by decide) rfl e38
        have e51 : mR m43 t 2 = some b16 := x45.r k35 (by decide) rfl e39
        have e52 : mR m43 t 3 = some b29 := x45.r k35 (by decide) rfl e40
        refine at_iconst (n := 0) (0 : Int32) 70 rfl (by decide +kernel) (by decide +kernel) ?_
        exact at_iret rfl (by decide +kernel) h
      · rw [if_pos c28] at h
        refine at_bipush (n := (-6)) (-6 : Int32) 47 rfl (by decide +kernel) (by decide +kernel) ?_
        exact at_iret rfl (by decide +kernel) h
    · rw [if_neg c15] at h
      refine at_bipush (n := (-5)) (-5 : Int32) 26 rfl (by decide +kernel) (by decide +kernel) ?_
      exact at_iret rfl (by decide +kernel) h
  · rw [if_pos c10] at h
    refine at_bipush (n := (-2)) (-2 : Int32) 14 rfl (by decide +kernel) (by decide +kernel) ?_
    exact at_iret rfl (by decide +kernel) h
set_option maxRecDepth 20000 in
set_option maxHeartbeats 4000000 in
theorem bk_RF_paste_153 (g : Gc) {lv : Nat} {t : Nat} {l3 : Int32} {l4 : Int32} {l5 : Int32} {l6 : Int32} {m : Mm} {Q : Int32 → Mm → Prop} (h : if (l5) ≤ (l6) then (Q (0 : Int32) m) else (mK m t = 13 ∧ (∃ b3, mR m t 3 = some b3 ∧ (∃ b5, mR m t 4 = some b5 ∧ (mK m b5 = 16 ∧ (vp_in l6 (mN m b5) ∧ (mK m b3 = 16 ∧ (vp_in ((((60 : Int32) * l3) + l4) + l6) (mN m b3) ∧ (∀ m11, m11 = sL m b3 ((((60 : Int32) * l3) + l4) + l6).toNatClampNeg (mL m b5 l6.toNatClampNeg) → (At g M_RF_paste (lv + 1) 153 [(0, va_rf (some t)), (3, .int (l3)), (4, .int (l4)), (5, .int (l5)), (6, .int (l6 + (1 : Int32)))] [] m11 (QI Q))))))))))) : At g M_RF_paste (lv + 1) 153 [(0, va_rf (some t)), (3, .int (l3)), (4, .int (l4)), (5, .int (l5)), (6, .int (l6))] [] m (QI Q) := by
  refine at_iload (i := 6) 4 155 rfl (by decide +kernel) rfl ?_
  refine at_iload (i := 5) 3 157 rfl (by decide +kernel) rfl ?_
  refine at_icmp_ge (off := 31) 188 160 rfl (by decide +kernel) (by decide +kernel) (fun c1 => ?_) (fun c1 => ?_)
  · rw [if_pos c1] at h
    refine at_iconst (n := 0) (0 : Int32) 189 rfl (by decide +kernel) (by decide +kernel) ?_
    exact at_iret rfl (by decide +kernel) h
  · rw [if_neg c1] at h
    refine at_aload_n (i := 0) 0 161 rfl (by decide +kernel) rfl ?_
    obtain ⟨k2, h⟩ := h
    refine at_get (index := 16) (v := va_rf (mR m t 3)) cok12 3 164 rfl (by decide +kernel) k2 (by decide +kernel) tw_1088 rfl ?_
    obtain ⟨b3, e4, h⟩ := h
    rw [e4]
    refine at_bipush (n := 60) (60 : Int32) 166 rfl (by decide +kernel) (by decide +kernel) ?_
    refine at_iload_n (i := 3) 1 167 rfl (by decide +kernel) rfl ?_
    refine at_imul 168 rfl (by decide +kernel) ?_
    refine at_iload (i := 4) 2 170 rfl (by decide +kernel) rfl ?_
    refine at_iadd 171 rfl (by decide +kernel) ?_
    refine at_iload (i := 6) 4 173 rfl (by decide +kernel) rfl ?_
    refine at_iadd 174 rfl (by decide +kernel) ?_
    refine at_aload_n (i := 0) 0 175 rfl (by decide +kernel) rfl ?_
    refine at_get (index := 20) (v := va_rf (mR m t 4)) cok12 4 178 rfl (by decide +kernel) k2 (by decide +kernel) tw_1089 rfl ?_
    obtain ⟨b5, e6, h⟩ := h
    rw [e6]
    refine at_iload (i := 6) 4 180 rfl (by decide +kernel) rfl ?_
    obtain ⟨k7, h⟩ := h
    obtain ⟨v8, h⟩ := h
    refine at_lald 181 rfl (by decide +kernel) k7 v8 ?_
    obtain ⟨k9, h⟩ := h
    obtain ⟨v10, h⟩ := h
    refine at_last 182 rfl (by decide +kernel) k9 v10 (fun m11 e12 => ?_)
    replace h := h m11 e12
    have x13 : Ext m m11 := by rw [e12]; exact Ext.sL _ _ _ _
    have k14 : mK m11 t = 13 := x13.k k2 (by decide)
    have k15 : mK m11 b5 = 16 := x13.k k7 (by decide)
    have k16 : mK m11 b3 = 16 := x13.k k9 (by decide)
    have e17 : mR m11 t 3 = some b3 := x13.r k2 (by decide) rfl e4
    have e18 : mR m11 t 4 = some b5 := x13.r k2 (by decide) rfl e6
    refine at_iinc (i := 6) (n := 1) (lc' := [(0, va_rf (some t)), (3, .int (l3)), (4, .int (l4)), (5, .int (l5)), (6, .int (l6 + (1 : Int32)))]) (l6 + (1 : Int32)) 4 [1, 2, 3, 4, 0] 185 rfl (by decide +kernel) rfl (by rw [show Int32.ofInt 1 = (1 : Int32) from by decide +kernel]) (by decide +kernel) rfl ?_
    refine at_goto (off := (-32)) 153 (by decide +kernel) (by decide +kernel) ?_
    exact h
set_option maxRecDepth 20000 in
set_option maxHeartbeats 4000000 in
theorem bk_RF_paste_116 (g : Gc) {lv : Nat} {t : Nat} {l1 : Int32} {l2 : Int32} {l3 : Int32} {l4 : Int32} {l5 : Int32} {l6 : Int32} {m : Mm} {Q : Int32 → Mm → Prop} (h : if (l5) ≤ (l6) then (At g M_RF_paste (lv + 1) 153 [(0, va_rf (some t)), (3, .int (l3)), (4, .int (l4)), (5, .int (l5)), (6, .int ((0 : Int32)))] [] m (QI Q)) else (mK m t = 13 ∧ (∃ b3, mR m t 4 = some b3 ∧ (∃ b5, mR m t 3 = some b5 ∧ (mK m b5 = 16 ∧ (vp_in ((((60 : Int32) * l1) + l2) + l6) (mN m b5) ∧ (mK m b3 = 16 ∧ (vp_in l6 (mN m b3) ∧ (∀ m11, m11 = sL m b3 l6.toNatClampNeg (mL m b5 ((((60 : Int32) * l1) + l2) + l6).toNatClampNeg) → (At g M_RF_paste (lv + 1) 116 [(0, va_rf (some t)), (1, .int (l1)), (2, .int (l2)), (3, .int (l3)), (4, .int (l4)), (5, .int (l5)), (6, .int (l6 + (1 : Int32)))] [] m11 (QI Q))))))))))) : At g M_RF_paste (lv + 1) 116 [(0, va_rf (some t)), (1, .int (l1)), (2, .int (l2)), (3, .int (l3)), (4, .int (l4)), (5, .int (l5)), (6, .int (l6))] [] m (QI Q) := by
  refine at_iload (i := 6) 6 118 rfl (by decide +kernel) rfl ?_
  refine at_iload (i := 5) 5 120 rfl (by decide +kernel) rfl ?_
  refine at_icmp_ge (off := 30) 150 123 rfl (by decide +kernel) (by decide +kernel) (fun c1 => ?_) (fun c1 => ?_)
  · rw [if_pos c1] at h
    refine at_iconst (n := 0) (0 : Int32) 151 rfl (by decide +kernel) (by decide +kernel) ?_
    refine at_istore (i := 6) (lc' := [(0, va_rf (some t)), (3, .int (l3)), (4, .int (l4)), (5, .int (l5)), (6, .int ((0 : Int32)))]) [1, 4, 5, 6, 0] 153 rfl (by decide +kernel) (by decide +kernel) rfl ?_
    exact h
  · rw [if_neg c1] at h
    refine at_aload_n (i := 0) 0 124 rfl (by decide +kernel) rfl ?_
    obtain ⟨k2, h⟩ := h
    refine at_get (index := 20) (v := va_rf (mR m t 4)) cok12 4 127 rfl (by decide +kernel) k2 (by decide +kernel) tw_1089 rfl ?_
    obtain ⟨b3, e4, h⟩ := h
    rw [e4]
    refine at_iload (i := 6) 6 129 rfl (by decide +kernel) rfl ?_
    refine at_aload_n (i := 0) 0 130 rfl (by decide +kernel) rfl ?_
    refine at_get (index := 16) (v := va_rf (mR m t 3)) cok12 3 133 rfl (by decide +kernel) k2 (by decide +kernel) tw_1088 rfl ?_
    obtain ⟨b5, e6, h⟩ := h
    rw [e6]
    refine at_bipush (n := 60) (60 : Int32) 135 rfl (by decide +kernel) (by decide +kernel) ?_
    refine at_iload_n (i := 1) 1 136 rfl (by decide +kernel) rfl ?_
    refine at_imul 137 rfl (by decide +kernel) ?_
    refine at_iload_n (i := 2) 2 138 rfl (by decide +kernel) rfl ?_
    refine at_iadd 139 rfl (by decide +kernel) ?_
    refine at_iload (i := 6) 6 141 rfl (by decide +kernel) rfl ?_
    refine at_iadd 142 rfl (by decide +kernel) ?_
    obtain ⟨k7, h⟩ := h
    obtain ⟨v8, h⟩ := h
    refine at_lald 143 rfl (by decide +kernel) k7 v8 ?_
    obtain ⟨k9, h⟩ := h
    obtain ⟨v10, h⟩ := h
    refine at_last 144 rfl (by decide +kernel) k9 v10 (fun m11 e12 => ?_)
    replace h := h m11 e12
    have x13 : Ext m m11 := by rw [e12]; exact Ext.sL _ _ _ _
    have k14 : mK m11 t = 13 := x13.k k2 (by decide)
    have k15 : mK m11 b5 = 16 := x13.k k7 (by decide)
    have k16 : mK m11 b3 = 16 := x13.k k9 (by decide)
    have e17 : mR m11 t 4 = some b3 := x13.r k2 (by decide) rfl e4
    have e18 : mR m11 t 3 = some b5 := x13.r k2 (by decide) rfl e6
    refine at_iinc (i := 6) (n := 1) (lc' := [(0, va_rf (some t)), (1, .int (l1)), (2, .int (l2)), (3, .int (l3)), (4, .int (l4)), (5, .int (l5)), (6, .int (l6 + (1 : Int32)))]) (l6 + (1 : Int32)) 6 [1, 2, 3, 4, 5, 6, 0] 147 rfl (by decide +kernel) rfl (by rw [show Int32.ofInt 1 = (1 : Int32) from by decide +kernel]) (by decide +kernel) rfl ?_
    refine at_goto (off := (-31)) 116 (by decide +kernel) (by decide +kernel) ?_
    exact h
set_option maxRecDepth 20000 in
set_option maxHeartbeats 4000000 in
theorem en_RF_paste (g : Gc) {lv : Nat} {t : Nat} {l1 : Int32} {l2 : Int32} {l3 : Int32} {l4 : Int32} {l5 : Int32} {m : Mm} {Q : Int32 → Mm → Prop} (h : mK m t = 13 ∧ (∀ m2, m2 = sI m t 0 (0 : Int32) → (CI g M_RF_isSlot lv [.int (l1)] m2 (fun x6 m7 => (if (x6) = 0 then (Q (-2 : Int32) m7) else (CI g M_RF_isSlot lv [.int (l3)] m7 (fun x11 m12 => (if (x11) = 0 then (Q (-2 : Int32) m12) else (∃ b16, mR m12 t 1 = some b16 ∧ (mK m12 b16 = 15 ∧ (vp_in l1 (mN m12 b16) ∧ (if (mI m12 b16 l1.toNatClampNeg) < 0 then (Q (-5 : Int32) m12) else (vp_in l3 (mN m12 b16) ∧ (if 0 ≤ (mI m12 b16 l3.toNatClampNeg) then (vp_in l1 (mN m12 b16) ∧ (vp_in l3 (mN m12 b16) ∧ (if (mI m12 b16 l1.toNatClampNeg) = (mI m12 b16 l3.toNatClampNeg) then (if (l2) < 0 then (Q (-6 : Int32) m12) else (if (l4) < 0 then (Q (-6 : Int32) m12) else (if (l5) < 0 then (Q (-6 : Int32) m12) else (∃ b29, mR m12 t 2 = some b29 ∧ (mK m12 b29 = 15 ∧ (vp_in l1 (mN m12 b29) ∧ (if ((mI m12 b29 l1.toNatClampNeg).toInt64) < (l2.toInt64 + l5.toInt64) then (Q (-6 : Int32) m12) else (vp_in l3 (mN m12 b29) ∧ (if (l4.toInt64 + l5.toInt64) ≤ ((mI m12 b29 l3.toNatClampNeg).toInt64) then (At g M_RF_paste (lv + 1) 116 [(0, va_rf (some t)), (1, .int (l1)), (2, .int (l2)), (3, .int (l3)), (4, .int (l4)), (5, .int (l5)), (6, .int ((0 : Int32)))] [] m12 (QI Q)) else (Q (-6 : Int32) m12)))))))))) else (Q (-7 : Int32) m12)))) else (Q (-5 : Int32) m12))))))))))))))) : CI g M_RF_paste (lv + 1) [va_rf (some t), .int (l1), .int (l2), .int (l3), .int (l4), .int (l5)] m Q := by
  refine Call.of (by decide +kernel) (Nat.le_of_ble_eq_true rfl) ?_
  show At g M_RF_paste (lv + 1) 0 [(0, va_rf (some t)), (1, .int (l1)), (2, .int (l2)), (3, .int (l3)), (4, .int (l4)), (5, .int (l5))] [] m (QI Q)
  refine at_aload_n (i := 0) 0 1 rfl (by decide +kernel) rfl ?_
  refine at_iconst (n := 0) (0 : Int32) 2 rfl (by decide +kernel) (by decide +kernel) ?_
  obtain ⟨k1, h⟩ := h
  refine at_putI (index := 149) cok12 0 5 rfl (by decide +kernel) k1 (by decide +kernel) tw_1085 rfl rfl rfl (fun m2 e3 => ?_)
  replace h := h m2 e3
  have x4 : Ext m m2 := by rw [e3]; exact Ext.sI _ _ _ _
  have k5 : mK m2 t = 13 := x4.k k1 (by decide)
  refine at_iload_n (i := 1) 1 6 rfl (by decide +kernel) rfl ?_
  refine at_callS mb_RF_isSlot tw_1289 (index := 158) tw_1288 [.int (l1)] [] rfl rfl (by decide) 9 rfl (by decide +kernel) (Call.toI (CI.monoE h (fun x6 m7 h y8 => ?_)))
  have k9 : mK m7 t = 13 := y8.k k5 (by decide)
  refine at_if_eq (off := 10) 19 12 rfl (by decide +kernel) (by decide +kernel) (fun c10 => ?_) (fun c10 => ?_)
  · rw [if_pos c10] at h
    refine at_bipush (n := (-2)) (-2 : Int32) 21 rfl (by decide +kernel) (by decide +kernel) ?_
    exact at_iret rfl (by decide +kernel) h
  · rw [if_neg c10] at h
    refine at_iload_n (i := 3) 3 13 rfl (by decide +kernel) rfl ?_
    refine at_callS mb_RF_isSlot tw_1289 (index := 158) tw_1288 [.int (l3)] [] rfl rfl (by decide) 16 rfl (by decide +kernel) (Call.toI (CI.monoE h (fun x11 m12 h y13 => ?_)))
    have k14 : mK m12 t = 13 := y13.k k9 (by decide)
    refine at_if_ne (off := 6) 22 19 rfl (by decide +kernel) (by decide +kernel) (fun c15 => ?_) (fun c15 => ?_)
    · rw [if_neg c15] at h
      refine at_aload_n (i := 0) 0 23 rfl (by decide +kernel) rfl ?_
      refine at_get (index := 9) (v := va_rf (mR m12 t 1)) cok12 1 26 rfl (by decide +kernel) k14 (by decide +kernel) tw_1086 rfl ?_
      obtain ⟨b16, e17, h⟩ := h
      rw [e17]
      refine at_iload_n (i := 1) 1 27 rfl (by decide +kernel) rfl ?_
      obtain ⟨k18, h⟩ := h
      obtain ⟨v19, h⟩ := h
      refine at_iald 28 rfl (by decide +kernel) k18 v19 ?_
      refine at_if_lt (off := 12) 40 31 rfl (by decide +kernel) (by decide +kernel) (fun c20 => ?_) (fun c20 => ?_)
      · rw [if_pos c20] at h
        refine at_bipush (n := (-5)) (-5 : Int32) 42 rfl (by decide +kernel) (by decide +kernel) ?_
        exact at_iret rfl (by decide +kernel) h
      · rw [if_neg c20] at h
        refine at_aload_n (i := 0) 0 32 rfl (by decide +kernel) rfl ?_
        refine at_get (index := 9) (v := va_rf (mR m12 t 1)) cok12 1 35 rfl (by decide +kernel) k14 (by decide +kernel) tw_1086 rfl ?_
        rw [e17]
        refine at_iload_n (i := 3) 3 36 rfl (by decide +kernel) rfl ?_
        obtain ⟨v21, h⟩ := h
        refine at_iald 37 rfl (by decide +kernel) k18 v21 ?_
        refine at_if_ge (off := 6) 43 40 rfl (by decide +kernel) (by decide +kernel) (fun c22 => ?_) (fun c22 => ?_)
        · rw [if_pos c22] at h
          refine at_aload_n (i := 0) 0 44 rfl (by decide +kernel) rfl ?_
          refine at_get (index := 9) (v := va_rf (mR m12 t 1)) cok12 1 47 rfl (by decide +kernel) k14 (by decide +kernel) tw_1086 rfl ?_
          rw [e17]
          refine at_iload_n (i := 1) 1 48 rfl (by decide +kernel) rfl ?_
          obtain ⟨v23, h⟩ := h
          refine at_iald 49 rfl (by decide +kernel) k18 v23 ?_
          refine at_aload_n (i := 0) 0 50 rfl (by decide +kernel) rfl ?_
          refine at_get (index := 9) (v := va_rf (mR m12 t 1)) cok12 1 53 rfl (by decide +kernel) k14 (by decide +kernel) tw_1086 rfl ?_
          rw [e17]
          refine at_iload_n (i := 3) 3 54 rfl (by decide +kernel) rfl ?_
          obtain ⟨v24, h⟩ := h
          refine at_iald 55 rfl (by decide +kernel) k18 v24 ?_
          refine at_icmp_eq (off := 6) 61 58 rfl (by decide +kernel) (by decide +kernel) (fun c25 => ?_) (fun c25 => ?_)
          · rw [if_pos c25] at h
            refine at_iload_n (i := 2) 2 62 rfl (by decide +kernel) rfl ?_
            refine at_if_lt (off := 48) 110 65 rfl (by decide +kernel) (by decide +kernel) (fun c26 => ?_) (fun c26 => ?_)
            · rw [if_pos c26] at h
              refine at_bipush (n := (-6)) (-6 : Int32) 112 rfl (by decide +kernel) (by decide +kernel) ?_
              exact at_iret rfl (by decide +kernel) h
            · rw [if_neg c26] at h
              refine at_iload (i := 4) 4 67 rfl (by decide +kernel) rfl ?_
              refine at_if_lt (off := 43) 110 70 rfl (by decide +kernel) (by decide +kernel) (fun c27 => ?_) (fun c27 => ?_)
              · rw [if_pos c27] at h
                refine at_bipush (n := (-6)) (-6 : Int32) 112 rfl (by decide +kernel) (by decide +kernel) ?_
                exact at_iret rfl (by decide +kernel) h
              · rw [if_neg c27] at h
                refine at_iload (i := 5) 5 72 rfl (by decide +kernel) rfl ?_
                refine at_if_lt (off := 38) 110 75 rfl (by decide +kernel) (by decide +kernel) (fun c28 => ?_) (fun c28 => ?_)
                · rw [if_pos c28] at h
                  refine at_bipush (n := (-6)) (-6 : Int32) 112 rfl (by decide +kernel) (by decide +kernel) ?_
                  exact at_iret rfl (by decide +kernel) h
                · rw [if_neg c28] at h
                  refine at_iload_n (i := 2) 2 76 rfl (by decide +kernel) rfl ?_
                  refine at_i2l 77 rfl (by decide +kernel) ?_
                  refine at_iload (i := 5) 5 79 rfl (by decide +kernel) rfl ?_
                  refine at_i2l 80 rfl (by decide +kernel) ?_
                  refine at_ladd 81 rfl (by decide +kernel) ?_
                  refine at_aload_n (i := 0) 0 82 rfl (by decide +kernel) rfl ?_
                  refine at_get (index := 13) (v := va_rf (mR m12 t 2)) cok12 2 85 rfl (by decide +kernel) k14 (by decide +kernel) tw_1087 rfl ?_
                  obtain ⟨b29, e30, h⟩ := h
                  rw [e30]
                  refine at_iload_n (i := 1) 1 86 rfl (by decide +kernel) rfl ?_
                  obtain ⟨k31, h⟩ := h
                  obtain ⟨v32, h⟩ := h
                  refine at_iald 87 rfl (by decide +kernel) k31 v32 ?_
                  refine at_i2l 88 rfl (by decide +kernel) ?_
                  refine at_lif_gt (off := 21) 89 110 92 rfl rfl (by decide +kernel) (by decide +kernel) (by decide +kernel) (fun c33 => ?_) (fun c33 => ?_)
                  · rw [if_pos c33] at h
                    refine at_bipush (n := (-6)) (-6 : Int32) 112 rfl (by decide +kernel) (by decide +kernel) ?_
                    exact at_iret rfl (by decide +kernel) h
                  · rw [if_neg c33] at h
                    refine at_iload (i := 4) 4 94 rfl (by decide +kernel) rfl ?_
                    refine at_i2l 95 rfl (by decide +kernel) ?_
                    refine at_iload (i := 5) 5 97 rfl (by decide +kernel) rfl ?_
                    refine at_i2l 98 rfl (by decide +kernel) ?_
                    refine at_ladd 99 rfl (by decide +kernel) ?_
                    refine at_aload_n (i := 0) 0 100 rfl (by decide +kernel) rfl ?_
                    refine at_get (index := 13) (v := va_rf (mR m12 t 2)) cok12 2 103 rfl (by decide +kernel) k14 (by decide +kernel) tw_1087 rfl ?_
                    rw [e30]
                    refine at_iload_n (i := 3) 3 104 rfl (by decide +kernel) rfl ?_
                    obtain ⟨v34, h⟩ := h
                    refine at_iald 105 rfl (by decide +kernel) k31 v34 ?_
                    refine at_i2l 106 rfl (by decide +kernel) ?_
                    refine at_lif_le (off := 6) 107 113 110 rfl rfl (by decide +kernel) (by decide +kernel) (by decide +kernel) (fun c35 => ?_) (fun c35 => ?_)
                    · rw [if_pos c35] at h
                      refine at_iconst (n := 0) (0 : Int32) 114 rfl (by decide +kernel) (by decide +kernel) ?_
                      refine at_istore (i := 6) (lc' := [(0, va_rf (some t)), (1, .int (l1)), (2, .int (l2)), (3, .int (l3)), (4, .int (l4)), (5, .int (l5)), (6, .int ((0 : Int32)))]) [1, 2, 3, 4, 5, 6, 0] 116 rfl (by decide +kernel) (by decide +kernel) rfl ?_
                      exact h
                    · rw [if_neg c35] at h
                      refine at_bipush (n := (-6)) (-6 : Int32) 112 rfl (by decide +kernel) (by decide +kernel) ?_
                      exact at_iret rfl (by decide +kernel) h
          · rw [if_neg c25] at h
            refine at_bipush (n := (-7)) (-7 : Int32) 60 rfl (by decide +kernel) (by decide +kernel) ?_
            exact at_iret rfl (by decide +kernel) h
        · rw [if_neg c22] at h
          refine at_bipush (n := (-5)) (-5 : Int32) 42 rfl (by decide +kernel) (by decide +kernel) ?_
          exact at_iret rfl (by decide +kernel) h
    · rw [if_pos c15] at h
      refine at_bipush (n := (-2)) (-2 : Int32) 21 rfl (by decide +kernel) (by decide +kernel) ?_
      exact at_iret rfl (by decide +kernel) h
set_option maxRecDepth 20000 in
set_option maxHeartbeats 4000000 in
theorem en_RF_terms (g : Gc) {lv : Nat} {t : Nat} {l1 : Int32} {l2 : Int32} {l3 : Int32} {l4 : Int32} {l5 : Int32} {l6 : Int32} {l7 : Int32} {m : Mm} {Q : Int32 → Mm → Prop} (h : mK m t = 13 ∧ (∀ m2, m2 = sI m t 0 (0 : Int32) → (CI g M_RF_in lv [.long (l1.toInt64), .long ((0 : Int64)), .long ((10000000 : Int64))] m2 (fun x6 m7 => (if (x6) = 0 then (Q (-2 : Int32) m7) else (CI g M_RF_in lv [.long (l2.toInt64), .long ((0 : Int64)), .long ((1000000 : Int64))] m7 (fun x11 m12 => (if (x11) = 0 then (Q (-2 : Int32) m12) else (CI g M_RF_in lv [.long (l3.toInt64), .long ((0 : Int64)), .long ((1000 : Int64))] m12 (fun x16 m17 => (if (x16) = 0 then (Q (-2 : Int32) m17) else (CI g M_RF_in lv [.long (l4.toInt64), .long ((0 : Int64)), .long ((10000000 : Int64))] m17 (fun x21 m22 => (if (x21) = 0 then (Q (-2 : Int32) m22) else (CI g M_RF_in lv [.long (l5.toInt64), .long ((1 : Int64)), .long ((10000 : Int64))] m22 (fun x26 m27 => (if (x26) = 0 then (Q (-2 : Int32) m27) else (CI g M_RF_in lv [.long (l6.toInt64), .long ((0 : Int64)), .long ((100 : Int64))] m27 (fun x31 m32 => (if (x31) = 0 then (Q (-2 : Int32) m32) else (CI g M_RF_in lv [.long (l7.toInt64), .long ((0 : Int64)), .long ((200 : Int64))] m32 (fun x36 m37 => (if (x36) = 0 then (Q (-2 : Int32) m37) else (∀ m41, m41 = sI m37 t 5 l1 → (∀ m45, m45 = sI m41 t 6 l2 → (∀ m49, m49 = sI m45 t 7 l3 → (∀ m53, m53 = sI m49 t 8 l4 → (∀ m57, m57 = sI m53 t 9 l5 → (∀ m61, m61 = sI m57 t 10 l6 → (∀ m65, m65 = sI m61 t 11 l7 → (Q (0 : Int32) m65))))))))))))))))))))))))))))))) : CI g M_RF_terms (lv + 1) [va_rf (some t), .int (l1), .int (l2), .int (l3), .int (l4), .int (l5), .int (l6), .int (l7)] m Q := by
  refine Call.of (by decide +kernel) (Nat.le_of_ble_eq_true rfl) ?_
  show At g M_RF_terms (lv + 1) 0 [(0, va_rf (some t)), (1, .int (l1)), (2, .int (l2)), (3, .int (l3)), (4, .int (l4)), (5, .int (l5)), (6, .int (l6)), (7, .int (l7))] [] m (QI Q)
  refine at_aload_n (i := 0) 0 1 rfl (by decide +kernel) rfl ?_
  refine at_iconst (n := 0) (0 : Int32) 2 rfl (by decide +kernel) (by decide +kernel) ?_
  obtain ⟨k1, h⟩ := h
  refine at_putI (index := 149) cok12 0 5 rfl (by decide +kernel) k1 (by decide +kernel) tw_1085 rfl rfl rfl (fun m2 e3 => ?_)
  replace h := h m2 e3
  have x4 : Ext m m2 := by rw [e3]; exact Ext.sI _ _ _ _
  have k5 : mK m2 t = 13 := x4.k k1 (by decide)
  refine at_iload_n (i := 1) 1 6 rfl (by decide +kernel) rfl ?_
  refine at_i2l 7 rfl (by decide +kernel) ?_
  refine at_lconst (n := 0) (0 : Int64) 8 rfl (by decide +kernel) (by decide +kernel) ?_
  refine at_ldc2 (index := 166) (10000000 : Int64) 11 rfl (by decide +kernel) tw_1314 ?_
  refine at_callS mb_RF_in tw_1293 (index := 154) tw_1292 [.long (l1.toInt64), .long ((0 : Int64)), .long ((10000000 : Int64))] [] rfl rfl (by decide) 14 rfl (by decide +kernel) (Call.toI (CI.monoE h (fun x6 m7 h y8 => ?_)))
  have k9 : mK m7 t = 13 := y8.k k5 (by decide)
  refine at_if_eq (off := 79) 93 17 rfl (by decide +kernel) (by decide +kernel) (fun c10 => ?_) (fun c10 => ?_)
  · rw [if_pos c10] at h
    refine at_bipush (n := (-2)) (-2 : Int32) 95 rfl (by decide +kernel) (by decide +kernel) ?_
    exact at_iret rfl (by decide +kernel) h
  · rw [if_neg c10] at h
    refine at_iload_n (i := 2) 2 18 rfl (by decide +kernel) rfl ?_
    refine at_i2l 19 rfl (by decide +kernel) ?_
    refine at_lconst (n := 0) (0 : Int64) 20 rfl (by decide +kernel) (by decide +kernel) ?_
    refine at_ldc2 (index := 168) (1000000 : Int64) 23 rfl (by decide +kernel) tw_1315 ?_
    refine at_callS mb_RF_in tw_1293 (index := 154) tw_1292 [.long (l2.toInt64), .long ((0 : Int64)), .long ((1000000 : Int64))] [] rfl rfl (by decide) 26 rfl (by decide +kernel) (Call.toI (CI.monoE h (fun x11 m12 h y13 => ?_)))
    have k14 : mK m12 t = 13 := y13.k k9 (by decide)
    refine at_if_eq (off := 67) 93 29 rfl (by decide +kernel) (by decide +kernel) (fun c15 => ?_) (fun c15 => ?_)
    · rw [if_pos c15] at h
      refine at_bipush (n := (-2)) (-2 : Int32) 95 rfl (by decide +kernel) (by decide +kernel) ?_
      exact at_iret rfl (by decide +kernel) h
    · rw [if_neg c15] at h
      refine at_iload_n (i := 3) 3 30 rfl (by decide +kernel) rfl ?_
      refine at_i2l 31 rfl (by decide +kernel) ?_
      refine at_lconst (n := 0) (0 : Int64) 32 rfl (by decide +kernel) (by decide +kernel) ?_
      refine at_ldc2 (index := 170) (1000 : Int64) 35 rfl (by decide +kernel) tw_1316 ?_
      refine at_callS mb_RF_in tw_1293 (index := 154) tw_1292 [.long (l3.toInt64), .long ((0 : Int64)), .long ((1000 : Int64))] [] rfl rfl (by decide) 38 rfl (by decide +kernel) (Call.toI (CI.monoE h (fun x16 m17 h y18 => ?_)))
      have k19 : mK m17 t = 13 := y18.k k14 (by decide)
      refine at_if_eq (off := 55) 93 41 rfl (by decide +kernel) (by decide +kernel) (fun c20 => ?_) (fun c20 => ?_)
      · rw [if_pos c20] at h
        refine at_bipush (n := (-2)) (-2 : Int32) 95 rfl (by decide +kernel) (by decide +kernel) ?_
        exact at_iret rfl (by decide +kernel) h
      · rw [if_neg c20] at h
        refine at_iload (i := 4) 4 43 rfl (by decide +kernel) rfl ?_
        refine at_i2l 44 rfl (by decide +kernel) ?_
        refine at_lconst (n := 0) (0 : Int64) 45 rfl (by decide +kernel) (by decide +kernel) ?_
        refine at_ldc2 (index := 166) (10000000 : Int64) 48 rfl (by decide +kernel) tw_1314 ?_
        refine at_callS mb_RF_in tw_1293 (index := 154) tw_1292 [.long (l4.toInt64), .long ((0 : Int64)), .long ((10000000 : Int64))] [] rfl rfl (by decide) 51 rfl (by decide +kernel) (Call.toI (CI.monoE h (fun x21 m22 h y23 => ?_)))
        have k24 : mK m22 t = 13 := y23.k k19 (by decide)
        refine at_if_eq (off := 42) 93 54 rfl (by decide +kernel) (by decide +kernel) (fun c25 => ?_) (fun c25 => ?_)
        · rw [if_pos c25] at h
          refine at_bipush (n := (-2)) (-2 : Int32) 95 rfl (by decide +kernel) (by decide +kernel) ?_
          exact at_iret rfl (by decide +kernel) h
        · rw [if_neg c25] at h
          refine at_iload (i := 5) 5 56 rfl (by decide +kernel) rfl ?_
          refine at_i2l 57 rfl (by decide +kernel) ?_
          refine at_lconst (n := 1) (1 : Int64) 58 rfl (by decide +kernel) (by decide +kernel) ?_
          refine at_ldc2 (index := 172) (10000 : Int64) 61 rfl (by decide +kernel) tw_1317 ?_
          refine at_callS mb_RF_in tw_1293 (index := 154) tw_1292 [.long (l5.toInt64), .long ((1 : Int64)), .long ((10000 : Int64))] [] rfl rfl (by decide) 64 rfl (by decide +kernel) (Call.toI (CI.monoE h (fun x26 m27 h y28 => ?_)))
          have k29 : mK m27 t = 13 := y28.k k24 (by decide)
          refine at_if_eq (off := 29) 93 67 rfl (by decide +kernel) (by decide +kernel) (fun c30 => ?_) (fun c30 => ?_)
          · rw [if_pos c30] at h
            refine at_bipush (n := (-2)) (-2 : Int32) 95 rfl (by decide +kernel) (by decide +kernel) ?_
            exact at_iret rfl (by decide +kernel) h
          · rw [if_neg c30] at h
            refine at_iload (i := 6) 6 69 rfl (by decide +kernel) rfl ?_
            refine at_i2l 70 rfl (by decide +kernel) ?_
            refine at_lconst (n := 0) (0 : Int64) 71 rfl (by decide +kernel) (by decide +kernel) ?_
            refine at_ldc2 (index := 174) (100 : Int64) 74 rfl (by decide +kernel) tw_1318 ?_
            refine at_callS mb_RF_in tw_1293 (index := 154) tw_1292 [.long (l6.toInt64), .long ((0 : Int64)), .long ((100 : Int64))] [] rfl rfl (by decide) 77 rfl (by decide +kernel) (Call.toI (CI.monoE h (fun x31 m32 h y33 => ?_)))
            have k34 : mK m32 t = 13 := y33.k k29 (by decide)
            refine at_if_eq (off := 16) 93 80 rfl (by decide +kernel) (by decide +kernel) (fun c35 => ?_) (fun c35 => ?_)
            · rw [if_pos c35] at h
              refine at_bipush (n := (-2)) (-2 : Int32) 95 rfl (by decide +kernel) (by decide +kernel) ?_
              exact at_iret rfl (by decide +kernel) h
            · rw [if_neg c35] at h
              refine at_iload (i := 7) 7 82 rfl (by decide +kernel) rfl ?_
              refine at_i2l 83 rfl (by decide +kernel) ?_
              refine at_lconst (n := 0) (0 : Int64) 84 rfl (by decide +kernel) (by decide +kernel) ?_
              refine at_ldc2 (index := 176) (200 : Int64) 87 rfl (by decide +kernel) tw_1319 ?_
              refine at_callS mb_RF_in tw_1293 (index := 154) tw_1292 [.long (l7.toInt64), .long ((0 : Int64)), .long ((200 : Int64))] [] rfl rfl (by decide) 90 rfl (by decide +kernel) (Call.toI (CI.monoE h (fun x36 m37 h y38 => ?_)))
              have k39 : mK m37 t = 13 := y38.k k34 (by decide)
              refine at_if_ne (off := 6) 96 93 rfl (by decide +kernel) (by decide +kernel) (fun c40 => ?_) (fun c40 => ?_)
              · rw [if_neg c40] at h
                refine at_aload_n (i := 0) 0 97 rfl (by decide +kernel) rfl ?_
                refine at_iload_n (i := 1) 1 98 rfl (by decide +kernel) rfl ?_
                refine at_putI (index := 23) cok12 5 101 rfl (by decide +kernel) k39 (by decide +kernel) tw_1090 rfl rfl rfl (fun m41 e42 => ?_)
                replace h := h m41 e42
                have x43 : Ext m37 m41 := by rw [e42]; exact Ext.sI _ _ _ _
                have k44 : mK m41 t = 13 := x43.k k39 (by decide)
                refine at_aload_n (i := 0) 0 102 rfl (by decide +kernel) rfl ?_
                refine at_iload_n (i := 2) 2 103 rfl (by decide +kernel) rfl ?_
                refine at_putI (index := 27) cok12 6 106 rfl (by decide +kernel) k44 (by decide +kernel) tw_1091 rfl rfl rfl (fun m45 e46 => ?_)
                replace h := h m45 e46
                have x47 : Ext m41 m45 := by rw [e46]; exact Ext.sI _ _ _ _
                have k48 : mK m45 t = 13 := x47.k k44 (by decide)
                refine at_aload_n (i := 0) 0 107 rfl (by decide +kernel) rfl ?_
                refine at_iload_n (i := 3) 3 108 rfl (by decide +kernel) rfl ?_
                refine at_putI (index := 30) cok12 7 111 rfl (by decide +kernel) k48 (by decide +kernel) tw_1092 rfl rfl rfl (fun m49 e50 => ?_)
                replace h := h m49 e50
                have x51 : Ext m45 m49 := by rw [e50]; exact Ext.sI _ _ _ _
                have k52 : mK m49 t = 13 := x51.k k48 (by decide)
                refine at_aload_n (i := 0) 0 112 rfl (by decide +kernel) rfl ?_
                refine at_iload (i := 4) 4 114 rfl (by decide +kernel) rfl ?_
                refine at_putI (index := 33) cok12 8 117 rfl (by decide +kernel) k52 (by decide +kernel) tw_1093 rfl rfl rfl (fun m53 e54 => ?_)
                replace h := h m53 e54
                have x55 : Ext m49 m53 := by rw [e54]; exact Ext.sI _ _ _ _
                have k56 : mK m53 t = 13 := x55.k k52 (by decide)
                refine at_aload_n (i := 0) 0 118 rfl (by decide +kernel) rfl ?_
                refine at_iload (i := 5) 5 120 rfl (by decide +kernel) rfl ?_
                refine at_putI (index := 36) cok12 9 123 rfl (by decide +kernel) k56 (by decide +kernel) tw_1094 rfl rfl rfl (fun m57 e58 => ?_)
                replace h := h m57 e58
                have x59 : Ext m53 m57 := by rw [e58]; exact Ext.sI _ _ _ _
                have k60 : mK m57 t = 13 := x59.k k56 (by decide)
                refine at_aload_n (i := 0) 0 124 rfl (by decide +kernel) rfl ?_
                refine at_iload (i := 6) 6 126 rfl (by decide +kernel) rfl ?_
                refine at_putI (index := 39) cok12 10 129 rfl (by decide +kernel) k60 (by decide +kernel) tw_1095 rfl rfl rfl (fun m61 e62 => ?_)
                replace h := h m61 e62
                have x63 : Ext m57 m61 := by rw [e62]; exact Ext.sI _ _ _ _
                have k64 : mK m61 t = 13 := x63.k k60 (by decide)
                refine at_aload_n (i := 0) 0 130 rfl (by decide +kernel) rfl ?_
                refine at_iload (i := 7) 7 132 rfl (by decide +kernel) rfl ?_
                refine at_putI (index := 178) cok12 11 135 rfl (by decide +kernel) k64 (by decide +kernel) tw_1096 rfl rfl rfl (fun m65 e66 => ?_)
                replace h := h m65 e66
                have x67 : Ext m61 m65 := by rw [e66]; exact Ext.sI _ _ _ _
                have k68 : mK m65 t = 13 := x67.k k64 (by decide)
                refine at_iconst (n := 0) (0 : Int32) 136 rfl (by decide +kernel) (by decide +kernel) ?_
                exact at_iret rfl (by decide +kernel) h
              · rw [if_pos c40] at h
                refine at_bipush (n := (-2)) (-2 : Int32) 95 rfl (by decide +kernel) (by decide +kernel) ?_
                exact at_iret rfl (by decide +kernel) h
set_option maxRecDepth 20000 in
set_option maxHeartbeats 4000000 in
theorem en_RF_bank (g : Gc) {lv : Nat} {t : Nat} {l1 : Int32} {l2 : Int32} {l3 : Int32} {m : Mm} {Q : Int32 → Mm → Prop} (h : mK m t = 13 ∧ (∀ m2, m2 = sI m t 0 (0 : Int32) → (CI g M_RF_in lv [.long (l1.toInt64), .long ((0 : Int64)), .long ((2 : Int64))] m2 (fun x6 m7 => (if (x6) = 0 then (Q (-2 : Int32) m7) else (CI g M_RF_in lv [.long (l2.toInt64), .long ((0 : Int64)), .long ((100 : Int64))] m7 (fun x11 m12 => (if (x11) = 0 then (Q (-2 : Int32) m12) else (CI g M_RF_in lv [.long (l3.toInt64), .long ((0 : Int64)), .long ((100 : Int64))] m12 (fun x16 m17 => (if (x16) = 0 then (Q (-2 : Int32) m17) else (∃ b21, mR m17 t 12 = some b21 ∧ (mK m17 b21 = 15 ∧ (vp_in l1 (mN m17 b21) ∧ (∀ m25, m25 = sI m17 b21 l1.toNatClampNeg l2 → (∃ b31, mR m25 t 13 = some b31 ∧ (mK m25 b31 = 15 ∧ (vp_in l1 (mN m25 b31) ∧ (∀ m35, m35 = sI m25 b31 l1.toNatClampNeg l3 → (Q (0 : Int32) m35)))))))))))))))))))) : CI g M_RF_bank (lv + 1) [va_rf (some t), .int (l1), .int (l2), .int (l3)] m Q := by
  refine Call.of (by decide +kernel) (Nat.le_of_ble_eq_true rfl) ?_
  show At g M_RF_bank (lv + 1) 0 [(0, va_rf (some t)), (1, .int (l1)), (2, .int (l2)), (3, .int (l3))] [] m (QI Q)
  refine at_aload_n (i := 0) 0 1 rfl (by decide +kernel) rfl ?_
  refine at_iconst (n := 0) (0 : Int32) 2 rfl (by decide +kernel) (by decide +kernel) ?_
  obtain ⟨k1, h⟩ := h
  refine at_putI (index := 149) cok12 0 5 rfl (by decide +kernel) k1 (by decide +kernel) tw_1085 rfl rfl rfl (fun m2 e3 => ?_)
  replace h := h m2 e3
  have x4 : Ext m m2 := by rw [e3]; exact Ext.sI _ _ _ _
  have k5 : mK m2 t = 13 := x4.k k1 (by decide)
  refine at_iload_n (i := 1) 1 6 rfl (by decide +kernel) rfl ?_
  refine at_i2l 7 rfl (by decide +kernel) ?_
  refine at_lconst (n := 0) (0 : Int64) 8 rfl (by decide +kernel) (by decide +kernel) ?_
  refine at_ldc2 (index := 181) (2 : Int64) 11 rfl (by decide +kernel) tw_1324 ?_
  refine at_callS mb_RF_in tw_1293 (index := 154) tw_1292 [.long (l1.toInt64), .long ((0 : Int64)), .long ((2 : Int64))] [] rfl rfl (by decide) 14 rfl (by decide +kernel) (Call.toI (CI.monoE h (fun x6 m7 h y8 => ?_)))
  have k9 : mK m7 t = 13 := y8.k k5 (by decide)
  refine at_if_eq (off := 27) 41 17 rfl (by decide +kernel) (by decide +kernel) (fun c10 => ?_) (fun c10 => ?_)
  · rw [if_pos c10] at h
    refine at_bipush (n := (-2)) (-2 : Int32) 43 rfl (by decide +kernel) (by decide +kernel) ?_
    exact at_iret rfl (by decide +kernel) h
  · rw [if_neg c10] at h
    refine at_iload_n (i := 2) 2 18 rfl (by decide +kernel) rfl ?_
    refine at_i2l 19 rfl (by decide +kernel) ?_
    refine at_lconst (n := 0) (0 : Int64) 20 rfl (by decide +kernel) (by decide +kernel) ?_
    refine at_ldc2 (index := 174) (100 : Int64) 23 rfl (by decide +kernel) tw_1318 ?_
    refine at_callS mb_RF_in tw_1293 (index := 154) tw_1292 [.long (l2.toInt64), .long ((0 : Int64)), .long ((100 : Int64))] [] rfl rfl (by decide) 26 rfl (by decide +kernel) (Call.toI (CI.monoE h (fun x11 m12 h y13 => ?_)))
    have k14 : mK m12 t = 13 := y13.k k9 (by decide)
    refine at_if_eq (off := 15) 41 29 rfl (by decide +kernel) (by decide +kernel) (fun c15 => ?_) (fun c15 => ?_)
    · rw [if_pos c15] at h
      refine at_bipush (n := (-2)) (-2 : Int32) 43 rfl (by decide +kernel) (by decide +kernel) ?_
      exact at_iret rfl (by decide +kernel) h
    · rw [if_neg c15] at h
      refine at_iload_n (i := 3) 3 30 rfl (by decide +kernel) rfl ?_
      refine at_i2l 31 rfl (by decide +kernel) ?_
      refine at_lconst (n := 0) (0 : Int64) 32 rfl (by decide +kernel) (by decide +kernel) ?_
      refine at_ldc2 (index := 174) (100 : Int64) 35 rfl (by decide +kernel) tw_1318 ?_
      refine at_callS mb_RF_in tw_1293 (index := 154) tw_1292 [.long (l3.toInt64), .long ((0 : Int64)), .long ((100 : Int64))] [] rfl rfl (by decide) 38 rfl (by decide +kernel) (Call.toI (CI.monoE h (fun x16 m17 h y18 => ?_)))
      have k19 : mK m17 t = 13 := y18.k k14 (by decide)
      refine at_if_ne (off := 6) 44 41 rfl (by decide +kernel) (by decide +kernel) (fun c20 => ?_) (fun c20 => ?_)
      · rw [if_neg c20] at h
        refine at_aload_n (i := 0) 0 45 rfl (by decide +kernel) rfl ?_
        refine at_get (index := 42) (v := va_rf (mR m17 t 12)) cok12 12 48 rfl (by decide +kernel) k19 (by decide +kernel) tw_1097 rfl ?_
        obtain ⟨b21, e22, h⟩ := h
        rw [e22]
        refine at_iload_n (i := 1) 1 49 rfl (by decide +kernel) rfl ?_
        refine at_iload_n (i := 2) 2 50 rfl (by decide +kernel) rfl ?_
        obtain ⟨k23, h⟩ := h
        obtain ⟨v24, h⟩ := h
        refine at_iast 51 rfl (by decide +kernel) k23 v24 (fun m25 e26 => ?_)
        replace h := h m25 e26
        have x27 : Ext m17 m25 := by rw [e26]; exact Ext.sI _ _ _ _
        have k28 : mK m25 t = 13 := x27.k k19 (by decide)
        have k29 : mK m25 b21 = 15 := x27.k k23 (by decide)
        have e30 : mR m25 t 12 = some b21 := x27.r k19 (by decide) rfl e22
        refine at_aload_n (i := 0) 0 52 rfl (by decide +kernel) rfl ?_
        refine at_get (index := 45) (v := va_rf (mR m25 t 13)) cok12 13 55 rfl (by decide +kernel) k28 (by decide +kernel) tw_1098 rfl ?_
        obtain ⟨b31, e32, h⟩ := h
        rw [e32]
        refine at_iload_n (i := 1) 1 56 rfl (by decide +kernel) rfl ?_
        refine at_iload_n (i := 3) 3 57 rfl (by decide +kernel) rfl ?_
        obtain ⟨k33, h⟩ := h
        obtain ⟨v34, h⟩ := h
        refine at_iast 58 rfl (by decide +kernel) k33 v34 (fun m35 e36 => ?_)
        replace h := h m35 e36
        have x37 : Ext m25 m35 := by rw [e36]; exact Ext.sI _ _ _ _
        have k38 : mK m35 t = 13 := x37.k k28 (by decide)
        have k39 : mK m35 b21 = 15 := x37.k k29 (by decide)
        have k40 : mK m35 b31 = 15 := x37.k k33 (by decide)
        have e41 : mR m35 t 12 = some b21 := x37.r k28 (by decide) rfl e30
        have e42 : mR m35 t 13 = some b31 := x37.r k28 (by decide) rfl e32
        refine at_iconst (n := 0) (0 : Int32) 59 rfl (by decide +kernel) (by decide +kernel) ?_
        exact at_iret rfl (by decide +kernel) h
      · rw [if_pos c20] at h
        refine at_bipush (n := (-2)) (-2 : Int32) 43 rfl (by decide +kernel) (by decide +kernel) ?_
        exact at_iret rfl (by decide +kernel) h
set_option maxRecDepth 20000 in
set_option maxHeartbeats 4000000 in
theorem en_RF_grower (g : Gc) {lv : Nat} {t : Nat} {l1 : Int32} {l2 : Int32} {m : Mm} {Q : Int32 → Mm → Prop} (h : mK m t = 13 ∧ (∀ m2, m2 = sI m t 0 (0 : Int32) → (CI g M_RF_in lv [.long (l1.toInt64), .long ((0 : Int64)), .long ((7 : Int64))] m2 (fun x6 m7 => (if (x6) = 0 then (Q (-2 : Int32) m7) else (CI g M_RF_in lv [.long (l2.toInt64), .long ((0 : Int64)), .long ((1000 : Int64))] m7 (fun x11 m12 => (if (x11) = 0 then (Q (-2 : Int32) m12) else (if (mI m12 t 19) = ((12 : Int32)) then (Q (-3 : Int32) m12) else (∃ b17, mR m12 t 31 = some b17 ∧ (mK m12 b17 = 15 ∧ (vp_in (0 : Int32) (mN m12 b17) ∧ (if (mI m12 b17 (0 : Int32).toNatClampNeg) ≤ 0 then (∃ b22, mR m12 t 20 = some b22 ∧ (mK m12 b22 = 15 ∧ (vp_in (mI m12 t 19) (mN m12 b22) ∧ (∀ m26, m26 = sI m12 b22 (mI m12 t 19).toNatClampNeg l1 → (∃ b34, mR m26 t 21 = some b34 ∧ (mK m26 b34 = 15 ∧ (vp_in (mI m26 t 19) (mN m26 b34) ∧ (∀ m38, m38 = sI m26 b34 (mI m26 t 19).toNatClampNeg l2 → (∃ b48, mR m38 t 35 = some b48 ∧ (mK m38 b48 = 15 ∧ (vp_in (mI m38 t 19) (mN m38 b48) ∧ (∀ m52, m52 = sI m38 b48 (mI m38 t 19).toNatClampNeg l2 → (∀ m64, m64 = sI m52 t 19 ((mI m52 t 19) + (1 : Int32)) → (Q ((mI m64 t 19) - (1 : Int32)) m64)))))))))))))) else (Q (-9 : Int32) m12)))))))))))))) : CI g M_RF_grower (lv + 1) [va_rf (some t), .int (l1), .int (l2)] m Q := by
  refine Call.of (by decide +kernel) (Nat.le_of_ble_eq_true rfl) ?_
  show At g M_RF_grower (lv + 1) 0 [(0, va_rf (some t)), (1, .int (l1)), (2, .int (l2))] [] m (QI Q)
  refine at_aload_n (i := 0) 0 1 rfl (by decide +kernel) rfl ?_
  refine at_iconst (n := 0) (0 : Int32) 2 rfl (by decide +kernel) (by decide +kernel) ?_
  obtain ⟨k1, h⟩ := h
  refine at_putI (index := 149) cok12 0 5 rfl (by decide +kernel) k1 (by decide +kernel) tw_1085 rfl rfl rfl (fun m2 e3 => ?_)
  replace h := h m2 e3
  have x4 : Ext m m2 := by rw [e3]; exact Ext.sI _ _ _ _
  have k5 : mK m2 t = 13 := x4.k k1 (by decide)
  refine at_iload_n (i := 1) 1 6 rfl (by decide +kernel) rfl ?_
  refine at_i2l 7 rfl (by decide +kernel) ?_
  refine at_lconst (n := 0) (0 : Int64) 8 rfl (by decide +kernel) (by decide +kernel) ?_
  refine at_ldc2 (index := 183) (7 : Int64) 11 rfl (by decide +kernel) tw_1329 ?_
  refine at_callS mb_RF_in tw_1293 (index := 154) tw_1292 [.long (l1.toInt64), .long ((0 : Int64)), .long ((7 : Int64))] [] rfl rfl (by decide) 14 rfl (by decide +kernel) (Call.toI (CI.monoE h (fun x6 m7 h y8 => ?_)))
  have k9 : mK m7 t = 13 := y8.k k5 (by decide)
  refine at_if_eq (off := 15) 29 17 rfl (by decide +kernel) (by decide +kernel) (fun c10 => ?_) (fun c10 => ?_)
  · rw [if_pos c10] at h
    refine at_bipush (n := (-2)) (-2 : Int32) 31 rfl (by decide +kernel) (by decide +kernel) ?_
    exact at_iret rfl (by decide +kernel) h
  · rw [if_neg c10] at h
    refine at_iload_n (i := 2) 2 18 rfl (by decide +kernel) rfl ?_
    refine at_i2l 19 rfl (by decide +kernel) ?_
    refine at_lconst (n := 0) (0 : Int64) 20 rfl (by decide +kernel) (by decide +kernel) ?_
    refine at_ldc2 (index := 170) (1000 : Int64) 23 rfl (by decide +kernel) tw_1316 ?_
    refine at_callS mb_RF_in tw_1293 (index := 154) tw_1292 [.long (l2.toInt64), .long ((0 : Int64)), .long ((1000 : Int64))] [] rfl rfl (by decide) 26 rfl (by decide +kernel) (Call.toI (CI.monoE h (fun x11 m12 h y13 => ?_)))
    have k14 : mK m12 t = 13 := y13.k k9 (by decide)
    refine at_if_ne (off := 6) 32 29 rfl (by decide +kernel) (by decide +kernel) (fun c15 => ?_) (fun c15 => ?_)
    · rw [if_neg c15] at h
      refine at_aload_n (i := 0) 0 33 rfl (by decide +kernel) rfl ?_
      refine at_get (index := 185) (v := .int (mI m12 t 19)) cok12 19 36 rfl (by decide +kernel) k14 (by decide +kernel) tw_1104 rfl ?_
      refine at_bipush (n := 12) (12 : Int32) 38 rfl (by decide +kernel) (by decide +kernel) ?_
      refine at_icmp_ne (off := 6) 44 41 rfl (by decide +kernel) (by decide +kernel) (fun c16 => ?_) (fun c16 => ?_)
      · rw [if_neg c16] at h
        refine at_aload_n (i := 0) 0 45 rfl (by decide +kernel) rfl ?_
        refine at_get (index := 95) (v := va_rf (mR m12 t 31)) cok12 31 48 rfl (by decide +kernel) k14 (by decide +kernel) tw_1116 rfl ?_
        obtain ⟨b17, e18, h⟩ := h
        rw [e18]
        refine at_iconst (n := 0) (0 : Int32) 49 rfl (by decide +kernel) (by decide +kernel) ?_
        obtain ⟨k19, h⟩ := h
        obtain ⟨v20, h⟩ := h
        refine at_iald 50 rfl (by decide +kernel) k19 v20 ?_
        refine at_if_le (off := 6) 56 53 rfl (by decide +kernel) (by decide +kernel) (fun c21 => ?_) (fun c21 => ?_)
        · rw [if_pos c21] at h
          refine at_aload_n (i := 0) 0 57 rfl (by decide +kernel) rfl ?_
          refine at_get (index := 61) (v := va_rf (mR m12 t 20)) cok12 20 60 rfl (by decide +kernel) k14 (by decide +kernel) tw_1105 rfl ?_
          obtain ⟨b22, e23, h⟩ := h
          rw [e23]
          refine at_aload_n (i := 0) 0 61 rfl (by decide +kernel) rfl ?_
          refine at_get (index := 185) (v := .int (mI m12 t 19)) cok12 19 64 rfl (by decide +kernel) k14 (by decide +kernel) tw_1104 rfl ?_
          refine at_iload_n (i := 1) 1 65 rfl (by decide +kernel) rfl ?_
          obtain ⟨k24, h⟩ := h
          obtain ⟨v25, h⟩ := h
          refine at_iast 66 rfl (by decide +kernel) k24 v25 (fun m26 e27 => ?_)
          replace h := h m26 e27
          have x28 : Ext m12 m26 := by rw [e27]; exact Ext.sI _ _ _ _
          have k29 : mK m26 t = 13 := x28.k k14 (by decide)
          have k30 : mK m26 b17 = 15 := x28.k k19 (by decide)
          have k31 : mK m26 b22 = 15 := x28.k k24 (by decide)
          have e32 : mR m26 t 31 = some b17 := x28.r k14 (by decide) rfl e18
          have e33 : mR m26 t 20 = some b22 := x28.r k14 (by decide) rfl e23
          refine at_aload_n (i := 0) 0 67 rfl (by decide +kernel) rfl ?_
          refine at_get (index := 64) (v := va_rf (mR m26 t 21)) cok12 21 70 rfl (by decide +kernel) k29 (by decide +kernel) tw_1106 rfl ?_
          obtain ⟨b34, e35, h⟩ := h
          rw [e35]
          refine at_aload_n (i := 0) 0 71 rfl (by decide +kernel) rfl ?_
          refine at_get (index := 185) (v := .int (mI m26 t 19)) cok12 19 74 rfl (by decide +kernel) k29 (by decide +kernel) tw_1104 rfl ?_
          refine at_iload_n (i := 2) 2 75 rfl (by decide +kernel) rfl ?_
          obtain ⟨k36, h⟩ := h
          obtain ⟨v37, h⟩ := h
          refine at_iast 76 rfl (by decide +kernel) k36 v37 (fun m38 e39 => ?_)
          replace h := h m38 e39
          have x40 : Ext m26 m38 := by rw [e39]; exact Ext.sI _ _ _ _
          have k41 : mK m38 t = 13 := x40.k k29 (by decide)
          have k42 : mK m38 b17 = 15 := x40.k k30 (by decide)
          have k43 : mK m38 b22 = 15 := x40.k k31 (by decide)
          have k44 : mK m38 b34 = 15 := x40.k k36 (by decide)
          have e45 : mR m38 t 31 = some b17 := x40.r k29 (by decide) rfl e32
          have e46 : mR m38 t 20 = some b22 := x40.r k29 (by decide) rfl e33
          have e47 : mR m38 t 21 = some b34 := x40.r k29 (by decide) rfl e35
          refine at_aload_n (i := 0) 0 77 rfl (by decide +kernel) rfl ?_
          refine at_get (index := 107) (v := va_rf (mR m38 t 35)) cok12 35 80 rfl (by decide +kernel) k41 (by decide +kernel) tw_1120 rfl ?_
          obtain ⟨b48, e49, h⟩ := h
          rw [e49]
          refine at_aload_n (i := 0) 0 81 rfl (by decide +kernel) rfl ?_
          refine at_get (index := 185) (v := .int (mI m38 t 19)) cok12 19 84 rfl (by decide +kernel) k41 (by decide +kernel) tw_1104 rfl ?_
          refine at_iload_n (i := 2) 2 85 rfl (by decide +kernel) rfl ?_
          obtain ⟨k50, h⟩ := h
          obtain ⟨v51, h⟩ := h
          refine at_iast 86 rfl (by decide +kernel) k50 v51 (fun m52 e53 => ?_)
          replace h := h m52 e53
          have x54 : Ext m38 m52 := by rw [e53]; exact Ext.sI _ _ _ _
          have k55 : mK m52 t = 13 := x54.k k41 (by decide)
          have k56 : mK m52 b17 = 15 := x54.k k42 (by decide)
          have k57 : mK m52 b22 = 15 := x54.k k43 (by decide)
          have k58 : mK m52 b34 = 15 := x54.k k44 (by decide)
          have k59 : mK m52 b48 = 15 := x54.k k50 (by decide)
          have e60 : mR m52 t 31 = some b17 := x54.r k41 (by decide) rfl e45
          have e61 : mR m52 t 20 = some b22 := x54.r k41 (by decide) rfl e46
          have e62 : mR m52 t 21 = some b34 := x54.r k41 (by decide) rfl e47
          have e63 : mR m52 t 35 = some b48 := x54.r k41 (by decide) rfl e49
          refine at_aload_n (i := 0) 0 87 rfl (by decide +kernel) rfl ?_
          refine at_dup 88 rfl (by decide +kernel) (va_rf_cat _) ?_
          refine at_get (index := 185) (v := .int (mI m52 t 19)) cok12 19 91 rfl (by decide +kernel) k55 (by decide +kernel) tw_1104 rfl ?_
          refine at_iconst (n := 1) (1 : Int32) 92 rfl (by decide +kernel) (by decide +kernel) ?_
          refine at_iadd 93 rfl (by decide +kernel) ?_
          refine at_putI (index := 185) cok12 19 96 rfl (by decide +kernel) k55 (by decide +kernel) tw_1104 rfl rfl rfl (fun m64 e65 => ?_)
          replace h := h m64 e65
          have x66 : Ext m52 m64 := by rw [e65]; exact Ext.sI _ _ _ _
          have k67 : mK m64 t = 13 := x66.k k55 (by decide)
          have k68 : mK m64 b17 = 15 := x66.k k56 (by decide)
          have k69 : mK m64 b22 = 15 := x66.k k57 (by decide)
          have k70 : mK m64 b34 = 15 := x66.k k58 (by decide)
          have k71 : mK m64 b48 = 15 := x66.k k59 (by decide)
          have e72 : mR m64 t 31 = some b17 := x66.r k55 (by decide) rfl e60
          have e73 : mR m64 t 20 = some b22 := x66.r k55 (by decide) rfl e61
          have e74 : mR m64 t 21 = some b34 := x66.r k55 (by decide) rfl e62
          have e75 : mR m64 t 35 = some b48 := x66.r k55 (by decide) rfl e63
          refine at_aload_n (i := 0) 0 97 rfl (by decide +kernel) rfl ?_
          refine at_get (index := 185) (v := .int (mI m64 t 19)) cok12 19 100 rfl (by decide +kernel) k67 (by decide +kernel) tw_1104 rfl ?_
          refine at_iconst (n := 1) (1 : Int32) 101 rfl (by decide +kernel) (by decide +kernel) ?_
          refine at_isub 102 rfl (by decide +kernel) ?_
          exact at_iret rfl (by decide +kernel) h
        · rw [if_neg c21] at h
          refine at_bipush (n := (-9)) (-9 : Int32) 55 rfl (by decide +kernel) (by decide +kernel) ?_
          exact at_iret rfl (by decide +kernel) h
      · rw [if_pos c16] at h
        refine at_bipush (n := (-3)) (-3 : Int32) 43 rfl (by decide +kernel) (by decide +kernel) ?_
        exact at_iret rfl (by decide +kernel) h
    · rw [if_pos c15] at h
      refine at_bipush (n := (-2)) (-2 : Int32) 31 rfl (by decide +kernel) (by decide +kernel) ?_
      exact at_iret rfl (by decide +kernel) h
set_option maxRecDepth 20000 in
set_option maxHeartbeats 4000000 in
theorem en_RF_isGrower (g : Gc) {lv : Nat} {t : Nat} {l1 : Int32} {m : Mm} {Q : Int32 → Mm → Prop} (h : mK m t = 13 ∧ (CI g M_RF_in lv [.long (l1.toInt64), .long ((0 : Int64)), .long (((mI m t 19) - (1 : Int32)).toInt64)] m (fun x2 m3 => (b01 x2 ∧ (Q x2 m3))))) : CI g M_RF_isGrower (lv + 1) [va_rf (some t), .int (l1)] m Q := by
  refine Call.of (by decide +kernel) (Nat.le_of_ble_eq_true rfl) ?_
  show At g M_RF_isGrower (lv + 1) 0 [(0, va_rf (some t)), (1, .int (l1))] [] m (QI Q)
  refine at_iload_n (i := 1) 1 1 rfl (by decide +kernel) rfl ?_
  refine at_i2l 2 rfl (by decide +kernel) ?_
  refine at_lconst (n := 0) (0 : Int64) 3 rfl (by decide +kernel) (by decide +kernel) ?_
  refine at_aload_n (i := 0) 0 4 rfl (by decide +kernel) rfl ?_
  obtain ⟨k1, h⟩ := h
  refine at_get (index := 185) (v := .int (mI m t 19)) cok12 19 7 rfl (by decide +kernel) k1 (by decide +kernel) tw_1104 rfl ?_
  refine at_iconst (n := 1) (1 : Int32) 8 rfl (by decide +kernel) (by decide +kernel) ?_
  refine at_isub 9 rfl (by decide +kernel) ?_
  refine at_i2l 10 rfl (by decide +kernel) ?_
  refine at_callS mb_RF_in tw_1293 (index := 154) tw_1292 [.long (l1.toInt64), .long ((0 : Int64)), .long (((mI m t 19) - (1 : Int32)).toInt64)] [] rfl rfl (by decide) 13 rfl (by decide +kernel) (Call.toI (CI.monoE h (fun x2 m3 h y4 => ?_)))
  have k5 : mK m3 t = 13 := y4.k k1 (by decide)
  obtain ⟨d6, h⟩ := h
  exact at_zret rfl (by decide +kernel) d6 h
set_option maxRecDepth 20000 in
set_option maxHeartbeats 4000000 in
theorem bk_RF_feed_76 (g : Gc) {lv : Nat} {t : Nat} {l1 : Int32} {l2 : Int32} {l3 : Int32} {l4 : Int32} {l5 : Int32} {l6 : Int32} {s0 : Int32} {m : Mm} {Q : Int32 → Mm → Prop} (h : mK m t = 13 ∧ (∃ b2, mR m t 14 = some b2 ∧ (mK m b2 = 14 ∧ (vp_in ((mI m t 15) + l6) (mN m b2) ∧ (∀ m6, m6 = sI m b2 ((mI m t 15) + l6).toNatClampNeg (((s0 >>> (((24 : Int32) - ((8 : Int32) * (l6 - l6 / (4 : Int32) * (4 : Int32)))) &&& 31)).toInt8.toInt32).toInt8.toInt32) → (At g M_RF_feed (lv + 1) 23 [(0, va_rf (some t)), (1, .int (l1)), (2, .int (l2)), (3, .int (l3)), (4, .int (l4)), (5, .int (l5)), (6, .int (l6 + (1 : Int32)))] [] m6 (QI Q))))))) : At g M_RF_feed (lv + 1) 76 [(0, va_rf (some t)), (1, .int (l1)), (2, .int (l2)), (3, .int (l3)), (4, .int (l4)), (5, .int (l5)), (6, .int (l6))] [.int (s0)] m (QI Q) := by
  refine at_istore (i := 7) (lc' := [(0, va_rf (some t)), (1, .int (l1)), (2, .int (l2)), (3, .int (l3)), (4, .int (l4)), (5, .int (l5)), (6, .int (l6)), (7, .int (s0))]) [1, 2, 3, 4, 5, 6, 7, 0] 78 rfl (by decide +kernel) (by decide +kernel) rfl ?_
  refine at_aload_n (i := 0) 0 79 rfl (by decide +kernel) rfl ?_
  obtain ⟨k1, h⟩ := h
  refine at_get (index := 48) (v := va_rf (mR m t 14)) cok12 14 82 rfl (by decide +kernel) k1 (by decide +kernel) tw_1099 rfl ?_
  obtain ⟨b2, e3, h⟩ := h
  rw [e3]
  refine at_aload_n (i := 0) 0 83 rfl (by decide +kernel) rfl ?_
  refine at_get (index := 188) (v := .int (mI m t 15)) cok12 15 86 rfl (by decide +kernel) k1 (by decide +kernel) tw_1100 rfl ?_
  refine at_iload (i := 6) 6 88 rfl (by decide +kernel) rfl ?_
  refine at_iadd 89 rfl (by decide +kernel) ?_
  refine at_iload (i := 7) 7 91 rfl (by decide +kernel) rfl ?_
  refine at_bipush (n := 24) (24 : Int32) 93 rfl (by decide +kernel) (by decide +kernel) ?_
  refine at_bipush (n := 8) (8 : Int32) 95 rfl (by decide +kernel) (by decide +kernel) ?_
  refine at_iload (i := 6) 6 97 rfl (by decide +kernel) rfl ?_
  refine at_iconst (n := 4) (4 : Int32) 98 rfl (by decide +kernel) (by decide +kernel) ?_
  refine at_irem 99 rfl (by decide +kernel) (by decide +kernel) ?_
  refine at_imul 100 rfl (by decide +kernel) ?_
  refine at_isub 101 rfl (by decide +kernel) ?_
  refine at_ishr 102 rfl (by decide +kernel) ?_
  refine at_i2b 103 rfl (by decide +kernel) ?_
  obtain ⟨k4, h⟩ := h
  obtain ⟨v5, h⟩ := h
  refine at_bast 104 rfl (by decide +kernel) k4 v5 (fun m6 e7 => ?_)
  replace h := h m6 e7
  have x8 : Ext m m6 := by rw [e7]; exact Ext.sI _ _ _ _
  have k9 : mK m6 t = 13 := x8.k k1 (by decide)
  have k10 : mK m6 b2 = 14 := x8.k k4 (by decide)
  have e11 : mR m6 t 14 = some b2 := x8.r k1 (by decide) rfl e3
  refine at_iinc (i := 6) (n := 1) (lc' := [(0, va_rf (some t)), (1, .int (l1)), (2, .int (l2)), (3, .int (l3)), (4, .int (l4)), (5, .int (l5)), (6, .int (l6 + (1 : Int32)))]) (l6 + (1 : Int32)) 6 [1, 2, 3, 4, 5, 6, 0] 107 rfl (by decide +kernel) rfl (by rw [show Int32.ofInt 1 = (1 : Int32) from by decide +kernel]) (by decide +kernel) rfl ?_
  refine at_goto (off := (-84)) 23 (by decide +kernel) (by decide +kernel) ?_
  exact h
set_option maxRecDepth 20000 in
set_option maxHeartbeats 4000000 in
theorem bk_RF_feed_23 (g : Gc) {lv : Nat} {t : Nat} {l1 : Int32} {l2 : Int32} {l3 : Int32} {l4 : Int32} {l5 : Int32} {l6 : Int32} {m : Mm} {Q : Int32 → Mm → Prop} (h : if ((20 : Int32)) ≤ (l6) then (mK m t = 13 ∧ (∀ m3, m3 = sI m t 15 ((mI m t 15) + (20 : Int32)) → (Q (mI m3 t 15) m3))) else (if ((4 : Int32)) ≤ (l6) then (if ((8 : Int32)) ≤ (l6) then (if ((12 : Int32)) ≤ (l6) then (if ((16 : Int32)) ≤ (l6) then (At g M_RF_feed (lv + 1) 76 [(0, va_rf (some t)), (1, .int (l1)), (2, .int (l2)), (3, .int (l3)), (4, .int (l4)), (5, .int (l5)), (6, .int (l6))] [.int (l5)] m (QI Q)) else (At g M_RF_feed (lv + 1) 76 [(0, va_rf (some t)), (1, .int (l1)), (2, .int (l2)), (3, .int (l3)), (4, .int (l4)), (5, .int (l5)), (6, .int (l6))] [.int (l4)] m (QI Q))) else (At g M_RF_feed (lv + 1) 76 [(0, va_rf (some t)), (1, .int (l1)), (2, .int (l2)), (3, .int (l3)), (4, .int (l4)), (5, .int (l5)), (6, .int (l6))] [.int (l3)] m (QI Q))) else (At g M_RF_feed (lv + 1) 76 [(0, va_rf (some t)), (1, .int (l1)), (2, .int (l2)), (3, .int (l3)), (4, .int (l4)), (5, .int (l5)), (6, .int (l6))] [.int (l2)] m (QI Q))) else (At g M_RF_feed (lv + 1) 76 [(0, va_rf (some t)), (1, .int (l1)), (2, .int (l2)), (3, .int (l3)), (4, .int (l4)), (5, .int (l5)), (6, .int (l6))] [.int (l1)] m (QI Q)))) : At g M_RF_feed (lv + 1) 23 [(0, va_rf (some t)), (1, .int (l1)), (2, .int (l2)), (3, .int (l3)), (4, .int (l4)), (5, .int (l5)), (6, .int (l6))] [] m (QI Q) := by
  refine at_iload (i := 6) 6 25 rfl (by decide +kernel) rfl ?_
  refine at_bipush (n := 20) (20 : Int32) 27 rfl (by decide +kernel) (by decide +kernel) ?_
  refine at_icmp_ge (off := 83) 110 30 rfl (by decide +kernel) (by decide +kernel) (fun c1 => ?_) (fun c1 => ?_)
  · rw [if_pos c1] at h
    refine at_aload_n (i := 0) 0 111 rfl (by decide +kernel) rfl ?_
    refine at_dup 112 rfl (by decide +kernel) (va_rf_cat _) ?_
    obtain ⟨k2, h⟩ := h
    refine at_get (index := 188) (v := .int (mI m t 15)) cok12 15 115 rfl (by decide +kernel) k2 (by decide +kernel) tw_1100 rfl ?_
    refine at_bipush (n := 20) (20 : Int32) 117 rfl (by decide +kernel) (by decide +kernel) ?_
    refine at_iadd 118 rfl (by decide +kernel) ?_
    refine at_putI (index := 188) cok12 15 121 rfl (by decide +kernel) k2 (by decide +kernel) tw_1100 rfl rfl rfl (fun m3 e4 => ?_)
    replace h := h m3 e4
    have x5 : Ext m m3 := by rw [e4]; exact Ext.sI _ _ _ _
    have k6 : mK m3 t = 13 := x5.k k2 (by decide)
    refine at_aload_n (i := 0) 0 122 rfl (by decide +kernel) rfl ?_
    refine at_get (index := 188) (v := .int (mI m3 t 15)) cok12 15 125 rfl (by decide +kernel) k6 (by decide +kernel) tw_1100 rfl ?_
    exact at_iret rfl (by decide +kernel) h
  · rw [if_neg c1] at h
    refine at_iload (i := 6) 6 32 rfl (by decide +kernel) rfl ?_
    refine at_iconst (n := 4) (4 : Int32) 33 rfl (by decide +kernel) (by decide +kernel) ?_
    refine at_icmp_ge (off := 7) 40 36 rfl (by decide +kernel) (by decide +kernel) (fun c7 => ?_) (fun c7 => ?_)
    · rw [if_pos c7] at h
      refine at_iload (i := 6) 6 42 rfl (by decide +kernel) rfl ?_
      refine at_bipush (n := 8) (8 : Int32) 44 rfl (by decide +kernel) (by decide +kernel) ?_
      refine at_icmp_ge (off := 7) 51 47 rfl (by decide +kernel) (by decide +kernel) (fun c8 => ?_) (fun c8 => ?_)
      · rw [if_pos c8] at h
        refine at_iload (i := 6) 6 53 rfl (by decide +kernel) rfl ?_
        refine at_bipush (n := 12) (12 : Int32) 55 rfl (by decide +kernel) (by decide +kernel) ?_
        refine at_icmp_ge (off := 7) 62 58 rfl (by decide +kernel) (by decide +kernel) (fun c9 => ?_) (fun c9 => ?_)
        · rw [if_pos c9] at h
          refine at_iload (i := 6) 6 64 rfl (by decide +kernel) rfl ?_
          refine at_bipush (n := 16) (16 : Int32) 66 rfl (by decide +kernel) (by decide +kernel) ?_
          refine at_icmp_ge (off := 8) 74 69 rfl (by decide +kernel) (by decide +kernel) (fun c10 => ?_) (fun c10 => ?_)
          · rw [if_pos c10] at h
            refine at_iload (i := 5) 5 76 rfl (by decide +kernel) rfl ?_
            exact h
          · rw [if_neg c10] at h
            refine at_iload (i := 4) 4 71 rfl (by decide +kernel) rfl ?_
            refine at_goto (off := 5) 76 (by decide +kernel) (by decide +kernel) ?_
            exact h
        · rw [if_neg c9] at h
          refine at_iload_n (i := 3) 3 59 rfl (by decide +kernel) rfl ?_
          refine at_goto (off := 17) 76 (by decide +kernel) (by decide +kernel) ?_
          exact h
      · rw [if_neg c8] at h
        refine at_iload_n (i := 2) 2 48 rfl (by decide +kernel) rfl ?_
        refine at_goto (off := 28) 76 (by decide +kernel) (by decide +kernel) ?_
        exact h
    · rw [if_neg c7] at h
      refine at_iload_n (i := 1) 1 37 rfl (by decide +kernel) rfl ?_
      refine at_goto (off := 39) 76 (by decide +kernel) (by decide +kernel) ?_
      exact h
set_option maxRecDepth 20000 in
set_option maxHeartbeats 4000000 in
theorem en_RF_feed (g : Gc) {lv : Nat} {t : Nat} {l1 : Int32} {l2 : Int32} {l3 : Int32} {l4 : Int32} {l5 : Int32} {m : Mm} {Q : Int32 → Mm → Prop} (h : mK m t = 13 ∧ (∀ m2, m2 = sI m t 0 (0 : Int32) → (if ((mI m2 t 15) + (20 : Int32)) ≤ ((300 : Int32)) then (At g M_RF_feed (lv + 1) 23 [(0, va_rf (some t)), (1, .int (l1)), (2, .int (l2)), (3, .int (l3)), (4, .int (l4)), (5, .int (l5)), (6, .int ((0 : Int32)))] [] m2 (QI Q)) else (Q (-1 : Int32) m2)))) : CI g M_RF_feed (lv + 1) [va_rf (some t), .int (l1), .int (l2), .int (l3), .int (l4), .int (l5)] m Q := by
  refine Call.of (by decide +kernel) (Nat.le_of_ble_eq_true rfl) ?_
  show At g M_RF_feed (lv + 1) 0 [(0, va_rf (some t)), (1, .int (l1)), (2, .int (l2)), (3, .int (l3)), (4, .int (l4)), (5, .int (l5))] [] m (QI Q)
  refine at_aload_n (i := 0) 0 1 rfl (by decide +kernel) rfl ?_
  refine at_iconst (n := 0) (0 : Int32) 2 rfl (by decide +kernel) (by decide +kernel) ?_
  obtain ⟨k1, h⟩ := h
  refine at_putI (index := 149) cok12 0 5 rfl (by decide +kernel) k1 (by decide +kernel) tw_1085 rfl rfl rfl (fun m2 e3 => ?_)
  replace h := h m2 e3
  have x4 : Ext m m2 := by rw [e3]; exact Ext.sI _ _ _ _
  have k5 : mK m2 t = 13 := x4.k k1 (by decide)
  refine at_aload_n (i := 0) 0 6 rfl (by decide +kernel) rfl ?_
  refine at_get (index := 188) (v := .int (mI m2 t 15)) cok12 15 9 rfl (by decide +kernel) k5 (by decide +kernel) tw_1100 rfl ?_
  refine at_bipush (n := 20) (20 : Int32) 11 rfl (by decide +kernel) (by decide +kernel) ?_
  refine at_iadd 12 rfl (by decide +kernel) ?_
  refine at_sipush (n := 300) (300 : Int32) 15 rfl (by decide +kernel) (by decide +kernel) ?_
  refine at_icmp_le (off := 5) 20 18 rfl (by decide +kernel) (by decide +kernel) (fun c6 => ?_) (fun c6 => ?_)
  · rw [if_pos c6] at h
    refine at_iconst (n := 0) (0 : Int32) 21 rfl (by decide +kernel) (by decide +kernel) ?_
    refine at_istore (i := 6) (lc' := [(0, va_rf (some t)), (1, .int (l1)), (2, .int (l2)), (3, .int (l3)), (4, .int (l4)), (5, .int (l5)), (6, .int ((0 : Int32)))]) [1, 2, 3, 4, 5, 6, 0] 23 rfl (by decide +kernel) (by decide +kernel) rfl ?_
    exact h
  · rw [if_neg c6] at h
    refine at_iconst (n := (-1)) (-1 : Int32) 19 rfl (by decide +kernel) (by decide +kernel) ?_
    exact at_iret rfl (by decide +kernel) h
set_option maxRecDepth 20000 in
set_option maxHeartbeats 4000000 in
theorem en_RF_end (g : Gc) {lv : Nat} {t : Nat} {l1 : Int32} {m : Mm} {Q : Int32 → Mm → Prop} (h : mK m t = 13 ∧ (∀ m2, m2 = sI m t 0 (0 : Int32) → (CI g M_RF_in lv [.long (l1.toInt64), .long ((0 : Int64)), .long ((mI m2 t 15).toInt64)] m2 (fun x6 m7 => (if (x6) = 0 then (Q (-1 : Int32) m7) else (∀ m11, m11 = sI m7 t 15 l1 → (Q l1 m11))))))) : CI g M_RF_end (lv + 1) [va_rf (some t), .int (l1)] m Q := by
  refine Call.of (by decide +kernel) (Nat.le_of_ble_eq_true rfl) ?_
  show At g M_RF_end (lv + 1) 0 [(0, va_rf (some t)), (1, .int (l1))] [] m (QI Q)
  refine at_aload_n (i := 0) 0 1 rfl (by decide +kernel) rfl ?_
  refine at_iconst (n := 0) (0 : Int32) 2 rfl (by decide +kernel) (by decide +kernel) ?_
  obtain ⟨k1, h⟩ := h
  refine at_putI (index := 149) cok12 0 5 rfl (by decide +kernel) k1 (by decide +kernel) tw_1085 rfl rfl rfl (fun m2 e3 => ?_)
  replace h := h m2 e3
  have x4 : Ext m m2 := by rw [e3]; exact Ext.sI _ _ _ _
  have k5 : mK m2 t = 13 := x4.k k1 (by decide)
  refine at_iload_n (i := 1) 1 6 rfl (by decide +kernel) rfl ?_
  refine at_i2l 7 rfl (by decide +kernel) ?_
  refine at_lconst (n := 0) (0 : Int64) 8 rfl (by decide +kernel) (by decide +kernel) ?_
  refine at_aload_n (i := 0) 0 9 rfl (by decide +kernel) rfl ?_
  refine at_get (index := 188) (v := .int (mI m2 t 15)) cok12 15 12 rfl (by decide +kernel) k5 (by decide +kernel) tw_1100 rfl ?_
  refine at_i2l 13 rfl (by decide +kernel) ?_
  refine at_callS mb_RF_in tw_1293 (index := 154) tw_1292 [.long (l1.toInt64), .long ((0 : Int64)), .long ((mI m2 t 15).toInt64)] [] rfl rfl (by decide) 16 rfl (by decide +kernel) (Call.toI (CI.monoE h (fun x6 m7 h y8 => ?_)))
  have k9 : mK m7 t = 13 := y8.k k5 (by decide)
  refine at_if_ne (off := 5) 21 19 rfl (by decide +kernel) (by decide +kernel) (fun c10 => ?_) (fun c10 => ?_)
  · rw [if_neg c10] at h
    refine at_aload_n (i := 0) 0 22 rfl (by decide +kernel) rfl ?_
    refine at_iload_n (i := 1) 1 23 rfl (by decide +kernel) rfl ?_
    refine at_putI (index := 188) cok12 15 26 rfl (by decide +kernel) k9 (by decide +kernel) tw_1100 rfl rfl rfl (fun m11 e12 => ?_)
    replace h := h m11 e12
    have x13 : Ext m7 m11 := by rw [e12]; exact Ext.sI _ _ _ _
    have k14 : mK m11 t = 13 := x13.k k9 (by decide)
    refine at_iload_n (i := 1) 1 27 rfl (by decide +kernel) rfl ?_
    exact at_iret rfl (by decide +kernel) h
  · rw [if_pos c10] at h
    refine at_iconst (n := (-1)) (-1 : Int32) 20 rfl (by decide +kernel) (by decide +kernel) ?_
    exact at_iret rfl (by decide +kernel) h
set_option maxRecDepth 20000 in
set_option maxHeartbeats 4000000 in
theorem en_RF_at (g : Gc) {lv : Nat} {t : Nat} {l1 : Int32} {m : Mm} {Q : Int32 → Mm → Prop} (h : mK m t = 13 ∧ (if (mI m t 49) ≤ (l1) then (Q (0 : Int32) m) else (∃ b3, mR m t 17 = some b3 ∧ (mK m b3 = 14 ∧ (vp_in ((mI m t 48) + l1) (mN m b3) ∧ (Q (mI m b3 ((mI m t 48) + l1).toNatClampNeg) m)))))) : CI g M_RF_at (lv + 1) [va_rf (some t), .int (l1)] m Q := by
  refine Call.of (by decide +kernel) (Nat.le_of_ble_eq_true rfl) ?_
  show At g M_RF_at (lv + 1) 0 [(0, va_rf (some t)), (1, .int (l1))] [] m (QI Q)
  refine at_iload_n (i := 1) 1 1 rfl (by decide +kernel) rfl ?_
  refine at_aload_n (i := 0) 0 2 rfl (by decide +kernel) rfl ?_
  obtain ⟨k1, h⟩ := h
  refine at_get (index := 191) (v := .int (mI m t 49)) cok12 49 5 rfl (by decide +kernel) k1 (by decide +kernel) tw_1134 rfl ?_
  refine at_icmp_ge (off := 17) 22 8 rfl (by decide +kernel) (by decide +kernel) (fun c2 => ?_) (fun c2 => ?_)
  · rw [if_pos c2] at h
    refine at_iconst (n := 0) (0 : Int32) 23 rfl (by decide +kernel) (by decide +kernel) ?_
    exact at_iret rfl (by decide +kernel) h
  · rw [if_neg c2] at h
    refine at_aload_n (i := 0) 0 9 rfl (by decide +kernel) rfl ?_
    refine at_get (index := 55) (v := va_rf (mR m t 17)) cok12 17 12 rfl (by decide +kernel) k1 (by decide +kernel) tw_1102 rfl ?_
    obtain ⟨b3, e4, h⟩ := h
    rw [e4]
    refine at_aload_n (i := 0) 0 13 rfl (by decide +kernel) rfl ?_
    refine at_get (index := 194) (v := .int (mI m t 48)) cok12 48 16 rfl (by decide +kernel) k1 (by decide +kernel) tw_1133 rfl ?_
    refine at_iload_n (i := 1) 1 17 rfl (by decide +kernel) rfl ?_
    refine at_iadd 18 rfl (by decide +kernel) ?_
    obtain ⟨k5, h⟩ := h
    obtain ⟨v6, h⟩ := h
    refine at_bald 19 rfl (by decide +kernel) k5 v6 ?_
    refine at_goto (off := 4) 23 (by decide +kernel) (by decide +kernel) ?_
    exact at_iret rfl (by decide +kernel) h
set_option maxRecDepth 20000 in
set_option maxHeartbeats 4000000 in
theorem en_RF_isLetter (g : Gc) {lv : Nat} {l0 : Int32} {m : Mm} {Q : Int32 → Mm → Prop} (h : if (l0) < ((97 : Int32)) then (Q (0 : Int32) m) else (if ((122 : Int32)) < (l0) then (Q (0 : Int32) m) else (Q (1 : Int32) m))) : CI g M_RF_isLetter (lv + 1) [.int (l0)] m Q := by
  refine Call.of (by decide +kernel) (Nat.le_of_ble_eq_true rfl) ?_
  show At g M_RF_isLetter (lv + 1) 0 [(0, .int (l0))] [] m (QI Q)
  refine at_iload_n (i := 0) 0 1 rfl (by decide +kernel) rfl ?_
  refine at_bipush (n := 97) (97 : Int32) 3 rfl (by decide +kernel) (by decide +kernel) ?_
  refine at_icmp_lt (off := 13) 16 6 rfl (by decide +kernel) (by decide +kernel) (fun c1 => ?_) (fun c1 => ?_)
  · rw [if_pos c1] at h
    refine at_iconst (n := 0) (0 : Int32) 17 rfl (by decide +kernel) (by decide +kernel) ?_
    exact at_zret rfl (by decide +kernel) (Or.inl rfl) h
  · rw [if_neg c1] at h
    refine at_iload_n (i := 0) 0 7 rfl (by decide +kernel) rfl ?_
    refine at_bipush (n := 122) (122 : Int32) 9 rfl (by decide +kernel) (by decide +kernel) ?_
    refine at_icmp_gt (off := 7) 16 12 rfl (by decide +kernel) (by decide +kernel) (fun c2 => ?_) (fun c2 => ?_)
    · rw [if_pos c2] at h
      refine at_iconst (n := 0) (0 : Int32) 17 rfl (by decide +kernel) (by decide +kernel) ?_
      exact at_zret rfl (by decide +kernel) (Or.inl rfl) h
    · rw [if_neg c2] at h
      refine at_iconst (n := 1) (1 : Int32) 13 rfl (by decide +kernel) (by decide +kernel) ?_
      refine at_goto (off := 4) 17 (by decide +kernel) (by decide +kernel) ?_
      exact at_zret rfl (by decide +kernel) (Or.inr rfl) h
set_option maxRecDepth 20000 in
set_option maxHeartbeats 4000000 in
theorem en_RF_isDigit (g : Gc) {lv : Nat} {l0 : Int32} {m : Mm} {Q : Int32 → Mm → Prop} (h : if (l0) < ((48 : Int32)) then (Q (0 : Int32) m) else (if ((57 : Int32)) < (l0) then (Q (0 : Int32) m) else (Q (1 : Int32) m))) : CI g M_RF_isDigit (lv + 1) [.int (l0)] m Q := by
  refine Call.of (by decide +kernel) (Nat.le_of_ble_eq_true rfl) ?_
  show At g M_RF_isDigit (lv + 1) 0 [(0, .int (l0))] [] m (QI Q)
  refine at_iload_n (i := 0) 0 1 rfl (by decide +kernel) rfl ?_
  refine at_bipush (n := 48) (48 : Int32) 3 rfl (by decide +kernel) (by decide +kernel) ?_
  refine at_icmp_lt (off := 13) 16 6 rfl (by decide +kernel) (by decide +kernel) (fun c1 => ?_) (fun c1 => ?_)
  · rw [if_pos c1] at h
    refine at_iconst (n := 0) (0 : Int32) 17 rfl (by decide +kernel) (by decide +kernel) ?_
    exact at_zret rfl (by decide +kernel) (Or.inl rfl) h
  · rw [if_neg c1] at h
    refine at_iload_n (i := 0) 0 7 rfl (by decide +kernel) rfl ?_
    refine at_bipush (n := 57) (57 : Int32) 9 rfl (by decide +kernel) (by decide +kernel) ?_
    refine at_icmp_gt (off := 7) 16 12 rfl (by decide +kernel) (by decide +kernel) (fun c2 => ?_) (fun c2 => ?_)
    · rw [if_pos c2] at h
      refine at_iconst (n := 0) (0 : Int32) 17 rfl (by decide +kernel) (by decide +kernel) ?_
      exact at_zret rfl (by decide +kernel) (Or.inl rfl) h
    · rw [if_neg c2] at h
      refine at_iconst (n := 1) (1 : Int32) 13 rfl (by decide +kernel) (by decide +kernel) ?_
      refine at_goto (off := 4) 17 (by decide +kernel) (by decide +kernel) ?_
      exact at_zret rfl (by decide +kernel) (Or.inr rfl) h
set_option maxRecDepth 20000 in
set_option maxHeartbeats 4000000 in
theorem bk_RF_next_142 (g : Gc) {lv : Nat} {t : Nat} {m : Mm} {Q : Mm → Prop} (h : mK m t = 13 ∧ (CI g M_RF_at lv [va_rf (some t), .int (mI m t 50)] m (fun x2 m3 => (CI g M_RF_isDigit lv [.int (x2)] m3 (fun x6 m7 => (if (x6) = 0 then (if (mL m7 t 54) < ((1000000 : Int64)) then (Q m7) else (∀ m12, m12 = sI m7 t 52 (4 : Int32) → (Q m12))) else (if ((1000000 : Int64)) ≤ (mL m7 t 54) then (∀ m17, m17 = sL m7 t 54 (1000000 : Int64) → (∀ m21, m21 = sI m17 t 50 ((mI m17 t 50) + (1 : Int32)) → (At g M_RF_next (lv + 1) 142 [(0, va_rf (some t))] [] m21 (QV Q)))) else (CI g M_RF_at lv [va_rf (some t), .int (mI m7 t 50)] m7 (fun x25 m26 => (∀ m29, m29 = sL m26 t 54 ((((10 : Int64) * (mL m7 t 54)) + x25.toInt64) - (48 : Int64)) → (∀ m33, m33 = sI m29 t 50 ((mI m29 t 50) + (1 : Int32)) → (At g M_RF_next (lv + 1) 142 [(0, va_rf (some t))] [] m33 (QV Q))))))))))))) : At g M_RF_next (lv + 1) 142 [(0, va_rf (some t))] [] m (QV Q) := by
  refine at_aload_n (i := 0) 0 143 rfl (by decide +kernel) rfl ?_
  refine at_aload_n (i := 0) 0 144 rfl (by decide +kernel) rfl ?_
  obtain ⟨k1, h⟩ := h
  refine at_get (index := 197) (v := .int (mI m t 50)) cok12 50 147 rfl (by decide +kernel) k1 (by decide +kernel) tw_1135 rfl ?_
  refine at_callV mb_RF_at tw_1356 tw_35 cok12 k1 (index := 200) tw_1354 [.int (mI m t 50)] [] rfl rfl (by decide) 150 rfl (by decide +kernel) (Call.toI (CI.monoE h (fun x2 m3 h y4 => ?_)))
  have k5 : mK m3 t = 13 := y4.k k1 (by decide)
  refine at_callS mb_RF_isDigit tw_1362 (index := 213) tw_1361 [.int (x2)] [] rfl rfl (by decide) 153 rfl (by decide +kernel) (Call.toI (CI.monoE h (fun x6 m7 h y8 => ?_)))
  have k9 : mK m7 t = 13 := y8.k k5 (by decide)
  refine at_if_eq (off := 59) 212 156 rfl (by decide +kernel) (by decide +kernel) (fun c10 => ?_) (fun c10 => ?_)
  · rw [if_pos c10] at h
    refine at_aload_n (i := 0) 0 213 rfl (by decide +kernel) rfl ?_
    refine at_get (index := 216) (v := .long (mL m7 t 54)) cok12 54 216 rfl (by decide +kernel) k9 (by decide +kernel) tw_1139 rfl ?_
    refine at_ldc2 (index := 168) (1000000 : Int64) 219 rfl (by decide +kernel) tw_1315 ?_
    refine at_lif_lt (off := 90) 220 310 223 rfl rfl (by decide +kernel) (by decide +kernel) (by decide +kernel) (fun c11 => ?_) (fun c11 => ?_)
    · rw [if_pos c11] at h
      exact at_vret rfl (by decide +kernel) h
    · rw [if_neg c11] at h
      refine at_aload_n (i := 0) 0 224 rfl (by decide +kernel) rfl ?_
      refine at_iconst (n := 4) (4 : Int32) 225 rfl (by decide +kernel) (by decide +kernel) ?_
      refine at_putI (index := 207) cok12 52 228 rfl (by decide +kernel) k9 (by decide +kernel) tw_1137 rfl rfl rfl (fun m12 e13 => ?_)
      replace h := h m12 e13
      have x14 : Ext m7 m12 := by rw [e13]; exact Ext.sI _ _ _ _
      have k15 : mK m12 t = 13 := x14.k k9 (by decide)
      refine at_goto (off := 82) 310 (by decide +kernel) (by decide +kernel) ?_
      exact at_vret rfl (by decide +kernel) h
  · rw [if_neg c10] at h
    refine at_aload_n (i := 0) 0 157 rfl (by decide +kernel) rfl ?_
    refine at_aload_n (i := 0) 0 158 rfl (by decide +kernel) rfl ?_
    refine at_get (index := 216) (v := .long (mL m7 t 54)) cok12 54 161 rfl (by decide +kernel) k9 (by decide +kernel) tw_1139 rfl ?_
    refine at_ldc2 (index := 168) (1000000 : Int64) 164 rfl (by decide +kernel) tw_1315 ?_
    refine at_lif_ge (off := 28) 165 193 168 rfl rfl (by decide +kernel) (by decide +kernel) (by decide +kernel) (fun c16 => ?_) (fun c16 => ?_)
    · rw [if_pos c16] at h
      refine at_ldc2 (index := 168) (1000000 : Int64) 196 rfl (by decide +kernel) tw_1315 ?_
      refine at_putJ (index := 216) cok12 54 199 rfl (by decide +kernel) k9 (by decide +kernel) tw_1139 rfl rfl rfl (fun m17 e18 => ?_)
      replace h := h m17 e18
      have x19 : Ext m7 m17 := by rw [e18]; exact Ext.sL _ _ _ _
      have k20 : mK m17 t = 13 := x19.k k9 (by decide)
      refine at_aload_n (i := 0) 0 200 rfl (by decide +kernel) rfl ?_
      refine at_dup 201 rfl (by decide +kernel) (va_rf_cat _) ?_
      refine at_get (index := 197) (v := .int (mI m17 t 50)) cok12 50 204 rfl (by decide +kernel) k20 (by decide +kernel) tw_1135 rfl ?_
      refine at_iconst (n := 1) (1 : Int32) 205 rfl (by decide +kernel) (by decide +kernel) ?_
      refine at_iadd 206 rfl (by decide +kernel) ?_
      refine at_putI (index := 197) cok12 50 209 rfl (by decide +kernel) k20 (by decide +kernel) tw_1135 rfl rfl rfl (fun m21 e22 => ?_)
      replace h := h m21 e22
      have x23 : Ext m17 m21 := by rw [e22]; exact Ext.sI _ _ _ _
      have k24 : mK m21 t = 13 := x23.k k20 (by decide)
      refine at_goto (off := (-67)) 142 (by decide +kernel) (by decide +kernel) ?_
      exact h
    · rw [if_neg c16] at h
      refine at_ldc2 (index := 220) (10 : Int64) 171 rfl (by decide +kernel) tw_1364 ?_
      refine at_aload_n (i := 0) 0 172 rfl (by decide +kernel) rfl ?_
      refine at_get (index := 216) (v := .long (mL m7 t 54)) cok12 54 175 rfl (by decide +kernel) k9 (by decide +kernel) tw_1139 rfl ?_
      refine at_lmul 176 rfl (by decide +kernel) ?_
      refine at_aload_n (i := 0) 0 177 rfl (by decide +kernel) rfl ?_
      refine at_aload_n (i := 0) 0 178 rfl (by decide +kernel) rfl ?_
      refine at_get (index := 197) (v := .int (mI m7 t 50)) cok12 50 181 rfl (by decide +kernel) k9 (by decide +kernel) tw_1135 rfl ?_
      refine at_callV mb_RF_at tw_1356 tw_35 cok12 k9 (index := 200) tw_1354 [.int (mI m7 t 50)] [.long ((10 : Int64) * (mL m7 t 54)), va_rf (some t)] rfl rfl (by simp [va_rf_cat, cat_int, cat_long]) 184 rfl (by decide +kernel) (Call.toI (CI.monoE h (fun x25 m26 h y27 => ?_)))
      have k28 : mK m26 t = 13 := y27.k k9 (by decide)
      refine at_i2l 185 rfl (by decide +kernel) ?_
      refine at_ladd 186 rfl (by decide +kernel) ?_
      refine at_ldc2 (index := 222) (48 : Int64) 189 rfl (by decide +kernel) tw_1365 ?_
      refine at_lsub 190 rfl (by decide +kernel) ?_
      refine at_goto (off := 6) 196 (by decide +kernel) (by decide +kernel) ?_
      refine at_putJ (index := 216) cok12 54 199 rfl (by decide +kernel) k28 (by decide +kernel) tw_1139 rfl rfl rfl (fun m29 e30 => ?_)
      replace h := h m29 e30
      have x31 : Ext m26 m29 := by rw [e30]; exact Ext.sL _ _ _ _
      have k32 : mK m29 t = 13 := x31.k k28 (by decide)
      refine at_aload_n (i := 0) 0 200 rfl (by decide +kernel) rfl ?_
      refine at_dup 201 rfl (by decide +kernel) (va_rf_cat _) ?_
      refine at_get (index := 197) (v := .int (mI m29 t 50)) cok12 50 204 rfl (by decide +kernel) k32 (by decide +kernel) tw_1135 rfl ?_
      refine at_iconst (n := 1) (1 : Int32) 205 rfl (by decide +kernel) (by decide +kernel) ?_
      refine at_iadd 206 rfl (by decide +kernel) ?_
      refine at_putI (index := 197) cok12 50 209 rfl (by decide +kernel) k32 (by decide +kernel) tw_1135 rfl rfl rfl (fun m33 e34 => ?_)
      replace h := h m33 e34
      have x35 : Ext m29 m33 := by rw [e34]; exact Ext.sI _ _ _ _
      have k36 : mK m33 t = 13 := x35.k k32 (by decide)
      refine at_goto (off := (-67)) 142 (by decide +kernel) (by decide +kernel) ?_
      exact h
set_option maxRecDepth 20000 in
set_option maxHeartbeats 4000000 in
theorem bk_RF_next_98 (g : Gc) {lv : Nat} {t : Nat} {m : Mm} {Q : Mm → Prop} (h : mK m t = 13 ∧ (CI g M_RF_at lv [va_rf (some t), .int (mI m t 50)] m (fun x2 m3 => (CI g M_RF_isLetter lv [.int (x2)] m3 (fun x6 m7 => (if (x6) = 0 then (Q m7) else (∀ m11, m11 = sI m7 t 50 ((mI m7 t 50) + (1 : Int32)) → (At g M_RF_next (lv + 1) 98 [(0, va_rf (some t))] [] m11 (QV Q))))))))) : At g M_RF_next (lv + 1) 98 [(0, va_rf (some t))] [] m (QV Q) := by
  refine at_aload_n (i := 0) 0 99 rfl (by decide +kernel) rfl ?_
  refine at_aload_n (i := 0) 0 100 rfl (by decide +kernel) rfl ?_
  obtain ⟨k1, h⟩ := h
  refine at_get (index := 197) (v := .int (mI m t 50)) cok12 50 103 rfl (by decide +kernel) k1 (by decide +kernel) tw_1135 rfl ?_
  refine at_callV mb_RF_at tw_1356 tw_35 cok12 k1 (index := 200) tw_1354 [.int (mI m t 50)] [] rfl rfl (by decide) 106 rfl (by decide +kernel) (Call.toI (CI.monoE h (fun x2 m3 h y4 => ?_)))
  have k5 : mK m3 t = 13 := y4.k k1 (by decide)
  refine at_callS mb_RF_isLetter tw_1359 (index := 210) tw_1358 [.int (x2)] [] rfl rfl (by decide) 109 rfl (by decide +kernel) (Call.toI (CI.monoE h (fun x6 m7 h y8 => ?_)))
  have k9 : mK m7 t = 13 := y8.k k5 (by decide)
  refine at_if_eq (off := 201) 310 112 rfl (by decide +kernel) (by decide +kernel) (fun c10 => ?_) (fun c10 => ?_)
  · rw [if_pos c10] at h
    exact at_vret rfl (by decide +kernel) h
  · rw [if_neg c10] at h
    refine at_aload_n (i := 0) 0 113 rfl (by decide +kernel) rfl ?_
    refine at_dup 114 rfl (by decide +kernel) (va_rf_cat _) ?_
    refine at_get (index := 197) (v := .int (mI m7 t 50)) cok12 50 117 rfl (by decide +kernel) k9 (by decide +kernel) tw_1135 rfl ?_
    refine at_iconst (n := 1) (1 : Int32) 118 rfl (by decide +kernel) (by decide +kernel) ?_
    refine at_iadd 119 rfl (by decide +kernel) ?_
    refine at_putI (index := 197) cok12 50 122 rfl (by decide +kernel) k9 (by decide +kernel) tw_1135 rfl rfl rfl (fun m11 e12 => ?_)
    replace h := h m11 e12
    have x13 : Ext m7 m11 := by rw [e12]; exact Ext.sI _ _ _ _
    have k14 : mK m11 t = 13 := x13.k k9 (by decide)
    refine at_goto (off := (-24)) 98 (by decide +kernel) (by decide +kernel) ?_
    exact h
set_option maxRecDepth 20000 in
set_option maxHeartbeats 4000000 in
theorem bk_RF_next_50 (g : Gc) {lv : Nat} {t : Nat} {m : Mm} {Q : Mm → Prop} (h : mK m t = 13 ∧ (∀ m2, m2 = sI m t 51 (mI m t 50) → (CI g M_RF_at lv [va_rf (some t), .int (mI m2 t 50)] m2 (fun x6 m7 => (if (mI m7 t 50) = (mI m7 t 49) then (∀ m131, m131 = sI m7 t 52 (0 : Int32) → (Q m131)) else (CI g M_RF_isLetter lv [.int (x6)] m7 (fun x11 m12 => (if (x11) = 0 then (CI g M_RF_isDigit lv [.int (x6)] m12 (fun x16 m17 => (if (x16) = 0 then (if (x6) = ((43 : Int32)) then (∀ m22, m22 = sI m17 t 52 (3 : Int32) → (∀ m26, m26 = sI m22 t 50 ((mI m22 t 50) + (1 : Int32)) → (Q m26))) else (if (x6) = ((45 : Int32)) then (∀ m31, m31 = sI m17 t 52 (3 : Int32) → (∀ m35, m35 = sI m31 t 50 ((mI m31 t 50) + (1 : Int32)) → (Q m35))) else (if (x6) = ((42 : Int32)) then (∀ m40, m40 = sI m17 t 52 (3 : Int32) → (∀ m44, m44 = sI m40 t 50 ((mI m40 t 50) + (1 : Int32)) → (Q m44))) else (if (x6) = ((47 : Int32)) then (∀ m49, m49 = sI m17 t 52 (3 : Int32) → (∀ m53, m53 = sI m49 t 50 ((mI m49 t 50) + (1 : Int32)) → (Q m53))) else (if (x6) = ((40 : Int32)) then (∀ m58, m58 = sI m17 t 52 (3 : Int32) → (∀ m62, m62 = sI m58 t 50 ((mI m58 t 50) + (1 : Int32)) → (Q m62))) else (if (x6) = ((41 : Int32)) then (∀ m67, m67 = sI m17 t 52 (3 : Int32) → (∀ m71, m71 = sI m67 t 50 ((mI m67 t 50) + (1 : Int32)) → (Q m71))) else (if (x6) = ((60 : Int32)) then (∀ m76, m76 = sI m17 t 52 (3 : Int32) → (∀ m80, m80 = sI m76 t 50 ((mI m76 t 50) + (1 : Int32)) → (Q m80))) else (if (x6) = ((62 : Int32)) then (∀ m85, m85 = sI m17 t 52 (3 : Int32) → (∀ m89, m89 = sI m85 t 50 ((mI m85 t 50) + (1 : Int32)) → (Q m89))) else (if (x6) = ((61 : Int32)) then (∀ m94, m94 = sI m17 t 52 (3 : Int32) → (∀ m98, m98 = sI m94 t 50 ((mI m94 t 50) + (1 : Int32)) → (Q m98))) else (if (x6) = ((59 : Int32)) then (∀ m111, m111 = sI m17 t 52 (3 : Int32) → (∀ m115, m115 = sI m111 t 50 ((mI m111 t 50) + (1 : Int32)) → (Q m115))) else (∀ m103, m103 = sI m17 t 52 (4 : Int32) → (∀ m107, m107 = sI m103 t 50 ((mI m103 t 50) + (1 : Int32)) → (Q m107))))))))))))) else (∀ m119, m119 = sI m17 t 52 (2 : Int32) → (∀ m123, m123 = sL m119 t 54 (0 : Int64) → (At g M_RF_next (lv + 1) 142 [(0, va_rf (some t))] [] m123 (QV Q))))))) else (∀ m127, m127 = sI m12 t 52 (1 : Int32) → (At g M_RF_next (lv + 1) 98 [(0, va_rf (some t))] [] m127 (QV Q))))))))))) : At g M_RF_next (lv + 1) 50 [(0, va_rf (some t))] [] m (QV Q) := by
  refine at_aload_n (i := 0) 0 51 rfl (by decide +kernel) rfl ?_
  refine at_aload_n (i := 0) 0 52 rfl (by decide +kernel) rfl ?_
  obtain ⟨k1, h⟩ := h
  refine at_get (index := 197) (v := .int (mI m t 50)) cok12 50 55 rfl (by decide +kernel) k1 (by decide +kernel) tw_1135 rfl ?_
  refine at_putI (index := 204) cok12 51 58 rfl (by decide +kernel) k1 (by decide +kernel) tw_1136 rfl rfl rfl (fun m2 e3 => ?_)
  replace h := h m2 e3
  have x4 : Ext m m2 := by rw [e3]; exact Ext.sI _ _ _ _
  have k5 : mK m2 t = 13 := x4.k k1 (by decide)
  refine at_aload_n (i := 0) 0 59 rfl (by decide +kernel) rfl ?_
  refine at_aload_n (i := 0) 0 60 rfl (by decide +kernel) rfl ?_
  refine at_get (index := 197) (v := .int (mI m2 t 50)) cok12 50 63 rfl (by decide +kernel) k5 (by decide +kernel) tw_1135 rfl ?_
  refine at_callV mb_RF_at tw_1356 tw_35 cok12 k5 (index := 200) tw_1354 [.int (mI m2 t 50)] [] rfl rfl (by decide) 66 rfl (by decide +kernel) (Call.toI (CI.monoE h (fun x6 m7 h y8 => ?_)))
  have k9 : mK m7 t = 13 := y8.k k5 (by decide)
  refine at_istore_n (i := 1) (lc' := [(0, va_rf (some t)), (1, .int (x6))]) [1, 0] 67 rfl (by decide +kernel) (by decide +kernel) rfl ?_
  refine at_aload_n (i := 0) 0 68 rfl (by decide +kernel) rfl ?_
  refine at_get (index := 197) (v := .int (mI m7 t 50)) cok12 50 71 rfl (by decide +kernel) k9 (by decide +kernel) tw_1135 rfl ?_
  refine at_aload_n (i := 0) 0 72 rfl (by decide +kernel) rfl ?_
  refine at_get (index := 191) (v := .int (mI m7 t 49)) cok12 49 75 rfl (by decide +kernel) k9 (by decide +kernel) tw_1134 rfl ?_
  refine at_icmp_ne (off := 11) 86 78 rfl (by decide +kernel) (by decide +kernel) (fun c10 => ?_) (fun c10 => ?_)
  · rw [if_neg c10] at h
    refine at_iload_n (i := 1) 1 87 rfl (by decide +kernel) rfl ?_
    refine at_callS mb_RF_isLetter tw_1359 (index := 210) tw_1358 [.int (x6)] [] rfl rfl (by decide) 90 rfl (by decide +kernel) (Call.toI (CI.monoE h (fun x11 m12 h y13 => ?_)))
    have k14 : mK m12 t = 13 := y13.k k9 (by decide)
    refine at_if_eq (off := 35) 125 93 rfl (by decide +kernel) (by decide +kernel) (fun c15 => ?_) (fun c15 => ?_)
    · rw [if_pos c15] at h
      refine at_iload_n (i := 1) 1 126 rfl (by decide +kernel) rfl ?_
      refine at_callS mb_RF_isDigit tw_1362 (index := 213) tw_1361 [.int (x6)] [] rfl rfl (by decide) 129 rfl (by decide +kernel) (Call.toI (CI.monoE h (fun x16 m17 h y18 => ?_)))
      have k19 : mK m17 t = 13 := y18.k k14 (by decide)
      refine at_if_eq (off := 102) 231 132 rfl (by decide +kernel) (by decide +kernel) (fun c20 => ?_) (fun c20 => ?_)
      · rw [if_pos c20] at h
        refine at_aload_n (i := 0) 0 232 rfl (by decide +kernel) rfl ?_
        refine at_iload_n (i := 1) 1 233 rfl (by decide +kernel) rfl ?_
        refine at_bipush (n := 43) (43 : Int32) 235 rfl (by decide +kernel) (by decide +kernel) ?_
        refine at_icmp_eq (off := 57) 292 238 rfl (by decide +kernel) (by decide +kernel) (fun c21 => ?_) (fun c21 => ?_)
        · rw [if_pos c21] at h
          refine at_iconst (n := 3) (3 : Int32) 293 rfl (by decide +kernel) (by decide +kernel) ?_
          refine at_goto (off := 4) 297 (by decide +kernel) (by decide +kernel) ?_
          refine at_putI (index := 207) cok12 52 300 rfl (by decide +kernel) k19 (by decide +kernel) tw_1137 rfl rfl rfl (fun m22 e23 => ?_)
          replace h := h m22 e23
          have x24 : Ext m17 m22 := by rw [e23]; exact Ext.sI _ _ _ _
          have k25 : mK m22 t = 13 := x24.k k19 (by decide)
          refine at_aload_n (i := 0) 0 301 rfl (by decide +kernel) rfl ?_
          refine at_dup 302 rfl (by decide +kernel) (va_rf_cat _) ?_
          refine at_get (index := 197) (v := .int (mI m22 t 50)) cok12 50 305 rfl (by decide +kernel) k25 (by decide +kernel) tw_1135 rfl ?_
          refine at_iconst (n := 1) (1 : Int32) 306 rfl (by decide +kernel) (by decide +kernel) ?_
          refine at_iadd 307 rfl (by decide +kernel) ?_
          refine at_putI (index := 197) cok12 50 310 rfl (by decide +kernel) k25 (by decide +kernel) tw_1135 rfl rfl rfl (fun m26 e27 => ?_)
          replace h := h m26 e27
          have x28 : Ext m22 m26 := by rw [e27]; exact Ext.sI _ _ _ _
          have k29 : mK m26 t = 13 := x28.k k25 (by decide)
          exact at_vret rfl (by decide +kernel) h
        · rw [if_neg c21] at h
          refine at_iload_n (i := 1) 1 239 rfl (by decide +kernel) rfl ?_
          refine at_bipush (n := 45) (45 : Int32) 241 rfl (by decide +kernel) (by decide +kernel) ?_
          refine at_icmp_eq (off := 51) 292 244 rfl (by decide +kernel) (by decide +kernel) (fun c30 => ?_) (fun c30 => ?_)
          · rw [if_pos c30] at h
            refine at_iconst (n := 3) (3 : Int32) 293 rfl (by decide +kernel) (by decide +kernel) ?_
            refine at_goto (off := 4) 297 (by decide +kernel) (by decide +kernel) ?_
            refine at_putI (index := 207) cok12 52 300 rfl (by decide +kernel) k19 (by decide +kernel) tw_1137 rfl rfl rfl (fun m31 e32 => ?_)
            replace h := h m31 e32
            have x33 : Ext m17 m31 := by rw [e32]; exact Ext.sI _ _ _ _
            have k34 : mK m31 t = 13 := x33.k k19 (by decide)
            refine at_aload_n (i := 0) 0 301 rfl (by decide +kernel) rfl ?_
            refine at_dup 302 rfl (by decide +kernel) (va_rf_cat _) ?_
            refine at_get (index := 197) (v := .int (mI m31 t 50)) cok12 50 305 rfl (by decide +kernel) k34 (by decide +kernel) tw_1135 rfl ?_
            refine at_iconst (n := 1) (1 : Int32) 306 rfl (by decide +kernel) (by decide +kernel) ?_
            refine at_iadd 307 rfl (by decide +kernel) ?_
            refine at_putI (index := 197) cok12 50 310 rfl (by decide +kernel) k34 (by decide +kernel) tw_1135 rfl rfl rfl (fun m35 e36 => ?_)
            replace h := h m35 e36
            have x37 : Ext m31 m35 := by rw [e36]; exact Ext.sI _ _ _ _
            have k38 : mK m35 t = 13 := x37.k k34 (by decide)
            exact at_vret rfl (by decide +kernel) h
          · rw [if_neg c30] at h
            refine at_iload_n (i := 1) 1 245 rfl (by decide +kernel) rfl ?_
            refine at_bipush (n := 42) (42 : Int32) 247 rfl (by decide +kernel) (by decide +kernel) ?_
            refine at_icmp_eq (off := 45) 292 250 rfl (by decide +kernel) (by decide +kernel) (fun c39 => ?_) (fun c39 => ?_)
            · rw [if_pos c39] at h
              refine at_iconst (n := 3) (3 : Int32) 293 rfl (by decide +kernel) (by decide +kernel) ?_
              refine at_goto (off := 4) 297 (by decide +kernel) (by decide +kernel) ?_
              refine at_putI (index := 207) cok12 52 300 rfl (by decide +kernel) k19 (by decide +kernel) tw_1137 rfl rfl rfl (fun m40 e41 => ?_)
              replace h := h m40 e41
              have x42 : Ext m17 m40 := by rw [e41]; exact Ext.sI _ _ _ _
              have k43 : mK m40 t = 13 := x42.k k19 (by decide)
              refine at_aload_n (i := 0) 0 301 rfl (by decide +kernel) rfl ?_
              refine at_dup 302 rfl (by decide +kernel) (va_rf_cat _) ?_
              refine at_get (index := 197) (v := .int (mI m40 t 50)) cok12 50 305 rfl (by decide +kernel) k43 (by decide +kernel) tw_1135 rfl ?_
              refine at_iconst (n := 1) (1 : Int32) 306 rfl (by decide +kernel) (by decide +kernel) ?_
              refine at_iadd 307 rfl (by decide +kernel) ?_
              refine at_putI (index := 197) cok12 50 310 rfl (by decide +kernel) k43 (by decide +kernel) tw_1135 rfl rfl rfl (fun m44 e45 => ?_)
              replace h := h m44 e45
              have x46 : Ext m40 m44 := by rw [e45]; exact Ext.sI _ _ _ _
              have k47 : mK m44 t = 13 := x46.k k43 (by decide)
              exact at_vret rfl (by decide +kernel) h
            · rw [if_neg c39] at h
              refine at_iload_n (i := 1) 1 251 rfl (by decide +kernel) rfl ?_
              refine at_bipush (n := 47) (47 : Int32) 253 rfl (by decide +kernel) (by decide +kernel) ?_
              refine at_icmp_eq (off := 39) 292 256 rfl (by decide +kernel) (by decide +kernel) (fun c48 => ?_) (fun c48 => ?_)
              · rw [if_pos c48] at h
                refine at_iconst (n := 3) (3 : Int32) 293 rfl (by decide +kernel) (by decide +kernel) ?_
                refine at_goto (off := 4) 297 (by decide +kernel) (by decide +kernel) ?_
                refine at_putI (index := 207) cok12 52 300 rfl (by decide +kernel) k19 (by decide +kernel) tw_1137 rfl rfl rfl (fun m49 e50 => ?_)
                replace h := h m49 e50
                have x51 : Ext m17 m49 := by rw [e50]; exact Ext.sI _ _ _ _
                have k52 : mK m49 t = 13 := x51.k k19 (by decide)
                refine at_aload_n (i := 0) 0 301 rfl (by decide +kernel) rfl ?_
                refine at_dup 302 rfl (by decide +kernel) (va_rf_cat _) ?_
                refine at_get (index := 197) (v := .int (mI m49 t 50)) cok12 50 305 rfl (by decide +kernel) k52 (by decide +kernel) tw_1135 rfl ?_
                refine at_iconst (n := 1) (1 : Int32) 306 rfl (by decide +kernel) (by decide +kernel) ?_
                refine at_iadd 307 rfl (by decide +kernel) ?_
                refine at_putI (index := 197) cok12 50 310 rfl (by decide +kernel) k52 (by decide +kernel) tw_1135 rfl rfl rfl (fun m53 e54 => ?_)
                replace h := h m53 e54
                have x55 : Ext m49 m53 := by rw [e54]; exact Ext.sI _ _ _ _
                have k56 : mK m53 t = 13 := x55.k k52 (by decide)
                exact at_vret rfl (by decide +kernel) h
              · rw [if_neg c48] at h
                refine at_iload_n (i := 1) 1 257 rfl (by decide +kernel) rfl ?_
                refine at_bipush (n := 40) (40 : Int32) 259 rfl (by decide +kernel) (by decide +kernel) ?_
                refine at_icmp_eq (off := 33) 292 262 rfl (by decide +kernel) (by decide +kernel) (fun c57 => ?_) (fun c57 => ?_)
                · rw [if_pos c57] at h
                  refine at_iconst (n := 3) (3 : Int32) 293 rfl (by decide +kernel) (by decide +kernel) ?_
                  refine at_goto (off := 4) 297 (by decide +kernel) (by decide +kernel) ?_
                  refine at_putI (index := 207) cok12 52 300 rfl (by decide +kernel) k19 (by decide +kernel) tw_1137 rfl rfl rfl (fun m58 e59 => ?_)
                  replace h := h m58 e59
                  have x60 : Ext m17 m58 := by rw [e59]; exact Ext.sI _ _ _ _
                  have k61 : mK m58 t = 13 := x60.k k19 (by decide)
                  refine at_aload_n (i := 0) 0 301 rfl (by decide +kernel) rfl ?_
                  refine at_dup 302 rfl (by decide +kernel) (va_rf_cat _) ?_
                  refine at_get (index := 197) (v := .int (mI m58 t 50)) cok12 50 305 rfl (by decide +kernel) k61 (by decide +kernel) tw_1135 rfl ?_
                  refine at_iconst (n := 1) (1 : Int32) 306 rfl (by decide +kernel) (by decide +kernel) ?_
                  refine at_iadd 307 rfl (by decide +kernel) ?_
                  refine at_putI (index := 197) cok12 50 310 rfl (by decide +kernel) k61 (by decide +kernel) tw_1135 rfl rfl rfl (fun m62 e63 => ?_)
                  replace h := h m62 e63
                  have x64 : Ext m58 m62 := by rw [e63]; exact Ext.sI _ _ _ _
                  have k65 : mK m62 t = 13 := x64.k k61 (by decide)
                  exact at_vret rfl (by decide +kernel) h
                · rw [if_neg c57] at h
                  refine at_iload_n (i := 1) 1 263 rfl (by decide +kernel) rfl ?_
                  refine at_bipush (n := 41) (41 : Int32) 265 rfl (by decide +kernel) (by decide +kernel) ?_
                  refine at_icmp_eq (off := 27) 292 268 rfl (by decide +kernel) (by decide +kernel) (fun c66 => ?_) (fun c66 => ?_)
                  · rw [if_pos c66] at h
                    refine at_iconst (n := 3) (3 : Int32) 293 rfl (by decide +kernel) (by decide +kernel) ?_
                    refine at_goto (off := 4) 297 (by decide +kernel) (by decide +kernel) ?_
                    refine at_putI (index := 207) cok12 52 300 rfl (by decide +kernel) k19 (by decide +kernel) tw_1137 rfl rfl rfl (fun m67 e68 => ?_)
                    replace h := h m67 e68
                    have x69 : Ext m17 m67 := by rw [e68]; exact Ext.sI _ _ _ _
                    have k70 : mK m67 t = 13 := x69.k k19 (by decide)
                    refine at_aload_n (i := 0) 0 301 rfl (by decide +kernel) rfl ?_
                    refine at_dup 302 rfl (by decide +kernel) (va_rf_cat _) ?_
                    refine at_get (index := 197) (v := .int (mI m67 t 50)) cok12 50 305 rfl (by decide +kernel) k70 (by decide +kernel) tw_1135 rfl ?_
                    refine at_iconst (n := 1) (1 : Int32) 306 rfl (by decide +kernel) (by decide +kernel) ?_
                    refine at_iadd 307 rfl (by decide +kernel) ?_
                    refine at_putI (index := 197) cok12 50 310 rfl (by decide +kernel) k70 (by decide +kernel) tw_1135 rfl rfl rfl (fun m71 e72 => ?_)
                    replace h := h m71 e72
                    have x73 : Ext m67 m71 := by rw [e72]; exact Ext.sI _ _ _ _
                    have k74 : mK m71 t = 13 := x73.k k70 (by decide)
                    exact at_vret rfl (by decide +kernel) h
                  · rw [if_neg c66] at h
                    refine at_iload_n (i := 1) 1 269 rfl (by decide +kernel) rfl ?_
                    refine at_bipush (n := 60) (60 : Int32) 271 rfl (by decide +kernel) (by decide +kernel) ?_
                    refine at_icmp_eq (off := 21) 292 274 rfl (by decide +kernel) (by decide +kernel) (fun c75 => ?_) (fun c75 => ?_)
                    · rw [if_pos c75] at h
                      refine at_iconst (n := 3) (3 : Int32) 293 rfl (by decide +kernel) (by decide +kernel) ?_
                      refine at_goto (off := 4) 297 (by decide +kernel) (by decide +kernel) ?_
                      refine at_putI (index := 207) cok12 52 300 rfl (by decide +kernel) k19 (by decide +kernel) tw_1137 rfl rfl rfl (fun m76 e77 => ?_)
                      replace h := h m76 e77
                      have x78 : Ext m17 m76 := by rw [e77]; exact Ext.sI _ _ _ _
                      have k79 : mK m76 t = 13 := x78.k k19 (by decide)
                      refine at_aload_n (i := 0) 0 301 rfl (by decide +kernel) rfl ?_
                      refine at_dup 302 rfl (by decide +kernel) (va_rf_cat _) ?_
                      refine at_get (index := 197) (v := .int (mI m76 t 50)) cok12 50 305 rfl (by decide +kernel) k79 (by decide +kernel) tw_1135 rfl ?_
                      refine at_iconst (n := 1) (1 : Int32) 306 rfl (by decide +kernel) (by decide +kernel) ?_
                      refine at_iadd 307 rfl (by decide +kernel) ?_
                      refine at_putI (index := 197) cok12 50 310 rfl (by decide +kernel) k79 (by decide +kernel) tw_1135 rfl rfl rfl (fun m80 e81 => ?_)
                      replace h := h m80 e81
                      have x82 : Ext m76 m80 := by rw [e81]; exact Ext.sI _ _ _ _
                      have k83 : mK m80 t = 13 := x82.k k79 (by decide)
                      exact at_vret rfl (by decide +kernel) h
                    · rw [if_neg c75] at h
                      refine at_iload_n (i := 1) 1 275 rfl (by decide +kernel) rfl ?_
                      refine at_bipush (n := 62) (62 : Int32) 277 rfl (by decide +kernel) (by decide +kernel) ?_
                      refine at_icmp_eq (off := 15) 292 280 rfl (by decide +kernel) (by decide +kernel) (fun c84 => ?_) (fun c84 => ?_)
                      · rw [if_pos c84] at h
                        refine at_iconst (n := 3) (3 : Int32) 293 rfl (by decide +kernel) (by decide +kernel) ?_
                        refine at_goto (off := 4) 297 (by decide +kernel) (by decide +kernel) ?_
                        refine at_putI (index := 207) cok12 52 300 rfl (by decide +kernel) k19 (by decide +kernel) tw_1137 rfl rfl rfl (fun m85 e86 => ?_)
                        replace h := h m85 e86
                        have x87 : Ext m17 m85 := by rw [e86]; exact Ext.sI _ _ _ _
                        have k88 : mK m85 t = 13 := x87.k k19 (by decide)
                        refine at_aload_n (i := 0) 0 301 rfl (by decide +kernel) rfl ?_
                        refine at_dup 302 rfl (by decide +kernel) (va_rf_cat _) ?_
                        refine at_get (index := 197) (v := .int (mI m85 t 50)) cok12 50 305 rfl (by decide +kernel) k88 (by decide +kernel) tw_1135 rfl ?_
                        refine at_iconst (n := 1) (1 : Int32) 306 rfl (by decide +kernel) (by decide +kernel) ?_
                        refine at_iadd 307 rfl (by decide +kernel) ?_
                        refine at_putI (index := 197) cok12 50 310 rfl (by decide +kernel) k88 (by decide +kernel) tw_1135 rfl rfl rfl (fun m89 e90 => ?_)
                        replace h := h m89 e90
                        have x91 : Ext m85 m89 := by rw [e90]; exact Ext.sI _ _ _ _
                        have k92 : mK m89 t = 13 := x91.k k88 (by decide)
                        exact at_vret rfl (by decide +kernel) h
                      · rw [if_neg c84] at h
                        refine at_iload_n (i := 1) 1 281 rfl (by decide +kernel) rfl ?_
                        refine at_bipush (n := 61) (61 : Int32) 283 rfl (by decide +kernel) (by decide +kernel) ?_
                        refine at_icmp_eq (off := 9) 292 286 rfl (by decide +kernel) (by decide +kernel) (fun c93 => ?_) (fun c93 => ?_)
                        · rw [if_pos c93] at h
                          refine at_iconst (n := 3) (3 : Int32) 293 rfl (by decide +kernel) (by decide +kernel) ?_
                          refine at_goto (off := 4) 297 (by decide +kernel) (by decide +kernel) ?_
                          refine at_putI (index := 207) cok12 52 300 rfl (by decide +kernel) k19 (by decide +kernel) tw_1137 rfl rfl rfl (fun m94 e95 => ?_)
                          replace h := h m94 e95
                          have x96 : Ext m17 m94 := by rw [e95]; exact Ext.sI _ _ _ _
                          have k97 : mK m94 t = 13 := x96.k k19 (by decide)
                          refine at_aload_n (i := 0) 0 301 rfl (by decide +kernel) rfl ?_
                          refine at_dup 302 rfl (by decide +kernel) (va_rf_cat _) ?_
                          refine at_get (index := 197) (v := .int (mI m94 t 50)) cok12 50 305 rfl (by decide +kernel) k97 (by decide +kernel) tw_1135 rfl ?_
                          refine at_iconst (n := 1) (1 : Int32) 306 rfl (by decide +kernel) (by decide +kernel) ?_
                          refine at_iadd 307 rfl (by decide +kernel) ?_
                          refine at_putI (index := 197) cok12 50 310 rfl (by decide +kernel) k97 (by decide +kernel) tw_1135 rfl rfl rfl (fun m98 e99 => ?_)
                          replace h := h m98 e99
                          have x100 : Ext m94 m98 := by rw [e99]; exact Ext.sI _ _ _ _
                          have k101 : mK m98 t = 13 := x100.k k97 (by decide)
                          exact at_vret rfl (by decide +kernel) h
                        · rw [if_neg c93] at h
                          refine at_iload_n (i := 1) 1 287 rfl (by decide +kernel) rfl ?_
                          refine at_bipush (n := 59) (59 : Int32) 289 rfl (by decide +kernel) (by decide +kernel) ?_
                          refine at_icmp_ne (off := 7) 296 292 rfl (by decide +kernel) (by decide +kernel) (fun c102 => ?_) (fun c102 => ?_)
                          · rw [if_neg c102] at h
                            refine at_iconst (n := 4) (4 : Int32) 297 rfl (by decide +kernel) (by decide +kernel) ?_
                            refine at_putI (index := 207) cok12 52 300 rfl (by decide +kernel) k19 (by decide +kernel) tw_1137 rfl rfl rfl (fun m103 e104 => ?_)
                            replace h := h m103 e104
                            have x105 : Ext m17 m103 := by rw [e104]; exact Ext.sI _ _ _ _
                            have k106 : mK m103 t = 13 := x105.k k19 (by decide)
                            refine at_aload_n (i := 0) 0 301 rfl (by decide +kernel) rfl ?_
                            refine at_dup 302 rfl (by decide +kernel) (va_rf_cat _) ?_
                            refine at_get (index := 197) (v := .int (mI m103 t 50)) cok12 50 305 rfl (by decide +kernel) k106 (by decide +kernel) tw_1135 rfl ?_
                            refine at_iconst (n := 1) (1 : Int32) 306 rfl (by decide +kernel) (by decide +kernel) ?_
                            refine at_iadd 307 rfl (by decide +kernel) ?_
                            refine at_putI (index := 197) cok12 50 310 rfl (by decide +kernel) k106 (by decide +kernel) tw_1135 rfl rfl rfl (fun m107 e108 => ?_)
                            replace h := h m107 e108
                            have x109 : Ext m103 m107 := by rw [e108]; exact Ext.sI _ _ _ _
                            have k110 : mK m107 t = 13 := x109.k k106 (by decide)
                            exact at_vret rfl (by decide +kernel) h
                          · rw [if_pos c102] at h
                            refine at_iconst (n := 3) (3 : Int32) 293 rfl (by decide +kernel) (by decide +kernel) ?_
                            refine at_goto (off := 4) 297 (by decide +kernel) (by decide +kernel) ?_
                            refine at_putI (index := 207) cok12 52 300 rfl (by decide +kernel) k19 (by decide +kernel) tw_1137 rfl rfl rfl (fun m111 e112 => ?_)
                            replace h := h m111 e112
                            have x113 : Ext m17 m111 := by rw [e112]; exact Ext.sI _ _ _ _
                            have k114 : mK m111 t = 13 := x113.k k19 (by decide)
                            refine at_aload_n (i := 0) 0 301 rfl (by decide +kernel) rfl ?_
                            refine at_dup 302 rfl (by decide +kernel) (va_rf_cat _) ?_
                            refine at_get (index := 197) (v := .int (mI m111 t 50)) cok12 50 305 rfl (by decide +kernel) k114 (by decide +kernel) tw_1135 rfl ?_
                            refine at_iconst (n := 1) (1 : Int32) 306 rfl (by decide +kernel) (by decide +kernel) ?_
                            refine at_iadd 307 rfl (by decide +kernel) ?_
                            refine at_putI (index := 197) cok12 50 310 rfl (by decide +kernel) k114 (by decide +kernel) tw_1135 rfl rfl rfl (fun m115 e116 => ?_)
                            replace h := h m115 e116
                            have x117 : Ext m111 m115 := by rw [e116]; exact Ext.sI _ _ _ _
                            have k118 : mK m115 t = 13 := x117.k k114 (by decide)
                            exact at_vret rfl (by decide +kernel) h
      · rw [if_neg c20] at h
        refine at_aload_n (i := 0) 0 133 rfl (by decide +kernel) rfl ?_
        refine at_iconst (n := 2) (2 : Int32) 134 rfl (by decide +kernel) (by decide +kernel) ?_
        refine at_putI (index := 207) cok12 52 137 rfl (by decide +kernel) k19 (by decide +kernel) tw_1137 rfl rfl rfl (fun m119 e120 => ?_)
        replace h := h m119 e120
        have x121 : Ext m17 m119 := by rw [e120]; exact Ext.sI _ _ _ _
        have k122 : mK m119 t = 13 := x121.k k19 (by decide)
        refine at_aload_n (i := 0) 0 138 rfl (by decide +kernel) rfl ?_
        refine at_lconst (n := 0) (0 : Int64) 139 rfl (by decide +kernel) (by decide +kernel) ?_
        refine at_putJ (index := 216) cok12 54 142 rfl (by decide +kernel) k122 (by decide +kernel) tw_1139 rfl rfl rfl (fun m123 e124 => ?_)
        replace h := h m123 e124
        have x125 : Ext m119 m123 := by rw [e124]; exact Ext.sL _ _ _ _
        have k126 : mK m123 t = 13 := x125.k k122 (by decide)
        exact At.sub [0] rfl h
    · rw [if_neg c15] at h
      refine at_aload_n (i := 0) 0 94 rfl (by decide +kernel) rfl ?_
      refine at_iconst (n := 1) (1 : Int32) 95 rfl (by decide +kernel) (by decide +kernel) ?_
      refine at_putI (index := 207) cok12 52 98 rfl (by decide +kernel) k14 (by decide +kernel) tw_1137 rfl rfl rfl (fun m127 e128 => ?_)
      replace h := h m127 e128
      have x129 : Ext m12 m127 := by rw [e128]; exact Ext.sI _ _ _ _
      have k130 : mK m127 t = 13 := x129.k k14 (by decide)
      exact At.sub [0] rfl h
  · rw [if_pos c10] at h
    refine at_aload_n (i := 0) 0 79 rfl (by decide +kernel) rfl ?_
    refine at_iconst (n := 0) (0 : Int32) 80 rfl (by decide +kernel) (by decide +kernel) ?_
    refine at_putI (index := 207) cok12 52 83 rfl (by decide +kernel) k9 (by decide +kernel) tw_1137 rfl rfl rfl (fun m131 e132 => ?_)
    replace h := h m131 e132
    have x133 : Ext m7 m131 := by rw [e132]; exact Ext.sI _ _ _ _
    have k134 : mK m131 t = 13 := x133.k k9 (by decide)
    refine at_goto (off := 227) 310 (by decide +kernel) (by decide +kernel) ?_
    exact at_vret rfl (by decide +kernel) h
set_option maxRecDepth 20000 in
set_option maxHeartbeats 4000000 in
theorem en_RF_next (g : Gc) {lv : Nat} {t : Nat} {m : Mm} {Q : Mm → Prop} (h : mK m t = 13 ∧ (if (mI m t 49) ≤ (mI m t 50) then (At g M_RF_next (lv + 1) 50 [(0, va_rf (some t))] [] m (QV Q)) else (CI g M_RF_at lv [va_rf (some t), .int (mI m t 50)] m (fun x3 m4 => (if (x3) = ((32 : Int32)) then (∀ m8, m8 = sI m4 t 50 ((mI m4 t 50) + (1 : Int32)) → (At g M_RF_next (lv + 1) 0 [(0, va_rf (some t))] [] m8 (QV Q))) else (CI g M_RF_at lv [va_rf (some t), .int (mI m4 t 50)] m4 (fun x12 m13 => (if (x12) = ((10 : Int32)) then (∀ m17, m17 = sI m13 t 50 ((mI m13 t 50) + (1 : Int32)) → (At g M_RF_next (lv + 1) 0 [(0, va_rf (some t))] [] m17 (QV Q))) else (At g M_RF_next (lv + 1) 50 [(0, va_rf (some t))] [] m13 (QV Q)))))))))) : CV g M_RF_next (lv + 1) [va_rf (some t)] m Q := by
  refine Call.of (by decide +kernel) (Nat.le_of_ble_eq_true rfl) ?_
  show At g M_RF_next (lv + 1) 0 [(0, va_rf (some t))] [] m (QV Q)
  refine at_aload_n (i := 0) 0 1 rfl (by decide +kernel) rfl ?_
  obtain ⟨k1, h⟩ := h
  refine at_get (index := 197) (v := .int (mI m t 50)) cok12 50 4 rfl (by decide +kernel) k1 (by decide +kernel) tw_1135 rfl ?_
  refine at_aload_n (i := 0) 0 5 rfl (by decide +kernel) rfl ?_
  refine at_get (index := 191) (v := .int (mI m t 49)) cok12 49 8 rfl (by decide +kernel) k1 (by decide +kernel) tw_1134 rfl ?_
  refine at_icmp_ge (off := 42) 50 11 rfl (by decide +kernel) (by decide +kernel) (fun c2 => ?_) (fun c2 => ?_)
  · rw [if_pos c2] at h
    exact h
  · rw [if_neg c2] at h
    refine at_aload_n (i := 0) 0 12 rfl (by decide +kernel) rfl ?_
    refine at_aload_n (i := 0) 0 13 rfl (by decide +kernel) rfl ?_
    refine at_get (index := 197) (v := .int (mI m t 50)) cok12 50 16 rfl (by decide +kernel) k1 (by decide +kernel) tw_1135 rfl ?_
    refine at_callV mb_RF_at tw_1356 tw_35 cok12 k1 (index := 200) tw_1354 [.int (mI m t 50)] [] rfl rfl (by decide) 19 rfl (by decide +kernel) (Call.toI (CI.monoE h (fun x3 m4 h y5 => ?_)))
    have k6 : mK m4 t = 13 := y5.k k1 (by decide)
    refine at_bipush (n := 32) (32 : Int32) 21 rfl (by decide +kernel) (by decide +kernel) ?_
    refine at_icmp_eq (off := 16) 37 24 rfl (by decide +kernel) (by decide +kernel) (fun c7 => ?_) (fun c7 => ?_)
    · rw [if_pos c7] at h
      refine at_aload_n (i := 0) 0 38 rfl (by decide +kernel) rfl ?_
      refine at_dup 39 rfl (by decide +kernel) (va_rf_cat _) ?_
      refine at_get (index := 197) (v := .int (mI m4 t 50)) cok12 50 42 rfl (by decide +kernel) k6 (by decide +kernel) tw_1135 rfl ?_
      refine at_iconst (n := 1) (1 : Int32) 43 rfl (by decide +kernel) (by decide +kernel) ?_
      refine at_iadd 44 rfl (by decide +kernel) ?_
      refine at_putI (index := 197) cok12 50 47 rfl (by decide +kernel) k6 (by decide +kernel) tw_1135 rfl rfl rfl (fun m8 e9 => ?_)
      replace h := h m8 e9
      have x10 : Ext m4 m8 := by rw [e9]; exact Ext.sI _ _ _ _
      have k11 : mK m8 t = 13 := x10.k k6 (by decide)
      refine at_goto (off := (-47)) 0 (by decide +kernel) (by decide +kernel) ?_
      exact h
    · rw [if_neg c7] at h
      refine at_aload_n (i := 0) 0 25 rfl (by decide +kernel) rfl ?_
      refine at_aload_n (i := 0) 0 26 rfl (by decide +kernel) rfl ?_
      refine at_get (index := 197) (v := .int (mI m4 t 50)) cok12 50 29 rfl (by decide +kernel) k6 (by decide +kernel) tw_1135 rfl ?_
      refine at_callV mb_RF_at tw_1356 tw_35 cok12 k6 (index := 200) tw_1354 [.int (mI m4 t 50)] [] rfl rfl (by decide) 32 rfl (by decide +kernel) (Call.toI (CI.monoE h (fun x12 m13 h y14 => ?_)))
      have k15 : mK m13 t = 13 := y14.k k6 (by decide)
      refine at_bipush (n := 10) (10 : Int32) 34 rfl (by decide +kernel) (by decide +kernel) ?_
      refine at_icmp_ne (off := 16) 50 37 rfl (by decide +kernel) (by decide +kernel) (fun c16 => ?_) (fun c16 => ?_)
      · rw [if_neg c16] at h
        exact h
      · rw [if_pos c16] at h
        refine at_aload_n (i := 0) 0 38 rfl (by decide +kernel) rfl ?_
        refine at_dup 39 rfl (by decide +kernel) (va_rf_cat _) ?_
        refine at_get (index := 197) (v := .int (mI m13 t 50)) cok12 50 42 rfl (by decide +kernel) k15 (by decide +kernel) tw_1135 rfl ?_
        refine at_iconst (n := 1) (1 : Int32) 43 rfl (by decide +kernel) (by decide +kernel) ?_
        refine at_iadd 44 rfl (by decide +kernel) ?_
        refine at_putI (index := 197) cok12 50 47 rfl (by decide +kernel) k15 (by decide +kernel) tw_1135 rfl rfl rfl (fun m17 e18 => ?_)
        replace h := h m17 e18
        have x19 : Ext m13 m17 := by rw [e18]; exact Ext.sI _ _ _ _
        have k20 : mK m17 t = 13 := x19.k k15 (by decide)
        refine at_goto (off := (-47)) 0 (by decide +kernel) (by decide +kernel) ?_
        exact h
set_option maxRecDepth 20000 in
set_option maxHeartbeats 4000000 in
theorem en_RF_bad (g : Gc) {lv : Nat} {t : Nat} {m : Mm} {Q : Mm → Prop} (h : mK m t = 13 ∧ (if (mI m t 55) = 0 then (∀ m7, m7 = sI m t 16 (mI m t 51) → (∀ m11, m11 = sI m7 t 55 (1 : Int32) → (Q m11))) else (∀ m3, m3 = sI m t 55 (1 : Int32) → (Q m3)))) : CV g M_RF_bad (lv + 1) [va_rf (some t)] m Q := by
  refine Call.of (by decide +kernel) (Nat.le_of_ble_eq_true rfl) ?_
  show At g M_RF_bad (lv + 1) 0 [(0, va_rf (some t))] [] m (QV Q)
  refine at_aload_n (i := 0) 0 1 rfl (by decide +kernel) rfl ?_
  obtain ⟨k1, h⟩ := h
  refine at_get (index := 224) (v := .int (mI m t 55)) cok12 55 4 rfl (by decide +kernel) k1 (by decide +kernel) tw_1140 rfl ?_
  refine at_if_ne (off := 11) 15 7 rfl (by decide +kernel) (by decide +kernel) (fun c2 => ?_) (fun c2 => ?_)
  · rw [if_neg c2] at h
    refine at_aload_n (i := 0) 0 16 rfl (by decide +kernel) rfl ?_
    refine at_iconst (n := 1) (1 : Int32) 17 rfl (by decide +kernel) (by decide +kernel) ?_
    refine at_putZ (index := 224) cok12 55 20 rfl (by decide +kernel) k1 (by decide +kernel) tw_1140 rfl rfl rfl (Or.inr rfl) (fun m3 e4 => ?_)
    replace h := h m3 e4
    have x5 : Ext m m3 := by rw [e4]; exact Ext.sI _ _ _ _
    have k6 : mK m3 t = 13 := x5.k k1 (by decide)
    exact at_vret rfl (by decide +kernel) h
  · rw [if_pos c2] at h
    refine at_aload_n (i := 0) 0 8 rfl (by decide +kernel) rfl ?_
    refine at_aload_n (i := 0) 0 9 rfl (by decide +kernel) rfl ?_
    refine at_get (index := 204) (v := .int (mI m t 51)) cok12 51 12 rfl (by decide +kernel) k1 (by decide +kernel) tw_1136 rfl ?_
    refine at_putI (index := 52) cok12 16 15 rfl (by decide +kernel) k1 (by decide +kernel) tw_1101 rfl rfl rfl (fun m7 e8 => ?_)
    replace h := h m7 e8
    have x9 : Ext m m7 := by rw [e8]; exact Ext.sI _ _ _ _
    have k10 : mK m7 t = 13 := x9.k k1 (by decide)
    refine at_aload_n (i := 0) 0 16 rfl (by decide +kernel) rfl ?_
    refine at_iconst (n := 1) (1 : Int32) 17 rfl (by decide +kernel) (by decide +kernel) ?_
    refine at_putZ (index := 224) cok12 55 20 rfl (by decide +kernel) k10 (by decide +kernel) tw_1140 rfl rfl rfl (Or.inr rfl) (fun m11 e12 => ?_)
    replace h := h m11 e12
    have x13 : Ext m7 m11 := by rw [e12]; exact Ext.sI _ _ _ _
    have k14 : mK m11 t = 13 := x13.k k10 (by decide)
    exact at_vret rfl (by decide +kernel) h
set_option maxRecDepth 20000 in
set_option maxHeartbeats 4000000 in
theorem en_RF_isSign (g : Gc) {lv : Nat} {t : Nat} {l1 : Int32} {m : Mm} {Q : Int32 → Mm → Prop} (h : mK m t = 13 ∧ (if (mI m t 55) = 0 then (if (mI m t 52) = ((3 : Int32)) then (CI g M_RF_at lv [va_rf (some t), .int (mI m t 51)] m (fun x4 m5 => (if (x4) = (l1) then (Q (1 : Int32) m5) else (Q (0 : Int32) m5)))) else (Q (0 : Int32) m)) else (Q (0 : Int32) m))) : CI g M_RF_isSign (lv + 1) [va_rf (some t), .int (l1)] m Q := by
  refine Call.of (by decide +kernel) (Nat.le_of_ble_eq_true rfl) ?_
  show At g M_RF_isSign (lv + 1) 0 [(0, va_rf (some t)), (1, .int (l1))] [] m (QI Q)
  refine at_aload_n (i := 0) 0 1 rfl (by decide +kernel) rfl ?_
  obtain ⟨k1, h⟩ := h
  refine at_get (index := 224) (v := .int (mI m t 55)) cok12 55 4 rfl (by decide +kernel) k1 (by decide +kernel) tw_1140 rfl ?_
  refine at_if_ne (off := 27) 31 7 rfl (by decide +kernel) (by decide +kernel) (fun c2 => ?_) (fun c2 => ?_)
  · rw [if_neg c2] at h
    refine at_iconst (n := 0) (0 : Int32) 32 rfl (by decide +kernel) (by decide +kernel) ?_
    exact at_zret rfl (by decide +kernel) (Or.inl rfl) h
  · rw [if_pos c2] at h
    refine at_aload_n (i := 0) 0 8 rfl (by decide +kernel) rfl ?_
    refine at_get (index := 207) (v := .int (mI m t 52)) cok12 52 11 rfl (by decide +kernel) k1 (by decide +kernel) tw_1137 rfl ?_
    refine at_iconst (n := 3) (3 : Int32) 12 rfl (by decide +kernel) (by decide +kernel) ?_
    refine at_icmp_ne (off := 19) 31 15 rfl (by decide +kernel) (by decide +kernel) (fun c3 => ?_) (fun c3 => ?_)
    · rw [if_neg c3] at h
      refine at_iconst (n := 0) (0 : Int32) 32 rfl (by decide +kernel) (by decide +kernel) ?_
      exact at_zret rfl (by decide +kernel) (Or.inl rfl) h
    · rw [if_pos c3] at h
      refine at_aload_n (i := 0) 0 16 rfl (by decide +kernel) rfl ?_
      refine at_aload_n (i := 0) 0 17 rfl (by decide +kernel) rfl ?_
      refine at_get (index := 204) (v := .int (mI m t 51)) cok12 51 20 rfl (by decide +kernel) k1 (by decide +kernel) tw_1136 rfl ?_
      refine at_callV mb_RF_at tw_1356 tw_35 cok12 k1 (index := 200) tw_1354 [.int (mI m t 51)] [] rfl rfl (by decide) 23 rfl (by decide +kernel) (Call.toI (CI.monoE h (fun x4 m5 h y6 => ?_)))
      have k7 : mK m5 t = 13 := y6.k k1 (by decide)
      refine at_iload_n (i := 1) 1 24 rfl (by decide +kernel) rfl ?_
      refine at_icmp_ne (off := 7) 31 27 rfl (by decide +kernel) (by decide +kernel) (fun c8 => ?_) (fun c8 => ?_)
      · rw [if_neg c8] at h
        refine at_iconst (n := 0) (0 : Int32) 32 rfl (by decide +kernel) (by decide +kernel) ?_
        exact at_zret rfl (by decide +kernel) (Or.inl rfl) h
      · rw [if_pos c8] at h
        refine at_iconst (n := 1) (1 : Int32) 28 rfl (by decide +kernel) (by decide +kernel) ?_
        refine at_goto (off := 4) 32 (by decide +kernel) (by decide +kernel) ?_
        exact at_zret rfl (by decide +kernel) (Or.inr rfl) h
set_option maxRecDepth 20000 in
set_option maxHeartbeats 4000000 in
theorem bk_RF_is_39 (g : Gc) {lv : Nat} {t : Nat} {l1 : Option Nat} {l2 : Int32} {l3 : Int32} {m : Mm} {Q : Int32 → Mm → Prop} (h : if (l2) = 0 then (b01 l2 ∧ (Q l2 m)) else (∃ i3, i3 < 13 ∧ l1 = some (gK g i3) ∧ (CI g M_String_length lv [va_rf (some (gK g i3))] m (fun x6 m7 => (if (x6) ≤ (l3) then (b01 l2 ∧ (Q l2 m7)) else (mK m7 t = 13 ∧ (CI g M_RF_at lv [va_rf (some t), .int ((mI m7 t 51) + l3)] m7 (fun x12 m13 => (CI g M_String_charAt lv [va_rf (some (gK g i3)), .int (l3)] m13 (fun x17 m18 => (if (x12) = (x17) then (At g M_RF_is (lv + 1) 39 [(0, va_rf (some t)), (1, va_rf (some (gK g i3))), (2, .int ((1 : Int32))), (3, .int (l3 + (1 : Int32)))] [] m18 (QI Q)) else (At g M_RF_is (lv + 1) 39 [(0, va_rf (some t)), (1, va_rf (some (gK g i3))), (2, .int ((0 : Int32))), (3, .int (l3 + (1 : Int32)))] [] m18 (QI Q))))))))))))) : At g M_RF_is (lv + 1) 39 [(0, va_rf (some t)), (1, va_rf (l1)), (2, .int (l2)), (3, .int (l3))] [] m (QI Q) := by
  refine at_iload_n (i := 2) 2 40 rfl (by decide +kernel) rfl ?_
  refine at_if_eq (off := 41) 81 43 rfl (by decide +kernel) (by decide +kernel) (fun c1 => ?_) (fun c1 => ?_)
  · rw [if_pos c1] at h
    refine at_iload_n (i := 2) 2 82 rfl (by decide +kernel) rfl ?_
    obtain ⟨d2, h⟩ := h
    exact at_zret rfl (by decide +kernel) d2 h
  · rw [if_neg c1] at h
    refine at_iload_n (i := 3) 3 44 rfl (by decide +kernel) rfl ?_
    refine at_aload_n (i := 1) 1 45 rfl (by decide +kernel) rfl ?_
    obtain ⟨i3, c4, e5, h⟩ := h
    subst e5
    refine at_callVS mb_String_length rfl tw_541 tw_542 c4 (index := 228) tw_1375 [] [.int (l3)] rfl rfl (by simp [va_rf_cat, cat_int, cat_long]) 48 rfl (by decide +kernel) (Call.toI (CI.monoE h (fun x6 m7 h y8 => ?_)))
    refine at_icmp_ge (off := 33) 81 51 rfl (by decide +kernel) (by decide +kernel) (fun c9 => ?_) (fun c9 => ?_)
    · rw [if_pos c9] at h
      refine at_iload_n (i := 2) 2 82 rfl (by decide +kernel) rfl ?_
      obtain ⟨d10, h⟩ := h
      exact at_zret rfl (by decide +kernel) d10 h
    · rw [if_neg c9] at h
      refine at_aload_n (i := 0) 0 52 rfl (by decide +kernel) rfl ?_
      refine at_aload_n (i := 0) 0 53 rfl (by decide +kernel) rfl ?_
      obtain ⟨k11, h⟩ := h
      refine at_get (index := 204) (v := .int (mI m7 t 51)) cok12 51 56 rfl (by decide +kernel) k11 (by decide +kernel) tw_1136 rfl ?_
      refine at_iload_n (i := 3) 3 57 rfl (by decide +kernel) rfl ?_
      refine at_iadd 58 rfl (by decide +kernel) ?_
      refine at_callV mb_RF_at tw_1356 tw_35 cok12 k11 (index := 200) tw_1354 [.int ((mI m7 t 51) + l3)] [] rfl rfl (by decide) 61 rfl (by decide +kernel) (Call.toI (CI.monoE h (fun x12 m13 h y14 => ?_)))
      have k15 : mK m13 t = 13 := y14.k k11 (by decide)
      refine at_aload_n (i := 1) 1 62 rfl (by decide +kernel) rfl ?_
      refine at_iload_n (i := 3) 3 63 rfl (by decide +kernel) rfl ?_
      have c16 : i3 < 13 := by first | assumption | decide
      refine at_callVS mb_String_charAt rfl tw_551 tw_552 c16 (index := 234) tw_1376 [.int (l3)] [.int (x12)] rfl rfl (by simp [va_rf_cat, cat_int, cat_long]) 66 rfl (by decide +kernel) (Call.toI (CI.monoE h (fun x17 m18 h y19 => ?_)))
      have k20 : mK m18 t = 13 := y19.k k15 (by decide)
      refine at_icmp_ne (off := 7) 73 69 rfl (by decide +kernel) (by decide +kernel) (fun c21 => ?_) (fun c21 => ?_)
      · rw [if_neg c21] at h
        refine at_iconst (n := 0) (0 : Int32) 74 rfl (by decide +kernel) (by decide +kernel) ?_
        refine at_istore_n (i := 2) (lc' := [(0, va_rf (some t)), (1, va_rf (some (gK g i3))), (2, .int ((0 : Int32))), (3, .int (l3))]) [1, 2, 0, 3] 75 rfl (by decide +kernel) (by decide +kernel) rfl ?_
        refine at_iinc (i := 3) (n := 1) (lc' := [(0, va_rf (some t)), (1, va_rf (some (gK g i3))), (2, .int ((0 : Int32))), (3, .int (l3 + (1 : Int32)))]) (l3 + (1 : Int32)) 3 [1, 2, 3, 0] 78 rfl (by decide +kernel) rfl (by rw [show Int32.ofInt 1 = (1 : Int32) from by decide +kernel]) (by decide +kernel) rfl ?_
        refine at_goto (off := (-39)) 39 (by decide +kernel) (by decide +kernel) ?_
        exact h
      · rw [if_pos c21] at h
        refine at_iconst (n := 1) (1 : Int32) 70 rfl (by decide +kernel) (by decide +kernel) ?_
        refine at_goto (off := 4) 74 (by decide +kernel) (by decide +kernel) ?_
        refine at_istore_n (i := 2) (lc' := [(0, va_rf (some t)), (1, va_rf (some (gK g i3))), (2, .int ((1 : Int32))), (3, .int (l3))]) [1, 2, 0, 3] 75 rfl (by decide +kernel) (by decide +kernel) rfl ?_
        refine at_iinc (i := 3) (n := 1) (lc' := [(0, va_rf (some t)), (1, va_rf (some (gK g i3))), (2, .int ((1 : Int32))), (3, .int (l3 + (1 : Int32)))]) (l3 + (1 : Int32)) 3 [1, 2, 3, 0] 78 rfl (by decide +kernel) rfl (by rw [show Int32.ofInt 1 = (1 : Int32) from by decide +kernel]) (by decide +kernel) rfl ?_
        refine at_goto (off := (-39)) 39 (by decide +kernel) (by decide +kernel) ?_
        exact h
set_option maxRecDepth 20000 in
set_option maxHeartbeats 4000000 in
theorem en_RF_is (g : Gc) {lv : Nat} {t : Nat} {l1 : Option Nat} {m : Mm} {Q : Int32 → Mm → Prop} (h : mK m t = 13 ∧ (if (mI m t 55) = 0 then (if (mI m t 52) = ((1 : Int32)) then (∃ i4, i4 < 13 ∧ l1 = some (gK g i4) ∧ (CI g M_String_length lv [va_rf (some (gK g i4))] m (fun x7 m8 => (if ((mI m t 50) - (mI m t 51)) = (x7) then (At g M_RF_is (lv + 1) 39 [(0, va_rf (some t)), (1, va_rf (some (gK g i4))), (2, .int ((1 : Int32))), (3, .int ((0 : Int32)))] [] m8 (QI Q)) else (At g M_RF_is (lv + 1) 39 [(0, va_rf (some t)), (1, va_rf (some (gK g i4))), (2, .int ((0 : Int32))), (3, .int ((0 : Int32)))] [] m8 (QI Q)))))) else (At g M_RF_is (lv + 1) 39 [(0, va_rf (some t)), (1, va_rf (l1)), (2, .int ((0 : Int32))), (3, .int ((0 : Int32)))] [] m (QI Q))) else (At g M_RF_is (lv + 1) 39 [(0, va_rf (some t)), (1, va_rf (l1)), (2, .int ((0 : Int32))), (3, .int ((0 : Int32)))] [] m (QI Q)))) : CI g M_RF_is (lv + 1) [va_rf (some t), va_rf (l1)] m Q := by
  refine Call.of (by decide +kernel) (by simp [lg_sl, va_rf_cat, cat_int, cat_long, M_RF_is]) ?_
  rw [show lv_args 0 [va_rf (some t), va_rf (l1)] = [(0, va_rf (some t)), (1, va_rf (l1))] from by simp [lv_args, va_rf_cat, cat_int, cat_long]]
  refine at_aload_n (i := 0) 0 1 rfl (by decide +kernel) rfl ?_
  obtain ⟨k1, h⟩ := h
  refine at_get (index := 224) (v := .int (mI m t 55)) cok12 55 4 rfl (by decide +kernel) k1 (by decide +kernel) tw_1140 rfl ?_
  refine at_if_ne (off := 31) 35 7 rfl (by decide +kernel) (by decide +kernel) (fun c2 => ?_) (fun c2 => ?_)
  · rw [if_neg c2] at h
    refine at_iconst (n := 0) (0 : Int32) 36 rfl (by decide +kernel) (by decide +kernel) ?_
    refine at_istore_n (i := 2) (lc' := [(0, va_rf (some t)), (1, va_rf (l1)), (2, .int ((0 : Int32)))]) [1, 2, 0] 37 rfl (by decide +kernel) (by decide +kernel) (by generalize l1 = rr; cases rr <;> rfl) ?_
    refine at_iconst (n := 0) (0 : Int32) 38 rfl (by decide +kernel) (by decide +kernel) ?_
    refine at_istore_n (i := 3) (lc' := [(0, va_rf (some t)), (1, va_rf (l1)), (2, .int ((0 : Int32))), (3, .int ((0 : Int32)))]) [1, 2, 3, 0] 39 rfl (by decide +kernel) (by decide +kernel) rfl ?_
    exact h
  · rw [if_pos c2] at h
    refine at_aload_n (i := 0) 0 8 rfl (by decide +kernel) rfl ?_
    refine at_get (index := 207) (v := .int (mI m t 52)) cok12 52 11 rfl (by decide +kernel) k1 (by decide +kernel) tw_1137 rfl ?_
    refine at_iconst (n := 1) (1 : Int32) 12 rfl (by decide +kernel) (by decide +kernel) ?_
    refine at_icmp_ne (off := 23) 35 15 rfl (by decide +kernel) (by decide +kernel) (fun c3 => ?_) (fun c3 => ?_)
    · rw [if_neg c3] at h
      refine at_iconst (n := 0) (0 : Int32) 36 rfl (by decide +kernel) (by decide +kernel) ?_
      refine at_istore_n (i := 2) (lc' := [(0, va_rf (some t)), (1, va_rf (l1)), (2, .int ((0 : Int32)))]) [1, 2, 0] 37 rfl (by decide +kernel) (by decide +kernel) (by generalize l1 = rr; cases rr <;> rfl) ?_
      refine at_iconst (n := 0) (0 : Int32) 38 rfl (by decide +kernel) (by decide +kernel) ?_
      refine at_istore_n (i := 3) (lc' := [(0, va_rf (some t)), (1, va_rf (l1)), (2, .int ((0 : Int32))), (3, .int ((0 : Int32)))]) [1, 2, 3, 0] 39 rfl (by decide +kernel) (by decide +kernel) rfl ?_
      exact h
    · rw [if_pos c3] at h
      refine at_aload_n (i := 0) 0 16 rfl (by decide +kernel) rfl ?_
      refine at_get (index := 197) (v := .int (mI m t 50)) cok12 50 19 rfl (by decide +kernel) k1 (by decide +kernel) tw_1135 rfl ?_
      refine at_aload_n (i := 0) 0 20 rfl (by decide +kernel) rfl ?_
      refine at_get (index := 204) (v := .int (mI m t 51)) cok12 51 23 rfl (by decide +kernel) k1 (by decide +kernel) tw_1136 rfl ?_
      refine at_isub 24 rfl (by decide +kernel) ?_
      refine at_aload_n (i := 1) 1 25 rfl (by decide +kernel) rfl ?_
      obtain ⟨i4, c5, e6, h⟩ := h
      subst e6
      refine at_callVS mb_String_length rfl tw_541 tw_542 c5 (index := 228) tw_1375 [] [.int ((mI m t 50) - (mI m t 51))] rfl rfl (by simp [va_rf_cat, cat_int, cat_long]) 28 rfl (by decide +kernel) (Call.toI (CI.monoE h (fun x7 m8 h y9 => ?_)))
      have k10 : mK m8 t = 13 := y9.k k1 (by decide)
      refine at_icmp_ne (off := 7) 35 31 rfl (by decide +kernel) (by decide +kernel) (fun c11 => ?_) (fun c11 => ?_)
      · rw [if_neg c11] at h
        refine at_iconst (n := 0) (0 : Int32) 36 rfl (by decide +kernel) (by decide +kernel) ?_
        refine at_istore_n (i := 2) (lc' := [(0, va_rf (some t)), (1, va_rf (some (gK g i4))), (2, .int ((0 : Int32)))]) [1, 2, 0] 37 rfl (by decide +kernel) (by decide +kernel) rfl ?_
        refine at_iconst (n := 0) (0 : Int32) 38 rfl (by decide +kernel) (by decide +kernel) ?_
        refine at_istore_n (i := 3) (lc' := [(0, va_rf (some t)), (1, va_rf (some (gK g i4))), (2, .int ((0 : Int32))), (3, .int ((0 : Int32)))]) [1, 2, 3, 0] 39 rfl (by decide +kernel) (by decide +kernel) rfl ?_
        exact h
      · rw [if_pos c11] at h
        refine at_iconst (n := 1) (1 : Int32) 32 rfl (by decide +kernel) (by decide +kernel) ?_
        refine at_goto (off := 4) 36 (by decide +kernel) (by decide +kernel) ?_
        refine at_istore_n (i := 2) (lc' := [(0, va_rf (some t)), (1, va_rf (some (gK g i4))), (2, .int ((1 : Int32)))]) [1, 2, 0] 37 rfl (by decide +kernel) (by decide +kernel) rfl ?_
        refine at_iconst (n := 0) (0 : Int32) 38 rfl (by decide +kernel) (by decide +kernel) ?_
        refine at_istore_n (i := 3) (lc' := [(0, va_rf (some t)), (1, va_rf (some (gK g i4))), (2, .int ((1 : Int32))), (3, .int ((0 : Int32)))]) [1, 2, 3, 0] 39 rfl (by decide +kernel) (by decide +kernel) rfl ?_
        exact h
set_option maxRecDepth 20000 in
set_option maxHeartbeats 4000000 in
theorem en_RF_numberOf (g : Gc) {lv : Nat} {t : Nat} {m : Mm} {Q : Int32 → Mm → Prop} (h : mK m t = 13 ∧ (if (mI m t 55) = 0 then (if (mI m t 52) = ((2 : Int32)) then (CV g M_RF_next lv [va_rf (some t)] m (fun m7 => (Q ((mL m t 54).toInt32) m7))) else (CV g M_RF_bad lv [va_rf (some t)] m (fun m10 => (Q (0 : Int32) m10)))) else (CV g M_RF_bad lv [va_rf (some t)] m (fun m3 => (Q (0 : Int32) m3))))) : CI g M_RF_numberOf (lv + 1) [va_rf (some t)] m Q := by
  refine Call.of (by decide +kernel) (Nat.le_of_ble_eq_true rfl) ?_
  show At g M_RF_numberOf (lv + 1) 0 [(0, va_rf (some t))] [] m (QI Q)
  refine at_aload_n (i := 0) 0 1 rfl (by decide +kernel) rfl ?_
  obtain ⟨k1, h⟩ := h
  refine at_get (index := 224) (v := .int (mI m t 55)) cok12 55 4 rfl (by decide +kernel) k1 (by decide +kernel) tw_1140 rfl ?_
  refine at_if_ne (off := 11) 15 7 rfl (by decide +kernel) (by decide +kernel) (fun c2 => ?_) (fun c2 => ?_)
  · rw [if_neg c2] at h
    refine at_aload_n (i := 0) 0 16 rfl (by decide +kernel) rfl ?_
    refine at_callV mb_RF_bad tw_1383 tw_38 cok12 k1 (index := 238) tw_1381 [] [] rfl rfl (by decide) 19 rfl (by decide +kernel) (Call.toV (CV.monoE h (fun m3 h y4 => ?_)))
    have k5 : mK m3 t = 13 := y4.k k1 (by decide)
    refine at_iconst (n := 0) (0 : Int32) 20 rfl (by decide +kernel) (by decide +kernel) ?_
    exact at_iret rfl (by decide +kernel) h
  · rw [if_pos c2] at h
    refine at_aload_n (i := 0) 0 8 rfl (by decide +kernel) rfl ?_
    refine at_get (index := 207) (v := .int (mI m t 52)) cok12 52 11 rfl (by decide +kernel) k1 (by decide +kernel) tw_1137 rfl ?_
    refine at_iconst (n := 2) (2 : Int32) 12 rfl (by decide +kernel) (by decide +kernel) ?_
    refine at_icmp_eq (off := 9) 21 15 rfl (by decide +kernel) (by decide +kernel) (fun c6 => ?_) (fun c6 => ?_)
    · rw [if_pos c6] at h
      refine at_aload_n (i := 0) 0 22 rfl (by decide +kernel) rfl ?_
      refine at_get (index := 216) (v := .long (mL m t 54)) cok12 54 25 rfl (by decide +kernel) k1 (by decide +kernel) tw_1139 rfl ?_
      refine at_l2i 26 rfl (by decide +kernel) ?_
      refine at_istore_n (i := 1) (lc' := [(0, va_rf (some t)), (1, .int ((mL m t 54).toInt32))]) [1, 0] 27 rfl (by decide +kernel) (by decide +kernel) rfl ?_
      refine at_aload_n (i := 0) 0 28 rfl (by decide +kernel) rfl ?_
      refine at_callV mb_RF_next tw_1352 tw_34 cok12 k1 (index := 241) tw_1350 [] [] rfl rfl (by decide) 31 rfl (by decide +kernel) (Call.toV (CV.monoE h (fun m7 h y8 => ?_)))
      have k9 : mK m7 t = 13 := y8.k k1 (by decide)
      refine at_iload_n (i := 1) 1 32 rfl (by decide +kernel) rfl ?_
      exact at_iret rfl (by decide +kernel) h
    · rw [if_neg c6] at h
      refine at_aload_n (i := 0) 0 16 rfl (by decide +kernel) rfl ?_
      refine at_callV mb_RF_bad tw_1383 tw_38 cok12 k1 (index := 238) tw_1381 [] [] rfl rfl (by decide) 19 rfl (by decide +kernel) (Call.toV (CV.monoE h (fun m10 h y11 => ?_)))
      have k12 : mK m10 t = 13 := y11.k k1 (by decide)
      refine at_iconst (n := 0) (0 : Int32) 20 rfl (by decide +kernel) (by decide +kernel) ?_
      exact at_iret rfl (by decide +kernel) h
set_option maxRecDepth 20000 in
set_option maxHeartbeats 4000000 in
theorem bk_RF_factor_105 (g : Gc) {lv : Nat} {t : Nat} {s0 : Int32} {m : Mm} {Q : Int64 → Mm → Prop} (h : if (s0) = ((-1 : Int32)) then (mK m t = 13 ∧ (CI g M_RF_isSign lv [va_rf (some t), .int ((40 : Int32))] m (fun x3 m4 => (if (x3) = 0 then (CV g M_RF_bad lv [va_rf (some t)] m4 (fun m8 => (Q (0 : Int64) m8))) else (if (mI m4 t 53) = ((8 : Int32)) then (CV g M_RF_bad lv [va_rf (some t)] m4 (fun m38 => (Q (0 : Int64) m38))) else (∀ m12, m12 = sI m4 t 53 ((mI m4 t 53) + (1 : Int32)) → (CV g M_RF_next lv [va_rf (some t)] m12 (fun m16 => (CJ g M_RF_sum_ lv [va_rf (some t)] m16 (fun x19 m20 => (CI g M_RF_isSign lv [va_rf (some t), .int ((41 : Int32))] m20 (fun x23 m24 => (if (x23) = 0 then (CV g M_RF_bad lv [va_rf (some t)] m24 (fun m35 => (Q (0 : Int64) m35))) else (∀ m28, m28 = sI m24 t 53 ((mI m24 t 53) - (1 : Int32)) → (CV g M_RF_next lv [va_rf (some t)] m28 (fun m32 => (Q x19 m32))))))))))))))))) else (mK m t = 13 ∧ (CV g M_RF_next lv [va_rf (some t)] m (fun m42 => (∃ b45, mR m42 t 56 = some b45 ∧ (mK m42 b45 = 16 ∧ (vp_in s0 (mN m42 b45) ∧ (Q (mL m42 b45 s0.toNatClampNeg) m42)))))))) : At g M_RF_factor (lv + 1) 105 [(0, va_rf (some t))] [.int (s0)] m (QJ Q) := by
  refine at_istore_n (i := 1) (lc' := [(0, va_rf (some t)), (1, .int (s0))]) [1, 0] 106 rfl (by decide +kernel) (by decide +kernel) rfl ?_
  refine at_iload_n (i := 1) 1 107 rfl (by decide +kernel) rfl ?_
  refine at_iconst (n := (-1)) (-1 : Int32) 108 rfl (by decide +kernel) (by decide +kernel) ?_
  refine at_icmp_eq (off := 14) 122 111 rfl (by decide +kernel) (by decide +kernel) (fun c1 => ?_) (fun c1 => ?_)
  · rw [if_pos c1] at h
    refine at_aload_n (i := 0) 0 123 rfl (by decide +kernel) rfl ?_
    refine at_bipush (n := 40) (40 : Int32) 125 rfl (by decide +kernel) (by decide +kernel) ?_
    obtain ⟨k2, h⟩ := h
    refine at_callV mb_RF_isSign tw_1411 tw_43 cok12 k2 (index := 260) tw_1409 [.int ((40 : Int32))] [] rfl rfl (by decide) 128 rfl (by decide +kernel) (Call.toI (CI.monoE h (fun x3 m4 h y5 => ?_)))
    have k6 : mK m4 t = 13 := y5.k k2 (by decide)
    refine at_if_eq (off := 12) 140 131 rfl (by decide +kernel) (by decide +kernel) (fun c7 => ?_) (fun c7 => ?_)
    · rw [if_pos c7] at h
      refine at_aload_n (i := 0) 0 141 rfl (by decide +kernel) rfl ?_
      refine at_callV mb_RF_bad tw_1383 tw_38 cok12 k6 (index := 238) tw_1381 [] [] rfl rfl (by decide) 144 rfl (by decide +kernel) (Call.toV (CV.monoE h (fun m8 h y9 => ?_)))
      have k10 : mK m8 t = 13 := y9.k k6 (by decide)
      refine at_lconst (n := 0) (0 : Int64) 145 rfl (by decide +kernel) (by decide +kernel) ?_
      exact at_lret rfl (by decide +kernel) h
    · rw [if_neg c7] at h
      refine at_aload_n (i := 0) 0 132 rfl (by decide +kernel) rfl ?_
      refine at_get (index := 263) (v := .int (mI m4 t 53)) cok12 53 135 rfl (by decide +kernel) k6 (by decide +kernel) tw_1138 rfl ?_
      refine at_bipush (n := 8) (8 : Int32) 137 rfl (by decide +kernel) (by decide +kernel) ?_
      refine at_icmp_ne (off := 9) 146 140 rfl (by decide +kernel) (by decide +kernel) (fun c11 => ?_) (fun c11 => ?_)
      · rw [if_neg c11] at h
        refine at_aload_n (i := 0) 0 147 rfl (by decide +kernel) rfl ?_
        refine at_dup 148 rfl (by decide +kernel) (va_rf_cat _) ?_
        refine at_get (index := 263) (v := .int (mI m4 t 53)) cok12 53 151 rfl (by decide +kernel) k6 (by decide +kernel) tw_1138 rfl ?_
        refine at_iconst (n := 1) (1 : Int32) 152 rfl (by decide +kernel) (by decide +kernel) ?_
        refine at_iadd 153 rfl (by decide +kernel) ?_
        refine at_putI (index := 263) cok12 53 156 rfl (by decide +kernel) k6 (by decide +kernel) tw_1138 rfl rfl rfl (fun m12 e13 => ?_)
        replace h := h m12 e13
        have x14 : Ext m4 m12 := by rw [e13]; exact Ext.sI _ _ _ _
        have k15 : mK m12 t = 13 := x14.k k6 (by decide)
        refine at_aload_n (i := 0) 0 157 rfl (by decide +kernel) rfl ?_
        refine at_callV mb_RF_next tw_1352 tw_34 cok12 k15 (index := 241) tw_1350 [] [] rfl rfl (by decide) 160 rfl (by decide +kernel) (Call.toV (CV.monoE h (fun m16 h y17 => ?_)))
        have k18 : mK m16 t = 13 := y17.k k15 (by decide)
        refine at_aload_n (i := 0) 0 161 rfl (by decide +kernel) rfl ?_
        refine at_callV mb_RF_sum_ tw_1393 tw_40 cok12 k18 (index := 266) tw_1391 [] [] rfl rfl (by decide) 164 rfl (by decide +kernel) (Call.toJ (CJ.monoE h (fun x19 m20 h y21 => ?_)))
        have k22 : mK m20 t = 13 := y21.k k18 (by decide)
        refine at_lstore_n (i := 2) (lc' := [(0, va_rf (some t)), (2, .long (x19))]) [1, 0] 165 rfl (by decide +kernel) (by decide +kernel) rfl ?_
        refine at_aload_n (i := 0) 0 166 rfl (by decide +kernel) rfl ?_
        refine at_bipush (n := 41) (41 : Int32) 168 rfl (by decide +kernel) (by decide +kernel) ?_
        refine at_callV mb_RF_isSign tw_1411 tw_43 cok12 k22 (index := 260) tw_1409 [.int ((41 : Int32))] [] rfl rfl (by decide) 171 rfl (by decide +kernel) (Call.toI (CI.monoE h (fun x23 m24 h y25 => ?_)))
        have k26 : mK m24 t = 13 := y25.k k22 (by decide)
        refine at_if_ne (off := 9) 180 174 rfl (by decide +kernel) (by decide +kernel) (fun c27 => ?_) (fun c27 => ?_)
        · rw [if_neg c27] at h
          refine at_aload_n (i := 0) 0 181 rfl (by decide +kernel) rfl ?_
          refine at_dup 182 rfl (by decide +kernel) (va_rf_cat _) ?_
          refine at_get (index := 263) (v := .int (mI m24 t 53)) cok12 53 185 rfl (by decide +kernel) k26 (by decide +kernel) tw_1138 rfl ?_
          refine at_iconst (n := 1) (1 : Int32) 186 rfl (by decide +kernel) (by decide +kernel) ?_
          refine at_isub 187 rfl (by decide +kernel) ?_
          refine at_putI (index := 263) cok12 53 190 rfl (by decide +kernel) k26 (by decide +kernel) tw_1138 rfl rfl rfl (fun m28 e29 => ?_)
          replace h := h m28 e29
          have x30 : Ext m24 m28 := by rw [e29]; exact Ext.sI _ _ _ _
          have k31 : mK m28 t = 13 := x30.k k26 (by decide)
          refine at_aload_n (i := 0) 0 191 rfl (by decide +kernel) rfl ?_
          refine at_callV mb_RF_next tw_1352 tw_34 cok12 k31 (index := 241) tw_1350 [] [] rfl rfl (by decide) 194 rfl (by decide +kernel) (Call.toV (CV.monoE h (fun m32 h y33 => ?_)))
          have k34 : mK m32 t = 13 := y33.k k31 (by decide)
          refine at_lload_n (i := 2) 1 195 rfl (by decide +kernel) rfl ?_
          exact at_lret rfl (by decide +kernel) h
        · rw [if_pos c27] at h
          refine at_aload_n (i := 0) 0 175 rfl (by decide +kernel) rfl ?_
          refine at_callV mb_RF_bad tw_1383 tw_38 cok12 k26 (index := 238) tw_1381 [] [] rfl rfl (by decide) 178 rfl (by decide +kernel) (Call.toV (CV.monoE h (fun m35 h y36 => ?_)))
          have k37 : mK m35 t = 13 := y36.k k26 (by decide)
          refine at_lconst (n := 0) (0 : Int64) 179 rfl (by decide +kernel) (by decide +kernel) ?_
          exact at_lret rfl (by decide +kernel) h
      · rw [if_pos c11] at h
        refine at_aload_n (i := 0) 0 141 rfl (by decide +kernel) rfl ?_
        refine at_callV mb_RF_bad tw_1383 tw_38 cok12 k6 (index := 238) tw_1381 [] [] rfl rfl (by decide) 144 rfl (by decide +kernel) (Call.toV (CV.monoE h (fun m38 h y39 => ?_)))
        have k40 : mK m38 t = 13 := y39.k k6 (by decide)
        refine at_lconst (n := 0) (0 : Int64) 145 rfl (by decide +kernel) (by decide +kernel) ?_
        exact at_lret rfl (by decide +kernel) h
  · rw [if_neg c1] at h
    refine at_aload_n (i := 0) 0 112 rfl (by decide +kernel) rfl ?_
    obtain ⟨k41, h⟩ := h
    refine at_callV mb_RF_next tw_1352 tw_34 cok12 k41 (index := 241) tw_1350 [] [] rfl rfl (by decide) 115 rfl (by decide +kernel) (Call.toV (CV.monoE h (fun m42 h y43 => ?_)))
    have k44 : mK m42 t = 13 := y43.k k41 (by decide)
    refine at_aload_n (i := 0) 0 116 rfl (by decide +kernel) rfl ?_
    refine at_get (index := 143) (v := va_rf (mR m42 t 56)) cok12 56 119 rfl (by decide +kernel) k44 (by decide +kernel) tw_1141 rfl ?_
    obtain ⟨b45, e46, h⟩ := h
    rw [e46]
    refine at_iload_n (i := 1) 1 120 rfl (by decide +kernel) rfl ?_
    obtain ⟨k47, h⟩ := h
    obtain ⟨v48, h⟩ := h
    refine at_lald 121 rfl (by decide +kernel) k47 v48 ?_
    exact at_lret rfl (by decide +kernel) h
set_option maxRecDepth 20000 in
set_option maxHeartbeats 4000000 in
theorem en_RF_factor (g : Gc) {lv : Nat} {t : Nat} {m : Mm} {Q : Int64 → Mm → Prop} (h : mK m t = 13 ∧ (if (mI m t 55) = 0 then (if (mI m t 52) = ((2 : Int32)) then (CI g M_RF_numberOf lv [va_rf (some t)] m (fun x34 m35 => (Q x34.toInt64 m35))) else (CI g M_RF_is lv [va_rf (some t), va_rf (some (gK g 7))] m (fun x4 m5 => (if (x4) = 0 then (CI g M_RF_is lv [va_rf (some t), va_rf (some (gK g 8))] m5 (fun x9 m10 => (if (x9) = 0 then (CI g M_RF_is lv [va_rf (some t), va_rf (some (gK g 9))] m10 (fun x14 m15 => (if (x14) = 0 then (CI g M_RF_is lv [va_rf (some t), va_rf (some (gK g 10))] m15 (fun x19 m20 => (if (x19) = 0 then (CI g M_RF_is lv [va_rf (some t), va_rf (some (gK g 11))] m20 (fun x24 m25 => (if (x24) = 0 then (CI g M_RF_is lv [va_rf (some t), va_rf (some (gK g 12))] m25 (fun x29 m30 => (if (x29) = 0 then (At g M_RF_factor (lv + 1) 105 [(0, va_rf (some t))] [.int ((-1 : Int32))] m30 (QJ Q)) else (At g M_RF_factor (lv + 1) 105 [(0, va_rf (some t))] [.int ((5 : Int32))] m30 (QJ Q))))) else (At g M_RF_factor (lv + 1) 105 [(0, va_rf (some t))] [.int ((4 : Int32))] m25 (QJ Q))))) else (At g M_RF_factor (lv + 1) 105 [(0, va_rf (some t))] [.int ((3 : Int32))] m20 (QJ Q))))) else (At g M_RF_factor (lv + 1) 105 [(0, va_rf (some t))] [.int ((2 : Int32))] m15 (QJ Q))))) else (At g M_RF_factor (lv + 1) 105 [(0, va_rf (some t))] [.int ((1 : Int32))] m10 (QJ Q))))) else (At g M_RF_factor (lv + 1) 105 [(0, va_rf (some t))] [.int ((0 : Int32))] m5 (QJ Q)))))) else (Q (0 : Int64) m))) : CJ g M_RF_factor (lv + 1) [va_rf (some t)] m Q := by
  refine Call.of (by decide +kernel) (Nat.le_of_ble_eq_true rfl) ?_
  show At g M_RF_factor (lv + 1) 0 [(0, va_rf (some t))] [] m (QJ Q)
  refine at_aload_n (i := 0) 0 1 rfl (by decide +kernel) rfl ?_
  obtain ⟨k1, h⟩ := h
  refine at_get (index := 224) (v := .int (mI m t 55)) cok12 55 4 rfl (by decide +kernel) k1 (by decide +kernel) tw_1140 rfl ?_
  refine at_if_eq (off := 5) 9 7 rfl (by decide +kernel) (by decide +kernel) (fun c2 => ?_) (fun c2 => ?_)
  · rw [if_pos c2] at h
    refine at_aload_n (i := 0) 0 10 rfl (by decide +kernel) rfl ?_
    refine at_get (index := 207) (v := .int (mI m t 52)) cok12 52 13 rfl (by decide +kernel) k1 (by decide +kernel) tw_1137 rfl ?_
    refine at_iconst (n := 2) (2 : Int32) 14 rfl (by decide +kernel) (by decide +kernel) ?_
    refine at_icmp_ne (off := 9) 23 17 rfl (by decide +kernel) (by decide +kernel) (fun c3 => ?_) (fun c3 => ?_)
    · rw [if_neg c3] at h
      refine at_aload_n (i := 0) 0 24 rfl (by decide +kernel) rfl ?_
      refine at_ldcS (index := 247) "crop" 7 26 rfl (by decide +kernel) (by decide +kernel) ?_
      refine at_callV mb_RF_is tw_1373 tw_37 cok12 k1 (index := 249) tw_1371 [va_rf (some (gK g 7))] [] rfl rfl (by decide) 29 rfl (by decide +kernel) (Call.toI (CI.monoE h (fun x4 m5 h y6 => ?_)))
      have k7 : mK m5 t = 13 := y6.k k1 (by decide)
      refine at_if_eq (off := 7) 36 32 rfl (by decide +kernel) (by decide +kernel) (fun c8 => ?_) (fun c8 => ?_)
      · rw [if_pos c8] at h
        refine at_aload_n (i := 0) 0 37 rfl (by decide +kernel) rfl ?_
        refine at_ldcS (index := 252) "store" 8 39 rfl (by decide +kernel) (by decide +kernel) ?_
        refine at_callV mb_RF_is tw_1373 tw_37 cok12 k7 (index := 249) tw_1371 [va_rf (some (gK g 8))] [] rfl rfl (by decide) 42 rfl (by decide +kernel) (Call.toI (CI.monoE h (fun x9 m10 h y11 => ?_)))
        have k12 : mK m10 t = 13 := y11.k k7 (by decide)
        refine at_if_eq (off := 7) 49 45 rfl (by decide +kernel) (by decide +kernel) (fun c13 => ?_) (fun c13 => ?_)
        · rw [if_pos c13] at h
          refine at_aload_n (i := 0) 0 50 rfl (by decide +kernel) rfl ?_
          refine at_ldcS (index := 254) "old" 9 52 rfl (by decide +kernel) (by decide +kernel) ?_
          refine at_callV mb_RF_is tw_1373 tw_37 cok12 k12 (index := 249) tw_1371 [va_rf (some (gK g 9))] [] rfl rfl (by decide) 55 rfl (by decide +kernel) (Call.toI (CI.monoE h (fun x14 m15 h y16 => ?_)))
          have k17 : mK m15 t = 13 := y16.k k12 (by decide)
          refine at_if_eq (off := 7) 62 58 rfl (by decide +kernel) (by decide +kernel) (fun c18 => ?_) (fun c18 => ?_)
          · rw [if_pos c18] at h
            refine at_aload_n (i := 0) 0 63 rfl (by decide +kernel) rfl ?_
            refine at_ldcwS (index := 256) "price" 10 66 rfl (by decide +kernel) (by decide +kernel) ?_
            refine at_callV mb_RF_is tw_1373 tw_37 cok12 k17 (index := 249) tw_1371 [va_rf (some (gK g 10))] [] rfl rfl (by decide) 69 rfl (by decide +kernel) (Call.toI (CI.monoE h (fun x19 m20 h y21 => ?_)))
            have k22 : mK m20 t = 13 := y21.k k17 (by decide)
            refine at_if_eq (off := 7) 76 72 rfl (by decide +kernel) (by decide +kernel) (fun c23 => ?_) (fun c23 => ?_)
            · rw [if_pos c23] at h
              refine at_aload_n (i := 0) 0 77 rfl (by decide +kernel) rfl ?_
              refine at_ldcwS (index := 257) "want" 11 80 rfl (by decide +kernel) (by decide +kernel) ?_
              refine at_callV mb_RF_is tw_1373 tw_37 cok12 k22 (index := 249) tw_1371 [va_rf (some (gK g 11))] [] rfl rfl (by decide) 83 rfl (by decide +kernel) (Call.toI (CI.monoE h (fun x24 m25 h y26 => ?_)))
              have k27 : mK m25 t = 13 := y26.k k22 (by decide)
              refine at_if_eq (off := 7) 90 86 rfl (by decide +kernel) (by decide +kernel) (fun c28 => ?_) (fun c28 => ?_)
              · rw [if_pos c28] at h
                refine at_aload_n (i := 0) 0 91 rfl (by decide +kernel) rfl ?_
                refine at_ldcwS (index := 259) "year" 12 94 rfl (by decide +kernel) (by decide +kernel) ?_
                refine at_callV mb_RF_is tw_1373 tw_37 cok12 k27 (index := 249) tw_1371 [va_rf (some (gK g 12))] [] rfl rfl (by decide) 97 rfl (by decide +kernel) (Call.toI (CI.monoE h (fun x29 m30 h y31 => ?_)))
                have k32 : mK m30 t = 13 := y31.k k27 (by decide)
                refine at_if_eq (off := 7) 104 100 rfl (by decide +kernel) (by decide +kernel) (fun c33 => ?_) (fun c33 => ?_)
                · rw [if_pos c33] at h
                  refine at_iconst (n := (-1)) (-1 : Int32) 105 rfl (by decide +kernel) (by decide +kernel) ?_
                  exact h
                · rw [if_neg c33] at h
                  refine at_iconst (n := 5) (5 : Int32) 101 rfl (by decide +kernel) (by decide +kernel) ?_
                  refine at_goto (off := 4) 105 (by decide +kernel) (by decide +kernel) ?_
                  exact h
              · rw [if_neg c28] at h
                refine at_iconst (n := 4) (4 : Int32) 87 rfl (by decide +kernel) (by decide +kernel) ?_
                refine at_goto (off := 18) 105 (by decide +kernel) (by decide +kernel) ?_
                exact h
            · rw [if_neg c23] at h
              refine at_iconst (n := 3) (3 : Int32) 73 rfl (by decide +kernel) (by decide +kernel) ?_
              refine at_goto (off := 32) 105 (by decide +kernel) (by decide +kernel) ?_
              exact h
          · rw [if_neg c18] at h
            refine at_iconst (n := 2) (2 : Int32) 59 rfl (by decide +kernel) (by decide +kernel) ?_
            refine at_goto (off := 46) 105 (by decide +kernel) (by decide +kernel) ?_
            exact h
        · rw [if_neg c13] at h
          refine at_iconst (n := 1) (1 : Int32) 46 rfl (by decide +kernel) (by decide +kernel) ?_
          refine at_goto (off := 59) 105 (by decide +kernel) (by decide +kernel) ?_
          exact h
      · rw [if_neg c8] at h
        refine at_iconst (n := 0) (0 : Int32) 33 rfl (by decide +kernel) (by decide +kernel) ?_
        refine at_goto (off := 72) 105 (by decide +kernel) (by decide +kernel) ?_
        exact h
    · rw [if_pos c3] at h
      refine at_aload_n (i := 0) 0 18 rfl (by decide +kernel) rfl ?_
      refine at_callV mb_RF_numberOf tw_1387 tw_39 cok12 k1 (index := 244) tw_1385 [] [] rfl rfl (by decide) 21 rfl (by decide +kernel) (Call.toI (CI.monoE h (fun x34 m35 h y36 => ?_)))
      have k37 : mK m35 t = 13 := y36.k k1 (by decide)
      refine at_i2l 22 rfl (by decide +kernel) ?_
      exact at_lret rfl (by decide +kernel) h
  · rw [if_neg c2] at h
    refine at_lconst (n := 0) (0 : Int64) 8 rfl (by decide +kernel) (by decide +kernel) ?_
    exact at_lret rfl (by decide +kernel) h
set_option maxRecDepth 20000 in
set_option maxHeartbeats 4000000 in
theorem bk_RF_term_23 (g : Gc) {lv : Nat} {t : Nat} {l1 : Int64} {m : Mm} {Q : Int64 → Mm → Prop} (h : mK m t = 13 ∧ (CI g M_RF_isSign lv [va_rf (some t), .int ((42 : Int32))] m (fun x2 m3 => (CV g M_RF_next lv [va_rf (some t)] m3 (fun m6 => (CJ g M_RF_factor lv [va_rf (some t)] m6 (fun x9 m10 => (if (x2) = 0 then (if (x9) = ((0 : Int64)) then (At g M_RF_term (lv + 1) 5 [(0, va_rf (some t)), (1, .long ((0 : Int64)))] [] m10 (QJ Q)) else (if (x9) = ((-1 : Int64)) then (At g M_RF_term (lv + 1) 5 [(0, va_rf (some t)), (1, .long (-l1))] [] m10 (QJ Q)) else (¬ x9 = 0 ∧ (At g M_RF_term (lv + 1) 5 [(0, va_rf (some t)), (1, .long (l1 / x9))] [] m10 (QJ Q))))) else (At g M_RF_term (lv + 1) 5 [(0, va_rf (some t)), (1, .long (l1 * x9))] [] m10 (QJ Q)))))))))) : At g M_RF_term (lv + 1) 23 [(0, va_rf (some t)), (1, .long (l1))] [] m (QJ Q) := by
  refine at_aload_n (i := 0) 0 24 rfl (by decide +kernel) rfl ?_
  refine at_bipush (n := 42) (42 : Int32) 26 rfl (by decide +kernel) (by decide +kernel) ?_
  obtain ⟨k1, h⟩ := h
  refine at_callV mb_RF_isSign tw_1411 tw_43 cok12 k1 (index := 260) tw_1409 [.int ((42 : Int32))] [] rfl rfl (by decide) 29 rfl (by decide +kernel) (Call.toI (CI.monoE h (fun x2 m3 h y4 => ?_)))
  have k5 : mK m3 t = 13 := y4.k k1 (by decide)
  refine at_istore_n (i := 3) (lc' := [(0, va_rf (some t)), (1, .long (l1)), (3, .int (x2))]) [1, 2, 0] 30 rfl (by decide +kernel) (by decide +kernel) rfl ?_
  refine at_aload_n (i := 0) 0 31 rfl (by decide +kernel) rfl ?_
  refine at_callV mb_RF_next tw_1352 tw_34 cok12 k5 (index := 241) tw_1350 [] [] rfl rfl (by decide) 34 rfl (by decide +kernel) (Call.toV (CV.monoE h (fun m6 h y7 => ?_)))
  have k8 : mK m6 t = 13 := y7.k k5 (by decide)
  refine at_aload_n (i := 0) 0 35 rfl (by decide +kernel) rfl ?_
  refine at_callV mb_RF_factor tw_1401 tw_42 cok12 k8 (index := 270) tw_1399 [] [] rfl rfl (by decide) 38 rfl (by decide +kernel) (Call.toJ (CJ.monoE h (fun x9 m10 h y11 => ?_)))
  have k12 : mK m10 t = 13 := y11.k k8 (by decide)
  refine at_lstore (i := 4) (lc' := [(0, va_rf (some t)), (1, .long (l1)), (3, .int (x2)), (4, .long (x9))]) [1, 2, 3, 0] 40 rfl (by decide +kernel) (by decide +kernel) rfl ?_
  refine at_iload_n (i := 3) 2 41 rfl (by decide +kernel) rfl ?_
  refine at_if_eq (off := 10) 51 44 rfl (by decide +kernel) (by decide +kernel) (fun c13 => ?_) (fun c13 => ?_)
  · rw [if_pos c13] at h
    refine at_lload (i := 4) 3 53 rfl (by decide +kernel) rfl ?_
    refine at_lconst (n := 0) (0 : Int64) 54 rfl (by decide +kernel) (by decide +kernel) ?_
    refine at_lif_ne (off := 7) 55 62 58 rfl rfl (by decide +kernel) (by decide +kernel) (by decide +kernel) (fun c14 => ?_) (fun c14 => ?_)
    · rw [if_neg c14] at h
      refine at_lload (i := 4) 3 64 rfl (by decide +kernel) rfl ?_
      refine at_ldc2 (index := 273) (-1 : Int64) 67 rfl (by decide +kernel) tw_1413 ?_
      refine at_lif_ne (off := 8) 68 76 71 rfl rfl (by decide +kernel) (by decide +kernel) (by decide +kernel) (fun c15 => ?_) (fun c15 => ?_)
      · rw [if_neg c15] at h
        refine at_lload_n (i := 1) 1 77 rfl (by decide +kernel) rfl ?_
        refine at_lload (i := 4) 3 79 rfl (by decide +kernel) rfl ?_
        obtain ⟨c16, h⟩ := h
        refine at_ldiv 80 rfl (by decide +kernel) c16 ?_
        refine at_lstore_n (i := 1) (lc' := [(0, va_rf (some t)), (1, .long (l1 / x9))]) [1, 0] 81 rfl (by decide +kernel) (by decide +kernel) rfl ?_
        refine at_goto (off := (-76)) 5 (by decide +kernel) (by decide +kernel) ?_
        exact h
      · rw [if_pos c15] at h
        refine at_lload_n (i := 1) 1 72 rfl (by decide +kernel) rfl ?_
        refine at_lneg 73 rfl (by decide +kernel) ?_
        refine at_goto (off := 7) 80 (by decide +kernel) (by decide +kernel) ?_
        refine at_lstore_n (i := 1) (lc' := [(0, va_rf (some t)), (1, .long (-l1))]) [1, 0] 81 rfl (by decide +kernel) (by decide +kernel) rfl ?_
        refine at_goto (off := (-76)) 5 (by decide +kernel) (by decide +kernel) ?_
        exact h
    · rw [if_pos c14] at h
      refine at_lconst (n := 0) (0 : Int64) 59 rfl (by decide +kernel) (by decide +kernel) ?_
      refine at_goto (off := 21) 80 (by decide +kernel) (by decide +kernel) ?_
      refine at_lstore_n (i := 1) (lc' := [(0, va_rf (some t)), (1, .long ((0 : Int64)))]) [1, 0] 81 rfl (by decide +kernel) (by decide +kernel) rfl ?_
      refine at_goto (off := (-76)) 5 (by decide +kernel) (by decide +kernel) ?_
      exact h
  · rw [if_neg c13] at h
    refine at_lload_n (i := 1) 1 45 rfl (by decide +kernel) rfl ?_
    refine at_lload (i := 4) 3 47 rfl (by decide +kernel) rfl ?_
    refine at_lmul 48 rfl (by decide +kernel) ?_
    refine at_goto (off := 32) 80 (by decide +kernel) (by decide +kernel) ?_
    refine at_lstore_n (i := 1) (lc' := [(0, va_rf (some t)), (1, .long (l1 * x9))]) [1, 0] 81 rfl (by decide +kernel) (by decide +kernel) rfl ?_
    refine at_goto (off := (-76)) 5 (by decide +kernel) (by decide +kernel) ?_
    exact h
set_option maxRecDepth 20000 in
set_option maxHeartbeats 4000000 in
theorem bk_RF_term_5 (g : Gc) {lv : Nat} {t : Nat} {l1 : Int64} {m : Mm} {Q : Int64 → Mm → Prop} (h : mK m t = 13 ∧ (CI g M_RF_isSign lv [va_rf (some t), .int ((42 : Int32))] m (fun x2 m3 => (if (x2) = 0 then (CI g M_RF_isSign lv [va_rf (some t), .int ((47 : Int32))] m3 (fun x7 m8 => (if (x7) = 0 then (Q l1 m8) else (At g M_RF_term (lv + 1) 23 [(0, va_rf (some t)), (1, .long (l1))] [] m8 (QJ Q))))) else (At g M_RF_term (lv + 1) 23 [(0, va_rf (some t)), (1, .long (l1))] [] m3 (QJ Q)))))) : At g M_RF_term (lv + 1) 5 [(0, va_rf (some t)), (1, .long (l1))] [] m (QJ Q) := by
  refine at_aload_n (i := 0) 0 6 rfl (by decide +kernel) rfl ?_
  refine at_bipush (n := 42) (42 : Int32) 8 rfl (by decide +kernel) (by decide +kernel) ?_
  obtain ⟨k1, h⟩ := h
  refine at_callV mb_RF_isSign tw_1411 tw_43 cok12 k1 (index := 260) tw_1409 [.int ((42 : Int32))] [] rfl rfl (by decide) 11 rfl (by decide +kernel) (Call.toI (CI.monoE h (fun x2 m3 h y4 => ?_)))
  have k5 : mK m3 t = 13 := y4.k k1 (by decide)
  refine at_if_ne (off := 12) 23 14 rfl (by decide +kernel) (by decide +kernel) (fun c6 => ?_) (fun c6 => ?_)
  · rw [if_neg c6] at h
    exact h
  · rw [if_pos c6] at h
    refine at_aload_n (i := 0) 0 15 rfl (by decide +kernel) rfl ?_
    refine at_bipush (n := 47) (47 : Int32) 17 rfl (by decide +kernel) (by decide +kernel) ?_
    refine at_callV mb_RF_isSign tw_1411 tw_43 cok12 k5 (index := 260) tw_1409 [.int ((47 : Int32))] [] rfl rfl (by decide) 20 rfl (by decide +kernel) (Call.toI (CI.monoE h (fun x7 m8 h y9 => ?_)))
    have k10 : mK m8 t = 13 := y9.k k5 (by decide)
    refine at_if_eq (off := 64) 84 23 rfl (by decide +kernel) (by decide +kernel) (fun c11 => ?_) (fun c11 => ?_)
    · rw [if_pos c11] at h
      refine at_lload_n (i := 1) 1 85 rfl (by decide +kernel) rfl ?_
      exact at_lret rfl (by decide +kernel) h
    · rw [if_neg c11] at h
      exact h
set_option maxRecDepth 20000 in
set_option maxHeartbeats 4000000 in
theorem en_RF_term (g : Gc) {lv : Nat} {t : Nat} {m : Mm} {Q : Int64 → Mm → Prop} (h : mK m t = 13 ∧ (CJ g M_RF_factor lv [va_rf (some t)] m (fun x2 m3 => (At g M_RF_term (lv + 1) 5 [(0, va_rf (some t)), (1, .long (x2))] [] m3 (QJ Q))))) : CJ g M_RF_term (lv + 1) [va_rf (some t)] m Q := by
  refine Call.of (by decide +kernel) (Nat.le_of_ble_eq_true rfl) ?_
  show At g M_RF_term (lv + 1) 0 [(0, va_rf (some t))] [] m (QJ Q)
  refine at_aload_n (i := 0) 0 1 rfl (by decide +kernel) rfl ?_
  obtain ⟨k1, h⟩ := h
  refine at_callV mb_RF_factor tw_1401 tw_42 cok12 k1 (index := 270) tw_1399 [] [] rfl rfl (by decide) 4 rfl (by decide +kernel) (Call.toJ (CJ.monoE h (fun x2 m3 h y4 => ?_)))
  have k5 : mK m3 t = 13 := y4.k k1 (by decide)
  refine at_lstore_n (i := 1) (lc' := [(0, va_rf (some t)), (1, .long (x2))]) [1, 0] 5 rfl (by decide +kernel) (by decide +kernel) rfl ?_
  exact h
set_option maxRecDepth 20000 in
set_option maxHeartbeats 4000000 in
theorem bk_RF_sum__23 (g : Gc) {lv : Nat} {t : Nat} {l1 : Int64} {m : Mm} {Q : Int64 → Mm → Prop} (h : mK m t = 13 ∧ (CI g M_RF_isSign lv [va_rf (some t), .int ((43 : Int32))] m (fun x2 m3 => (CV g M_RF_next lv [va_rf (some t)] m3 (fun m6 => (CJ g M_RF_term lv [va_rf (some t)] m6 (fun x9 m10 => (if (x2) = 0 then (At g M_RF_sum_ (lv + 1) 5 [(0, va_rf (some t)), (1, .long (l1 - x9))] [] m10 (QJ Q)) else (At g M_RF_sum_ (lv + 1) 5 [(0, va_rf (some t)), (1, .long (l1 + x9))] [] m10 (QJ Q)))))))))) : At g M_RF_sum_ (lv + 1) 23 [(0, va_rf (some t)), (1, .long (l1))] [] m (QJ Q) := by
  refine at_aload_n (i := 0) 0 24 rfl (by decide +kernel) rfl ?_
  refine at_bipush (n := 43) (43 : Int32) 26 rfl (by decide +kernel) (by decide +kernel) ?_
  obtain ⟨k1, h⟩ := h
  refine at_callV mb_RF_isSign tw_1411 tw_43 cok12 k1 (index := 260) tw_1409 [.int ((43 : Int32))] [] rfl rfl (by decide) 29 rfl (by decide +kernel) (Call.toI (CI.monoE h (fun x2 m3 h y4 => ?_)))
  have k5 : mK m3 t = 13 := y4.k k1 (by decide)
  refine at_istore_n (i := 3) (lc' := [(0, va_rf (some t)), (1, .long (l1)), (3, .int (x2))]) [1, 2, 0] 30 rfl (by decide +kernel) (by decide +kernel) rfl ?_
  refine at_aload_n (i := 0) 0 31 rfl (by decide +kernel) rfl ?_
  refine at_callV mb_RF_next tw_1352 tw_34 cok12 k5 (index := 241) tw_1350 [] [] rfl rfl (by decide) 34 rfl (by decide +kernel) (Call.toV (CV.monoE h (fun m6 h y7 => ?_)))
  have k8 : mK m6 t = 13 := y7.k k5 (by decide)
  refine at_aload_n (i := 0) 0 35 rfl (by decide +kernel) rfl ?_
  refine at_callV mb_RF_term tw_1397 tw_41 cok12 k8 (index := 275) tw_1395 [] [] rfl rfl (by decide) 38 rfl (by decide +kernel) (Call.toJ (CJ.monoE h (fun x9 m10 h y11 => ?_)))
  have k12 : mK m10 t = 13 := y11.k k8 (by decide)
  refine at_lstore (i := 4) (lc' := [(0, va_rf (some t)), (1, .long (l1)), (3, .int (x2)), (4, .long (x9))]) [1, 2, 3, 0] 40 rfl (by decide +kernel) (by decide +kernel) rfl ?_
  refine at_iload_n (i := 3) 2 41 rfl (by decide +kernel) rfl ?_
  refine at_if_eq (off := 10) 51 44 rfl (by decide +kernel) (by decide +kernel) (fun c13 => ?_) (fun c13 => ?_)
  · rw [if_pos c13] at h
    refine at_lload_n (i := 1) 1 52 rfl (by decide +kernel) rfl ?_
    refine at_lload (i := 4) 3 54 rfl (by decide +kernel) rfl ?_
    refine at_lsub 55 rfl (by decide +kernel) ?_
    refine at_lstore_n (i := 1) (lc' := [(0, va_rf (some t)), (1, .long (l1 - x9))]) [1, 0] 56 rfl (by decide +kernel) (by decide +kernel) rfl ?_
    refine at_goto (off := (-51)) 5 (by decide +kernel) (by decide +kernel) ?_
    exact h
  · rw [if_neg c13] at h
    refine at_lload_n (i := 1) 1 45 rfl (by decide +kernel) rfl ?_
    refine at_lload (i := 4) 3 47 rfl (by decide +kernel) rfl ?_
    refine at_ladd 48 rfl (by decide +kernel) ?_
    refine at_goto (off := 7) 55 (by decide +kernel) (by decide +kernel) ?_
    refine at_lstore_n (i := 1) (lc' := [(0, va_rf (some t)), (1, .long (l1 + x9))]) [1, 0] 56 rfl (by decide +kernel) (by decide +kernel) rfl ?_
    refine at_goto (off := (-51)) 5 (by decide +kernel) (by decide +kernel) ?_
    exact h
set_option maxRecDepth 20000 in
set_option maxHeartbeats 4000000 in
theorem bk_RF_sum__5 (g : Gc) {lv : Nat} {t : Nat} {l1 : Int64} {m : Mm} {Q : Int64 → Mm → Prop} (h : mK m t = 13 ∧ (CI g M_RF_isSign lv [va_rf (some t), .int ((43 : Int32))] m (fun x2 m3 => (if (x2) = 0 then (CI g M_RF_isSign lv [va_rf (some t), .int ((45 : Int32))] m3 (fun x7 m8 => (if (x7) = 0 then (Q l1 m8) else (At g M_RF_sum_ (lv + 1) 23 [(0, va_rf (some t)), (1, .long (l1))] [] m8 (QJ Q))))) else (At g M_RF_sum_ (lv + 1) 23 [(0, va_rf (some t)), (1, .long (l1))] [] m3 (QJ Q)))))) : At g M_RF_sum_ (lv + 1) 5 [(0, va_rf (some t)), (1, .long (l1))] [] m (QJ Q) := by
  refine at_aload_n (i := 0) 0 6 rfl (by decide +kernel) rfl ?_
  refine at_bipush (n := 43) (43 : Int32) 8 rfl (by decide +kernel) (by decide +kernel) ?_
  obtain ⟨k1, h⟩ := h
  refine at_callV mb_RF_isSign tw_1411 tw_43 cok12 k1 (index := 260) tw_1409 [.int ((43 : Int32))] [] rfl rfl (by decide) 11 rfl (by decide +kernel) (Call.toI (CI.monoE h (fun x2 m3 h y4 => ?_)))
  have k5 : mK m3 t = 13 := y4.k k1 (by decide)
  refine at_if_ne (off := 12) 23 14 rfl (by decide +kernel) (by decide +kernel) (fun c6 => ?_) (fun c6 => ?_)
  · rw [if_neg c6] at h
    exact h
  · rw [if_pos c6] at h
    refine at_aload_n (i := 0) 0 15 rfl (by decide +kernel) rfl ?_
    refine at_bipush (n := 45) (45 : Int32) 17 rfl (by decide +kernel) (by decide +kernel) ?_
    refine at_callV mb_RF_isSign tw_1411 tw_43 cok12 k5 (index := 260) tw_1409 [.int ((45 : Int32))] [] rfl rfl (by decide) 20 rfl (by decide +kernel) (Call.toI (CI.monoE h (fun x7 m8 h y9 => ?_)))
    have k10 : mK m8 t = 13 := y9.k k5 (by decide)
    refine at_if_eq (off := 39) 59 23 rfl (by decide +kernel) (by decide +kernel) (fun c11 => ?_) (fun c11 => ?_)
    · rw [if_pos c11] at h
      refine at_lload_n (i := 1) 1 60 rfl (by decide +kernel) rfl ?_
      exact at_lret rfl (by decide +kernel) h
    · rw [if_neg c11] at h
      exact h
set_option maxRecDepth 20000 in
set_option maxHeartbeats 4000000 in
theorem en_RF_sum_ (g : Gc) {lv : Nat} {t : Nat} {m : Mm} {Q : Int64 → Mm → Prop} (h : mK m t = 13 ∧ (CJ g M_RF_term lv [va_rf (some t)] m (fun x2 m3 => (At g M_RF_sum_ (lv + 1) 5 [(0, va_rf (some t)), (1, .long (x2))] [] m3 (QJ Q))))) : CJ g M_RF_sum_ (lv + 1) [va_rf (some t)] m Q := by
  refine Call.of (by decide +kernel) (Nat.le_of_ble_eq_true rfl) ?_
  show At g M_RF_sum_ (lv + 1) 0 [(0, va_rf (some t))] [] m (QJ Q)
  refine at_aload_n (i := 0) 0 1 rfl (by decide +kernel) rfl ?_
  obtain ⟨k1, h⟩ := h
  refine at_callV mb_RF_term tw_1397 tw_41 cok12 k1 (index := 275) tw_1395 [] [] rfl rfl (by decide) 4 rfl (by decide +kernel) (Call.toJ (CJ.monoE h (fun x2 m3 h y4 => ?_)))
  have k5 : mK m3 t = 13 := y4.k k1 (by decide)
  refine at_lstore_n (i := 1) (lc' := [(0, va_rf (some t)), (1, .long (x2))]) [1, 0] 5 rfl (by decide +kernel) (by decide +kernel) rfl ?_
  exact h
set_option maxRecDepth 20000 in
set_option maxHeartbeats 4000000 in
theorem bk_RF_conds_124 (g : Gc) {lv : Nat} {t : Nat} {s0 : Int32} {m : Mm} {Q : Int32 → Mm → Prop} (h : mK m t = 13 ∧ (CI g M_RF_is lv [va_rf (some t), va_rf (some (gK g 6))] m (fun x2 m3 => (if (x2) = 0 then (At g M_RF_conds (lv + 1) 4 [(0, va_rf (some t)), (1, .int (s0)), (2, .int (x2))] [] m3 (QI Q)) else (CV g M_RF_next lv [va_rf (some t)] m3 (fun m7 => (At g M_RF_conds (lv + 1) 4 [(0, va_rf (some t)), (1, .int (s0)), (2, .int (x2))] [] m7 (QI Q)))))))) : At g M_RF_conds (lv + 1) 124 [(0, va_rf (some t))] [.int (s0)] m (QI Q) := by
  refine at_istore_n (i := 1) (lc' := [(0, va_rf (some t)), (1, .int (s0))]) [1, 0] 125 rfl (by decide +kernel) (by decide +kernel) rfl ?_
  refine at_aload_n (i := 0) 0 126 rfl (by decide +kernel) rfl ?_
  refine at_ldcwS (index := 278) "and" 6 129 rfl (by decide +kernel) (by decide +kernel) ?_
  obtain ⟨k1, h⟩ := h
  refine at_callV mb_RF_is tw_1373 tw_37 cok12 k1 (index := 249) tw_1371 [va_rf (some (gK g 6))] [] rfl rfl (by decide) 132 rfl (by decide +kernel) (Call.toI (CI.monoE h (fun x2 m3 h y4 => ?_)))
  have k5 : mK m3 t = 13 := y4.k k1 (by decide)
  refine at_istore_n (i := 2) (lc' := [(0, va_rf (some t)), (1, .int (s0)), (2, .int (x2))]) [1, 2, 0] 133 rfl (by decide +kernel) (by decide +kernel) rfl ?_
  refine at_iload_n (i := 2) 2 134 rfl (by decide +kernel) rfl ?_
  refine at_if_eq (off := 7) 141 137 rfl (by decide +kernel) (by decide +kernel) (fun c6 => ?_) (fun c6 => ?_)
  · rw [if_pos c6] at h
    refine at_goto (off := (-137)) 4 (by decide +kernel) (by decide +kernel) ?_
    exact h
  · rw [if_neg c6] at h
    refine at_aload_n (i := 0) 0 138 rfl (by decide +kernel) rfl ?_
    refine at_callV mb_RF_next tw_1352 tw_34 cok12 k5 (index := 241) tw_1350 [] [] rfl rfl (by decide) 141 rfl (by decide +kernel) (Call.toV (CV.monoE h (fun m7 h y8 => ?_)))
    have k9 : mK m7 t = 13 := y8.k k5 (by decide)
    refine at_goto (off := (-137)) 4 (by decide +kernel) (by decide +kernel) ?_
    exact h
set_option maxRecDepth 20000 in
set_option maxHeartbeats 4000000 in
theorem bk_RF_conds_123 (g : Gc) {lv : Nat} {t : Nat} {m : Mm} {Q : Int32 → Mm → Prop} (h : At g M_RF_conds (lv + 1) 124 [(0, va_rf (some t))] [.int ((0 : Int32))] m (QI Q)) : At g M_RF_conds (lv + 1) 123 [(0, va_rf (some t))] [] m (QI Q) := by
  refine at_iconst (n := 0) (0 : Int32) 124 rfl (by decide +kernel) (by decide +kernel) ?_
  exact h
set_option maxRecDepth 20000 in
set_option maxHeartbeats 4000000 in
theorem bk_RF_conds_119 (g : Gc) {lv : Nat} {t : Nat} {m : Mm} {Q : Int32 → Mm → Prop} (h : At g M_RF_conds (lv + 1) 124 [(0, va_rf (some t))] [.int ((1 : Int32))] m (QI Q)) : At g M_RF_conds (lv + 1) 119 [(0, va_rf (some t))] [] m (QI Q) := by
  refine at_iconst (n := 1) (1 : Int32) 120 rfl (by decide +kernel) (by decide +kernel) ?_
  refine at_goto (off := 4) 124 (by decide +kernel) (by decide +kernel) ?_
  exact h
set_option maxRecDepth 20000 in
set_option maxHeartbeats 4000000 in
theorem bk_RF_conds_53 (g : Gc) {lv : Nat} {t : Nat} {l1 : Int32} {l3 : Int64} {s0 : Int32} {m : Mm} {Q : Int32 → Mm → Prop} (h : if (s0) = ((-1 : Int32)) then (mK m t = 13 ∧ (CV g M_RF_bad lv [va_rf (some t)] m (fun m17 => (Q (0 : Int32) m17)))) else (mK m t = 13 ∧ (CV g M_RF_next lv [va_rf (some t)] m (fun m3 => (CJ g M_RF_sum_ lv [va_rf (some t)] m3 (fun x6 m7 => (if (l1) = 0 then (At g M_RF_conds (lv + 1) 123 [(0, va_rf (some t))] [] m7 (QI Q)) else (if (s0) = 0 then (if (x6) ≤ (l3) then (At g M_RF_conds (lv + 1) 123 [(0, va_rf (some t))] [] m7 (QI Q)) else (At g M_RF_conds (lv + 1) 119 [(0, va_rf (some t))] [] m7 (QI Q))) else (if (s0) = ((1 : Int32)) then (if (l3) ≤ (x6) then (At g M_RF_conds (lv + 1) 123 [(0, va_rf (some t))] [] m7 (QI Q)) else (At g M_RF_conds (lv + 1) 119 [(0, va_rf (some t))] [] m7 (QI Q))) else (if (l3) = (x6) then (At g M_RF_conds (lv + 1) 119 [(0, va_rf (some t))] [] m7 (QI Q)) else (At g M_RF_conds (lv + 1) 123 [(0, va_rf (some t))] [] m7 (QI Q)))))))))))) : At g M_RF_conds (lv + 1) 53 [(0, va_rf (some t)), (1, .int (l1)), (3, .long (l3))] [.int (s0)] m (QI Q) := by
  refine at_istore (i := 5) (lc' := [(0, va_rf (some t)), (1, .int (l1)), (3, .long (l3)), (5, .int (s0))]) [1, 2, 3, 0] 55 rfl (by decide +kernel) (by decide +kernel) rfl ?_
  refine at_iload (i := 5) 3 57 rfl (by decide +kernel) rfl ?_
  refine at_iconst (n := (-1)) (-1 : Int32) 58 rfl (by decide +kernel) (by decide +kernel) ?_
  refine at_icmp_ne (off := 9) 67 61 rfl (by decide +kernel) (by decide +kernel) (fun c1 => ?_) (fun c1 => ?_)
  · rw [if_neg c1] at h
    refine at_aload_n (i := 0) 0 68 rfl (by decide +kernel) rfl ?_
    obtain ⟨k2, h⟩ := h
    refine at_callV mb_RF_next tw_1352 tw_34 cok12 k2 (index := 241) tw_1350 [] [] rfl rfl (by decide) 71 rfl (by decide +kernel) (Call.toV (CV.monoE h (fun m3 h y4 => ?_)))
    have k5 : mK m3 t = 13 := y4.k k2 (by decide)
    refine at_aload_n (i := 0) 0 72 rfl (by decide +kernel) rfl ?_
    refine at_callV mb_RF_sum_ tw_1393 tw_40 cok12 k5 (index := 266) tw_1391 [] [] rfl rfl (by decide) 75 rfl (by decide +kernel) (Call.toJ (CJ.monoE h (fun x6 m7 h y8 => ?_)))
    have k9 : mK m7 t = 13 := y8.k k5 (by decide)
    refine at_lstore (i := 6) (lc' := [(0, va_rf (some t)), (1, .int (l1)), (3, .long (l3)), (5, .int (s0)), (6, .long (x6))]) [1, 2, 3, 4, 0] 77 rfl (by decide +kernel) (by decide +kernel) rfl ?_
    refine at_iload_n (i := 1) 1 78 rfl (by decide +kernel) rfl ?_
    refine at_if_eq (off := 45) 123 81 rfl (by decide +kernel) (by decide +kernel) (fun c10 => ?_) (fun c10 => ?_)
    · rw [if_pos c10] at h
      exact At.sub [0] rfl h
    · rw [if_neg c10] at h
      refine at_iload (i := 5) 3 83 rfl (by decide +kernel) rfl ?_
      refine at_if_ne (off := 13) 96 86 rfl (by decide +kernel) (by decide +kernel) (fun c11 => ?_) (fun c11 => ?_)
      · rw [if_neg c11] at h
        refine at_iload (i := 5) 3 98 rfl (by decide +kernel) rfl ?_
        refine at_iconst (n := 1) (1 : Int32) 99 rfl (by decide +kernel) (by decide +kernel) ?_
        refine at_icmp_ne (off := 13) 112 102 rfl (by decide +kernel) (by decide +kernel) (fun c12 => ?_) (fun c12 => ?_)
        · rw [if_neg c12] at h
          refine at_lload_n (i := 3) 2 113 rfl (by decide +kernel) rfl ?_
          refine at_lload (i := 6) 4 115 rfl (by decide +kernel) rfl ?_
          refine at_lif_ne (off := 7) 116 123 119 rfl rfl (by decide +kernel) (by decide +kernel) (by decide +kernel) (fun c13 => ?_) (fun c13 => ?_)
          · rw [if_neg c13] at h
            exact At.sub [0] rfl h
          · rw [if_pos c13] at h
            exact At.sub [0] rfl h
        · rw [if_pos c12] at h
          refine at_lload_n (i := 3) 2 103 rfl (by decide +kernel) rfl ?_
          refine at_lload (i := 6) 4 105 rfl (by decide +kernel) rfl ?_
          refine at_lif_le (off := 17) 106 123 109 rfl rfl (by decide +kernel) (by decide +kernel) (by decide +kernel) (fun c14 => ?_) (fun c14 => ?_)
          · rw [if_pos c14] at h
            exact At.sub [0] rfl h
          · rw [if_neg c14] at h
            refine at_goto (off := 10) 119 (by decide +kernel) (by decide +kernel) ?_
            exact At.sub [0] rfl h
      · rw [if_pos c11] at h
        refine at_lload_n (i := 3) 2 87 rfl (by decide +kernel) rfl ?_
        refine at_lload (i := 6) 4 89 rfl (by decide +kernel) rfl ?_
        refine at_lif_ge (off := 33) 90 123 93 rfl rfl (by decide +kernel) (by decide +kernel) (by decide +kernel) (fun c15 => ?_) (fun c15 => ?_)
        · rw [if_pos c15] at h
          exact At.sub [0] rfl h
        · rw [if_neg c15] at h
          refine at_goto (off := 26) 119 (by decide +kernel) (by decide +kernel) ?_
          exact At.sub [0] rfl h
  · rw [if_pos c1] at h
    refine at_aload_n (i := 0) 0 62 rfl (by decide +kernel) rfl ?_
    obtain ⟨k16, h⟩ := h
    refine at_callV mb_RF_bad tw_1383 tw_38 cok12 k16 (index := 238) tw_1381 [] [] rfl rfl (by decide) 65 rfl (by decide +kernel) (Call.toV (CV.monoE h (fun m17 h y18 => ?_)))
    have k19 : mK m17 t = 13 := y18.k k16 (by decide)
    refine at_iconst (n := 0) (0 : Int32) 66 rfl (by decide +kernel) (by decide +kernel) ?_
    exact at_zret rfl (by decide +kernel) (Or.inl rfl) h
set_option maxRecDepth 20000 in
set_option maxHeartbeats 4000000 in
theorem bk_RF_conds_4 (g : Gc) {lv : Nat} {t : Nat} {l1 : Int32} {l2 : Int32} {m : Mm} {Q : Int32 → Mm → Prop} (h : if (l2) = 0 then (b01 l1 ∧ (Q l1 m)) else (mK m t = 13 ∧ (CJ g M_RF_sum_ lv [va_rf (some t)] m (fun x4 m5 => (CI g M_RF_isSign lv [va_rf (some t), .int ((60 : Int32))] m5 (fun x8 m9 => (if (x8) = 0 then (CI g M_RF_isSign lv [va_rf (some t), .int ((62 : Int32))] m9 (fun x13 m14 => (if (x13) = 0 then (CI g M_RF_isSign lv [va_rf (some t), .int ((61 : Int32))] m14 (fun x18 m19 => (if (x18) = 0 then (At g M_RF_conds (lv + 1) 53 [(0, va_rf (some t)), (1, .int (l1)), (3, .long (x4))] [.int ((-1 : Int32))] m19 (QI Q)) else (At g M_RF_conds (lv + 1) 53 [(0, va_rf (some t)), (1, .int (l1)), (3, .long (x4))] [.int ((2 : Int32))] m19 (QI Q))))) else (At g M_RF_conds (lv + 1) 53 [(0, va_rf (some t)), (1, .int (l1)), (3, .long (x4))] [.int ((1 : Int32))] m14 (QI Q))))) else (At g M_RF_conds (lv + 1) 53 [(0, va_rf (some t)), (1, .int (l1)), (3, .long (x4))] [.int ((0 : Int32))] m9 (QI Q))))))))) : At g M_RF_conds (lv + 1) 4 [(0, va_rf (some t)), (1, .int (l1)), (2, .int (l2))] [] m (QI Q) := by
  refine at_iload_n (i := 2) 2 5 rfl (by decide +kernel) rfl ?_
  refine at_if_eq (off := 139) 144 8 rfl (by decide +kernel) (by decide +kernel) (fun c1 => ?_) (fun c1 => ?_)
  · rw [if_pos c1] at h
    refine at_iload_n (i := 1) 1 145 rfl (by decide +kernel) rfl ?_
    obtain ⟨d2, h⟩ := h
    exact at_zret rfl (by decide +kernel) d2 h
  · rw [if_neg c1] at h
    refine at_aload_n (i := 0) 0 9 rfl (by decide +kernel) rfl ?_
    obtain ⟨k3, h⟩ := h
    refine at_callV mb_RF_sum_ tw_1393 tw_40 cok12 k3 (index := 266) tw_1391 [] [] rfl rfl (by decide) 12 rfl (by decide +kernel) (Call.toJ (CJ.monoE h (fun x4 m5 h y6 => ?_)))
    have k7 : mK m5 t = 13 := y6.k k3 (by decide)
    refine at_lstore_n (i := 3) (lc' := [(0, va_rf (some t)), (1, .int (l1)), (3, .long (x4))]) [1, 2, 0] 13 rfl (by decide +kernel) (by decide +kernel) rfl ?_
    refine at_aload_n (i := 0) 0 14 rfl (by decide +kernel) rfl ?_
    refine at_bipush (n := 60) (60 : Int32) 16 rfl (by decide +kernel) (by decide +kernel) ?_
    refine at_callV mb_RF_isSign tw_1411 tw_43 cok12 k7 (index := 260) tw_1409 [.int ((60 : Int32))] [] rfl rfl (by decide) 19 rfl (by decide +kernel) (Call.toI (CI.monoE h (fun x8 m9 h y10 => ?_)))
    have k11 : mK m9 t = 13 := y10.k k7 (by decide)
    refine at_if_eq (off := 7) 26 22 rfl (by decide +kernel) (by decide +kernel) (fun c12 => ?_) (fun c12 => ?_)
    · rw [if_pos c12] at h
      refine at_aload_n (i := 0) 0 27 rfl (by decide +kernel) rfl ?_
      refine at_bipush (n := 62) (62 : Int32) 29 rfl (by decide +kernel) (by decide +kernel) ?_
      refine at_callV mb_RF_isSign tw_1411 tw_43 cok12 k11 (index := 260) tw_1409 [.int ((62 : Int32))] [] rfl rfl (by decide) 32 rfl (by decide +kernel) (Call.toI (CI.monoE h (fun x13 m14 h y15 => ?_)))
      have k16 : mK m14 t = 13 := y15.k k11 (by decide)
      refine at_if_eq (off := 7) 39 35 rfl (by decide +kernel) (by decide +kernel) (fun c17 => ?_) (fun c17 => ?_)
      · rw [if_pos c17] at h
        refine at_aload_n (i := 0) 0 40 rfl (by decide +kernel) rfl ?_
        refine at_bipush (n := 61) (61 : Int32) 42 rfl (by decide +kernel) (by decide +kernel) ?_
        refine at_callV mb_RF_isSign tw_1411 tw_43 cok12 k16 (index := 260) tw_1409 [.int ((61 : Int32))] [] rfl rfl (by decide) 45 rfl (by decide +kernel) (Call.toI (CI.monoE h (fun x18 m19 h y20 => ?_)))
        have k21 : mK m19 t = 13 := y20.k k16 (by decide)
        refine at_if_eq (off := 7) 52 48 rfl (by decide +kernel) (by decide +kernel) (fun c22 => ?_) (fun c22 => ?_)
        · rw [if_pos c22] at h
          refine at_iconst (n := (-1)) (-1 : Int32) 53 rfl (by decide +kernel) (by decide +kernel) ?_
          exact h
        · rw [if_neg c22] at h
          refine at_iconst (n := 2) (2 : Int32) 49 rfl (by decide +kernel) (by decide +kernel) ?_
          refine at_goto (off := 4) 53 (by decide +kernel) (by decide +kernel) ?_
          exact h
      · rw [if_neg c17] at h
        refine at_iconst (n := 1) (1 : Int32) 36 rfl (by decide +kernel) (by decide +kernel) ?_
        refine at_goto (off := 17) 53 (by decide +kernel) (by decide +kernel) ?_
        exact h
    · rw [if_neg c12] at h
      refine at_iconst (n := 0) (0 : Int32) 23 rfl (by decide +kernel) (by decide +kernel) ?_
      refine at_goto (off := 30) 53 (by decide +kernel) (by decide +kernel) ?_
      exact h
set_option maxRecDepth 20000 in
set_option maxHeartbeats 4000000 in
theorem en_RF_conds (g : Gc) {lv : Nat} {t : Nat} {m : Mm} {Q : Int32 → Mm → Prop} (h : At g M_RF_conds (lv + 1) 4 [(0, va_rf (some t)), (1, .int ((1 : Int32))), (2, .int ((1 : Int32)))] [] m (QI Q)) : CI g M_RF_conds (lv + 1) [va_rf (some t)] m Q := by
  refine Call.of (by decide +kernel) (Nat.le_of_ble_eq_true rfl) ?_
  show At g M_RF_conds (lv + 1) 0 [(0, va_rf (some t))] [] m (QI Q)
  refine at_iconst (n := 1) (1 : Int32) 1 rfl (by decide +kernel) (by decide +kernel) ?_
  refine at_istore_n (i := 1) (lc' := [(0, va_rf (some t)), (1, .int ((1 : Int32)))]) [1, 0] 2 rfl (by decide +kernel) (by decide +kernel) rfl ?_
  refine at_iconst (n := 1) (1 : Int32) 3 rfl (by decide +kernel) (by decide +kernel) ?_
  refine at_istore_n (i := 2) (lc' := [(0, va_rf (some t)), (1, .int ((1 : Int32))), (2, .int ((1 : Int32)))]) [1, 2, 0] 4 rfl (by decide +kernel) (by decide +kernel) rfl ?_
  exact h
set_option maxRecDepth 20000 in
set_option maxHeartbeats 4000000 in
theorem bk_RF_clause_306 (g : Gc) {lv : Nat} {t : Nat} {l1 : Int32} {s0 : Option Nat} {s1 : Int32} {m : Mm} {Q : Mm → Prop} (h : ∃ b1, s0 = some b1 ∧ (mK m b1 = 13 ∧ (b01 s1 ∧ (∀ m5, m5 = sI m b1 59 s1 → (mK m5 t = 13 ∧ (if (mI m5 t 60) = 0 then (if (l1) = 0 then (∀ m22, m22 = sI m5 t 60 (1 : Int32) → (Q m22)) else (∀ m17, m17 = sI m5 t 60 (0 : Int32) → (Q m17))) else (∀ m11, m11 = sI m5 t 60 (1 : Int32) → (Q m11)))))))) : At g M_RF_clause (lv + 1) 306 [(0, va_rf (some t)), (1, .int (l1))] [.int (s1), va_rf (s0)] m (QV Q) := by
  obtain ⟨b1, e2, h⟩ := h
  rw [e2]
  obtain ⟨k3, h⟩ := h
  obtain ⟨d4, h⟩ := h
  refine at_putZ (index := 314) cok12 59 309 rfl (by decide +kernel) k3 (by decide +kernel) tw_1144 rfl rfl rfl d4 (fun m5 e6 => ?_)
  replace h := h m5 e6
  have x7 : Ext m m5 := by rw [e6]; exact Ext.sI _ _ _ _
  have k8 : mK m5 b1 = 13 := x7.k k3 (by decide)
  refine at_aload_n (i := 0) 0 310 rfl (by decide +kernel) rfl ?_
  refine at_aload_n (i := 0) 0 311 rfl (by decide +kernel) rfl ?_
  obtain ⟨k9, h⟩ := h
  refine at_get (index := 320) (v := .int (mI m5 t 60)) cok12 60 314 rfl (by decide +kernel) k9 (by decide +kernel) tw_1145 rfl ?_
  refine at_if_ne (off := 7) 321 317 rfl (by decide +kernel) (by decide +kernel) (fun c10 => ?_) (fun c10 => ?_)
  · rw [if_neg c10] at h
    refine at_iconst (n := 1) (1 : Int32) 322 rfl (by decide +kernel) (by decide +kernel) ?_
    refine at_goto (off := 4) 326 (by decide +kernel) (by decide +kernel) ?_
    refine at_putZ (index := 320) cok12 60 329 rfl (by decide +kernel) k9 (by decide +kernel) tw_1145 rfl rfl rfl (Or.inr rfl) (fun m11 e12 => ?_)
    replace h := h m11 e12
    have x13 : Ext m5 m11 := by rw [e12]; exact Ext.sI _ _ _ _
    have k14 : mK m11 b1 = 13 := x13.k k8 (by decide)
    have k15 : mK m11 t = 13 := x13.k k9 (by decide)
    exact at_vret rfl (by decide +kernel) h
  · rw [if_pos c10] at h
    refine at_iload_n (i := 1) 1 318 rfl (by decide +kernel) rfl ?_
    refine at_if_ne (off := 7) 325 321 rfl (by decide +kernel) (by decide +kernel) (fun c16 => ?_) (fun c16 => ?_)
    · rw [if_neg c16] at h
      refine at_iconst (n := 0) (0 : Int32) 326 rfl (by decide +kernel) (by decide +kernel) ?_
      refine at_putZ (index := 320) cok12 60 329 rfl (by decide +kernel) k9 (by decide +kernel) tw_1145 rfl rfl rfl (Or.inl rfl) (fun m17 e18 => ?_)
      replace h := h m17 e18
      have x19 : Ext m5 m17 := by rw [e18]; exact Ext.sI _ _ _ _
      have k20 : mK m17 b1 = 13 := x19.k k8 (by decide)
      have k21 : mK m17 t = 13 := x19.k k9 (by decide)
      exact at_vret rfl (by decide +kernel) h
    · rw [if_pos c16] at h
      refine at_iconst (n := 1) (1 : Int32) 322 rfl (by decide +kernel) (by decide +kernel) ?_
      refine at_goto (off := 4) 326 (by decide +kernel) (by decide +kernel) ?_
      refine at_putZ (index := 320) cok12 60 329 rfl (by decide +kernel) k9 (by decide +kernel) tw_1145 rfl rfl rfl (Or.inr rfl) (fun m22 e23 => ?_)
      replace h := h m22 e23
      have x24 : Ext m5 m22 := by rw [e23]; exact Ext.sI _ _ _ _
      have k25 : mK m22 b1 = 13 := x24.k k8 (by decide)
      have k26 : mK m22 t = 13 := x24.k k9 (by decide)
      exact at_vret rfl (by decide +kernel) h
set_option maxRecDepth 20000 in
set_option maxHeartbeats 4000000 in
theorem bk_RF_clause_301 (g : Gc) {lv : Nat} {t : Nat} {l1 : Int32} {s0 : Option Nat} {m : Mm} {Q : Mm → Prop} (h : At g M_RF_clause (lv + 1) 306 [(0, va_rf (some t)), (1, .int (l1))] [.int ((1 : Int32)), va_rf (s0)] m (QV Q)) : At g M_RF_clause (lv + 1) 301 [(0, va_rf (some t)), (1, .int (l1))] [va_rf (s0)] m (QV Q) := by
  refine at_iconst (n := 1) (1 : Int32) 302 rfl (by decide +kernel) (by decide +kernel) ?_
  refine at_goto (off := 4) 306 (by decide +kernel) (by decide +kernel) ?_
  exact h
set_option maxRecDepth 20000 in
set_option maxHeartbeats 4000000 in
theorem bk_RF_clause_289 (g : Gc) {lv : Nat} {t : Nat} {l1 : Int32} {m : Mm} {Q : Mm → Prop} (h : mK m t = 13 ∧ (if (mI m t 59) = 0 then (if (l1) = 0 then (At g M_RF_clause (lv + 1) 306 [(0, va_rf (some t)), (1, .int (l1))] [.int ((0 : Int32)), va_rf (some t)] m (QV Q)) else (At g M_RF_clause (lv + 1) 301 [(0, va_rf (some t)), (1, .int (l1))] [va_rf (some t)] m (QV Q))) else (At g M_RF_clause (lv + 1) 301 [(0, va_rf (some t)), (1, .int (l1))] [va_rf (some t)] m (QV Q)))) : At g M_RF_clause (lv + 1) 289 [(0, va_rf (some t)), (1, .int (l1))] [] m (QV Q) := by
  refine at_aload_n (i := 0) 0 290 rfl (by decide +kernel) rfl ?_
  refine at_aload_n (i := 0) 0 291 rfl (by decide +kernel) rfl ?_
  obtain ⟨k1, h⟩ := h
  refine at_get (index := 314) (v := .int (mI m t 59)) cok12 59 294 rfl (by decide +kernel) k1 (by decide +kernel) tw_1144 rfl ?_
  refine at_if_ne (off := 7) 301 297 rfl (by decide +kernel) (by decide +kernel) (fun c2 => ?_) (fun c2 => ?_)
  · rw [if_neg c2] at h
    exact h
  · rw [if_pos c2] at h
    refine at_iload_n (i := 1) 1 298 rfl (by decide +kernel) rfl ?_
    refine at_if_eq (off := 7) 305 301 rfl (by decide +kernel) (by decide +kernel) (fun c3 => ?_) (fun c3 => ?_)
    · rw [if_pos c3] at h
      refine at_iconst (n := 0) (0 : Int32) 306 rfl (by decide +kernel) (by decide +kernel) ?_
      exact h
    · rw [if_neg c3] at h
      exact h
set_option maxRecDepth 20000 in
set_option maxHeartbeats 4000000 in
theorem bk_RF_clause_273 (g : Gc) {lv : Nat} {t : Nat} {l1 : Int32} {l3 : Int64} {m : Mm} {Q : Mm → Prop} (h : if (l1) = 0 then (mK m t = 13 ∧ (if (mI m t 60) = 0 then (∀ m4, m4 = sL m t 58 l3 → (At g M_RF_clause (lv + 1) 289 [(0, va_rf (some t)), (1, .int (l1))] [] m4 (QV Q))) else (At g M_RF_clause (lv + 1) 289 [(0, va_rf (some t)), (1, .int (l1))] [] m (QV Q)))) else (At g M_RF_clause (lv + 1) 289 [(0, va_rf (some t)), (1, .int (l1))] [] m (QV Q))) : At g M_RF_clause (lv + 1) 273 [(0, va_rf (some t)), (1, .int (l1)), (3, .long (l3))] [] m (QV Q) := by
  refine at_iload_n (i := 1) 1 274 rfl (by decide +kernel) rfl ?_
  refine at_if_ne (off := 15) 289 277 rfl (by decide +kernel) (by decide +kernel) (fun c1 => ?_) (fun c1 => ?_)
  · rw [if_neg c1] at h
    exact At.sub [0, 1] rfl h
  · rw [if_pos c1] at h
    refine at_aload_n (i := 0) 0 278 rfl (by decide +kernel) rfl ?_
    obtain ⟨k2, h⟩ := h
    refine at_get (index := 320) (v := .int (mI m t 60)) cok12 60 281 rfl (by decide +kernel) k2 (by decide +kernel) tw_1145 rfl ?_
    refine at_if_ne (off := 8) 289 284 rfl (by decide +kernel) (by decide +kernel) (fun c3 => ?_) (fun c3 => ?_)
    · rw [if_neg c3] at h
      exact At.sub [0, 1] rfl h
    · rw [if_pos c3] at h
      refine at_aload_n (i := 0) 0 285 rfl (by decide +kernel) rfl ?_
      refine at_lload_n (i := 3) 2 286 rfl (by decide +kernel) rfl ?_
      refine at_putJ (index := 323) cok12 58 289 rfl (by decide +kernel) k2 (by decide +kernel) tw_1143 rfl rfl rfl (fun m4 e5 => ?_)
      replace h := h m4 e5
      have x6 : Ext m m4 := by rw [e5]; exact Ext.sL _ _ _ _
      have k7 : mK m4 t = 13 := x6.k k2 (by decide)
      exact At.sub [0, 1] rfl h
set_option maxRecDepth 20000 in
set_option maxHeartbeats 4000000 in
theorem bk_RF_clause_244 (g : Gc) {lv : Nat} {t : Nat} {l1 : Int32} {l3 : Int64} {l5 : Int32} {m : Mm} {Q : Mm → Prop} (h : mK m t = 13 ∧ (if (mI m t 55) = 0 then (if (l5) = 0 then (Q m) else (if (l1) = 0 then (At g M_RF_clause (lv + 1) 273 [(0, va_rf (some t)), (1, .int (l1)), (3, .long (l3))] [] m (QV Q)) else (if (mI m t 59) = 0 then (∀ m6, m6 = sL m t 57 l3 → (At g M_RF_clause (lv + 1) 273 [(0, va_rf (some t)), (1, .int (l1)), (3, .long (l3))] [] m6 (QV Q))) else (At g M_RF_clause (lv + 1) 273 [(0, va_rf (some t)), (1, .int (l1)), (3, .long (l3))] [] m (QV Q))))) else (Q m))) : At g M_RF_clause (lv + 1) 244 [(0, va_rf (some t)), (1, .int (l1)), (3, .long (l3)), (5, .int (l5))] [] m (QV Q) := by
  refine at_aload_n (i := 0) 0 245 rfl (by decide +kernel) rfl ?_
  obtain ⟨k1, h⟩ := h
  refine at_get (index := 224) (v := .int (mI m t 55)) cok12 55 248 rfl (by decide +kernel) k1 (by decide +kernel) tw_1140 rfl ?_
  refine at_if_ne (off := 8) 256 251 rfl (by decide +kernel) (by decide +kernel) (fun c2 => ?_) (fun c2 => ?_)
  · rw [if_neg c2] at h
    exact at_vret rfl (by decide +kernel) h
  · rw [if_pos c2] at h
    refine at_iload (i := 5) 3 253 rfl (by decide +kernel) rfl ?_
    refine at_if_ne (off := 4) 257 256 rfl (by decide +kernel) (by decide +kernel) (fun c3 => ?_) (fun c3 => ?_)
    · rw [if_neg c3] at h
      refine at_iload_n (i := 1) 1 258 rfl (by decide +kernel) rfl ?_
      refine at_if_eq (off := 15) 273 261 rfl (by decide +kernel) (by decide +kernel) (fun c4 => ?_) (fun c4 => ?_)
      · rw [if_pos c4] at h
        exact At.sub [0, 1, 2] rfl h
      · rw [if_neg c4] at h
        refine at_aload_n (i := 0) 0 262 rfl (by decide +kernel) rfl ?_
        refine at_get (index := 314) (v := .int (mI m t 59)) cok12 59 265 rfl (by decide +kernel) k1 (by decide +kernel) tw_1144 rfl ?_
        refine at_if_ne (off := 8) 273 268 rfl (by decide +kernel) (by decide +kernel) (fun c5 => ?_) (fun c5 => ?_)
        · rw [if_neg c5] at h
          exact At.sub [0, 1, 2] rfl h
        · rw [if_pos c5] at h
          refine at_aload_n (i := 0) 0 269 rfl (by decide +kernel) rfl ?_
          refine at_lload_n (i := 3) 2 270 rfl (by decide +kernel) rfl ?_
          refine at_putJ (index := 317) cok12 57 273 rfl (by decide +kernel) k1 (by decide +kernel) tw_1142 rfl rfl rfl (fun m6 e7 => ?_)
          replace h := h m6 e7
          have x8 : Ext m m6 := by rw [e7]; exact Ext.sL _ _ _ _
          have k9 : mK m6 t = 13 := x8.k k1 (by decide)
          exact At.sub [0, 1, 2] rfl h
    · rw [if_pos c3] at h
      exact at_vret rfl (by decide +kernel) h
set_option maxRecDepth 20000 in
set_option maxHeartbeats 4000000 in
theorem bk_RF_clause_180 (g : Gc) {lv : Nat} {t : Nat} {l3 : Int32} {l4 : Int32} {m : Mm} {Q : Mm → Prop} (h : if (l3) = ((2 : Int32)) then (mK m t = 13 ∧ (if (mI m t 63) = ((-1 : Int32)) then (∀ m8, m8 = sI m t 63 l4 → (Q m8)) else (∀ m4, m4 = sI m t 63 (imn (mI m t 63) l4) → (Q m4)))) else (Q m)) : At g M_RF_clause (lv + 1) 180 [(0, va_rf (some t)), (3, .int (l3)), (4, .int (l4))] [] m (QV Q) := by
  refine at_iload_n (i := 3) 1 181 rfl (by decide +kernel) rfl ?_
  refine at_iconst (n := 2) (2 : Int32) 182 rfl (by decide +kernel) (by decide +kernel) ?_
  refine at_icmp_ne (off := 29) 211 185 rfl (by decide +kernel) (by decide +kernel) (fun c1 => ?_) (fun c1 => ?_)
  · rw [if_neg c1] at h
    exact at_vret rfl (by decide +kernel) h
  · rw [if_pos c1] at h
    refine at_aload_n (i := 0) 0 186 rfl (by decide +kernel) rfl ?_
    refine at_aload_n (i := 0) 0 187 rfl (by decide +kernel) rfl ?_
    obtain ⟨k2, h⟩ := h
    refine at_get (index := 303) (v := .int (mI m t 63)) cok12 63 190 rfl (by decide +kernel) k2 (by decide +kernel) tw_1148 rfl ?_
    refine at_iconst (n := (-1)) (-1 : Int32) 191 rfl (by decide +kernel) (by decide +kernel) ?_
    refine at_icmp_ne (off := 8) 199 194 rfl (by decide +kernel) (by decide +kernel) (fun c3 => ?_) (fun c3 => ?_)
    · rw [if_neg c3] at h
      refine at_aload_n (i := 0) 0 200 rfl (by decide +kernel) rfl ?_
      refine at_get (index := 303) (v := .int (mI m t 63)) cok12 63 203 rfl (by decide +kernel) k2 (by decide +kernel) tw_1148 rfl ?_
      refine at_iload (i := 4) 2 205 rfl (by decide +kernel) rfl ?_
      refine at_imn (index := 305) 208 rfl (by decide +kernel) tw_1390 (by simp [va_rf_cat, cat_int, cat_long]) ?_
      refine at_putI (index := 303) cok12 63 211 rfl (by decide +kernel) k2 (by decide +kernel) tw_1148 rfl rfl rfl (fun m4 e5 => ?_)
      replace h := h m4 e5
      have x6 : Ext m m4 := by rw [e5]; exact Ext.sI _ _ _ _
      have k7 : mK m4 t = 13 := x6.k k2 (by decide)
      exact at_vret rfl (by decide +kernel) h
    · rw [if_pos c3] at h
      refine at_iload (i := 4) 2 196 rfl (by decide +kernel) rfl ?_
      refine at_goto (off := 12) 208 (by decide +kernel) (by decide +kernel) ?_
      refine at_putI (index := 303) cok12 63 211 rfl (by decide +kernel) k2 (by decide +kernel) tw_1148 rfl rfl rfl (fun m8 e9 => ?_)
      replace h := h m8 e9
      have x10 : Ext m m8 := by rw [e9]; exact Ext.sI _ _ _ _
      have k11 : mK m8 t = 13 := x10.k k2 (by decide)
      exact at_vret rfl (by decide +kernel) h
set_option maxRecDepth 20000 in
set_option maxHeartbeats 4000000 in
theorem bk_RF_clause_162 (g : Gc) {lv : Nat} {t : Nat} {l3 : Int32} {l4 : Int32} {m : Mm} {Q : Mm → Prop} (h : if (l3) = ((1 : Int32)) then (mK m t = 13 ∧ (∀ m3, m3 = sI m t 62 (imx (mI m t 62) l4) → (At g M_RF_clause (lv + 1) 180 [(0, va_rf (some t)), (3, .int (l3)), (4, .int (l4))] [] m3 (QV Q)))) else (At g M_RF_clause (lv + 1) 180 [(0, va_rf (some t)), (3, .int (l3)), (4, .int (l4))] [] m (QV Q))) : At g M_RF_clause (lv + 1) 162 [(0, va_rf (some t)), (3, .int (l3)), (4, .int (l4))] [] m (QV Q) := by
  refine at_iload_n (i := 3) 1 163 rfl (by decide +kernel) rfl ?_
  refine at_iconst (n := 1) (1 : Int32) 164 rfl (by decide +kernel) (by decide +kernel) ?_
  refine at_icmp_ne (off := 16) 180 167 rfl (by decide +kernel) (by decide +kernel) (fun c1 => ?_) (fun c1 => ?_)
  · rw [if_neg c1] at h
    exact h
  · rw [if_pos c1] at h
    refine at_aload_n (i := 0) 0 168 rfl (by decide +kernel) rfl ?_
    refine at_aload_n (i := 0) 0 169 rfl (by decide +kernel) rfl ?_
    obtain ⟨k2, h⟩ := h
    refine at_get (index := 295) (v := .int (mI m t 62)) cok12 62 172 rfl (by decide +kernel) k2 (by decide +kernel) tw_1147 rfl ?_
    refine at_iload (i := 4) 2 174 rfl (by decide +kernel) rfl ?_
    refine at_imx (index := 297) 177 rfl (by decide +kernel) tw_1389 (by simp [va_rf_cat, cat_int, cat_long]) ?_
    refine at_putI (index := 295) cok12 62 180 rfl (by decide +kernel) k2 (by decide +kernel) tw_1147 rfl rfl rfl (fun m3 e4 => ?_)
    replace h := h m3 e4
    have x5 : Ext m m3 := by rw [e4]; exact Ext.sI _ _ _ _
    have k6 : mK m3 t = 13 := x5.k k2 (by decide)
    exact h
set_option maxRecDepth 20000 in
set_option maxHeartbeats 4000000 in
theorem bk_RF_clause_119 (g : Gc) {lv : Nat} {t : Nat} {s0 : Int32} {m : Mm} {Q : Mm → Prop} (h : mK m t = 13 ∧ (CV g M_RF_next lv [va_rf (some t)] m (fun m2 => (CI g M_RF_numberOf lv [va_rf (some t)] m2 (fun x5 m6 => (if (mI m6 t 55) = 0 then (if (s0) = 0 then (if ((8 : Int32)) ≤ (x5) then (At g M_RF_clause (lv + 1) 162 [(0, va_rf (some t)), (3, .int (s0)), (4, .int (x5))] [] m6 (QV Q)) else (∀ m12, m12 = sI m6 t 61 ((mI m6 t 61) ||| ((1 : Int32) <<< (x5 &&& 31))) → (At g M_RF_clause (lv + 1) 162 [(0, va_rf (some t)), (3, .int (s0)), (4, .int (x5))] [] m12 (QV Q)))) else (At g M_RF_clause (lv + 1) 162 [(0, va_rf (some t)), (3, .int (s0)), (4, .int (x5))] [] m6 (QV Q))) else (Q m6))))))) : At g M_RF_clause (lv + 1) 119 [(0, va_rf (some t))] [.int (s0)] m (QV Q) := by
  refine at_istore_n (i := 3) (lc' := [(0, va_rf (some t)), (3, .int (s0))]) [1, 0] 120 rfl (by decide +kernel) (by decide +kernel) rfl ?_
  refine at_aload_n (i := 0) 0 121 rfl (by decide +kernel) rfl ?_
  obtain ⟨k1, h⟩ := h
  refine at_callV mb_RF_next tw_1352 tw_34 cok12 k1 (index := 241) tw_1350 [] [] rfl rfl (by decide) 124 rfl (by decide +kernel) (Call.toV (CV.monoE h (fun m2 h y3 => ?_)))
  have k4 : mK m2 t = 13 := y3.k k1 (by decide)
  refine at_aload_n (i := 0) 0 125 rfl (by decide +kernel) rfl ?_
  refine at_callV mb_RF_numberOf tw_1387 tw_39 cok12 k4 (index := 244) tw_1385 [] [] rfl rfl (by decide) 128 rfl (by decide +kernel) (Call.toI (CI.monoE h (fun x5 m6 h y7 => ?_)))
  have k8 : mK m6 t = 13 := y7.k k4 (by decide)
  refine at_istore (i := 4) (lc' := [(0, va_rf (some t)), (3, .int (s0)), (4, .int (x5))]) [1, 2, 0] 130 rfl (by decide +kernel) (by decide +kernel) rfl ?_
  refine at_aload_n (i := 0) 0 131 rfl (by decide +kernel) rfl ?_
  refine at_get (index := 224) (v := .int (mI m6 t 55)) cok12 55 134 rfl (by decide +kernel) k8 (by decide +kernel) tw_1140 rfl ?_
  refine at_if_eq (off := 4) 138 137 rfl (by decide +kernel) (by decide +kernel) (fun c9 => ?_) (fun c9 => ?_)
  · rw [if_pos c9] at h
    refine at_iload_n (i := 3) 1 139 rfl (by decide +kernel) rfl ?_
    refine at_if_ne (off := 23) 162 142 rfl (by decide +kernel) (by decide +kernel) (fun c10 => ?_) (fun c10 => ?_)
    · rw [if_neg c10] at h
      exact h
    · rw [if_pos c10] at h
      refine at_iload (i := 4) 2 144 rfl (by decide +kernel) rfl ?_
      refine at_bipush (n := 8) (8 : Int32) 146 rfl (by decide +kernel) (by decide +kernel) ?_
      refine at_icmp_ge (off := 16) 162 149 rfl (by decide +kernel) (by decide +kernel) (fun c11 => ?_) (fun c11 => ?_)
      · rw [if_pos c11] at h
        exact h
      · rw [if_neg c11] at h
        refine at_aload_n (i := 0) 0 150 rfl (by decide +kernel) rfl ?_
        refine at_dup 151 rfl (by decide +kernel) (va_rf_cat _) ?_
        refine at_get (index := 292) (v := .int (mI m6 t 61)) cok12 61 154 rfl (by decide +kernel) k8 (by decide +kernel) tw_1146 rfl ?_
        refine at_iconst (n := 1) (1 : Int32) 155 rfl (by decide +kernel) (by decide +kernel) ?_
        refine at_iload (i := 4) 2 157 rfl (by decide +kernel) rfl ?_
        refine at_ishl 158 rfl (by decide +kernel) ?_
        refine at_ior 159 rfl (by decide +kernel) ?_
        refine at_putI (index := 292) cok12 61 162 rfl (by decide +kernel) k8 (by decide +kernel) tw_1146 rfl rfl rfl (fun m12 e13 => ?_)
        replace h := h m12 e13
        have x14 : Ext m6 m12 := by rw [e13]; exact Ext.sI _ _ _ _
        have k15 : mK m12 t = 13 := x14.k k8 (by decide)
        exact h
  · rw [if_neg c9] at h
    exact at_vret rfl (by decide +kernel) h
set_option maxRecDepth 20000 in
set_option maxHeartbeats 4000000 in
theorem bk_RF_clause_76 (g : Gc) {lv : Nat} {t : Nat} {l1 : Int32} {l2 : Int32} {m : Mm} {Q : Mm → Prop} (h : mK m t = 13 ∧ (∀ m2, m2 = sI m t 64 ((mI m t 64) + (1 : Int32)) → (if (l2) = 0 then (CV g M_RF_next lv [va_rf (some t)] m2 (fun m7 => (CJ g M_RF_sum_ lv [va_rf (some t)] m7 (fun x10 m11 => (CI g M_RF_is lv [va_rf (some t), va_rf (some (gK g 5))] m11 (fun x14 m15 => (if (x14) = 0 then (At g M_RF_clause (lv + 1) 244 [(0, va_rf (some t)), (1, .int (l1)), (3, .long (x10)), (5, .int ((1 : Int32)))] [] m15 (QV Q)) else (CV g M_RF_next lv [va_rf (some t)] m15 (fun m19 => (CI g M_RF_conds lv [va_rf (some t)] m19 (fun x22 m23 => (At g M_RF_clause (lv + 1) 244 [(0, va_rf (some t)), (1, .int (l1)), (3, .long (x10)), (5, .int (x22))] [] m23 (QV Q))))))))))))) else (CI g M_RF_is lv [va_rf (some t), va_rf (some (gK g 2))] m2 (fun x26 m27 => (if (x26) = 0 then (CI g M_RF_is lv [va_rf (some t), va_rf (some (gK g 3))] m27 (fun x31 m32 => (if (x31) = 0 then (At g M_RF_clause (lv + 1) 119 [(0, va_rf (some t))] [.int ((2 : Int32))] m32 (QV Q)) else (At g M_RF_clause (lv + 1) 119 [(0, va_rf (some t))] [.int ((1 : Int32))] m32 (QV Q))))) else (At g M_RF_clause (lv + 1) 119 [(0, va_rf (some t))] [.int ((0 : Int32))] m27 (QV Q)))))))) : At g M_RF_clause (lv + 1) 76 [(0, va_rf (some t)), (1, .int (l1)), (2, .int (l2))] [] m (QV Q) := by
  refine at_aload_n (i := 0) 0 77 rfl (by decide +kernel) rfl ?_
  refine at_dup 78 rfl (by decide +kernel) (va_rf_cat _) ?_
  obtain ⟨k1, h⟩ := h
  refine at_get (index := 287) (v := .int (mI m t 64)) cok12 64 81 rfl (by decide +kernel) k1 (by decide +kernel) tw_1149 rfl ?_
  refine at_iconst (n := 1) (1 : Int32) 82 rfl (by decide +kernel) (by decide +kernel) ?_
  refine at_iadd 83 rfl (by decide +kernel) ?_
  refine at_putI (index := 287) cok12 64 86 rfl (by decide +kernel) k1 (by decide +kernel) tw_1149 rfl rfl rfl (fun m2 e3 => ?_)
  replace h := h m2 e3
  have x4 : Ext m m2 := by rw [e3]; exact Ext.sI _ _ _ _
  have k5 : mK m2 t = 13 := x4.k k1 (by decide)
  refine at_iload_n (i := 2) 2 87 rfl (by decide +kernel) rfl ?_
  refine at_if_eq (off := 125) 212 90 rfl (by decide +kernel) (by decide +kernel) (fun c6 => ?_) (fun c6 => ?_)
  · rw [if_pos c6] at h
    refine at_aload_n (i := 0) 0 213 rfl (by decide +kernel) rfl ?_
    refine at_callV mb_RF_next tw_1352 tw_34 cok12 k5 (index := 241) tw_1350 [] [] rfl rfl (by decide) 216 rfl (by decide +kernel) (Call.toV (CV.monoE h (fun m7 h y8 => ?_)))
    have k9 : mK m7 t = 13 := y8.k k5 (by decide)
    refine at_aload_n (i := 0) 0 217 rfl (by decide +kernel) rfl ?_
    refine at_callV mb_RF_sum_ tw_1393 tw_40 cok12 k9 (index := 266) tw_1391 [] [] rfl rfl (by decide) 220 rfl (by decide +kernel) (Call.toJ (CJ.monoE h (fun x10 m11 h y12 => ?_)))
    have k13 : mK m11 t = 13 := y12.k k9 (by decide)
    refine at_lstore_n (i := 3) (lc' := [(0, va_rf (some t)), (1, .int (l1)), (3, .long (x10))]) [1, 2, 0] 221 rfl (by decide +kernel) (by decide +kernel) rfl ?_
    refine at_iconst (n := 1) (1 : Int32) 222 rfl (by decide +kernel) (by decide +kernel) ?_
    refine at_istore (i := 5) (lc' := [(0, va_rf (some t)), (1, .int (l1)), (3, .long (x10)), (5, .int ((1 : Int32)))]) [1, 2, 3, 0] 224 rfl (by decide +kernel) (by decide +kernel) rfl ?_
    refine at_aload_n (i := 0) 0 225 rfl (by decide +kernel) rfl ?_
    refine at_ldcwS (index := 308) "if" 5 228 rfl (by decide +kernel) (by decide +kernel) ?_
    refine at_callV mb_RF_is tw_1373 tw_37 cok12 k13 (index := 249) tw_1371 [va_rf (some (gK g 5))] [] rfl rfl (by decide) 231 rfl (by decide +kernel) (Call.toI (CI.monoE h (fun x14 m15 h y16 => ?_)))
    have k17 : mK m15 t = 13 := y16.k k13 (by decide)
    refine at_if_eq (off := 13) 244 234 rfl (by decide +kernel) (by decide +kernel) (fun c18 => ?_) (fun c18 => ?_)
    · rw [if_pos c18] at h
      exact h
    · rw [if_neg c18] at h
      refine at_aload_n (i := 0) 0 235 rfl (by decide +kernel) rfl ?_
      refine at_callV mb_RF_next tw_1352 tw_34 cok12 k17 (index := 241) tw_1350 [] [] rfl rfl (by decide) 238 rfl (by decide +kernel) (Call.toV (CV.monoE h (fun m19 h y20 => ?_)))
      have k21 : mK m19 t = 13 := y20.k k17 (by decide)
      refine at_aload_n (i := 0) 0 239 rfl (by decide +kernel) rfl ?_
      refine at_callV mb_RF_conds tw_1417 tw_44 cok12 k21 (index := 310) tw_1415 [] [] rfl rfl (by decide) 242 rfl (by decide +kernel) (Call.toI (CI.monoE h (fun x22 m23 h y24 => ?_)))
      have k25 : mK m23 t = 13 := y24.k k21 (by decide)
      refine at_istore (i := 5) (lc' := [(0, va_rf (some t)), (1, .int (l1)), (3, .long (x10)), (5, .int (x22))]) [1, 2, 3, 0] 244 rfl (by decide +kernel) (by decide +kernel) rfl ?_
      exact h
  · rw [if_neg c6] at h
    refine at_aload_n (i := 0) 0 91 rfl (by decide +kernel) rfl ?_
    refine at_ldcwS (index := 282) "free" 2 94 rfl (by decide +kernel) (by decide +kernel) ?_
    refine at_callV mb_RF_is tw_1373 tw_37 cok12 k5 (index := 249) tw_1371 [va_rf (some (gK g 2))] [] rfl rfl (by decide) 97 rfl (by decide +kernel) (Call.toI (CI.monoE h (fun x26 m27 h y28 => ?_)))
    have k29 : mK m27 t = 13 := y28.k k5 (by decide)
    refine at_if_eq (off := 7) 104 100 rfl (by decide +kernel) (by decide +kernel) (fun c30 => ?_) (fun c30 => ?_)
    · rw [if_pos c30] at h
      refine at_aload_n (i := 0) 0 105 rfl (by decide +kernel) rfl ?_
      refine at_ldcwS (index := 283) "least" 3 108 rfl (by decide +kernel) (by decide +kernel) ?_
      refine at_callV mb_RF_is tw_1373 tw_37 cok12 k29 (index := 249) tw_1371 [va_rf (some (gK g 3))] [] rfl rfl (by decide) 111 rfl (by decide +kernel) (Call.toI (CI.monoE h (fun x31 m32 h y33 => ?_)))
      have k34 : mK m32 t = 13 := y33.k k29 (by decide)
      refine at_if_eq (off := 7) 118 114 rfl (by decide +kernel) (by decide +kernel) (fun c35 => ?_) (fun c35 => ?_)
      · rw [if_pos c35] at h
        refine at_iconst (n := 2) (2 : Int32) 119 rfl (by decide +kernel) (by decide +kernel) ?_
        exact At.sub [0] rfl h
      · rw [if_neg c35] at h
        refine at_iconst (n := 1) (1 : Int32) 115 rfl (by decide +kernel) (by decide +kernel) ?_
        refine at_goto (off := 4) 119 (by decide +kernel) (by decide +kernel) ?_
        exact At.sub [0] rfl h
    · rw [if_neg c30] at h
      refine at_iconst (n := 0) (0 : Int32) 101 rfl (by decide +kernel) (by decide +kernel) ?_
      refine at_goto (off := 18) 119 (by decide +kernel) (by decide +kernel) ?_
      exact At.sub [0] rfl h
set_option maxRecDepth 20000 in
set_option maxHeartbeats 4000000 in
theorem bk_RF_clause_43 (g : Gc) {lv : Nat} {t : Nat} {l1 : Int32} {s0 : Int32} {m : Mm} {Q : Mm → Prop} (h : mK m t = 13 ∧ (if (mI m t 64) = ((12 : Int32)) then (CV g M_RF_bad lv [va_rf (some t)] m (fun m3 => (Q m3))) else (if (l1) = 0 then (CI g M_RF_is lv [va_rf (some t), va_rf (some (gK g 1))] m (fun x7 m8 => (if (x7) = 0 then (if (s0) = 0 then (CV g M_RF_bad lv [va_rf (some t)] m8 (fun m13 => (Q m13))) else (At g M_RF_clause (lv + 1) 76 [(0, va_rf (some t)), (1, .int (l1)), (2, .int (s0))] [] m8 (QV Q))) else (At g M_RF_clause (lv + 1) 76 [(0, va_rf (some t)), (1, .int (l1)), (2, .int (s0))] [] m8 (QV Q))))) else (At g M_RF_clause (lv + 1) 76 [(0, va_rf (some t)), (1, .int (l1)), (2, .int (s0))] [] m (QV Q))))) : At g M_RF_clause (lv + 1) 43 [(0, va_rf (some t)), (1, .int (l1))] [.int (s0)] m (QV Q) := by
  refine at_istore_n (i := 2) (lc' := [(0, va_rf (some t)), (1, .int (l1)), (2, .int (s0))]) [1, 2, 0] 44 rfl (by decide +kernel) (by decide +kernel) rfl ?_
  refine at_aload_n (i := 0) 0 45 rfl (by decide +kernel) rfl ?_
  obtain ⟨k1, h⟩ := h
  refine at_get (index := 287) (v := .int (mI m t 64)) cok12 64 48 rfl (by decide +kernel) k1 (by decide +kernel) tw_1149 rfl ?_
  refine at_bipush (n := 12) (12 : Int32) 50 rfl (by decide +kernel) (by decide +kernel) ?_
  refine at_icmp_eq (off := 21) 71 53 rfl (by decide +kernel) (by decide +kernel) (fun c2 => ?_) (fun c2 => ?_)
  · rw [if_pos c2] at h
    refine at_aload_n (i := 0) 0 72 rfl (by decide +kernel) rfl ?_
    refine at_callV mb_RF_bad tw_1383 tw_38 cok12 k1 (index := 238) tw_1381 [] [] rfl rfl (by decide) 75 rfl (by decide +kernel) (Call.toV (CV.monoE h (fun m3 h y4 => ?_)))
    have k5 : mK m3 t = 13 := y4.k k1 (by decide)
    exact at_vret rfl (by decide +kernel) h
  · rw [if_neg c2] at h
    refine at_iload_n (i := 1) 1 54 rfl (by decide +kernel) rfl ?_
    refine at_if_ne (off := 22) 76 57 rfl (by decide +kernel) (by decide +kernel) (fun c6 => ?_) (fun c6 => ?_)
    · rw [if_neg c6] at h
      exact h
    · rw [if_pos c6] at h
      refine at_aload_n (i := 0) 0 58 rfl (by decide +kernel) rfl ?_
      refine at_ldcwS (index := 290) "sell" 1 61 rfl (by decide +kernel) (by decide +kernel) ?_
      refine at_callV mb_RF_is tw_1373 tw_37 cok12 k1 (index := 249) tw_1371 [va_rf (some (gK g 1))] [] rfl rfl (by decide) 64 rfl (by decide +kernel) (Call.toI (CI.monoE h (fun x7 m8 h y9 => ?_)))
      have k10 : mK m8 t = 13 := y9.k k1 (by decide)
      refine at_if_ne (off := 12) 76 67 rfl (by decide +kernel) (by decide +kernel) (fun c11 => ?_) (fun c11 => ?_)
      · rw [if_neg c11] at h
        exact h
      · rw [if_pos c11] at h
        refine at_iload_n (i := 2) 2 68 rfl (by decide +kernel) rfl ?_
        refine at_if_ne (off := 8) 76 71 rfl (by decide +kernel) (by decide +kernel) (fun c12 => ?_) (fun c12 => ?_)
        · rw [if_neg c12] at h
          exact h
        · rw [if_pos c12] at h
          refine at_aload_n (i := 0) 0 72 rfl (by decide +kernel) rfl ?_
          refine at_callV mb_RF_bad tw_1383 tw_38 cok12 k10 (index := 238) tw_1381 [] [] rfl rfl (by decide) 75 rfl (by decide +kernel) (Call.toV (CV.monoE h (fun m13 h y14 => ?_)))
          have k15 : mK m13 t = 13 := y14.k k10 (by decide)
          exact at_vret rfl (by decide +kernel) h
set_option maxRecDepth 20000 in
set_option maxHeartbeats 4000000 in
theorem bk_RF_clause_38 (g : Gc) {lv : Nat} {t : Nat} {l1 : Int32} {m : Mm} {Q : Mm → Prop} (h : At g M_RF_clause (lv + 1) 43 [(0, va_rf (some t)), (1, .int (l1))] [.int ((1 : Int32))] m (QV Q)) : At g M_RF_clause (lv + 1) 38 [(0, va_rf (some t)), (1, .int (l1))] [] m (QV Q) := by
  refine at_iconst (n := 1) (1 : Int32) 39 rfl (by decide +kernel) (by decide +kernel) ?_
  refine at_goto (off := 4) 43 (by decide +kernel) (by decide +kernel) ?_
  exact h
set_option maxRecDepth 20000 in
set_option maxHeartbeats 4000000 in
theorem en_RF_clause (g : Gc) {lv : Nat} {t : Nat} {m : Mm} {Q : Mm → Prop} (h : mK m t = 13 ∧ (CI g M_RF_is lv [va_rf (some t), va_rf (some (gK g 0))] m (fun x2 m3 => (CI g M_RF_is lv [va_rf (some t), va_rf (some (gK g 2))] m3 (fun x6 m7 => (if (x6) = 0 then (CI g M_RF_is lv [va_rf (some t), va_rf (some (gK g 3))] m7 (fun x11 m12 => (if (x11) = 0 then (CI g M_RF_is lv [va_rf (some t), va_rf (some (gK g 4))] m12 (fun x16 m17 => (if (x16) = 0 then (At g M_RF_clause (lv + 1) 43 [(0, va_rf (some t)), (1, .int (x2))] [.int ((0 : Int32))] m17 (QV Q)) else (At g M_RF_clause (lv + 1) 38 [(0, va_rf (some t)), (1, .int (x2))] [] m17 (QV Q))))) else (At g M_RF_clause (lv + 1) 38 [(0, va_rf (some t)), (1, .int (x2))] [] m12 (QV Q))))) else (At g M_RF_clause (lv + 1) 38 [(0, va_rf (some t)), (1, .int (x2))] [] m7 (QV Q)))))))) : CV g M_RF_clause (lv + 1) [va_rf (some t)] m Q := by
  refine Call.of (by decide +kernel) (Nat.le_of_ble_eq_true rfl) ?_
  show At g M_RF_clause (lv + 1) 0 [(0, va_rf (some t))] [] m (QV Q)
  refine at_aload_n (i := 0) 0 1 rfl (by decide +kernel) rfl ?_
  refine at_ldcwS (index := 280) "keep" 0 4 rfl (by decide +kernel) (by decide +kernel) ?_
  obtain ⟨k1, h⟩ := h
  refine at_callV mb_RF_is tw_1373 tw_37 cok12 k1 (index := 249) tw_1371 [va_rf (some (gK g 0))] [] rfl rfl (by decide) 7 rfl (by decide +kernel) (Call.toI (CI.monoE h (fun x2 m3 h y4 => ?_)))
  have k5 : mK m3 t = 13 := y4.k k1 (by decide)
  refine at_istore_n (i := 1) (lc' := [(0, va_rf (some t)), (1, .int (x2))]) [1, 0] 8 rfl (by decide +kernel) (by decide +kernel) rfl ?_
  refine at_aload_n (i := 0) 0 9 rfl (by decide +kernel) rfl ?_
  refine at_ldcwS (index := 282) "free" 2 12 rfl (by decide +kernel) (by decide +kernel) ?_
  refine at_callV mb_RF_is tw_1373 tw_37 cok12 k5 (index := 249) tw_1371 [va_rf (some (gK g 2))] [] rfl rfl (by decide) 15 rfl (by decide +kernel) (Call.toI (CI.monoE h (fun x6 m7 h y8 => ?_)))
  have k9 : mK m7 t = 13 := y8.k k5 (by decide)
  refine at_if_ne (off := 23) 38 18 rfl (by decide +kernel) (by decide +kernel) (fun c10 => ?_) (fun c10 => ?_)
  · rw [if_neg c10] at h
    exact h
  · rw [if_pos c10] at h
    refine at_aload_n (i := 0) 0 19 rfl (by decide +kernel) rfl ?_
    refine at_ldcwS (index := 283) "least" 3 22 rfl (by decide +kernel) (by decide +kernel) ?_
    refine at_callV mb_RF_is tw_1373 tw_37 cok12 k9 (index := 249) tw_1371 [va_rf (some (gK g 3))] [] rfl rfl (by decide) 25 rfl (by decide +kernel) (Call.toI (CI.monoE h (fun x11 m12 h y13 => ?_)))
    have k14 : mK m12 t = 13 := y13.k k9 (by decide)
    refine at_if_ne (off := 13) 38 28 rfl (by decide +kernel) (by decide +kernel) (fun c15 => ?_) (fun c15 => ?_)
    · rw [if_neg c15] at h
      exact h
    · rw [if_pos c15] at h
      refine at_aload_n (i := 0) 0 29 rfl (by decide +kernel) rfl ?_
      refine at_ldcwS (index := 285) "still" 4 32 rfl (by decide +kernel) (by decide +kernel) ?_
      refine at_callV mb_RF_is tw_1373 tw_37 cok12 k14 (index := 249) tw_1371 [va_rf (some (gK g 4))] [] rfl rfl (by decide) 35 rfl (by decide +kernel) (Call.toI (CI.monoE h (fun x16 m17 h y18 => ?_)))
      have k19 : mK m17 t = 13 := y18.k k14 (by decide)
      refine at_if_eq (off := 7) 42 38 rfl (by decide +kernel) (by decide +kernel) (fun c20 => ?_) (fun c20 => ?_)
      · rw [if_pos c20] at h
        refine at_iconst (n := 0) (0 : Int32) 43 rfl (by decide +kernel) (by decide +kernel) ?_
        exact h
      · rw [if_neg c20] at h
        exact h
set_option maxRecDepth 20000 in
set_option maxHeartbeats 4000000 in
theorem bk_RF_reads_91 (g : Gc) {lv : Nat} {t : Nat} {m : Mm} {Q : Mm → Prop} (h : mK m t = 13 ∧ (CI g M_RF_isSign lv [va_rf (some t), .int ((59 : Int32))] m (fun x2 m3 => (if (x2) = 0 then (if (mI m3 t 52) = 0 then (Q m3) else (CV g M_RF_bad lv [va_rf (some t)] m3 (fun m8 => (Q m8)))) else (CV g M_RF_next lv [va_rf (some t)] m3 (fun m11 => (CV g M_RF_clause lv [va_rf (some t)] m11 (fun m14 => (At g M_RF_reads (lv + 1) 91 [(0, va_rf (some t))] [] m14 (QV Q)))))))))) : At g M_RF_reads (lv + 1) 91 [(0, va_rf (some t))] [] m (QV Q) := by
  refine at_aload_n (i := 0) 0 92 rfl (by decide +kernel) rfl ?_
  refine at_bipush (n := 59) (59 : Int32) 94 rfl (by decide +kernel) (by decide +kernel) ?_
  obtain ⟨k1, h⟩ := h
  refine at_callV mb_RF_isSign tw_1411 tw_43 cok12 k1 (index := 260) tw_1409 [.int ((59 : Int32))] [] rfl rfl (by decide) 97 rfl (by decide +kernel) (Call.toI (CI.monoE h (fun x2 m3 h y4 => ?_)))
  have k5 : mK m3 t = 13 := y4.k k1 (by decide)
  refine at_if_eq (off := 14) 111 100 rfl (by decide +kernel) (by decide +kernel) (fun c6 => ?_) (fun c6 => ?_)
  · rw [if_pos c6] at h
    refine at_aload_n (i := 0) 0 112 rfl (by decide +kernel) rfl ?_
    refine at_get (index := 207) (v := .int (mI m3 t 52)) cok12 52 115 rfl (by decide +kernel) k5 (by decide +kernel) tw_1137 rfl ?_
    refine at_if_eq (off := 7) 122 118 rfl (by decide +kernel) (by decide +kernel) (fun c7 => ?_) (fun c7 => ?_)
    · rw [if_pos c7] at h
      exact at_vret rfl (by decide +kernel) h
    · rw [if_neg c7] at h
      refine at_aload_n (i := 0) 0 119 rfl (by decide +kernel) rfl ?_
      refine at_callV mb_RF_bad tw_1383 tw_38 cok12 k5 (index := 238) tw_1381 [] [] rfl rfl (by decide) 122 rfl (by decide +kernel) (Call.toV (CV.monoE h (fun m8 h y9 => ?_)))
      have k10 : mK m8 t = 13 := y9.k k5 (by decide)
      exact at_vret rfl (by decide +kernel) h
  · rw [if_neg c6] at h
    refine at_aload_n (i := 0) 0 101 rfl (by decide +kernel) rfl ?_
    refine at_callV mb_RF_next tw_1352 tw_34 cok12 k5 (index := 241) tw_1350 [] [] rfl rfl (by decide) 104 rfl (by decide +kernel) (Call.toV (CV.monoE h (fun m11 h y12 => ?_)))
    have k13 : mK m11 t = 13 := y12.k k5 (by decide)
    refine at_aload_n (i := 0) 0 105 rfl (by decide +kernel) rfl ?_
    refine at_callV mb_RF_clause tw_1368 tw_36 cok12 k13 (index := 326) tw_1366 [] [] rfl rfl (by decide) 108 rfl (by decide +kernel) (Call.toV (CV.monoE h (fun m14 h y15 => ?_)))
    have k16 : mK m14 t = 13 := y15.k k13 (by decide)
    refine at_goto (off := (-17)) 91 (by decide +kernel) (by decide +kernel) ?_
    exact h
set_option maxRecDepth 20000 in
set_option maxHeartbeats 4000000 in
theorem en_RF_reads (g : Gc) {lv : Nat} {t : Nat} {l1 : Int32} {m : Mm} {Q : Mm → Prop} (h : mK m t = 13 ∧ (∀ m2, m2 = sI m t 48 ((300 : Int32) * l1) → (∃ b6, mR m2 t 18 = some b6 ∧ (mK m2 b6 = 15 ∧ (vp_in l1 (mN m2 b6) ∧ (∀ m10, m10 = sI m2 t 49 (mI m2 b6 l1.toNatClampNeg) → (∀ m16, m16 = sI m10 t 50 (0 : Int32) → (∀ m22, m22 = sI m16 t 53 (0 : Int32) → (∀ m28, m28 = sI m22 t 55 (0 : Int32) → (∀ m34, m34 = sL m28 t 57 (0 : Int64) → (∀ m40, m40 = sL m34 t 58 (0 : Int64) → (∀ m46, m46 = sI m40 t 59 (0 : Int32) → (∀ m52, m52 = sI m46 t 60 (0 : Int32) → (∀ m58, m58 = sI m52 t 61 (0 : Int32) → (∀ m64, m64 = sI m58 t 62 (0 : Int32) → (∀ m70, m70 = sI m64 t 63 (-1 : Int32) → (∀ m76, m76 = sI m70 t 64 (0 : Int32) → (if (mI m76 t 49) = ((-1 : Int32)) then (Q m76) else (CV g M_RF_next lv [va_rf (some t)] m76 (fun m83 => (CV g M_RF_clause lv [va_rf (some t)] m83 (fun m88 => (At g M_RF_reads (lv + 1) 91 [(0, va_rf (some t))] [] m88 (QV Q)))))))))))))))))))))))) : CV g M_RF_reads (lv + 1) [va_rf (some t), .int (l1)] m Q := by
  refine Call.of (by decide +kernel) (Nat.le_of_ble_eq_true rfl) ?_
  show At g M_RF_reads (lv + 1) 0 [(0, va_rf (some t)), (1, .int (l1))] [] m (QV Q)
  refine at_aload_n (i := 0) 0 1 rfl (by decide +kernel) rfl ?_
  refine at_sipush (n := 300) (300 : Int32) 4 rfl (by decide +kernel) (by decide +kernel) ?_
  refine at_iload_n (i := 1) 1 5 rfl (by decide +kernel) rfl ?_
  refine at_imul 6 rfl (by decide +kernel) ?_
  obtain ⟨k1, h⟩ := h
  refine at_putI (index := 194) cok12 48 9 rfl (by decide +kernel) k1 (by decide +kernel) tw_1133 rfl rfl rfl (fun m2 e3 => ?_)
  replace h := h m2 e3
  have x4 : Ext m m2 := by rw [e3]; exact Ext.sI _ _ _ _
  have k5 : mK m2 t = 13 := x4.k k1 (by decide)
  refine at_aload_n (i := 0) 0 10 rfl (by decide +kernel) rfl ?_
  refine at_aload_n (i := 0) 0 11 rfl (by decide +kernel) rfl ?_
  refine at_get (index := 58) (v := va_rf (mR m2 t 18)) cok12 18 14 rfl (by decide +kernel) k5 (by decide +kernel) tw_1103 rfl ?_
  obtain ⟨b6, e7, h⟩ := h
  rw [e7]
  refine at_iload_n (i := 1) 1 15 rfl (by decide +kernel) rfl ?_
  obtain ⟨k8, h⟩ := h
  obtain ⟨v9, h⟩ := h
  refine at_iald 16 rfl (by decide +kernel) k8 v9 ?_
  refine at_putI (index := 191) cok12 49 19 rfl (by decide +kernel) k5 (by decide +kernel) tw_1134 rfl rfl rfl (fun m10 e11 => ?_)
  replace h := h m10 e11
  have x12 : Ext m2 m10 := by rw [e11]; exact Ext.sI _ _ _ _
  have k13 : mK m10 t = 13 := x12.k k5 (by decide)
  have k14 : mK m10 b6 = 15 := x12.k k8 (by decide)
  have e15 : mR m10 t 18 = some b6 := x12.r k5 (by decide) rfl e7
  refine at_aload_n (i := 0) 0 20 rfl (by decide +kernel) rfl ?_
  refine at_iconst (n := 0) (0 : Int32) 21 rfl (by decide +kernel) (by decide +kernel) ?_
  refine at_putI (index := 197) cok12 50 24 rfl (by decide +kernel) k13 (by decide +kernel) tw_1135 rfl rfl rfl (fun m16 e17 => ?_)
  replace h := h m16 e17
  have x18 : Ext m10 m16 := by rw [e17]; exact Ext.sI _ _ _ _
  have k19 : mK m16 t = 13 := x18.k k13 (by decide)
  have k20 : mK m16 b6 = 15 := x18.k k14 (by decide)
  have e21 : mR m16 t 18 = some b6 := x18.r k13 (by decide) rfl e15
  refine at_aload_n (i := 0) 0 25 rfl (by decide +kernel) rfl ?_
  refine at_iconst (n := 0) (0 : Int32) 26 rfl (by decide +kernel) (by decide +kernel) ?_
  refine at_putI (index := 263) cok12 53 29 rfl (by decide +kernel) k19 (by decide +kernel) tw_1138 rfl rfl rfl (fun m22 e23 => ?_)
  replace h := h m22 e23
  have x24 : Ext m16 m22 := by rw [e23]; exact Ext.sI _ _ _ _
  have k25 : mK m22 t = 13 := x24.k k19 (by decide)
  have k26 : mK m22 b6 = 15 := x24.k k20 (by decide)
  have e27 : mR m22 t 18 = some b6 := x24.r k19 (by decide) rfl e21
  refine at_aload_n (i := 0) 0 30 rfl (by decide +kernel) rfl ?_
  refine at_iconst (n := 0) (0 : Int32) 31 rfl (by decide +kernel) (by decide +kernel) ?_
  refine at_putZ (index := 224) cok12 55 34 rfl (by decide +kernel) k25 (by decide +kernel) tw_1140 rfl rfl rfl (Or.inl rfl) (fun m28 e29 => ?_)
  replace h := h m28 e29
  have x30 : Ext m22 m28 := by rw [e29]; exact Ext.sI _ _ _ _
  have k31 : mK m28 t = 13 := x30.k k25 (by decide)
  have k32 : mK m28 b6 = 15 := x30.k k26 (by decide)
  have e33 : mR m28 t 18 = some b6 := x30.r k25 (by decide) rfl e27
  refine at_aload_n (i := 0) 0 35 rfl (by decide +kernel) rfl ?_
  refine at_lconst (n := 0) (0 : Int64) 36 rfl (by decide +kernel) (by decide +kernel) ?_
  refine at_putJ (index := 317) cok12 57 39 rfl (by decide +kernel) k31 (by decide +kernel) tw_1142 rfl rfl rfl (fun m34 e35 => ?_)
  replace h := h m34 e35
  have x36 : Ext m28 m34 := by rw [e35]; exact Ext.sL _ _ _ _
  have k37 : mK m34 t = 13 := x36.k k31 (by decide)
  have k38 : mK m34 b6 = 15 := x36.k k32 (by decide)
  have e39 : mR m34 t 18 = some b6 := x36.r k31 (by decide) rfl e33
  refine at_aload_n (i := 0) 0 40 rfl (by decide +kernel) rfl ?_
  refine at_lconst (n := 0) (0 : Int64) 41 rfl (by decide +kernel) (by decide +kernel) ?_
  refine at_putJ (index := 323) cok12 58 44 rfl (by decide +kernel) k37 (by decide +kernel) tw_1143 rfl rfl rfl (fun m40 e41 => ?_)
  replace h := h m40 e41
  have x42 : Ext m34 m40 := by rw [e41]; exact Ext.sL _ _ _ _
  have k43 : mK m40 t = 13 := x42.k k37 (by decide)
  have k44 : mK m40 b6 = 15 := x42.k k38 (by decide)
  have e45 : mR m40 t 18 = some b6 := x42.r k37 (by decide) rfl e39
  refine at_aload_n (i := 0) 0 45 rfl (by decide +kernel) rfl ?_
  refine at_iconst (n := 0) (0 : Int32) 46 rfl (by decide +kernel) (by decide +kernel) ?_
  refine at_putZ (index := 314) cok12 59 49 rfl (by decide +kernel) k43 (by decide +kernel) tw_1144 rfl rfl rfl (Or.inl rfl) (fun m46 e47 => ?_)
  replace h := h m46 e47
  have x48 : Ext m40 m46 := by rw [e47]; exact Ext.sI _ _ _ _
  have k49 : mK m46 t = 13 := x48.k k43 (by decide)
  have k50 : mK m46 b6 = 15 := x48.k k44 (by decide)
  have e51 : mR m46 t 18 = some b6 := x48.r k43 (by decide) rfl e45
  refine at_aload_n (i := 0) 0 50 rfl (by decide +kernel) rfl ?_
  refine at_iconst (n := 0) (0 : Int32) 51 rfl (by decide +kernel) (by decide +kernel) ?_
  refine at_putZ (index := 320) cok12 60 54 rfl (by decide +kernel) k49 (by decide +kernel) tw_1145 rfl rfl rfl (Or.inl rfl) (fun m52 e53 => ?_)
  replace h := h m52 e53
  have x54 : Ext m46 m52 := by rw [e53]; exact Ext.sI _ _ _ _
  have k55 : mK m52 t = 13 := x54.k k49 (by decide)
  have k56 : mK m52 b6 = 15 := x54.k k50 (by decide)
  have e57 : mR m52 t 18 = some b6 := x54.r k49 (by decide) rfl e51
  refine at_aload_n (i := 0) 0 55 rfl (by decide +kernel) rfl ?_
  refine at_iconst (n := 0) (0 : Int32) 56 rfl (by decide +kernel) (by decide +kernel) ?_
  refine at_putI (index := 292) cok12 61 59 rfl (by decide +kernel) k55 (by decide +kernel) tw_1146 rfl rfl rfl (fun m58 e59 => ?_)
  replace h := h m58 e59
  have x60 : Ext m52 m58 := by rw [e59]; exact Ext.sI _ _ _ _
  have k61 : mK m58 t = 13 := x60.k k55 (by decide)
  have k62 : mK m58 b6 = 15 := x60.k k56 (by decide)
  have e63 : mR m58 t 18 = some b6 := x60.r k55 (by decide) rfl e57
  refine at_aload_n (i := 0) 0 60 rfl (by decide +kernel) rfl ?_
  refine at_iconst (n := 0) (0 : Int32) 61 rfl (by decide +kernel) (by decide +kernel) ?_
  refine at_putI (index := 295) cok12 62 64 rfl (by decide +kernel) k61 (by decide +kernel) tw_1147 rfl rfl rfl (fun m64 e65 => ?_)
  replace h := h m64 e65
  have x66 : Ext m58 m64 := by rw [e65]; exact Ext.sI _ _ _ _
  have k67 : mK m64 t = 13 := x66.k k61 (by decide)
  have k68 : mK m64 b6 = 15 := x66.k k62 (by decide)
  have e69 : mR m64 t 18 = some b6 := x66.r k61 (by decide) rfl e63
  refine at_aload_n (i := 0) 0 65 rfl (by decide +kernel) rfl ?_
  refine at_iconst (n := (-1)) (-1 : Int32) 66 rfl (by decide +kernel) (by decide +kernel) ?_
  refine at_putI (index := 303) cok12 63 69 rfl (by decide +kernel) k67 (by decide +kernel) tw_1148 rfl rfl rfl (fun m70 e71 => ?_)
  replace h := h m70 e71
  have x72 : Ext m64 m70 := by rw [e71]; exact Ext.sI _ _ _ _
  have k73 : mK m70 t = 13 := x72.k k67 (by decide)
  have k74 : mK m70 b6 = 15 := x72.k k68 (by decide)
  have e75 : mR m70 t 18 = some b6 := x72.r k67 (by decide) rfl e69
  refine at_aload_n (i := 0) 0 70 rfl (by decide +kernel) rfl ?_
  refine at_iconst (n := 0) (0 : Int32) 71 rfl (by decide +kernel) (by decide +kernel) ?_
  refine at_putI (index := 287) cok12 64 74 rfl (by decide +kernel) k73 (by decide +kernel) tw_1149 rfl rfl rfl (fun m76 e77 => ?_)
  replace h := h m76 e77
  have x78 : Ext m70 m76 := by rw [e77]; exact Ext.sI _ _ _ _
  have k79 : mK m76 t = 13 := x78.k k73 (by decide)
  have k80 : mK m76 b6 = 15 := x78.k k74 (by decide)
  have e81 : mR m76 t 18 = some b6 := x78.r k73 (by decide) rfl e75
  refine at_aload_n (i := 0) 0 75 rfl (by decide +kernel) rfl ?_
  refine at_get (index := 191) (v := .int (mI m76 t 49)) cok12 49 78 rfl (by decide +kernel) k79 (by decide +kernel) tw_1134 rfl ?_
  refine at_iconst (n := (-1)) (-1 : Int32) 79 rfl (by decide +kernel) (by decide +kernel) ?_
  refine at_icmp_ne (off := 4) 83 82 rfl (by decide +kernel) (by decide +kernel) (fun c82 => ?_) (fun c82 => ?_)
  · rw [if_neg c82] at h
    refine at_aload_n (i := 0) 0 84 rfl (by decide +kernel) rfl ?_
    refine at_callV mb_RF_next tw_1352 tw_34 cok12 k79 (index := 241) tw_1350 [] [] rfl rfl (by decide) 87 rfl (by decide +kernel) (Call.toV (CV.monoE h (fun m83 h y84 => ?_)))
    have k85 : mK m83 t = 13 := y84.k k79 (by decide)
    have k86 : mK m83 b6 = 15 := y84.k k80 (by decide)
    have e87 : mR m83 t 18 = some b6 := y84.r k79 (by decide) rfl e81
    refine at_aload_n (i := 0) 0 88 rfl (by decide +kernel) rfl ?_
    refine at_callV mb_RF_clause tw_1368 tw_36 cok12 k85 (index := 326) tw_1366 [] [] rfl rfl (by decide) 91 rfl (by decide +kernel) (Call.toV (CV.monoE h (fun m88 h y89 => ?_)))
    have k90 : mK m88 t = 13 := y89.k k85 (by decide)
    have k91 : mK m88 b6 = 15 := y89.k k86 (by decide)
    have e92 : mR m88 t 18 = some b6 := y89.r k85 (by decide) rfl e87
    exact At.sub [0] rfl h
  · rw [if_pos c82] at h
    exact at_vret rfl (by decide +kernel) h
set_option maxRecDepth 20000 in
set_option maxHeartbeats 4000000 in
theorem bk_RF_isLaw_2 (g : Gc) {lv : Nat} {t : Nat} {l1 : Int32} {m : Mm} {Q : Int32 → Mm → Prop} (h : mK m t = 13 ∧ (if (mI m t 15) ≤ (l1) then (∃ b3, mR m t 18 = some b3 ∧ (mK m b3 = 15 ∧ (vp_in (30 : Int32) (mN m b3) ∧ (∀ m7, m7 = sI m b3 (30 : Int32).toNatClampNeg (mI m t 15) → (∀ m13, m13 = sI m7 t 15 (0 : Int32) → (∀ m19, m19 = sI m13 t 16 (-1 : Int32) → (CV g M_RF_reads lv [va_rf (some t), .int ((30 : Int32))] m19 (fun m25 => (if (mI m25 t 55) = 0 then (Q (1 : Int32) m25) else (Q (0 : Int32) m25)))))))))) else (∃ b31, mR m t 17 = some b31 ∧ (∃ b33, mR m t 14 = some b33 ∧ (mK m b33 = 14 ∧ (vp_in l1 (mN m b33) ∧ (mK m b31 = 14 ∧ (vp_in ((9000 : Int32) + l1) (mN m b31) ∧ (∀ m39, m39 = sI m b31 ((9000 : Int32) + l1).toNatClampNeg ((mI m b33 l1.toNatClampNeg).toInt8.toInt32) → (At g M_RF_isLaw (lv + 1) 2 [(0, va_rf (some t)), (1, .int (l1 + (1 : Int32)))] [] m39 (QI Q))))))))))) : At g M_RF_isLaw (lv + 1) 2 [(0, va_rf (some t)), (1, .int (l1))] [] m (QI Q) := by
  refine at_iload_n (i := 1) 1 3 rfl (by decide +kernel) rfl ?_
  refine at_aload_n (i := 0) 0 4 rfl (by decide +kernel) rfl ?_
  obtain ⟨k1, h⟩ := h
  refine at_get (index := 188) (v := .int (mI m t 15)) cok12 15 7 rfl (by decide +kernel) k1 (by decide +kernel) tw_1100 rfl ?_
  refine at_icmp_ge (off := 25) 32 10 rfl (by decide +kernel) (by decide +kernel) (fun c2 => ?_) (fun c2 => ?_)
  · rw [if_pos c2] at h
    refine at_aload_n (i := 0) 0 33 rfl (by decide +kernel) rfl ?_
    refine at_get (index := 58) (v := va_rf (mR m t 18)) cok12 18 36 rfl (by decide +kernel) k1 (by decide +kernel) tw_1103 rfl ?_
    obtain ⟨b3, e4, h⟩ := h
    rw [e4]
    refine at_bipush (n := 30) (30 : Int32) 38 rfl (by decide +kernel) (by decide +kernel) ?_
    refine at_aload_n (i := 0) 0 39 rfl (by decide +kernel) rfl ?_
    refine at_get (index := 188) (v := .int (mI m t 15)) cok12 15 42 rfl (by decide +kernel) k1 (by decide +kernel) tw_1100 rfl ?_
    obtain ⟨k5, h⟩ := h
    obtain ⟨v6, h⟩ := h
    refine at_iast 43 rfl (by decide +kernel) k5 v6 (fun m7 e8 => ?_)
    replace h := h m7 e8
    have x9 : Ext m m7 := by rw [e8]; exact Ext.sI _ _ _ _
    have k10 : mK m7 t = 13 := x9.k k1 (by decide)
    have k11 : mK m7 b3 = 15 := x9.k k5 (by decide)
    have e12 : mR m7 t 18 = some b3 := x9.r k1 (by decide) rfl e4
    refine at_aload_n (i := 0) 0 44 rfl (by decide +kernel) rfl ?_
    refine at_iconst (n := 0) (0 : Int32) 45 rfl (by decide +kernel) (by decide +kernel) ?_
    refine at_putI (index := 188) cok12 15 48 rfl (by decide +kernel) k10 (by decide +kernel) tw_1100 rfl rfl rfl (fun m13 e14 => ?_)
    replace h := h m13 e14
    have x15 : Ext m7 m13 := by rw [e14]; exact Ext.sI _ _ _ _
    have k16 : mK m13 t = 13 := x15.k k10 (by decide)
    have k17 : mK m13 b3 = 15 := x15.k k11 (by decide)
    have e18 : mR m13 t 18 = some b3 := x15.r k10 (by decide) rfl e12
    refine at_aload_n (i := 0) 0 49 rfl (by decide +kernel) rfl ?_
    refine at_iconst (n := (-1)) (-1 : Int32) 50 rfl (by decide +kernel) (by decide +kernel) ?_
    refine at_putI (index := 52) cok12 16 53 rfl (by decide +kernel) k16 (by decide +kernel) tw_1101 rfl rfl rfl (fun m19 e20 => ?_)
    replace h := h m19 e20
    have x21 : Ext m13 m19 := by rw [e20]; exact Ext.sI _ _ _ _
    have k22 : mK m19 t = 13 := x21.k k16 (by decide)
    have k23 : mK m19 b3 = 15 := x21.k k17 (by decide)
    have e24 : mR m19 t 18 = some b3 := x21.r k16 (by decide) rfl e18
    refine at_aload_n (i := 0) 0 54 rfl (by decide +kernel) rfl ?_
    refine at_bipush (n := 30) (30 : Int32) 56 rfl (by decide +kernel) (by decide +kernel) ?_
    refine at_callV mb_RF_reads tw_1348 tw_33 cok12 k22 (index := 329) tw_1346 [.int ((30 : Int32))] [] rfl rfl (by decide) 59 rfl (by decide +kernel) (Call.toV (CV.monoE h (fun m25 h y26 => ?_)))
    have k27 : mK m25 t = 13 := y26.k k22 (by decide)
    have k28 : mK m25 b3 = 15 := y26.k k23 (by decide)
    have e29 : mR m25 t 18 = some b3 := y26.r k22 (by decide) rfl e24
    refine at_aload_n (i := 0) 0 60 rfl (by decide +kernel) rfl ?_
    refine at_get (index := 224) (v := .int (mI m25 t 55)) cok12 55 63 rfl (by decide +kernel) k27 (by decide +kernel) tw_1140 rfl ?_
    refine at_if_ne (off := 7) 70 66 rfl (by decide +kernel) (by decide +kernel) (fun c30 => ?_) (fun c30 => ?_)
    · rw [if_neg c30] at h
      refine at_iconst (n := 0) (0 : Int32) 71 rfl (by decide +kernel) (by decide +kernel) ?_
      exact at_zret rfl (by decide +kernel) (Or.inl rfl) h
    · rw [if_pos c30] at h
      refine at_iconst (n := 1) (1 : Int32) 67 rfl (by decide +kernel) (by decide +kernel) ?_
      refine at_goto (off := 4) 71 (by decide +kernel) (by decide +kernel) ?_
      exact at_zret rfl (by decide +kernel) (Or.inr rfl) h
  · rw [if_neg c2] at h
    refine at_aload_n (i := 0) 0 11 rfl (by decide +kernel) rfl ?_
    refine at_get (index := 55) (v := va_rf (mR m t 17)) cok12 17 14 rfl (by decide +kernel) k1 (by decide +kernel) tw_1102 rfl ?_
    obtain ⟨b31, e32, h⟩ := h
    rw [e32]
    refine at_sipush (n := 9000) (9000 : Int32) 17 rfl (by decide +kernel) (by decide +kernel) ?_
    refine at_iload_n (i := 1) 1 18 rfl (by decide +kernel) rfl ?_
    refine at_iadd 19 rfl (by decide +kernel) ?_
    refine at_aload_n (i := 0) 0 20 rfl (by decide +kernel) rfl ?_
    refine at_get (index := 48) (v := va_rf (mR m t 14)) cok12 14 23 rfl (by decide +kernel) k1 (by decide +kernel) tw_1099 rfl ?_
    obtain ⟨b33, e34, h⟩ := h
    rw [e34]
    refine at_iload_n (i := 1) 1 24 rfl (by decide +kernel) rfl ?_
    obtain ⟨k35, h⟩ := h
    obtain ⟨v36, h⟩ := h
    refine at_bald 25 rfl (by decide +kernel) k35 v36 ?_
    obtain ⟨k37, h⟩ := h
    obtain ⟨v38, h⟩ := h
    refine at_bast 26 rfl (by decide +kernel) k37 v38 (fun m39 e40 => ?_)
    replace h := h m39 e40
    have x41 : Ext m m39 := by rw [e40]; exact Ext.sI _ _ _ _
    have k42 : mK m39 t = 13 := x41.k k1 (by decide)
    have k43 : mK m39 b33 = 14 := x41.k k35 (by decide)
    have k44 : mK m39 b31 = 14 := x41.k k37 (by decide)
    have e45 : mR m39 t 17 = some b31 := x41.r k1 (by decide) rfl e32
    have e46 : mR m39 t 14 = some b33 := x41.r k1 (by decide) rfl e34
    refine at_iinc (i := 1) (n := 1) (lc' := [(0, va_rf (some t)), (1, .int (l1 + (1 : Int32)))]) (l1 + (1 : Int32)) 1 [1, 0] 29 rfl (by decide +kernel) rfl (by rw [show Int32.ofInt 1 = (1 : Int32) from by decide +kernel]) (by decide +kernel) rfl ?_
    refine at_goto (off := (-27)) 2 (by decide +kernel) (by decide +kernel) ?_
    exact h
set_option maxRecDepth 20000 in
set_option maxHeartbeats 4000000 in
theorem en_RF_isLaw (g : Gc) {lv : Nat} {t : Nat} {m : Mm} {Q : Int32 → Mm → Prop} (h : At g M_RF_isLaw (lv + 1) 2 [(0, va_rf (some t)), (1, .int ((0 : Int32)))] [] m (QI Q)) : CI g M_RF_isLaw (lv + 1) [va_rf (some t)] m Q := by
  refine Call.of (by decide +kernel) (Nat.le_of_ble_eq_true rfl) ?_
  show At g M_RF_isLaw (lv + 1) 0 [(0, va_rf (some t))] [] m (QI Q)
  refine at_iconst (n := 0) (0 : Int32) 1 rfl (by decide +kernel) (by decide +kernel) ?_
  refine at_istore_n (i := 1) (lc' := [(0, va_rf (some t)), (1, .int ((0 : Int32)))]) [1, 0] 2 rfl (by decide +kernel) (by decide +kernel) rfl ?_
  exact h
set_option maxRecDepth 20000 in
set_option maxHeartbeats 4000000 in
theorem bk_RF_law_49 (g : Gc) {lv : Nat} {t : Nat} {l2 : Int32} {l3 : Int32} {l4 : Int32} {m : Mm} {Q : Int32 → Mm → Prop} (h : mK m t = 13 ∧ (∃ b2, mR m t 18 = some b2 ∧ (mK m b2 = 15 ∧ (vp_in (30 : Int32) (mN m b2) ∧ (if (mI m b2 (30 : Int32).toNatClampNeg) ≤ (l4) then (vp_in (30 : Int32) (mN m b2) ∧ (vp_in l3 (mN m b2) ∧ (∀ m9, m9 = sI m b2 l3.toNatClampNeg (mI m b2 (30 : Int32).toNatClampNeg) → (At g M_RF_law (lv + 1) 41 [(0, va_rf (some t)), (2, .int (l2)), (3, .int (l3 + (1 : Int32)))] [] m9 (QI Q))))) else (∃ b15, mR m t 17 = some b15 ∧ (mK m b15 = 14 ∧ (vp_in ((9000 : Int32) + l4) (mN m b15) ∧ (vp_in (((300 : Int32) * l3) + l4) (mN m b15) ∧ (∀ m20, m20 = sI m b15 (((300 : Int32) * l3) + l4).toNatClampNeg ((mI m b15 ((9000 : Int32) + l4).toNatClampNeg).toInt8.toInt32) → (At g M_RF_law (lv + 1) 49 [(0, va_rf (some t)), (2, .int (l2)), (3, .int (l3)), (4, .int (l4 + (1 : Int32)))] [] m20 (QI Q)))))))))))) : At g M_RF_law (lv + 1) 49 [(0, va_rf (some t)), (2, .int (l2)), (3, .int (l3)), (4, .int (l4))] [] m (QI Q) := by
  refine at_iload (i := 4) 3 51 rfl (by decide +kernel) rfl ?_
  refine at_aload_n (i := 0) 0 52 rfl (by decide +kernel) rfl ?_
  obtain ⟨k1, h⟩ := h
  refine at_get (index := 58) (v := va_rf (mR m t 18)) cok12 18 55 rfl (by decide +kernel) k1 (by decide +kernel) tw_1103 rfl ?_
  obtain ⟨b2, e3, h⟩ := h
  rw [e3]
  refine at_bipush (n := 30) (30 : Int32) 57 rfl (by decide +kernel) (by decide +kernel) ?_
  obtain ⟨k4, h⟩ := h
  obtain ⟨v5, h⟩ := h
  refine at_iald 58 rfl (by decide +kernel) k4 v5 ?_
  refine at_icmp_ge (off := 33) 91 61 rfl (by decide +kernel) (by decide +kernel) (fun c6 => ?_) (fun c6 => ?_)
  · rw [if_pos c6] at h
    refine at_aload_n (i := 0) 0 92 rfl (by decide +kernel) rfl ?_
    refine at_get (index := 58) (v := va_rf (mR m t 18)) cok12 18 95 rfl (by decide +kernel) k1 (by decide +kernel) tw_1103 rfl ?_
    rw [e3]
    refine at_iload_n (i := 3) 2 96 rfl (by decide +kernel) rfl ?_
    refine at_aload_n (i := 0) 0 97 rfl (by decide +kernel) rfl ?_
    refine at_get (index := 58) (v := va_rf (mR m t 18)) cok12 18 100 rfl (by decide +kernel) k1 (by decide +kernel) tw_1103 rfl ?_
    rw [e3]
    refine at_bipush (n := 30) (30 : Int32) 102 rfl (by decide +kernel) (by decide +kernel) ?_
    obtain ⟨v7, h⟩ := h
    refine at_iald 103 rfl (by decide +kernel) k4 v7 ?_
    obtain ⟨v8, h⟩ := h
    refine at_iast 104 rfl (by decide +kernel) k4 v8 (fun m9 e10 => ?_)
    replace h := h m9 e10
    have x11 : Ext m m9 := by rw [e10]; exact Ext.sI _ _ _ _
    have k12 : mK m9 t = 13 := x11.k k1 (by decide)
    have k13 : mK m9 b2 = 15 := x11.k k4 (by decide)
    have e14 : mR m9 t 18 = some b2 := x11.r k1 (by decide) rfl e3
    refine at_iinc (i := 3) (n := 1) (lc' := [(0, va_rf (some t)), (2, .int (l2)), (3, .int (l3 + (1 : Int32)))]) (l3 + (1 : Int32)) 2 [1, 2, 0] 107 rfl (by decide +kernel) rfl (by rw [show Int32.ofInt 1 = (1 : Int32) from by decide +kernel]) (by decide +kernel) rfl ?_
    refine at_goto (off := (-66)) 41 (by decide +kernel) (by decide +kernel) ?_
    exact h
  · rw [if_neg c6] at h
    refine at_aload_n (i := 0) 0 62 rfl (by decide +kernel) rfl ?_
    refine at_get (index := 55) (v := va_rf (mR m t 17)) cok12 17 65 rfl (by decide +kernel) k1 (by decide +kernel) tw_1102 rfl ?_
    obtain ⟨b15, e16, h⟩ := h
    rw [e16]
    refine at_sipush (n := 300) (300 : Int32) 68 rfl (by decide +kernel) (by decide +kernel) ?_
    refine at_iload_n (i := 3) 2 69 rfl (by decide +kernel) rfl ?_
    refine at_imul 70 rfl (by decide +kernel) ?_
    refine at_iload (i := 4) 3 72 rfl (by decide +kernel) rfl ?_
    refine at_iadd 73 rfl (by decide +kernel) ?_
    refine at_aload_n (i := 0) 0 74 rfl (by decide +kernel) rfl ?_
    refine at_get (index := 55) (v := va_rf (mR m t 17)) cok12 17 77 rfl (by decide +kernel) k1 (by decide +kernel) tw_1102 rfl ?_
    rw [e16]
    refine at_sipush (n := 9000) (9000 : Int32) 80 rfl (by decide +kernel) (by decide +kernel) ?_
    refine at_iload (i := 4) 3 82 rfl (by decide +kernel) rfl ?_
    refine at_iadd 83 rfl (by decide +kernel) ?_
    obtain ⟨k17, h⟩ := h
    obtain ⟨v18, h⟩ := h
    refine at_bald 84 rfl (by decide +kernel) k17 v18 ?_
    obtain ⟨v19, h⟩ := h
    refine at_bast 85 rfl (by decide +kernel) k17 v19 (fun m20 e21 => ?_)
    replace h := h m20 e21
    have x22 : Ext m m20 := by rw [e21]; exact Ext.sI _ _ _ _
    have k23 : mK m20 t = 13 := x22.k k1 (by decide)
    have k24 : mK m20 b2 = 15 := x22.k k4 (by decide)
    have k25 : mK m20 b15 = 14 := x22.k k17 (by decide)
    have e26 : mR m20 t 18 = some b2 := x22.r k1 (by decide) rfl e3
    have e27 : mR m20 t 17 = some b15 := x22.r k1 (by decide) rfl e16
    refine at_iinc (i := 4) (n := 1) (lc' := [(0, va_rf (some t)), (2, .int (l2)), (3, .int (l3)), (4, .int (l4 + (1 : Int32)))]) (l4 + (1 : Int32)) 3 [1, 2, 3, 0] 88 rfl (by decide +kernel) rfl (by rw [show Int32.ofInt 1 = (1 : Int32) from by decide +kernel]) (by decide +kernel) rfl ?_
    refine at_goto (off := (-39)) 49 (by decide +kernel) (by decide +kernel) ?_
    exact h
set_option maxRecDepth 20000 in
set_option maxHeartbeats 4000000 in
theorem bk_RF_law_41 (g : Gc) {lv : Nat} {t : Nat} {l2 : Int32} {l3 : Int32} {m : Mm} {Q : Int32 → Mm → Prop} (h : if (l2) < (l3) then (mK m t = 13 ∧ (Q (mI m t 64) m)) else (At g M_RF_law (lv + 1) 49 [(0, va_rf (some t)), (2, .int (l2)), (3, .int (l3)), (4, .int ((0 : Int32)))] [] m (QI Q))) : At g M_RF_law (lv + 1) 41 [(0, va_rf (some t)), (2, .int (l2)), (3, .int (l3))] [] m (QI Q) := by
  refine at_iload_n (i := 3) 2 42 rfl (by decide +kernel) rfl ?_
  refine at_iload_n (i := 2) 1 43 rfl (by decide +kernel) rfl ?_
  refine at_icmp_gt (off := 67) 110 46 rfl (by decide +kernel) (by decide +kernel) (fun c1 => ?_) (fun c1 => ?_)
  · rw [if_pos c1] at h
    refine at_aload_n (i := 0) 0 111 rfl (by decide +kernel) rfl ?_
    obtain ⟨k2, h⟩ := h
    refine at_get (index := 287) (v := .int (mI m t 64)) cok12 64 114 rfl (by decide +kernel) k2 (by decide +kernel) tw_1149 rfl ?_
    exact at_iret rfl (by decide +kernel) h
  · rw [if_neg c1] at h
    refine at_iconst (n := 0) (0 : Int32) 47 rfl (by decide +kernel) (by decide +kernel) ?_
    refine at_istore (i := 4) (lc' := [(0, va_rf (some t)), (2, .int (l2)), (3, .int (l3)), (4, .int ((0 : Int32)))]) [1, 2, 3, 0] 49 rfl (by decide +kernel) (by decide +kernel) rfl ?_
    exact h
set_option maxRecDepth 20000 in
set_option maxHeartbeats 4000000 in
theorem en_RF_law (g : Gc) {lv : Nat} {t : Nat} {l1 : Int32} {l2 : Int32} {m : Mm} {Q : Int32 → Mm → Prop} (h : mK m t = 13 ∧ (∀ m2, m2 = sI m t 0 (0 : Int32) → (∃ b6, mR m2 t 31 = some b6 ∧ (mK m2 b6 = 15 ∧ (vp_in (0 : Int32) (mN m2 b6) ∧ (if (l1) < (mI m2 b6 (0 : Int32).toNatClampNeg) then (Q (-2 : Int32) m2) else (if ((30 : Int32)) ≤ (l2) then (Q (-2 : Int32) m2) else (if (l1) ≤ (l2) then (CI g M_RF_isLaw lv [va_rf (some t)] m2 (fun x13 m14 => (if (x13) = 0 then (Q (-4 : Int32) m14) else (At g M_RF_law (lv + 1) 41 [(0, va_rf (some t)), (2, .int (l2)), (3, .int (l1))] [] m14 (QI Q))))) else (Q (-2 : Int32) m2))))))))) : CI g M_RF_law (lv + 1) [va_rf (some t), .int (l1), .int (l2)] m Q := by
  refine Call.of (by decide +kernel) (Nat.le_of_ble_eq_true rfl) ?_
  show At g M_RF_law (lv + 1) 0 [(0, va_rf (some t)), (1, .int (l1)), (2, .int (l2))] [] m (QI Q)
  refine at_aload_n (i := 0) 0 1 rfl (by decide +kernel) rfl ?_
  refine at_iconst (n := 0) (0 : Int32) 2 rfl (by decide +kernel) (by decide +kernel) ?_
  obtain ⟨k1, h⟩ := h
  refine at_putI (index := 149) cok12 0 5 rfl (by decide +kernel) k1 (by decide +kernel) tw_1085 rfl rfl rfl (fun m2 e3 => ?_)
  replace h := h m2 e3
  have x4 : Ext m m2 := by rw [e3]; exact Ext.sI _ _ _ _
  have k5 : mK m2 t = 13 := x4.k k1 (by decide)
  refine at_iload_n (i := 1) 1 6 rfl (by decide +kernel) rfl ?_
  refine at_aload_n (i := 0) 0 7 rfl (by decide +kernel) rfl ?_
  refine at_get (index := 95) (v := va_rf (mR m2 t 31)) cok12 31 10 rfl (by decide +kernel) k5 (by decide +kernel) tw_1116 rfl ?_
  obtain ⟨b6, e7, h⟩ := h
  rw [e7]
  refine at_iconst (n := 0) (0 : Int32) 11 rfl (by decide +kernel) (by decide +kernel) ?_
  obtain ⟨k8, h⟩ := h
  obtain ⟨v9, h⟩ := h
  refine at_iald 12 rfl (by decide +kernel) k8 v9 ?_
  refine at_icmp_lt (off := 14) 26 15 rfl (by decide +kernel) (by decide +kernel) (fun c10 => ?_) (fun c10 => ?_)
  · rw [if_pos c10] at h
    refine at_bipush (n := (-2)) (-2 : Int32) 28 rfl (by decide +kernel) (by decide +kernel) ?_
    exact at_iret rfl (by decide +kernel) h
  · rw [if_neg c10] at h
    refine at_iload_n (i := 2) 2 16 rfl (by decide +kernel) rfl ?_
    refine at_bipush (n := 30) (30 : Int32) 18 rfl (by decide +kernel) (by decide +kernel) ?_
    refine at_icmp_ge (off := 8) 26 21 rfl (by decide +kernel) (by decide +kernel) (fun c11 => ?_) (fun c11 => ?_)
    · rw [if_pos c11] at h
      refine at_bipush (n := (-2)) (-2 : Int32) 28 rfl (by decide +kernel) (by decide +kernel) ?_
      exact at_iret rfl (by decide +kernel) h
    · rw [if_neg c11] at h
      refine at_iload_n (i := 1) 1 22 rfl (by decide +kernel) rfl ?_
      refine at_iload_n (i := 2) 2 23 rfl (by decide +kernel) rfl ?_
      refine at_icmp_le (off := 6) 29 26 rfl (by decide +kernel) (by decide +kernel) (fun c12 => ?_) (fun c12 => ?_)
      · rw [if_pos c12] at h
        refine at_aload_n (i := 0) 0 30 rfl (by decide +kernel) rfl ?_
        refine at_callV mb_RF_isLaw tw_1344 tw_32 cok12 k5 (index := 333) tw_1342 [] [] rfl rfl (by decide) 33 rfl (by decide +kernel) (Call.toI (CI.monoE h (fun x13 m14 h y15 => ?_)))
        have k16 : mK m14 t = 13 := y15.k k5 (by decide)
        have k17 : mK m14 b6 = 15 := y15.k k8 (by decide)
        have e18 : mR m14 t 31 = some b6 := y15.r k5 (by decide) rfl e7
        refine at_if_ne (off := 6) 39 36 rfl (by decide +kernel) (by decide +kernel) (fun c19 => ?_) (fun c19 => ?_)
        · rw [if_neg c19] at h
          refine at_iload_n (i := 1) 1 40 rfl (by decide +kernel) rfl ?_
          refine at_istore_n (i := 3) (lc' := [(0, va_rf (some t)), (2, .int (l2)), (3, .int (l1))]) [1, 3, 0] 41 rfl (by decide +kernel) (by decide +kernel) rfl ?_
          exact h
        · rw [if_pos c19] at h
          refine at_bipush (n := (-4)) (-4 : Int32) 38 rfl (by decide +kernel) (by decide +kernel) ?_
          exact at_iret rfl (by decide +kernel) h
      · rw [if_neg c12] at h
        refine at_bipush (n := (-2)) (-2 : Int32) 28 rfl (by decide +kernel) (by decide +kernel) ?_
        exact at_iret rfl (by decide +kernel) h
set_option maxRecDepth 20000 in
set_option maxHeartbeats 4000000 in
theorem en_RF_fault (g : Gc) {lv : Nat} {t : Nat} {m : Mm} {Q : Int32 → Mm → Prop} (h : mK m t = 13 ∧ (∀ m2, m2 = sI m t 0 (0 : Int32) → (Q (mI m2 t 16) m2))) : CI g M_RF_fault (lv + 1) [va_rf (some t)] m Q := by
  refine Call.of (by decide +kernel) (Nat.le_of_ble_eq_true rfl) ?_
  show At g M_RF_fault (lv + 1) 0 [(0, va_rf (some t))] [] m (QI Q)
  refine at_aload_n (i := 0) 0 1 rfl (by decide +kernel) rfl ?_
  refine at_iconst (n := 0) (0 : Int32) 2 rfl (by decide +kernel) (by decide +kernel) ?_
  obtain ⟨k1, h⟩ := h
  refine at_putI (index := 149) cok12 0 5 rfl (by decide +kernel) k1 (by decide +kernel) tw_1085 rfl rfl rfl (fun m2 e3 => ?_)
  replace h := h m2 e3
  have x4 : Ext m m2 := by rw [e3]; exact Ext.sI _ _ _ _
  have k5 : mK m2 t = 13 := x4.k k1 (by decide)
  refine at_aload_n (i := 0) 0 6 rfl (by decide +kernel) rfl ?_
  refine at_get (index := 52) (v := .int (mI m2 t 16)) cok12 16 9 rfl (by decide +kernel) k5 (by decide +kernel) tw_1101 rfl ?_
  exact at_iret rfl (by decide +kernel) h
set_option maxRecDepth 20000 in
set_option maxHeartbeats 4000000 in
theorem en_RF_crop (g : Gc) {lv : Nat} {t : Nat} {l1 : Int32} {l2 : Int32} {m : Mm} {Q : Int32 → Mm → Prop} (h : mK m t = 13 ∧ (∀ m2, m2 = sI m t 0 (0 : Int32) → (CI g M_RF_isGrower lv [va_rf (some t), .int (l1)] m2 (fun x6 m7 => (if (x6) = 0 then (Q (-2 : Int32) m7) else (CI g M_RF_in lv [.long (l2.toInt64), .long ((0 : Int64)), .long ((500000 : Int64))] m7 (fun x11 m12 => (if (x11) = 0 then (Q (-2 : Int32) m12) else (∃ b16, mR m12 t 22 = some b16 ∧ (mK m12 b16 = 15 ∧ (vp_in l1 (mN m12 b16) ∧ (∀ m20, m20 = sI m12 b16 l1.toNatClampNeg l2 → (Q (0 : Int32) m20))))))))))))) : CI g M_RF_crop (lv + 1) [va_rf (some t), .int (l1), .int (l2)] m Q := by
  refine Call.of (by decide +kernel) (Nat.le_of_ble_eq_true rfl) ?_
  show At g M_RF_crop (lv + 1) 0 [(0, va_rf (some t)), (1, .int (l1)), (2, .int (l2))] [] m (QI Q)
  refine at_aload_n (i := 0) 0 1 rfl (by decide +kernel) rfl ?_
  refine at_iconst (n := 0) (0 : Int32) 2 rfl (by decide +kernel) (by decide +kernel) ?_
  obtain ⟨k1, h⟩ := h
  refine at_putI (index := 149) cok12 0 5 rfl (by decide +kernel) k1 (by decide +kernel) tw_1085 rfl rfl rfl (fun m2 e3 => ?_)
  replace h := h m2 e3
  have x4 : Ext m m2 := by rw [e3]; exact Ext.sI _ _ _ _
  have k5 : mK m2 t = 13 := x4.k k1 (by decide)
  refine at_aload_n (i := 0) 0 6 rfl (by decide +kernel) rfl ?_
  refine at_iload_n (i := 1) 1 7 rfl (by decide +kernel) rfl ?_
  refine at_callV mb_RF_isGrower tw_1430 tw_45 cok12 k5 (index := 336) tw_1428 [.int (l1)] [] rfl rfl (by decide) 10 rfl (by decide +kernel) (Call.toI (CI.monoE h (fun x6 m7 h y8 => ?_)))
  have k9 : mK m7 t = 13 := y8.k k5 (by decide)
  refine at_if_eq (off := 15) 25 13 rfl (by decide +kernel) (by decide +kernel) (fun c10 => ?_) (fun c10 => ?_)
  · rw [if_pos c10] at h
    refine at_bipush (n := (-2)) (-2 : Int32) 27 rfl (by decide +kernel) (by decide +kernel) ?_
    exact at_iret rfl (by decide +kernel) h
  · rw [if_neg c10] at h
    refine at_iload_n (i := 2) 2 14 rfl (by decide +kernel) rfl ?_
    refine at_i2l 15 rfl (by decide +kernel) ?_
    refine at_lconst (n := 0) (0 : Int64) 16 rfl (by decide +kernel) (by decide +kernel) ?_
    refine at_ldc2 (index := 339) (500000 : Int64) 19 rfl (by decide +kernel) tw_1432 ?_
    refine at_callS mb_RF_in tw_1293 (index := 154) tw_1292 [.long (l2.toInt64), .long ((0 : Int64)), .long ((500000 : Int64))] [] rfl rfl (by decide) 22 rfl (by decide +kernel) (Call.toI (CI.monoE h (fun x11 m12 h y13 => ?_)))
    have k14 : mK m12 t = 13 := y13.k k9 (by decide)
    refine at_if_ne (off := 6) 28 25 rfl (by decide +kernel) (by decide +kernel) (fun c15 => ?_) (fun c15 => ?_)
    · rw [if_neg c15] at h
      refine at_aload_n (i := 0) 0 29 rfl (by decide +kernel) rfl ?_
      refine at_get (index := 67) (v := va_rf (mR m12 t 22)) cok12 22 32 rfl (by decide +kernel) k14 (by decide +kernel) tw_1107 rfl ?_
      obtain ⟨b16, e17, h⟩ := h
      rw [e17]
      refine at_iload_n (i := 1) 1 33 rfl (by decide +kernel) rfl ?_
      refine at_iload_n (i := 2) 2 34 rfl (by decide +kernel) rfl ?_
      obtain ⟨k18, h⟩ := h
      obtain ⟨v19, h⟩ := h
      refine at_iast 35 rfl (by decide +kernel) k18 v19 (fun m20 e21 => ?_)
      replace h := h m20 e21
      have x22 : Ext m12 m20 := by rw [e21]; exact Ext.sI _ _ _ _
      have k23 : mK m20 t = 13 := x22.k k14 (by decide)
      have k24 : mK m20 b16 = 15 := x22.k k18 (by decide)
      have e25 : mR m20 t 22 = some b16 := x22.r k14 (by decide) rfl e17
      refine at_iconst (n := 0) (0 : Int32) 36 rfl (by decide +kernel) (by decide +kernel) ?_
      exact at_iret rfl (by decide +kernel) h
    · rw [if_pos c15] at h
      refine at_bipush (n := (-2)) (-2 : Int32) 27 rfl (by decide +kernel) (by decide +kernel) ?_
      exact at_iret rfl (by decide +kernel) h
set_option maxRecDepth 20000 in
set_option maxHeartbeats 4000000 in
theorem bk_RF_crops_85 (g : Gc) {lv : Nat} {t : Nat} {l1 : Int32} {l2 : Int32} {m : Mm} {Q : Int32 → Mm → Prop} (h : mK m t = 13 ∧ (if (mI m t 19) ≤ (l2) then (Q (mI m t 19) m) else (∃ b3, mR m t 22 = some b3 ∧ (∃ b5, mR m t 3 = some b5 ∧ (mK m b5 = 16 ∧ (vp_in (((60 : Int32) * l1) + l2) (mN m b5) ∧ (mK m b3 = 15 ∧ (vp_in l2 (mN m b3) ∧ (∀ m11, m11 = sI m b3 l2.toNatClampNeg ((mL m b5 (((60 : Int32) * l1) + l2).toNatClampNeg).toInt32) → (At g M_RF_crops (lv + 1) 85 [(0, va_rf (some t)), (1, .int (l1)), (2, .int (l2 + (1 : Int32)))] [] m11 (QI Q))))))))))) : At g M_RF_crops (lv + 1) 85 [(0, va_rf (some t)), (1, .int (l1)), (2, .int (l2))] [] m (QI Q) := by
  refine at_iload_n (i := 2) 2 86 rfl (by decide +kernel) rfl ?_
  refine at_aload_n (i := 0) 0 87 rfl (by decide +kernel) rfl ?_
  obtain ⟨k1, h⟩ := h
  refine at_get (index := 185) (v := .int (mI m t 19)) cok12 19 90 rfl (by decide +kernel) k1 (by decide +kernel) tw_1104 rfl ?_
  refine at_icmp_ge (off := 27) 117 93 rfl (by decide +kernel) (by decide +kernel) (fun c2 => ?_) (fun c2 => ?_)
  · rw [if_pos c2] at h
    refine at_aload_n (i := 0) 0 118 rfl (by decide +kernel) rfl ?_
    refine at_get (index := 185) (v := .int (mI m t 19)) cok12 19 121 rfl (by decide +kernel) k1 (by decide +kernel) tw_1104 rfl ?_
    exact at_iret rfl (by decide +kernel) h
  · rw [if_neg c2] at h
    refine at_aload_n (i := 0) 0 94 rfl (by decide +kernel) rfl ?_
    refine at_get (index := 67) (v := va_rf (mR m t 22)) cok12 22 97 rfl (by decide +kernel) k1 (by decide +kernel) tw_1107 rfl ?_
    obtain ⟨b3, e4, h⟩ := h
    rw [e4]
    refine at_iload_n (i := 2) 2 98 rfl (by decide +kernel) rfl ?_
    refine at_aload_n (i := 0) 0 99 rfl (by decide +kernel) rfl ?_
    refine at_get (index := 16) (v := va_rf (mR m t 3)) cok12 3 102 rfl (by decide +kernel) k1 (by decide +kernel) tw_1088 rfl ?_
    obtain ⟨b5, e6, h⟩ := h
    rw [e6]
    refine at_bipush (n := 60) (60 : Int32) 104 rfl (by decide +kernel) (by decide +kernel) ?_
    refine at_iload_n (i := 1) 1 105 rfl (by decide +kernel) rfl ?_
    refine at_imul 106 rfl (by decide +kernel) ?_
    refine at_iload_n (i := 2) 2 107 rfl (by decide +kernel) rfl ?_
    refine at_iadd 108 rfl (by decide +kernel) ?_
    obtain ⟨k7, h⟩ := h
    obtain ⟨v8, h⟩ := h
    refine at_lald 109 rfl (by decide +kernel) k7 v8 ?_
    refine at_l2i 110 rfl (by decide +kernel) ?_
    obtain ⟨k9, h⟩ := h
    obtain ⟨v10, h⟩ := h
    refine at_iast 111 rfl (by decide +kernel) k9 v10 (fun m11 e12 => ?_)
    replace h := h m11 e12
    have x13 : Ext m m11 := by rw [e12]; exact Ext.sI _ _ _ _
    have k14 : mK m11 t = 13 := x13.k k1 (by decide)
    have k15 : mK m11 b5 = 16 := x13.k k7 (by decide)
    have k16 : mK m11 b3 = 15 := x13.k k9 (by decide)
    have e17 : mR m11 t 22 = some b3 := x13.r k1 (by decide) rfl e4
    have e18 : mR m11 t 3 = some b5 := x13.r k1 (by decide) rfl e6
    refine at_iinc (i := 2) (n := 1) (lc' := [(0, va_rf (some t)), (1, .int (l1)), (2, .int (l2 + (1 : Int32)))]) (l2 + (1 : Int32)) 2 [1, 2, 0] 114 rfl (by decide +kernel) rfl (by rw [show Int32.ofInt 1 = (1 : Int32) from by decide +kernel]) (by decide +kernel) rfl ?_
    refine at_goto (off := (-29)) 85 (by decide +kernel) (by decide +kernel) ?_
    exact h
set_option maxRecDepth 20000 in
set_option maxHeartbeats 4000000 in
theorem bk_RF_crops_45 (g : Gc) {lv : Nat} {t : Nat} {l1 : Int32} {l2 : Int32} {m : Mm} {Q : Int32 → Mm → Prop} (h : mK m t = 13 ∧ (if (mI m t 19) ≤ (l2) then (At g M_RF_crops (lv + 1) 85 [(0, va_rf (some t)), (1, .int (l1)), (2, .int ((0 : Int32)))] [] m (QI Q)) else (∃ b3, mR m t 3 = some b3 ∧ (mK m b3 = 16 ∧ (vp_in (((60 : Int32) * l1) + l2) (mN m b3) ∧ (CI g M_RF_in lv [.long (mL m b3 (((60 : Int32) * l1) + l2).toNatClampNeg), .long ((0 : Int64)), .long ((500000 : Int64))] m (fun x7 m8 => (if (x7) = 0 then (Q (-4 : Int32) m8) else (At g M_RF_crops (lv + 1) 45 [(0, va_rf (some t)), (1, .int (l1)), (2, .int (l2 + (1 : Int32)))] [] m8 (QI Q)))))))))) : At g M_RF_crops (lv + 1) 45 [(0, va_rf (some t)), (1, .int (l1)), (2, .int (l2))] [] m (QI Q) := by
  refine at_iload_n (i := 2) 2 46 rfl (by decide +kernel) rfl ?_
  refine at_aload_n (i := 0) 0 47 rfl (by decide +kernel) rfl ?_
  obtain ⟨k1, h⟩ := h
  refine at_get (index := 185) (v := .int (mI m t 19)) cok12 19 50 rfl (by decide +kernel) k1 (by decide +kernel) tw_1104 rfl ?_
  refine at_icmp_ge (off := 33) 83 53 rfl (by decide +kernel) (by decide +kernel) (fun c2 => ?_) (fun c2 => ?_)
  · rw [if_pos c2] at h
    refine at_iconst (n := 0) (0 : Int32) 84 rfl (by decide +kernel) (by decide +kernel) ?_
    refine at_istore_n (i := 2) (lc' := [(0, va_rf (some t)), (1, .int (l1)), (2, .int ((0 : Int32)))]) [1, 2, 0] 85 rfl (by decide +kernel) (by decide +kernel) rfl ?_
    exact h
  · rw [if_neg c2] at h
    refine at_aload_n (i := 0) 0 54 rfl (by decide +kernel) rfl ?_
    refine at_get (index := 16) (v := va_rf (mR m t 3)) cok12 3 57 rfl (by decide +kernel) k1 (by decide +kernel) tw_1088 rfl ?_
    obtain ⟨b3, e4, h⟩ := h
    rw [e4]
    refine at_bipush (n := 60) (60 : Int32) 59 rfl (by decide +kernel) (by decide +kernel) ?_
    refine at_iload_n (i := 1) 1 60 rfl (by decide +kernel) rfl ?_
    refine at_imul 61 rfl (by decide +kernel) ?_
    refine at_iload_n (i := 2) 2 62 rfl (by decide +kernel) rfl ?_
    refine at_iadd 63 rfl (by decide +kernel) ?_
    obtain ⟨k5, h⟩ := h
    obtain ⟨v6, h⟩ := h
    refine at_lald 64 rfl (by decide +kernel) k5 v6 ?_
    refine at_lconst (n := 0) (0 : Int64) 65 rfl (by decide +kernel) (by decide +kernel) ?_
    refine at_ldc2 (index := 339) (500000 : Int64) 68 rfl (by decide +kernel) tw_1432 ?_
    refine at_callS mb_RF_in tw_1293 (index := 154) tw_1292 [.long (mL m b3 (((60 : Int32) * l1) + l2).toNatClampNeg), .long ((0 : Int64)), .long ((500000 : Int64))] [] rfl rfl (by decide) 71 rfl (by decide +kernel) (Call.toI (CI.monoE h (fun x7 m8 h y9 => ?_)))
    have k10 : mK m8 t = 13 := y9.k k1 (by decide)
    have k11 : mK m8 b3 = 16 := y9.k k5 (by decide)
    have e12 : mR m8 t 3 = some b3 := y9.r k1 (by decide) rfl e4
    refine at_if_ne (off := 6) 77 74 rfl (by decide +kernel) (by decide +kernel) (fun c13 => ?_) (fun c13 => ?_)
    · rw [if_neg c13] at h
      refine at_iinc (i := 2) (n := 1) (lc' := [(0, va_rf (some t)), (1, .int (l1)), (2, .int (l2 + (1 : Int32)))]) (l2 + (1 : Int32)) 2 [1, 2, 0] 80 rfl (by decide +kernel) rfl (by rw [show Int32.ofInt 1 = (1 : Int32) from by decide +kernel]) (by decide +kernel) rfl ?_
      refine at_goto (off := (-35)) 45 (by decide +kernel) (by decide +kernel) ?_
      exact h
    · rw [if_pos c13] at h
      refine at_bipush (n := (-4)) (-4 : Int32) 76 rfl (by decide +kernel) (by decide +kernel) ?_
      exact at_iret rfl (by decide +kernel) h
set_option maxRecDepth 20000 in
set_option maxHeartbeats 4000000 in
theorem en_RF_crops (g : Gc) {lv : Nat} {t : Nat} {l1 : Int32} {m : Mm} {Q : Int32 → Mm → Prop} (h : mK m t = 13 ∧ (∀ m2, m2 = sI m t 0 (0 : Int32) → (CI g M_RF_isSlot lv [.int (l1)] m2 (fun x6 m7 => (if (x6) = 0 then (Q (-2 : Int32) m7) else (∃ b11, mR m7 t 1 = some b11 ∧ (mK m7 b11 = 15 ∧ (vp_in l1 (mN m7 b11) ∧ (if 0 ≤ (mI m7 b11 l1.toNatClampNeg) then (∃ b16, mR m7 t 2 = some b16 ∧ (mK m7 b16 = 15 ∧ (vp_in l1 (mN m7 b16) ∧ (if (mI m7 t 19) ≤ (mI m7 b16 l1.toNatClampNeg) then (At g M_RF_crops (lv + 1) 45 [(0, va_rf (some t)), (1, .int (l1)), (2, .int ((0 : Int32)))] [] m7 (QI Q)) else (Q (-6 : Int32) m7))))) else (Q (-5 : Int32) m7)))))))))) : CI g M_RF_crops (lv + 1) [va_rf (some t), .int (l1)] m Q := by
  refine Call.of (by decide +kernel) (Nat.le_of_ble_eq_true rfl) ?_
  show At g M_RF_crops (lv + 1) 0 [(0, va_rf (some t)), (1, .int (l1))] [] m (QI Q)
  refine at_aload_n (i := 0) 0 1 rfl (by decide +kernel) rfl ?_
  refine at_iconst (n := 0) (0 : Int32) 2 rfl (by decide +kernel) (by decide +kernel) ?_
  obtain ⟨k1, h⟩ := h
  refine at_putI (index := 149) cok12 0 5 rfl (by decide +kernel) k1 (by decide +kernel) tw_1085 rfl rfl rfl (fun m2 e3 => ?_)
  replace h := h m2 e3
  have x4 : Ext m m2 := by rw [e3]; exact Ext.sI _ _ _ _
  have k5 : mK m2 t = 13 := x4.k k1 (by decide)
  refine at_iload_n (i := 1) 1 6 rfl (by decide +kernel) rfl ?_
  refine at_callS mb_RF_isSlot tw_1289 (index := 158) tw_1288 [.int (l1)] [] rfl rfl (by decide) 9 rfl (by decide +kernel) (Call.toI (CI.monoE h (fun x6 m7 h y8 => ?_)))
  have k9 : mK m7 t = 13 := y8.k k5 (by decide)
  refine at_if_ne (off := 6) 15 12 rfl (by decide +kernel) (by decide +kernel) (fun c10 => ?_) (fun c10 => ?_)
  · rw [if_neg c10] at h
    refine at_aload_n (i := 0) 0 16 rfl (by decide +kernel) rfl ?_
    refine at_get (index := 9) (v := va_rf (mR m7 t 1)) cok12 1 19 rfl (by decide +kernel) k9 (by decide +kernel) tw_1086 rfl ?_
    obtain ⟨b11, e12, h⟩ := h
    rw [e12]
    refine at_iload_n (i := 1) 1 20 rfl (by decide +kernel) rfl ?_
    obtain ⟨k13, h⟩ := h
    obtain ⟨v14, h⟩ := h
    refine at_iald 21 rfl (by decide +kernel) k13 v14 ?_
    refine at_if_ge (off := 6) 27 24 rfl (by decide +kernel) (by decide +kernel) (fun c15 => ?_) (fun c15 => ?_)
    · rw [if_pos c15] at h
      refine at_aload_n (i := 0) 0 28 rfl (by decide +kernel) rfl ?_
      refine at_get (index := 13) (v := va_rf (mR m7 t 2)) cok12 2 31 rfl (by decide +kernel) k9 (by decide +kernel) tw_1087 rfl ?_
      obtain ⟨b16, e17, h⟩ := h
      rw [e17]
      refine at_iload_n (i := 1) 1 32 rfl (by decide +kernel) rfl ?_
      obtain ⟨k18, h⟩ := h
      obtain ⟨v19, h⟩ := h
      refine at_iald 33 rfl (by decide +kernel) k18 v19 ?_
      refine at_aload_n (i := 0) 0 34 rfl (by decide +kernel) rfl ?_
      refine at_get (index := 185) (v := .int (mI m7 t 19)) cok12 19 37 rfl (by decide +kernel) k9 (by decide +kernel) tw_1104 rfl ?_
      refine at_icmp_ge (off := 6) 43 40 rfl (by decide +kernel) (by decide +kernel) (fun c20 => ?_) (fun c20 => ?_)
      · rw [if_pos c20] at h
        refine at_iconst (n := 0) (0 : Int32) 44 rfl (by decide +kernel) (by decide +kernel) ?_
        refine at_istore_n (i := 2) (lc' := [(0, va_rf (some t)), (1, .int (l1)), (2, .int ((0 : Int32)))]) [1, 2, 0] 45 rfl (by decide +kernel) (by decide +kernel) rfl ?_
        exact h
      · rw [if_neg c20] at h
        refine at_bipush (n := (-6)) (-6 : Int32) 42 rfl (by decide +kernel) (by decide +kernel) ?_
        exact at_iret rfl (by decide +kernel) h
    · rw [if_neg c15] at h
      refine at_bipush (n := (-5)) (-5 : Int32) 26 rfl (by decide +kernel) (by decide +kernel) ?_
      exact at_iret rfl (by decide +kernel) h
  · rw [if_pos c10] at h
    refine at_bipush (n := (-2)) (-2 : Int32) 14 rfl (by decide +kernel) (by decide +kernel) ?_
    exact at_iret rfl (by decide +kernel) h
set_option maxRecDepth 20000 in
set_option maxHeartbeats 4000000 in
theorem bk_RF_store_4 (g : Gc) {lv : Nat} {t : Nat} {l1 : Int32} {l2 : Int32} {l3 : Int32} {m : Mm} {Q : Int32 → Mm → Prop} (h : mK m t = 13 ∧ (∃ b2, mR m t 33 = some b2 ∧ (mK m b2 = 15 ∧ (vp_in l1 (mN m b2) ∧ (if (mI m b2 l1.toNatClampNeg) ≤ (l3) then (Q l2 m) else (∃ b7, mR m t 41 = some b7 ∧ (mK m b7 = 15 ∧ (vp_in (((400 : Int32) * l1) + l3) (mN m b7) ∧ (At g M_RF_store (lv + 1) 4 [(0, va_rf (some t)), (1, .int (l1)), (2, .int (l2 + (mI m b7 (((400 : Int32) * l1) + l3).toNatClampNeg))), (3, .int (l3 + (1 : Int32)))] [] m (QI Q)))))))))) : At g M_RF_store (lv + 1) 4 [(0, va_rf (some t)), (1, .int (l1)), (2, .int (l2)), (3, .int (l3))] [] m (QI Q) := by
  refine at_iload_n (i := 3) 3 5 rfl (by decide +kernel) rfl ?_
  refine at_aload_n (i := 0) 0 6 rfl (by decide +kernel) rfl ?_
  obtain ⟨k1, h⟩ := h
  refine at_get (index := 101) (v := va_rf (mR m t 33)) cok12 33 9 rfl (by decide +kernel) k1 (by decide +kernel) tw_1118 rfl ?_
  obtain ⟨b2, e3, h⟩ := h
  rw [e3]
  refine at_iload_n (i := 1) 1 10 rfl (by decide +kernel) rfl ?_
  obtain ⟨k4, h⟩ := h
  obtain ⟨v5, h⟩ := h
  refine at_iald 11 rfl (by decide +kernel) k4 v5 ?_
  refine at_icmp_ge (off := 24) 35 14 rfl (by decide +kernel) (by decide +kernel) (fun c6 => ?_) (fun c6 => ?_)
  · rw [if_pos c6] at h
    refine at_iload_n (i := 2) 2 36 rfl (by decide +kernel) rfl ?_
    exact at_iret rfl (by decide +kernel) h
  · rw [if_neg c6] at h
    refine at_iload_n (i := 2) 2 15 rfl (by decide +kernel) rfl ?_
    refine at_aload_n (i := 0) 0 16 rfl (by decide +kernel) rfl ?_
    refine at_get (index := 125) (v := va_rf (mR m t 41)) cok12 41 19 rfl (by decide +kernel) k1 (by decide +kernel) tw_1126 rfl ?_
    obtain ⟨b7, e8, h⟩ := h
    rw [e8]
    refine at_sipush (n := 400) (400 : Int32) 22 rfl (by decide +kernel) (by decide +kernel) ?_
    refine at_iload_n (i := 1) 1 23 rfl (by decide +kernel) rfl ?_
    refine at_imul 24 rfl (by decide +kernel) ?_
    refine at_iload_n (i := 3) 3 25 rfl (by decide +kernel) rfl ?_
    refine at_iadd 26 rfl (by decide +kernel) ?_
    obtain ⟨k9, h⟩ := h
    obtain ⟨v10, h⟩ := h
    refine at_iald 27 rfl (by decide +kernel) k9 v10 ?_
    refine at_iadd 28 rfl (by decide +kernel) ?_
    refine at_istore_n (i := 2) (lc' := [(0, va_rf (some t)), (1, .int (l1)), (2, .int (l2 + (mI m b7 (((400 : Int32) * l1) + l3).toNatClampNeg))), (3, .int (l3))]) [1, 2, 0, 3] 29 rfl (by decide +kernel) (by decide +kernel) rfl ?_
    refine at_iinc (i := 3) (n := 1) (lc' := [(0, va_rf (some t)), (1, .int (l1)), (2, .int (l2 + (mI m b7 (((400 : Int32) * l1) + l3).toNatClampNeg))), (3, .int (l3 + (1 : Int32)))]) (l3 + (1 : Int32)) 3 [1, 2, 3, 0] 32 rfl (by decide +kernel) rfl (by rw [show Int32.ofInt 1 = (1 : Int32) from by decide +kernel]) (by decide +kernel) rfl ?_
    refine at_goto (off := (-28)) 4 (by decide +kernel) (by decide +kernel) ?_
    exact h
set_option maxRecDepth 20000 in
set_option maxHeartbeats 4000000 in
theorem en_RF_store (g : Gc) {lv : Nat} {t : Nat} {l1 : Int32} {m : Mm} {Q : Int32 → Mm → Prop} (h : At g M_RF_store (lv + 1) 4 [(0, va_rf (some t)), (1, .int (l1)), (2, .int ((0 : Int32))), (3, .int ((0 : Int32)))] [] m (QI Q)) : CI g M_RF_store (lv + 1) [va_rf (some t), .int (l1)] m Q := by
  refine Call.of (by decide +kernel) (Nat.le_of_ble_eq_true rfl) ?_
  show At g M_RF_store (lv + 1) 0 [(0, va_rf (some t)), (1, .int (l1))] [] m (QI Q)
  refine at_iconst (n := 0) (0 : Int32) 1 rfl (by decide +kernel) (by decide +kernel) ?_
  refine at_istore_n (i := 2) (lc' := [(0, va_rf (some t)), (1, .int (l1)), (2, .int ((0 : Int32)))]) [1, 2, 0] 2 rfl (by decide +kernel) (by decide +kernel) rfl ?_
  refine at_iconst (n := 0) (0 : Int32) 3 rfl (by decide +kernel) (by decide +kernel) ?_
  refine at_istore_n (i := 3) (lc' := [(0, va_rf (some t)), (1, .int (l1)), (2, .int ((0 : Int32))), (3, .int ((0 : Int32)))]) [1, 2, 3, 0] 4 rfl (by decide +kernel) (by decide +kernel) rfl ?_
  exact h
set_option maxRecDepth 20000 in
set_option maxHeartbeats 4000000 in
theorem bk_RF_frees_4 (g : Gc) {lv : Nat} {t : Nat} {l1 : Int32} {l2 : Int32} {l3 : Int32} {m : Mm} {Q : Int32 → Mm → Prop} (h : mK m t = 13 ∧ (if (mI m t 19) ≤ (l3) then (Q l2 m) else (∃ b3, mR m t 37 = some b3 ∧ (mK m b3 = 15 ∧ (vp_in (((12 : Int32) * l1) + l3) (mN m b3) ∧ (At g M_RF_frees (lv + 1) 4 [(0, va_rf (some t)), (1, .int (l1)), (2, .int (l2 + (mI m b3 (((12 : Int32) * l1) + l3).toNatClampNeg))), (3, .int (l3 + (1 : Int32)))] [] m (QI Q))))))) : At g M_RF_frees (lv + 1) 4 [(0, va_rf (some t)), (1, .int (l1)), (2, .int (l2)), (3, .int (l3))] [] m (QI Q) := by
  refine at_iload_n (i := 3) 3 5 rfl (by decide +kernel) rfl ?_
  refine at_aload_n (i := 0) 0 6 rfl (by decide +kernel) rfl ?_
  obtain ⟨k1, h⟩ := h
  refine at_get (index := 185) (v := .int (mI m t 19)) cok12 19 9 rfl (by decide +kernel) k1 (by decide +kernel) tw_1104 rfl ?_
  refine at_icmp_ge (off := 23) 32 12 rfl (by decide +kernel) (by decide +kernel) (fun c2 => ?_) (fun c2 => ?_)
  · rw [if_pos c2] at h
    refine at_iload_n (i := 2) 2 33 rfl (by decide +kernel) rfl ?_
    exact at_iret rfl (by decide +kernel) h
  · rw [if_neg c2] at h
    refine at_iload_n (i := 2) 2 13 rfl (by decide +kernel) rfl ?_
    refine at_aload_n (i := 0) 0 14 rfl (by decide +kernel) rfl ?_
    refine at_get (index := 113) (v := va_rf (mR m t 37)) cok12 37 17 rfl (by decide +kernel) k1 (by decide +kernel) tw_1122 rfl ?_
    obtain ⟨b3, e4, h⟩ := h
    rw [e4]
    refine at_bipush (n := 12) (12 : Int32) 19 rfl (by decide +kernel) (by decide +kernel) ?_
    refine at_iload_n (i := 1) 1 20 rfl (by decide +kernel) rfl ?_
    refine at_imul 21 rfl (by decide +kernel) ?_
    refine at_iload_n (i := 3) 3 22 rfl (by decide +kernel) rfl ?_
    refine at_iadd 23 rfl (by decide +kernel) ?_
    obtain ⟨k5, h⟩ := h
    obtain ⟨v6, h⟩ := h
    refine at_iald 24 rfl (by decide +kernel) k5 v6 ?_
    refine at_iadd 25 rfl (by decide +kernel) ?_
    refine at_istore_n (i := 2) (lc' := [(0, va_rf (some t)), (1, .int (l1)), (2, .int (l2 + (mI m b3 (((12 : Int32) * l1) + l3).toNatClampNeg))), (3, .int (l3))]) [1, 2, 0, 3] 26 rfl (by decide +kernel) (by decide +kernel) rfl ?_
    refine at_iinc (i := 3) (n := 1) (lc' := [(0, va_rf (some t)), (1, .int (l1)), (2, .int (l2 + (mI m b3 (((12 : Int32) * l1) + l3).toNatClampNeg))), (3, .int (l3 + (1 : Int32)))]) (l3 + (1 : Int32)) 3 [1, 2, 3, 0] 29 rfl (by decide +kernel) rfl (by rw [show Int32.ofInt 1 = (1 : Int32) from by decide +kernel]) (by decide +kernel) rfl ?_
    refine at_goto (off := (-25)) 4 (by decide +kernel) (by decide +kernel) ?_
    exact h
set_option maxRecDepth 20000 in
set_option maxHeartbeats 4000000 in
theorem en_RF_frees (g : Gc) {lv : Nat} {t : Nat} {l1 : Int32} {m : Mm} {Q : Int32 → Mm → Prop} (h : At g M_RF_frees (lv + 1) 4 [(0, va_rf (some t)), (1, .int (l1)), (2, .int ((0 : Int32))), (3, .int ((0 : Int32)))] [] m (QI Q)) : CI g M_RF_frees (lv + 1) [va_rf (some t), .int (l1)] m Q := by
  refine Call.of (by decide +kernel) (Nat.le_of_ble_eq_true rfl) ?_
  show At g M_RF_frees (lv + 1) 0 [(0, va_rf (some t)), (1, .int (l1))] [] m (QI Q)
  refine at_iconst (n := 0) (0 : Int32) 1 rfl (by decide +kernel) (by decide +kernel) ?_
  refine at_istore_n (i := 2) (lc' := [(0, va_rf (some t)), (1, .int (l1)), (2, .int ((0 : Int32)))]) [1, 2, 0] 2 rfl (by decide +kernel) (by decide +kernel) rfl ?_
  refine at_iconst (n := 0) (0 : Int32) 3 rfl (by decide +kernel) (by decide +kernel) ?_
  refine at_istore_n (i := 3) (lc' := [(0, va_rf (some t)), (1, .int (l1)), (2, .int ((0 : Int32))), (3, .int ((0 : Int32)))]) [1, 2, 3, 0] 4 rfl (by decide +kernel) (by decide +kernel) rfl ?_
  exact h
set_option maxRecDepth 20000 in
set_option maxHeartbeats 4000000 in
theorem en_RF_wants (g : Gc) {lv : Nat} {t : Nat} {l1 : Int32} {m : Mm} {Q : Int32 → Mm → Prop} (h : mK m t = 13 ∧ (∃ b2, mR m t 32 = some b2 ∧ (mK m b2 = 15 ∧ (vp_in l1 (mN m b2) ∧ (Q ((lmx (0 : Int64) (((mI m t 5).toInt64) - ((((mI m t 6).toInt64) * ((mI m b2 l1.toNatClampNeg).toInt64)) / (100 : Int64)))).toInt32) m))))) : CI g M_RF_wants (lv + 1) [va_rf (some t), .int (l1)] m Q := by
  refine Call.of (by decide +kernel) (Nat.le_of_ble_eq_true rfl) ?_
  show At g M_RF_wants (lv + 1) 0 [(0, va_rf (some t)), (1, .int (l1))] [] m (QI Q)
  refine at_lconst (n := 0) (0 : Int64) 1 rfl (by decide +kernel) (by decide +kernel) ?_
  refine at_aload_n (i := 0) 0 2 rfl (by decide +kernel) rfl ?_
  obtain ⟨k1, h⟩ := h
  refine at_get (index := 23) (v := .int (mI m t 5)) cok12 5 5 rfl (by decide +kernel) k1 (by decide +kernel) tw_1090 rfl ?_
  refine at_i2l 6 rfl (by decide +kernel) ?_
  refine at_aload_n (i := 0) 0 7 rfl (by decide +kernel) rfl ?_
  refine at_get (index := 27) (v := .int (mI m t 6)) cok12 6 10 rfl (by decide +kernel) k1 (by decide +kernel) tw_1091 rfl ?_
  refine at_i2l 11 rfl (by decide +kernel) ?_
  refine at_aload_n (i := 0) 0 12 rfl (by decide +kernel) rfl ?_
  refine at_get (index := 98) (v := va_rf (mR m t 32)) cok12 32 15 rfl (by decide +kernel) k1 (by decide +kernel) tw_1117 rfl ?_
  obtain ⟨b2, e3, h⟩ := h
  rw [e3]
  refine at_iload_n (i := 1) 1 16 rfl (by decide +kernel) rfl ?_
  obtain ⟨k4, h⟩ := h
  obtain ⟨v5, h⟩ := h
  refine at_iald 17 rfl (by decide +kernel) k4 v5 ?_
  refine at_i2l 18 rfl (by decide +kernel) ?_
  refine at_lmul 19 rfl (by decide +kernel) ?_
  refine at_ldc2 (index := 174) (100 : Int64) 22 rfl (by decide +kernel) tw_1318 ?_
  refine at_ldiv 23 rfl (by decide +kernel) (by decide +kernel) ?_
  refine at_lsub 24 rfl (by decide +kernel) ?_
  refine at_lmx (index := 341) 27 rfl (by decide +kernel) tw_1453 (by decide) ?_
  refine at_l2i 28 rfl (by decide +kernel) ?_
  exact at_iret rfl (by decide +kernel) h
