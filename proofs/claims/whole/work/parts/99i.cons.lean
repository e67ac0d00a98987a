/-! ===== the constructors (made by wip/tools/gencons.py) ===== -/
theorem stNL {g : Gc} {b : Mm} {l : List Op} {P : Nat → Mm → Prop} {kd : Nat} {c : Int32} (i n k0 : Nat) (hf : Frb g b) (hb : mC b = k0) (hi : k0 + cnt l = i) (hk : cK l i = none) (hc : c = nI n) (hn : n ≤ 10000) (h : P (gz g + i) (run g b ((0, i, kd, n, n) :: l))) : mK (run g b l) (gz g + mC (run g b l)) = 0 ∧ (¬ c < 0 ∧ c.toNatClampNeg ≤ 10000 ∧ ∀ q m', q = gz g + mC (run g b l) → m' = nw (run g b l) q kd c.toNatClampNeg c.toNatClampNeg → P q m') := by
  subst hc
  rw [nI_clamp (show n < 2 ^ 31 by omega)]
  obtain ⟨a1, a2⟩ := stN (P := P) (kd := kd) i n n k0 hf hb hi hk rfl rfl h
  exact ⟨a1, nI_pos (by omega), hn, a2⟩
theorem fill4 {g : Gc} {b : Mm} {l : List Op} {a : Nat} {f : Nat → Int32} (h1 : ∀ i, i < 4 → f i = -1) (h2 : ∀ i, 4 ≤ i → f i = mI (run g b l) (gz g + a) i) : rI (run g b l) (gz g + a) f = run g b ((3, a, 3, 0, 0) :: (3, a, 2, 0, 0) :: (3, a, 1, 0, 0) :: (3, a, 0, 0, 0) :: l) := by
  show rI (run g b l) (gz g + a) f = sI (sI (sI (sI (run g b l) (gz g + a) 0 (-1)) (gz g + a) 1 (-1)) (gz g + a) 2 (-1)) (gz g + a) 3 (-1)
  generalize run g b l = m at h2
  refine Prod.ext ?_ rfl
  show va_up (mI m) (gz g + a) f = up2 (up2 (up2 (up2 (mI m) (gz g + a) 0 (-1)) (gz g + a) 1 (-1)) (gz g + a) 2 (-1)) (gz g + a) 3 (-1)
  funext x i
  by_cases hx : x = gz g + a
  · subst hx
    have e0 : va_up (mI m) (gz g + a) f (gz g + a) = f := by simp [va_up]
    rw [e0]
    by_cases hi : i < 4
    · rw [h1 i hi]
      rcases (show i = 0 ∨ i = 1 ∨ i = 2 ∨ i = 3 by omega) with rfl | rfl | rfl | rfl
      · rw [up2_sl (by omega), up2_sl (by omega), up2_sl (by omega), up2_at]
      · rw [up2_sl (by omega), up2_sl (by omega), up2_at]
      · rw [up2_sl (by omega), up2_at]
      · rw [up2_at]
    · rw [h2 i (by omega), up2_sl (by omega), up2_sl (by omega), up2_sl (by omega), up2_sl (by omega)]
  · have e0 : va_up (mI m) (gz g + a) f x = mI m x := by simp [va_up, hx]
    rw [e0, up2_oth hx, up2_oth hx, up2_oth hx, up2_oth hx]
theorem fresh {g : Gc} {l : List Op} (i : Nat) (hi : 0 + cnt l = i) (hk : cK l i = none) : mK (run g m00 l) (gz g + mC (run g m00 l)) = 0 := (stN (P := fun _ _ => True) (kd := 0) i 0 0 0 (frb0 g) rfl hi hk rfl rfl trivial).1
theorem cSetsL (g : Gc) {lv : Nat} {l : List Op} (hi : 0 + cnt l = 144) (hk : cK l 144 = none) {Q : Option Nat → Mm → Prop} (h : ∀ f : Nat → Int64, (∀ n k, n ≤ 60 → k ≤ n → f (n * (n + 1) / 2 + k) = ch n k) → Q (some (gz g + 144)) (rL (run g m00 ((0, 144, 16, 1891, 1891) :: l)) (gz g + 144) f)) : CR g M_SL_countSets (lv + 1) [] (run g m00 l) Q := by
  have c : mC (run g m00 l) = 144 := (run_C l).1.trans hi
  refine c_countSets g (fresh 144 hi hk) (fun f hf => ?_)
  rw [c]
  exact h f hf
theorem stRL {g : Gc} {b : Mm} {l : List Op} {P : Mm → Prop} {a j x s : Nat} {f : Nat → Int64} (hr : cR l a j = some none) (h : P (sR (rL (run g b l) (gz g + s) f) (gz g + a) j (some (gz g + x)))) : mR (rL (run g b l) (gz g + s) f) (gz g + a) j = none ∧ ∀ m', m' = sR (rL (run g b l) (gz g + s) f) (gz g + a) j (some (gz g + x)) → P m' := by
  have := (run_ok (g := g) (b := b) l a).2.1 j
  rw [hr] at this
  refine ⟨this, fun m' e => ?_⟩
  subst e
  exact h
def ngs (a : Nat) : Nat → List Op → List Op
  | 0, l => l
  | k + 1, l => (3, a, k, 0, 0) :: ngs a k l
theorem cK_ngs {a x : Nat} {l : List Op} : ∀ k, cK (ngs a k l) x = cK l x
  | 0 => rfl
  | k + 1 => by
    show (if (3 : Nat) = 0 ∧ a = x then _ else cK (ngs a k l) x) = _
    rw [if_neg (by omega), cK_ngs k]
theorem cR_ngs {a x j : Nat} {l : List Op} : ∀ k, cR (ngs a k l) x j = cR l x j
  | 0 => rfl
  | k + 1 => by
    show (if (3 : Nat) = 0 ∧ a = x then _ else if (3 : Nat) = 1 ∧ a = x ∧ k = j then _ else cR (ngs a k l) x j) = _
    rw [if_neg (by omega), if_neg (by omega), cR_ngs k]
theorem cnt_ngs {a : Nat} {l : List Op} : ∀ k, cnt (ngs a k l) = cnt l ∧ szs (ngs a k l) = szs l
  | 0 => ⟨rfl, rfl⟩
  | k + 1 => by
    obtain ⟨h1, h2⟩ := cnt_ngs (a := a) (l := l) k
    show (if (3 : Nat) = 0 then 1 else 0) + cnt (ngs a k l) = _ ∧ (if (3 : Nat) = 0 then 0 else 0) + szs (ngs a k l) = _
    rw [if_neg (by omega), if_neg (by omega), h1, h2]
    omega
theorem cV_ngs {a x j : Nat} {l : List Op} : ∀ k, cV (ngs a k l) x j = if x = a ∧ j < k then some (-1) else cV l x j
  | 0 => by rw [if_neg (by omega)]; rfl
  | k + 1 => by
    show (if (3 : Nat) = 0 ∧ a = x then _ else if (3 : Nat) = 2 ∧ a = x ∧ k = j then _ else if (3 : Nat) ≠ 0 ∧ (3 : Nat) ≠ 1 ∧ (3 : Nat) ≠ 2 ∧ a = x ∧ k = j then some (-1) else cV (ngs a k l) x j) = _
    rw [if_neg (by omega), if_neg (by omega), cV_ngs k]
    by_cases h : a = x ∧ k = j
    · rw [if_pos (by omega), if_pos (by omega)]
    · rw [if_neg (by omega)]
      by_cases h2 : x = a ∧ j < k
      · rw [if_pos h2, if_pos (by omega)]
      · rw [if_neg h2, if_neg (by omega)]
def LS0 : List Op := [(0, 0, 12, 0, 8)]
def LB2 : List Op := (0, 2, 4, 0, 14) :: (1, 0, 0, 1, 0) :: (2, 1, 6, 0, 0) :: (2, 1, 5, 10, 0) :: (2, 1, 4, 120, 0) :: (2, 1, 3, 100, 0) :: (2, 1, 2, 100, 0) :: (2, 1, 1, 100, 0) :: (2, 1, 0, 1000, 0) :: (0, 1, 11, 0, 7) :: LS0
def LC2_0 : List Op := (1, 2, 0, 1, 0) :: (2, 2, 10, 100, 0) :: (1, 2, 7, 13, 0) :: (0, 13, 16, 8, 8) :: (1, 2, 6, 12, 0) :: (0, 12, 15, 30, 30) :: (1, 2, 5, 11, 0) :: (0, 11, 15, 30, 30) :: (1, 2, 4, 7, 0) :: (1, 7, 2, 10, 0) :: (0, 10, 17, 8, 8) :: (1, 7, 1, 9, 0) :: (0, 9, 16, 32, 32) :: (1, 7, 0, 8, 0) :: (0, 8, 16, 6, 6) :: (0, 7, 3, 0, 9) :: (1, 2, 3, 5, 0) :: (1, 5, 0, 6, 0) :: (0, 6, 21, 400, 400) :: (0, 5, 9, 0, 2) :: (1, 2, 2, 4, 0) :: (0, 4, 18, 3, 3) :: (1, 2, 1, 3, 0) :: (0, 3, 19, 12, 12) :: LB2
def LC2_1 : List Op := (1, 3, 0, 14, 0) :: (1, 14, 2, 17, 0) :: (0, 17, 17, 30, 30) :: (1, 14, 1, 16, 0) :: (0, 16, 15, 30, 30) :: (1, 14, 0, 15, 0) :: (0, 15, 15, 30, 30) :: (0, 14, 2, 0, 13) :: LC2_0
theorem ld80_2_0 (g : Gc) {lv : Nat} {Q : Mm → Prop} (h : At g M_Land_init (lv + 2) 80 [(0, va_rf (some (gz g + 2))), (2, .int (nI 1))] [] (run g m00 LC2_1) (QV Q)) : At g M_Land_init (lv + 2) 80 [(0, va_rf (some (gz g + 2))), (2, .int (nI 0))] [] (run g m00 LC2_0) (QV Q) := by
  refine bk_Land_init_80 g ?_
  rw [if_neg (by decide), show (nI 0).toNatClampNeg = 0 from rfl, nI_s]
  refine stK (n := 0) (by decide +kernel) ?_
  refine ⟨gz g + 3, rR (by decide +kernel), ?_⟩
  refine stN 14 0 13 0 (frb0 g) rfl (by decide +kernel) (by decide +kernel) (by decide +kernel) (by decide +kernel) ?_
  refine en_Grower_init g ?_
  refine stN 15 30 30 0 (frb0 g) rfl (by decide +kernel) (by decide +kernel) (by decide +kernel) (by decide +kernel) ?_
  refine stK (n := 0) (by decide +kernel) ?_
  refine stR (by decide +kernel) ?_
  refine stN 16 30 30 0 (frb0 g) rfl (by decide +kernel) (by decide +kernel) (by decide +kernel) (by decide +kernel) ?_
  refine stR (by decide +kernel) ?_
  refine stN 17 30 30 0 (frb0 g) rfl (by decide +kernel) (by decide +kernel) (by decide +kernel) (by decide +kernel) ?_
  refine stR (by decide +kernel) ?_
  refine stK (n := 12) (by decide +kernel) ?_
  refine stV (k := 19) (n := 12) 0 rfl (by decide +kernel) (by omega) (by omega) ?_
  refine stR (by decide +kernel) ?_
  exact h
def LC2_2 : List Op := (1, 3, 1, 18, 0) :: (1, 18, 2, 21, 0) :: (0, 21, 17, 30, 30) :: (1, 18, 1, 20, 0) :: (0, 20, 15, 30, 30) :: (1, 18, 0, 19, 0) :: (0, 19, 15, 30, 30) :: (0, 18, 2, 0, 13) :: LC2_1
theorem ld80_2_1 (g : Gc) {lv : Nat} {Q : Mm → Prop} (h : At g M_Land_init (lv + 2) 80 [(0, va_rf (some (gz g + 2))), (2, .int (nI 2))] [] (run g m00 LC2_2) (QV Q)) : At g M_Land_init (lv + 2) 80 [(0, va_rf (some (gz g + 2))), (2, .int (nI 1))] [] (run g m00 LC2_1) (QV Q) := by
  refine bk_Land_init_80 g ?_
  rw [if_neg (by decide), show (nI 1).toNatClampNeg = 1 from rfl, nI_s]
  refine stK (n := 0) (by decide +kernel) ?_
  refine ⟨gz g + 3, rR (by decide +kernel), ?_⟩
  refine stN 18 0 13 0 (frb0 g) rfl (by decide +kernel) (by decide +kernel) (by decide +kernel) (by decide +kernel) ?_
  refine en_Grower_init g ?_
  refine stN 19 30 30 0 (frb0 g) rfl (by decide +kernel) (by decide +kernel) (by decide +kernel) (by decide +kernel) ?_
  refine stK (n := 0) (by decide +kernel) ?_
  refine stR (by decide +kernel) ?_
  refine stN 20 30 30 0 (frb0 g) rfl (by decide +kernel) (by decide +kernel) (by decide +kernel) (by decide +kernel) ?_
  refine stR (by decide +kernel) ?_
  refine stN 21 30 30 0 (frb0 g) rfl (by decide +kernel) (by decide +kernel) (by decide +kernel) (by decide +kernel) ?_
  refine stR (by decide +kernel) ?_
  refine stK (n := 12) (by decide +kernel) ?_
  refine stV (k := 19) (n := 12) 1 rfl (by decide +kernel) (by omega) (by omega) ?_
  refine stR (by decide +kernel) ?_
  exact h
def LC2_3 : List Op := (1, 3, 2, 22, 0) :: (1, 22, 2, 25, 0) :: (0, 25, 17, 30, 30) :: (1, 22, 1, 24, 0) :: (0, 24, 15, 30, 30) :: (1, 22, 0, 23, 0) :: (0, 23, 15, 30, 30) :: (0, 22, 2, 0, 13) :: LC2_2
theorem ld80_2_2 (g : Gc) {lv : Nat} {Q : Mm → Prop} (h : At g M_Land_init (lv + 2) 80 [(0, va_rf (some (gz g + 2))), (2, .int (nI 3))] [] (run g m00 LC2_3) (QV Q)) : At g M_Land_init (lv + 2) 80 [(0, va_rf (some (gz g + 2))), (2, .int (nI 2))] [] (run g m00 LC2_2) (QV Q) := by
  refine bk_Land_init_80 g ?_
  rw [if_neg (by decide), show (nI 2).toNatClampNeg = 2 from rfl, nI_s]
  refine stK (n := 0) (by decide +kernel) ?_
  refine ⟨gz g + 3, rR (by decide +kernel), ?_⟩
  refine stN 22 0 13 0 (frb0 g) rfl (by decide +kernel) (by decide +kernel) (by decide +kernel) (by decide +kernel) ?_
  refine en_Grower_init g ?_
  refine stN 23 30 30 0 (frb0 g) rfl (by decide +kernel) (by decide +kernel) (by decide +kernel) (by decide +kernel) ?_
  refine stK (n := 0) (by decide +kernel) ?_
  refine stR (by decide +kernel) ?_
  refine stN 24 30 30 0 (frb0 g) rfl (by decide +kernel) (by decide +kernel) (by decide +kernel) (by decide +kernel) ?_
  refine stR (by decide +kernel) ?_
  refine stN 25 30 30 0 (frb0 g) rfl (by decide +kernel) (by decide +kernel) (by decide +kernel) (by decide +kernel) ?_
  refine stR (by decide +kernel) ?_
  refine stK (n := 12) (by decide +kernel) ?_
  refine stV (k := 19) (n := 12) 2 rfl (by decide +kernel) (by omega) (by omega) ?_
  refine stR (by decide +kernel) ?_
  exact h
def LC2_4 : List Op := (1, 3, 3, 26, 0) :: (1, 26, 2, 29, 0) :: (0, 29, 17, 30, 30) :: (1, 26, 1, 28, 0) :: (0, 28, 15, 30, 30) :: (1, 26, 0, 27, 0) :: (0, 27, 15, 30, 30) :: (0, 26, 2, 0, 13) :: LC2_3
theorem ld80_2_3 (g : Gc) {lv : Nat} {Q : Mm → Prop} (h : At g M_Land_init (lv + 2) 80 [(0, va_rf (some (gz g + 2))), (2, .int (nI 4))] [] (run g m00 LC2_4) (QV Q)) : At g M_Land_init (lv + 2) 80 [(0, va_rf (some (gz g + 2))), (2, .int (nI 3))] [] (run g m00 LC2_3) (QV Q) := by
  refine bk_Land_init_80 g ?_
  rw [if_neg (by decide), show (nI 3).toNatClampNeg = 3 from rfl, nI_s]
  refine stK (n := 0) (by decide +kernel) ?_
  refine ⟨gz g + 3, rR (by decide +kernel), ?_⟩
  refine stN 26 0 13 0 (frb0 g) rfl (by decide +kernel) (by decide +kernel) (by decide +kernel) (by decide +kernel) ?_
  refine en_Grower_init g ?_
  refine stN 27 30 30 0 (frb0 g) rfl (by decide +kernel) (by decide +kernel) (by decide +kernel) (by decide +kernel) ?_
  refine stK (n := 0) (by decide +kernel) ?_
  refine stR (by decide +kernel) ?_
  refine stN 28 30 30 0 (frb0 g) rfl (by decide +kernel) (by decide +kernel) (by decide +kernel) (by decide +kernel) ?_
  refine stR (by decide +kernel) ?_
  refine stN 29 30 30 0 (frb0 g) rfl (by decide +kernel) (by decide +kernel) (by decide +kernel) (by decide +kernel) ?_
  refine stR (by decide +kernel) ?_
  refine stK (n := 12) (by decide +kernel) ?_
  refine stV (k := 19) (n := 12) 3 rfl (by decide +kernel) (by omega) (by omega) ?_
  refine stR (by decide +kernel) ?_
  exact h
def LC2_5 : List Op := (1, 3, 4, 30, 0) :: (1, 30, 2, 33, 0) :: (0, 33, 17, 30, 30) :: (1, 30, 1, 32, 0) :: (0, 32, 15, 30, 30) :: (1, 30, 0, 31, 0) :: (0, 31, 15, 30, 30) :: (0, 30, 2, 0, 13) :: LC2_4
theorem ld80_2_4 (g : Gc) {lv : Nat} {Q : Mm → Prop} (h : At g M_Land_init (lv + 2) 80 [(0, va_rf (some (gz g + 2))), (2, .int (nI 5))] [] (run g m00 LC2_5) (QV Q)) : At g M_Land_init (lv + 2) 80 [(0, va_rf (some (gz g + 2))), (2, .int (nI 4))] [] (run g m00 LC2_4) (QV Q) := by
  refine bk_Land_init_80 g ?_
  rw [if_neg (by decide), show (nI 4).toNatClampNeg = 4 from rfl, nI_s]
  refine stK (n := 0) (by decide +kernel) ?_
  refine ⟨gz g + 3, rR (by decide +kernel), ?_⟩
  refine stN 30 0 13 0 (frb0 g) rfl (by decide +kernel) (by decide +kernel) (by decide +kernel) (by decide +kernel) ?_
  refine en_Grower_init g ?_
  refine stN 31 30 30 0 (frb0 g) rfl (by decide +kernel) (by decide +kernel) (by decide +kernel) (by decide +kernel) ?_
  refine stK (n := 0) (by decide +kernel) ?_
  refine stR (by decide +kernel) ?_
  refine stN 32 30 30 0 (frb0 g) rfl (by decide +kernel) (by decide +kernel) (by decide +kernel) (by decide +kernel) ?_
  refine stR (by decide +kernel) ?_
  refine stN 33 30 30 0 (frb0 g) rfl (by decide +kernel) (by decide +kernel) (by decide +kernel) (by decide +kernel) ?_
  refine stR (by decide +kernel) ?_
  refine stK (n := 12) (by decide +kernel) ?_
  refine stV (k := 19) (n := 12) 4 rfl (by decide +kernel) (by omega) (by omega) ?_
  refine stR (by decide +kernel) ?_
  exact h
def LC2_6 : List Op := (1, 3, 5, 34, 0) :: (1, 34, 2, 37, 0) :: (0, 37, 17, 30, 30) :: (1, 34, 1, 36, 0) :: (0, 36, 15, 30, 30) :: (1, 34, 0, 35, 0) :: (0, 35, 15, 30, 30) :: (0, 34, 2, 0, 13) :: LC2_5
theorem ld80_2_5 (g : Gc) {lv : Nat} {Q : Mm → Prop} (h : At g M_Land_init (lv + 2) 80 [(0, va_rf (some (gz g + 2))), (2, .int (nI 6))] [] (run g m00 LC2_6) (QV Q)) : At g M_Land_init (lv + 2) 80 [(0, va_rf (some (gz g + 2))), (2, .int (nI 5))] [] (run g m00 LC2_5) (QV Q) := by
  refine bk_Land_init_80 g ?_
  rw [if_neg (by decide), show (nI 5).toNatClampNeg = 5 from rfl, nI_s]
  refine stK (n := 0) (by decide +kernel) ?_
  refine ⟨gz g + 3, rR (by decide +kernel), ?_⟩
  refine stN 34 0 13 0 (frb0 g) rfl (by decide +kernel) (by decide +kernel) (by decide +kernel) (by decide +kernel) ?_
  refine en_Grower_init g ?_
  refine stN 35 30 30 0 (frb0 g) rfl (by decide +kernel) (by decide +kernel) (by decide +kernel) (by decide +kernel) ?_
  refine stK (n := 0) (by decide +kernel) ?_
  refine stR (by decide +kernel) ?_
  refine stN 36 30 30 0 (frb0 g) rfl (by decide +kernel) (by decide +kernel) (by decide +kernel) (by decide +kernel) ?_
  refine stR (by decide +kernel) ?_
  refine stN 37 30 30 0 (frb0 g) rfl (by decide +kernel) (by decide +kernel) (by decide +kernel) (by decide +kernel) ?_
  refine stR (by decide +kernel) ?_
  refine stK (n := 12) (by decide +kernel) ?_
  refine stV (k := 19) (n := 12) 5 rfl (by decide +kernel) (by omega) (by omega) ?_
  refine stR (by decide +kernel) ?_
  exact h
def LC2_7 : List Op := (1, 3, 6, 38, 0) :: (1, 38, 2, 41, 0) :: (0, 41, 17, 30, 30) :: (1, 38, 1, 40, 0) :: (0, 40, 15, 30, 30) :: (1, 38, 0, 39, 0) :: (0, 39, 15, 30, 30) :: (0, 38, 2, 0, 13) :: LC2_6
theorem ld80_2_6 (g : Gc) {lv : Nat} {Q : Mm → Prop} (h : At g M_Land_init (lv + 2) 80 [(0, va_rf (some (gz g + 2))), (2, .int (nI 7))] [] (run g m00 LC2_7) (QV Q)) : At g M_Land_init (lv + 2) 80 [(0, va_rf (some (gz g + 2))), (2, .int (nI 6))] [] (run g m00 LC2_6) (QV Q) := by
  refine bk_Land_init_80 g ?_
  rw [if_neg (by decide), show (nI 6).toNatClampNeg = 6 from rfl, nI_s]
  refine stK (n := 0) (by decide +kernel) ?_
  refine ⟨gz g + 3, rR (by decide +kernel), ?_⟩
  refine stN 38 0 13 0 (frb0 g) rfl (by decide +kernel) (by decide +kernel) (by decide +kernel) (by decide +kernel) ?_
  refine en_Grower_init g ?_
  refine stN 39 30 30 0 (frb0 g) rfl (by decide +kernel) (by decide +kernel) (by decide +kernel) (by decide +kernel) ?_
  refine stK (n := 0) (by decide +kernel) ?_
  refine stR (by decide +kernel) ?_
  refine stN 40 30 30 0 (frb0 g) rfl (by decide +kernel) (by decide +kernel) (by decide +kernel) (by decide +kernel) ?_
  refine stR (by decide +kernel) ?_
  refine stN 41 30 30 0 (frb0 g) rfl (by decide +kernel) (by decide +kernel) (by decide +kernel) (by decide +kernel) ?_
  refine stR (by decide +kernel) ?_
  refine stK (n := 12) (by decide +kernel) ?_
  refine stV (k := 19) (n := 12) 6 rfl (by decide +kernel) (by omega) (by omega) ?_
  refine stR (by decide +kernel) ?_
  exact h
def LC2_8 : List Op := (1, 3, 7, 42, 0) :: (1, 42, 2, 45, 0) :: (0, 45, 17, 30, 30) :: (1, 42, 1, 44, 0) :: (0, 44, 15, 30, 30) :: (1, 42, 0, 43, 0) :: (0, 43, 15, 30, 30) :: (0, 42, 2, 0, 13) :: LC2_7
theorem ld80_2_7 (g : Gc) {lv : Nat} {Q : Mm → Prop} (h : At g M_Land_init (lv + 2) 80 [(0, va_rf (some (gz g + 2))), (2, .int (nI 8))] [] (run g m00 LC2_8) (QV Q)) : At g M_Land_init (lv + 2) 80 [(0, va_rf (some (gz g + 2))), (2, .int (nI 7))] [] (run g m00 LC2_7) (QV Q) := by
  refine bk_Land_init_80 g ?_
  rw [if_neg (by decide), show (nI 7).toNatClampNeg = 7 from rfl, nI_s]
  refine stK (n := 0) (by decide +kernel) ?_
  refine ⟨gz g + 3, rR (by decide +kernel), ?_⟩
  refine stN 42 0 13 0 (frb0 g) rfl (by decide +kernel) (by decide +kernel) (by decide +kernel) (by decide +kernel) ?_
  refine en_Grower_init g ?_
  refine stN 43 30 30 0 (frb0 g) rfl (by decide +kernel) (by decide +kernel) (by decide +kernel) (by decide +kernel) ?_
  refine stK (n := 0) (by decide +kernel) ?_
  refine stR (by decide +kernel) ?_
  refine stN 44 30 30 0 (frb0 g) rfl (by decide +kernel) (by decide +kernel) (by decide +kernel) (by decide +kernel) ?_
  refine stR (by decide +kernel) ?_
  refine stN 45 30 30 0 (frb0 g) rfl (by decide +kernel) (by decide +kernel) (by decide +kernel) (by decide +kernel) ?_
  refine stR (by decide +kernel) ?_
  refine stK (n := 12) (by decide +kernel) ?_
  refine stV (k := 19) (n := 12) 7 rfl (by decide +kernel) (by omega) (by omega) ?_
  refine stR (by decide +kernel) ?_
  exact h
def LC2_9 : List Op := (1, 3, 8, 46, 0) :: (1, 46, 2, 49, 0) :: (0, 49, 17, 30, 30) :: (1, 46, 1, 48, 0) :: (0, 48, 15, 30, 30) :: (1, 46, 0, 47, 0) :: (0, 47, 15, 30, 30) :: (0, 46, 2, 0, 13) :: LC2_8
theorem ld80_2_8 (g : Gc) {lv : Nat} {Q : Mm → Prop} (h : At g M_Land_init (lv + 2) 80 [(0, va_rf (some (gz g + 2))), (2, .int (nI 9))] [] (run g m00 LC2_9) (QV Q)) : At g M_Land_init (lv + 2) 80 [(0, va_rf (some (gz g + 2))), (2, .int (nI 8))] [] (run g m00 LC2_8) (QV Q) := by
  refine bk_Land_init_80 g ?_
  rw [if_neg (by decide), show (nI 8).toNatClampNeg = 8 from rfl, nI_s]
  refine stK (n := 0) (by decide +kernel) ?_
  refine ⟨gz g + 3, rR (by decide +kernel), ?_⟩
  refine stN 46 0 13 0 (frb0 g) rfl (by decide +kernel) (by decide +kernel) (by decide +kernel) (by decide +kernel) ?_
  refine en_Grower_init g ?_
  refine stN 47 30 30 0 (frb0 g) rfl (by decide +kernel) (by decide +kernel) (by decide +kernel) (by decide +kernel) ?_
  refine stK (n := 0) (by decide +kernel) ?_
  refine stR (by decide +kernel) ?_
  refine stN 48 30 30 0 (frb0 g) rfl (by decide +kernel) (by decide +kernel) (by decide +kernel) (by decide +kernel) ?_
  refine stR (by decide +kernel) ?_
  refine stN 49 30 30 0 (frb0 g) rfl (by decide +kernel) (by decide +kernel) (by decide +kernel) (by decide +kernel) ?_
  refine stR (by decide +kernel) ?_
  refine stK (n := 12) (by decide +kernel) ?_
  refine stV (k := 19) (n := 12) 8 rfl (by decide +kernel) (by omega) (by omega) ?_
  refine stR (by decide +kernel) ?_
  exact h
def LC2_10 : List Op := (1, 3, 9, 50, 0) :: (1, 50, 2, 53, 0) :: (0, 53, 17, 30, 30) :: (1, 50, 1, 52, 0) :: (0, 52, 15, 30, 30) :: (1, 50, 0, 51, 0) :: (0, 51, 15, 30, 30) :: (0, 50, 2, 0, 13) :: LC2_9
theorem ld80_2_9 (g : Gc) {lv : Nat} {Q : Mm → Prop} (h : At g M_Land_init (lv + 2) 80 [(0, va_rf (some (gz g + 2))), (2, .int (nI 10))] [] (run g m00 LC2_10) (QV Q)) : At g M_Land_init (lv + 2) 80 [(0, va_rf (some (gz g + 2))), (2, .int (nI 9))] [] (run g m00 LC2_9) (QV Q) := by
  refine bk_Land_init_80 g ?_
  rw [if_neg (by decide), show (nI 9).toNatClampNeg = 9 from rfl, nI_s]
  refine stK (n := 0) (by decide +kernel) ?_
  refine ⟨gz g + 3, rR (by decide +kernel), ?_⟩
  refine stN 50 0 13 0 (frb0 g) rfl (by decide +kernel) (by decide +kernel) (by decide +kernel) (by decide +kernel) ?_
  refine en_Grower_init g ?_
  refine stN 51 30 30 0 (frb0 g) rfl (by decide +kernel) (by decide +kernel) (by decide +kernel) (by decide +kernel) ?_
  refine stK (n := 0) (by decide +kernel) ?_
  refine stR (by decide +kernel) ?_
  refine stN 52 30 30 0 (frb0 g) rfl (by decide +kernel) (by decide +kernel) (by decide +kernel) (by decide +kernel) ?_
  refine stR (by decide +kernel) ?_
  refine stN 53 30 30 0 (frb0 g) rfl (by decide +kernel) (by decide +kernel) (by decide +kernel) (by decide +kernel) ?_
  refine stR (by decide +kernel) ?_
  refine stK (n := 12) (by decide +kernel) ?_
  refine stV (k := 19) (n := 12) 9 rfl (by decide +kernel) (by omega) (by omega) ?_
  refine stR (by decide +kernel) ?_
  exact h
def LC2_11 : List Op := (1, 3, 10, 54, 0) :: (1, 54, 2, 57, 0) :: (0, 57, 17, 30, 30) :: (1, 54, 1, 56, 0) :: (0, 56, 15, 30, 30) :: (1, 54, 0, 55, 0) :: (0, 55, 15, 30, 30) :: (0, 54, 2, 0, 13) :: LC2_10
theorem ld80_2_10 (g : Gc) {lv : Nat} {Q : Mm → Prop} (h : At g M_Land_init (lv + 2) 80 [(0, va_rf (some (gz g + 2))), (2, .int (nI 11))] [] (run g m00 LC2_11) (QV Q)) : At g M_Land_init (lv + 2) 80 [(0, va_rf (some (gz g + 2))), (2, .int (nI 10))] [] (run g m00 LC2_10) (QV Q) := by
  refine bk_Land_init_80 g ?_
  rw [if_neg (by decide), show (nI 10).toNatClampNeg = 10 from rfl, nI_s]
  refine stK (n := 0) (by decide +kernel) ?_
  refine ⟨gz g + 3, rR (by decide +kernel), ?_⟩
  refine stN 54 0 13 0 (frb0 g) rfl (by decide +kernel) (by decide +kernel) (by decide +kernel) (by decide +kernel) ?_
  refine en_Grower_init g ?_
  refine stN 55 30 30 0 (frb0 g) rfl (by decide +kernel) (by decide +kernel) (by decide +kernel) (by decide +kernel) ?_
  refine stK (n := 0) (by decide +kernel) ?_
  refine stR (by decide +kernel) ?_
  refine stN 56 30 30 0 (frb0 g) rfl (by decide +kernel) (by decide +kernel) (by decide +kernel) (by decide +kernel) ?_
  refine stR (by decide +kernel) ?_
  refine stN 57 30 30 0 (frb0 g) rfl (by decide +kernel) (by decide +kernel) (by decide +kernel) (by decide +kernel) ?_
  refine stR (by decide +kernel) ?_
  refine stK (n := 12) (by decide +kernel) ?_
  refine stV (k := 19) (n := 12) 10 rfl (by decide +kernel) (by omega) (by omega) ?_
  refine stR (by decide +kernel) ?_
  exact h
def LC2_12 : List Op := (1, 3, 11, 58, 0) :: (1, 58, 2, 61, 0) :: (0, 61, 17, 30, 30) :: (1, 58, 1, 60, 0) :: (0, 60, 15, 30, 30) :: (1, 58, 0, 59, 0) :: (0, 59, 15, 30, 30) :: (0, 58, 2, 0, 13) :: LC2_11
theorem ld80_2_11 (g : Gc) {lv : Nat} {Q : Mm → Prop} (h : At g M_Land_init (lv + 2) 80 [(0, va_rf (some (gz g + 2))), (2, .int (nI 12))] [] (run g m00 LC2_12) (QV Q)) : At g M_Land_init (lv + 2) 80 [(0, va_rf (some (gz g + 2))), (2, .int (nI 11))] [] (run g m00 LC2_11) (QV Q) := by
  refine bk_Land_init_80 g ?_
  rw [if_neg (by decide), show (nI 11).toNatClampNeg = 11 from rfl, nI_s]
  refine stK (n := 0) (by decide +kernel) ?_
  refine ⟨gz g + 3, rR (by decide +kernel), ?_⟩
  refine stN 58 0 13 0 (frb0 g) rfl (by decide +kernel) (by decide +kernel) (by decide +kernel) (by decide +kernel) ?_
  refine en_Grower_init g ?_
  refine stN 59 30 30 0 (frb0 g) rfl (by decide +kernel) (by decide +kernel) (by decide +kernel) (by decide +kernel) ?_
  refine stK (n := 0) (by decide +kernel) ?_
  refine stR (by decide +kernel) ?_
  refine stN 60 30 30 0 (frb0 g) rfl (by decide +kernel) (by decide +kernel) (by decide +kernel) (by decide +kernel) ?_
  refine stR (by decide +kernel) ?_
  refine stN 61 30 30 0 (frb0 g) rfl (by decide +kernel) (by decide +kernel) (by decide +kernel) (by decide +kernel) ?_
  refine stR (by decide +kernel) ?_
  refine stK (n := 12) (by decide +kernel) ?_
  refine stV (k := 19) (n := 12) 11 rfl (by decide +kernel) (by omega) (by omega) ?_
  refine stR (by decide +kernel) ?_
  exact h
def LE2_0 : List Op := LC2_12
def LE2_1 : List Op := (1, 4, 0, 62, 0) :: (2, 62, 1, 10, 0) :: (2, 62, 0, 50, 0) :: (0, 62, 1, 0, 3) :: LE2_0
theorem ld107_2_0 (g : Gc) {lv : Nat} {Q : Mm → Prop} (h : At g M_Land_init (lv + 2) 107 [(0, va_rf (some (gz g + 2))), (2, .int (nI 1))] [] (run g m00 LE2_1) (QV Q)) : At g M_Land_init (lv + 2) 107 [(0, va_rf (some (gz g + 2))), (2, .int (nI 0))] [] (run g m00 LE2_0) (QV Q) := by
  refine bk_Land_init_107 g ?_
  rw [if_neg (by decide), show (nI 0).toNatClampNeg = 0 from rfl, nI_s]
  refine stK (n := 0) (by decide +kernel) ?_
  refine ⟨gz g + 4, rR (by decide +kernel), ?_⟩
  refine stN 62 0 3 0 (frb0 g) rfl (by decide +kernel) (by decide +kernel) (by decide +kernel) (by decide +kernel) ?_
  refine en_Bank_init g ?_
  refine stK (n := 0) (by decide +kernel) ?_
  refine stI 0 50 (by decide +kernel) (by decide +kernel) ?_
  refine stI 1 10 (by decide +kernel) (by decide +kernel) ?_
  refine stK (n := 3) (by decide +kernel) ?_
  refine stV (k := 18) (n := 3) 0 rfl (by decide +kernel) (by omega) (by omega) ?_
  refine stR (by decide +kernel) ?_
  exact h
def LE2_2 : List Op := (1, 4, 1, 63, 0) :: (2, 63, 1, 10, 0) :: (2, 63, 0, 50, 0) :: (0, 63, 1, 0, 3) :: LE2_1
theorem ld107_2_1 (g : Gc) {lv : Nat} {Q : Mm → Prop} (h : At g M_Land_init (lv + 2) 107 [(0, va_rf (some (gz g + 2))), (2, .int (nI 2))] [] (run g m00 LE2_2) (QV Q)) : At g M_Land_init (lv + 2) 107 [(0, va_rf (some (gz g + 2))), (2, .int (nI 1))] [] (run g m00 LE2_1) (QV Q) := by
  refine bk_Land_init_107 g ?_
  rw [if_neg (by decide), show (nI 1).toNatClampNeg = 1 from rfl, nI_s]
  refine stK (n := 0) (by decide +kernel) ?_
  refine ⟨gz g + 4, rR (by decide +kernel), ?_⟩
  refine stN 63 0 3 0 (frb0 g) rfl (by decide +kernel) (by decide +kernel) (by decide +kernel) (by decide +kernel) ?_
  refine en_Bank_init g ?_
  refine stK (n := 0) (by decide +kernel) ?_
  refine stI 0 50 (by decide +kernel) (by decide +kernel) ?_
  refine stI 1 10 (by decide +kernel) (by decide +kernel) ?_
  refine stK (n := 3) (by decide +kernel) ?_
  refine stV (k := 18) (n := 3) 1 rfl (by decide +kernel) (by omega) (by omega) ?_
  refine stR (by decide +kernel) ?_
  exact h
def LE2_3 : List Op := (1, 4, 2, 64, 0) :: (2, 64, 1, 10, 0) :: (2, 64, 0, 50, 0) :: (0, 64, 1, 0, 3) :: LE2_2
theorem ld107_2_2 (g : Gc) {lv : Nat} {Q : Mm → Prop} (h : At g M_Land_init (lv + 2) 107 [(0, va_rf (some (gz g + 2))), (2, .int (nI 3))] [] (run g m00 LE2_3) (QV Q)) : At g M_Land_init (lv + 2) 107 [(0, va_rf (some (gz g + 2))), (2, .int (nI 2))] [] (run g m00 LE2_2) (QV Q) := by
  refine bk_Land_init_107 g ?_
  rw [if_neg (by decide), show (nI 2).toNatClampNeg = 2 from rfl, nI_s]
  refine stK (n := 0) (by decide +kernel) ?_
  refine ⟨gz g + 4, rR (by decide +kernel), ?_⟩
  refine stN 64 0 3 0 (frb0 g) rfl (by decide +kernel) (by decide +kernel) (by decide +kernel) (by decide +kernel) ?_
  refine en_Bank_init g ?_
  refine stK (n := 0) (by decide +kernel) ?_
  refine stI 0 50 (by decide +kernel) (by decide +kernel) ?_
  refine stI 1 10 (by decide +kernel) (by decide +kernel) ?_
  refine stK (n := 3) (by decide +kernel) ?_
  refine stV (k := 18) (n := 3) 2 rfl (by decide +kernel) (by omega) (by omega) ?_
  refine stR (by decide +kernel) ?_
  exact h
theorem cLand_2 (g : Gc) {lv : Nat} {Q : Mm → Prop} (h : Q (run g m00 LE2_3)) : CV g M_Land_init (lv + 2) [va_rf (some (gz g + 2)), va_rf (some (gz g + 1))] (run g m00 LB2) Q := by
  refine en_Land_init g ?_
  refine stN 3 12 12 0 (frb0 g) rfl (by decide +kernel) (by decide +kernel) (by decide +kernel) (by decide +kernel) ?_
  refine stK (n := 0) (by decide +kernel) ?_
  refine stR (by decide +kernel) ?_
  refine stN 4 3 3 0 (frb0 g) rfl (by decide +kernel) (by decide +kernel) (by decide +kernel) (by decide +kernel) ?_
  refine stR (by decide +kernel) ?_
  refine stN 5 0 2 0 (frb0 g) rfl (by decide +kernel) (by decide +kernel) (by decide +kernel) (by decide +kernel) ?_
  refine en_Store_init g ?_
  refine stN 6 400 400 0 (frb0 g) rfl (by decide +kernel) (by decide +kernel) (by decide +kernel) (by decide +kernel) ?_
  refine stK (n := 0) (by decide +kernel) ?_
  refine stR (by decide +kernel) ?_
  refine stR (by decide +kernel) ?_
  refine stN 7 0 9 0 (frb0 g) rfl (by decide +kernel) (by decide +kernel) (by decide +kernel) (by decide +kernel) ?_
  refine en_Judge_init g ?_
  refine stN 8 6 6 0 (frb0 g) rfl (by decide +kernel) (by decide +kernel) (by decide +kernel) (by decide +kernel) ?_
  refine stK (n := 0) (by decide +kernel) ?_
  refine stR (by decide +kernel) ?_
  refine stN 9 32 32 0 (frb0 g) rfl (by decide +kernel) (by decide +kernel) (by decide +kernel) (by decide +kernel) ?_
  refine stR (by decide +kernel) ?_
  refine stN 10 8 8 0 (frb0 g) rfl (by decide +kernel) (by decide +kernel) (by decide +kernel) (by decide +kernel) ?_
  refine stR (by decide +kernel) ?_
  refine stR (by decide +kernel) ?_
  refine stN 11 30 30 0 (frb0 g) rfl (by decide +kernel) (by decide +kernel) (by decide +kernel) (by decide +kernel) ?_
  refine stR (by decide +kernel) ?_
  refine stN 12 30 30 0 (frb0 g) rfl (by decide +kernel) (by decide +kernel) (by decide +kernel) (by decide +kernel) ?_
  refine stR (by decide +kernel) ?_
  refine stN 13 8 8 0 (frb0 g) rfl (by decide +kernel) (by decide +kernel) (by decide +kernel) (by decide +kernel) ?_
  refine stR (by decide +kernel) ?_
  refine stI 10 100 (by decide +kernel) (by decide +kernel) ?_
  refine stR (by decide +kernel) ?_
  show At g M_Land_init (lv + 2) 80 [(0, va_rf (some (gz g + 2))), (2, .int (nI 0))] [] (run g m00 LC2_0) (QV Q)
  refine ld80_2_0 g ?_
  refine ld80_2_1 g ?_
  refine ld80_2_2 g ?_
  refine ld80_2_3 g ?_
  refine ld80_2_4 g ?_
  refine ld80_2_5 g ?_
  refine ld80_2_6 g ?_
  refine ld80_2_7 g ?_
  refine ld80_2_8 g ?_
  refine ld80_2_9 g ?_
  refine ld80_2_10 g ?_
  refine ld80_2_11 g ?_
  refine bk_Land_init_80 g ?_
  rw [if_pos (by decide)]
  show At g M_Land_init (lv + 2) 107 [(0, va_rf (some (gz g + 2))), (2, .int (nI 0))] [] (run g m00 LE2_0) (QV Q)
  refine ld107_2_0 g ?_
  refine ld107_2_1 g ?_
  refine ld107_2_2 g ?_
  refine bk_Land_init_107 g ?_
  rw [if_pos (by decide)]
  exact h
def LB65 : List Op := (0, 65, 4, 0, 14) :: (1, 0, 1, 2, 0) :: LE2_3
def LC65_0 : List Op := (1, 65, 0, 1, 0) :: (2, 65, 10, 100, 0) :: (1, 65, 7, 76, 0) :: (0, 76, 16, 8, 8) :: (1, 65, 6, 75, 0) :: (0, 75, 15, 30, 30) :: (1, 65, 5, 74, 0) :: (0, 74, 15, 30, 30) :: (1, 65, 4, 70, 0) :: (1, 70, 2, 73, 0) :: (0, 73, 17, 8, 8) :: (1, 70, 1, 72, 0) :: (0, 72, 16, 32, 32) :: (1, 70, 0, 71, 0) :: (0, 71, 16, 6, 6) :: (0, 70, 3, 0, 9) :: (1, 65, 3, 68, 0) :: (1, 68, 0, 69, 0) :: (0, 69, 21, 400, 400) :: (0, 68, 9, 0, 2) :: (1, 65, 2, 67, 0) :: (0, 67, 18, 3, 3) :: (1, 65, 1, 66, 0) :: (0, 66, 19, 12, 12) :: LB65
def LC65_1 : List Op := (1, 66, 0, 77, 0) :: (1, 77, 2, 80, 0) :: (0, 80, 17, 30, 30) :: (1, 77, 1, 79, 0) :: (0, 79, 15, 30, 30) :: (1, 77, 0, 78, 0) :: (0, 78, 15, 30, 30) :: (0, 77, 2, 0, 13) :: LC65_0
theorem ld80_65_0 (g : Gc) {lv : Nat} {Q : Mm → Prop} (h : At g M_Land_init (lv + 2) 80 [(0, va_rf (some (gz g + 65))), (2, .int (nI 1))] [] (run g m00 LC65_1) (QV Q)) : At g M_Land_init (lv + 2) 80 [(0, va_rf (some (gz g + 65))), (2, .int (nI 0))] [] (run g m00 LC65_0) (QV Q) := by
  refine bk_Land_init_80 g ?_
  rw [if_neg (by decide), show (nI 0).toNatClampNeg = 0 from rfl, nI_s]
  refine stK (n := 0) (by decide +kernel) ?_
  refine ⟨gz g + 66, rR (by decide +kernel), ?_⟩
  refine stN 77 0 13 0 (frb0 g) rfl (by decide +kernel) (by decide +kernel) (by decide +kernel) (by decide +kernel) ?_
  refine en_Grower_init g ?_
  refine stN 78 30 30 0 (frb0 g) rfl (by decide +kernel) (by decide +kernel) (by decide +kernel) (by decide +kernel) ?_
  refine stK (n := 0) (by decide +kernel) ?_
  refine stR (by decide +kernel) ?_
  refine stN 79 30 30 0 (frb0 g) rfl (by decide +kernel) (by decide +kernel) (by decide +kernel) (by decide +kernel) ?_
  refine stR (by decide +kernel) ?_
  refine stN 80 30 30 0 (frb0 g) rfl (by decide +kernel) (by decide +kernel) (by decide +kernel) (by decide +kernel) ?_
  refine stR (by decide +kernel) ?_
  refine stK (n := 12) (by decide +kernel) ?_
  refine stV (k := 19) (n := 12) 0 rfl (by decide +kernel) (by omega) (by omega) ?_
  refine stR (by decide +kernel) ?_
  exact h
def LC65_2 : List Op := (1, 66, 1, 81, 0) :: (1, 81, 2, 84, 0) :: (0, 84, 17, 30, 30) :: (1, 81, 1, 83, 0) :: (0, 83, 15, 30, 30) :: (1, 81, 0, 82, 0) :: (0, 82, 15, 30, 30) :: (0, 81, 2, 0, 13) :: LC65_1
theorem ld80_65_1 (g : Gc) {lv : Nat} {Q : Mm → Prop} (h : At g M_Land_init (lv + 2) 80 [(0, va_rf (some (gz g + 65))), (2, .int (nI 2))] [] (run g m00 LC65_2) (QV Q)) : At g M_Land_init (lv + 2) 80 [(0, va_rf (some (gz g + 65))), (2, .int (nI 1))] [] (run g m00 LC65_1) (QV Q) := by
  refine bk_Land_init_80 g ?_
  rw [if_neg (by decide), show (nI 1).toNatClampNeg = 1 from rfl, nI_s]
  refine stK (n := 0) (by decide +kernel) ?_
  refine ⟨gz g + 66, rR (by decide +kernel), ?_⟩
  refine stN 81 0 13 0 (frb0 g) rfl (by decide +kernel) (by decide +kernel) (by decide +kernel) (by decide +kernel) ?_
  refine en_Grower_init g ?_
  refine stN 82 30 30 0 (frb0 g) rfl (by decide +kernel) (by decide +kernel) (by decide +kernel) (by decide +kernel) ?_
  refine stK (n := 0) (by decide +kernel) ?_
  refine stR (by decide +kernel) ?_
  refine stN 83 30 30 0 (frb0 g) rfl (by decide +kernel) (by decide +kernel) (by decide +kernel) (by decide +kernel) ?_
  refine stR (by decide +kernel) ?_
  refine stN 84 30 30 0 (frb0 g) rfl (by decide +kernel) (by decide +kernel) (by decide +kernel) (by decide +kernel) ?_
  refine stR (by decide +kernel) ?_
  refine stK (n := 12) (by decide +kernel) ?_
  refine stV (k := 19) (n := 12) 1 rfl (by decide +kernel) (by omega) (by omega) ?_
  refine stR (by decide +kernel) ?_
  exact h
def LC65_3 : List Op := (1, 66, 2, 85, 0) :: (1, 85, 2, 88, 0) :: (0, 88, 17, 30, 30) :: (1, 85, 1, 87, 0) :: (0, 87, 15, 30, 30) :: (1, 85, 0, 86, 0) :: (0, 86, 15, 30, 30) :: (0, 85, 2, 0, 13) :: LC65_2
theorem ld80_65_2 (g : Gc) {lv : Nat} {Q : Mm → Prop} (h : At g M_Land_init (lv + 2) 80 [(0, va_rf (some (gz g + 65))), (2, .int (nI 3))] [] (run g m00 LC65_3) (QV Q)) : At g M_Land_init (lv + 2) 80 [(0, va_rf (some (gz g + 65))), (2, .int (nI 2))] [] (run g m00 LC65_2) (QV Q) := by
  refine bk_Land_init_80 g ?_
  rw [if_neg (by decide), show (nI 2).toNatClampNeg = 2 from rfl, nI_s]
  refine stK (n := 0) (by decide +kernel) ?_
  refine ⟨gz g + 66, rR (by decide +kernel), ?_⟩
  refine stN 85 0 13 0 (frb0 g) rfl (by decide +kernel) (by decide +kernel) (by decide +kernel) (by decide +kernel) ?_
  refine en_Grower_init g ?_
  refine stN 86 30 30 0 (frb0 g) rfl (by decide +kernel) (by decide +kernel) (by decide +kernel) (by decide +kernel) ?_
  refine stK (n := 0) (by decide +kernel) ?_
  refine stR (by decide +kernel) ?_
  refine stN 87 30 30 0 (frb0 g) rfl (by decide +kernel) (by decide +kernel) (by decide +kernel) (by decide +kernel) ?_
  refine stR (by decide +kernel) ?_
  refine stN 88 30 30 0 (frb0 g) rfl (by decide +kernel) (by decide +kernel) (by decide +kernel) (by decide +kernel) ?_
  refine stR (by decide +kernel) ?_
  refine stK (n := 12) (by decide +kernel) ?_
  refine stV (k := 19) (n := 12) 2 rfl (by decide +kernel) (by omega) (by omega) ?_
  refine stR (by decide +kernel) ?_
  exact h
def LC65_4 : List Op := (1, 66, 3, 89, 0) :: (1, 89, 2, 92, 0) :: (0, 92, 17, 30, 30) :: (1, 89, 1, 91, 0) :: (0, 91, 15, 30, 30) :: (1, 89, 0, 90, 0) :: (0, 90, 15, 30, 30) :: (0, 89, 2, 0, 13) :: LC65_3
theorem ld80_65_3 (g : Gc) {lv : Nat} {Q : Mm → Prop} (h : At g M_Land_init (lv + 2) 80 [(0, va_rf (some (gz g + 65))), (2, .int (nI 4))] [] (run g m00 LC65_4) (QV Q)) : At g M_Land_init (lv + 2) 80 [(0, va_rf (some (gz g + 65))), (2, .int (nI 3))] [] (run g m00 LC65_3) (QV Q) := by
  refine bk_Land_init_80 g ?_
  rw [if_neg (by decide), show (nI 3).toNatClampNeg = 3 from rfl, nI_s]
  refine stK (n := 0) (by decide +kernel) ?_
  refine ⟨gz g + 66, rR (by decide +kernel), ?_⟩
  refine stN 89 0 13 0 (frb0 g) rfl (by decide +kernel) (by decide +kernel) (by decide +kernel) (by decide +kernel) ?_
  refine en_Grower_init g ?_
  refine stN 90 30 30 0 (frb0 g) rfl (by decide +kernel) (by decide +kernel) (by decide +kernel) (by decide +kernel) ?_
  refine stK (n := 0) (by decide +kernel) ?_
  refine stR (by decide +kernel) ?_
  refine stN 91 30 30 0 (frb0 g) rfl (by decide +kernel) (by decide +kernel) (by decide +kernel) (by decide +kernel) ?_
  refine stR (by decide +kernel) ?_
  refine stN 92 30 30 0 (frb0 g) rfl (by decide +kernel) (by decide +kernel) (by decide +kernel) (by decide +kernel) ?_
  refine stR (by decide +kernel) ?_
  refine stK (n := 12) (by decide +kernel) ?_
  refine stV (k := 19) (n := 12) 3 rfl (by decide +kernel) (by omega) (by omega) ?_
  refine stR (by decide +kernel) ?_
  exact h
def LC65_5 : List Op := (1, 66, 4, 93, 0) :: (1, 93, 2, 96, 0) :: (0, 96, 17, 30, 30) :: (1, 93, 1, 95, 0) :: (0, 95, 15, 30, 30) :: (1, 93, 0, 94, 0) :: (0, 94, 15, 30, 30) :: (0, 93, 2, 0, 13) :: LC65_4
theorem ld80_65_4 (g : Gc) {lv : Nat} {Q : Mm → Prop} (h : At g M_Land_init (lv + 2) 80 [(0, va_rf (some (gz g + 65))), (2, .int (nI 5))] [] (run g m00 LC65_5) (QV Q)) : At g M_Land_init (lv + 2) 80 [(0, va_rf (some (gz g + 65))), (2, .int (nI 4))] [] (run g m00 LC65_4) (QV Q) := by
  refine bk_Land_init_80 g ?_
  rw [if_neg (by decide), show (nI 4).toNatClampNeg = 4 from rfl, nI_s]
  refine stK (n := 0) (by decide +kernel) ?_
  refine ⟨gz g + 66, rR (by decide +kernel), ?_⟩
  refine stN 93 0 13 0 (frb0 g) rfl (by decide +kernel) (by decide +kernel) (by decide +kernel) (by decide +kernel) ?_
  refine en_Grower_init g ?_
  refine stN 94 30 30 0 (frb0 g) rfl (by decide +kernel) (by decide +kernel) (by decide +kernel) (by decide +kernel) ?_
  refine stK (n := 0) (by decide +kernel) ?_
  refine stR (by decide +kernel) ?_
  refine stN 95 30 30 0 (frb0 g) rfl (by decide +kernel) (by decide +kernel) (by decide +kernel) (by decide +kernel) ?_
  refine stR (by decide +kernel) ?_
  refine stN 96 30 30 0 (frb0 g) rfl (by decide +kernel) (by decide +kernel) (by decide +kernel) (by decide +kernel) ?_
  refine stR (by decide +kernel) ?_
  refine stK (n := 12) (by decide +kernel) ?_
  refine stV (k := 19) (n := 12) 4 rfl (by decide +kernel) (by omega) (by omega) ?_
  refine stR (by decide +kernel) ?_
  exact h
def LC65_6 : List Op := (1, 66, 5, 97, 0) :: (1, 97, 2, 100, 0) :: (0, 100, 17, 30, 30) :: (1, 97, 1, 99, 0) :: (0, 99, 15, 30, 30) :: (1, 97, 0, 98, 0) :: (0, 98, 15, 30, 30) :: (0, 97, 2, 0, 13) :: LC65_5
theorem ld80_65_5 (g : Gc) {lv : Nat} {Q : Mm → Prop} (h : At g M_Land_init (lv + 2) 80 [(0, va_rf (some (gz g + 65))), (2, .int (nI 6))] [] (run g m00 LC65_6) (QV Q)) : At g M_Land_init (lv + 2) 80 [(0, va_rf (some (gz g + 65))), (2, .int (nI 5))] [] (run g m00 LC65_5) (QV Q) := by
  refine bk_Land_init_80 g ?_
  rw [if_neg (by decide), show (nI 5).toNatClampNeg = 5 from rfl, nI_s]
  refine stK (n := 0) (by decide +kernel) ?_
  refine ⟨gz g + 66, rR (by decide +kernel), ?_⟩
  refine stN 97 0 13 0 (frb0 g) rfl (by decide +kernel) (by decide +kernel) (by decide +kernel) (by decide +kernel) ?_
  refine en_Grower_init g ?_
  refine stN 98 30 30 0 (frb0 g) rfl (by decide +kernel) (by decide +kernel) (by decide +kernel) (by decide +kernel) ?_
  refine stK (n := 0) (by decide +kernel) ?_
  refine stR (by decide +kernel) ?_
  refine stN 99 30 30 0 (frb0 g) rfl (by decide +kernel) (by decide +kernel) (by decide +kernel) (by decide +kernel) ?_
  refine stR (by decide +kernel) ?_
  refine stN 100 30 30 0 (frb0 g) rfl (by decide +kernel) (by decide +kernel) (by decide +kernel) (by decide +kernel) ?_
  refine stR (by decide +kernel) ?_
  refine stK (n := 12) (by decide +kernel) ?_
  refine stV (k := 19) (n := 12) 5 rfl (by decide +kernel) (by omega) (by omega) ?_
  refine stR (by decide +kernel) ?_
  exact h
def LC65_7 : List Op := (1, 66, 6, 101, 0) :: (1, 101, 2, 104, 0) :: (0, 104, 17, 30, 30) :: (1, 101, 1, 103, 0) :: (0, 103, 15, 30, 30) :: (1, 101, 0, 102, 0) :: (0, 102, 15, 30, 30) :: (0, 101, 2, 0, 13) :: LC65_6
theorem ld80_65_6 (g : Gc) {lv : Nat} {Q : Mm → Prop} (h : At g M_Land_init (lv + 2) 80 [(0, va_rf (some (gz g + 65))), (2, .int (nI 7))] [] (run g m00 LC65_7) (QV Q)) : At g M_Land_init (lv + 2) 80 [(0, va_rf (some (gz g + 65))), (2, .int (nI 6))] [] (run g m00 LC65_6) (QV Q) := by
  refine bk_Land_init_80 g ?_
  rw [if_neg (by decide), show (nI 6).toNatClampNeg = 6 from rfl, nI_s]
  refine stK (n := 0) (by decide +kernel) ?_
  refine ⟨gz g + 66, rR (by decide +kernel), ?_⟩
  refine stN 101 0 13 0 (frb0 g) rfl (by decide +kernel) (by decide +kernel) (by decide +kernel) (by decide +kernel) ?_
  refine en_Grower_init g ?_
  refine stN 102 30 30 0 (frb0 g) rfl (by decide +kernel) (by decide +kernel) (by decide +kernel) (by decide +kernel) ?_
  refine stK (n := 0) (by decide +kernel) ?_
  refine stR (by decide +kernel) ?_
  refine stN 103 30 30 0 (frb0 g) rfl (by decide +kernel) (by decide +kernel) (by decide +kernel) (by decide +kernel) ?_
  refine stR (by decide +kernel) ?_
  refine stN 104 30 30 0 (frb0 g) rfl (by decide +kernel) (by decide +kernel) (by decide +kernel) (by decide +kernel) ?_
  refine stR (by decide +kernel) ?_
  refine stK (n := 12) (by decide +kernel) ?_
  refine stV (k := 19) (n := 12) 6 rfl (by decide +kernel) (by omega) (by omega) ?_
  refine stR (by decide +kernel) ?_
  exact h
def LC65_8 : List Op := (1, 66, 7, 105, 0) :: (1, 105, 2, 108, 0) :: (0, 108, 17, 30, 30) :: (1, 105, 1, 107, 0) :: (0, 107, 15, 30, 30) :: (1, 105, 0, 106, 0) :: (0, 106, 15, 30, 30) :: (0, 105, 2, 0, 13) :: LC65_7
theorem ld80_65_7 (g : Gc) {lv : Nat} {Q : Mm → Prop} (h : At g M_Land_init (lv + 2) 80 [(0, va_rf (some (gz g + 65))), (2, .int (nI 8))] [] (run g m00 LC65_8) (QV Q)) : At g M_Land_init (lv + 2) 80 [(0, va_rf (some (gz g + 65))), (2, .int (nI 7))] [] (run g m00 LC65_7) (QV Q) := by
  refine bk_Land_init_80 g ?_
  rw [if_neg (by decide), show (nI 7).toNatClampNeg = 7 from rfl, nI_s]
  refine stK (n := 0) (by decide +kernel) ?_
  refine ⟨gz g + 66, rR (by decide +kernel), ?_⟩
  refine stN 105 0 13 0 (frb0 g) rfl (by decide +kernel) (by decide +kernel) (by decide +kernel) (by decide +kernel) ?_
  refine en_Grower_init g ?_
  refine stN 106 30 30 0 (frb0 g) rfl (by decide +kernel) (by decide +kernel) (by decide +kernel) (by decide +kernel) ?_
  refine stK (n := 0) (by decide +kernel) ?_
  refine stR (by decide +kernel) ?_
  refine stN 107 30 30 0 (frb0 g) rfl (by decide +kernel) (by decide +kernel) (by decide +kernel) (by decide +kernel) ?_
  refine stR (by decide +kernel) ?_
  refine stN 108 30 30 0 (frb0 g) rfl (by decide +kernel) (by decide +kernel) (by decide +kernel) (by decide +kernel) ?_
  refine stR (by decide +kernel) ?_
  refine stK (n := 12) (by decide +kernel) ?_
  refine stV (k := 19) (n := 12) 7 rfl (by decide +kernel) (by omega) (by omega) ?_
  refine stR (by decide +kernel) ?_
  exact h
def LC65_9 : List Op := (1, 66, 8, 109, 0) :: (1, 109, 2, 112, 0) :: (0, 112, 17, 30, 30) :: (1, 109, 1, 111, 0) :: (0, 111, 15, 30, 30) :: (1, 109, 0, 110, 0) :: (0, 110, 15, 30, 30) :: (0, 109, 2, 0, 13) :: LC65_8
theorem ld80_65_8 (g : Gc) {lv : Nat} {Q : Mm → Prop} (h : At g M_Land_init (lv + 2) 80 [(0, va_rf (some (gz g + 65))), (2, .int (nI 9))] [] (run g m00 LC65_9) (QV Q)) : At g M_Land_init (lv + 2) 80 [(0, va_rf (some (gz g + 65))), (2, .int (nI 8))] [] (run g m00 LC65_8) (QV Q) := by
  refine bk_Land_init_80 g ?_
  rw [if_neg (by decide), show (nI 8).toNatClampNeg = 8 from rfl, nI_s]
  refine stK (n := 0) (by decide +kernel) ?_
  refine ⟨gz g + 66, rR (by decide +kernel), ?_⟩
  refine stN 109 0 13 0 (frb0 g) rfl (by decide +kernel) (by decide +kernel) (by decide +kernel) (by decide +kernel) ?_
  refine en_Grower_init g ?_
  refine stN 110 30 30 0 (frb0 g) rfl (by decide +kernel) (by decide +kernel) (by decide +kernel) (by decide +kernel) ?_
  refine stK (n := 0) (by decide +kernel) ?_
  refine stR (by decide +kernel) ?_
  refine stN 111 30 30 0 (frb0 g) rfl (by decide +kernel) (by decide +kernel) (by decide +kernel) (by decide +kernel) ?_
  refine stR (by decide +kernel) ?_
  refine stN 112 30 30 0 (frb0 g) rfl (by decide +kernel) (by decide +kernel) (by decide +kernel) (by decide +kernel) ?_
  refine stR (by decide +kernel) ?_
  refine stK (n := 12) (by decide +kernel) ?_
  refine stV (k := 19) (n := 12) 8 rfl (by decide +kernel) (by omega) (by omega) ?_
  refine stR (by decide +kernel) ?_
  exact h
def LC65_10 : List Op := (1, 66, 9, 113, 0) :: (1, 113, 2, 116, 0) :: (0, 116, 17, 30, 30) :: (1, 113, 1, 115, 0) :: (0, 115, 15, 30, 30) :: (1, 113, 0, 114, 0) :: (0, 114, 15, 30, 30) :: (0, 113, 2, 0, 13) :: LC65_9
theorem ld80_65_9 (g : Gc) {lv : Nat} {Q : Mm → Prop} (h : At g M_Land_init (lv + 2) 80 [(0, va_rf (some (gz g + 65))), (2, .int (nI 10))] [] (run g m00 LC65_10) (QV Q)) : At g M_Land_init (lv + 2) 80 [(0, va_rf (some (gz g + 65))), (2, .int (nI 9))] [] (run g m00 LC65_9) (QV Q) := by
  refine bk_Land_init_80 g ?_
  rw [if_neg (by decide), show (nI 9).toNatClampNeg = 9 from rfl, nI_s]
  refine stK (n := 0) (by decide +kernel) ?_
  refine ⟨gz g + 66, rR (by decide +kernel), ?_⟩
  refine stN 113 0 13 0 (frb0 g) rfl (by decide +kernel) (by decide +kernel) (by decide +kernel) (by decide +kernel) ?_
  refine en_Grower_init g ?_
  refine stN 114 30 30 0 (frb0 g) rfl (by decide +kernel) (by decide +kernel) (by decide +kernel) (by decide +kernel) ?_
  refine stK (n := 0) (by decide +kernel) ?_
  refine stR (by decide +kernel) ?_
  refine stN 115 30 30 0 (frb0 g) rfl (by decide +kernel) (by decide +kernel) (by decide +kernel) (by decide +kernel) ?_
  refine stR (by decide +kernel) ?_
  refine stN 116 30 30 0 (frb0 g) rfl (by decide +kernel) (by decide +kernel) (by decide +kernel) (by decide +kernel) ?_
  refine stR (by decide +kernel) ?_
  refine stK (n := 12) (by decide +kernel) ?_
  refine stV (k := 19) (n := 12) 9 rfl (by decide +kernel) (by omega) (by omega) ?_
  refine stR (by decide +kernel) ?_
  exact h
def LC65_11 : List Op := (1, 66, 10, 117, 0) :: (1, 117, 2, 120, 0) :: (0, 120, 17, 30, 30) :: (1, 117, 1, 119, 0) :: (0, 119, 15, 30, 30) :: (1, 117, 0, 118, 0) :: (0, 118, 15, 30, 30) :: (0, 117, 2, 0, 13) :: LC65_10
theorem ld80_65_10 (g : Gc) {lv : Nat} {Q : Mm → Prop} (h : At g M_Land_init (lv + 2) 80 [(0, va_rf (some (gz g + 65))), (2, .int (nI 11))] [] (run g m00 LC65_11) (QV Q)) : At g M_Land_init (lv + 2) 80 [(0, va_rf (some (gz g + 65))), (2, .int (nI 10))] [] (run g m00 LC65_10) (QV Q) := by
  refine bk_Land_init_80 g ?_
  rw [if_neg (by decide), show (nI 10).toNatClampNeg = 10 from rfl, nI_s]
  refine stK (n := 0) (by decide +kernel) ?_
  refine ⟨gz g + 66, rR (by decide +kernel), ?_⟩
  refine stN 117 0 13 0 (frb0 g) rfl (by decide +kernel) (by decide +kernel) (by decide +kernel) (by decide +kernel) ?_
  refine en_Grower_init g ?_
  refine stN 118 30 30 0 (frb0 g) rfl (by decide +kernel) (by decide +kernel) (by decide +kernel) (by decide +kernel) ?_
  refine stK (n := 0) (by decide +kernel) ?_
  refine stR (by decide +kernel) ?_
  refine stN 119 30 30 0 (frb0 g) rfl (by decide +kernel) (by decide +kernel) (by decide +kernel) (by decide +kernel) ?_
  refine stR (by decide +kernel) ?_
  refine stN 120 30 30 0 (frb0 g) rfl (by decide +kernel) (by decide +kernel) (by decide +kernel) (by decide +kernel) ?_
  refine stR (by decide +kernel) ?_
  refine stK (n := 12) (by decide +kernel) ?_
  refine stV (k := 19) (n := 12) 10 rfl (by decide +kernel) (by omega) (by omega) ?_
  refine stR (by decide +kernel) ?_
  exact h
def LC65_12 : List Op := (1, 66, 11, 121, 0) :: (1, 121, 2, 124, 0) :: (0, 124, 17, 30, 30) :: (1, 121, 1, 123, 0) :: (0, 123, 15, 30, 30) :: (1, 121, 0, 122, 0) :: (0, 122, 15, 30, 30) :: (0, 121, 2, 0, 13) :: LC65_11
theorem ld80_65_11 (g : Gc) {lv : Nat} {Q : Mm → Prop} (h : At g M_Land_init (lv + 2) 80 [(0, va_rf (some (gz g + 65))), (2, .int (nI 12))] [] (run g m00 LC65_12) (QV Q)) : At g M_Land_init (lv + 2) 80 [(0, va_rf (some (gz g + 65))), (2, .int (nI 11))] [] (run g m00 LC65_11) (QV Q) := by
  refine bk_Land_init_80 g ?_
  rw [if_neg (by decide), show (nI 11).toNatClampNeg = 11 from rfl, nI_s]
  refine stK (n := 0) (by decide +kernel) ?_
  refine ⟨gz g + 66, rR (by decide +kernel), ?_⟩
  refine stN 121 0 13 0 (frb0 g) rfl (by decide +kernel) (by decide +kernel) (by decide +kernel) (by decide +kernel) ?_
  refine en_Grower_init g ?_
  refine stN 122 30 30 0 (frb0 g) rfl (by decide +kernel) (by decide +kernel) (by decide +kernel) (by decide +kernel) ?_
  refine stK (n := 0) (by decide +kernel) ?_
  refine stR (by decide +kernel) ?_
  refine stN 123 30 30 0 (frb0 g) rfl (by decide +kernel) (by decide +kernel) (by decide +kernel) (by decide +kernel) ?_
  refine stR (by decide +kernel) ?_
  refine stN 124 30 30 0 (frb0 g) rfl (by decide +kernel) (by decide +kernel) (by decide +kernel) (by decide +kernel) ?_
  refine stR (by decide +kernel) ?_
  refine stK (n := 12) (by decide +kernel) ?_
  refine stV (k := 19) (n := 12) 11 rfl (by decide +kernel) (by omega) (by omega) ?_
  refine stR (by decide +kernel) ?_
  exact h
def LE65_0 : List Op := LC65_12
def LE65_1 : List Op := (1, 67, 0, 125, 0) :: (2, 125, 1, 10, 0) :: (2, 125, 0, 50, 0) :: (0, 125, 1, 0, 3) :: LE65_0
theorem ld107_65_0 (g : Gc) {lv : Nat} {Q : Mm → Prop} (h : At g M_Land_init (lv + 2) 107 [(0, va_rf (some (gz g + 65))), (2, .int (nI 1))] [] (run g m00 LE65_1) (QV Q)) : At g M_Land_init (lv + 2) 107 [(0, va_rf (some (gz g + 65))), (2, .int (nI 0))] [] (run g m00 LE65_0) (QV Q) := by
  refine bk_Land_init_107 g ?_
  rw [if_neg (by decide), show (nI 0).toNatClampNeg = 0 from rfl, nI_s]
  refine stK (n := 0) (by decide +kernel) ?_
  refine ⟨gz g + 67, rR (by decide +kernel), ?_⟩
  refine stN 125 0 3 0 (frb0 g) rfl (by decide +kernel) (by decide +kernel) (by decide +kernel) (by decide +kernel) ?_
  refine en_Bank_init g ?_
  refine stK (n := 0) (by decide +kernel) ?_
  refine stI 0 50 (by decide +kernel) (by decide +kernel) ?_
  refine stI 1 10 (by decide +kernel) (by decide +kernel) ?_
  refine stK (n := 3) (by decide +kernel) ?_
  refine stV (k := 18) (n := 3) 0 rfl (by decide +kernel) (by omega) (by omega) ?_
  refine stR (by decide +kernel) ?_
  exact h
def LE65_2 : List Op := (1, 67, 1, 126, 0) :: (2, 126, 1, 10, 0) :: (2, 126, 0, 50, 0) :: (0, 126, 1, 0, 3) :: LE65_1
theorem ld107_65_1 (g : Gc) {lv : Nat} {Q : Mm → Prop} (h : At g M_Land_init (lv + 2) 107 [(0, va_rf (some (gz g + 65))), (2, .int (nI 2))] [] (run g m00 LE65_2) (QV Q)) : At g M_Land_init (lv + 2) 107 [(0, va_rf (some (gz g + 65))), (2, .int (nI 1))] [] (run g m00 LE65_1) (QV Q) := by
  refine bk_Land_init_107 g ?_
  rw [if_neg (by decide), show (nI 1).toNatClampNeg = 1 from rfl, nI_s]
  refine stK (n := 0) (by decide +kernel) ?_
  refine ⟨gz g + 67, rR (by decide +kernel), ?_⟩
  refine stN 126 0 3 0 (frb0 g) rfl (by decide +kernel) (by decide +kernel) (by decide +kernel) (by decide +kernel) ?_
  refine en_Bank_init g ?_
  refine stK (n := 0) (by decide +kernel) ?_
  refine stI 0 50 (by decide +kernel) (by decide +kernel) ?_
  refine stI 1 10 (by decide +kernel) (by decide +kernel) ?_
  refine stK (n := 3) (by decide +kernel) ?_
  refine stV (k := 18) (n := 3) 1 rfl (by decide +kernel) (by omega) (by omega) ?_
  refine stR (by decide +kernel) ?_
  exact h
def LE65_3 : List Op := (1, 67, 2, 127, 0) :: (2, 127, 1, 10, 0) :: (2, 127, 0, 50, 0) :: (0, 127, 1, 0, 3) :: LE65_2
theorem ld107_65_2 (g : Gc) {lv : Nat} {Q : Mm → Prop} (h : At g M_Land_init (lv + 2) 107 [(0, va_rf (some (gz g + 65))), (2, .int (nI 3))] [] (run g m00 LE65_3) (QV Q)) : At g M_Land_init (lv + 2) 107 [(0, va_rf (some (gz g + 65))), (2, .int (nI 2))] [] (run g m00 LE65_2) (QV Q) := by
  refine bk_Land_init_107 g ?_
  rw [if_neg (by decide), show (nI 2).toNatClampNeg = 2 from rfl, nI_s]
  refine stK (n := 0) (by decide +kernel) ?_
  refine ⟨gz g + 67, rR (by decide +kernel), ?_⟩
  refine stN 127 0 3 0 (frb0 g) rfl (by decide +kernel) (by decide +kernel) (by decide +kernel) (by decide +kernel) ?_
  refine en_Bank_init g ?_
  refine stK (n := 0) (by decide +kernel) ?_
  refine stI 0 50 (by decide +kernel) (by decide +kernel) ?_
  refine stI 1 10 (by decide +kernel) (by decide +kernel) ?_
  refine stK (n := 3) (by decide +kernel) ?_
  refine stV (k := 18) (n := 3) 2 rfl (by decide +kernel) (by omega) (by omega) ?_
  refine stR (by decide +kernel) ?_
  exact h
theorem cLand_65 (g : Gc) {lv : Nat} {Q : Mm → Prop} (h : Q (run g m00 LE65_3)) : CV g M_Land_init (lv + 2) [va_rf (some (gz g + 65)), va_rf (some (gz g + 1))] (run g m00 LB65) Q := by
  refine en_Land_init g ?_
  refine stN 66 12 12 0 (frb0 g) rfl (by decide +kernel) (by decide +kernel) (by decide +kernel) (by decide +kernel) ?_
  refine stK (n := 0) (by decide +kernel) ?_
  refine stR (by decide +kernel) ?_
  refine stN 67 3 3 0 (frb0 g) rfl (by decide +kernel) (by decide +kernel) (by decide +kernel) (by decide +kernel) ?_
  refine stR (by decide +kernel) ?_
  refine stN 68 0 2 0 (frb0 g) rfl (by decide +kernel) (by decide +kernel) (by decide +kernel) (by decide +kernel) ?_
  refine en_Store_init g ?_
  refine stN 69 400 400 0 (frb0 g) rfl (by decide +kernel) (by decide +kernel) (by decide +kernel) (by decide +kernel) ?_
  refine stK (n := 0) (by decide +kernel) ?_
  refine stR (by decide +kernel) ?_
  refine stR (by decide +kernel) ?_
  refine stN 70 0 9 0 (frb0 g) rfl (by decide +kernel) (by decide +kernel) (by decide +kernel) (by decide +kernel) ?_
  refine en_Judge_init g ?_
  refine stN 71 6 6 0 (frb0 g) rfl (by decide +kernel) (by decide +kernel) (by decide +kernel) (by decide +kernel) ?_
  refine stK (n := 0) (by decide +kernel) ?_
  refine stR (by decide +kernel) ?_
  refine stN 72 32 32 0 (frb0 g) rfl (by decide +kernel) (by decide +kernel) (by decide +kernel) (by decide +kernel) ?_
  refine stR (by decide +kernel) ?_
  refine stN 73 8 8 0 (frb0 g) rfl (by decide +kernel) (by decide +kernel) (by decide +kernel) (by decide +kernel) ?_
  refine stR (by decide +kernel) ?_
  refine stR (by decide +kernel) ?_
  refine stN 74 30 30 0 (frb0 g) rfl (by decide +kernel) (by decide +kernel) (by decide +kernel) (by decide +kernel) ?_
  refine stR (by decide +kernel) ?_
  refine stN 75 30 30 0 (frb0 g) rfl (by decide +kernel) (by decide +kernel) (by decide +kernel) (by decide +kernel) ?_
  refine stR (by decide +kernel) ?_
  refine stN 76 8 8 0 (frb0 g) rfl (by decide +kernel) (by decide +kernel) (by decide +kernel) (by decide +kernel) ?_
  refine stR (by decide +kernel) ?_
  refine stI 10 100 (by decide +kernel) (by decide +kernel) ?_
  refine stR (by decide +kernel) ?_
  show At g M_Land_init (lv + 2) 80 [(0, va_rf (some (gz g + 65))), (2, .int (nI 0))] [] (run g m00 LC65_0) (QV Q)
  refine ld80_65_0 g ?_
  refine ld80_65_1 g ?_
  refine ld80_65_2 g ?_
  refine ld80_65_3 g ?_
  refine ld80_65_4 g ?_
  refine ld80_65_5 g ?_
  refine ld80_65_6 g ?_
  refine ld80_65_7 g ?_
  refine ld80_65_8 g ?_
  refine ld80_65_9 g ?_
  refine ld80_65_10 g ?_
  refine ld80_65_11 g ?_
  refine bk_Land_init_80 g ?_
  rw [if_pos (by decide)]
  show At g M_Land_init (lv + 2) 107 [(0, va_rf (some (gz g + 65))), (2, .int (nI 0))] [] (run g m00 LE65_0) (QV Q)
  refine ld107_65_0 g ?_
  refine ld107_65_1 g ?_
  refine ld107_65_2 g ?_
  refine bk_Land_init_107 g ?_
  rw [if_pos (by decide)]
  exact h
def LT : List Op := (1, 0, 6, 140, 0) :: (3, 143, 3, 0, 0) :: (3, 143, 2, 0, 0) :: (3, 143, 1, 0, 0) :: (3, 143, 0, 0, 0) :: (1, 140, 2, 143, 0) :: (0, 143, 15, 4, 4) :: (1, 140, 1, 142, 0) :: (0, 142, 15, 4, 4) :: (1, 140, 0, 141, 0) :: (0, 141, 16, 240, 240) :: (0, 140, 8, 0, 3) :: (1, 0, 5, 139, 0) :: (0, 139, 20, 30, 30) :: (1, 0, 4, 133, 0) :: (1, 133, 4, 138, 0) :: (0, 138, 15, 300, 300) :: (1, 133, 3, 137, 0) :: (0, 137, 15, 12, 12) :: (1, 133, 2, 136, 0) :: (0, 136, 15, 12, 12) :: (1, 133, 1, 135, 0) :: (0, 135, 15, 12, 12) :: (1, 133, 0, 134, 0) :: (0, 134, 15, 12, 12) :: (0, 133, 5, 0, 7) :: (1, 0, 3, 128, 0) :: (3, 128, 5, 0, 0) :: (1, 128, 3, 132, 0) :: (0, 132, 15, 301, 301) :: (1, 128, 2, 131, 0) :: (0, 131, 15, 301, 301) :: (1, 128, 1, 130, 0) :: (0, 130, 15, 301, 301) :: (1, 128, 0, 129, 0) :: (0, 129, 14, 300, 300) :: (0, 128, 10, 0, 9) :: (1, 0, 2, 65, 0) :: LE65_3
theorem cSL (g : Gc) {lv : Nat} {Q : Mm → Prop} (h : ∀ f : Nat → Int64, (∀ n k, n ≤ 60 → k ≤ n → f (n * (n + 1) / 2 + k) = ch n k) → Q (sR (rL (run g m00 ((0, 144, 16, 1891, 1891) :: LT)) (gz g + 144) f) (gz g + 0) 7 (some (gz g + 144)))) : CV g M_SL_init (lv + 4) [va_rf (some (gz g + 0))] (run g m00 LS0) Q := by
  refine en_SL_init g ?_
  refine stN 1 0 7 0 (frb0 g) rfl (by decide +kernel) (by decide +kernel) (by decide +kernel) (by decide +kernel) ?_
  refine en_Terms_init g ?_
  refine stK (n := 0) (by decide +kernel) ?_
  refine stI 0 1000 (by decide +kernel) (by decide +kernel) ?_
  refine stI 1 100 (by decide +kernel) (by decide +kernel) ?_
  refine stI 2 100 (by decide +kernel) (by decide +kernel) ?_
  refine stI 3 100 (by decide +kernel) (by decide +kernel) ?_
  refine stI 4 120 (by decide +kernel) (by decide +kernel) ?_
  refine stI 5 10 (by decide +kernel) (by decide +kernel) ?_
  refine stI 6 0 (by decide +kernel) (by decide +kernel) ?_
  refine stK (n := 0) (by decide +kernel) ?_
  refine stR (by decide +kernel) ?_
  refine stN 2 0 14 0 (frb0 g) rfl (by decide +kernel) (by decide +kernel) (by decide +kernel) (by decide +kernel) ?_
  refine cLand_2 g ?_
  refine stR (by decide +kernel) ?_
  refine stN 65 0 14 0 (frb0 g) rfl (by decide +kernel) (by decide +kernel) (by decide +kernel) (by decide +kernel) ?_
  refine cLand_65 g ?_
  refine stR (by decide +kernel) ?_
  refine stN 128 0 9 0 (frb0 g) rfl (by decide +kernel) (by decide +kernel) (by decide +kernel) (by decide +kernel) ?_
  refine en_Tape_init g ?_
  refine stN 129 300 300 0 (frb0 g) rfl (by decide +kernel) (by decide +kernel) (by decide +kernel) (by decide +kernel) ?_
  refine stK (n := 0) (by decide +kernel) ?_
  refine stR (by decide +kernel) ?_
  refine stN 130 301 301 0 (frb0 g) rfl (by decide +kernel) (by decide +kernel) (by decide +kernel) (by decide +kernel) ?_
  refine stR (by decide +kernel) ?_
  refine stN 131 301 301 0 (frb0 g) rfl (by decide +kernel) (by decide +kernel) (by decide +kernel) (by decide +kernel) ?_
  refine stR (by decide +kernel) ?_
  refine stN 132 301 301 0 (frb0 g) rfl (by decide +kernel) (by decide +kernel) (by decide +kernel) (by decide +kernel) ?_
  refine stR (by decide +kernel) ?_
  refine stM 5 (by decide +kernel) rfl ?_
  refine stR (by decide +kernel) ?_
  refine stN 133 0 7 0 (frb0 g) rfl (by decide +kernel) (by decide +kernel) (by decide +kernel) (by decide +kernel) ?_
  refine en_Law_init g ?_
  refine stNL 134 12 0 (frb0 g) rfl (by decide +kernel) (by decide +kernel) (by decide +kernel) (by omega) ?_
  refine stK (n := 0) (by decide +kernel) ?_
  refine stR (by decide +kernel) ?_
  refine stNL 135 12 0 (frb0 g) rfl (by decide +kernel) (by decide +kernel) (congrArg nI (rK (k := 15) (by decide +kernel)).2) (by omega) ?_
  refine stR (by decide +kernel) ?_
  refine stNL 136 12 0 (frb0 g) rfl (by decide +kernel) (by decide +kernel) (congrArg nI (rK (k := 15) (by decide +kernel)).2) (by omega) ?_
  refine stR (by decide +kernel) ?_
  refine stNL 137 12 0 (frb0 g) rfl (by decide +kernel) (by decide +kernel) (congrArg nI (rK (k := 15) (by decide +kernel)).2) (by omega) ?_
  refine stR (by decide +kernel) ?_
  refine stNL 138 300 0 (frb0 g) rfl (by decide +kernel) (by decide +kernel) (by decide +kernel) (by omega) ?_
  refine stR (by decide +kernel) ?_
  refine stR (by decide +kernel) ?_
  refine stN 139 30 30 0 (frb0 g) rfl (by decide +kernel) (by decide +kernel) (by decide +kernel) (by decide +kernel) ?_
  refine stR (by decide +kernel) ?_
  refine stN 140 0 3 0 (frb0 g) rfl (by decide +kernel) (by decide +kernel) (by decide +kernel) (by decide +kernel) ?_
  refine en_Rows_init g ?_
  refine stN 141 240 240 0 (frb0 g) rfl (by decide +kernel) (by decide +kernel) (by decide +kernel) (by decide +kernel) ?_
  refine stK (n := 0) (by decide +kernel) ?_
  refine stR (by decide +kernel) ?_
  refine stN 142 4 4 0 (frb0 g) rfl (by decide +kernel) (by decide +kernel) (by decide +kernel) (by decide +kernel) ?_
  refine stR (by decide +kernel) ?_
  refine stN 143 4 4 0 (frb0 g) rfl (by decide +kernel) (by decide +kernel) (by decide +kernel) (by decide +kernel) ?_
  refine stR (by decide +kernel) ?_
  refine c_fill g (N := 4) (rK (n := 4) (by decide +kernel)).1 (rK (k := 15) (by decide +kernel)).2 (by omega) (fun f h1 h2 => ?_)
  rw [fill4 h1 h2]
  refine stR (by decide +kernel) ?_
  refine cSetsL g (by decide +kernel) (by decide +kernel) (fun f hf => ?_)
  exact stRL (by decide +kernel) (h f hf)
def LR0 : List Op := (1, 145, 65, 183, 0) :: (0, 183, 16, 61, 61) :: (1, 145, 56, 182, 0) :: (0, 182, 16, 6, 6) :: (1, 145, 46, 181, 0) :: (0, 181, 16, 800, 800) :: (1, 145, 45, 180, 0) :: (0, 180, 15, 800, 800) :: (1, 145, 44, 179, 0) :: (0, 179, 15, 800, 800) :: (1, 145, 43, 178, 0) :: (0, 178, 16, 16, 16) :: (1, 145, 42, 177, 0) :: (0, 177, 15, 800, 800) :: (1, 145, 41, 176, 0) :: (0, 176, 15, 800, 800) :: (1, 145, 40, 175, 0) :: (0, 175, 15, 800, 800) :: (1, 145, 39, 174, 0) :: (0, 174, 16, 30, 30) :: (1, 145, 38, 173, 0) :: (0, 173, 16, 24, 24) :: (1, 145, 37, 172, 0) :: (0, 172, 15, 24, 24) :: (1, 145, 36, 171, 0) :: (0, 171, 15, 72, 72) :: (1, 145, 35, 170, 0) :: (0, 170, 15, 24, 24) :: (1, 145, 34, 169, 0) :: (0, 169, 15, 2, 2) :: (1, 145, 33, 168, 0) :: (0, 168, 15, 2, 2) :: (1, 145, 32, 167, 0) :: (2, 167, 1, 100, 0) :: (2, 167, 0, 100, 0) :: (0, 167, 15, 2, 2) :: (1, 145, 31, 166, 0) :: (0, 166, 15, 2, 2) :: (1, 145, 30, 165, 0) :: (0, 165, 15, 12, 12) :: (1, 145, 29, 164, 0) :: (0, 164, 15, 12, 12) :: (1, 145, 28, 163, 0) :: (0, 163, 17, 360, 360) :: (1, 145, 27, 162, 0) :: (0, 162, 17, 360, 360) :: (1, 145, 26, 161, 0) :: (0, 161, 15, 30, 30) :: (1, 145, 25, 160, 0) :: (0, 160, 15, 30, 30) :: (1, 145, 24, 159, 0) :: (0, 159, 15, 360, 360) :: (1, 145, 23, 158, 0) :: (0, 158, 15, 360, 360) :: (1, 145, 22, 157, 0) :: (0, 157, 15, 12, 12) :: (1, 145, 21, 156, 0) :: (0, 156, 15, 12, 12) :: (1, 145, 20, 155, 0) :: (0, 155, 15, 12, 12) :: (1, 145, 18, 154, 0) :: (0, 154, 15, 31, 31) :: (1, 145, 17, 153, 0) :: (0, 153, 14, 9300, 9300) :: (3, 145, 16, 0, 0) :: (1, 145, 14, 152, 0) :: (0, 152, 14, 300, 300) :: (1, 145, 13, 151, 0) :: (2, 151, 2, 10, 0) :: (2, 151, 1, 10, 0) :: (2, 151, 0, 10, 0) :: (0, 151, 15, 3, 3) :: (1, 145, 12, 150, 0) :: (2, 150, 2, 50, 0) :: (2, 150, 1, 50, 0) :: (2, 150, 0, 50, 0) :: (0, 150, 15, 3, 3) :: (2, 145, 10, 10, 0) :: (2, 145, 9, 120, 0) :: (2, 145, 8, 100, 0) :: (2, 145, 7, 100, 0) :: (2, 145, 6, 100, 0) :: (2, 145, 5, 1000, 0) :: (1, 145, 4, 149, 0) :: (0, 149, 16, 60, 60) :: (1, 145, 3, 148, 0) :: (0, 148, 16, 240, 240) :: (1, 145, 2, 147, 0) :: (0, 147, 15, 4, 4) :: (1, 145, 1, 146, 0) :: (3, 146, 3, 0, 0) :: (3, 146, 2, 0, 0) :: (3, 146, 1, 0, 0) :: (3, 146, 0, 0, 0) :: (0, 146, 15, 4, 4) :: [(0, 145, 13, 0, 66)]
theorem cRF (g : Gc) {lv : Nat} {b : Mm} (hf : Frb g b) (hb : mC b = 145) {Q : Mm → Prop} (h : Q (run g b (ngs 157 12 (ngs 154 31 LR0)))) : CV g M_RF_init (lv + 1) [va_rf (some (gz g + 145))] (run g b [(0, 145, 13, 0, 66)]) Q := by
  have l434 : ∀ (d k : Nat), k + d = 12 → At g M_RF_init (lv + 1) 434 [(0, va_rf (some (gz g + 145))), (1, .int (nI k))] [] (run g b (ngs 157 k (ngs 154 31 LR0))) (QV Q) := by
    intro d
    induction d with
    | zero =>
      intro k hk
      obtain rfl : k = 12 := by omega
      refine bk_RF_init_434 g ?_
      rw [if_pos (by decide)]
      exact h
    | succ d ih =>
      intro k hk
      refine bk_RF_init_434 g ?_
      rw [if_neg (show ¬ (12 : Int32) ≤ nI k from nI_ge (b := 12) (by omega) (by omega)), nI_clamp (show k < 2 ^ 31 by omega), nI_s]
      refine stK (n := 0) (by rw [cK_ngs, cK_ngs]; decide +kernel) ?_
      refine ⟨gz g + 157, rR (by rw [cR_ngs, cR_ngs]; decide +kernel), stK (n := 12) (by rw [cK_ngs, cK_ngs]; decide +kernel) (stV (k := 15) (n := 12) k rfl (by rw [cK_ngs, cK_ngs]; decide +kernel) (by omega) (by omega) (stM k rfl rfl ?_))⟩
      exact ih (k + 1) (by omega)
  have l413 : ∀ (d k : Nat), k + d = 31 → At g M_RF_init (lv + 1) 413 [(0, va_rf (some (gz g + 145))), (1, .int (nI k))] [] (run g b (ngs 154 k LR0)) (QV Q) := by
    intro d
    induction d with
    | zero =>
      intro k hk
      obtain rfl : k = 31 := by omega
      refine bk_RF_init_413 g ?_
      rw [if_pos (by decide)]
      exact l434 12 0 (by omega)
    | succ d ih =>
      intro k hk
      refine bk_RF_init_413 g ?_
      rw [if_neg (show ¬ (31 : Int32) ≤ nI k from nI_ge (b := 31) (by omega) (by omega)), nI_clamp (show k < 2 ^ 31 by omega), nI_s]
      refine stK (n := 0) (by rw [cK_ngs]; decide +kernel) ?_
      refine ⟨gz g + 154, rR (by rw [cR_ngs]; decide +kernel), stK (n := 31) (by rw [cK_ngs]; decide +kernel) (stV (k := 15) (n := 31) k rfl (by rw [cK_ngs]; decide +kernel) (by omega) (by omega) (stM k rfl rfl ?_))⟩
      exact ih (k + 1) (by omega)
  refine en_RF_init g ?_
  refine stN 146 4 4 145 hf hb (by decide +kernel) (by decide +kernel) (by decide +kernel) (by decide +kernel) ?_
  refine stV (k := 15) (n := 4) 0 (by decide +kernel) (by decide +kernel) (by omega) (by omega) ?_
  refine stM 0 (by decide +kernel) rfl ?_
  refine stV (k := 15) (n := 4) 1 (by decide +kernel) (by decide +kernel) (by omega) (by omega) ?_
  refine stM 1 (by decide +kernel) rfl ?_
  refine stV (k := 15) (n := 4) 2 (by decide +kernel) (by decide +kernel) (by omega) (by omega) ?_
  refine stM 2 (by decide +kernel) rfl ?_
  refine stV (k := 15) (n := 4) 3 (by decide +kernel) (by decide +kernel) (by omega) (by omega) ?_
  refine stM 3 (by decide +kernel) rfl ?_
  refine stK (n := 0) (by decide +kernel) ?_
  refine stR (by decide +kernel) ?_
  refine stN 147 4 4 145 hf hb (by decide +kernel) (by decide +kernel) (by decide +kernel) (by decide +kernel) ?_
  refine stR (by decide +kernel) ?_
  refine stN 148 240 240 145 hf hb (by decide +kernel) (by decide +kernel) (by decide +kernel) (by decide +kernel) ?_
  refine stR (by decide +kernel) ?_
  refine stN 149 60 60 145 hf hb (by decide +kernel) (by decide +kernel) (by decide +kernel) (by decide +kernel) ?_
  refine stR (by decide +kernel) ?_
  refine stI 5 1000 (by decide +kernel) (by decide +kernel) ?_
  refine stI 6 100 (by decide +kernel) (by decide +kernel) ?_
  refine stI 7 100 (by decide +kernel) (by decide +kernel) ?_
  refine stI 8 100 (by decide +kernel) (by decide +kernel) ?_
  refine stI 9 120 (by decide +kernel) (by decide +kernel) ?_
  refine stI 10 10 (by decide +kernel) (by decide +kernel) ?_
  refine stN 150 3 3 145 hf hb (by decide +kernel) (by decide +kernel) (by decide +kernel) (by decide +kernel) ?_
  refine stV (k := 15) (n := 3) 0 (by decide +kernel) (by decide +kernel) (by omega) (by omega) ?_
  refine stI 0 50 (by decide +kernel) (by decide +kernel) ?_
  refine stV (k := 15) (n := 3) 1 (by decide +kernel) (by decide +kernel) (by omega) (by omega) ?_
  refine stI 1 50 (by decide +kernel) (by decide +kernel) ?_
  refine stV (k := 15) (n := 3) 2 (by decide +kernel) (by decide +kernel) (by omega) (by omega) ?_
  refine stI 2 50 (by decide +kernel) (by decide +kernel) ?_
  refine stR (by decide +kernel) ?_
  refine stN 151 3 3 145 hf hb (by decide +kernel) (by decide +kernel) (by decide +kernel) (by decide +kernel) ?_
  refine stV (k := 15) (n := 3) 0 (by decide +kernel) (by decide +kernel) (by omega) (by omega) ?_
  refine stI 0 10 (by decide +kernel) (by decide +kernel) ?_
  refine stV (k := 15) (n := 3) 1 (by decide +kernel) (by decide +kernel) (by omega) (by omega) ?_
  refine stI 1 10 (by decide +kernel) (by decide +kernel) ?_
  refine stV (k := 15) (n := 3) 2 (by decide +kernel) (by decide +kernel) (by omega) (by omega) ?_
  refine stI 2 10 (by decide +kernel) (by decide +kernel) ?_
  refine stR (by decide +kernel) ?_
  refine stN 152 300 300 145 hf hb (by decide +kernel) (by decide +kernel) (by decide +kernel) (by decide +kernel) ?_
  refine stR (by decide +kernel) ?_
  refine stM 16 (by decide +kernel) rfl ?_
  refine stN 153 9300 9300 145 hf hb (by decide +kernel) (by decide +kernel) (by decide +kernel) (by decide +kernel) ?_
  refine stR (by decide +kernel) ?_
  refine stN 154 31 31 145 hf hb (by decide +kernel) (by decide +kernel) (by decide +kernel) (by decide +kernel) ?_
  refine stR (by decide +kernel) ?_
  refine stN 155 12 12 145 hf hb (by decide +kernel) (by decide +kernel) (by decide +kernel) (by decide +kernel) ?_
  refine stR (by decide +kernel) ?_
  refine stN 156 12 12 145 hf hb (by decide +kernel) (by decide +kernel) (by decide +kernel) (by decide +kernel) ?_
  refine stR (by decide +kernel) ?_
  refine stN 157 12 12 145 hf hb (by decide +kernel) (by decide +kernel) (by decide +kernel) (by decide +kernel) ?_
  refine stR (by decide +kernel) ?_
  refine stN 158 360 360 145 hf hb (by decide +kernel) (by decide +kernel) (by decide +kernel) (by decide +kernel) ?_
  refine stR (by decide +kernel) ?_
  refine stN 159 360 360 145 hf hb (by decide +kernel) (by decide +kernel) (by decide +kernel) (by decide +kernel) ?_
  refine stR (by decide +kernel) ?_
  refine stN 160 30 30 145 hf hb (by decide +kernel) (by decide +kernel) (by decide +kernel) (by decide +kernel) ?_
  refine stR (by decide +kernel) ?_
  refine stN 161 30 30 145 hf hb (by decide +kernel) (by decide +kernel) (by decide +kernel) (by decide +kernel) ?_
  refine stR (by decide +kernel) ?_
  refine stN 162 360 360 145 hf hb (by decide +kernel) (by decide +kernel) (by decide +kernel) (by decide +kernel) ?_
  refine stR (by decide +kernel) ?_
  refine stN 163 360 360 145 hf hb (by decide +kernel) (by decide +kernel) (by decide +kernel) (by decide +kernel) ?_
  refine stR (by decide +kernel) ?_
  refine stN 164 12 12 145 hf hb (by decide +kernel) (by decide +kernel) (by decide +kernel) (by decide +kernel) ?_
  refine stR (by decide +kernel) ?_
  refine stN 165 12 12 145 hf hb (by decide +kernel) (by decide +kernel) (by decide +kernel) (by decide +kernel) ?_
  refine stR (by decide +kernel) ?_
  refine stN 166 2 2 145 hf hb (by decide +kernel) (by decide +kernel) (by decide +kernel) (by decide +kernel) ?_
  refine stR (by decide +kernel) ?_
  refine stN 167 2 2 145 hf hb (by decide +kernel) (by decide +kernel) (by decide +kernel) (by decide +kernel) ?_
  refine stV (k := 15) (n := 2) 0 (by decide +kernel) (by decide +kernel) (by omega) (by omega) ?_
  refine stI 0 100 (by decide +kernel) (by decide +kernel) ?_
  refine stV (k := 15) (n := 2) 1 (by decide +kernel) (by decide +kernel) (by omega) (by omega) ?_
  refine stI 1 100 (by decide +kernel) (by decide +kernel) ?_
  refine stR (by decide +kernel) ?_
  refine stN 168 2 2 145 hf hb (by decide +kernel) (by decide +kernel) (by decide +kernel) (by decide +kernel) ?_
  refine stR (by decide +kernel) ?_
  refine stN 169 2 2 145 hf hb (by decide +kernel) (by decide +kernel) (by decide +kernel) (by decide +kernel) ?_
  refine stR (by decide +kernel) ?_
  refine stN 170 24 24 145 hf hb (by decide +kernel) (by decide +kernel) (by decide +kernel) (by decide +kernel) ?_
  refine stR (by decide +kernel) ?_
  refine stN 171 72 72 145 hf hb (by decide +kernel) (by decide +kernel) (by decide +kernel) (by decide +kernel) ?_
  refine stR (by decide +kernel) ?_
  refine stN 172 24 24 145 hf hb (by decide +kernel) (by decide +kernel) (by decide +kernel) (by decide +kernel) ?_
  refine stR (by decide +kernel) ?_
  refine stN 173 24 24 145 hf hb (by decide +kernel) (by decide +kernel) (by decide +kernel) (by decide +kernel) ?_
  refine stR (by decide +kernel) ?_
  refine stN 174 30 30 145 hf hb (by decide +kernel) (by decide +kernel) (by decide +kernel) (by decide +kernel) ?_
  refine stR (by decide +kernel) ?_
  refine stN 175 800 800 145 hf hb (by decide +kernel) (by decide +kernel) (by decide +kernel) (by decide +kernel) ?_
  refine stR (by decide +kernel) ?_
  refine stN 176 800 800 145 hf hb (by decide +kernel) (by decide +kernel) (by decide +kernel) (by decide +kernel) ?_
  refine stR (by decide +kernel) ?_
  refine stN 177 800 800 145 hf hb (by decide +kernel) (by decide +kernel) (by decide +kernel) (by decide +kernel) ?_
  refine stR (by decide +kernel) ?_
  refine stN 178 16 16 145 hf hb (by decide +kernel) (by decide +kernel) (by decide +kernel) (by decide +kernel) ?_
  refine stR (by decide +kernel) ?_
  refine stN 179 800 800 145 hf hb (by decide +kernel) (by decide +kernel) (by decide +kernel) (by decide +kernel) ?_
  refine stR (by decide +kernel) ?_
  refine stN 180 800 800 145 hf hb (by decide +kernel) (by decide +kernel) (by decide +kernel) (by decide +kernel) ?_
  refine stR (by decide +kernel) ?_
  refine stN 181 800 800 145 hf hb (by decide +kernel) (by decide +kernel) (by decide +kernel) (by decide +kernel) ?_
  refine stR (by decide +kernel) ?_
  refine stN 182 6 6 145 hf hb (by decide +kernel) (by decide +kernel) (by decide +kernel) (by decide +kernel) ?_
  refine stR (by decide +kernel) ?_
  refine stN 183 61 61 145 hf hb (by decide +kernel) (by decide +kernel) (by decide +kernel) (by decide +kernel) ?_
  refine stR (by decide +kernel) ?_
  exact l413 31 0 (by omega)
