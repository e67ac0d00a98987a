/-! ===== a year of the reference ===== -/
def HoldG (n r : Nat) (A : Mm) : Prop := ∀ i, i < r → ∃ h : Nat, mI A 9 i = nI h ∧ h < n
theorem kpS_holdG {B : Mm} {n r y k : Nat} {P fr : Int32} (h : HoldG n r B) (hk : k < n) : HoldG n (kpS B r y k P fr).2 (kpS B r y k P fr).1 := by
  unfold kpS
  split
  · split
    · intro i hi
      show ∃ h : Nat, mI (kp2 B y k P fr) 9 i = nI h ∧ _
      rw [kp2_I (by omega) (by omega)]
      exact h i hi
    · intro i hi
      show ∃ h : Nat, mI (kp3 B r y k P fr) 9 i = nI h ∧ _
      by_cases hir : i = r
      · subst hir
        refine ⟨k, ?_, hk⟩
        unfold kp3 issA
        rw [mI_sL, mI_sI, up2_oth (by omega)]
        exact issB_at.1
      · rw [kp3_I (by omega) (by omega) (by omega) (by omega) (by omega)]
        exact h i (by have : i < r + 1 := hi; omega)
  · intro i hi
    show ∃ h : Nat, mI (kp1 B y k fr) 9 i = nI h ∧ _
    rw [kp1_I (by omega) (by omega)]
    exact h i hi
theorem kpA_holdG {A : Mm} {n r y : Nat} {P : Int32} {fr : Nat → Int32} (h : HoldG n r A) : ∀ k, k ≤ n → HoldG n (kpA A r y P fr k).2 (kpA A r y P fr k).1
  | 0, _ => h
  | k + 1, hk => kpS_holdG (kpA_holdG h k (by omega)) (by omega)
theorem imx_N {w s : Nat} (hw : w < 2 ^ 31) (hs : s < 2 ^ 31) : imx 0 (nI w - nI s) = nI (w - s) := by
  have z : (0 : Int32).toInt = 0 := rfl
  unfold imx
  by_cases h : s ≤ w
  · rw [nI_sub h hw]
    by_cases e : w - s = 0
    · rw [e]; rfl
    · rw [if_pos (by rw [i32_lt, z, nI_toInt (by omega)]; omega)]
  · have e : (nI w - nI s).toInt = (w : Int) - s := by
      rw [Int32.toInt_sub, nI_toInt hw, nI_toInt hs, Int.bmod_eq_of_le (by omega) (by omega)]
    rw [if_neg (by rw [i32_lt, z, e]; omega), show w - s = 0 by omega]
    rfl
theorem abrV_N {w F s : Nat} (hw : w < 2 ^ 31) (hF : F < 2 ^ 31) (hs : s < 2 ^ 31) : abrV (nI w) (lN F) (lN s) = lN (min F (w - s)) := by
  have z : (0 : Int64).toInt = 0 := rfl
  unfold abrV
  rw [nI_l hw]
  by_cases h : s ≤ w
  · rw [lN_sub h, lmn_N hF (by omega)]
    unfold lmx
    by_cases q : lN (min F (w - s)) < 0
    · rw [i64_lt, z, lN_toInt (by omega)] at q; omega
    · rw [if_neg q]
  · have e : (lN w - lN s).toInt = (w : Int) - s := by
      rw [Int64.toInt_sub, lN_toInt hw, lN_toInt hs, Int.bmod_eq_of_le (by omega) (by omega)]
    have e2 : lmn (lN F) (lN w - lN s) = lN w - lN s := by
      unfold lmn
      rw [if_pos (by rw [i64_lt, e, lN_toInt hF]; omega)]
    rw [e2]
    unfold lmx
    rw [if_pos (by rw [i64_lt, e, z]; omega), show min F (w - s) = 0 by omega]
    rfl
theorem want_N {b s p : Nat} (hb : b ≤ 10000000) (hs : s ≤ 1000000) (hp : p ≤ 10000) : ∃ w : Nat, w ≤ 10000000 ∧ wantV (nI b) (nI s) (nI p) = nI w := by
  have z : (0 : Int64).toInt = 0 := rfl
  have m1 : s * p ≤ 1000000 * 10000 := Nat.mul_le_mul hs hp
  unfold wantV
  rw [nI_l (by omega), nI_l (by omega), nI_l (by omega), lN_mul, show (100 : Int64) = lN 100 from rfl, lN_div (by omega) (by omega)]
  have d1 : s * p / 100 < 2 ^ 31 := by omega
  by_cases h : s * p / 100 ≤ b
  · rw [lN_sub h]
    unfold lmx
    rw [if_neg (by rw [i64_lt, lN_toInt (by omega), z]; omega), lN_i]
    exact ⟨b - s * p / 100, by omega, rfl⟩
  · have e : (lN b - lN (s * p / 100)).toInt = (b : Int) - (s * p / 100 : Nat) := by
      rw [Int64.toInt_sub, lN_toInt (by omega), lN_toInt d1, Int.bmod_eq_of_le (by omega) (by omega)]
    unfold lmx
    rw [if_pos (by rw [i64_lt, e, z]; omega)]
    exact ⟨0, by omega, rfl⟩
/-- what reading a law leaves -/
def PRs (g : Gc) (a j : Nat) : Prop := a = gz g + 182 ∨ (a = gz g + 145 ∧ 48 ≤ j ∧ j ≤ 64)
def VerR (g : Gc) (bg P sd fd ls T : Int32) (m : Mm) : Prop := P = (if mI m (gz g + 145) 59 = 0 then 0 else (lmx 0 (lmn 100 (mL m (gz g + 145) 57))).toInt32) ∧ sd = (if mI m (gz g + 145) 60 = 0 then 0 else (lmx 0 (lmn bg.toInt64 (mL m (gz g + 145) 58))).toInt32) ∧ mI m (gz g + 145) 61 = fd ∧ mI m (gz g + 145) 62 = ls ∧ mI m (gz g + 145) 63 = T
theorem LandQ.prs {g : Gc} {l n y r : Nat} {A m m' : Mm} (h : LandQ g l n y r A m) (s : St (PRs g) m m') : LandQ g l n y r A m' := by
  refine h.same (fun d hd => ⟨funext fun j => (s.2 _ _ (fun q => ?_)).1, funext fun j => (s.2 _ _ (fun q => ?_)).2⟩) (s.2 _ _ (by unfold PRs; omega)).1 (s.2 _ _ (by unfold PRs; omega)).1
  · unfold PRs at q; unfold rCell at hd; omega
  · unfold PRs at q; unfold rCell at hd; omega
def PRa (g : Gc) (l y n a j : Nat) : Prop := PQ9 g l y n a j ∨ PRs g a j
theorem yr34_I {A : Mm} {y n c i : Nat} {yl b s P : Int32} (hn : n ≤ 12) (h7 : c ≠ 7) (h17 : ¬ (c = 17 ∧ 12 * y ≤ i ∧ i < 12 * y + n)) (h19 : ¬ (c = 19 ∧ i = y)) (h20 : ¬ (c = 20 ∧ i = y)) (h5 : ¬ (c = 0 ∧ i = 5)) : mI (yr4 (yr3 A y n yl b s) y P) c i = mI (sI A 0 4 (wantV b s (mI A 0 2))) c i := by
  unfold yr4 yr3
  rw [mI_sI, up2_not h20, mI_sI, up2_not h5]
  by_cases e : c = 17
  · subst e
    rw [gathA_17 n hn, if_neg (by omega), mI_sI, up2_oth (by omega)]
  · rw [gathA_oth h7 e, mI_sI, up2_not h19]
theorem c_passesR (g : Gc) {lv l N n y r0 e co s0 b' s' p' : Nat} {A m0 : Mm} {v u c : Nat → Nat} {yl x P fd l32 T : Int32} {ls : Int64} {F : Nat → Int32} (hl : l < 2) (hN : N ≤ 12) (hnN : n ≤ N) (hn : mI A 0 0 = nI n) (hy : mI A 0 1 = nI y) (h30 : y < 30) (h03 : mI A 0 3 = nI r0) (hr4 : r0 + n ≤ 400) (hh : HoldOK n r0 A) (hl1 : l = 1 → HoldG n r0 A) (hv : frN n A v) (hu : skN r0 A u) (hf30 : ∀ i, i < r0 → ¬ (30 : Int32) ≤ mI A 11 i) (hc : ∀ k, k < n → cropV A y yl k = nI (c k)) (tot : sumN v n + sumN c n + sumN u r0 < 2 ^ 31) (hco : (e = 158 ∧ co = 12 * y) ∨ (e = 164 ∧ co = 0)) (hcm : ∀ k, k < n → mI m0 (gz g + e) (co + k) = cropV A y yl k) (hb : mI m0 (gz g + 145) 5 = nI b') (hb2 : b' ≤ 10000000) (hs : mI m0 (gz g + 145) 6 = nI s') (hs2 : s' ≤ 1000000) (hpr : mI A 0 2 = nI p') (hp2 : p' ≤ 10000) (hs0 : s0 < 2 ^ 31) (hS : Sg g m0) (hR : LandQ g l N y r0 A m0)
    (hRd : ∀ m1, St (PRa g l y n) m0 m1 → (∀ j, j < 6 → mL m1 (gz g + 182) j = factA (yr3 A y n yl (nI b') (nI s')) y r0 n j) → CV g M_RF_reads (lv + 2) [va_rf (some (gz g + 145)), .int x] m1 (fun m2 => VerR g (sacT A r0) P (nI s0) fd l32 T m2 ∧ St (PRs g) m1 m2))
    (hfr : ∀ k, k < n → frV ls F (mI A 1 k) (cropV A y yl k) = if ((fd >>> (mI A 1 k &&& 31)) &&& 1) = 1 then 1 else if l32 ≤ cropV A y yl k then 0 else 1)
    {Q : Int32 → Mm → Prop} (hQ : ∀ A4 A5 A7 A9, A4 = yr4 (yr3 A y n yl (nI b') (nI s')) y P → A5 = yr5 A4 r0 y n P ls F → A7 = yr7 A5.1 r0 A5.2 (lN s0) T → A9 = yr9 A7 n (lN s0) (mI m0 (gz g + 145) 8) → ∀ m', LandQ g l N y A5.2 (yr13 (yr11 A9 A5.2 (mI m0 (gz g + 145) 11)) n (sumL A7 7 n) (lN s0) (mI m0 (gz g + 145) 7) (mI m0 (gz g + 145) 9) (mI m0 (gz g + 145) 10)) m' → St (PRa g l y n) m0 m' → (l = 0 → (∀ j, j < n → mI m' (gz g + 162) (12 * y + j) = frV ls F (mI A 1 j) (cropV A y yl j)) ∧ ∀ i, mI m' (gz g + 179) i = if 2 * r0 ≤ i ∧ i < 2 * A5.2 then -1 else mI m0 (gz g + 179) i) → Q P m') : CI g M_RF_passes (lv + 3) [va_rf (some (gz g + 145)), .int (nI l), .int x, va_rf (some (gz g + e)), .int (nI co)] m0 Q := by
  have ke : ∀ mm : Mm, Sg g mm → mK mm (gz g + e) = 15 ∧ ∀ k, k < n → vp_in (nI (co + k)) (mN mm (gz g + e)) := fun mm S => by
    rcases hco with ⟨rfl, rfl⟩ | ⟨rfl, rfl⟩
    · exact ⟨S.k 158 rfl, fun k hk => by rw [S.n 158 rfl]; exact vp_in_nI (N := 360) (by omega) (by omega)⟩
    · exact ⟨S.k 164 rfl, fun k hk => by rw [S.n 164 rfl]; exact vp_in_nI (N := 12) (by omega) (by omega)⟩
  have v2 : ∀ (mm : Mm) (a : Nat), Sg g mm → shN a = 2 → a < 184 → vp_in (nI l) (mN mm (gz g + a)) := fun mm a S h1 h2 => by rw [S.n a h1 h2]; exact vp_in_nI (N := 2) hl (by omega)
  have v6 : ∀ (mm : Mm) (j : Nat), Sg g mm → j < 6 → vp_in (nI j) (mN mm (gz g + 182)) := fun mm j S hj => by rw [S.n 182 rfl]; exact vp_in_nI (N := 6) hj (by omega)
  have c0 : (0 : Int32).toNatClampNeg = 0 := rfl
  have c1 : (1 : Int32).toNatClampNeg = 1 := rfl
  have c2 : (2 : Int32).toNatClampNeg = 2 := rfl
  have c3 : (3 : Int32).toNatClampNeg = 3 := rfl
  have c4 : (4 : Int32).toNatClampNeg = 4 := rfl
  have c5 : (5 : Int32).toNatClampNeg = 5 := rfl
  obtain ⟨sb1, sb2⟩ := sacB_N r0 hu hf30
  obtain ⟨w, hw1, hw2⟩ := want_N hb2 hs2 hp2
  have su31 : sumN u r0 < 2 ^ 31 := by omega
  -- the state that the class has when the parts are kept
  have a17 : ∀ k, k < n → mI (yr3 A y n yl (nI b') (nI s')) 17 (12 * y + k) = cropV A y yl k := fun k hk => by
    unfold yr3
    rw [gathA_17 n (by omega), if_pos (by omega), show 12 * y + k - 12 * y = k by omega]
    unfold cropV
    rw [mI_sI, mI_sI, up2_oth (by omega), up2_oth (by omega), up2_oth (by omega), up2_oth (by omega)]
  have x17 : ∀ k, k < n → mI (yr4 (yr3 A y n yl (nI b') (nI s')) y P) 17 (12 * y + k) = cropV A y yl k := fun k hk => by
    show mI (sI (sI _ 0 5 P) 20 y P) 17 _ = _
    rw [mI_sI, up2_oth (by omega), mI_sI, up2_oth (by omega)]; exact a17 k hk
  have cv : ∀ k, cropV (sI (sI A 0 4 (wantV (nI b') (nI s') (mI A 0 2))) 19 y yl) y yl k = cropV A y yl k := fun k => by
    unfold cropV
    rw [mI_sI, mI_sI, up2_oth (by omega), up2_oth (by omega), up2_oth (by omega), up2_oth (by omega)]
  have x7 : ∀ j, mI (yr4 (yr3 A y n yl (nI b') (nI s')) y P) 7 j = if j < n then mI A 7 j + cropV A y yl j else mI A 7 j := fun j => by
    show mI (sI (sI _ 0 5 P) 20 y P) 7 _ = _
    rw [mI_sI, up2_oth (by omega), mI_sI, up2_oth (by omega)]
    unfold yr3
    rw [gathA_7, cv, mI_sI, up2_oth (by omega), mI_sI, up2_oth (by omega)]
  have xL : mL (yr4 (yr3 A y n yl (nI b') (nI s')) y P) = mL (sL A 2 0 (mL A 2 0 + crpL (yr3 A y n yl (nI b') (nI s')) y n)) := by
    show mL (yr3 A y n yl (nI b') (nI s')) = _
    rw [crpL_crv (A := A) (yl := yl) n a17]
    unfold yr3
    rw [gathA_L]
    have : ∀ k, crvL (sI (sI A 0 4 (wantV (nI b') (nI s') (mI A 0 2))) 19 y yl) y yl k = crvL A y yl k := fun k => by
      induction k with
      | zero => rfl
      | succ k ih =>
        show crvL _ y yl k + _ = crvL A y yl k + _
        rw [ih, cv]
    rw [this]
    rfl
  have xI : ∀ cc i, cc ≠ 7 → ¬ (cc = 17 ∧ 12 * y ≤ i ∧ i < 12 * y + n) → ¬ (cc = 19 ∧ i = y) → ¬ (cc = 20 ∧ i = y) → ¬ (cc = 0 ∧ i = 5) → mI (yr4 (yr3 A y n yl (nI b') (nI s')) y P) cc i = mI (sI A 0 4 (wantV (nI b') (nI s') (mI A 0 2))) cc i := fun cc i h1 h2 h3 h4 h5 => yr34_I (by omega) h1 h2 h3 h4 h5
  have fact : ∀ (Z : Mm), factA Z y r0 n = factA Z y r0 n := fun _ => rfl
  have y3 : ∀ cc i, cc ≠ 7 → cc ≠ 17 → cc ≠ 19 → ¬ (cc = 0 ∧ i = 4) → mI (yr3 A y n yl (nI b') (nI s')) cc i = mI A cc i := fun cc i h1 h2 h3 h4 => by
    unfold yr3
    rw [gathA_oth h1 h2, mI_sI, up2_oth h3, mI_sI, up2_not h4]
  have y34 : mI (yr3 A y n yl (nI b') (nI s')) 0 4 = wantV (nI b') (nI s') (mI A 0 2) := by
    unfold yr3
    rw [gathA_oth (by omega) (by omega), mI_sI, up2_oth (by omega), mI_sI, up2_at]
  have sacE : ∀ yy k, sacB (yr3 A y n yl (nI b') (nI s')) yy k = sacB A yy k := fun yy k => by
    induction k with
    | zero => rfl
    | succ k ih => unfold sacB; rw [ih, y3 11 k (by omega) (by omega) (by omega) (by omega), y3 10 k (by omega) (by omega) (by omega) (by omega)]
  have hQ1 := hQ (yr4 (yr3 A y n yl (nI b') (nI s')) y P) (yr5 (yr4 (yr3 A y n yl (nI b') (nI s')) y P) r0 y n P ls F) _ _ rfl rfl rfl rfl
  clear hQ
  have fA : ∀ j, j < 6 → factA (yr3 A y n yl (nI b') (nI s')) y r0 n j = if j = 0 then crpL (yr3 A y n yl (nI b') (nI s')) y n else if j = 1 then sacB A 30 r0 else if j = 2 then sacB A (nI y - 1) r0 else if j = 3 then (mI A 0 2).toInt64 else if j = 4 then (wantV (nI b') (nI s') (mI A 0 2)).toInt64 else (nI y).toInt64 := fun j hj => by
    unfold factA
    rw [sacE, sacE, y3 0 2 (by omega) (by omega) (by omega) (by omega), y34, y3 0 1 (by omega) (by omega) (by omega) (by omega), hy]
  generalize hA3 : yr3 A y n yl (nI b') (nI s') = A3 at a17 x17 x7 xL xI hQ1 fA hRd
  generalize hC0 : yr4 A3 y P = C0 at x17 x7 xL xI hQ1
  -- the loops ahead
  have l63 : ∀ (d k : Nat), k + d = r0 → At g M_RF_passes (lv + 3) 63 [(0, va_rf (some (gz g + 145))), (1, .int (nI l)), (2, .int x), (3, va_rf (some (gz g + e))), (4, .int (nI co)), (5, .int (nI y)), (6, .int (nI r0)), (7, .int (sacT A r0)), (8, .long (crpL A3 y n)), (10, .long (sacB A (nI y - 1) k)), (12, .int (nI k))] [] m0 (QI Q) := by
    intro d
    induction d with
    | zero =>
      intro k hk
      obtain rfl : k = r0 := by omega
      refine bk_RF_passes_63 g ?_
      rw [if_pos (nI_le (by omega) (by omega))]
      refine ⟨hS.k 145 rfl, gz g + 169, hS.r 145 34 rfl, en_RF_wants g ⟨hS.k 145 rfl, gz g + 167, hS.r 145 32 rfl, hS.k 167 rfl, v2 m0 167 hS rfl (by omega), ?_⟩⟩
      rw [hb, hs, nI_clamp (show l < 2 ^ 31 by omega), hR.sc.2.1]
      refine ⟨hS.k 169 rfl, v2 m0 169 hS rfl (by omega), fun m1 e1 => ?_⟩
      have e1' : m1 = sI m0 (gz g + 169) l (wantV (nI b') (nI s') (mI A 0 2)) := e1
      have R1 := (hR.p0 (wantV (nI b') (nI s') (mI A 0 2))).2.2
      rw [← e1'] at R1
      have s1 : St (PRa g l y n) m0 m1 := by rw [e1']; exact St_sI m0 (Or.inl (Or.inl (by unfold PQ; omega))) _
      have i1 : mI m1 (gz g + 179) = mI m0 (gz g + 179) := by rw [e1', mI_sI, up2_ne (by omega)]
      clear e1 e1'
      have S1 := s1.sg hS
      refine ⟨gz g + 182, S1.r 145 56 rfl, S1.k 182 rfl, v6 m1 0 S1 (by omega), fun m2 e2 => ?_⟩
      have s2 : St (PRs g) m1 m2 := by rw [e2]; exact St_sL m1 (Or.inl rfl) _
      have S2 := s2.sg S1
      refine ⟨v6 m2 1 S2 (by omega), fun m3 e3 => ?_⟩
      have s3 : St (PRs g) m2 m3 := by rw [e3]; exact St_sL m2 (Or.inl rfl) _
      have S3 := s3.sg S2
      refine ⟨v6 m3 2 S3 (by omega), fun m4 e4 => ?_⟩
      have s4 : St (PRs g) m3 m4 := by rw [e4]; exact St_sL m3 (Or.inl rfl) _
      have S4 := s4.sg S3
      have s14 := (s2.trans s3).trans s4
      have R4 := R1.prs s14
      refine ⟨gz g + 167, S4.r 145 32 rfl, S4.k 167 rfl, v2 m4 167 S4 rfl (by omega), v6 m4 3 S4 (by omega), fun m5 e5 => ?_⟩
      rw [R4.sc.2.1, mI_sI, up2_sl (by omega)] at e5
      have s5 : St (PRs g) m4 m5 := by rw [e5]; exact St_sL m4 (Or.inl rfl) _
      have S5 := s5.sg S4
      have R5 := R4.prs s5
      refine ⟨v2 m5 169 S5 rfl (by omega), v6 m5 4 S5 (by omega), fun m6 e6 => ?_⟩
      rw [R5.sc.2.2.2, mI_sI, up2_at] at e6
      have s6 : St (PRs g) m5 m6 := by rw [e6]; exact St_sL m5 (Or.inl rfl) _
      have S6 := s6.sg S5
      refine ⟨v6 m6 5 S6 (by omega), fun m7 e7 => ?_⟩
      have s7 : St (PRs g) m6 m7 := by rw [e7]; exact St_sL m6 (Or.inl rfl) _
      have s17 := ((s14.trans s5).trans s6).trans s7
      have R7 := R1.prs s17
      have kn : ∀ j, j < 6 → mL m7 (gz g + 182) j = factA A3 y k n j := by
        intro j hj
        rw [fA j hj, e7, e6, e5, e4, e3, e2]
        simp only [mL_sL, c0, c1, c2, c3, c4, c5]
        have eb : (sacT A k).toInt64 = sacB A 30 k := by rw [sb1, sb2, nI_l su31]
        rcases (show j = 0 ∨ j = 1 ∨ j = 2 ∨ j = 3 ∨ j = 4 ∨ j = 5 by omega) with rfl | rfl | rfl | rfl | rfl | rfl <;> simp [up2, eb]
      clear e2 e3 e4 e5 e6 e7
      have s07 := s1.trans (s17.weak (P2 := PRa g l y n) (fun a j q => Or.inr q))
      refine CV.monoE (hRd m7 s07 kn) (fun m8 h8 _ => ?_)
      obtain ⟨V8, s8⟩ := h8
      have R8 := R7.prs s8
      have s08 := s07.trans (s8.weak (P2 := PRa g l y n) (fun a j q => Or.inr q))
      have S8 := s08.sg hS
      obtain ⟨w1, w2, w3, w4, w5⟩ := V8
      -- from the two numbers of the law on
      have t221 : ∀ q : Int32, q = P → At g M_RF_passes (lv + 3) 221 [(0, va_rf (some (gz g + 145))), (1, .int (nI l)), (3, va_rf (some (gz g + e))), (4, .int (nI co)), (5, .int (nI y)), (6, .int (nI k)), (7, .int (sacT A k)), (8, .long (crpL A3 y n))] [.int q] m8 (QI Q) := by
        intro q eq
        subst eq
        have e80 : (8 : Int32) * nI l = nI (8 * l) := by rw [show (8 : Int32) = nI 8 from rfl, pk_mul]
        have v78 : vp_in (nI (8 * l)) (mN m8 (gz g + 178)) := by rw [S8.n 178 rfl]; exact vp_in_nI (N := 16) (by omega) (by omega)
        have t268 : ∀ m9, m9 = sL m8 (gz g + 178) (8 * l) (mL m8 (gz g + 178) (8 * l) + crpL A3 y n) → At g M_RF_passes (lv + 3) 268 [(0, va_rf (some (gz g + 145))), (1, .int (nI l)), (3, va_rf (some (gz g + e))), (4, .int (nI co)), (5, .int (nI y)), (6, .int (nI k)), (12, .int q), (13, .int (nI s0)), (14, .int 0)] [] m9 (QI Q) := by
          intro m9 e9
          have su8 : mL m8 (gz g + 178) (8 * l) = mL A 2 0 := by
            have := R8.su (j := 0) (by omega)
            rw [show 8 * l + 0 = 8 * l by omega, mL_sI] at this
            exact this
          rw [su8] at e9
          have R9 := R8.ps hN (j := 0) (by omega) (mL A 2 0 + crpL A3 y n)
          rw [show 8 * l + 0 = 8 * l by omega, ← e9] at R9
          have s9 : St (PRa g l y n) m8 m9 := by rw [e9]; exact St_sL m8 (Or.inl (Or.inl (by unfold PQ; omega))) _
          have i9 : mI m9 = mI m8 := by rw [e9]; rfl
          clear e9
          have s09 := s08.trans s9
          have S9 := s09.sg hS
          -- the state of the reference, as the class sees it
          have R0 : LandQ g l N y k (rI C0 7 (mI A 7)) m9 := by
            refine ⟨fun cc i hvv => (R9.1 cc i hvv).trans ?_, fun cc i hvv => (R9.2 cc i hvv).trans ?_⟩
            · by_cases q7 : cc = 7
              · subst q7
                rw [mI_rI, mI_sL, mI_sI, up2_oth (by omega)]
              · rw [mI_rI_ne q7, mI_sL]
                have hvi := hvv.1.1
                refine (xI cc i q7 ?_ ?_ ?_ ?_).symm
                · rintro ⟨rfl, z1, z2⟩
                  have : i % 12 < N ∧ i / 12 < y := hvi
                  omega
                · rintro ⟨rfl, rfl⟩
                  have : i < i := hvi
                  omega
                · rintro ⟨rfl, rfl⟩
                  have : i < i := hvi
                  omega
                · rintro ⟨rfl, rfl⟩
                  exact hvv.1.2.2 ⟨rfl, rfl⟩
            · show mL (sL (sI A 0 4 _) 2 0 _) cc i = mL C0 cc i
              rw [xL]
              rfl
          have q0 : ∀ cc i, cc ≠ 7 → mI (rI C0 7 (mI A 7)) cc i = mI C0 cc i := fun cc i h => by rw [mI_rI_ne h]
          have z00 : ∀ i, i ≠ 4 → i ≠ 5 → mI C0 0 i = mI A 0 i := fun i h4 h5 => by rw [xI 0 i (by omega) (by omega) (by omega) (by omega) (by omega), mI_sI, up2_sl h4]
          have z1 : ∀ j, mI C0 1 j = mI A 1 j := fun j => by rw [xI 1 j (by omega) (by omega) (by omega) (by omega) (by omega), mI_sI, up2_oth (by omega)]
          have z9 : ∀ cc i, 9 ≤ cc → cc ≤ 11 → mI C0 cc i = mI A cc i := fun cc i h1 h2 => by rw [xI cc i (by omega) (by omega) (by omega) (by omega) (by omega), mI_sI, up2_oth (by omega)]
          have rel : RelK n 0 (fun j => mI C0 17 (12 * y + j)) C0 (rI C0 7 (mI A 7)) := by
            refine ⟨fun cc i h => (q0 cc i h).symm, rfl, fun j => ?_⟩
            rw [mI_rI, x7 j]
            by_cases hj : j < n
            · rw [if_pos hj, if_pos ⟨by omega, hj⟩]
              show _ = mI A 7 j + mI C0 17 (12 * y + j)
              rw [x17 j hj]
            · rw [if_neg hj, if_neg (by omega)]
          have kk := kq_kp (r := k) (P := q) (fr := fun j => frV ls F (mI C0 1 j) (mI C0 17 (12 * y + j))) rel n (Nat.le_refl _)
          have fr31 : ∀ j, j < n → v j + c j < 2 ^ 31 := fun j hj => by
            have := sumN_le (u := v) n hj
            have := sumN_le (u := c) n hj
            omega
          have cn : ∀ j, j < n → mI C0 17 (12 * y + j) = nI (c j) := fun j hj => (x17 j hj).trans (hc j hj)
          have hvC : frN n C0 (fun j => v j + c j) := fun j hj => by
            rw [x7 j, if_pos hj, (hv j hj).1, hc j hj, nI_add]
            exact ⟨rfl, fr31 j hj⟩
          have huC : skN k C0 u := fun i hi => by rw [z9 10 i (by omega) (by omega)]; exact hu i hi
          obtain ⟨v5, u5, n1, n2, n3, -⟩ := kpA_nat (P := q) (fr := fun j => frV ls F (mI C0 1 j) (mI C0 17 (12 * y + j))) hvC huC (fun j hj => ⟨cn j hj, by omega⟩) n (Nat.le_refl _)
          have sc : sumN (fun j => v j + c j) n = sumN v n + sumN c n := by
            have gen : ∀ t, sumN (fun j => v j + c j) t = sumN v t + sumN c t := fun t => by
              induction t with
              | zero => rfl
              | succ t ih =>
                show sumN (fun j => v j + c j) t + (v t + c t) = sumN v t + v t + (sumN c t + c t)
                rw [ih]; omega
            exact gen n
          have h5h := kpA_hold (y := y) (P := q) (fr := fun j => frV ls F (mI C0 1 j) (mI C0 17 (12 * y + j))) (n := n) (r := k) (A := C0) (fun i hi => by rw [z9 9 i (by omega) (by omega)]; exact hh i hi) n (Nat.le_refl _)
          have h5g : l = 1 → HoldG n (kpA C0 k y q (fun j => frV ls F (mI C0 1 j) (mI C0 17 (12 * y + j))) n).2 (kpA C0 k y q (fun j => frV ls F (mI C0 1 j) (mI C0 17 (12 * y + j))) n).1 := fun q1 => kpA_holdG (fun i hi => by rw [z9 9 i (by omega) (by omega)]; exact hl1 q1 i hi) n (Nat.le_refl _)
          have b5 : ∀ i, i ≠ 3 → mI (kpA C0 k y q (fun j => frV ls F (mI C0 1 j) (mI C0 17 (12 * y + j))) n).1 0 i = mI C0 0 i := fun i hi => kpA_I (by omega) (by omega) (by omega) (by omega) (by omega) n
          have b53 := kpA_3 (y := y) (P := q) (fr := fun j => frV ls F (mI C0 1 j) (mI C0 17 (12 * y + j))) ((z00 3 (by omega) (by omega)).trans h03) n
          have br := kpA_2 (A := C0) (r := k) (y := y) (P := q) (fr := fun j => frV ls F (mI C0 1 j) (mI C0 17 (12 * y + j))) n
          have hcm9 : ∀ j, j < n → mI m9 (gz g + e) (co + j) = mI (rI C0 7 (mI A 7)) 17 (12 * y + j) := fun j hj => by
            rw [q0 17 _ (by omega), x17 j hj]
            refine (s09.2 _ _ (fun z => ?_)).1.trans (hcm j hj)
            unfold PRa PQ9 PQ PRs at z
            omega
          refine l_keepR g (fd := fd) (ls := l32) hl hN hnN (by rw [q0 0 0 (by omega)]; exact (z00 0 (by omega) (by omega)).trans hn) h30 hr4 (by rw [q0 0 3 (by omega)]; exact (z00 3 (by omega) (by omega)).trans h03) (by omega) hco (fun j hj => ⟨by rw [q0 17 _ (by omega)]; exact cn j hj, by have := fr31 j hj; omega⟩) hcm9 (by rw [i9]; exact w3) (by rw [i9]; exact w4) (fr := fun j => frV ls F (mI C0 1 j) (mI C0 17 (12 * y + j))) (fun j hj => by rw [q0 1 j (by omega), q0 17 _ (by omega), x17 j hj, z1 j]; exact hfr j hj) (cN := fun _ => 0) S9 R0 (fun m10 R10 s10 x10 => ?_)
          have Ra : LandQ g l N y (kpA C0 k y q (fun j => frV ls F (mI C0 1 j) (mI C0 17 (12 * y + j))) n).2 (kpA C0 k y q (fun j => frV ls F (mI C0 1 j) (mI C0 17 (12 * y + j))) n).1 m10 := by
            obtain ⟨k1, k2, k3, k4⟩ := kk
            rw [k1]
            refine R10.congr ?_ k3
            funext cc i
            by_cases q7 : cc = 7
            · subst q7; rw [k4 i, if_neg (by omega)]
            · exact k2 cc i q7
          rw [← kk.1] at x10
          have x10' : l = 0 → (∀ j, j < n → mI m10 (gz g + 162) (12 * y + j) = frV ls F (mI A 1 j) (cropV A y yl j)) ∧ ∀ i, mI m10 (gz g + 179) i = if 2 * k ≤ i ∧ i < 2 * (kpA C0 k y q (fun j => frV ls F (mI C0 1 j) (mI C0 17 (12 * y + j))) n).2 then -1 else mI m9 (gz g + 179) i := fun h0 => ⟨fun j hj => by rw [(x10 h0).1 j hj, z1 j, x17 j hj], (x10 h0).2⟩
          clear x10
          unfold yr5 at hQ1
          have z02 : mI C0 0 2 = mI A 0 2 := z00 2 (by omega) (by omega)
          have z01 : mI C0 0 1 = nI y := (z00 1 (by omega) (by omega)).trans hy
          have z0n : mI C0 0 0 = nI n := (z00 0 (by omega) (by omega)).trans hn
          have z04 : mI C0 0 4 = nI w := by rw [xI 0 4 (by omega) (by omega) (by omega) (by omega) (by omega), mI_sI, up2_at, hpr]; exact hw2
          generalize kpA C0 k y q (fun j => frV ls F (mI C0 1 j) (mI C0 17 (12 * y + j))) n = A5 at hQ1 n1 n2 n3 h5h h5g b5 b53 br Ra x10'
          obtain ⟨A5, r5⟩ := A5
          simp only at hQ1 n1 n2 n3 h5h h5g b5 b53 br Ra x10'
          have s010 := s09.trans (s10.weak (P2 := PRa g l y n) (fun a j z => Or.inl z))
          have S10 := s010.sg hS
          have T10 : mI m10 (gz g + 145) 63 = T := by
            rw [(s10.2 _ _ (by unfold PQ9 PQ; omega)).1, i9]; exact w5
          refine l_sellR g hl hN hnN (by omega) br.1 h5h h5g n2 hs0 S10 Ra (fun m11 R11 s11 => ?_) ⟨Q, rfl⟩
          have s011 := s010.trans (s11.weak (P2 := PRa g l y n) (fun a j z => Or.inl (Or.inl z)))
          have i6 : ∀ cc i, cc ≠ 10 → mI (ssA A5 (mI A5 0 2) (lN s0) k).1 cc i = mI A5 cc i := fun cc i h => ssA_I h k
          refine l_stillR g hl hN hnN (by omega) ((i6 0 3 (by omega)).trans b53) (by rw [i6 0 1 (by omega), b5 1 (by omega)]; exact z01) (fun i hi => by rw [i6 9 i (by omega)]; exact h5h i hi) (fun q1 i hi => by rw [i6 9 i (by omega)]; exact h5g q1 i hi) ((s11.2 _ _ (by unfold PQ; omega)).1.trans T10) (s011.sg hS) R11 (fun m12 R12 s12 _ => ?_)
          have R12' : LandQ g l N y r5 (yr7 A5 k r5 (lN s0) T) m12 := by
            unfold yr7
            rw [i6 0 2 (by omega)] at R12
            exact R12
          have s012 := s011.trans (s12.weak (P2 := PRa g l y n) (fun a j z => Or.inl (Or.inl z)))
          have S12 := s012.sg hS
          have i7 : ∀ cc i, cc ≠ 10 → mI (yr7 A5 k r5 (lN s0) T) cc i = mI A5 cc i := fun cc i h => yr7_I h
          generalize yr7 A5 k r5 (lN s0) T = A7 at R12' i7 hQ1
          have n7 : mI A7 0 0 = nI n := by rw [i7 0 0 (by omega), b5 0 (by omega)]; exact z0n
          have f7 : frN n A7 v5 := fun j hj => by rw [i7 7 j (by omega)]; exact n1 j hj
          obtain ⟨g1, g2⟩ := sumL_N n f7
          have F31 : sumN v5 n < 2 ^ 31 := by omega
          refine c_freesR g rfl hl S12 R12' n7 hnN hN ?_
          rw [g2]
          refine ⟨gz g + 169, S12.r 145 34 rfl, S12.k 169 rfl, v2 m12 169 S12 rfl (by omega), ?_⟩
          have w7 : mI A7 0 4 = nI w := by rw [i7 0 4 (by omega), b5 4 (by omega)]; exact z04
          rw [R12'.sc.2.2.2, w7, imx_N (by omega) hs0, imn_N F31 (by omega)]
          refine c_abroadR g hl hN hnN n7 f7 rfl F31 (by omega) (sd := lN s0) (by rw [w7]; exact abrV_N (by omega) F31 hs0) S12 R12' (fun m13 R13 s13 => ?_)
          have s013 := s012.trans (s13.weak (P2 := PRa g l y n) (fun a j z => Or.inl (Or.inl z)))
          have tm : ∀ m' j, 5 ≤ j → j ≤ 11 → St (PRa g l y n) m0 m' → mI m' (gz g + 145) j = mI m0 (gz g + 145) j := fun m' j h1 h2 ss => (ss.2 _ _ (by unfold PRa PQ9 PQ PRs; omega)).1
          have i8 : ∀ cc i, cc ≠ 7 → mI (sfreeA A7 (lN (sumN v5 n)) (lN s0) n) cc i = mI A7 cc i := fun cc i h => sfreeA_I h
          refine c_stillsR g rfl hl hN hnN ((i8 0 0 (by omega)).trans n7) (s013.sg hS) R13 (fun m14 R14 s14' => ?_)
          rw [tm m13 8 (by omega) (by omega) s013, i8 0 2 (by omega)] at R14
          have R14' : LandQ g l N y r5 (yr9 A7 n (lN s0) (mI m0 (gz g + 145) 8)) m14 := by
            unfold yr9
            rw [g1]
            exact R14
          have s014 := s013.trans (s14'.weak (P2 := PRa g l y n) (fun a j z => Or.inl (Or.inl z)))
          have i9' : ∀ cc i, cc ≠ 7 → mI (yr9 A7 n (lN s0) (mI m0 (gz g + 145) 8)) cc i = mI A7 cc i := fun cc i h => yr9_I h
          generalize yr9 A7 n (lN s0) (mI m0 (gz g + 145) 8) = A9 at R14' i9' hQ1
          refine l_rotR g hl hN hnN ((i9' 0 0 (by omega)).trans n7) (by omega) (by rw [i9' 0 3 (by omega), i7 0 3 (by omega)]; exact b53) (s014.sg hS) R14' (fun m15 R15 s15 => ?_)
          rw [tm m14 7 (by omega) (by omega) s014, tm m14 9 (by omega) (by omega) s014, tm m14 10 (by omega) (by omega) s014, tm m14 11 (by omega) (by omega) s014, nI_l F31, nI_l hs0] at R15
          rw [g1] at hQ1
          refine hQ1 m15 R15 (s014.trans (s15.weak (fun a j z => Or.inl (Or.inl z)))) (fun h0 => ⟨fun j hj => ?_, fun i => ?_⟩)
          · refine Eq.trans ?_ ((x10' h0).1 j hj)
            rw [(s15.2 _ _ (by unfold PQ; omega)).1, (s14'.2 _ _ (by unfold PQ; omega)).1, (s13.2 _ _ (by unfold PQ; omega)).1, (s12.2 _ _ (by unfold PQ; omega)).1, (s11.2 _ _ (by unfold PQ; omega)).1]
          · have t1 : mI m15 (gz g + 179) i = mI m10 (gz g + 179) i := by
              rw [(s15.2 _ _ (by unfold PQ; omega)).1, (s14'.2 _ _ (by unfold PQ; omega)).1, (s13.2 _ _ (by unfold PQ; omega)).1, (s12.2 _ _ (by unfold PQ; omega)).1, (s11.2 _ _ (by unfold PQ; omega)).1]
            have t2 : mI m9 (gz g + 179) i = mI m0 (gz g + 179) i := by
              rw [i9, (s8.2 _ _ (by unfold PRs; omega)).1, (s17.2 _ _ (by unfold PRs; omega)).1, i1]
            rw [t1, (x10' h0).2 i, t2]
        refine bk_RF_passes_221 g ⟨S8.k 145 rfl, ?_⟩
        rw [e80, nI_clamp (show 8 * l < 2 ^ 31 by omega)]
        by_cases h60 : mI m8 (gz g + 145) 60 = 0
        · rw [if_pos h60] at w2 ⊢
          refine ⟨gz g + 178, S8.r 145 43 rfl, S8.k 178 rfl, v78, v78, fun m9 e9 => ?_⟩
          have tt := t268 m9 e9
          rw [w2] at tt
          exact tt
        · rw [if_neg h60] at w2 ⊢
          refine ⟨gz g + 178, S8.r 145 43 rfl, S8.k 178 rfl, v78, v78, fun m9 e9 => ?_⟩
          have tt := t268 m9 e9
          rw [w2] at tt
          exact tt
      by_cases h59 : mI m8 (gz g + 145) 59 = 0
      · rw [if_pos h59] at w1 ⊢
        exact t221 0 w1.symm
      · rw [if_neg h59] at w1 ⊢
        exact t221 _ w1.symm
    | succ d ih =>
      intro k hk
      refine bk_RF_passes_63 g ?_
      rw [if_neg (nI_ge (by omega) (by omega)), ix400, nI_clamp (show 400 * l + k < 2 ^ 31 by omega), nI_s]
      refine ⟨hS.k 145 rfl, gz g + 177, hS.r 145 42 rfl, hS.k 177 rfl, by rw [hS.n 177 rfl]; exact vp_in_nI (N := 800) (by omega) (by omega), ?_⟩
      rw [(hR.rc (show k < r0 by omega)).2.2]
      have ih1 := ih (k + 1) (by omega)
      unfold sacB at ih1
      by_cases h1 : nI y - 1 ≤ mI A 11 k
      · rw [if_pos h1] at ih1 ⊢
        rw [Int64.add_zero]
        exact ih1
      · rw [if_neg h1] at ih1 ⊢
        refine ⟨gz g + 176, hS.r 145 41 rfl, hS.k 176 rfl, by rw [hS.n 176 rfl]; exact vp_in_nI (N := 800) (by omega) (by omega), ?_⟩
        rw [(hR.rc (show k < r0 by omega)).2.1]
        exact ih1
  have l29 : ∀ (d k : Nat), k + d = n → At g M_RF_passes (lv + 3) 29 [(0, va_rf (some (gz g + 145))), (1, .int (nI l)), (2, .int x), (3, va_rf (some (gz g + e))), (4, .int (nI co)), (5, .int (nI y)), (6, .int (nI r0)), (7, .int (sacT A r0)), (8, .long (crpL A3 y k)), (10, .int (nI k))] [] m0 (QI Q) := by
    intro d
    induction d with
    | zero =>
      intro k hk
      obtain rfl : k = n := by omega
      refine bk_RF_passes_29 g ⟨hS.k 145 rfl, ?_⟩
      rw [hR.n, hn, if_pos (nI_le (by omega) (by omega))]
      exact l63 r0 0 (by omega)
    | succ d ih =>
      intro k hk
      refine bk_RF_passes_29 g ⟨hS.k 145 rfl, ?_⟩
      rw [hR.n, hn, if_neg (nI_ge (by omega) (by omega)), nI_add, nI_clamp (show co + k < 2 ^ 31 by omega), nI_s]
      refine ⟨gz g + e, rfl, (ke m0 hS).1, (ke m0 hS).2 k (by omega), ?_⟩
      rw [hcm k (by omega), ← a17 k (by omega)]
      exact ih (k + 1) (by omega)
  refine en_RF_passes g ⟨hS.k 145 rfl, gz g + 166, hS.r 145 31 rfl, hS.k 166 rfl, v2 m0 166 hS rfl (by omega), gz g + 168, hS.r 145 33 rfl, hS.k 168 rfl, v2 m0 168 hS rfl (by omega), ?_⟩
  rw [nI_clamp (show l < 2 ^ 31 by omega), hR.sc.1, hy, hR.sc.2.2.1, h03]
  exact c_storeR g rfl hl hS hR (by omega) h03 (l29 n 0 (by omega))
