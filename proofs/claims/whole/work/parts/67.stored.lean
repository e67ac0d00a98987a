/-! ===== the store is sold and stilled, the reference's side ===== -/
theorem lmn_N {a b : Nat} (ha : a < 2 ^ 31) (hb : b < 2 ^ 31) : lmn (lN a) (lN b) = lN (min a b) := by
  unfold lmn
  by_cases h : lN a < lN b
  · have := (lN_lt ha hb).1 h
    first | rw [if_pos h] | (rw [if_neg (by rw [i64_lt] at h ⊢; omega)])
    rw [Nat.min_eq_left (by omega)]
  · have : b ≤ a := by
      rcases Nat.lt_or_ge a b with q | q
      · exact absurd ((lN_lt ha hb).2 q) h
      · exact q
    rw [Nat.min_eq_right this]
    split
    · first | rfl | (exact absurd (by assumption) h) | (rename_i q; exact congrArg lN (by have := (lN_lt hb ha).1 q; omega)) | (rename_i q; have := (lN_le ha hb).1 q; exact congrArg lN (by omega))
    · first | rfl | (rename_i q; exact congrArg lN (by rcases Nat.lt_or_ge b a with z | z; exact absurd ((lN_lt hb ha).2 z) q; omega))
theorem imn_N {a b : Nat} (ha : a < 2 ^ 31) (hb : b < 2 ^ 31) : imn (nI a) (nI b) = nI (min a b) := by
  unfold imn
  by_cases h : nI a < nI b
  · have := (nI_ltI ha hb).1 h
    first | rw [if_pos h] | (rw [if_neg (by rw [i32_lt] at h ⊢; omega)])
    rw [Nat.min_eq_left (by omega)]
  · have : b ≤ a := by
      rcases Nat.lt_or_ge a b with q | q
      · exact absurd ((nI_ltI ha hb).2 q) h
      · exact q
    rw [Nat.min_eq_right this]
    split
    · first | rfl | (exact absurd (by assumption) h) | (rename_i q; exact congrArg nI (by have := (nI_ltI hb ha).1 q; omega)) | (rename_i q; have := (nI_leI ha hb).1 q; exact congrArg nI (by omega))
    · first | rfl | (rename_i q; exact congrArg nI (by rcases Nat.lt_or_ge b a with z | z; exact absurd ((nI_ltI hb ha).2 z) q; omega))
/-- the sacks of the receipts are these numbers -/
def skN (r : Nat) (B : Mm) (w : Nat → Nat) : Prop := ∀ i, i < r → mI B 10 i = nI (w i) ∧ w i < 2 ^ 31
theorem soldA_10s {A : Mm} {i j w : Nat} {s p : Int32} : mI (soldA A i s p w) 10 j = if j = i then mI A 10 i - s else mI A 10 j := by
  unfold soldA
  rw [mI_sL, mI_sL, mI_sI]
  by_cases h : j = i
  · subst h; rw [up2_at, if_pos rfl]
  · rw [up2_sl h, if_neg h]
theorem skN.sold {r : Nat} {B : Mm} {u : Nat → Nat} {i s w : Nat} {p : Int32} (h : skN r B u) (hi : i < r) (hs : s ≤ u i) : skN r (soldA B i (nI s) p w) (fun j => if j = i then u i - s else u j) := by
  intro j hj
  rw [soldA_10s]
  by_cases e : j = i
  · subst e
    obtain ⟨a, b⟩ := h j hj
    rw [if_pos rfl]
    simp only [if_true]
    rw [a]
    exact ⟨nI_sub hs b, by omega⟩
  · rw [if_neg e]
    simp only [if_neg e]
    exact h j hj
theorem soldA_0 {A : Mm} {i w : Nat} {p : Int32} : soldA A i 0 p w = A := by
  unfold soldA
  rw [Int32.sub_zero, sI_self rfl, show (0 : Int32).toInt64 = 0 from rfl, Int64.zero_mul, Int64.add_zero, sL_self rfl, Int64.add_zero, sL_self rfl]
theorem ssA_nat {r : Nat} {A : Mm} {u : Nat → Nat} {s0 : Nat} {p : Int32} (h : skN r A u) (hs : s0 < 2 ^ 31) : ∀ k, k ≤ r → ∃ (L : Nat) (u' : Nat → Nat), (ssA A p (lN s0) k).2 = lN L ∧ L ≤ s0 ∧ skN r (ssA A p (lN s0) k).1 u' ∧ sumN u' r + (s0 - L) = sumN u r ∧ (∀ i, k ≤ i → u' i = u i) ∧ ∀ i, u' i ≤ u i
  | 0, _ => ⟨s0, u, rfl, Nat.le_refl _, h, by omega, fun _ _ => rfl, fun _ => Nat.le_refl _⟩
  | k + 1, hk => by
    obtain ⟨L, u', e1, e2, e3, e4, e5, e6⟩ := ssA_nat (p := p) h hs k (by omega)
    obtain ⟨f1, f2⟩ := e3 k (by omega)
    have sv : (lmn (ssA A p (lN s0) k).2 (mI (ssA A p (lN s0) k).1 10 k).toInt64).toInt32 = nI (min L (u' k)) := by
      rw [e1, f1, nI_l f2, lmn_N (by omega) f2, lN_i]
    refine ⟨L - min L (u' k), fun j => if j = k then u' k - min L (u' k) else u' j, ?_, by omega, ?_, ?_, fun i hi => ?_, fun i => ?_⟩
    · show (ssA A p (lN s0) k).2 - _ = _
      rw [sv, e1, nI_l (by omega), lN_sub (by omega)]
    · show skN r (soldA _ k _ p 3) _
      rw [sv]
      exact e3.sold (by omega) (by omega)
    · have := (sumN_upd (u := u') (j := k) (x := u' k - min L (u' k)) r).1 (by omega)
      omega
    · show (if i = k then _ else u' i) = u i
      rw [if_neg (by omega)]; exact e5 i (by omega)
    · show (if i = k then _ else u' i) ≤ u i
      split
      · rename_i e; subst e; have := e6 i; omega
      · exact e6 i
theorem ssA_stop {r : Nat} {A : Mm} {u : Nat → Nat} {s0 : Nat} {p : Int32} (h : skN r A u) (hs : s0 < 2 ^ 31) {j : Nat} (hz : (ssA A p (lN s0) j).2 = lN 0) : ∀ d, j + d ≤ r → ssA A p (lN s0) (j + d) = ssA A p (lN s0) j
  | 0, _ => rfl
  | d + 1, hd => by
    have e := ssA_stop (p := p) h hs hz d (by omega)
    obtain ⟨L, u', e1, e2, e3, e4, e5, e6⟩ := ssA_nat (p := p) h hs j (by omega)
    obtain ⟨f1, f2⟩ := e3 (j + d) (by omega)
    refine (show ssA A p (lN s0) (j + d + 1) = (soldA (ssA A p (lN s0) (j + d)).1 (j + d) (lmn (ssA A p (lN s0) (j + d)).2 (mI (ssA A p (lN s0) (j + d)).1 10 (j + d)).toInt64).toInt32 p 3, (ssA A p (lN s0) (j + d)).2 - (lmn (ssA A p (lN s0) (j + d)).2 (mI (ssA A p (lN s0) (j + d)).1 10 (j + d)).toInt64).toInt32.toInt64) from rfl).trans ?_
    rw [e]
    have sv : (lmn (ssA A p (lN s0) j).2 (mI (ssA A p (lN s0) j).1 10 (j + d)).toInt64).toInt32 = 0 := by
      rw [hz, f1, nI_l f2, lmn_N (by omega) f2, lN_i, show min 0 (u' (j + d)) = 0 by omega]
      rfl
    rw [sv, soldA_0, show (0 : Int32).toInt64 = 0 from rfl, Int64.sub_zero]
theorem l_sellR (g : Gc) {lv l N n y r r0 s0 : Nat} {A m0 : Mm} {u : Nat → Nat} {P l5 : Int32} (hl : l < 2) (hN : N ≤ 12) (hnN : n ≤ N) (h4 : r ≤ 400) (hr0 : r0 ≤ r) (hh : HoldOK n r A) (hl1 : l = 1 → ∀ i, i < r → ∃ h : Nat, mI A 9 i = nI h ∧ h < n) (hu : skN r A u) (hs : s0 < 2 ^ 31) (hS : Sg g m0) (hR : LandQ g l N y r A m0) {Q : Option Value → Mm → Prop} (hQ : ∀ m', LandQ g l N y r (ssA A (mI A 0 2) (lN s0) r0).1 m' → St (PQ g l) m0 m' → At g M_RF_passes (lv + 2) 580 [(0, va_rf (some (gz g + 145))), (1, .int (nI l)), (5, .int l5), (12, .int P), (13, .int (nI s0)), (15, .int 0)] [] m' Q) : ∀ (_ : ∃ Q', Q = QI Q'), At g M_RF_passes (lv + 2) 516 [(0, va_rf (some (gz g + 145))), (1, .int (nI l)), (5, .int l5), (6, .int (nI r0)), (12, .int P), (13, .int (nI s0)), (14, .int (nI s0)), (15, .int 0)] [] m0 Q := by
  rintro ⟨Q, rfl⟩
  have loop : ∀ (d k : Nat) (L : Nat) (m : Mm), k + d = r0 → L < 2 ^ 31 → (ssA A (mI A 0 2) (lN s0) k).2 = lN L → LandQ g l N y r (ssA A (mI A 0 2) (lN s0) k).1 m → St (PQ g l) m0 m → At g M_RF_passes (lv + 2) 516 [(0, va_rf (some (gz g + 145))), (1, .int (nI l)), (5, .int l5), (6, .int (nI r0)), (12, .int P), (13, .int (nI s0)), (14, .int (nI L)), (15, .int (nI k))] [] m (QI Q) := by
    intro d
    induction d with
    | zero =>
      intro k L m hk hLb e R s
      obtain rfl : k = r0 := by omega
      refine bk_RF_passes_516 g ?_
      rw [if_pos (nI_le (by omega) (by omega))]
      exact hQ m R s
    | succ d ih =>
      intro k L m hk hLb e R s
      have S := s.sg hS
      obtain ⟨L2, u2, e1, e2, e3, e4, e5, e6⟩ := ssA_nat (p := mI A 0 2) hu hs k (by omega)
      obtain ⟨f1, f2⟩ := e3 k (by omega)
      have hLs : ∃ L3, L3 ≤ s0 ∧ (ssA A (mI A 0 2) (lN s0) k).2 = lN L3 := ⟨L2, e2, e1⟩
      refine bk_RF_passes_516 g ?_
      rw [if_neg (nI_ge (by omega) (by omega))]
      have eL : L = L2 := (lN_eq hLb (by omega)).1 (e.symm.trans e1)
      subst eL
      by_cases hz : L = 0
      · subst hz
        rw [if_pos (by decide)]
        have st := ssA_stop (p := mI A 0 2) hu hs e (d + 1) (by omega)
        rw [show k + (d + 1) = r0 by omega] at st
        rw [← st] at R
        exact hQ m R s
      rw [if_neg (nI_nle (by omega) (by omega)), ix400, nI_clamp (show 400 * l + k < 2 ^ 31 by omega), nI_clamp (show l < 2 ^ 31 by omega), nI_s]
      refine ⟨S.k 145 rfl, gz g + 176, S.r 145 41 rfl, S.k 176 rfl, by rw [S.n 176 rfl]; exact vp_in_nI (N := 800) (by omega) (by omega), gz g + 167, S.r 145 32 rfl, S.k 167 rfl, by rw [S.n 167 rfl]; exact vp_in_nI (N := 2) (by omega) (by omega), ?_⟩
      have i9 : mI (ssA A (mI A 0 2) (lN s0) k).1 9 k = mI A 9 k := ssA_I (by omega) k
      have i02 : mI (ssA A (mI A 0 2) (lN s0) k).1 0 2 = mI A 0 2 := ssA_I (by omega) k
      obtain ⟨h, hh1, hh2⟩ := hh k (by omega)
      have sv : (lmn (ssA A (mI A 0 2) (lN s0) k).2 (mI (ssA A (mI A 0 2) (lN s0) k).1 10 k).toInt64).toInt32 = nI (min L (u2 k)) := by
        rw [e, f1, nI_l f2, lmn_N hLb f2, lN_i]
      rw [(R.rc (show k < r by omega)).2.1, R.sc.2.1, i02, f1, imn_N hLb f2, nI_sub (by omega) hLb]
      refine c_soldR g hl hN hnN (i := k) (w := 3) (by omega) h4 (by omega) (i9.trans hh1) hh2 (fun q => ?_) S R _ _ (fun m1 R1 s1 => ih (k + 1) _ m1 (by omega) (by omega) ?_ ?_ (s.trans s1))
      · obtain ⟨h', hx, hy⟩ := hl1 q k (by omega)
        have := (nI_eq (by omega) (by omega)).1 (hh1.symm.trans hx)
        omega
      · show (ssA A (mI A 0 2) (lN s0) k).2 - _ = _
        rw [sv, e, nI_l (by omega), lN_sub (by omega)]
      · have ev : (ssA A (mI A 0 2) (lN s0) (k + 1)).1 = soldA (ssA A (mI A 0 2) (lN s0) k).1 k (nI (min L (u2 k))) (mI A 0 2) 3 := by
          show soldA _ k (lmn _ _).toInt32 _ 3 = _
          rw [sv]
        rw [ev]
        exact R1
  exact loop r0 0 s0 m0 (by omega) hs rfl hR (St.refl _ _)
theorem l_stillR (g : Gc) {lv l N n y yy r s0 : Nat} {A m0 : Mm} {P T : Int32} (hl : l < 2) (hN : N ≤ 12) (hnN : n ≤ N) (h4 : r ≤ 400) (h03 : mI A 0 3 = nI r) (hyy : mI A 0 1 = nI yy) (hh : HoldOK n r A) (hl1 : l = 1 → ∀ i, i < r → ∃ h : Nat, mI A 9 i = nI h ∧ h < n) (hT : mI m0 (gz g + 145) 63 = T) (hS : Sg g m0) (hR : LandQ g l N y r A m0) {Q : Int32 → Mm → Prop} (hQ : ∀ m', LandQ g l N y r (if T = -1 then A else slA A T (mI A 0 2 / 4) r) m' → St (PQ g l) m0 m' → mI m' (gz g + 145) 63 = T → CI g M_RF_frees (lv + 1) [va_rf (some (gz g + 145)), .int (nI l)] m' (fun x7 m8 => ∃ b13, mR m8 (gz g + 145) 34 = some b13 ∧ mK m8 b13 = 15 ∧ vp_in (nI l) (mN m8 b13) ∧ CV g M_RF_abroad (lv + 1) [va_rf (some (gz g + 145)), .int (nI l), .int x7, .int (imn x7 (imx (0 : Int32) ((mI m8 b13 l) - nI s0)))] m8 (fun m17 => CV g M_RF_stills (lv + 1) [va_rf (some (gz g + 145)), .int (nI l)] m17 (fun m24 => At g M_RF_passes (lv + 2) 697 [(0, va_rf (some (gz g + 145))), (1, .int (nI l)), (12, .int P), (13, .int (nI s0)), (15, .int x7), (16, .int 0)] [] m24 (QI Q))))) : At g M_RF_passes (lv + 2) 580 [(0, va_rf (some (gz g + 145))), (1, .int (nI l)), (5, .int (nI yy)), (12, .int P), (13, .int (nI s0)), (15, .int 0)] [] m0 (QI Q) := by
  have loop : ∀ (d k : Nat) (m : Mm), k + d = r → LandQ g l N y r (if T = -1 then A else slA A T (mI A 0 2 / 4) k) m → St (PQ g l) m0 m → mI m (gz g + 145) 63 = T → At g M_RF_passes (lv + 2) 580 [(0, va_rf (some (gz g + 145))), (1, .int (nI l)), (5, .int (nI yy)), (12, .int P), (13, .int (nI s0)), (15, .int (nI k))] [] m (QI Q) := by
    have i0 : ∀ k c i, c ≠ 10 → mI (if T = -1 then A else slA A T (mI A 0 2 / 4) k) c i = mI A c i := fun k c i h => by
      split
      · rfl
      · exact slA_I h k
    intro d
    induction d with
    | zero =>
      intro k m hk R s h63
      obtain rfl : k = r := by omega
      have S := s.sg hS
      refine bk_RF_passes_580 g ⟨S.k 145 rfl, gz g + 168, S.r 145 33 rfl, S.k 168 rfl, by rw [S.n 168 rfl]; exact vp_in_nI (N := 2) (by omega) (by omega), ?_⟩
      rw [nI_clamp (show l < 2 ^ 31 by omega), R.sc.2.2.1, i0 k 0 3 (by omega), h03, if_pos (nI_le (by omega) (by omega))]
      exact hQ m R s h63
    | succ d ih =>
      intro k m hk R s h63
      have S := s.sg hS
      have hkr : k < r := by omega
      refine bk_RF_passes_580 g ⟨S.k 145 rfl, gz g + 168, S.r 145 33 rfl, S.k 168 rfl, by rw [S.n 168 rfl]; exact vp_in_nI (N := 2) (by omega) (by omega), ?_⟩
      rw [nI_clamp (show l < 2 ^ 31 by omega), R.sc.2.2.1, i0 k 0 3 (by omega), h03, if_neg (nI_ge (by omega) (by omega)), h63, nI_s]
      have ih1 := ih (k + 1)
      by_cases hT1 : T = -1
      · rw [if_pos hT1]
        rw [if_pos hT1] at ih1 R
        exact ih1 m (by omega) R s h63
      rw [if_neg hT1, ix400, nI_clamp (show 400 * l + k < 2 ^ 31 by omega)]
      have i1 := i0 k
      rw [if_neg hT1] at ih1 R i1
      have ev : slA A T (mI A 0 2 / 4) (k + 1) = slS (slA A T (mI A 0 2 / 4) k) k T (mI A 0 2 / 4) := rfl
      rw [ev] at ih1
      generalize slA A T (mI A 0 2 / 4) k = B at R ih1 i1
      refine ⟨gz g + 177, S.r 145 42 rfl, S.k 177 rfl, by rw [S.n 177 rfl]; exact vp_in_nI (N := 800) (by omega) (by omega), ?_⟩
      rw [(R.rc hkr).2.2]
      unfold slS at ih1
      rw [i1 0 1 (by omega), hyy] at ih1
      by_cases h1 : nI yy - mI B 11 k ≤ T
      · rw [if_pos h1] at ih1 ⊢
        exact ih1 m (by omega) R s h63
      rw [if_neg h1] at ih1 ⊢
      refine ⟨gz g + 176, S.r 145 41 rfl, S.k 176 rfl, by rw [S.n 176 rfl]; exact vp_in_nI (N := 800) (by omega) (by omega), gz g + 167, S.r 145 32 rfl, S.k 167 rfl, by rw [S.n 167 rfl]; exact vp_in_nI (N := 2) (by omega) (by omega), ?_⟩
      obtain ⟨h, hh1, hh2⟩ := hh k (by omega)
      rw [(R.rc hkr).2.1, R.sc.2.1, i1 0 2 (by omega)]
      refine c_soldR g hl hN hnN (i := k) (w := 5) (by omega) h4 (by omega) ((i1 9 k (by omega)).trans hh1) hh2 (fun q => ?_) S R _ _ (fun m1 R1 s1 => ih1 m1 (by omega) R1 (s.trans s1) ?_)
      · obtain ⟨h', hx, hy⟩ := hl1 q k (by omega)
        have := (nI_eq (by omega) (by omega)).1 (hh1.symm.trans hx)
        omega
      · exact (s1.2 _ _ (by unfold PQ; omega)).1.trans h63
  refine loop r 0 m0 (by omega) ?_ (St.refl _ _) hT
  split
  · exact hR
  · exact hR
