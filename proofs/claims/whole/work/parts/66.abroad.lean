/-! ===== abroad, the reference's side ===== -/
theorem LandQ.congr {g : Gc} {l n y r : Nat} {A B m : Mm} (h : LandQ g l n y r A m) (eI : mI B = mI A) (eL : mL B = mL A) : LandQ g l n y r B m := ⟨fun c i hv => by rw [eI]; exact h.1 c i hv, fun c i hv => by rw [eL]; exact h.2 c i hv⟩
theorem sell_over {B : Mm} {j w : Nat} {s p : Int32} {σ τ : Int64} : mI (sL (sellA (sL B 2 w σ) j s p) 2 w τ) = mI (sL (sellA B j s p) 2 w τ) ∧ mL (sL (sellA (sL B 2 w σ) j s p) 2 w τ) = mL (sL (sellA B j s p) 2 w τ) := by
  refine ⟨rfl, ?_⟩
  funext q k
  show up2 (up2 (up2 (mL B) 2 w σ) 0 j (up2 (mL B) 2 w σ 0 j + s.toInt64 * p.toInt64)) 2 w τ q k = up2 (up2 (mL B) 0 j (mL B 0 j + s.toInt64 * p.toInt64)) 2 w τ q k
  rw [up2_oth (f := mL B) (a := 2) (b := 0) (by omega)]
  by_cases h : q = 2 ∧ k = w
  · rw [h.1, h.2, up2_at, up2_at]
  · rw [up2_not h, up2_not h]
    by_cases h2 : q = 0 ∧ k = j
    · rw [h2.1, h2.2, up2_at, up2_at]
    · rw [up2_not h2, up2_not h2, up2_not h]
theorem sellA_0 {A : Mm} {j : Nat} {p : Int32} : sellA A j 0 p = A := by
  unfold sellA
  rw [Int32.sub_zero, sI_self rfl, show (0 : Int32).toInt64 = 0 from rfl, Int64.zero_mul, Int64.add_zero, sL_self rfl]
theorem sfA_0 {A : Mm} {f : Int64} {p : Int32} : ∀ k, sfA A 0 f p k = (A, 0)
  | 0 => rfl
  | k + 1 => by
    show (sellA (sfA A 0 f p k).1 k _ p, (sfA A 0 f p k).2 - _) = _
    rw [sfA_0 k]
    have : ((mI A 7 k).toInt64 * 0 / f).toInt32 = 0 := by rw [Int64.mul_zero, Int64.zero_div]; rfl
    simp only [this]
    rw [sellA_0]
    rfl
theorem rdA_0 {A : Mm} {p : Int32} {n : Nat} : ∀ k, rdA A 0 p n k = (A, 0)
  | 0 => rfl
  | k + 1 => by
    unfold rdA
    rw [rdA_0 k, if_pos (show (0 : Int64) ≤ 0 by decide)]
theorem sfreeA_0 {A : Mm} {f sd : Int64} {n : Nat} (h : abrV (mI A 0 4) f sd = 0) : sfreeA A f sd n = A := by
  unfold sfreeA
  split
  · rw [h, sfA_0, rdA_0]
    show sL A 2 2 (mL A 2 2 + (0 - 0)) = A
    rw [show (0 : Int64) - 0 = 0 from rfl, Int64.add_zero, sL_self rfl]
  · rfl
theorem c_abroadR (g : Gc) {lv l N n y r E F : Nat} {A m0 : Mm} {v : Nat → Nat} {sd : Int64} (hl : l < 2) (hN : N ≤ 12) (hnN : n ≤ N) (hn : mI A 0 0 = nI n) (hv : frN n A v) (hF : sumN v n = F) (hF2 : F < 2 ^ 31) (hE : E ≤ F) (hab : abrV (mI A 0 4) (lN F) sd = lN E) (hS : Sg g m0) (hR : LandQ g l N y r A m0) {Q : Mm → Prop} (hQ : ∀ m', LandQ g l N y r (sfreeA A (lN F) sd n) m' → St (PQ g l) m0 m' → Q m') : CV g M_RF_abroad (lv + 2) [va_rf (some (gz g + 145)), .int (nI l), .int (nI F), .int (nI E)] m0 Q := by
  refine en_RF_abroad g ?_
  by_cases hE0 : E = 0
  · rw [if_pos ((sk_0 (by omega)).2.2 hE0)]
    rw [sfreeA_0 (by rw [hab, hE0]; rfl)] at hQ
    exact hQ m0 hR (St.refl _ _)
  rw [if_neg (fun q => hE0 ((sk_0 (by omega)).2.1 q))]
  have hF0 : 0 < F := by omega
  have fpos : (0 : Int64) < lN F := by
    have := (lN_lt (a := 0) (b := F) (by omega) hF2).2 hF0
    exact this
  have fne : ¬ (nI F).toInt64 = 0 := by
    rw [nI_l hF2]
    intro e
    have := (lN_eq (a := F) (b := 0) hF2 (by omega)).1 e
    omega
  unfold sfreeA at hQ
  rw [if_pos fpos, hab] at hQ
  have n0 : 0 < n := by
    rcases Nat.eq_zero_or_pos n with a | a
    · subst a
      have : sumN v 0 = 0 := rfl
      omega
    · exact a
  obtain ⟨b1, b2, b3⟩ := sfA_nat (p := mI A 0 2) hv hF hF0 hF2 hE n (Nat.le_refl _)
  -- what is left after the shares is less than the number of growers
  have hL : E - sumN (shrN v E F) n < n := by
    have h1 := (shrN_sum (v := v) (E := E) hF0 n).2 n0
    rw [hF] at h1
    have e1 : F * E < F * (sumN (shrN v E F) n + n) := by rw [Nat.mul_add, Nat.mul_comm F E, Nat.mul_comm F n]; exact h1
    have := Nat.lt_of_mul_lt_mul_left e1
    omega
  have hsum : E - sumN (shrN v E F) n ≤ sumN (fun j => if j < n then v j - shrN v E F j else v j) n := by
    have e1 : sumN (fun j => if j < n then v j - shrN v E F j else v j) n = sumN (fun j => v j - shrN v E F j) n := sumN_congr n (fun j hj => by simp only [if_pos hj])
    have e2 := sumN_sub (v := v) (s := shrN v E F) n (fun j _ => shrN_le hE hF0)
    omega
  have si : ∀ i, mI (sfA A (lN E) (lN F) (mI A 0 2) n).1 0 i = mI A 0 i := fun i => sfA_I (by omega) n
  have sl22 : mL (sfA A (lN E) (lN F) (mI A 0 2) n).1 2 2 = mL A 2 2 := sfA_L (by omega) n
  generalize hLd : E - sumN (shrN v E F) n = L at hL hsum b2
  have eS : sumN (shrN v E F) n = E - L := by omega
  -- the rounds
  have rounds : ∀ (B : Mm) (u : Nat → Nat), mI B 0 0 = nI n → mI B 0 2 = mI A 0 2 → frN n B u → L ≤ sumN u n → (∀ m', LandQ g l N y r (sL (rdA B (lN L) (mI A 0 2) n 12).1 2 2 (mL A 2 2 + (lN E - (rdA B (lN L) (mI A 0 2) n 12).2))) m' → St (PQ g l) m0 m' → Q m') → ∀ (d k : Nat) (L' : Nat) (m : Mm), k + d = 12 → (rdA B (lN L) (mI A 0 2) n k).2 = lN L' → L' ≤ L → LandQ g l N y r (sL (rdA B (lN L) (mI A 0 2) n k).1 2 2 (mL A 2 2 + lN (E - L'))) m → St (PQ g l) m0 m → At g M_RF_abroad (lv + 2) 71 [(0, va_rf (some (gz g + 145))), (1, .int (nI l)), (4, .int (nI L'))] [] m (QV Q) := by
    intro B u hB0 hB2 hu hLu hq d
    have fin : ∀ (k : Nat) (m : Mm), (rdA B (lN L) (mI A 0 2) n k).2 = lN 0 → k ≤ 12 → LandQ g l N y r (sL (rdA B (lN L) (mI A 0 2) n k).1 2 2 (mL A 2 2 + lN (E - 0))) m → St (PQ g l) m0 m → Q m := by
      intro k m e hk R s
      have st := rdA_stop (B := B) (L := lN L) (p := mI A 0 2) (n := n) (j := k) (by rw [e]; decide) (12 - k)
      rw [show k + (12 - k) = 12 by omega] at st
      refine hq m ?_ s
      rw [st, e, lN_sub (Nat.zero_le _)]
      exact R
    induction d with
    | zero =>
      intro k L' m hk e hL' R s
      obtain rfl : k = 12 := by omega
      obtain ⟨L2, u2, f1, f2, f3, f4, f5⟩ := rdA_nat (p := mI A 0 2) hu (show L < 2 ^ 31 by omega) hLu 12
      have : L' = 0 := by
        have e2 : L' = L2 := (lN_eq (by omega) (by omega)).1 (e.symm.trans f1)
        rcases f5 with a | a <;> omega
      subst this
      refine bk_RF_abroad_71 g ?_
      rw [if_pos (by decide)]
      exact fin 12 m e (by omega) R s
    | succ d ih =>
      intro k L' m hk e hL' R s
      refine bk_RF_abroad_71 g ?_
      by_cases hz : L' = 0
      · subst hz
        rw [if_pos (by decide)]
        exact fin k m e (by omega) R s
      rw [if_neg (nI_nle (by omega) (by omega))]
      obtain ⟨L2, u2, f1, f2, f3, f4, f5⟩ := rdA_nat (p := mI A 0 2) hu (show L < 2 ^ 31 by omega) hLu k
      have e2 : L' = L2 := (lN_eq (by omega) (by omega)).1 (e.symm.trans f1)
      subst e2
      have rI0 : ∀ i, mI (rdA B (lN L) (mI A 0 2) n k).1 0 i = mI B 0 i := fun i => rdA_I (by omega) k
      have next : ∀ (G : Nat) (m' : Mm), (soA (rdA B (lN L) (mI A 0 2) n k).1 (lN L') (mI A 0 2) n).2 = lN G → G ≤ L' → LandQ g l N y r (sL (soA (rdA B (lN L) (mI A 0 2) n k).1 (lN L') (mI A 0 2) n).1 2 2 (mL A 2 2 + lN (E - L' + G))) m' → St (PQ g l) m0 m' → At g M_RF_abroad (lv + 2) 71 [(0, va_rf (some (gz g + 145))), (1, .int (nI l)), (4, .int (nI (L' - G)))] [] m' (QV Q) := by
        intro G m' eG hG R' s'
        have ev : rdA B (lN L) (mI A 0 2) n (k + 1) = ((soA (rdA B (lN L) (mI A 0 2) n k).1 (lN L') (mI A 0 2) n).1, lN L' - (soA (rdA B (lN L) (mI A 0 2) n k).1 (lN L') (mI A 0 2) n).2) := by
          have z : ¬ (rdA B (lN L) (mI A 0 2) n k).2 ≤ 0 := by
            rw [e]
            intro q
            have := (lN_le (a := L') (b := 0) (by omega) (by omega)).1 q
            omega
          refine (show rdA B (lN L) (mI A 0 2) n (k + 1) = (if (rdA B (lN L) (mI A 0 2) n k).2 ≤ 0 then rdA B (lN L) (mI A 0 2) n k else ((soA (rdA B (lN L) (mI A 0 2) n k).1 (rdA B (lN L) (mI A 0 2) n k).2 (mI A 0 2) n).1, (rdA B (lN L) (mI A 0 2) n k).2 - (soA (rdA B (lN L) (mI A 0 2) n k).1 (rdA B (lN L) (mI A 0 2) n k).2 (mI A 0 2) n).2)) from rfl).trans ?_
          rw [if_neg z, e]
        refine ih (k + 1) (L' - G) m' (by omega) ?_ (by omega) ?_ s'
        · rw [ev]
          show lN L' - (soA _ _ _ _).2 = _
          rw [eG, lN_sub hG]
        · rw [ev]
          rw [show E - (L' - G) = E - L' + G by omega]
          exact R'
      generalize (rdA B (lN L) (mI A 0 2) n k).1 = C at R f3 rI0 next
      have inner : ∀ (c j : Nat) (m : Mm) (G : Nat), j + c = n → (soA C (lN L') (mI A 0 2) j).2 = lN G → G ≤ L' → LandQ g l N y r (sL (soA C (lN L') (mI A 0 2) j).1 2 2 (mL A 2 2 + lN (E - L' + G))) m → St (PQ g l) m0 m → At g M_RF_abroad (lv + 2) 79 [(0, va_rf (some (gz g + 145))), (1, .int (nI l)), (4, .int (nI (L' - G))), (5, .int (nI j))] [] m (QV Q) := by
        intro c
        induction c with
        | zero =>
          intro j m G hj eG hG R s
          obtain rfl : j = n := by omega
          refine bk_RF_abroad_79 g ⟨(s.sg hS).k 145 rfl, ?_⟩
          rw [R.n, mI_sL, soA_I (by omega), rI0, hB0, if_pos (nI_le (by omega) (by omega))]
          exact next G m eG hG R s
        | succ c ih2 =>
          intro j m G hj eG hG R s
          have S := s.sg hS
          have hjN : j < N := by omega
          refine bk_RF_abroad_79 g ⟨S.k 145 rfl, ?_⟩
          rw [R.n, mI_sL, soA_I (by omega), rI0, hB0, if_neg (nI_ge (by omega) (by omega))]
          by_cases hGL : L' ≤ G
          · have st := soA_stop (B := C) (most := lN L') (p := mI A 0 2) (j := j) (by rw [eG]; exact (lN_le (by omega) (by omega)).2 hGL) (c + 1)
            rw [show j + (c + 1) = n by omega] at st
            rw [if_pos (by rw [show L' - G = 0 by omega]; decide)]
            refine next G m (by rw [st]; exact eG) hG ?_ s
            rw [st]; exact R
          rw [if_neg (nI_nle (by omega) (by omega)), ix12l, nI_clamp (show 12 * l + j < 2 ^ 31 by omega), nI_clamp (show l < 2 ^ 31 by omega), nI_s, show nI (L' - G) + (-1 : Int32) = nI (L' - G - 1) from nI_dec (by omega)]
          refine ⟨gz g + 172, S.r 145 37 rfl, S.k 172 rfl, by rw [S.n 172 rfl]; exact vp_in_nI (N := 24) (by omega) (by omega), ?_⟩
          rw [(R.gr hjN).2.2.2.2.2, mI_sL]
          obtain ⟨G2, u3, g1, g2, g3, g4, g5, g6⟩ := soA_nat (p := mI A 0 2) f3 (show L' < 2 ^ 31 by omega) j (by omega)
          obtain ⟨x1, x2⟩ := g3 j (by omega)
          have ih3 := ih2 (j + 1)
          have nle : ¬ lN L' ≤ (soA C (lN L') (mI A 0 2) j).2 := by
            rw [eG]
            intro q
            exact hGL ((lN_le (by omega) (by omega)).1 q)
          unfold soA at ih3
          rw [if_neg nle, x1] at ih3
          rw [x1]
          by_cases hz2 : u3 j = 0
          · rw [if_pos ((sk_0 x2).2.2 hz2)]
            rw [if_pos ((sk_0 x2).1.2 hz2)] at ih3
            exact ih3 m G (by omega) eG hG R s
          · rw [if_neg (fun q => hz2 ((sk_0 x2).2.1 q))]
            rw [if_neg (fun q => hz2 ((sk_0 x2).1.1 q))] at ih3
            refine ⟨gz g + 167, S.r 145 32 rfl, S.k 167 rfl, by rw [S.n 167 rfl]; exact vp_in_nI (N := 2) (by omega) (by omega), ?_⟩
            rw [R.sc.2.1, mI_sL, soA_I (by omega), rI0, hB2]
            refine c_sellsR g hl hN (j := j) (w := 2) hjN (by omega) S R 1 _ (fun m1 R1 s1 => ?_)
            have es : L' - G - 1 = L' - (G + 1) := by omega
            rw [es]
            refine ih3 m1 (G + 1) (by omega) ?_ (by omega) ?_ (s.trans s1)
            · show (soA C (lN L') (mI A 0 2) j).2 + 1 = _
              rw [eG, lN_1]
            · rw [mL_sL, up2_at] at R1
              have so := sell_over (B := (soA C (lN L') (mI A 0 2) j).1) (j := j) (w := 2) (s := 1) (p := mI A 0 2) (σ := mL A 2 2 + lN (E - L' + G)) (τ := mL A 2 2 + lN (E - L' + G) + (1 : Int32).toInt64)
              have R2 := R1.congr so.1.symm so.2.symm
              rw [show (1 : Int32).toInt64 = lN 1 from rfl, Int64.add_assoc, lN_add] at R2
              exact R2
      refine inner n 0 m 0 (by omega) rfl (by omega) ?_ s
      exact R
  -- the shares
  have loop : ∀ (d k : Nat) (m : Mm), k + d = n → LandQ g l N y r (sL (sfA A (lN E) (lN F) (mI A 0 2) k).1 2 2 (mL A 2 2 + lN (sumN (shrN v E F) k))) m → St (PQ g l) m0 m → At g M_RF_abroad (lv + 2) 11 [(0, va_rf (some (gz g + 145))), (1, .int (nI l)), (2, .int (nI F)), (3, .int (nI E)), (4, .int (nI (E - sumN (shrN v E F) k))), (5, .int (nI k))] [] m (QV Q) := by
    intro d
    induction d with
    | zero =>
      intro k m hk R s
      obtain rfl : k = n := by omega
      refine bk_RF_abroad_11 g ⟨(s.sg hS).k 145 rfl, ?_⟩
      rw [R.n, mI_sL, si, hn, if_pos (nI_le (by omega) (by omega)), hLd]
      rw [b2] at hQ
      rw [eS] at R
      exact rounds _ _ ((si 0).trans hn) (si 2) b3 hsum hQ 12 0 L m (by omega) rfl (Nat.le_refl _) R s
    | succ d ih =>
      intro k m hk R s
      have S := s.sg hS
      have hkN : k < N := by omega
      obtain ⟨a1, a2, a3⟩ := sfA_nat (p := mI A 0 2) hv hF hF0 hF2 hE k (by omega)
      obtain ⟨a4, -, -⟩ := sfA_nat (p := mI A 0 2) hv hF hF0 hF2 hE (k + 1) (by omega)
      obtain ⟨c1, c2⟩ := a3 k (by omega)
      simp only [Nat.lt_irrefl, if_false] at c1 c2
      have es : sumN (shrN v E F) (k + 1) = sumN (shrN v E F) k + shrN v E F k := rfl
      have sl := shrN_le (v := v) (j := k) hE hF0
      have sv : ((mI (sfA A (lN E) (lN F) (mI A 0 2) k).1 7 k).toInt64 * (nI E).toInt64 / (nI F).toInt64).toInt32 = nI (shrN v E F k) := by
        have m1 : v k * E < 2 ^ 63 := by
          have : v k * E ≤ 2 ^ 31 * 2 ^ 31 := Nat.mul_le_mul (by omega) (by omega)
          omega
        rw [c1, nI_l c2, nI_l (by omega), nI_l hF2, lN_mul, lN_div m1 hF2, lN_i]
        rfl
      have sv2 : ((mI (sfA A (lN E) (lN F) (mI A 0 2) k).1 7 k).toInt64 * lN E / lN F).toInt32 = nI (shrN v E F k) := by
        rw [nI_l (by omega), nI_l hF2] at sv
        exact sv
      refine bk_RF_abroad_11 g ⟨S.k 145 rfl, ?_⟩
      rw [R.n, mI_sL, sfA_I (by omega), hn, if_neg (nI_ge (by omega) (by omega)), ix12l, nI_clamp (show 12 * l + k < 2 ^ 31 by omega), nI_clamp (show l < 2 ^ 31 by omega), nI_s]
      refine ⟨gz g + 172, S.r 145 37 rfl, S.k 172 rfl, by rw [S.n 172 rfl]; exact vp_in_nI (N := 24) (by omega) (by omega), fne, gz g + 167, S.r 145 32 rfl, S.k 167 rfl, by rw [S.n 167 rfl]; exact vp_in_nI (N := 2) (by omega) (by omega), ?_⟩
      rw [(R.gr hkN).2.2.2.2.2, R.sc.2.1, mI_sL, sv, show mI (sfA A (lN E) (lN F) (mI A 0 2) k).1 0 2 = mI A 0 2 from sfA_I (by omega) k, nI_sub (by omega) (by omega), show E - sumN (shrN v E F) k - shrN v E F k = E - sumN (shrN v E F) (k + 1) by omega]
      refine c_sellsR g hl hN (j := k) (w := 2) hkN (by omega) S R _ _ (fun m1 R1 s1 => ?_)
      refine ih (k + 1) m1 (by omega) ?_ (s.trans s1)
      have ev : (sfA A (lN E) (lN F) (mI A 0 2) (k + 1)).1 = sellA (sfA A (lN E) (lN F) (mI A 0 2) k).1 k (nI (shrN v E F k)) (mI A 0 2) := by
        show sellA _ k ((mI (sfA A (lN E) (lN F) (mI A 0 2) k).1 7 k).toInt64 * lN E / lN F).toInt32 _ = _
        rw [sv2]
      rw [mL_sL, up2_at] at R1
      have so := sell_over (B := (sfA A (lN E) (lN F) (mI A 0 2) k).1) (j := k) (w := 2) (s := nI (shrN v E F k)) (p := mI A 0 2) (σ := mL A 2 2 + lN (sumN (shrN v E F) k)) (τ := mL A 2 2 + lN (sumN (shrN v E F) k) + (nI (shrN v E F k)).toInt64)
      have R2 := R1.congr so.1.symm so.2.symm
      rw [nI_l (by omega), Int64.add_assoc, lN_add, ← es] at R2
      rw [ev]
      exact R2
  refine loop n 0 m0 (by omega) ?_ (St.refl _ _)
  refine hR.congr rfl ?_
  show mL (sL A 2 2 (mL A 2 2 + lN 0)) = mL A
  rw [show lN 0 = 0 from rfl, Int64.add_zero, mL_selfA]
