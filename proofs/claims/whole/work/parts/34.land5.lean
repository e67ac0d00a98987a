/-! ===== growerOf ===== -/
def grV (A : Mm) (x : Int32) (j y : Nat) : Int32 :=
  if x = 0 then mI A 1 j else if x = 1 then mI A 3 j else if x = 2 then mI A 4 j else if x = 3 then mI A 5 j else if x = 4 then mI A 6 j else if x = 5 then mI A 7 j else if x = 6 then (mL A 1 j).toInt32 else if x = 7 then (if y = 0 then -1 else mI A 17 (12 * (y - 1) + j)) else if x = 8 then (if y = 0 then -1 else mI A 8 j) else -1000000
theorem sh_crp : ∀ j, j < 12 → shR (14 + 4 * j) 1 = some (16 + 4 * j) ∧ shK (16 + 4 * j) = 15 ∧ shN (16 + 4 * j) = 30 := by decide +kernel
theorem yr_30 : ∀ y, y ≤ 30 → ((1 : Int32) ≤ nI y ↔ y ≠ 0) ∧ (nI y = 0 ↔ y = 0) ∧ (y ≠ 0 → wi (nI y - 1) 0 29 = 1 ∧ nI y - (1 : Int32) = nI (y - 1)) := by decide +kernel
theorem l_SLgrower (g : Gc) {lv : Nat} {m A : Mm} {pa : Nat → Nat} {j y r : Nat} (hS : Sg g m) (hB : LandB g pa y r A m) (hy : mI A 0 1 = nI y) (h30 : y ≤ 30) (hj : j < 12) (x s0 : Int32) (hs : s0 = if y = 0 then 1 else 0) {Q : Int32 → Mm → Prop} (hq : Q (grV A x j y) m) : At g M_SL_growerOf (lv + 3) 40 [(0, va_rf (some (gz g))), (2, .int x), (3, va_rf (some (gz g + (14 + 4 * j))))] [.int s0] m (QI Q) := by
  have hk : mK m (gz g + (14 + 4 * j)) = 2 := hS.k (14 + 4 * j) (sh_gr j hj).2 (by omega)
  refine bk_SL_growerOf_40 g ?_
  unfold grV at hq
  by_cases q0 : x = 0
  · rw [if_pos q0] at hq ⊢
    exact ⟨_, rfl, hk, by rw [show mI m (gz g + (14 + 4 * j)) 3 = mI A 1 j from hB.cg (c := 1) hj (by omega) (by omega)]; exact hq⟩
  rw [if_neg q0] at hq ⊢
  by_cases q1 : x = 1
  · rw [if_pos q1] at hq ⊢
    exact ⟨_, rfl, hk, by rw [show mI m (gz g + (14 + 4 * j)) 5 = mI A 3 j from hB.cg (c := 3) hj (by omega) (by omega)]; exact hq⟩
  rw [if_neg q1] at hq ⊢
  by_cases q2 : x = 2
  · rw [if_pos q2] at hq ⊢
    exact ⟨_, rfl, hk, by rw [show mI m (gz g + (14 + 4 * j)) 6 = mI A 4 j from hB.cg (c := 4) hj (by omega) (by omega)]; exact hq⟩
  rw [if_neg q2] at hq ⊢
  by_cases q3 : x = 3
  · rw [if_pos q3] at hq ⊢
    exact ⟨_, rfl, hk, by rw [show mI m (gz g + (14 + 4 * j)) 7 = mI A 5 j from hB.cg (c := 5) hj (by omega) (by omega)]; exact hq⟩
  rw [if_neg q3] at hq ⊢
  by_cases q4 : x = 4
  · rw [if_pos q4] at hq ⊢
    exact ⟨_, rfl, hk, by rw [show mI m (gz g + (14 + 4 * j)) 8 = mI A 6 j from hB.cg (c := 6) hj (by omega) (by omega)]; exact hq⟩
  rw [if_neg q4] at hq ⊢
  by_cases q5 : x = 5
  · rw [if_pos q5] at hq ⊢
    exact ⟨_, rfl, hk, by rw [show mI m (gz g + (14 + 4 * j)) 9 = mI A 7 j from hB.cg (c := 7) hj (by omega) (by omega)]; exact hq⟩
  rw [if_neg q5] at hq ⊢
  by_cases q6 : x = 6
  · rw [if_pos q6] at hq ⊢
    exact ⟨_, rfl, hk, by rw [(hB.rst hj).1]; exact hq⟩
  rw [if_neg q6] at hq ⊢
  obtain ⟨y1, y2, y3⟩ := yr_30 y h30
  by_cases q7 : x = 7
  · rw [if_pos q7] at hq ⊢
    by_cases hz : y = 0
    · rw [if_pos hz] at hq hs
      rw [hs, if_neg (by decide)]
      exact hq
    · rw [if_neg hz] at hq hs
      rw [hs, if_pos rfl]
      obtain ⟨w1, w2⟩ := y3 hz
      refine ⟨hS.k 0 rfl, gz g + 2, hS.r 0 1 rfl, hS.k 2 rfl, _, rfl, hk, ?_⟩
      rw [hB.yr.1, hy]
      refine en_Grower_cropOf g (c_isWithin g ?_)
      rw [w1, if_neg (by decide), w2]
      refine ⟨hk, gz g + (16 + 4 * j), hS.r (14 + 4 * j) 1 (sh_crp j hj).1, hS.k (16 + 4 * j) (sh_crp j hj).2.1 (by omega), by rw [hS.n (16 + 4 * j) (sh_crp j hj).2.2 (by omega)]; exact vp_in_nI (N := 30) (by omega) (by omega), ?_⟩
      rw [nI_clamp (by omega), (hB.crp hj (k := y - 1) (by omega)).1]
      exact hq
  rw [if_neg q7] at hq ⊢
  by_cases q8 : x = 8
  · rw [if_pos q8] at hq ⊢
    by_cases hz : y = 0
    · rw [if_pos hz] at hq hs
      rw [hs, if_neg (by decide)]
      exact hq
    · rw [if_neg hz] at hq hs
      rw [hs, if_pos rfl]
      exact ⟨_, rfl, hk, by rw [show mI m (gz g + (14 + 4 * j)) 10 = mI A 8 j from hB.cg (c := 8) hj (by omega) (by omega)]; exact hq⟩
  rw [if_neg q8] at hq ⊢
  exact hq
theorem ix3 : ∀ j, j < 12 → (3 : Int32) * nI j = nI (3 * j) ∧ (3 : Int32) * nI j + 1 = nI (3 * j + 1) ∧ (3 : Int32) * nI j + 2 = nI (3 * j + 2) := by decide +kernel
theorem ix12 (k j : Nat) : (12 : Int32) * nI k + nI j = nI (12 * k + j) := by rw [show (12 : Int32) = nI 12 from rfl, pk_mul, nI_add]
theorem l_RFgrower (g : Gc) {lv : Nat} {m A : Mm} {pa : Nat → Nat} {n j y r : Nat} (hS : Sg g m) (hB : LandB g pa y r A m) (hp : PaOK g pa r) (hn : mI A 0 0 = nI n) (h12 : n ≤ 12) (hy : mI A 0 1 = nI y) (h30 : y ≤ 30) (hj' : j < n) (x : Int32) {Q : Int32 → Mm → Prop} (hg : ¬ wi (nI j) 0 (nI n - 1) = 0) (hq : Q (grV A x j y) (sI m (gz g + 145) 0 0)) : CI g M_RF_growerOf (lv + 3) [va_rf (some (gz g + 145)), .int (nI j), .int x] m Q := by
  have hj : j < 12 := by omega
  refine en_RF_growerOf g ⟨hS.k 145 rfl, fun m2 e2 => ?_⟩
  replace hB : LandB g pa y r A m2 := by rw [e2]; exact hB.off0 hp (by omega) 0
  replace hS : Sg g m2 := by rw [e2]; exact hS
  rw [← e2] at hq
  clear e2
  refine c_isGrower g (hS.k 145 rfl) (hB.n.2.trans hn) ?_
  rw [if_neg hg]
  obtain ⟨i0, i1, i2⟩ := ix3 j hj
  rw [i1, i2, i0, nI_clamp (by omega), nI_clamp (by omega), nI_clamp (by omega), nI_clamp (by omega)]
  unfold grV at hq
  by_cases q0 : x = 0
  · rw [if_pos q0] at hq ⊢
    exact ⟨gz g + 155, hS.r 145 20 rfl, hS.k 155 rfl, by rw [hS.n 155 rfl]; exact vp_in_nI (N := 12) (by omega) (by omega), by rw [(hB.rg1 hj).1]; exact hq⟩
  rw [if_neg q0] at hq ⊢
  by_cases q1 : x = 1
  · rw [if_pos q1] at hq ⊢
    exact ⟨gz g + 170, hS.r 145 35 rfl, hS.k 170 rfl, by rw [hS.n 170 rfl]; exact vp_in_nI (N := 24) (by omega) (by omega), by rw [(hB.rg2 hj).1]; exact hq⟩
  rw [if_neg q1] at hq ⊢
  by_cases q2 : x = 2
  · rw [if_pos q2] at hq ⊢
    exact ⟨gz g + 171, hS.r 145 36 rfl, hS.k 171 rfl, by rw [hS.n 171 rfl]; exact vp_in_nI (N := 72) (by omega) (by omega), by rw [(hB.rg2 hj).2.1]; exact hq⟩
  rw [if_neg q2] at hq ⊢
  by_cases q3 : x = 3
  · rw [if_pos q3] at hq ⊢
    exact ⟨gz g + 171, hS.r 145 36 rfl, hS.k 171 rfl, by rw [hS.n 171 rfl]; exact vp_in_nI (N := 72) (by omega) (by omega), by rw [(hB.rg2 hj).2.2.1]; exact hq⟩
  rw [if_neg q3] at hq ⊢
  by_cases q4 : x = 4
  · rw [if_pos q4] at hq ⊢
    exact ⟨gz g + 171, hS.r 145 36 rfl, hS.k 171 rfl, by rw [hS.n 171 rfl]; exact vp_in_nI (N := 72) (by omega) (by omega), by rw [(hB.rg2 hj).2.2.2.1]; exact hq⟩
  rw [if_neg q4] at hq ⊢
  by_cases q5 : x = 5
  · rw [if_pos q5] at hq ⊢
    exact ⟨gz g + 172, hS.r 145 37 rfl, hS.k 172 rfl, by rw [hS.n 172 rfl]; exact vp_in_nI (N := 24) (by omega) (by omega), by rw [(hB.rg2 hj).2.2.2.2]; exact hq⟩
  rw [if_neg q5] at hq ⊢
  by_cases q6 : x = 6
  · rw [if_pos q6] at hq ⊢
    exact ⟨gz g + 173, hS.r 145 38 rfl, hS.k 173 rfl, by rw [hS.n 173 rfl]; exact vp_in_nI (N := 24) (by omega) (by omega), by rw [(hB.rst hj).2]; exact hq⟩
  rw [if_neg q6] at hq ⊢
  obtain ⟨y1, y2, y3⟩ := yr_30 y h30
  have z0 : (0 : Int32).toNatClampNeg = 0 := rfl
  rw [z0]
  by_cases q7 : x = 7
  · rw [if_pos q7] at hq ⊢
    refine ⟨gz g + 166, hS.r 145 31 rfl, hS.k 166 rfl, by rw [hS.n 166 rfl]; exact vp_in_nI (n := 0) (N := 2) (by omega) (by omega), ?_⟩
    rw [hB.yr.2, hy]
    by_cases hz : y = 0
    · rw [if_pos hz] at hq
      rw [if_pos (y2.2 hz)]
      exact hq
    · rw [if_neg hz] at hq
      rw [if_neg (fun h => hz (y2.1 h)), (y3 hz).2, ix12, nI_clamp (by omega)]
      refine ⟨gz g + 159, hS.r 145 24 rfl, by rw [hS.n 166 rfl]; exact vp_in_nI (n := 0) (N := 2) (by omega) (by omega), hS.k 159 rfl, by rw [hS.n 159 rfl]; exact vp_in_nI (N := 360) (by omega) (by omega), ?_⟩
      rw [(hB.crp hj (k := y - 1) (by omega)).2]
      exact hq
  rw [if_neg q7] at hq ⊢
  by_cases q8 : x = 8
  · rw [if_pos q8] at hq ⊢
    refine ⟨gz g + 166, hS.r 145 31 rfl, hS.k 166 rfl, by rw [hS.n 166 rfl]; exact vp_in_nI (n := 0) (N := 2) (by omega) (by omega), ?_⟩
    rw [hB.yr.2, hy]
    by_cases hz : y = 0
    · rw [if_pos hz] at hq
      rw [if_pos (y2.2 hz)]
      exact hq
    · rw [if_neg hz] at hq
      rw [if_neg (fun h => hz (y2.1 h))]
      exact ⟨gz g + 165, hS.r 145 30 rfl, hS.k 165 rfl, by rw [hS.n 165 rfl]; exact vp_in_nI (N := 12) (by omega) (by omega), by rw [(hB.rg1 hj).2.2]; exact hq⟩
  rw [if_neg q8] at hq ⊢
  exact hq
theorem sim_growerOf (g : Gc) {lv : Nat} {m A : Mm} {pa : Nat → Nat} {n y r : Nat} (hS : Sg g m) (hB : LandB g pa y r A m) (hp : PaOK g pa r) (hn : mI A 0 0 = nI n) (h12 : n ≤ 12) (hy : mI A 0 1 = nI y) (h30 : y ≤ 30) (i x : Int32) : SimI g M_SL_growerOf M_RF_growerOf (lv + 3) [.int i, .int x] m (fun m2 => Only g [] [0] m m2) := by
  have on0 : Only g [] [0] m (sI m (gz g + 145) 0 0) := Only_sM m (by decide) 0
  unfold SimI
  refine en_SL_growerOf g ⟨hS.k 0 rfl, gz g + 2, hS.r 0 1 rfl, hS.k 2 rfl, c_hasGrower g (hS.k 2 rfl) (hB.n.1.trans hn) h12 ?_⟩
  by_cases h1 : wi i 0 (nI n - 1) = 0
  · rw [if_pos h1]
    refine en_RF_growerOf g ⟨hS.k 145 rfl, fun m2 e2 => ?_⟩
    subst e2
    refine c_isGrower g (hS.k 145 rfl) (n := n) (by rw [mI_sI, up2_sl (by omega)]; exact hB.n.2.trans hn) ?_
    rw [if_pos h1]
    exact ⟨rfl, on0⟩
  rw [if_neg h1]
  obtain ⟨j, hj, rfl⟩ := gr_of h12 h1
  have hj2 : j < 12 := by omega
  refine ⟨gz g + 3, hS.r 2 1 rfl, hS.k 3 rfl, by rw [hS.n 3 rfl]; exact vp_in_nI (N := 12) (by omega) (by omega), ?_⟩
  rw [hB.yr.1, hy, nI_clamp (by omega), hS.r 3 j (sh_gr j hj2).1]
  obtain ⟨y1, -, -⟩ := yr_30 y h30
  by_cases hz : y = 0
  · rw [if_neg (fun h => y1.1 h hz)]
    exact l_SLgrower g hS hB hy h30 hj2 x 1 (by rw [if_pos hz]) (l_RFgrower g hS hB hp hn h12 hy h30 hj x h1 ⟨rfl, on0⟩)
  · rw [if_pos (y1.2 hz)]
    exact l_SLgrower g hS hB hy h30 hj2 x 0 (by rw [if_neg hz]) (l_RFgrower g hS hB hp hn h12 hy h30 hj x h1 ⟨rfl, on0⟩)
