/-! ===== the year as one function of the abstract state; its bounds ===== -/
theorem sumN_mono2 {u v : Nat → Nat} : ∀ k, (∀ j, j < k → u j ≤ v j) → sumN u k ≤ sumN v k
  | 0, _ => Nat.le_refl _
  | k + 1, h => by
    have := sumN_mono2 k (fun j hj => h j (by omega))
    have := h k (by omega)
    show sumN u k + u k ≤ sumN v k + v k
    omega
theorem sumN_max {u : Nat → Nat} {x : Nat} : ∀ k, (∀ j, j < k → u j ≤ x) → sumN u k ≤ x * k
  | 0, _ => Nat.zero_le _
  | k + 1, h => by
    have := sumN_max k (fun j hj => h j (by omega))
    have := h k (by omega)
    show sumN u k + u k ≤ x * (k + 1)
    rw [Nat.mul_succ]
    omega
theorem kpS_L3 {B : Mm} {r y k i : Nat} {P fr : Int32} : mL (kpS B r y k P fr).1 3 i = mL B 3 i := by
  have k2 : mL (kp2 B y k P fr) 3 i = mL B 3 i := by
    show mL (sL (sI (kp1 B y k fr) 8 k _) 1 k _) 3 i = _
    rw [mL_sL, up2_oth (by omega), mL_sI]; rfl
  unfold kpS
  split
  · split
    · exact k2
    · show mL (sL (issA (sI (kp2 B y k P fr) 7 k _) r _ _ _) 2 1 _) 3 i = _
      rw [mL_sL, up2_oth (by omega)]
      exact k2
  · rfl
theorem kpA_L3 {A : Mm} {r y i : Nat} {P : Int32} {fr : Nat → Int32} : ∀ k, mL (kpA A r y P fr k).1 3 i = mL A 3 i
  | 0 => rfl
  | k + 1 => by
    show mL (kpS _ _ _ _ _ _).1 3 i = _
    rw [kpS_L3, kpA_L3 k]
theorem soldA_L3 {A : Mm} {i j w : Nat} {s p : Int32} (hw : w < 8) : mL (soldA A i s p w) 3 j = mL A 3 j := by
  unfold soldA
  rw [mL_sL, up2_oth (by omega), mL_sL, up2_oth (by omega), mL_sI]
theorem ssA_L3 {A : Mm} {p : Int32} {S : Int64} {i : Nat} : ∀ k, mL (ssA A p S k).1 3 i = mL A 3 i
  | 0 => rfl
  | k + 1 => by
    show mL (soldA _ _ _ _ _) 3 i = _
    rw [soldA_L3 (by omega), ssA_L3 k]
theorem slA_L3 {A : Mm} {T p : Int32} {i : Nat} : ∀ k, mL (slA A T p k) 3 i = mL A 3 i
  | 0 => rfl
  | k + 1 => by
    show mL (slS _ _ _ _) 3 i = _
    unfold slS
    split
    · exact slA_L3 k
    · rw [soldA_L3 (by omega), slA_L3 k]
theorem stfA_L3 {A : Mm} {q p : Int32} {i : Nat} : ∀ k, mL (stfA A q p k).1 3 i = mL A 3 i
  | 0 => rfl
  | k + 1 => by
    show mL (sL (sellA _ _ _ _) 2 4 _) 3 i = _
    rw [mL_sL, up2_oth (by omega), sellA_L (by omega), stfA_L3 k]
theorem vineA_L {A : Mm} {hi pl : Int32} : ∀ k, mL (vineA A hi pl k) = mL A
  | 0 => rfl
  | k + 1 => by
    show mL (vineS _ _ _ _) = _
    rw [vineS_L, vineA_L k]
theorem sfreeA_L3 {A : Mm} {f sd : Int64} {n i : Nat} : mL (sfreeA A f sd n) 3 i = mL A 3 i := by
  unfold sfreeA
  split
  · rw [mL_sL, up2_oth (by omega), rdA_L (by omega), sfA_L (by omega)]
  · rfl
theorem kp1_18 {B : Mm} {y k i : Nat} {fr : Int32} : mI (kp1 B y k fr) 18 i = if i = 12 * y + k then fr else mI B 18 i := by
  unfold kp1
  rw [mI_sI]
  by_cases h : i = 12 * y + k
  · rw [if_pos h, h, up2_at]
  · rw [if_neg h, up2_sl h, mI_sI, up2_oth (by omega)]
theorem kp2_18 {B : Mm} {y k i : Nat} {P fr : Int32} : mI (kp2 B y k P fr) 18 i = if i = 12 * y + k then fr else mI B 18 i := by
  unfold kp2
  rw [mI_sL, mI_sI, up2_oth (by omega), kp1_18]
theorem kpS_18 {B : Mm} {r y k i : Nat} {P fr : Int32} : mI (kpS B r y k P fr).1 18 i = if i = 12 * y + k then fr else mI B 18 i := by
  unfold kpS
  split
  · split
    · exact kp2_18
    · show mI (sL (issA (sI (kp2 B y k P fr) 7 k _) r _ _ _) 2 1 _) 18 i = _
      rw [mI_sL, issA_oth (by omega) (by omega), mI_sI, up2_oth (by omega), kp2_18]
  · exact kp1_18
theorem kpA_18 {A : Mm} {r y i : Nat} {P : Int32} {fr : Nat → Int32} : ∀ k, mI (kpA A r y P fr k).1 18 i = if 12 * y ≤ i ∧ i < 12 * y + k then fr (i - 12 * y) else mI A 18 i
  | 0 => by rw [if_neg (by omega)]; rfl
  | k + 1 => by
    show mI (kpS _ _ _ _ _ _).1 18 i = _
    rw [kpS_18, kpA_18 k]
    by_cases h : i = 12 * y + k
    · rw [if_pos h, if_pos (by omega), show i - 12 * y = k by omega]
    · rw [if_neg h]
      by_cases h2 : 12 * y ≤ i ∧ i < 12 * y + k
      · rw [if_pos h2, if_pos (by omega)]
      · rw [if_neg h2, if_neg (by omega)]
theorem kpS_30 {B : Mm} {r y k : Nat} {P fr : Int32} (h : F30 r B) (hy : y < 30) : F30 (kpS B r y k P fr).2 (kpS B r y k P fr).1 := by
  unfold kpS
  split
  · split
    · intro i hi
      show ¬ (30 : Int32) ≤ mI (kp2 B y k P fr) 11 i
      rw [kp2_I (by omega) (by omega)]
      exact h i hi
    · intro i hi
      show ¬ (30 : Int32) ≤ mI (kp3 B r y k P fr) 11 i
      by_cases hir : i = r
      · subst hir
        unfold kp3 issA
        rw [mI_sL, mI_sI, up2_oth (by omega), issB_at.2.2]
        exact nI_ge (b := 30) hy (by omega)
      · rw [kp3_I (by omega) (by omega) (by omega) (by omega) (by omega)]
        exact h i (by have : i < r + 1 := hi; omega)
  · intro i hi
    show ¬ (30 : Int32) ≤ mI (kp1 B y k fr) 11 i
    rw [kp1_I (by omega) (by omega)]
    exact h i hi
theorem kpA_30 {A : Mm} {r y : Nat} {P : Int32} {fr : Nat → Int32} (h : F30 r A) (hy : y < 30) : ∀ k, F30 (kpA A r y P fr k).2 (kpA A r y P fr k).1
  | 0 => h
  | k + 1 => kpS_30 (kpA_30 h hy k) hy
theorem stfA_nat {n : Nat} {A : Mm} {v : Nat → Nat} {q0 : Nat} {p : Int32} (h : frN n A v) (hq : q0 < 2 ^ 31) : ∀ k, k ≤ n → ∃ (v' : Nat → Nat) (q' : Nat), frN n (stfA A (nI q0) p k).1 v' ∧ (stfA A (nI q0) p k).2 = nI q' ∧ q' ≤ q0 ∧ ∀ j, v' j ≤ v j
  | 0, _ => ⟨v, q0, h, rfl, Nat.le_refl _, fun _ => Nat.le_refl _⟩
  | k + 1, hk => by
    obtain ⟨v1, q1, a1, a2, a3, a4⟩ := stfA_nat (p := p) h hq k (by omega)
    have e : imn (stfA A (nI q0) p k).2 (mI (stfA A (nI q0) p k).1 7 k) = nI (min q1 (v1 k)) := by
      rw [a2, (a1 k (by omega)).1]
      exact imn_N (by omega) (a1 k (by omega)).2
    have b := a1.sell (j := k) (s := min q1 (v1 k)) (p := p) (by omega) (by omega)
    refine ⟨_, q1 - min q1 (v1 k), (show frN n (sL (sellA (stfA A (nI q0) p k).1 k (imn (stfA A (nI q0) p k).2 (mI (stfA A (nI q0) p k).1 7 k)) p) 2 4 _) _ by rw [e]; exact b), ?_, by omega, fun j => ?_⟩
    · show (stfA A (nI q0) p k).2 - imn (stfA A (nI q0) p k).2 (mI (stfA A (nI q0) p k).1 7 k) = _
      rw [e, a2, nI_sub (by omega) (by omega)]
    · have := a4 j
      show (if j = k then v1 k - min q1 (v1 k) else v1 j) ≤ v j
      by_cases hj : j = k
      · rw [if_pos hj]; subst hj; omega
      · rw [if_neg hj]; exact this
theorem slA_nat {r : Nat} {A : Mm} {u : Nat → Nat} {T p : Int32} (h : skN r A u) : ∀ k, k ≤ r → ∃ u' : Nat → Nat, skN r (slA A T p k) u' ∧ ∀ i, u' i ≤ u i
  | 0, _ => ⟨u, h, fun _ => Nat.le_refl _⟩
  | k + 1, hk => by
    obtain ⟨u1, a1, a2⟩ := slA_nat (T := T) (p := p) h k (by omega)
    show ∃ u', skN r (slS (slA A T p k) k T p) u' ∧ _
    unfold slS
    split
    · exact ⟨u1, a1, a2⟩
    · rw [(a1 k (by omega)).1]
      refine ⟨_, a1.sold (i := k) (s := u1 k) (w := 5) (p := p) (by omega) (Nat.le_refl _), fun i => ?_⟩
      have := a2 i
      by_cases hi : i = k
      · rw [if_pos hi]; omega
      · rw [if_neg hi]; exact this
theorem rotA_nat {r : Nat} {A : Mm} {u : Nat → Nat} {d : Nat} (h : skN r A u) (hd : d ≤ 200) : ∀ k, k ≤ r → ∃ u' : Nat → Nat, skN r (rotA A (nI d) k).1 u' ∧ ∀ i, u' i ≤ u i
  | 0, _ => ⟨u, h, fun _ => Nat.le_refl _⟩
  | k + 1, hk => by
    obtain ⟨u1, a1, a2⟩ := rotA_nat h hd k (by omega)
    obtain ⟨b1, b2⟩ := a1 k (by omega)
    have m1 : u1 k * d ≤ u1 k * 200 := Nat.mul_le_mul_left _ hd
    have m2 : u1 k * d / 1000 ≤ u1 k := Nat.div_le_of_le_mul (by omega)
    have e : ((mI (rotA A (nI d) k).1 10 k).toInt64 * (nI d).toInt64 / 1000).toInt32 = nI (u1 k * d / 1000) := by
      rw [b1, nI_l b2, nI_l (by omega), lN_mul, show (1000 : Int64) = lN 1000 from rfl, lN_div (by omega) (by omega), lN_i]
    refine ⟨fun i => if i = k then u1 k - u1 k * d / 1000 else u1 i, fun i hi => ?_, fun i => ?_⟩
    · show mI (sI (rotA A (nI d) k).1 10 k _) 10 i = _ ∧ _
      rw [mI_sI]
      by_cases hik : i = k
      · subst hik
        rw [up2_at, e, b1, nI_sub m2 b2]
        simp only [if_true]
        exact ⟨trivial, by omega⟩
      · rw [up2_sl hik]
        simp only [if_neg hik]
        exact a1 i hi
    · have := a2 i
      by_cases hik : i = k
      · subst hik; simp only [if_true]; omega
      · simp only [if_neg hik]; exact this
theorem sfreeA_nat {n : Nat} {A : Mm} {v : Nat → Nat} {w s0 F : Nat} (h : frN n A v) (hF : sumN v n = F) (hF2 : F < 2 ^ 31) (hw : mI A 0 4 = nI w) (hw2 : w < 2 ^ 31) (hs : s0 < 2 ^ 31) : ∃ v' : Nat → Nat, frN n (sfreeA A (lN F) (lN s0) n) v' ∧ sumN v' n ≤ sumN v n := by
  unfold sfreeA
  by_cases h0 : F = 0
  · subst h0
    rw [if_neg (by decide)]
    exact ⟨v, h, Nat.le_refl _⟩
  rw [if_pos ((lN_0 (by omega)).1.mpr h0), hw, abrV_N hw2 hF2 hs]
  have hE : min F (w - s0) ≤ F := Nat.min_le_left _ _
  generalize min F (w - s0) = E at hE
  obtain ⟨c1, c2, c3⟩ := sfA_nat (p := mI A 0 2) h hF (by omega) hF2 hE n (Nat.le_refl _)
  have hsub := sumN_sub (v := v) (s := shrN v E F) n (fun j _ => shrN_le hE (by omega))
  have ec : sumN (fun j => if j < n then v j - shrN v E F j else v j) n = sumN (fun j => v j - shrN v E F j) n := sumN_congr n (fun j hj => by simp only [if_pos hj])
  rw [c2]
  obtain ⟨L', u', d1, d2, d3, d4, -⟩ := rdA_nat (L := E - sumN (shrN v E F) n) (p := mI A 0 2) c3 (by omega) (by omega) 12
  refine ⟨u', fun j hj => ?_, by omega⟩
  rw [mI_sL]
  exact d3 j hj
theorem price_nat (x : Int64) : ∃ p : Nat, 1 ≤ p ∧ p ≤ 10000 ∧ (lmx 1 (lmn 10000 x)).toInt32 = nI p := by
  have key : ∃ p : Nat, 1 ≤ p ∧ p ≤ 10000 ∧ lmx 1 (lmn 10000 x) = lN p := by
    unfold lmx
    by_cases h1 : lmn 10000 x < 1
    · rw [if_pos h1]; exact ⟨1, by omega, by omega, rfl⟩
    · rw [if_neg h1]
      have h2 : lmn 10000 x ≤ 10000 := by
        unfold lmn
        split
        · next h => exact (i64_le _ _).mpr (by have := (i64_lt _ _).mp h; omega)
        · exact (i64_le _ _).mpr (by omega)
      obtain ⟨k, hk, e⟩ := pk_lOf (x := lmn 10000 x) (fun q => h1 ((i64_lt _ _).mpr (by have := (i64_lt _ _).mp q; have e0 : (0 : Int64).toInt = 0 := rfl; have e1 : (1 : Int64).toInt = 1 := rfl; omega)))
      rw [e] at h1 h2 ⊢
      rw [show (1 : Int64) = lN 1 from rfl, pk_lLT hk (by omega)] at h1
      rw [show (10000 : Int64) = lN 10000 from rfl, pk_lLE hk (by omega)] at h2
      exact ⟨k, by omega, h2, rfl⟩
  obtain ⟨p, a, b, e⟩ := key
  exact ⟨p, a, b, by rw [e, lN_i]⟩
def BeOK (n : Nat) (A : Mm) : Prop := ∀ j, j < n → ∃ b a0 a1 a2 : Nat, mI A 3 j = nI b ∧ mI A 4 j = nI a0 ∧ mI A 5 j = nI a1 ∧ mI A 6 j = nI a2 ∧ b + a0 + a1 + a2 ≤ 5000
theorem olderA_at {A : Mm} {j : Nat} : mI (olderA A j) 3 j = mI A 3 j + mI A 6 j ∧ mI (olderA A j) 4 j = 0 ∧ mI (olderA A j) 5 j = mI A 4 j ∧ mI (olderA A j) 6 j = mI A 5 j := by
  unfold olderA
  refine ⟨?_, ?_, ?_, ?_⟩
  · rw [mI_sI, up2_oth (by omega), mI_sI, up2_oth (by omega), mI_sI, up2_oth (by omega), mI_sI, up2_at]
  · rw [mI_sI, up2_at]
  · rw [mI_sI, up2_oth (by omega), mI_sI, up2_at]
  · rw [mI_sI, up2_oth (by omega), mI_sI, up2_oth (by omega), mI_sI, up2_at]
theorem olderA_ne {A : Mm} {j c i : Nat} (h : i ≠ j) : mI (olderA A j) c i = mI A c i := by
  unfold olderA
  rw [mI_sI, up2_sl h, mI_sI, up2_sl h, mI_sI, up2_sl h, mI_sI, up2_sl h]
theorem vineS_ne {A : Mm} {j c i : Nat} {hi pl : Int32} (h : i ≠ j) : mI (vineS A j hi pl) c i = mI A c i := by
  unfold vineS
  split
  · exact olderA_ne h
  · split
    · exact olderA_ne h
    · rw [mI_sI, up2_sl h, olderA_ne h]
theorem vineS_be {n j pl : Nat} {A : Mm} {hi : Int32} (h : BeOK n A) (hj : j < n) (hp : pl ≤ 100) : BeOK n (vineS A j hi (nI pl)) := by
  intro i hi2
  by_cases hij : i = j
  · subst hij
    obtain ⟨b, a0, a1, a2, e3, e4, e5, e6, hs⟩ := h i hi2
    obtain ⟨o3, o4, o5, o6⟩ := olderA_at (A := A) (j := i)
    rw [e3, e6, nI_add] at o3
    rw [e4] at o5
    rw [e5] at o6
    unfold vineS
    split
    · exact ⟨b + a2, 0, a0, a1, o3, o4, o5, o6, by omega⟩
    · split
      · exact ⟨b + a2, 0, a0, a1, o3, o4, o5, o6, by omega⟩
      · have m1 : (b + a2) * pl ≤ 5000 * 100 := Nat.mul_le_mul (by omega) hp
        have e : plantV (olderA A i) i (nI pl) = nI (min (5000 - (b + a2) - a0 - a1) ((b + a2) * pl / 100)) := by
          unfold plantV
          rw [o3, o5, o6, pk_mul, show (5000 : Int32) = nI 5000 from rfl, nI_sub (by omega) (by omega), nI_sub (by omega) (by omega), nI_sub (by omega) (by omega), show (100 : Int32) = nI 100 from rfl, pk_div (by omega) (by omega) (by omega), imn_N (by omega) (by omega)]
          exact imx0 (by omega)
        rw [e]
        refine ⟨b + a2, min (5000 - (b + a2) - a0 - a1) ((b + a2) * pl / 100), a0, a1, ?_, ?_, ?_, ?_, by omega⟩
        · rw [mI_sI, up2_oth (by omega)]; exact o3
        · rw [mI_sI, up2_at]
        · rw [mI_sI, up2_oth (by omega)]; exact o5
        · rw [mI_sI, up2_oth (by omega)]; exact o6
  · obtain ⟨b, a0, a1, a2, hh⟩ := h i hi2
    refine ⟨b, a0, a1, a2, ?_⟩
    rw [vineS_ne hij, vineS_ne hij, vineS_ne hij, vineS_ne hij]
    exact hh
theorem vineA_be {n pl : Nat} {A : Mm} {hi : Int32} (h : BeOK n A) (hp : pl ≤ 100) : ∀ k, k ≤ n → BeOK n (vineA A hi (nI pl) k)
  | 0, _ => h
  | k + 1, hk => vineS_be (vineA_be h hp k (by omega)) (by omega) hp
