/-! ===== paste: the two sides together ===== -/
theorem sim_paste (g : Gc) {lv : Nat} {m : Mm} (hS : Sg g m) (hR : RowsOK g m) (x i y k n : Int32) : SimI g M_SL_paste M_RF_paste (lv + 3) [.int x, .int i, .int y, .int k, .int n] m (fun m2 => RowsOK g m2 ∧ Only g WR [0] m m2) := by
  have ok0 : RowsOK g (sI m (gz g + 145) 0 0) := rows_M0 hR 0 0
  have on0 : Only g WR [0] m (sI m (gz g + 145) 0 0) := Only_sM m (by decide) 0
  unfold SimI
  refine en_SL_paste g (c_isWithin g ?_)
  by_cases h1 : wi x 0 3 = 0
  · rw [if_pos h1]
    refine en_RF_paste g ⟨hS.k 145 rfl, fun m2 e2 => ?_⟩
    subst e2
    refine c_isSlot g ?_
    rw [if_pos h1]
    exact ⟨rfl, ok0, on0⟩
  rw [if_neg h1]
  refine c_isWithin g ?_
  by_cases h2 : wi y 0 3 = 0
  · rw [if_pos h2]
    refine en_RF_paste g ⟨hS.k 145 rfl, fun m2 e2 => ?_⟩
    subst e2
    refine c_isSlot g ?_
    rw [if_neg h1]
    refine c_isSlot g ?_
    rw [if_pos h2]
    exact ⟨rfl, ok0, on0⟩
  rw [if_neg h2]
  obtain ⟨s, hs, rfl⟩ := slot_of h1
  obtain ⟨t, ht, rfl⟩ := slot_of h2
  -- the reference behind its two looks at the slots
  have ref : ∀ (m1 : Mm) (Q : Int32 → Mm → Prop), Sg g m1 →
      (mI m1 (gz g + 146) s < 0 → Q (-5) (sI m1 (gz g + 145) 0 0)) →
      (¬ mI m1 (gz g + 146) s < 0 → ¬ 0 ≤ mI m1 (gz g + 146) t → Q (-5) (sI m1 (gz g + 145) 0 0)) →
      (¬ mI m1 (gz g + 146) s < 0 → 0 ≤ mI m1 (gz g + 146) t → ¬ mI m1 (gz g + 146) s = mI m1 (gz g + 146) t → Q (-7) (sI m1 (gz g + 145) 0 0)) →
      (∀ a b : Nat, ¬ mI m1 (gz g + 146) s < 0 → 0 ≤ mI m1 (gz g + 146) t → mI m1 (gz g + 146) s = mI m1 (gz g + 146) t → mI m1 (gz g + 147) s = nI a → mI m1 (gz g + 147) t = nI b → a ≤ 60 → b ≤ 60 → (¬ (inRow i n a ∧ inRow k n b) → Q (-6) (sI m1 (gz g + 145) 0 0)) ∧ (∀ I K N : Nat, i = nI I → k = nI K → n = nI N → I + N ≤ a → K + N ≤ b → ∀ fm f2 : Nat → Int64, (∀ j, j < N → fm j = mL m1 (gz g + 148) (60 * s + I + j)) → (∀ j, j < N → f2 (60 * t + K + j) = fm j) → (∀ j, ¬ (60 * t + K ≤ j ∧ j < 60 * t + K + N) → f2 j = mL m1 (gz g + 148) j) → Q 0 (rL (rL (sI m1 (gz g + 145) 0 0) (gz g + 149) fm) (gz g + 148) f2))) →
      (mI m1 (gz g + 146) s < 0 ∨ mI m1 (gz g + 146) t < 0 ∨ ∃ a b : Nat, a ≤ 60 ∧ b ≤ 60 ∧ mI m1 (gz g + 147) s = nI a ∧ mI m1 (gz g + 147) t = nI b) →
      CI g M_RF_paste (lv + 3) (va_rf (some (gz g + 145)) :: [.int (nI s), .int i, .int (nI t), .int k, .int n]) m1 Q := by
    intro m1 Q hS1 q1 q2 q3 q4 q5
    refine en_RF_paste g ⟨hS1.k 145 rfl, fun m2 e2 => ?_⟩
    subst e2
    refine c_isSlot g ?_
    rw [if_neg h1]
    refine c_isSlot g ?_
    rw [if_neg h2]
    have n146 : mN (sI m1 (gz g + 145) 0 0) (gz g + 146) = 4 := hS1.n 146 rfl
    have n147 : mN (sI m1 (gz g + 145) 0 0) (gz g + 147) = 4 := hS1.n 147 rfl
    refine ⟨gz g + 146, hS1.r 145 1 rfl, hS1.k 146 rfl, by rw [n146]; exact vp_in_nI hs (by omega), ?_⟩
    rw [nI_clamp (show s < 2 ^ 31 by omega), nI_clamp (show t < 2 ^ 31 by omega), n146, mI_sI, up2_oth (by omega), up2_oth (by omega)]
    by_cases c1 : mI m1 (gz g + 146) s < 0
    · rw [if_pos c1]; exact q1 c1
    rw [if_neg c1]
    refine ⟨vp_in_nI ht (by omega), ?_⟩
    by_cases c2 : 0 ≤ mI m1 (gz g + 146) t
    · rw [if_pos c2]
      refine ⟨vp_in_nI hs (by omega), vp_in_nI ht (by omega), ?_⟩
      by_cases c3 : mI m1 (gz g + 146) s = mI m1 (gz g + 146) t
      · rw [if_pos c3]
        obtain ⟨a, b, ha, hb, ea, eb⟩ : ∃ a b : Nat, a ≤ 60 ∧ b ≤ 60 ∧ mI m1 (gz g + 147) s = nI a ∧ mI m1 (gz g + 147) t = nI b := by
          rcases q5 with h | h | h
          · exact absurd h c1
          · rw [i32_lt] at h; rw [i32_le] at c2; omega
          · exact h
        obtain ⟨qb, qg⟩ := q4 a b c1 c2 c3 ea eb ha hb
        by_cases d1 : i < 0
        · rw [if_pos d1]; exact qb (fun h => h.1.1 d1)
        rw [if_neg d1]
        by_cases d2 : k < 0
        · rw [if_pos d2]; exact qb (fun h => h.2.1 d2)
        rw [if_neg d2]
        by_cases d3 : n < 0
        · rw [if_pos d3]; exact qb (fun h => h.1.2.1 d3)
        rw [if_neg d3]
        refine ⟨gz g + 147, hS1.r 145 2 rfl, hS1.k 147 rfl, by rw [n147]; exact vp_in_nI hs (by omega), ?_⟩
        rw [n147, up2_oth (by omega), up2_oth (by omega), ea, eb]
        by_cases d4 : (nI a).toInt64 < i.toInt64 + n.toInt64
        · rw [if_pos d4]
          rw [over_iff (by omega)] at d4
          exact qb (fun h => absurd h.1.2.2 (by omega))
        rw [if_neg d4]
        refine ⟨vp_in_nI ht (by omega), ?_⟩
        by_cases d5 : k.toInt64 + n.toInt64 ≤ (nI b).toInt64
        · rw [if_pos d5]
          rw [over_iff (by omega)] at d4
          rw [over_iff' (by omega)] at d5
          obtain ⟨I, N, rfl, rfl, hIN, hI, hN⟩ := inRow_nat (x := i) (y := n) (n := a) ⟨d1, d3, by omega⟩
          obtain ⟨K, N2, rfl, eN, hKN, hK, hN2⟩ := inRow_nat (x := k) (y := nI N) (n := b) ⟨d2, d3, by omega⟩
          have hNN : N2 = N := ((nI_eq hN hN2).mp eN).symm
          subst hNN
          have loop := l_paste1 (lv := lv + 2) g (m := sI m1 (gz g + 145) 0 0) hS1 hs (s := s) (i := I) (to := t) (k := K) (n := N2) (by omega) (Q := Q) N2 0 (mL (sI m1 (gz g + 145) 0 0) (gz g + 149)) (by omega) (fun fm g1 _ => by
            have loop2 := l_paste2 (lv := lv + 2) g (m := rL (sI m1 (gz g + 145) 0 0) (gz g + 149) fm) hS1 ht (k := K) (n := N2) (by omega) (fm := fm) (mL_rL _ _ _) (Q := Q) N2 0 (mL (rL (sI m1 (gz g + 145) 0 0) (gz g + 149) fm) (gz g + 148)) (by omega) (fun f2 g3 g4 => qg I K N2 rfl rfl rfl hIN hKN fm f2 (fun j hj => g1 j (by omega) hj) (fun j hj => g3 j (by omega) hj) (fun j hj => by rw [g4 j (by omega), mL_rL_ne (by omega)]; rfl))
            rw [rL_self] at loop2
            exact loop2)
          rw [rL_self] at loop
          exact loop
        · rw [if_neg d5]
          rw [over_iff' (by omega)] at d5
          exact qb (fun h => absurd h.2.2.2 (by omega))
      · rw [if_neg c3]; exact q3 c1 c2 c3
    · rw [if_neg c2]; exact q2 c1 c2
  refine ⟨hS.k 0 rfl, gz g + 140, hS.r 0 6 rfl, hS.k 140 rfl, ?_⟩
  refine c_hasRow_in g hS hs (fun hl => ?_) (fun hl => ?_)
  · rw [if_pos rfl]
    have hw : mI m (gz g + 146) s = -1 := by
      rcases hR s hs with ⟨-, b⟩ | ⟨a, w, a1, a2, a3, -⟩
      · exact b
      · exact absurd (a3.symm.trans hl) (nI_ne_m1 (by omega))
    have hn : mI m (gz g + 146) s < 0 := by rw [hw]; decide
    exact ref m _ hS (fun _ => ⟨rfl, ok0, on0⟩) (fun h => absurd hn h) (fun h => absurd hn h) (fun a b h => absurd hn h) (Or.inl hn)
  rw [if_neg (by decide)]
  rcases hR s hs with ⟨a, -⟩ | ⟨A, w, a1, a2, a3, a4, a5, a6, a7⟩
  · exact absurd a hl
  refine c_hasRow_in g hS ht (fun hl2 => ?_) (fun hl2 => ?_)
  · rw [if_pos rfl]
    have hw : mI m (gz g + 146) t = -1 := by
      rcases hR t ht with ⟨-, b⟩ | ⟨a, w, b1, b2, b3, -⟩
      · exact b
      · exact absurd (b3.symm.trans hl2) (nI_ne_m1 (by omega))
    have hn : mI m (gz g + 146) t < 0 := by rw [hw]; decide
    have hp : ¬ mI m (gz g + 146) s < 0 := by rw [a6]; exact nI_pos (by omega)
    have hq : ¬ 0 ≤ mI m (gz g + 146) t := by rw [hw]; decide
    exact ref m _ hS (fun h => absurd h hp) (fun _ _ => ⟨rfl, ok0, on0⟩) (fun _ h => absurd h hq) (fun a b _ h => absurd h hq) (Or.inr (Or.inl hn))
  rw [if_neg (by decide)]
  rcases hR t ht with ⟨b, -⟩ | ⟨B, w2, b1, b2, b3, b4, b5, b6, b7⟩
  · exact absurd b hl2
  have hp : ¬ mI m (gz g + 146) s < 0 := by rw [a6]; exact nI_pos (by omega)
  have hq : 0 ≤ mI m (gz g + 146) t := by rw [b6]; exact nI_pos' (by omega)
  have n142 : mN m (gz g + 142) = 4 := hS.n 142 rfl
  refine ⟨gz g + 142, hS.r 140 1 rfl, hS.k 142 rfl, by rw [n142]; exact vp_in_nI hs (by omega), by rw [n142]; exact vp_in_nI ht (by omega), ?_⟩
  rw [nI_clamp (show s < 2 ^ 31 by omega), nI_clamp (show t < 2 ^ 31 by omega), a5, b5]
  by_cases hww : nI w = nI w2
  · rw [if_pos hww]
    have heq : mI m (gz g + 146) s = mI m (gz g + 146) t := by rw [a6, b6]; exact hww
    have nat_a : ∀ {a : Nat}, mI m (gz g + 147) s = nI a → a ≤ 60 → a = A := fun {a} h h60 => ((nI_eq (by omega) (by omega)).mp (h.symm.trans a4))
    have nat_b : ∀ {b : Nat}, mI m (gz g + 147) t = nI b → b ≤ 60 → b = B := fun {b} h h60 => ((nI_eq (by omega) (by omega)).mp (h.symm.trans b4))
    have bad : ¬ (inRow i n A ∧ inRow k n B) → CI g M_RF_paste (lv + 3) (va_rf (some (gz g + 145)) :: [.int (nI s), .int i, .int (nI t), .int k, .int n]) m (fun r2 m2 => (-6 : Int32) = r2 ∧ RowsOK g m2 ∧ Only g WR [0] m m2) := fun hb =>
      ref m _ hS (fun h => absurd h hp) (fun _ h => absurd hq h) (fun _ _ h => absurd heq h) (fun a b _ _ _ ea eb ha hb2 => by
        have := nat_a ea ha
        have := nat_b eb hb2
        subst a; subst b
        refine ⟨fun _ => ⟨rfl, ok0, on0⟩, fun I K N e1 e2 e3 h1 h2 => absurd ?_ hb⟩
        subst e1; subst e2; subst e3
        refine ⟨⟨nI_pos (by omega), nI_pos (by omega), ?_⟩, nI_pos (by omega), nI_pos (by omega), ?_⟩
        · rw [nI_toInt (by omega), nI_toInt (by omega)]; omega
        · rw [nI_toInt (by omega), nI_toInt (by omega)]; omega) (Or.inr (Or.inr ⟨A, B, a1, b1, a4, b4⟩))
    refine c_holds g hS hs a1 a3 (fun hin => ?_) (fun hin => ?_)
    · rw [if_neg (by decide)]
      refine c_holds g hS ht b1 b3 (fun hin2 => ?_) (fun hin2 => ?_)
      · rw [if_neg (by decide)]
        obtain ⟨I, N, rfl, rfl, hIN, hI, hN⟩ := inRow_nat hin
        obtain ⟨K, N2, rfl, eN, hKN, hK, hN2⟩ := inRow_nat hin2
        have hNN : N2 = N := ((nI_eq hN hN2).mp eN).symm
        subst hNN
        refine en_Rows_carry g ⟨hS.k 140 rfl, gz g + 141, hS.r 140 0 rfl, hS.k 141 rfl, ?_⟩
        rw [idx60, idx60, nI_clamp (show 60 * s + I < 2 ^ 31 by omega), nI_clamp (show 60 * t + K < 2 ^ 31 by omega), nI_clamp hN2, hS.n 141 (n := 240) rfl]
        refine ⟨nI_pos (by omega), nI_pos (by omega), nI_pos (by omega), by omega, by omega, fun m10 e10 => ?_⟩
        refine ref m10 _ (by rw [e10]; exact hS) (fun h => absurd h (by rw [e10]; exact hp)) (fun _ h => absurd (show 0 ≤ mI m10 (gz g + 146) t by rw [e10]; exact hq) h) (fun _ _ h => absurd (show mI m10 (gz g + 146) s = mI m10 (gz g + 146) t by rw [e10]; exact heq) h) (fun a b _ _ _ ea eb ha hb2 => ?_) (Or.inr (Or.inr ⟨A, B, a1, b1, by rw [e10]; exact a4, by rw [e10]; exact b4⟩))
        subst e10
        have := nat_a (a := a) ea ha
        have := nat_b (b := b) eb hb2
        subst a; subst b
        refine ⟨fun hb => absurd ⟨hin, hin2⟩ hb, fun I2 K2 N3 e1 e2 e3 _ _ fm f2 g1 g2 g3 => ⟨rfl, ?_, ?_⟩⟩
        · have hI2 : I2 = I := by
            have : I2 < 2 ^ 31 := by omega
            exact ((nI_eq hI this).mp e1).symm
          have hK2 : K2 = K := ((nI_eq hK (by omega)).mp e2).symm
          have hN3 : N3 = N2 := ((nI_eq hN2 (by omega)).mp e3).symm
          subst hI2; subst hK2; subst hN3
          intro s' hs'
          have cell : ∀ j, j < 60 → mL (rL (rL (sI (rL m (gz g + 141) (va_cpy (mL m (gz g + 141)) (mL m (gz g + 141)) (60 * s + I2) (60 * t + K2) N3)) (gz g + 145) 0 0) (gz g + 149) fm) (gz g + 148) f2) (gz g + 141) (60 * s' + j) = va_cpy (mL m (gz g + 141)) (mL m (gz g + 141)) (60 * s + I2) (60 * t + K2) N3 (60 * s' + j) := fun j hj => by
            rw [mL_rL_ne (by omega), mL_rL_ne (by omega), mL_sI, mL_rL]
          have hI : ∀ a, a ≠ gz g + 145 → mI (rL (rL (sI (rL m (gz g + 141) (va_cpy (mL m (gz g + 141)) (mL m (gz g + 141)) (60 * s + I2) (60 * t + K2) N3)) (gz g + 145) 0 0) (gz g + 149) fm) (gz g + 148) f2) a s' = mI m a s' := fun a ha => up2_oth ha
          by_cases hst : s' = t
          · subst hst
            refine Or.inr ⟨B, w2, b1, b2, (hI _ (by omega)).trans b3, (hI _ (by omega)).trans b4, (hI _ (by omega)).trans b5, (hI _ (by omega)).trans b6, fun j hj => ?_⟩
            rw [cell j (by omega), mL_rL]
            by_cases hj2 : K2 ≤ j ∧ j < K2 + N3
            · rw [pk_cpy_in (by omega) (by omega), show 60 * s' + j = 60 * s' + K2 + (j - K2) by omega, g2 (j - K2) (by omega), g1 (j - K2) (by omega), mL_rL_ne (by omega)]
              rw [show 60 * s + I2 + (60 * s' + K2 + (j - K2) - (60 * s' + K2)) = 60 * s + (I2 + (j - K2)) by omega, show 60 * s + I2 + (j - K2) = 60 * s + (I2 + (j - K2)) by omega]
              exact a7 _ (by omega)
            · rw [pk_cpy_out (by omega), g3 _ (by omega), mL_rL_ne (by omega)]
              exact b7 j hj
          · refine (hR s' hs').same (hI _ (by omega)) (hI _ (by omega)) (hI _ (by omega)) (hI _ (by omega)) (fun j hj => ?_) (fun j hj => ?_)
            · rw [cell j hj, pk_cpy_out (by omega)]
            · rw [mL_rL, g3 _ (by omega), mL_rL_ne (by omega)]
        · refine Only.trans ?_ (Only_rL _ (w := 148) (by decide) (by decide) _)
          refine Only.trans ?_ (Only_rL _ (w := 149) (by decide) (by decide) _)
          refine Only.trans ?_ (Only_sM _ (by decide) _)
          exact Only_rL _ (w := 141) (by decide) (by decide) _
      · rw [if_pos rfl]
        exact bad (fun h => hin2 h.2)
    · rw [if_pos rfl]
      exact bad (fun h => hin h.1)
  · rw [if_neg hww]
    have hne : ¬ mI m (gz g + 146) s = mI m (gz g + 146) t := by rw [a6, b6]; exact hww
    exact ref m _ hS (fun h => absurd h hp) (fun _ h => absurd hq h) (fun _ _ _ => ⟨rfl, ok0, on0⟩) (fun a b _ _ h => absurd h hne) (Or.inr (Or.inr ⟨A, B, a1, b1, a4, b4⟩))
