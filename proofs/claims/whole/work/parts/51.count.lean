/-! ===== count ===== -/
def cntR (g : Gc) (m : Mm) : Nat → Int32
  | 0 => 0
  | k + 1 => if mI m (gz g + 143) k = -1 then cntR g m k else cntR g m k + 1
theorem l_filled (g : Gc) {lv : Nat} {m : Mm} (hS : Sg g m) {Q : Int32 → Mm → Prop} (hQ : Q (cntR g m 4) m) : ∀ (d k : Nat), k + d = 4 → At g M_Rows_filledSlots (lv + 1) 4 [(0, va_rf (some (gz g + 140))), (1, .int (cntR g m k)), (2, .int (nI k))] [] m (QI Q) := by
  intro d
  induction d with
  | zero =>
    intro k hk
    obtain rfl : k = 4 := by omega
    refine bk_Rows_filledSlots_4 g ?_
    rw [if_pos (show (4 : Int32) ≤ nI 4 from nI_le (a := 4) (b := 4) (by omega) (by omega))]
    exact hQ
  | succ d ih =>
    intro k hk
    refine bk_Rows_filledSlots_4 g ?_
    rw [if_neg (show ¬ (4 : Int32) ≤ nI k from nI_ge (a := k) (b := 4) (by omega) (by omega)), nI_clamp (by omega), nI_s]
    refine ⟨hS.k 140 rfl, gz g + 143, hS.r 140 2 rfl, hS.k 143 rfl, by rw [hS.n 143 rfl]; exact vp_in_nI (N := 4) (by omega) (by omega), ?_⟩
    have := ih (k + 1) (by omega)
    unfold cntR at this
    by_cases hz : mI m (gz g + 143) k = -1
    · rw [if_pos hz] at this ⊢; exact this
    · rw [if_neg hz] at this ⊢; exact this
theorem l_countR (g : Gc) {lv : Nat} {m : Mm} (hS : Sg g m) (hR : RowsOK g m) {Q : Int32 → Mm → Prop} (hQ : Q (cntR g m 4) m) : ∀ (d k : Nat), k + d = 4 → At g M_RF_count (lv + 1) 150 [(0, va_rf (some (gz g + 145))), (2, .int (cntR g m k)), (3, .int (nI k))] [] m (QI Q) := by
  intro d
  induction d with
  | zero =>
    intro k hk
    obtain rfl : k = 4 := by omega
    refine bk_RF_count_150 g ?_
    rw [if_pos (show (4 : Int32) ≤ nI 4 from nI_le (a := 4) (b := 4) (by omega) (by omega))]
    exact hQ
  | succ d ih =>
    intro k hk
    refine bk_RF_count_150 g ?_
    rw [if_neg (show ¬ (4 : Int32) ≤ nI k from nI_ge (a := k) (b := 4) (by omega) (by omega)), nI_clamp (by omega), nI_s]
    refine ⟨hS.k 145 rfl, gz g + 146, hS.r 145 1 rfl, hS.k 146 rfl, by rw [hS.n 146 rfl]; exact vp_in_nI (N := 4) (by omega) (by omega), ?_⟩
    have := ih (k + 1) (by omega)
    unfold cntR at this
    rcases hR k (by omega) with ⟨a, b⟩ | ⟨n, w, a1, a2, a3, a4, a5, a6, -⟩
    · rw [if_pos a] at this
      rw [b, if_pos (by decide), Int32.add_zero]
      exact this
    · rw [if_neg (by rw [a3]; exact nI_ne_m1 (by omega))] at this
      rw [a6, if_neg (nI_pos (by omega))]
      exact this
theorem cntR_same {g : Gc} {m m' : Mm} (h : mI m' (gz g + 143) = mI m (gz g + 143)) : ∀ k, cntR g m' k = cntR g m k
  | 0 => rfl
  | k + 1 => by unfold cntR; rw [h, cntR_same h k]
theorem sim_count (g : Gc) {lv : Nat} {m A : Mm} {pa : Nat → Nat} {n y r : Nat} (hS : Sg g m) (hF : Fr g m) (hW : RowsOK g m) (hT : TapeOK g m) (hC : LC g pa y r A m) (hR : LR g y r A m) (hn : mI A 0 0 = nI n) (h12 : n ≤ 12) (hr : mI A 0 3 = nI r) (h4 : r ≤ 400) (hy : mI A 0 1 = nI y) (h30 : y ≤ 30) (hf : ∀ i, i < r → ¬ (30 : Int32) ≤ mI A 11 i) (hpt : mI A 0 5 = if y = 0 then 0 else mI A 20 (y - 1)) (x : Int32) : SimI g M_SL_count M_RF_count (lv + 4) [.int x] m (fun m2 => Only g [] [0] m m2) := by
  have z0 : (0 : Int32).toNatClampNeg = 0 := rfl
  have on0 : Only g [] [0] m (sI m (gz g + 145) 0 0) := Only_sM m (by decide) 0
  have S0 : Sg g (sI m (gz g + 145) 0 0) := hS
  have R0 : LR g y r A (sI m (gz g + 145) 0 0) := hR.t0 hF (by omega) 0
  have Q0 := R0.1.q
  have v2 : ∀ e, shN e = 2 → e < 184 → vp_in (0 : Int32) (mN (sI m (gz g + 145) 0 0) (gz g + e)) := fun e he h => by rw [S0.n e he h]; exact vp_in_nI (n := 0) (N := 2) (by omega) (by omega)
  unfold SimI
  refine en_SL_count g ?_
  -- the reference
  have ref : ∀ (m1 : Mm) (v : Int32), m1 = m → (∀ Q : Int32 → Mm → Prop, Q v (sI m (gz g + 145) 0 0) → CI g M_RF_count (lv + 4) [va_rf (some (gz g + 145)), .int x] m Q) → CI g M_RF_count (lv + 4) (va_rf (some (gz g + 145)) :: [.int x]) m1 (fun r2 m2 => v = r2 ∧ Only g [] [0] m m2) := fun m1 v e h => by
    subst e
    exact h _ ⟨rfl, on0⟩
  by_cases q0 : x = 0
  · rw [if_pos q0]
    refine ⟨hS.k 0 rfl, gz g + 2, hS.r 0 1 rfl, hS.k 2 rfl, ref m _ rfl (fun Q hQ => en_RF_count g ⟨hS.k 145 rfl, fun m2 e2 => ?_⟩)⟩
    subst e2
    rw [if_pos q0]
    exact ⟨gz g + 166, S0.r 145 31 rfl, S0.k 166 rfl, v2 166 rfl (by omega), by rw [z0, R0.yr, ← hC.yr]; exact hQ⟩
  rw [if_neg q0]
  by_cases q1 : x = 1
  · rw [if_pos q1]
    refine ⟨hS.k 0 rfl, gz g + 2, hS.r 0 1 rfl, hS.k 2 rfl, ref m _ rfl (fun Q hQ => en_RF_count g ⟨hS.k 145 rfl, fun m2 e2 => ?_⟩)⟩
    subst e2
    rw [if_neg q0, if_pos q1, R0.n, ← hC.n]
    exact hQ
  rw [if_neg q1]
  by_cases q2 : x = 2
  · rw [if_pos q2]
    refine ⟨hS.k 0 rfl, gz g + 2, hS.r 0 1 rfl, hS.k 2 rfl, gz g + 5, hS.r 2 3 rfl, hS.k 5 rfl, ref m _ rfl (fun Q hQ => en_RF_count g ⟨hS.k 145 rfl, fun m2 e2 => ?_⟩)⟩
    subst e2
    rw [if_neg q0, if_neg q1, if_pos q2]
    exact ⟨gz g + 168, S0.r 145 33 rfl, S0.k 168 rfl, v2 168 rfl (by omega), by rw [z0, R0.rn, ← hC.rn]; exact hQ⟩
  rw [if_neg q2]
  by_cases q3 : x = 3
  · rw [if_pos q3]
    refine ⟨hS.k 0 rfl, gz g + 2, hS.r 0 1 rfl, hS.k 2 rfl, ref m _ rfl (fun Q hQ => en_RF_count g ⟨hS.k 145 rfl, fun m2 e2 => ?_⟩)⟩
    subst e2
    rw [if_neg q0, if_neg q1, if_neg q2, if_pos q3]
    exact ⟨gz g + 167, S0.r 145 32 rfl, S0.k 167 rfl, v2 167 rfl (by omega), by rw [z0, R0.pr, ← hC.pr]; exact hQ⟩
  rw [if_neg q3]
  by_cases q4 : x = 4
  · rw [if_pos q4]
    refine ⟨hS.k 0 rfl, gz g + 2, hS.r 0 1 rfl, hS.k 2 rfl, gz g + 5, hS.r 2 3 rfl, hS.k 5 rfl, c_sacA g hS (Or.inl rfl) hC.1 hC.2.2.1 (Nat.le_refl _) h4 hr (ref m _ rfl (fun Q hQ => en_RF_count g ⟨hS.k 145 rfl, fun m2 e2 => ?_⟩))⟩
    subst e2
    rw [if_neg q0, if_neg q1, if_neg q2, if_neg q3, if_pos q4]
    rw [sacB_T A r hf] at hQ
    exact c_storeR g (l := 0) rfl (by omega) S0 Q0 h4 hr hQ
  rw [if_neg q4]
  by_cases q5 : x = 5
  · rw [if_pos q5]
    refine ⟨hS.k 0 rfl, gz g + 2, hS.r 0 1 rfl, hS.k 2 rfl, c_freeL g hS (Or.inl rfl) hC.1 hn h12 (by omega) (ref m _ rfl (fun Q hQ => en_RF_count g ⟨hS.k 145 rfl, fun m2 e2 => ?_⟩))⟩
    subst e2
    rw [if_neg q0, if_neg q1, if_neg q2, if_neg q3, if_neg q4, if_pos q5]
    rw [sumL_T A 7 n] at hQ
    exact c_freesR g (l := 0) rfl (by omega) S0 Q0 hn h12 (by omega) hQ
  rw [if_neg q5]
  by_cases q6 : x = 6
  · rw [if_pos q6]
    refine ⟨hS.k 0 rfl, gz g + 2, hS.r 0 1 rfl, hS.k 2 rfl, ref m _ rfl (fun Q hQ => en_RF_count g ⟨hS.k 145 rfl, fun m2 e2 => ?_⟩)⟩
    subst e2
    rw [if_neg q0, if_neg q1, if_neg q2, if_neg q3, if_neg q4, if_neg q5, if_pos q6]
    exact ⟨gz g + 169, S0.r 145 34 rfl, S0.k 169 rfl, v2 169 rfl (by omega), by rw [z0, Q0.sc.2.2.2, ← show mI m (gz g + 2) 11 = mI A 0 4 from hC.1.1 0 4 (by show 4 < 7; omega)]; exact hQ⟩
  rw [if_neg q6]
  by_cases q7 : x = 7
  · rw [if_pos q7]
    refine ⟨hS.k 0 rfl, gz g + 2, hS.r 0 1 rfl, hS.k 2 rfl, ref m _ rfl (fun Q hQ => en_RF_count g ⟨hS.k 145 rfl, fun m2 e2 => ?_⟩)⟩
    subst e2
    rw [show mI m (gz g + 2) 12 = mI A 0 5 from hC.1.1 0 5 (by show 5 < 7; omega), hpt] at hQ
    rw [if_neg q0, if_neg q1, if_neg q2, if_neg q3, if_neg q4, if_neg q5, if_neg q6, if_pos q7]
    refine ⟨gz g + 166, S0.r 145 31 rfl, S0.k 166 rfl, v2 166 rfl (by omega), ?_⟩
    rw [z0, R0.yr, hy]
    obtain ⟨y1, y2, y3⟩ := yr_30 y h30
    by_cases hz : y = 0
    · rw [if_pos hz] at hQ
      rw [if_pos (y2.2 hz)]
      exact hQ
    · rw [if_neg hz] at hQ
      rw [if_neg (fun h => hz (y2.1 h)), (y3 hz).2, nI_clamp (by omega)]
      refine ⟨gz g + 161, S0.r 145 26 rfl, v2 166 rfl (by omega), S0.k 161 rfl, by rw [S0.n 161 rfl]; exact vp_in_nI (N := 30) (by omega) (by omega), ?_⟩
      rw [show mI (sI m (gz g + 145) 0 0) (gz g + 161) (y - 1) = mI A 20 (y - 1) from R0.1.1 20 (y - 1) ⟨by show y - 1 < y; omega, by omega, by omega⟩]
      exact hQ
  rw [if_neg q7]
  by_cases q8 : x = 8
  · rw [if_pos q8]
    refine ⟨hS.k 0 rfl, gz g + 128, hS.r 0 3 rfl, hS.k 128 rfl, ref m _ rfl (fun Q hQ => en_RF_count g ⟨hS.k 145 rfl, fun m2 e2 => ?_⟩)⟩
    subst e2
    obtain ⟨-, L, -, t1, t2, -⟩ := hT
    rw [if_neg q0, if_neg q1, if_neg q2, if_neg q3, if_neg q4, if_neg q5, if_neg q6, if_neg q7, if_pos q8, mI_sI, up2_sl (by omega), t2, ← t1]
    exact hQ
  rw [if_neg q8]
  by_cases q9 : x = 9
  · rw [if_pos q9]
    refine ⟨hS.k 0 rfl, gz g + 2, hS.r 0 1 rfl, hS.k 2 rfl, ref m _ rfl (fun Q hQ => en_RF_count g ⟨hS.k 145 rfl, fun m2 e2 => ?_⟩)⟩
    subst e2
    rw [if_neg q0, if_neg q1, if_neg q2, if_neg q3, if_neg q4, if_neg q5, if_neg q6, if_neg q7, if_neg q8, if_pos q9, show mI (sI m (gz g + 145) 0 0) (gz g + 145) 47 = mI A 0 6 from R0.1.1 0 6 ⟨by show 6 < 7; omega, by omega, by omega⟩, ← show mI m (gz g + 2) 13 = mI A 0 6 from hC.1.1 0 6 (by show 6 < 7; omega)]
    exact hQ
  rw [if_neg q9]
  by_cases q10 : x = 10
  · rw [if_pos q10]
    refine ⟨hS.k 0 rfl, gz g + 140, hS.r 0 6 rfl, hS.k 140 rfl, en_Rows_filledSlots g (l_filled g hS (ref m _ rfl (fun Q hQ => en_RF_count g ⟨hS.k 145 rfl, fun m2 e2 => ?_⟩)) 4 0 (by omega))⟩
    subst e2
    rw [if_neg q0, if_neg q1, if_neg q2, if_neg q3, if_neg q4, if_neg q5, if_neg q6, if_neg q7, if_neg q8, if_neg q9, if_pos q10]
    refine l_countR g S0 (rows_M0 hW 0 0) ?_ 4 0 (by omega)
    rw [cntR_same (g := g) (m := m) (m' := sI m (gz g + 145) 0 0) (by rw [mI_sI]; exact up2_ne (by omega))]
    exact hQ
  rw [if_neg q10]
  refine ref m _ rfl (fun Q hQ => en_RF_count g ⟨hS.k 145 rfl, fun m2 e2 => ?_⟩)
  subst e2
  rw [if_neg q0, if_neg q1, if_neg q2, if_neg q3, if_neg q4, if_neg q5, if_neg q6, if_neg q7, if_neg q8, if_neg q9, if_neg q10]
  exact hQ
