/-! ===== paste ===== -/
theorem rng32 (x : Int32) : -2147483648 ≤ x.toInt ∧ x.toInt < 2147483648 := ⟨Int32.le_toInt x, Int32.toInt_lt x⟩
theorem bmod64 {z : Int} (h1 : -9223372036854775808 ≤ z) (h2 : z < 9223372036854775808) : z.bmod (2 ^ 64) = z := Int.bmod_eq_of_le (by omega) (by omega)
theorem add64 (x y : Int32) : (x.toInt64 + y.toInt64).toInt = x.toInt + y.toInt := by
  have h1 := rng32 x
  have h2 := rng32 y
  rw [Int64.toInt_add, Int32.toInt_toInt64, Int32.toInt_toInt64]
  exact bmod64 (by omega) (by omega)
theorem over_iff {x y : Int32} {n : Nat} (hn : n < 2 ^ 31) : (nI n).toInt64 < x.toInt64 + y.toInt64 ↔ (n : Int) < x.toInt + y.toInt := by
  rw [i64_lt, add64, Int32.toInt_toInt64, nI_toInt hn]
theorem over_iff' {x y : Int32} {n : Nat} (hn : n < 2 ^ 31) : x.toInt64 + y.toInt64 ≤ (nI n).toInt64 ↔ x.toInt + y.toInt ≤ (n : Int) := by
  rw [i64_le, add64, Int32.toInt_toInt64, nI_toInt hn]
/-- a stretch lies within a row of n -/
def inRow (x y : Int32) (n : Nat) : Prop := ¬ x < 0 ∧ ¬ y < 0 ∧ x.toInt + y.toInt ≤ (n : Int)
theorem inRow_nat {x y : Int32} {n : Nat} (h : inRow x y n) : ∃ i k : Nat, x = nI i ∧ y = nI k ∧ i + k ≤ n ∧ i < 2 ^ 31 ∧ k < 2 ^ 31 := by
  obtain ⟨h1, h2, h3⟩ := h
  obtain ⟨i, hi, rfl⟩ := nI_of h1
  obtain ⟨k, hk, rfl⟩ := nI_of h2
  rw [nI_toInt hi, nI_toInt hk] at h3
  exact ⟨i, k, rfl, rfl, by omega, hi, hk⟩
theorem c_holds (g : Gc) {lv : Nat} {m : Mm} (hS : Sg g m) {s n : Nat} (hs : s < 4) (hn : n ≤ 60) (hl : mI m (gz g + 143) s = nI n) {x y : Int32} {Q : Int32 → Mm → Prop} (h1 : inRow x y n → Q 1 m) (h0 : ¬ inRow x y n → Q 0 m) : CI g M_Rows_holds (lv + 1) [va_rf (some (gz g + 140)), .int (nI s), .int x, .int y] m Q := by
  refine en_Rows_holds g ?_
  by_cases a1 : x < 0
  · rw [if_pos a1]; exact h0 (fun h => h.1 a1)
  rw [if_neg a1]
  by_cases a2 : y < 0
  · rw [if_pos a2]; exact h0 (fun h => h.2.1 a2)
  rw [if_neg a2]
  refine ⟨hS.k 140 rfl, gz g + 143, hS.r 140 2 rfl, hS.k 143 rfl, by rw [hS.n 143 (n := 4) rfl]; exact vp_in_nI hs (by omega), ?_⟩
  rw [nI_clamp (by omega), hl]
  by_cases a3 : (nI n).toInt64 < x.toInt64 + y.toInt64
  · rw [if_pos a3]
    rw [over_iff (by omega)] at a3
    exact h0 (fun h => absurd h.2.2 (by omega))
  · rw [if_neg a3]
    rw [over_iff (by omega)] at a3
    exact h1 ⟨a1, a2, by omega⟩
theorem l_paste2 (g : Gc) {lv s k n : Nat} {m : Mm} (hS : Sg g m) (hs : s < 4) (hk : k + n ≤ 60) {fm : Nat → Int64} (hm : mL m (gz g + 149) = fm) {Q : Int32 → Mm → Prop} : ∀ (c j : Nat) (f : Nat → Int64), j + c = n → (∀ f2 : Nat → Int64, (∀ i, j ≤ i → i < n → f2 (60 * s + k + i) = fm i) → (∀ i, ¬ (60 * s + k + j ≤ i ∧ i < 60 * s + k + n) → f2 i = f i) → Q 0 (rL m (gz g + 148) f2)) →
    At g M_RF_paste (lv + 1) 153 [(0, va_rf (some (gz g + 145))), (3, .int (nI s)), (4, .int (nI k)), (5, .int (nI n)), (6, .int (nI j))] [] (rL m (gz g + 148) f) (QI Q) := by
  intro c
  induction c with
  | zero =>
    intro j f hj h
    refine bk_RF_paste_153 g ?_
    rw [if_pos (nI_le (by omega) (by omega))]
    exact h f (fun i h1 h2 => absurd h2 (by omega)) (fun _ _ => rfl)
  | succ c ih =>
    intro j f hj h
    refine bk_RF_paste_153 g ?_
    rw [if_neg (nI_ge (by omega) (by omega))]
    refine ⟨hS.k 145 rfl, gz g + 148, hS.r 145 3 rfl, gz g + 149, hS.r 145 4 rfl, hS.k 149 rfl, ?_, hS.k 148 rfl, ?_, fun m11 e11 => ?_⟩
    · rw [show mN (rL m (gz g + 148) f) (gz g + 149) = 60 from hS.n 149 rfl]; exact vp_in_nI (by omega) (by omega)
    · rw [idx60', nI_add, show mN (rL m (gz g + 148) f) (gz g + 148) = 240 from hS.n 148 rfl]; exact vp_in_nI (by omega) (by omega)
    · rw [idx60', nI_add, nI_clamp (by omega), nI_clamp (by omega), sL_rL, mL_rL_ne (by omega), hm] at e11
      subst e11
      rw [nI_1]
      refine ih (j + 1) _ (by omega) (fun f2 g1 g2 => h f2 (fun i h1 h2 => ?_) (fun i hi => ?_))
      · by_cases hij : i = j
        · subst hij
          rw [g2 _ (by omega)]
          simp [va_up]
        · exact g1 i (by omega) h2
      · rw [g2 i (by omega)]
        simp only [va_up]
        rw [if_neg (by omega)]
theorem l_paste1 (g : Gc) {lv s i to k n : Nat} {m : Mm} (hS : Sg g m) (hs : s < 4) (hi : i + n ≤ 60) {Q : Int32 → Mm → Prop} : ∀ (c j : Nat) (f : Nat → Int64), j + c = n → (∀ f2 : Nat → Int64, (∀ a, j ≤ a → a < n → f2 a = mL m (gz g + 148) (60 * s + i + a)) → (∀ a, a < j → f2 a = f a) → At g M_RF_paste (lv + 1) 153 [(0, va_rf (some (gz g + 145))), (3, .int (nI to)), (4, .int (nI k)), (5, .int (nI n)), (6, .int (nI 0))] [] (rL m (gz g + 149) f2) (QI Q)) →
    At g M_RF_paste (lv + 1) 116 [(0, va_rf (some (gz g + 145))), (1, .int (nI s)), (2, .int (nI i)), (3, .int (nI to)), (4, .int (nI k)), (5, .int (nI n)), (6, .int (nI j))] [] (rL m (gz g + 149) f) (QI Q) := by
  intro c
  induction c with
  | zero =>
    intro j f hj h
    refine bk_RF_paste_116 g ?_
    rw [if_pos (nI_le (by omega) (by omega))]
    exact h f (fun a h1 h2 => absurd h2 (by omega)) (fun _ _ => rfl)
  | succ c ih =>
    intro j f hj h
    refine bk_RF_paste_116 g ?_
    rw [if_neg (nI_ge (by omega) (by omega))]
    refine ⟨hS.k 145 rfl, gz g + 149, hS.r 145 4 rfl, gz g + 148, hS.r 145 3 rfl, hS.k 148 rfl, ?_, hS.k 149 rfl, ?_, fun m11 e11 => ?_⟩
    · rw [idx60', nI_add, show mN (rL m (gz g + 149) f) (gz g + 148) = 240 from hS.n 148 rfl]; exact vp_in_nI (by omega) (by omega)
    · rw [show mN (rL m (gz g + 149) f) (gz g + 149) = 60 from hS.n 149 rfl]; exact vp_in_nI (by omega) (by omega)
    · rw [idx60', nI_add, nI_clamp (by omega), nI_clamp (by omega), sL_rL, mL_rL_ne (by omega)] at e11
      subst e11
      rw [nI_1]
      refine ih (j + 1) _ (by omega) (fun f2 g1 g2 => h f2 (fun a h1 h2 => ?_) (fun a ha => ?_))
      · by_cases haj : a = j
        · subst haj
          rw [g2 _ (by omega)]
          simp [va_up]
        · exact g1 a (by omega) h2
      · rw [g2 a (by omega)]
        simp only [va_up]
        rw [if_neg (by omega)]
