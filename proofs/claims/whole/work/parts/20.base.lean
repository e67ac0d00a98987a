/-! ===== memory: what a store leaves, small methods ===== -/
theorem up2_at {α : Type} {f : Nat → Nat → α} {a j : Nat} {v : α} : up2 f a j v a j = v := by simp [up2]
theorem up2_oth {α : Type} {f : Nat → Nat → α} {a j b i : Nat} {v : α} (h : b ≠ a) : up2 f a j v b i = f b i := by simp [up2, h]
theorem up2_sl {α : Type} {f : Nat → Nat → α} {a j b i : Nat} {v : α} (h : i ≠ j) : up2 f a j v b i = f b i := by
  unfold up2
  by_cases hb : b = a
  · rw [if_pos hb, if_neg h]
  · rw [if_neg hb]
theorem mI_sI (m : Mm) (a j : Nat) (v : Int32) : mI (sI m a j v) = up2 (mI m) a j v := rfl
theorem mL_sI (m : Mm) (a j : Nat) (v : Int32) : mL (sI m a j v) = mL m := rfl
theorem mR_sI (m : Mm) (a j : Nat) (v : Int32) : mR (sI m a j v) = mR m := rfl
theorem mK_sI (m : Mm) (a j : Nat) (v : Int32) : mK (sI m a j v) = mK m := rfl
theorem mN_sI (m : Mm) (a j : Nat) (v : Int32) : mN (sI m a j v) = mN m := rfl
theorem mC_sI (m : Mm) (a j : Nat) (v : Int32) : mC (sI m a j v) = mC m := rfl
theorem mS_sI (m : Mm) (a j : Nat) (v : Int32) : mS (sI m a j v) = mS m := rfl
theorem mI_sL (m : Mm) (a j : Nat) (v : Int64) : mI (sL m a j v) = mI m := rfl
theorem mL_sL (m : Mm) (a j : Nat) (v : Int64) : mL (sL m a j v) = up2 (mL m) a j v := rfl
theorem mR_sL (m : Mm) (a j : Nat) (v : Int64) : mR (sL m a j v) = mR m := rfl
theorem mK_sL (m : Mm) (a j : Nat) (v : Int64) : mK (sL m a j v) = mK m := rfl
theorem mN_sL (m : Mm) (a j : Nat) (v : Int64) : mN (sL m a j v) = mN m := rfl
theorem mC_sL (m : Mm) (a j : Nat) (v : Int64) : mC (sL m a j v) = mC m := rfl
theorem mS_sL (m : Mm) (a j : Nat) (v : Int64) : mS (sL m a j v) = mS m := rfl
theorem mI_sR (m : Mm) (a j : Nat) (v : Option Nat) : mI (sR m a j v) = mI m := rfl
theorem mL_sR (m : Mm) (a j : Nat) (v : Option Nat) : mL (sR m a j v) = mL m := rfl
theorem mR_sR (m : Mm) (a j : Nat) (v : Option Nat) : mR (sR m a j v) = up2 (mR m) a j v := rfl
theorem mK_sR (m : Mm) (a j : Nat) (v : Option Nat) : mK (sR m a j v) = mK m := rfl
theorem mN_sR (m : Mm) (a j : Nat) (v : Option Nat) : mN (sR m a j v) = mN m := rfl
theorem mC_sR (m : Mm) (a j : Nat) (v : Option Nat) : mC (sR m a j v) = mC m := rfl
theorem mS_sR (m : Mm) (a j : Nat) (v : Option Nat) : mS (sR m a j v) = mS m := rfl
/-- a row of the memory is as it was -/
def Eqr (m m' : Mm) (a : Nat) : Prop := mI m' a = mI m a ∧ mL m' a = mL m a ∧ mR m' a = mR m a
theorem Eqr.refl (m : Mm) (a : Nat) : Eqr m m a := ⟨rfl, rfl, rfl⟩
theorem Eqr.trans {m m1 m2 : Mm} {a : Nat} (h : Eqr m m1 a) (h2 : Eqr m1 m2 a) : Eqr m m2 a := ⟨h2.1.trans h.1, h2.2.1.trans h.2.1, h2.2.2.trans h.2.2⟩
theorem Eqr.sI {m : Mm} {a b j : Nat} {v : Int32} (h : b ≠ a) : Eqr m (sI m a j v) b := ⟨up2_ne h, rfl, rfl⟩
theorem Eqr.sL {m : Mm} {a b j : Nat} {v : Int64} (h : b ≠ a) : Eqr m (sL m a j v) b := ⟨rfl, up2_ne h, rfl⟩
theorem Eqr.sR {m : Mm} {a b j : Nat} {v : Option Nat} (h : b ≠ a) : Eqr m (sR m a j v) b := ⟨rfl, rfl, up2_ne h⟩
def wi (a b c : Int32) : Int32 := if a < b then 0 else if c < a then 0 else 1
def wj (a b c : Int64) : Int32 := if a < b then 0 else if c < a then 0 else 1
theorem c_isWithin (g : Gc) {lv : Nat} {a b c : Int32} {m : Mm} {Q : Int32 → Mm → Prop} (h : Q (wi a b c) m) : CI g M_SL_isWithin (lv + 1) [.int a, .int b, .int c] m Q := by
  refine en_SL_isWithin g ?_
  unfold wi at h
  by_cases h1 : a < b
  · rw [if_pos h1] at h ⊢; exact h
  · rw [if_neg h1] at h ⊢
    by_cases h2 : c < a
    · rw [if_pos h2] at h ⊢; exact h
    · rw [if_neg h2] at h ⊢; exact h
theorem c_in (g : Gc) {lv : Nat} {a b c : Int64} {m : Mm} {Q : Int32 → Mm → Prop} (h : Q (wj a b c) m) : CI g M_RF_in (lv + 1) [.long a, .long b, .long c] m Q := by
  refine en_RF_in g ?_
  unfold wj at h
  by_cases h1 : a < b
  · rw [if_pos h1] at h ⊢; exact h
  · rw [if_neg h1] at h ⊢
    by_cases h2 : c < a
    · rw [if_pos h2] at h ⊢; exact h
    · rw [if_neg h2] at h ⊢; exact h
theorem wi_01 (a b c : Int32) : wi a b c = 0 ∨ wi a b c = 1 := by
  unfold wi
  by_cases h1 : a < b
  · rw [if_pos h1]; exact Or.inl rfl
  · rw [if_neg h1]
    by_cases h2 : c < a
    · rw [if_pos h2]; exact Or.inl rfl
    · rw [if_neg h2]; exact Or.inr rfl
theorem wi_eq0 {a b c : Int32} : wi a b c = 0 ↔ (a < b ∨ c < a) := by
  unfold wi
  by_cases h1 : a < b
  · simp [h1]
  · by_cases h2 : c < a
    · simp [h1, h2]
    · simp [h1, h2]
theorem i32_lt (a b : Int32) : a < b ↔ a.toInt < b.toInt := Int32.lt_iff_toInt_lt
theorem i32_le (a b : Int32) : a ≤ b ↔ a.toInt ≤ b.toInt := Int32.le_iff_toInt_le
theorem i64_lt (a b : Int64) : a < b ↔ a.toInt < b.toInt := Int64.lt_iff_toInt_lt
theorem i64_le (a b : Int64) : a ≤ b ↔ a.toInt ≤ b.toInt := Int64.le_iff_toInt_le
theorem wide_lt (a b : Int32) : a.toInt64 < b.toInt64 ↔ a < b := by
  rw [i64_lt, i32_lt, Int32.toInt_toInt64, Int32.toInt_toInt64]
theorem wj_wide (a b c : Int32) : wj a.toInt64 b.toInt64 c.toInt64 = wi a b c := by
  unfold wi wj
  simp only [wide_lt]
/-- in range: a number between two -/
theorem nat_of {x : Int32} {n : Nat} (h0 : ¬ x < 0) (h1 : ¬ nI n < x) (hn : n < 2 ^ 31) : ∃ j : Nat, j ≤ n ∧ x = nI j := by
  obtain ⟨j, hj, rfl⟩ := nI_of h0
  refine ⟨j, ?_, rfl⟩
  rcases Nat.lt_or_ge n j with h | h
  · exact absurd (nI_lt h hj) h1
  · exact h
