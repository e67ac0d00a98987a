/-! ===== the SLOTS: row, tear, write, paste ===== -/
/-- nothing changed but these static cells, and these numbers of the reference's own object -/
def Only (g : Gc) (W ss : List Nat) (m m' : Mm) : Prop := (mK m' = mK m ∧ mN m' = mN m ∧ mC m' = mC m ∧ mS m' = mS m) ∧ (∀ a, (∀ w ∈ W, a ≠ gz g + w) → a ≠ gz g + 145 → Eqr m m' a) ∧ mL m' (gz g + 145) = mL m (gz g + 145) ∧ mR m' (gz g + 145) = mR m (gz g + 145) ∧ ∀ j, j ∉ ss → mI m' (gz g + 145) j = mI m (gz g + 145) j
theorem Only.refl (g : Gc) (W ss : List Nat) (m : Mm) : Only g W ss m m := ⟨⟨rfl, rfl, rfl, rfl⟩, fun _ _ _ => Eqr.refl _ _, rfl, rfl, fun _ _ => rfl⟩
theorem Only.trans {g : Gc} {W ss : List Nat} {m m1 m2 : Mm} (h : Only g W ss m m1) (h2 : Only g W ss m1 m2) : Only g W ss m m2 :=
  ⟨⟨h2.1.1.trans h.1.1, h2.1.2.1.trans h.1.2.1, h2.1.2.2.1.trans h.1.2.2.1, h2.1.2.2.2.trans h.1.2.2.2⟩, fun a h3 h4 => (h.2.1 a h3 h4).trans (h2.2.1 a h3 h4), h2.2.2.1.trans h.2.2.1, h2.2.2.2.1.trans h.2.2.2.1, fun j hj => (h2.2.2.2.2 j hj).trans (h.2.2.2.2 j hj)⟩
theorem Only_sI {g : Gc} {W ss : List Nat} (m : Mm) {w : Nat} (hw : w ∈ W) (h145 : w ≠ 145) (j : Nat) (v : Int32) : Only g W ss m (sI m (gz g + w) j v) := by
  have hne : gz g + 145 ≠ gz g + w := by omega
  exact ⟨⟨rfl, rfl, rfl, rfl⟩, fun a h _ => Eqr.sI (h w hw), rfl, rfl, fun i _ => by show up2 _ _ _ _ _ _ = _; exact up2_oth hne⟩
theorem Only_sL {g : Gc} {W ss : List Nat} (m : Mm) {w : Nat} (hw : w ∈ W) (h145 : w ≠ 145) (j : Nat) (v : Int64) : Only g W ss m (sL m (gz g + w) j v) := by
  have hne : gz g + 145 ≠ gz g + w := by omega
  exact ⟨⟨rfl, rfl, rfl, rfl⟩, fun a h _ => Eqr.sL (h w hw), up2_ne hne, rfl, fun i _ => rfl⟩
theorem Only_rL {g : Gc} {W ss : List Nat} (m : Mm) {w : Nat} (hw : w ∈ W) (h145 : w ≠ 145) (f : Nat → Int64) : Only g W ss m (rL m (gz g + w) f) := by
  have hne : gz g + 145 ≠ gz g + w := by omega
  refine ⟨⟨rfl, rfl, rfl, rfl⟩, fun a h _ => ⟨rfl, ?_, rfl⟩, ?_, rfl, fun i _ => rfl⟩
  · show va_up _ _ _ _ = _; simp [va_up, h w hw, mL]
  · show va_up _ _ _ _ = _; simp [va_up, mL]; intro h; exact absurd h (by omega)
theorem Only_sM {g : Gc} {W ss : List Nat} (m : Mm) {j : Nat} (hj : j ∈ ss) (v : Int32) : Only g W ss m (sI m (gz g + 145) j v) :=
  ⟨⟨rfl, rfl, rfl, rfl⟩, fun a _ h => Eqr.sI h, rfl, rfl, fun i hi => by show up2 _ _ _ _ _ _ = _; exact up2_sl (fun e => hi (by rw [e]; exact hj))⟩
theorem mL_rL_ne {m : Mm} {a b : Nat} {f : Nat → Int64} (h : b ≠ a) : mL (rL m a f) b = mL m b := by
  show va_up (mL m) a f b = _
  simp [va_up, h]
def RowOne (g : Gc) (m : Mm) (s : Nat) : Prop := (mI m (gz g + 143) s = -1 ∧ mI m (gz g + 146) s = -1) ∨ ∃ n w : Nat, n ≤ 60 ∧ w ≤ 3 ∧ mI m (gz g + 143) s = nI n ∧ mI m (gz g + 147) s = nI n ∧ mI m (gz g + 142) s = nI w ∧ mI m (gz g + 146) s = nI w ∧ ∀ i, i < n → mL m (gz g + 141) (60 * s + i) = mL m (gz g + 148) (60 * s + i)
def RowsOK (g : Gc) (m : Mm) : Prop := ∀ s, s < 4 → RowOne g m s
theorem nI_ne_m1 {n : Nat} (h : n < 2 ^ 31) : nI n ≠ (-1 : Int32) := fun e => nI_pos h (by rw [e]; decide)
theorem idx60 {s i : Nat} : nI s * (60 : Int32) + nI i = nI (60 * s + i) := by rw [lit60, pk_mul, nI_add, Nat.mul_comm]
theorem idx60' {s i : Nat} : (60 : Int32) * nI s + nI i = nI (60 * s + i) := by rw [lit60, pk_mul, nI_add]
theorem slot_of {x : Int32} (h : ¬ wi x 0 3 = 0) : ∃ s : Nat, s < 4 ∧ x = nI s := by
  rw [wi_eq0] at h
  obtain ⟨j, hj, e⟩ := nat_of (n := 3) (fun h1 => h (Or.inl h1)) (fun h1 => h (Or.inr h1)) (by omega)
  exact ⟨j, by omega, e⟩
theorem c_isSlot (g : Gc) {lv : Nat} {x : Int32} {m : Mm} {Q : Int32 → Mm → Prop} (h : Q (wi x 0 3) m) : CI g M_RF_isSlot (lv + 2) [.int x] m Q := by
  refine en_RF_isSlot g (c_in g ?_)
  rw [show wj x.toInt64 (0 : Int64) (3 : Int64) = wi x 0 3 from wj_wide x 0 3]
  exact ⟨wi_01 x 0 3, h⟩
theorem l_lay (g : Gc) {lv s n : Nat} {m : Mm} (hS : Sg g m) (hs : s < 4) (hn : n ≤ 60) {Q : Mm → Prop} : ∀ (c i : Nat) (f : Nat → Int64), i + c = n → (∀ f2 : Nat → Int64, (∀ k, 60 * s + i ≤ k → k < 60 * s + n → f2 k = 0) → (∀ k, ¬ (60 * s + i ≤ k ∧ k < 60 * s + n) → f2 k = f k) → Q (rL m (gz g + 141) f2)) →
    At g M_Rows_lay (lv + 1) 17 [(0, va_rf (some (gz g + 140))), (1, .int (nI s)), (3, .int (nI n)), (4, .int (nI i))] [] (rL m (gz g + 141) f) (QV Q) := by
  intro c
  induction c with
  | zero =>
    intro i f hi h
    refine bk_Rows_lay_17 g ?_
    rw [if_pos (nI_le (by omega) (by omega))]
    exact h f (fun k h1 h2 => absurd h2 (by omega)) (fun _ _ => rfl)
  | succ c ih =>
    intro i f hi h
    refine bk_Rows_lay_17 g ?_
    rw [if_neg (nI_ge (by omega) (by omega)), if_neg (by rw [lit60]; exact nI_ge (by omega) (by omega))]
    refine ⟨hS.k 140 rfl, gz g + 141, hS.r 140 0 rfl, hS.k 141 rfl, ?_, fun m8 e8 => ?_⟩
    · rw [idx60, show mN (rL m (gz g + 141) f) (gz g + 141) = 240 from hS.n 141 rfl]
      exact vp_in_nI (by omega) (by omega)
    · rw [idx60, nI_clamp (by omega), sL_rL] at e8
      subst e8
      rw [nI_1]
      refine ih (i + 1) _ (by omega) (fun f2 h1 h2 => h f2 (fun k h3 h4 => ?_) (fun k h3 => ?_))
      · by_cases hk : k = 60 * s + i
        · rw [h2 k (by omega)]; simp [va_up, hk]
        · exact h1 k (by omega) h4
      · rw [h2 k (by omega)]
        simp only [va_up]
        rw [if_neg (by omega)]
theorem c_lay (g : Gc) {lv s n : Nat} {w : Int32} {m : Mm} (hS : Sg g m) (hs : s < 4) (hn : n ≤ 60) {Q : Mm → Prop} (h : ∀ f2 : Nat → Int64, (∀ k, 60 * s ≤ k → k < 60 * s + n → f2 k = 0) → (∀ k, ¬ (60 * s ≤ k ∧ k < 60 * s + n) → f2 k = mL m (gz g + 141) k) → Q (rL (sI (sI m (gz g + 142) s w) (gz g + 143) s (nI n)) (gz g + 141) f2)) : CV g M_Rows_lay (lv + 1) [va_rf (some (gz g + 140)), .int (nI s), .int w, .int (nI n)] m Q := by
  refine en_Rows_lay g ⟨hS.k 140 rfl, gz g + 142, hS.r 140 1 rfl, hS.k 142 rfl, by rw [hS.n 142 (n := 4) rfl]; exact vp_in_nI hs (by omega), fun m6 e6 => ?_⟩
  rw [nI_clamp (by omega)] at e6
  subst e6
  refine ⟨gz g + 143, hS.r 140 2 rfl, hS.k 143 rfl, by rw [show mN (sI m (gz g + 142) s w) (gz g + 143) = 4 from hS.n 143 rfl]; exact vp_in_nI hs (by omega), fun m16 e16 => ?_⟩
  rw [nI_clamp (by omega)] at e16
  subst e16
  have := l_lay (lv := lv) g (m := sI (sI m (gz g + 142) s w) (gz g + 143) s (nI n)) hS hs hn n 0 (mL m (gz g + 141)) (by omega) (fun f2 h1 h2 => h f2 h1 h2) (Q := Q)
  rw [show rL (sI (sI m (gz g + 142) s w) (gz g + 143) s (nI n)) (gz g + 141) (mL m (gz g + 141)) = sI (sI m (gz g + 142) s w) (gz g + 143) s (nI n) from rL_self (sI (sI m (gz g + 142) s w) (gz g + 143) s (nI n)) (gz g + 141)] at this
  exact this
theorem l_rfrow (g : Gc) {lv s : Nat} {m : Mm} (hS : Sg g m) (hs : s < 4) {Q : Int32 → Mm → Prop} : ∀ (c i : Nat) (f : Nat → Int64), i + c = 60 → (∀ f2 : Nat → Int64, (∀ k, 60 * s + i ≤ k → k < 60 * s + 60 → f2 k = 0) → (∀ k, ¬ (60 * s + i ≤ k ∧ k < 60 * s + 60) → f2 k = f k) → Q 0 (rL m (gz g + 148) f2)) →
    At g M_RF_row (lv + 1) 57 [(0, va_rf (some (gz g + 145))), (1, .int (nI s)), (4, .int (nI i))] [] (rL m (gz g + 148) f) (QI Q) := by
  intro c
  induction c with
  | zero =>
    intro i f hi h
    refine bk_RF_row_57 g ?_
    rw [if_pos (by rw [lit60]; exact nI_le (by omega) (by omega))]
    exact h f (fun k h1 h2 => absurd h2 (by omega)) (fun _ _ => rfl)
  | succ c ih =>
    intro i f hi h
    refine bk_RF_row_57 g ?_
    rw [if_neg (by rw [lit60]; exact nI_ge (by omega) (by omega))]
    refine ⟨hS.k 145 rfl, gz g + 148, hS.r 145 3 rfl, hS.k 148 rfl, ?_, fun m8 e8 => ?_⟩
    · rw [idx60', show mN (rL m (gz g + 148) f) (gz g + 148) = 240 from hS.n 148 rfl]
      exact vp_in_nI (by omega) (by omega)
    · rw [idx60', nI_clamp (by omega), sL_rL] at e8
      subst e8
      rw [nI_1]
      refine ih (i + 1) _ (by omega) (fun f2 h1 h2 => h f2 (fun k h3 h4 => ?_) (fun k h3 => ?_))
      · by_cases hk : k = 60 * s + i
        · rw [h2 k (by omega)]; simp [va_up, hk]
        · exact h1 k (by omega) h4
      · rw [h2 k (by omega)]
        simp only [va_up]
        rw [if_neg (by omega)]
/-- the two answer alike, and what holds behind them -/
def SimI (g : Gc) (M1 M2 : Md) (lv : Nat) (as : List Value) (m : Mm) (R : Mm → Prop) : Prop := CI g M1 lv (va_rf (some (gz g)) :: as) m (fun r1 m1 => CI g M2 lv (va_rf (some (gz g + 145)) :: as) m1 (fun r2 m2 => r1 = r2 ∧ R m2))
def SimJ (g : Gc) (M1 M2 : Md) (lv : Nat) (as : List Value) (m : Mm) (R : Mm → Prop) : Prop := CJ g M1 lv (va_rf (some (gz g)) :: as) m (fun r1 m1 => CJ g M2 lv (va_rf (some (gz g + 145)) :: as) m1 (fun r2 m2 => r1 = r2 ∧ R m2))
def WR : List Nat := [141, 142, 143, 146, 147, 148, 149]
theorem RowOne.same {g : Gc} {m m' : Mm} {s : Nat} (h : RowOne g m s) (h1 : mI m' (gz g + 143) s = mI m (gz g + 143) s) (h2 : mI m' (gz g + 142) s = mI m (gz g + 142) s) (h3 : mI m' (gz g + 146) s = mI m (gz g + 146) s) (h4 : mI m' (gz g + 147) s = mI m (gz g + 147) s) (h5 : ∀ i, i < 60 → mL m' (gz g + 141) (60 * s + i) = mL m (gz g + 141) (60 * s + i)) (h6 : ∀ i, i < 60 → mL m' (gz g + 148) (60 * s + i) = mL m (gz g + 148) (60 * s + i)) : RowOne g m' s := by
  rcases h with ⟨a, b⟩ | ⟨n, w, a1, a2, a3, a4, a5, a6, a7⟩
  · exact Or.inl ⟨h1.trans a, h3.trans b⟩
  · exact Or.inr ⟨n, w, a1, a2, h1.trans a3, h4.trans a4, h2.trans a5, h3.trans a6, fun i hi => by rw [h5 i (by omega), h6 i (by omega)]; exact a7 i hi⟩
theorem sim_row (g : Gc) {lv : Nat} {m : Mm} (hS : Sg g m) (hR : RowsOK g m) (x y n : Int32) : SimI g M_SL_row M_RF_row (lv + 3) [.int x, .int y, .int n] m (fun m2 => RowsOK g m2 ∧ Only g WR [0] m m2) := by
  -- the reference's refusals, at any start
  have ok0 : RowsOK g (sI m (gz g + 145) 0 0) := fun s hs => by
    refine (hR s hs).same ?_ ?_ ?_ ?_ (fun _ _ => rfl) (fun _ _ => rfl) <;> exact up2_oth (by omega)
  have on0 : Only g WR [0] m (sI m (gz g + 145) 0 0) := Only_sM m (by decide) 0
  unfold SimI
  refine en_SL_row g (c_isWithin g ?_)
  by_cases h1 : wi x 0 3 = 0
  · rw [if_pos h1]
    refine en_RF_row g ⟨hS.k 145 rfl, fun m2 e2 => ?_⟩
    subst e2
    refine c_isSlot g ?_
    rw [if_pos h1]
    exact ⟨rfl, ok0, on0⟩
  rw [if_neg h1]
  refine c_isWithin g ?_
  by_cases h2 : wi y 0 3 = 0
  · rw [if_pos h2]
    refine en_RF_row g ⟨hS.k 145 rfl, fun m2 e2 => ?_⟩
    subst e2
    refine c_isSlot g ?_
    rw [if_neg h1]
    refine c_in g ?_
    rw [show wj y.toInt64 (0 : Int64) (3 : Int64) = wi y 0 3 from wj_wide y 0 3, if_pos h2]
    exact ⟨rfl, ok0, on0⟩
  rw [if_neg h2]
  by_cases h3 : n ≤ (60 : Int32)
  · rw [if_pos h3]
    by_cases h4 : 0 ≤ n
    · rw [if_pos h4]
      obtain ⟨s, hs, rfl⟩ := slot_of h1
      obtain ⟨w, hw, rfl⟩ := slot_of h2
      obtain ⟨k, hk, rfl⟩ := nat_of (n := 60) (x := n) (by rw [i32_lt]; rw [i32_le] at h4; omega) (by rw [i32_lt]; rw [i32_le] at h3; have : (nI 60).toInt = (60 : Int32).toInt := rfl; omega) (by omega)
      refine ⟨hS.k 0 rfl, gz g + 140, hS.r 0 6 rfl, hS.k 140 rfl, c_lay g hS hs hk (fun f hf1 hf2 => ?_)⟩
      refine en_RF_row g ⟨hS.k 145 rfl, fun m2 e2 => ?_⟩
      subst e2
      refine c_isSlot g ?_
      rw [if_neg h1]
      refine c_in g ?_
      rw [show wj (nI w).toInt64 (0 : Int64) (3 : Int64) = wi (nI w) 0 3 from wj_wide (nI w) 0 3, if_neg h2, if_pos h3, if_pos h4]
      refine ⟨gz g + 146, hS.r 145 1 rfl, hS.k 146 rfl, vp_in_nI (N := 4) hs (by omega) |> fun h => by rw [show mN (sI (rL (sI (sI m (gz g + 142) s (nI w)) (gz g + 143) s (nI k)) (gz g + 141) f) (gz g + 145) 0 0) (gz g + 146) = 4 from hS.n 146 rfl]; exact h, fun m22 e22 => ?_⟩
      rw [nI_clamp (by omega)] at e22
      subst e22
      refine ⟨gz g + 147, hS.r 145 2 rfl, hS.k 147 rfl, vp_in_nI (N := 4) hs (by omega) |> fun h => by rw [show mN (sI (sI (rL (sI (sI m (gz g + 142) s (nI w)) (gz g + 143) s (nI k)) (gz g + 141) f) (gz g + 145) 0 0) (gz g + 146) s (nI w)) (gz g + 147) = 4 from hS.n 147 rfl]; exact h, fun m32 e32 => ?_⟩
      rw [nI_clamp (by omega)] at e32
      have key := l_rfrow (lv := lv + 2) g (m := m32) (by rw [e32]; exact hS) hs (Q := fun r2 m2 => (0 : Int32) = r2 ∧ RowsOK g m2 ∧ Only g WR [0] m m2) 60 0 (mL m32 (gz g + 148)) (by omega) (fun f2 g1 g2 => ⟨rfl, ?_, ?_⟩)
      · rw [rL_self] at key; exact key
      · subst e32
        intro s' hs'
        by_cases hss : s' = s
        · subst hss
          refine Or.inr ⟨k, w, hk, by omega, ?_, ?_, ?_, ?_, fun i hi => ?_⟩
          · simp (disch := omega) [mI, rL, sI, up2]
          · simp (disch := omega) [mI, rL, sI, up2]
          · simp (disch := omega) [mI, rL, sI, up2]
          · simp (disch := omega) [mI, rL, sI, up2]
          · rw [mL_rL, g1 (60 * s' + i) (by omega) (by omega)]
            rw [mL_rL_ne (by omega)]
            simp only [mL_sI]
            rw [mL_rL]
            exact hf1 (60 * s' + i) (by omega) (by omega)
        · refine (hR s' hs').same ?_ ?_ ?_ ?_ (fun i hi => ?_) (fun i hi => ?_)
          · simp (disch := omega) [mI, rL, sI, up2, hss]
          · simp (disch := omega) [mI, rL, sI, up2, hss]
          · simp (disch := omega) [mI, rL, sI, up2, hss]
          · simp (disch := omega) [mI, rL, sI, up2, hss]
          · rw [mL_rL_ne (by omega)]
            simp only [mL_sI]
            rw [mL_rL]
            exact hf2 _ (by omega)
          · rw [mL_rL, g2 _ (by omega)]
            simp only [mL_sI]
            rw [mL_rL_ne (by omega)]
            rfl
      · subst e32
        refine Only.trans ?_ (Only_rL _ (w := 148) (by decide) (by decide) f2)
        refine Only.trans ?_ (Only_sI _ (w := 147) (by decide) (by decide) _ _)
        refine Only.trans ?_ (Only_sI _ (w := 146) (by decide) (by decide) _ _)
        refine Only.trans ?_ (Only_sM _ (by decide) _)
        refine Only.trans ?_ (Only_rL _ (w := 141) (by decide) (by decide) f)
        refine Only.trans ?_ (Only_sI _ (w := 143) (by decide) (by decide) _ _)
        exact Only_sI _ (w := 142) (by decide) (by decide) _ _
    · rw [if_neg h4]
      refine en_RF_row g ⟨hS.k 145 rfl, fun m2 e2 => ?_⟩
      subst e2
      refine c_isSlot g ?_
      rw [if_neg h1]
      refine c_in g ?_
      rw [show wj y.toInt64 (0 : Int64) (3 : Int64) = wi y 0 3 from wj_wide y 0 3, if_neg h2, if_pos h3, if_neg h4]
      exact ⟨rfl, ok0, on0⟩
  · rw [if_neg h3]
    refine en_RF_row g ⟨hS.k 145 rfl, fun m2 e2 => ?_⟩
    subst e2
    refine c_isSlot g ?_
    rw [if_neg h1]
    refine c_in g ?_
    rw [show wj y.toInt64 (0 : Int64) (3 : Int64) = wi y 0 3 from wj_wide y 0 3, if_neg h2, if_neg h3]
    exact ⟨rfl, ok0, on0⟩
