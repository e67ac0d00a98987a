/-! ===== tear, write, paste, light ===== -/
theorem c_hasRow_out (g : Gc) {lv : Nat} {m : Mm} {x : Int32} {Q : Int32 → Mm → Prop} (hx : wi x 0 3 = 0) (h : Q 0 m) : CI g M_Rows_hasRow (lv + 2) [va_rf (some (gz g + 140)), .int x] m Q := by
  refine en_Rows_hasRow g (c_isWithin g ?_)
  rw [if_pos hx]
  exact h
theorem wi_slot {s : Nat} (hs : s < 4) : ¬ wi (nI s) 0 3 = 0 := by
  rw [wi_nat (c := 3) (c32 := 3) rfl (by omega) (by omega), if_pos (by omega)]
  decide
theorem c_hasRow_in (g : Gc) {lv : Nat} {m : Mm} (hS : Sg g m) {s : Nat} (hs : s < 4) {Q : Int32 → Mm → Prop} (h0 : mI m (gz g + 143) s = -1 → Q 0 m) (h1 : ¬ mI m (gz g + 143) s = -1 → Q 1 m) : CI g M_Rows_hasRow (lv + 2) [va_rf (some (gz g + 140)), .int (nI s)] m Q := by
  refine en_Rows_hasRow g (c_isWithin g ?_)
  rw [if_neg (wi_slot hs)]
  refine ⟨hS.k 140 rfl, gz g + 143, hS.r 140 2 rfl, hS.k 143 rfl, by rw [hS.n 143 (n := 4) rfl]; exact vp_in_nI hs (by omega), ?_⟩
  rw [nI_clamp (by omega)]
  by_cases h : mI m (gz g + 143) s = -1
  · rw [if_pos h]; exact h0 h
  · rw [if_neg h]; exact h1 h
theorem rows_M0 {g : Gc} {m : Mm} (hR : RowsOK g m) (j : Nat) (v : Int32) : RowsOK g (sI m (gz g + 145) j v) := fun s hs => by
  refine (hR s hs).same ?_ ?_ ?_ ?_ (fun _ _ => rfl) (fun _ _ => rfl) <;> exact up2_oth (by omega)
theorem sim_tear (g : Gc) {lv : Nat} {m : Mm} (hS : Sg g m) (hR : RowsOK g m) (x : Int32) : SimI g M_SL_tear M_RF_tear (lv + 3) [.int x] m (fun m2 => RowsOK g m2 ∧ Only g WR [0] m m2) := by
  have ok0 : RowsOK g (sI m (gz g + 145) 0 0) := rows_M0 hR 0 0
  have on0 : Only g WR [0] m (sI m (gz g + 145) 0 0) := Only_sM m (by decide) 0
  unfold SimI
  refine en_SL_tear g ⟨hS.k 0 rfl, gz g + 140, hS.r 0 6 rfl, hS.k 140 rfl, ?_⟩
  by_cases h1 : wi x 0 3 = 0
  · refine c_hasRow_out g h1 ?_
    rw [if_pos rfl]
    refine en_RF_tear g ⟨hS.k 145 rfl, fun m2 e2 => ?_⟩
    subst e2
    refine c_isSlot g ?_
    rw [if_pos h1]
    exact ⟨rfl, ok0, on0⟩
  obtain ⟨s, hs, rfl⟩ := slot_of h1
  refine c_hasRow_in g hS hs (fun hl => ?_) (fun hl => ?_)
  · rw [if_pos rfl]
    refine en_RF_tear g ⟨hS.k 145 rfl, fun m2 e2 => ?_⟩
    subst e2
    refine c_isSlot g ?_
    rw [if_neg h1]
    refine ⟨gz g + 146, hS.r 145 1 rfl, hS.k 146 rfl, by rw [show mN (sI m (gz g + 145) 0 0) (gz g + 146) = 4 from hS.n 146 rfl]; exact vp_in_nI hs (by omega), ?_⟩
    rw [nI_clamp (by omega), mI_sI, up2_oth (by omega)]
    rcases hR s hs with ⟨-, b⟩ | ⟨n, w, a1, a2, a3, -⟩
    · rw [b, if_neg (by decide)]
      exact ⟨rfl, ok0, on0⟩
    · exact absurd (a3.symm.trans hl) (nI_ne_m1 (by omega))
  · rw [if_neg (by decide)]
    rcases hR s hs with ⟨a, -⟩ | ⟨n, w, a1, a2, a3, a4, a5, a6, a7⟩
    · exact absurd a hl
    refine ⟨gz g + 143, hS.r 140 2 rfl, hS.k 143 rfl, by rw [hS.n 143 (n := 4) rfl]; exact vp_in_nI hs (by omega), fun m16 e16 => ?_⟩
    rw [nI_clamp (by omega)] at e16
    subst e16
    refine en_RF_tear g ⟨hS.k 145 rfl, fun m2 e2 => ?_⟩
    subst e2
    refine c_isSlot g ?_
    rw [if_neg h1]
    have hn : mN (sI (sI m (gz g + 143) s (-1)) (gz g + 145) 0 0) (gz g + 146) = 4 := hS.n 146 rfl
    refine ⟨gz g + 146, hS.r 145 1 rfl, hS.k 146 rfl, by rw [hn]; exact vp_in_nI hs (by omega), ?_⟩
    rw [nI_clamp (by omega), mI_sI, up2_oth (by omega), mI_sI, up2_oth (by omega), a6, if_pos (nI_pos' (by omega)), hn]
    refine ⟨vp_in_nI hs (by omega), fun m17 e17 => ⟨rfl, ?_, ?_⟩⟩
    · subst e17
      intro s' hs'
      by_cases hss : s' = s
      · subst hss
        exact Or.inl ⟨by simp (disch := omega) [mI, sI, up2], by simp (disch := omega) [mI, sI, up2]⟩
      · refine (hR s' hs').same ?_ ?_ ?_ ?_ (fun _ _ => rfl) (fun _ _ => rfl) <;> simp (disch := omega) [mI, sI, up2, hss]
    · subst e17
      refine Only.trans ?_ (Only_sI _ (w := 146) (by decide) (by decide) _ _)
      refine Only.trans ?_ (Only_sM _ (by decide) _)
      exact Only_sI _ (w := 143) (by decide) (by decide) _ _
/-- a number cut to a width -/
def cutW (w : Int32) (v : Int64) : Int64 := if w = 0 then v.toInt32.toInt8.toInt32.toInt64 else if w = 1 then v.toInt32.toInt16.toInt32.toInt64 else if w = 2 then v.toInt32.toInt64 else v
theorem c_cut (g : Gc) {lv : Nat} {m : Mm} {w : Int32} {v : Int64} {Q : Int64 → Mm → Prop} (h : Q (cutW w v) m) : CJ g M_RF_cut (lv + 1) [.int w, .long v] m Q := by
  refine en_RF_cut g ?_
  unfold cutW at h
  by_cases h0 : w = 0
  · rw [if_pos h0] at h ⊢; exact h
  rw [if_neg h0] at h ⊢
  by_cases h1 : w = 1
  · rw [if_pos h1] at h ⊢; exact h
  rw [if_neg h1] at h ⊢
  by_cases h2 : w = 2
  · rw [if_pos h2] at h ⊢; exact h
  · rw [if_neg h2] at h ⊢; exact h
theorem c_set (g : Gc) {lv : Nat} {m : Mm} (hS : Sg g m) {s i : Nat} (hs : s < 4) (hi : i < 60) {v : Int64} {Q : Mm → Prop} (h : Q (sL m (gz g + 141) (60 * s + i) (cutW (mI m (gz g + 142) s) v))) : CV g M_Rows_set (lv + 1) [va_rf (some (gz g + 140)), .int (nI s), .int (nI i), .long v] m Q := by
  have hn : vp_in (nI s * (60 : Int32) + nI i) (mN m (gz g + 141)) := by
    rw [idx60, hS.n 141 (n := 240) rfl]; exact vp_in_nI (by omega) (by omega)
  refine en_Rows_set g ⟨hS.k 140 rfl, gz g + 142, hS.r 140 1 rfl, hS.k 142 rfl, by rw [hS.n 142 (n := 4) rfl]; exact vp_in_nI hs (by omega), ?_⟩
  rw [nI_clamp (show s < 2 ^ 31 by omega)]
  unfold cutW at h
  by_cases h0 : mI m (gz g + 142) s = 0
  · rw [if_pos h0] at h ⊢
    refine ⟨gz g + 141, hS.r 140 0 rfl, hS.k 141 rfl, hn, fun m12 e => ?_⟩
    rw [idx60, nI_clamp (by omega)] at e
    subst e
    exact h
  rw [if_neg h0] at h ⊢
  by_cases h1 : mI m (gz g + 142) s = 1
  · rw [if_pos h1] at h ⊢
    refine ⟨gz g + 141, hS.r 140 0 rfl, hS.k 141 rfl, hn, fun m12 e => ?_⟩
    rw [idx60, nI_clamp (by omega)] at e
    subst e
    exact h
  rw [if_neg h1] at h ⊢
  by_cases h2 : mI m (gz g + 142) s = 2
  · rw [if_pos h2] at h ⊢
    refine ⟨gz g + 141, hS.r 140 0 rfl, hS.k 141 rfl, hn, fun m12 e => ?_⟩
    rw [idx60, nI_clamp (by omega)] at e
    subst e
    exact h
  · rw [if_neg h2] at h ⊢
    refine ⟨gz g + 141, hS.r 140 0 rfl, hS.k 141 rfl, hn, fun m12 e => ?_⟩
    rw [idx60, nI_clamp (by omega)] at e
    subst e
    exact h
theorem wj_i0 (x y : Int32) : wj x.toInt64 (0 : Int64) y.toInt64 = wi x 0 y := wj_wide x 0 y
theorem place_of {x : Int32} {n : Nat} (hn : n ≤ 60) (h : ¬ wi x 0 (nI n - 1) = 0) : ∃ i : Nat, i < n ∧ x = nI i := by
  rw [wi_eq0] at h
  rcases Nat.eq_zero_or_pos n with rfl | hp
  · exfalso
    apply h
    rw [show nI 0 - (1 : Int32) = -1 from rfl]
    rcases Int32.lt_or_le x 0 with h1 | h1
    · exact Or.inl h1
    · right
      rw [i32_le] at h1
      rw [i32_lt]
      have h2 : (-1 : Int32).toInt = -1 := rfl
      have h3 : (0 : Int32).toInt = 0 := rfl
      omega
  · rw [nI_m1 hp] at h
    obtain ⟨j, hj, e⟩ := nat_of (n := n - 1) (fun h1 => h (Or.inl h1)) (fun h1 => h (Or.inr h1)) (by omega)
    exact ⟨j, by omega, e⟩
theorem sim_write (g : Gc) {lv : Nat} {m : Mm} (hS : Sg g m) (hR : RowsOK g m) (x i : Int32) (v : Int64) : SimI g M_SL_write M_RF_write (lv + 3) [.int x, .int i, .long v] m (fun m2 => RowsOK g m2 ∧ Only g WR [0] m m2) := by
  have ok0 : RowsOK g (sI m (gz g + 145) 0 0) := rows_M0 hR 0 0
  have on0 : Only g WR [0] m (sI m (gz g + 145) 0 0) := Only_sM m (by decide) 0
  unfold SimI
  refine en_SL_write g (c_isWithin g ?_)
  by_cases h1 : wi x 0 3 = 0
  · rw [if_pos h1]
    refine en_RF_write g ⟨hS.k 145 rfl, fun m2 e2 => ?_⟩
    subst e2
    refine c_isSlot g ?_
    rw [if_pos h1]
    exact ⟨rfl, ok0, on0⟩
  rw [if_neg h1]
  obtain ⟨s, hs, rfl⟩ := slot_of h1
  refine ⟨hS.k 0 rfl, gz g + 140, hS.r 0 6 rfl, hS.k 140 rfl, ?_⟩
  refine c_hasRow_in g hS hs (fun hl => ?_) (fun hl => ?_)
  · rw [if_pos rfl]
    refine en_RF_write g ⟨hS.k 145 rfl, fun m2 e2 => ?_⟩
    subst e2
    refine c_isSlot g ?_
    rw [if_neg h1]
    refine ⟨gz g + 146, hS.r 145 1 rfl, hS.k 146 rfl, by rw [show mN (sI m (gz g + 145) 0 0) (gz g + 146) = 4 from hS.n 146 rfl]; exact vp_in_nI hs (by omega), ?_⟩
    rw [nI_clamp (by omega), mI_sI, up2_oth (by omega)]
    rcases hR s hs with ⟨-, b⟩ | ⟨n, w, a1, a2, a3, -⟩
    · rw [b, if_neg (by decide)]
      exact ⟨rfl, ok0, on0⟩
    · exact absurd (a3.symm.trans hl) (nI_ne_m1 (by omega))
  rw [if_neg (by decide)]
  rcases hR s hs with ⟨a, -⟩ | ⟨n, w, a1, a2, a3, a4, a5, a6, a7⟩
  · exact absurd a hl
  refine ⟨gz g + 143, hS.r 140 2 rfl, hS.k 143 rfl, by rw [hS.n 143 (n := 4) rfl]; exact vp_in_nI hs (by omega), c_isWithin g ?_⟩
  rw [nI_clamp (show s < 2 ^ 31 by omega), a3]
  -- the reference up to its own look at the place
  have ref : ∀ (m1 : Mm) (Q : Int32 → Mm → Prop), Sg g m1 → mI m1 (gz g + 146) s = nI w → mI m1 (gz g + 147) s = nI n → (wi i 0 (nI n - 1) = 0 → Q (-6) (sI m1 (gz g + 145) 0 0)) → (∀ k, k < n → i = nI k → Q 0 (sL (sI m1 (gz g + 145) 0 0) (gz g + 148) (60 * s + k) (cutW (nI w) v))) → CI g M_RF_write (lv + 3) [va_rf (some (gz g + 145)), .int (nI s), .int i, .long v] m1 Q := by
    intro m1 Q hS1 b1 b2 q1 q2
    refine en_RF_write g ⟨hS1.k 145 rfl, fun m2 e2 => ?_⟩
    subst e2
    refine c_isSlot g ?_
    rw [if_neg h1]
    refine ⟨gz g + 146, hS1.r 145 1 rfl, hS1.k 146 rfl, by rw [show mN (sI m1 (gz g + 145) 0 0) (gz g + 146) = 4 from hS1.n 146 rfl]; exact vp_in_nI hs (by omega), ?_⟩
    rw [nI_clamp (show s < 2 ^ 31 by omega), mI_sI, up2_oth (by omega), b1, if_pos (nI_pos' (by omega))]
    refine ⟨gz g + 147, hS1.r 145 2 rfl, hS1.k 147 rfl, by rw [show mN (sI m1 (gz g + 145) 0 0) (gz g + 147) = 4 from hS1.n 147 rfl]; exact vp_in_nI hs (by omega), c_in g ?_⟩
    rw [up2_oth (by omega), b2, wj_i0]
    by_cases hp : wi i 0 (nI n - 1) = 0
    · rw [if_pos hp]; exact q1 hp
    rw [if_neg hp]
    obtain ⟨k, hk, rfl⟩ := place_of a1 hp
    refine ⟨gz g + 148, hS1.r 145 3 rfl, by rw [show mN (sI m1 (gz g + 145) 0 0) (gz g + 146) = 4 from hS1.n 146 rfl]; exact vp_in_nI hs (by omega), ?_⟩
    refine c_cut g ⟨hS1.k 148 rfl, ?_, fun m43 e => ?_⟩
    · rw [idx60', show mN (sI m1 (gz g + 145) 0 0) (gz g + 148) = 240 from hS1.n 148 rfl]; exact vp_in_nI (by omega) (by omega)
    · rw [idx60', nI_clamp (by omega), mI_sI, up2_oth (by omega), b1] at e
      subst e
      exact q2 k hk rfl
  by_cases hp : wi i 0 (nI n - 1) = 0
  · rw [if_pos hp]
    exact ref m _ hS a6 a4 (fun _ => ⟨rfl, ok0, on0⟩) (fun k hk e => by
      exfalso
      subst e
      rw [nI_m1 (by omega), wi_nat rfl (by omega) (by omega), if_pos (by omega)] at hp
      exact absurd hp (by decide))
  rw [if_neg hp]
  obtain ⟨k, hk, rfl⟩ := place_of a1 hp
  refine c_set g hS hs (by omega) ?_
  rw [a5]
  refine ref (sL m (gz g + 141) (60 * s + k) (cutW (nI w) v)) _ hS a6 a4 (fun h => absurd h hp) (fun k2 hk2 e => ⟨rfl, ?_, ?_⟩)
  · have hkk : k2 = k := ((nI_eq (by omega) (by omega)).mp e).symm
    subst hkk
    intro s' hs'
    by_cases hss : s' = s
    · subst hss
      refine Or.inr ⟨n, w, a1, a2, by rw [mI_sL, mI_sI, up2_oth (by omega), mI_sL]; exact a3, by rw [mI_sL, mI_sI, up2_oth (by omega), mI_sL]; exact a4, by rw [mI_sL, mI_sI, up2_oth (by omega), mI_sL]; exact a5, by rw [mI_sL, mI_sI, up2_oth (by omega), mI_sL]; exact a6, fun j hj => ?_⟩
      rw [mL_sL, mL_sI, mL_sL]
      by_cases hjk : j = k2
      · subst hjk
        rw [up2_oth (by omega), up2_at, up2_at]
      · rw [up2_sl (by omega), up2_sl (by omega), up2_sl (by omega)]
        rw [up2_sl (by omega)]
        exact a7 j hj
    · refine (hR s' hs').same ?_ ?_ ?_ ?_ (fun j hj => ?_) (fun j hj => ?_)
      · exact up2_oth (by omega)
      · exact up2_oth (by omega)
      · exact up2_oth (by omega)
      · exact up2_oth (by omega)
      · rw [mL_sL, mL_sI, mL_sL, up2_oth (by omega), up2_sl (by omega)]
      · rw [mL_sL, mL_sI, mL_sL, up2_sl (by omega), up2_oth (by omega)]
  · refine Only.trans ?_ (Only_sL _ (w := 148) (by decide) (by decide) _ _)
    refine Only.trans ?_ (Only_sM _ (by decide) _)
    exact Only_sL _ (w := 141) (by decide) (by decide) _ _
