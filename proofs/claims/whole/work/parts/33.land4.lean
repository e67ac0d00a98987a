/-! ===== gains, growerOf ===== -/
theorem LandB.cg {g : Gc} {pa : Nat → Nat} {y r : Nat} {A m : Mm} (h : LandB g pa y r A m) {j c : Nat} (hj : j < 12) (h1 : 1 ≤ c) (h8 : c ≤ 8) : mI m (gz g + (14 + 4 * j)) (c + 2) = mI A c j := by
  rw [show gz g + (14 + 4 * j) = gz g + 2 + 12 + 4 * j by omega]
  rcases (show c = 1 ∨ c = 2 ∨ c = 3 ∨ c = 4 ∨ c = 5 ∨ c = 6 ∨ c = 7 ∨ c = 8 by omega) with rfl | rfl | rfl | rfl | rfl | rfl | rfl | rfl
  · exact h.1.1 1 j ⟨h1, h8, hj⟩
  · exact h.1.1 2 j ⟨h1, h8, hj⟩
  · exact h.1.1 3 j ⟨h1, h8, hj⟩
  · exact h.1.1 4 j ⟨h1, h8, hj⟩
  · exact h.1.1 5 j ⟨h1, h8, hj⟩
  · exact h.1.1 6 j ⟨h1, h8, hj⟩
  · exact h.1.1 7 j ⟨h1, h8, hj⟩
  · exact h.1.1 8 j ⟨h1, h8, hj⟩
theorem LandB.rg1 {g : Gc} {pa : Nat → Nat} {y r : Nat} {A m : Mm} (h : LandB g pa y r A m) {j : Nat} (hj : j < 12) : mI m (gz g + 155) j = mI A 1 j ∧ mI m (gz g + 156) j = mI A 2 j ∧ mI m (gz g + 165) j = mI A 8 j :=
  ⟨h.2.1 1 j ⟨⟨by omega, by omega, hj⟩, by omega, by omega⟩, h.2.1 2 j ⟨⟨by omega, by omega, hj⟩, by omega, by omega⟩, h.2.1 8 j ⟨⟨by omega, by omega, hj⟩, by omega, by omega⟩⟩
theorem LandB.rg2 {g : Gc} {pa : Nat → Nat} {y r : Nat} {A m : Mm} (h : LandB g pa y r A m) {j : Nat} (hj : j < 12) : mI m (gz g + 170) j = mI A 3 j ∧ mI m (gz g + 171) (3 * j) = mI A 4 j ∧ mI m (gz g + 171) (3 * j + 1) = mI A 5 j ∧ mI m (gz g + 171) (3 * j + 2) = mI A 6 j ∧ mI m (gz g + 172) j = mI A 7 j := by
  have e : 12 * 0 + j = j := by omega
  have h3 : mI m (gz g + 170) (12 * 0 + j) = mI A 3 j := h.2.1 3 j ⟨⟨by omega, by omega, hj⟩, by omega, by omega⟩
  have h4 : mI m (gz g + 171) (3 * (12 * 0 + j)) = mI A 4 j := h.2.1 4 j ⟨⟨by omega, by omega, hj⟩, by omega, by omega⟩
  have h5 : mI m (gz g + 171) (3 * (12 * 0 + j) + 1) = mI A 5 j := h.2.1 5 j ⟨⟨by omega, by omega, hj⟩, by omega, by omega⟩
  have h6 : mI m (gz g + 171) (3 * (12 * 0 + j) + 2) = mI A 6 j := h.2.1 6 j ⟨⟨by omega, by omega, hj⟩, by omega, by omega⟩
  have h7 : mI m (gz g + 172) (12 * 0 + j) = mI A 7 j := h.2.1 7 j ⟨⟨by omega, by omega, hj⟩, by omega, by omega⟩
  rw [e] at h3 h4 h5 h6 h7
  exact ⟨h3, h4, h5, h6, h7⟩
theorem LandB.rst {g : Gc} {pa : Nat → Nat} {y r : Nat} {A m : Mm} (h : LandB g pa y r A m) {j : Nat} (hj : j < 12) : mL m (gz g + (14 + 4 * j)) 12 = mL A 1 j ∧ mL m (gz g + 173) j = mL A 1 j := by
  have h1 := h.1.2 1 j (show vJ 12 1 j from hj)
  have h2 : mL m (gz g + 173) (12 * 0 + j) = mL A 1 j := h.2.2 1 j (show vJ 12 1 j from hj)
  rw [show 12 * 0 + j = j by omega] at h2
  rw [show gz g + (14 + 4 * j) = gz g + 2 + 12 + 4 * j by omega]
  exact ⟨h1, h2⟩
theorem LandB.crp {g : Gc} {pa : Nat → Nat} {y r : Nat} {A m : Mm} (h : LandB g pa y r A m) {j k : Nat} (hj : j < 12) (hk : k < y) : mI m (gz g + (16 + 4 * j)) k = mI A 17 (12 * k + j) ∧ mI m (gz g + 159) (12 * k + j) = mI A 17 (12 * k + j) := by
  have hv : vI 12 y r 17 (12 * k + j) := ⟨by omega, by omega⟩
  have h1 : mI m (gz g + 2 + 14 + 4 * ((12 * k + j) % 12)) ((12 * k + j) / 12) = mI A 17 (12 * k + j) := h.1.1 17 _ hv
  rw [show gz g + 2 + 14 + 4 * ((12 * k + j) % 12) = gz g + (16 + 4 * j) by omega, show (12 * k + j) / 12 = k by omega] at h1
  exact ⟨h1, h.2.1 17 _ ⟨hv, by omega, by omega⟩⟩
theorem LandB.yr {g : Gc} {pa : Nat → Nat} {y r : Nat} {A m : Mm} (h : LandB g pa y r A m) : mI m (gz g + 2) 9 = mI A 0 1 ∧ mI m (gz g + 166) 0 = mI A 0 1 :=
  ⟨h.1.1 0 1 (by show 1 < 7; omega), h.2.1 0 1 ⟨by show 1 < 7; omega, by omega, by omega⟩⟩
theorem LandB.off0 {g : Gc} {pa : Nat → Nat} {y r : Nat} {A m : Mm} (h : LandB g pa y r A m) (hp : PaOK g pa r) {j : Nat} (hj : j ≠ 19 ∧ j ≠ 47) (v : Int32) : LandB g pa y r A (sI m (gz g + 145) j v) :=
  ⟨h.1.offI (by omega) hp (by omega) (by omega) _ _, h.2.offM hj v⟩
def gsum (A : Mm) (a b : Int32) : Nat → Int64
  | 0 => 0
  | k + 1 => gsum A a b k + (if wi (mI A 3 k) a b = 0 then 0 else mL A 0 k)
theorem nI_s (k : Nat) : nI k + (1 : Int32) = nI (k + 1) := by rw [show (1 : Int32) = nI 1 from rfl, nI_add]
theorem le_12 {n k : Nat} (hn : n ≤ 12) (hk : k ≤ 12) : nI n ≤ nI k ↔ n ≤ k := by
  rw [i32_le, (nI_m1_12 n hn).2, (nI_m1_12 k hk).2]
  omega
theorem l_SLgains (g : Gc) {lv : Nat} {m A : Mm} {pa : Nat → Nat} {n y r : Nat} (hS : Sg g m) (hB : LandB g pa y r A m) (hn : mI A 0 0 = nI n) (h12 : n ≤ 12) (a b : Int32) {Q : Int64 → Mm → Prop} (hq : Q (gsum A a b n) m) : ∀ (d k : Nat), k + d = n → At g M_SL_gains (lv + 2) 5 [(0, va_rf (some (gz g))), (1, .int a), (2, .int b), (3, .long (gsum A a b k)), (5, .int (nI k))] [] m (QJ Q) := by
  intro d
  induction d with
  | zero =>
    intro k hk
    have : k = n := by omega
    subst this
    refine bk_SL_gains_5 g ⟨hS.k 0 rfl, gz g + 2, hS.r 0 1 rfl, hS.k 2 rfl, ?_⟩
    rw [hB.n.1, hn, if_pos ((le_12 h12 h12).2 (by omega))]
    exact hq
  | succ d ih =>
    intro k hk
    have hk2 : k < 12 := by omega
    refine bk_SL_gains_5 g ⟨hS.k 0 rfl, gz g + 2, hS.r 0 1 rfl, hS.k 2 rfl, ?_⟩
    rw [hB.n.1, hn, if_neg (fun h => absurd ((le_12 h12 (by omega)).1 h) (by omega)), nI_clamp (by omega), nI_s]
    refine ⟨gz g + 3, hS.r 2 1 rfl, hS.k 3 rfl, by rw [hS.n 3 rfl]; exact vp_in_nI (N := 12) (by omega) (by omega), gz g + (14 + 4 * k), hS.r 3 k (sh_gr k hk2).1, hS.k (14 + 4 * k) (sh_gr k hk2).2 (by omega), c_isWithin g ?_⟩
    rw [show mI m (gz g + (14 + 4 * k)) 5 = mI A 3 k from hB.cg (c := 3) hk2 (by omega) (by omega), (hB.mon hk2).1]
    have := ih (k + 1) (by omega)
    unfold gsum at this
    by_cases hz : wi (mI A 3 k) a b = 0
    · rw [if_pos hz, Int64.add_zero] at this
      rw [if_pos hz]
      exact this
    · rw [if_neg hz] at this
      rw [if_neg hz]
      exact this
theorem l_RFgains (g : Gc) {lv : Nat} {m A : Mm} {pa : Nat → Nat} {n y r : Nat} (hS : Sg g m) (hB : LandB g pa y r A m) (hn : mI A 0 0 = nI n) (h12 : n ≤ 12) (a b : Int32) {Q : Int64 → Mm → Prop} (hq : Q (gsum A a b n) m) : ∀ (d k : Nat), k + d = n → At g M_RF_gains (lv + 2) 10 [(0, va_rf (some (gz g + 145))), (1, .int a), (2, .int b), (3, .long (gsum A a b k)), (5, .int (nI k))] [] m (QJ Q) := by
  intro d
  induction d with
  | zero =>
    intro k hk
    have : k = n := by omega
    subst this
    refine bk_RF_gains_10 g ⟨hS.k 145 rfl, ?_⟩
    rw [hB.n.2, hn, if_pos ((le_12 h12 h12).2 (by omega))]
    exact hq
  | succ d ih =>
    intro k hk
    have hk2 : k < 12 := by omega
    refine bk_RF_gains_10 g ⟨hS.k 145 rfl, ?_⟩
    rw [hB.n.2, hn, if_neg (fun h => absurd ((le_12 h12 (by omega)).1 h) (by omega)), nI_clamp (by omega), nI_s]
    refine ⟨gz g + 170, hS.r 145 35 rfl, hS.k 170 rfl, by rw [hS.n 170 rfl]; exact vp_in_nI (N := 24) (by omega) (by omega), c_in g ?_⟩
    rw [(hB.rg2 hk2).1, wj_wide]
    have := ih (k + 1) (by omega)
    unfold gsum at this
    by_cases hz : wi (mI A 3 k) a b = 0
    · rw [if_pos hz] at this
      rw [if_pos hz]
      exact this
    · rw [if_neg hz] at this
      rw [if_neg hz]
      refine ⟨gz g + 174, hS.r 145 39 rfl, hS.k 174 rfl, by rw [hS.n 174 rfl]; exact vp_in_nI (N := 30) (by omega) (by omega), ?_⟩
      rw [(hB.mon hk2).2]
      exact this
theorem sim_gains (g : Gc) {lv : Nat} {m A : Mm} {pa : Nat → Nat} {n y r : Nat} (hS : Sg g m) (hB : LandB g pa y r A m) (hp : PaOK g pa r) (hn : mI A 0 0 = nI n) (h12 : n ≤ 12) (a b : Int32) : SimJ g M_SL_gains M_RF_gains (lv + 2) [.int a, .int b] m (fun m2 => Only g [] [0] m m2) := by
  unfold SimJ
  refine en_SL_gains g (l_SLgains g hS hB hn h12 a b ?_ n 0 (by omega))
  refine en_RF_gains g ⟨hS.k 145 rfl, fun m2 e2 => ?_⟩
  subst e2
  exact l_RFgains g (m := sI m (gz g + 145) 0 0) hS (hB.off0 hp (by omega) 0) hn h12 a b ⟨rfl, Only_sM m (by decide) 0⟩ n 0 (by omega)
