/-! ===== a land: the holders' cells apart; the plain readers ===== -/
theorem cJ_inj {t n : Nat} (hn : n ≤ 12) : InjK (vJ n) (cJ t) := by
  intro c i c' i' hv hv' he
  have cases3 : ∀ {c i : Nat}, vJ n c i → (c = 0 ∧ (i < n ∨ (12 ≤ i ∧ i < 15))) ∨ (c = 1 ∧ i < n) ∨ (c = 2 ∧ i < 8) := by
    intro c i h
    unfold vJ at h
    split at h
    · exact Or.inl ⟨rfl, h⟩
    · exact Or.inr (Or.inl ⟨rfl, h⟩)
    · exact Or.inr (Or.inr ⟨rfl, h⟩)
    · exact absurd h id
  have a1 := congrArg Prod.fst he
  have a2 := congrArg Prod.snd he
  rcases cases3 hv with ⟨rfl, h1⟩ | ⟨rfl, h1⟩ | ⟨rfl, h1⟩ <;> rcases cases3 hv' with ⟨rfl, h2⟩ | ⟨rfl, h2⟩ | ⟨rfl, h2⟩ <;> simp only [cJ] at a1 a2 <;> (try split at a1) <;> (try split at a1) <;> (try split at a2) <;> (try split at a2) <;> (try simp only at a1 a2) <;> refine ⟨?_, ?_⟩ <;> omega
theorem rJ_inj {M l n : Nat} (hn : n ≤ 12) : InjK (vJ n) (rJ M l) := by
  intro c i c' i' hv hv' he
  have cases3 : ∀ {c i : Nat}, vJ n c i → (c = 0 ∧ (i < n ∨ (12 ≤ i ∧ i < 15))) ∨ (c = 1 ∧ i < n) ∨ (c = 2 ∧ i < 8) := by
    intro c i h
    unfold vJ at h
    split at h
    · exact Or.inl ⟨rfl, h⟩
    · exact Or.inr (Or.inl ⟨rfl, h⟩)
    · exact Or.inr (Or.inr ⟨rfl, h⟩)
    · exact absurd h id
  have a1 := congrArg Prod.fst he
  have a2 := congrArg Prod.snd he
  rcases cases3 hv with ⟨rfl, h1⟩ | ⟨rfl, h1⟩ | ⟨rfl, h1⟩ <;> rcases cases3 hv' with ⟨rfl, h2⟩ | ⟨rfl, h2⟩ | ⟨rfl, h2⟩ <;> simp only [rJ] at a1 a2 <;> refine ⟨?_, ?_⟩ <;> omega
/-- which ints the reference has in cells of its own -/
def vR (n y r : Nat) (c i : Nat) : Prop := vI n y r c i ∧ c ≠ 16 ∧ ¬ (c = 0 ∧ i = 5)
def rInv (M l : Nat) (q : Nat × Nat) : Nat × Nat :=
  let d := q.1 - M
  if d = 0 then (0, if q.2 = 19 then 0 else 6)
  else if d = 26 then (4 + (q.2 - 36 * l) % 3, (q.2 - 36 * l) / 3)
  else if 21 ≤ d ∧ d < 25 then (0, d - 20)
  else if d = 10 then (1, q.2)
  else if d = 11 then (2, q.2)
  else if d = 25 then (3, q.2 - 12 * l)
  else if d = 27 then (7, q.2 - 12 * l)
  else if d = 20 then (8, q.2)
  else if 30 ≤ d then (d - 21, q.2 - 400 * l)
  else if d = 14 then (17, q.2)
  else if d = 17 then (18, q.2)
  else if d = 15 then (19, q.2)
  else if d = 16 then (20, q.2)
  else if d = 5 then (21, q.2)
  else (22, q.2)
theorem rInv_ok {M l n y r c i : Nat} (hv : vR n y r c i) : rInv M l (rI' M l c i) = (c, i) := by
  obtain ⟨hv, h16, h5⟩ := hv
  unfold vI at hv
  split at hv
  · rcases (show i = 0 ∨ i = 1 ∨ i = 2 ∨ i = 3 ∨ i = 4 ∨ i = 6 by omega) with rfl | rfl | rfl | rfl | rfl | rfl <;> simp [rI', rInv]
  · show rInv M l (M + 30, 400 * l + i) = (9, i)
    simp [rInv]
  · show rInv M l (M + 31, 400 * l + i) = (10, i)
    simp [rInv]
  · show rInv M l (M + 32, 400 * l + i) = (11, i)
    simp [rInv]
  · exact absurd rfl h16
  · show rInv M l (M + 14, i) = (17, i)
    simp [rInv]
  · show rInv M l (M + 17, i) = (18, i)
    simp [rInv]
  · show rInv M l (M + 15, i) = (19, i)
    simp [rInv]
  · show rInv M l (M + 16, i) = (20, i)
    simp [rInv]
  · show rInv M l (M + 5, i) = (21, i)
    simp [rInv]
  · show rInv M l (M + 6, i) = (22, i)
    simp [rInv]
  · obtain ⟨h1, h2, h3⟩ := hv
    rcases (show c = 1 ∨ c = 2 ∨ c = 3 ∨ c = 4 ∨ c = 5 ∨ c = 6 ∨ c = 7 ∨ c = 8 by omega) with rfl | rfl | rfl | rfl | rfl | rfl | rfl | rfl
    · show rInv M l (M + 10, i) = (1, i)
      simp [rInv]
    · show rInv M l (M + 11, i) = (2, i)
      simp [rInv]
    · show rInv M l (M + 25, 12 * l + i) = (3, i)
      simp [rInv]
    · have : rInv M l (M + 26, 3 * (12 * l + i)) = (4 + (3 * (12 * l + i) - 36 * l) % 3, (3 * (12 * l + i) - 36 * l) / 3) := by simp [rInv]
      exact this.trans (Prod.ext (by simp only; omega) (by simp only; omega))
    · have : rInv M l (M + 26, 3 * (12 * l + i) + 1) = (4 + (3 * (12 * l + i) + 1 - 36 * l) % 3, (3 * (12 * l + i) + 1 - 36 * l) / 3) := by simp [rInv]
      exact this.trans (Prod.ext (by simp only; omega) (by simp only; omega))
    · have : rInv M l (M + 26, 3 * (12 * l + i) + 2) = (4 + (3 * (12 * l + i) + 2 - 36 * l) % 3, (3 * (12 * l + i) + 2 - 36 * l) / 3) := by simp [rInv]
      exact this.trans (Prod.ext (by simp only; omega) (by simp only; omega))
    · show rInv M l (M + 27, 12 * l + i) = (7, i)
      simp [rInv]
    · show rInv M l (M + 20, i) = (8, i)
      simp [rInv]
theorem rI_inj {M l n y r : Nat} : InjK (vR n y r) (rI' M l) := by
  intro c i c' i' hv hv' he
  have k1 := rInv_ok (M := M) (l := l) hv
  rw [he] at k1
  have := k1.symm.trans (rInv_ok (M := M) (l := l) hv')
  exact ⟨congrArg Prod.fst this, congrArg Prod.snd this⟩
/-- the land of the class (t: its place) and that of the reference (l: 0 the land, 1 the other one) hold A -/
def LandC (g : Gc) (t : Nat) (pa : Nat → Nat) (n y r : Nat) (A m : Mm) : Prop := HoldI (vI n y r) (cI (gz g + t) pa) A m ∧ HoldJ (vJ n) (cJ (gz g + t)) A m
def LandR (g : Gc) (l n y r : Nat) (A m : Mm) : Prop := HoldI (vR n y r) (rI' (gz g + 145) l) A m ∧ HoldJ (vJ n) (rJ (gz g + 145) l) A m
/-- the two together, in one memory: the main land -/
def LandB (g : Gc) (pa : Nat → Nat) (y r : Nat) (A m : Mm) : Prop := LandC g 2 pa 12 y r A m ∧ LandR g 0 12 y r A m
theorem LandB.sum {g : Gc} {pa : Nat → Nat} {y r : Nat} {A m : Mm} (h : LandB g pa y r A m) {j : Nat} (hj : j < 8) : mL m (gz g + 13) j = mL A 2 j ∧ mL m (gz g + 178) j = mL A 2 j := by
  refine ⟨h.1.2 2 j hj, ?_⟩
  have := h.2.2 2 j hj
  rw [show rJ (gz g + 145) 0 2 j = (gz g + 178, j) from Prod.ext rfl (by show 8 * 0 + j = j; omega)] at this
  exact this
theorem LandB.mon {g : Gc} {pa : Nat → Nat} {y r : Nat} {A m : Mm} (h : LandB g pa y r A m) {j : Nat} (hj : j < 12) : mL m (gz g + (14 + 4 * j)) 11 = mL A 0 j ∧ mL m (gz g + 174) j = mL A 0 j := by
  have hv : vJ 12 0 j := Or.inl hj
  have h1 := h.1.2 0 j hv
  have h2 := h.2.2 0 j hv
  rw [show cJ (gz g + 2) 0 j = (gz g + (14 + 4 * j), 11) by simp only [cJ]; rw [if_pos hj]; exact Prod.ext (by simp only; omega) rfl] at h1
  rw [show rJ (gz g + 145) 0 0 j = (gz g + 174, j) from Prod.ext rfl (by show 15 * 0 + j = j; omega)] at h2
  exact ⟨h1, h2⟩
theorem LandB.bmon {g : Gc} {pa : Nat → Nat} {y r : Nat} {A m : Mm} (h : LandB g pa y r A m) {j : Nat} (hj : j < 3) : mL m (gz g + (62 + j)) 2 = mL A 0 (12 + j) ∧ mL m (gz g + 174) (12 + j) = mL A 0 (12 + j) := by
  have hv : vJ 12 0 (12 + j) := Or.inr (by omega)
  have h1 := h.1.2 0 (12 + j) hv
  have h2 := h.2.2 0 (12 + j) hv
  rw [show cJ (gz g + 2) 0 (12 + j) = (gz g + (62 + j), 2) by simp only [cJ]; rw [if_neg (by omega)]; exact Prod.ext (by simp only; omega) rfl] at h1
  rw [show rJ (gz g + 145) 0 0 (12 + j) = (gz g + 174, 12 + j) from Prod.ext rfl (by show 15 * 0 + (12 + j) = 12 + j; omega)] at h2
  exact ⟨h1, h2⟩
theorem LandB.n {g : Gc} {pa : Nat → Nat} {y r : Nat} {A m : Mm} (h : LandB g pa y r A m) : mI m (gz g + 2) 8 = mI A 0 0 ∧ mI m (gz g + 145) 19 = mI A 0 0 :=
  ⟨h.1.1 0 0 (by show 0 < 7; omega), h.2.1 0 0 ⟨by show 0 < 7; omega, by omega, by omega⟩⟩
theorem sim_sum (g : Gc) {lv : Nat} {m A : Mm} {pa : Nat → Nat} {y r : Nat} (hS : Sg g m) (hB : LandB g pa y r A m) (x : Int32) : SimJ g M_SL_sum M_RF_sum_I (lv + 2) [.int x] m (fun m2 => Only g [] [0] m m2) := by
  have e1 : wj x.toInt64 (0 : Int64) (7 : Int64) = wi x 0 7 := wj_wide x 0 7
  have on0 : Only g [] [0] m (sI m (gz g + 145) 0 0) := Only_sM m (by decide) 0
  unfold SimJ
  refine en_SL_sum g (c_isWithin g ?_)
  by_cases h1 : wi x 0 7 = 0
  · rw [if_pos h1]
    refine en_RF_sum_I g ⟨hS.k 145 rfl, fun m2 e2 => ?_⟩
    subst e2
    refine c_in g ?_
    rw [e1, if_pos h1]
    exact ⟨rfl, on0⟩
  rw [if_neg h1]
  obtain ⟨j, -, hj, rfl⟩ := wi_rng (a := 0) (c := 7) rfl rfl (by omega) (by omega) h1
  refine ⟨hS.k 0 rfl, gz g + 2, hS.r 0 1 rfl, hS.k 2 rfl, gz g + 13, hS.r 2 7 rfl, hS.k 13 rfl, by rw [hS.n 13 rfl]; exact vp_in_nI (N := 8) (by omega) (by omega), ?_⟩
  refine en_RF_sum_I g ⟨hS.k 145 rfl, fun m2 e2 => ?_⟩
  subst e2
  refine c_in g ?_
  rw [e1, if_neg h1]
  refine ⟨gz g + 178, hS.r 145 43 rfl, hS.k 178 rfl, by rw [mN_sI, hS.n 178 rfl]; exact vp_in_nI (N := 16) (by omega) (by omega), ?_⟩
  rw [nI_clamp (by omega), mL_sI, (hB.sum (j := j) (by omega)).1, (hB.sum (j := j) (by omega)).2]
  exact ⟨rfl, on0⟩
theorem sh_gr : ∀ j, j < 12 → shR 3 j = some (14 + 4 * j) ∧ shK (14 + 4 * j) = 2 := by decide +kernel
theorem sh_bk : ∀ j, j < 3 → shR 4 j = some (62 + j) ∧ shK (62 + j) = 1 := by decide +kernel
theorem nI_m1_12 : ∀ n, n ≤ 12 → (nI n - (1 : Int32)).toInt = (n : Int) - 1 ∧ (nI n).toInt = (n : Int) := by decide +kernel
theorem c_hasGrower (g : Gc) {lv t n : Nat} {x : Int32} {m : Mm} {Q : Int32 → Mm → Prop} (hk : mK m t = 4) (hn : mI m t 8 = nI n) (h12 : n ≤ 12) (h : Q (wi x 0 (nI n - 1)) m) : CI g M_Land_hasGrower (lv + 1) [va_rf (some t), .int x] m Q := by
  refine en_Land_hasGrower g ?_
  unfold wi at h
  by_cases h1 : x < 0
  · rw [if_pos h1] at h ⊢
    exact h
  rw [if_neg h1] at h ⊢
  refine ⟨hk, ?_⟩
  rw [hn]
  obtain ⟨a, b⟩ := nI_m1_12 n h12
  by_cases h2 : nI n ≤ x
  · rw [if_pos h2]
    rw [if_pos (by rw [i32_lt]; rw [i32_le] at h2; omega)] at h
    exact h
  · rw [if_neg h2]
    rw [if_neg (by rw [i32_lt]; rw [i32_le] at h2; omega)] at h
    exact h
theorem c_isGrower (g : Gc) {lv n : Nat} {x : Int32} {m : Mm} {Q : Int32 → Mm → Prop} (hk : mK m (gz g + 145) = 13) (hn : mI m (gz g + 145) 19 = nI n) (h : Q (wi x 0 (nI n - 1)) m) : CI g M_RF_isGrower (lv + 2) [va_rf (some (gz g + 145)), .int x] m Q := by
  refine en_RF_isGrower g ⟨hk, c_in g ?_⟩
  rw [hn, show wj x.toInt64 (0 : Int64) (nI n - 1).toInt64 = wi x 0 (nI n - 1) from wj_wide x 0 (nI n - 1)]
  exact ⟨wi_01 _ _ _, h⟩
theorem gr_of {x : Int32} {n : Nat} (h12 : n ≤ 12) (h : ¬ wi x 0 (nI n - 1) = 0) : ∃ j : Nat, j < n ∧ x = nI j := by
  rcases Nat.eq_zero_or_pos n with rfl | hp
  · exact absurd (wi_eq0.2 (by
      by_cases q : x < 0
      · exact Or.inl q
      · refine Or.inr ?_
        rw [i32_lt] at q ⊢
        have := (nI_m1_12 0 (by omega)).1
        have z : (0 : Int32).toInt = 0 := rfl
        omega)) h
  · obtain ⟨j, -, hj, e⟩ := wi_rng (a := 0) (c := n - 1) rfl (nI_m1 hp) (by omega) (by omega) h
    exact ⟨j, by omega, e⟩
theorem sim_money (g : Gc) {lv : Nat} {m A : Mm} {pa : Nat → Nat} {n y r : Nat} (hS : Sg g m) (hB : LandB g pa y r A m) (hn : mI A 0 0 = nI n) (h12 : n ≤ 12) (x : Int32) : SimJ g M_SL_money M_RF_money (lv + 3) [.int x] m (fun m2 => Only g [] [0] m m2) := by
  have e1 : wj x.toInt64 (12 : Int64) (14 : Int64) = wi x 12 14 := wj_wide x 12 14
  have on0 : Only g [] [0] m (sI m (gz g + 145) 0 0) := Only_sM m (by decide) 0
  have n1 : mI m (gz g + 2) 8 = nI n := hB.n.1.trans hn
  have n2 : mI (sI m (gz g + 145) 0 0) (gz g + 145) 19 = nI n := by rw [mI_sI, up2_sl (by omega)]; exact hB.n.2.trans hn
  unfold SimJ
  refine en_SL_money g ⟨hS.k 0 rfl, gz g + 2, hS.r 0 1 rfl, hS.k 2 rfl, ?_⟩
  refine en_Land_moneyOf g ⟨hS.k 2 rfl, c_hasGrower g (hS.k 2 rfl) n1 h12 ?_⟩
  by_cases h1 : wi x 0 (nI n - 1) = 0
  · rw [if_pos h1]
    refine c_isWithin g ?_
    by_cases h2 : wi x 12 14 = 0
    · rw [if_pos h2]
      refine en_RF_money g ⟨hS.k 145 rfl, fun m2 e2 => ?_⟩
      subst e2
      refine c_isGrower g (hS.k 145 rfl) n2 ?_
      rw [if_pos h1]
      refine c_in g ?_
      rw [e1, if_pos h2]
      exact ⟨rfl, on0⟩
    rw [if_neg h2]
    obtain ⟨j', hl, hj', rfl⟩ := wi_rng (a := 12) (c := 14) rfl rfl (by omega) (by omega) h2
    obtain ⟨j, rfl⟩ : ∃ j, j' = 12 + j := ⟨j' - 12, by omega⟩
    have hj : j < 3 := by omega
    have es : nI (12 + j) - (12 : Int32) = nI j := (by decide +kernel : ∀ j, j < 3 → nI (12 + j) - (12 : Int32) = nI j) j hj
    rw [es, nI_clamp (by omega)]
    refine ⟨gz g + 4, hS.r 2 2 rfl, hS.k 4 rfl, by rw [hS.n 4 rfl]; exact vp_in_nI (N := 3) (by omega) (by omega), gz g + (62 + j), hS.r 4 j (sh_bk j hj).1, hS.k (62 + j) (sh_bk j hj).2 (by omega), ?_⟩
    refine en_RF_money g ⟨hS.k 145 rfl, fun m2 e2 => ?_⟩
    subst e2
    refine c_isGrower g (hS.k 145 rfl) n2 ?_
    rw [if_pos h1]
    refine c_in g ?_
    rw [e1, if_neg h2]
    refine ⟨gz g + 174, hS.r 145 39 rfl, hS.k 174 rfl, by rw [mN_sI, hS.n 174 rfl]; exact vp_in_nI (N := 30) (by omega) (by omega), ?_⟩
    rw [nI_clamp (by omega), mL_sI, (hB.bmon hj).1, (hB.bmon hj).2]
    exact ⟨rfl, on0⟩
  rw [if_neg h1]
  obtain ⟨j, hj, rfl⟩ := gr_of h12 h1
  have hj2 : j < 12 := by omega
  rw [nI_clamp (by omega)]
  refine ⟨gz g + 3, hS.r 2 1 rfl, hS.k 3 rfl, by rw [hS.n 3 rfl]; exact vp_in_nI (N := 12) (by omega) (by omega), gz g + (14 + 4 * j), hS.r 3 j (sh_gr j hj2).1, hS.k (14 + 4 * j) (sh_gr j hj2).2 (by omega), ?_⟩
  refine en_RF_money g ⟨hS.k 145 rfl, fun m2 e2 => ?_⟩
  subst e2
  refine c_isGrower g (hS.k 145 rfl) n2 ?_
  rw [if_neg h1]
  refine ⟨gz g + 174, hS.r 145 39 rfl, hS.k 174 rfl, by rw [mN_sI, hS.n 174 rfl]; exact vp_in_nI (N := 30) (by omega) (by omega), ?_⟩
  rw [nI_clamp (by omega), mL_sI, (hB.mon hj2).1, (hB.mon hj2).2]
  exact ⟨rfl, on0⟩
