/-! ===== the free sacks as numbers ===== -/
def sumN (u : Nat → Nat) : Nat → Nat
  | 0 => 0
  | k + 1 => sumN u k + u k
theorem sumN_congr {u v : Nat → Nat} : ∀ k, (∀ j, j < k → u j = v j) → sumN u k = sumN v k
  | 0, _ => rfl
  | k + 1, h => by
    show sumN u k + u k = sumN v k + v k
    rw [sumN_congr k (fun j hj => h j (by omega)), h k (by omega)]
theorem sumN_le {u : Nat → Nat} {j : Nat} : ∀ k, j < k → u j ≤ sumN u k
  | 0, h => absurd h (by omega)
  | k + 1, h => by
    show u j ≤ sumN u k + u k
    by_cases e : j = k
    · subst e; omega
    · have := sumN_le (u := u) (j := j) k (by omega)
      omega
theorem sumN_mono {u : Nat → Nat} {j k : Nat} (h : j ≤ k) : sumN u j ≤ sumN u k := by
  induction k with
  | zero => have : j = 0 := by omega
            subst this; exact Nat.le_refl _
  | succ k ih =>
    by_cases e : j = k + 1
    · subst e; exact Nat.le_refl _
    · have := ih (by omega)
      show _ ≤ sumN u k + u k
      omega
theorem sumN_upd {u : Nat → Nat} {j x : Nat} : ∀ k, (j < k → sumN (fun i => if i = j then x else u i) k + u j = sumN u k + x) ∧ (¬ j < k → sumN (fun i => if i = j then x else u i) k = sumN u k)
  | 0 => ⟨fun h => absurd h (by omega), fun _ => rfl⟩
  | k + 1 => by
    obtain ⟨a, b⟩ := sumN_upd (u := u) (j := j) (x := x) k
    refine ⟨fun h => ?_, fun h => ?_⟩
    · show sumN _ k + (if k = j then x else u k) + u j = sumN u k + u k + x
      by_cases e : k = j
      · subst e; rw [if_pos rfl, b (by omega)]; omega
      · rw [if_neg e]; have := a (by omega); omega
    · show sumN _ k + (if k = j then x else u k) = sumN u k + u k
      rw [if_neg (by omega), b (by omega)]
/-- the free sacks are these numbers -/
def frN (n : Nat) (B : Mm) (u : Nat → Nat) : Prop := ∀ j, j < n → mI B 7 j = nI (u j) ∧ u j < 2 ^ 31
theorem sumL_N {A : Mm} {c : Nat} {u : Nat → Nat} : ∀ n, (∀ j, j < n → mI A c j = nI (u j) ∧ u j < 2 ^ 31) → sumL A c n = lN (sumN u n) ∧ sumT A c n = nI (sumN u n)
  | 0, _ => ⟨rfl, rfl⟩
  | n + 1, h => by
    obtain ⟨a, b⟩ := sumL_N n (fun j hj => h j (by omega))
    obtain ⟨e, l⟩ := h n (by omega)
    refine ⟨?_, ?_⟩
    · show sumL A c n + (mI A c n).toInt64 = _
      rw [a, e, nI_l l, lN_add]
      rfl
    · show sumT A c n + mI A c n = _
      rw [b, e, nI_add]
      rfl
theorem sellA_7 {A : Mm} {j i : Nat} {s p : Int32} : mI (sellA A j s p) 7 i = if i = j then mI A 7 j - s else mI A 7 i := by
  unfold sellA
  rw [mI_sL, mI_sI]
  by_cases h : i = j
  · subst h; rw [up2_at, if_pos rfl]
  · rw [up2_sl h, if_neg h]
theorem nI_sub {a b : Nat} (h : b ≤ a) (ha : a < 2 ^ 31) : nI a - nI b = nI (a - b) := by
  rw [← Int32.toInt_inj, Int32.toInt_sub, nI_toInt ha, nI_toInt (by omega), nI_toInt (by omega), Int.bmod_eq_of_le (by omega) (by omega)]
  omega
theorem frN.sell {n : Nat} {B : Mm} {u : Nat → Nat} {j s : Nat} {p : Int32} (h : frN n B u) (hj : j < n) (hs : s ≤ u j) : frN n (sellA B j (nI s) p) (fun i => if i = j then u j - s else u i) := by
  intro i hi
  rw [sellA_7]
  by_cases e : i = j
  · subst e
    obtain ⟨a, b⟩ := h i hi
    rw [if_pos rfl]
    simp only [if_true]
    rw [a]
    exact ⟨nI_sub hs b, by omega⟩
  · rw [if_neg e]
    simp only [if_neg e]
    exact h i hi
theorem soA_nat {n : Nat} {B : Mm} {u : Nat → Nat} {L : Nat} {p : Int32} (h : frN n B u) (hL : L < 2 ^ 31) : ∀ j, j ≤ n → ∃ (G : Nat) (u' : Nat → Nat), (soA B (lN L) p j).2 = lN G ∧ G ≤ L ∧ frN n (soA B (lN L) p j).1 u' ∧ sumN u' n + G = sumN u n ∧ (0 < G ∨ L = 0 ∨ ∀ i, i < j → u i = 0) ∧ ∀ i, j ≤ i → u' i = u i
  | 0, _ => ⟨0, u, rfl, by omega, h, by omega, Or.inr (Or.inr (fun i hi => absurd hi (by omega))), fun _ _ => rfl⟩
  | j + 1, hj => by
    obtain ⟨G, u', e1, e2, e3, e4, e5, e6⟩ := soA_nat (p := p) h hL j (by omega)
    unfold soA
    rw [e1]
    by_cases q1 : lN L ≤ lN G
    · rw [if_pos q1]
      have : L ≤ G := (lN_le (by omega) (by omega)).1 q1
      refine ⟨G, u', e1, e2, e3, e4, ?_, fun i hi => e6 i (by omega)⟩
      by_cases z : L = 0
      · exact Or.inr (Or.inl z)
      · exact Or.inl (by omega)
    · rw [if_neg q1]
      have hG : G < L := by
        rcases Nat.lt_or_ge G L with a | a
        · exact a
        · exact absurd ((lN_le (by omega) (by omega)).2 a) q1
      obtain ⟨f1, f2⟩ := e3 j (by omega)
      rw [f1]
      by_cases q2 : nI (u' j) ≤ 0
      · rw [if_pos q2]
        have z : u' j = 0 := (sk_0 f2).1.1 q2
        refine ⟨G, u', e1, e2, e3, e4, ?_, fun i hi => e6 i (by omega)⟩
        rcases e5 with a | a | a
        · exact Or.inl a
        · exact Or.inr (Or.inl a)
        · refine Or.inr (Or.inr (fun i hi => ?_))
          by_cases e : i = j
          · subst e; rw [← e6 i (by omega)]; exact z
          · exact a i (by omega)
      · rw [if_neg q2]
        have z : 1 ≤ u' j := by
          rcases Nat.eq_zero_or_pos (u' j) with a | a
          · exact absurd ((sk_0 f2).1.2 a) q2
          · exact a
        refine ⟨G + 1, fun i => if i = j then u' j - 1 else u' i, lN_1 G, by omega, e3.sell (s := 1) (by omega) z, ?_, Or.inl (by omega), fun i hi => ?_⟩
        · have := (sumN_upd (u := u') (j := j) (x := u' j - 1) n).1 (by omega)
          omega
        · show (if i = j then _ else u' i) = u i
          rw [if_neg (by omega)]; exact e6 i (by omega)
theorem sumN_zero {u : Nat → Nat} : ∀ n, (∀ i, i < n → u i = 0) → sumN u n = 0
  | 0, _ => rfl
  | n + 1, h => by
    show sumN u n + u n = 0
    rw [sumN_zero n (fun i hi => h i (by omega)), h n (by omega)]
theorem rdA_nat {n : Nat} {B : Mm} {u : Nat → Nat} {L : Nat} {p : Int32} (h : frN n B u) (hL : L < 2 ^ 31) (hs : L ≤ sumN u n) : ∀ k, ∃ (L' : Nat) (u' : Nat → Nat), (rdA B (lN L) p n k).2 = lN L' ∧ L' ≤ L ∧ frN n (rdA B (lN L) p n k).1 u' ∧ sumN u' n + L = sumN u n + L' ∧ (L' = 0 ∨ L' + k ≤ L)
  | 0 => ⟨L, u, rfl, Nat.le_refl _, h, rfl, Or.inr (by omega)⟩
  | k + 1 => by
    obtain ⟨L', u', e1, e2, e3, e4, e5⟩ := rdA_nat (p := p) h hL hs k
    unfold rdA
    rw [e1]
    by_cases q : lN L' ≤ 0
    · rw [if_pos q]
      have z : L' = 0 := by
        have := (lN_le (a := L') (b := 0) (by omega) (by omega)).1 q
        omega
      exact ⟨L', u', e1, e2, e3, e4, Or.inl z⟩
    · rw [if_neg q]
      have z : 0 < L' := by
        rcases Nat.eq_zero_or_pos L' with a | a
        · exact absurd ((lN_le (a := L') (b := 0) (by omega) (by omega)).2 (by omega)) q
        · exact a
      obtain ⟨G, u2, f1, f2, f3, f4, f5, f6⟩ := soA_nat (p := p) e3 (show L' < 2 ^ 31 by omega) n (Nat.le_refl _)
      have hG : 0 < G := by
        rcases f5 with a | a | a
        · exact a
        · omega
        · have := sumN_zero n a
          omega
      refine ⟨L' - G, u2, ?_, by omega, f3, by omega, ?_⟩
      · show lN L' - (soA _ _ _ _).2 = _
        rw [f1, lN_sub f2]
      · rcases e5 with a | a
        · omega
        · by_cases w : L' - G = 0
          · exact Or.inl w
          · exact Or.inr (by omega)
/-- the share of a grower -/
def shrN (v : Nat → Nat) (E F j : Nat) : Nat := v j * E / F
theorem shrN_le {v : Nat → Nat} {E F j : Nat} (hE : E ≤ F) (hF : 0 < F) : shrN v E F j ≤ v j := by
  unfold shrN
  have h1 : v j * E ≤ v j * F := Nat.mul_le_mul_left _ hE
  have h2 : v j * E / F ≤ v j * F / F := Nat.div_le_div_right h1
  rw [Nat.mul_div_cancel _ hF] at h2
  exact h2
theorem shrN_sum {v : Nat → Nat} {E F : Nat} (hF : 0 < F) : ∀ k, F * sumN (shrN v E F) k ≤ E * sumN v k ∧ (0 < k → E * sumN v k < F * sumN (shrN v E F) k + k * F)
  | 0 => ⟨by show F * 0 ≤ E * 0; omega, fun h => absurd h (by omega)⟩
  | k + 1 => by
    obtain ⟨a, b⟩ := shrN_sum (v := v) (E := E) hF k
    have d1 : F * (v k * E / F) + v k * E % F = v k * E := Nat.div_add_mod _ _
    have d2 : v k * E % F < F := Nat.mod_lt _ hF
    have e1 : F * sumN (shrN v E F) (k + 1) = F * sumN (shrN v E F) k + F * (v k * E / F) := Nat.mul_add _ _ _
    have e2 : E * sumN v (k + 1) = E * sumN v k + v k * E := by
      show E * (sumN v k + v k) = _
      rw [Nat.mul_add, Nat.mul_comm E (v k)]
    have e3 : (k + 1) * F = k * F + F := Nat.succ_mul k F
    rw [e1, e2, e3]
    refine ⟨by omega, fun _ => ?_⟩
    rcases Nat.eq_zero_or_pos k with rfl | hk
    · have : E * sumN v 0 = 0 := Nat.mul_zero _
      have : F * sumN (shrN v E F) 0 = 0 := Nat.mul_zero _
      omega
    · have := b hk
      omega
theorem sfA_nat {n : Nat} {A : Mm} {v : Nat → Nat} {E F : Nat} {p : Int32} (h : frN n A v) (hF : sumN v n = F) (hF0 : 0 < F) (hF2 : F < 2 ^ 31) (hE : E ≤ F) : ∀ k, k ≤ n → sumN (shrN v E F) k ≤ E ∧ (sfA A (lN E) (lN F) p k).2 = lN (E - sumN (shrN v E F) k) ∧ frN n (sfA A (lN E) (lN F) p k).1 (fun j => if j < k then v j - shrN v E F j else v j)
  | 0, _ => ⟨Nat.zero_le _, rfl, fun j hj => by simp only [Nat.not_lt_zero, if_false]; exact h j hj⟩
  | k + 1, hk => by
    obtain ⟨a, b, c⟩ := sfA_nat (p := p) h hF hF0 hF2 hE k (by omega)
    have sm : sumN (shrN v E F) (k + 1) ≤ E := by
      have h1 := (shrN_sum (v := v) (E := E) hF0 (k + 1)).1
      have h2 : E * sumN v (k + 1) ≤ E * F := Nat.mul_le_mul_left _ (by rw [← hF]; exact sumN_mono (by omega))
      have h3 : F * sumN (shrN v E F) (k + 1) ≤ F * E := by rw [Nat.mul_comm F E]; omega
      exact Nat.le_of_mul_le_mul_left h3 hF0
    obtain ⟨c1, c2⟩ := c k (by omega)
    simp only [Nat.lt_irrefl, if_false] at c1 c2
    have sl := shrN_le (v := v) (j := k) hE hF0
    have sv : ((mI (sfA A (lN E) (lN F) p k).1 7 k).toInt64 * lN E / lN F).toInt32 = nI (shrN v E F k) := by
      have m1 : v k * E < 2 ^ 63 := by
        have : v k * E ≤ 2 ^ 31 * 2 ^ 31 := Nat.mul_le_mul (by omega) (by omega)
        omega
      rw [c1, nI_l c2, lN_mul, lN_div m1 hF2, lN_i]
      rfl
    refine ⟨sm, ?_, ?_⟩
    · show (sfA A (lN E) (lN F) p k).2 - _ = _
      rw [sv, b, nI_l (by omega), lN_sub (by
        have : sumN (shrN v E F) (k + 1) = sumN (shrN v E F) k + shrN v E F k := rfl
        omega)]
      have : sumN (shrN v E F) (k + 1) = sumN (shrN v E F) k + shrN v E F k := rfl
      rw [this]
      congr 1
      omega
    · show frN n (sellA _ k _ p) _
      rw [sv]
      have := c.sell (p := p) (j := k) (s := shrN v E F k) (by omega) (by simp only [Nat.lt_irrefl, if_false]; exact sl)
      intro i hi
      have z := this i hi
      by_cases e : i = k
      · subst e
        simp only [if_true, Nat.lt_irrefl, if_false] at z
        simp only [Nat.lt_succ_self, if_true]
        exact z
      · simp only [if_neg e] at z
        by_cases l : i < k
        · rw [if_pos l] at z
          simp only [if_pos (show i < k + 1 by omega)]
          exact z
        · rw [if_neg l] at z
          simp only [if_neg (show ¬ i < k + 1 by omega)]
          exact z
theorem sumN_sub {v s : Nat → Nat} : ∀ k, (∀ j, j < k → s j ≤ v j) → sumN (fun j => v j - s j) k + sumN s k = sumN v k
  | 0, _ => rfl
  | k + 1, h => by
    have := sumN_sub k (fun j hj => h j (by omega))
    have h1 := h k (by omega)
    show sumN (fun j => v j - s j) k + (v k - s k) + (sumN s k + s k) = sumN v k + v k
    omega
