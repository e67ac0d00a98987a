/-! ===== Arrays.fill; a row of told; the grower who comes ===== -/
theorem l_fill (g : Gc) {lv b N : Nat} {v : Int32} {m : Mm} (hk : mK m b = 15) (hN : mN m b = N) (h31 : N < 2 ^ 31) {Q : Mm → Prop} : ∀ (d k : Nat) (f : Nat → Int32), k + d = N → (∀ f2 : Nat → Int32, (∀ i, k ≤ i → i < N → f2 i = v) → (∀ i, ¬ (k ≤ i ∧ i < N) → f2 i = f i) → Q (rI m b f2)) →
    At g M_Arrays_fill (lv + 1) 5 [(0, va_rf (some b)), (1, .int v), (2, .int (nI k)), (3, .int (nI N))] [] (rI m b f) (QV Q) := by
  intro d
  induction d with
  | zero =>
    intro k f hkd h
    refine bk_Arrays_fill_5 g ?_
    rw [if_pos (nI_le (by omega) (by omega))]
    exact h f (fun i h1 h2 => absurd h2 (by omega)) (fun _ _ => rfl)
  | succ d ih =>
    intro k f hkd h
    refine bk_Arrays_fill_5 g ?_
    rw [if_neg (nI_ge (by omega) (by omega))]
    refine ⟨b, rfl, hk, ?_, fun m6 e6 => ?_⟩
    · rw [show mN (rI m b f) b = N from hN]
      exact vp_in_nI (by omega) (by omega)
    · rw [nI_clamp (by omega), sI_rI] at e6
      subst e6
      rw [nI_1]
      refine ih (k + 1) _ (by omega) (fun f2 h1 h2 => h f2 (fun i h3 h4 => ?_) (fun i h3 => ?_))
      · by_cases hi : i = k
        · rw [h2 i (by omega)]; simp [va_up, hi]
        · exact h1 i (by omega) h4
      · rw [h2 i (by omega)]
        simp only [va_up]
        rw [if_neg (by omega)]
theorem c_fill (g : Gc) {lv b N : Nat} {v : Int32} {m : Mm} (hk : mK m b = 15) (hN : mN m b = N) (h31 : N < 2 ^ 31) {Q : Mm → Prop} (h : ∀ f2 : Nat → Int32, (∀ i, i < N → f2 i = v) → (∀ i, N ≤ i → f2 i = mI m b i) → Q (rI m b f2)) : CV g M_Arrays_fill (lv + 1) [va_rf (some b), .int v] m Q := by
  refine en_Arrays_fill g ⟨b, rfl, hk, ?_⟩
  rw [hN]
  have := l_fill g (lv := lv) (v := v) hk hN h31 (Q := Q) N 0 (mI m b) (by omega) (fun f2 h1 h2 => h f2 (fun i hi => h1 i (by omega) hi) (fun i hi => h2 i (by omega)))
  rw [rI_self] at this
  exact this
theorem sI_self {A : Mm} {c i : Nat} {v : Int32} (h : mI A c i = v) : sI A c i v = A := by
  obtain ⟨a, b⟩ := A
  refine congrArg (fun f => (f, b)) ?_
  funext q k
  by_cases h1 : q = c
  · subst h1
    by_cases h2 : k = i
    · subst h2; simp [up2, mI]; exact h.symm
    · simp [up2, mI, h2]
  · simp [up2, mI, h1]
/-- a grower's row of told, filled -/
def fillT (A : Mm) (n : Nat) : Mm := rI A 16 (fun i => if i % 12 = n ∧ i < 360 then -1 else mI A 16 i)
theorem LandC.fill {g : Gc} {pa : Nat → Nat} {n y r : Nat} {A m : Mm} (h : LandC g 2 pa 12 y r A m) (hp : PaOK g pa r) (hn : n < 12) {f : Nat → Int32} (hf : ∀ i, i < 30 → f i = -1) : LandC g 2 pa 12 y r (fillT A n) (rI m (gz g + (15 + 4 * n)) f) := by
  refine ⟨fun c i hv => ?_, h.2⟩
  by_cases h16 : c = 16
  · subst h16
    obtain ⟨v1, v2⟩ := hv
    show mI (rI m (gz g + (15 + 4 * n)) f) (gz g + 2 + 13 + 4 * (i % 12)) (i / 12) = mI (fillT A n) 16 i
    unfold fillT
    rw [mI_rI]
    by_cases hi : i % 12 = n
    · rw [if_pos ⟨hi, v2⟩, show gz g + 2 + 13 + 4 * (i % 12) = gz g + (15 + 4 * n) by omega, mI_rI]
      exact hf _ (by omega)
    · rw [if_neg (fun q => hi q.1), mI_rI_ne (by omega)]
      exact h.1 16 i ⟨v1, v2⟩
  · have e1 : mI (fillT A n) c i = mI A c i := by unfold fillT; rw [mI_rI_ne h16]
    rw [e1, mI_rI_ne]
    · exact h.1 c i hv
    · intro he
      by_cases h9 : c = 9 ∨ c = 10 ∨ c = 11
      · have hpa : ∃ k, k < r ∧ (cI (gz g + 2) pa c i).1 = pa k := by
          rcases h9 with rfl | rfl | rfl
          · exact ⟨i, hv, rfl⟩
          · exact ⟨i, hv, rfl⟩
          · exact ⟨i, hv, rfl⟩
        obtain ⟨k, hk, e⟩ := hpa
        have := hp.2 k hk
        omega
      · have k1 := (cInv_ok (t := gz g + 2) (pa := pa) (by omega) hv (by omega)).1
        unfold cInv at k1
        simp only at k1
        rw [he, if_neg (by omega), if_neg (by omega), if_neg (by omega), if_neg (by omega), if_pos (by omega), if_neg (by omega), if_pos (by omega)] at k1
        exact h16 (congrArg Prod.fst k1).symm
theorem LandR.fill {g : Gc} {l n y r : Nat} {A m : Mm} (h : LandR g l 12 y r A m) : LandR g l 12 y r (fillT A n) m := by
  refine ⟨fun c i hv => ?_, h.2⟩
  have e1 : mI (fillT A n) c i = mI A c i := by unfold fillT; rw [mI_rI_ne hv.2.1]
  rw [e1]
  exact h.1 c i hv
/-- growers who have not come: nothing stands at their places -/
def Blank (n : Nat) (A : Mm) : Prop := ∀ j, n ≤ j → j < 12 → mI A 4 j = 0 ∧ mI A 5 j = 0 ∧ mI A 6 j = 0 ∧ mI A 7 j = 0 ∧ mI A 8 j = 0 ∧ mL A 0 j = 0 ∧ mL A 1 j = 0
theorem sL_self {A : Mm} {c i : Nat} {v : Int64} (h : mL A c i = v) : sL A c i v = A := by
  obtain ⟨a, l, b⟩ := A
  refine congrArg (fun f => (a, f, b)) ?_
  funext q k
  by_cases h1 : q = c
  · subst h1
    by_cases h2 : k = i
    · subst h2; simp [up2, mL]; exact h.symm
    · simp [up2, mL, h2]
  · simp [up2, mL, h1]
/-- the land with one grower more -/
def come (A : Mm) (n : Nat) (v a : Int32) : Mm := sI (fillT (sI (sI (sI A 1 n v) 2 n a) 3 n a) n) 0 0 (nI (n + 1))
