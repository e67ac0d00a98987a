/-! ===== drawn sacks, as the reference counts them ===== -/
theorem rL_self (m : Mm) (s : Nat) : rL m s (mL m s) = m := by
  obtain ⟨a, b, c⟩ := m
  refine congrArg (fun f => (a, f, c)) ?_
  funext q
  by_cases h : q = s
  · subst h; simp [va_up, mL]
  · simp [va_up, h, mL]
theorem sL_rL (m : Mm) (s j : Nat) (f : Nat → Int64) (v : Int64) : sL (rL m s f) s j v = rL m s (va_up f j v) := by
  refine congrArg (fun f => (m.1, f, m.2.2)) ?_
  funext q i
  by_cases h : q = s
  · subst h; simp [up2, va_up, mL, rL]
  · simp [up2, va_up, h, mL, rL]
theorem mL_rL (m : Mm) (s : Nat) (f : Nat → Int64) : mL (rL m s f) s = f := by
  show va_up (mL m) s f s = f
  simp [va_up]
theorem rL_rL (m : Mm) (s : Nat) (f f2 : Nat → Int64) : rL (rL m s f) s f2 = rL m s f2 := by
  refine congrArg (fun f => (m.1, f, m.2.2)) ?_
  funext q
  by_cases h : q = s
  · subst h; simp [va_up]
  · simp [va_up, h, mL, rL]
def ChAt (m : Mm) (t s : Nat) : Prop := mK m t = 13 ∧ mR m t 65 = some s ∧ mK m s = 16 ∧ mN m s = 61
theorem nI_m1 {j : Nat} (h : 0 < j) : nI j - (1 : Int32) = nI (j - 1) := by
  rw [show (1 : Int32) = nI 1 from rfl, pk_sub h]
theorem nI_dec {j : Nat} (h : 0 < j) : nI j + (-1 : Int32) = nI (j - 1) := by
  obtain ⟨k, rfl⟩ : ∃ k, j = k + 1 := ⟨j - 1, by omega⟩
  exact pk_m1 k
/-- the inner loop: from row i to row i + 1, from the right -/
theorem l_ways_35 (g : Gc) {lv t s : Nat} {m : Mm} (hS : ChAt m t s) {a b i : Nat} (ha : a ≤ 60) (hi : i + 1 ≤ a) {Q : Int64 → Mm → Prop} (kk : ∀ f : Nat → Int64, (∀ k, k ≤ i + 1 → f k = ch (i + 1) k) → At g M_RF_ways (lv + 1) 20 [(0, va_rf (some t)), (1, .int (nI a)), (2, .int (nI b)), (3, .int (nI (i + 2)))] [] (rL m s f) (QJ Q)) :
    ∀ (j : Nat) (f : Nat → Int64), j ≤ i + 1 → (∀ k, k ≤ j → f k = ch i k) → (∀ k, j < k → k ≤ i + 1 → f k = ch (i + 1) k) → At g M_RF_ways (lv + 1) 35 [(0, va_rf (some t)), (1, .int (nI a)), (2, .int (nI b)), (3, .int (nI (i + 1))), (4, .int (nI j))] [] (rL m s f) (QJ Q) := by
  intro j
  induction j with
  | zero =>
    intro f hj h1 h2
    refine bk_RF_ways_35 g ?_
    rw [if_pos (by decide), nI_1]
    refine kk f (fun k hk => ?_)
    rcases Nat.eq_zero_or_pos k with rfl | h
    · rw [h1 0 (Nat.le_refl 0), ch_0, ch_0]
    · exact h2 k h hk
  | succ j ih =>
    intro f hj h1 h2
    refine bk_RF_ways_35 g ?_
    rw [if_neg (nI_nle (by omega) (by omega))]
    refine ⟨hS.1, s, hS.2.1, hS.2.2.1, ?_⟩
    have hn : mN (rL m s f) s = 61 := hS.2.2.2
    rw [hn, nI_m1 (by omega), nI_dec (by omega), nI_clamp (by omega), nI_clamp (by omega), mL_rL, sL_rL]
    refine ⟨vp_in_nI (by omega) (by omega), vp_in_nI (by omega) (by omega), vp_in_nI (by omega) (by omega), fun m9 e9 => ?_⟩
    subst e9
    refine ih _ (by omega) (fun k hk => ?_) (fun k hk1 hk2 => ?_)
    · simp only [va_up]
      rw [if_neg (by omega)]
      exact h1 k (by omega)
    · simp only [va_up]
      by_cases hkj : k = j + 1
      · subst hkj
        rw [if_pos rfl, h1 (j + 1) (Nat.le_refl _), show j + 1 - 1 = j from rfl, h1 j (by omega), ch_s, Int64.add_comm]
      · rw [if_neg hkj]
        exact h2 k (by omega) hk2
theorem l_ways_20 (g : Gc) {lv t s : Nat} {m : Mm} (hS : ChAt m t s) {a b : Nat} (ha : a ≤ 60) (hb : b ≤ a) {Q : Int64 → Mm → Prop} (hQ : ∀ f, Q (ch a b) (rL m s f)) :
    ∀ (c i : Nat) (f : Nat → Int64), i + c = a → (∀ k, k ≤ i → f k = ch i k) → At g M_RF_ways (lv + 1) 20 [(0, va_rf (some t)), (1, .int (nI a)), (2, .int (nI b)), (3, .int (nI (i + 1)))] [] (rL m s f) (QJ Q) := by
  intro c
  induction c with
  | zero =>
    intro i f hi h
    refine bk_RF_ways_20 g ?_
    rw [if_pos (nI_lt (by omega) (by omega))]
    refine ⟨hS.1, s, hS.2.1, hS.2.2.1, ?_⟩
    have hn : mN (rL m s f) s = 61 := hS.2.2.2
    rw [hn, nI_clamp (by omega), mL_rL, h b (by omega), show i = a by omega]
    exact ⟨vp_in_nI (by omega) (by omega), hQ f⟩
  | succ c ih =>
    intro i f hi h
    refine bk_RF_ways_20 g ?_
    rw [if_neg (nI_nlt (by omega) (by omega))]
    refine ⟨hS.1, s, hS.2.1, hS.2.2.1, ?_⟩
    have hn : mN (rL m s f) s = 61 := hS.2.2.2
    rw [hn, nI_clamp (by omega), sL_rL]
    refine ⟨vp_in_nI (by omega) (by omega), fun m9 e9 => ?_⟩
    subst e9
    refine l_ways_35 g hS ha (by omega) (fun f2 hf2 => ih (i + 1) f2 (by omega) hf2) (i + 1) _ (Nat.le_refl _) (fun k hk => ?_) (fun k hk1 hk2 => absurd hk2 (by omega))
    simp only [va_up]
    by_cases hk2 : k = i + 1
    · rw [if_pos hk2, hk2, ch_gt i (i + 1) (by omega)]
    · rw [if_neg hk2]; exact h k (by omega)
theorem c_ways (g : Gc) {lv t s : Nat} {m : Mm} (hS : ChAt m t s) {a b : Nat} (ha : a ≤ 60) (hb : b ≤ 60) {Q : Int64 → Mm → Prop} (hQ : ∀ f, Q (ch a b) (rL m s f)) : CJ g M_RF_ways (lv + 1) [va_rf (some t), .int (nI a), .int (nI b)] m Q := by
  refine en_RF_ways g ?_
  rw [if_neg (nI_pos (by omega))]
  by_cases hba : b ≤ a
  · rw [if_pos (nI_le hba (by omega))]
    refine ⟨hS.1, s, hS.2.1, hS.2.2.1, by rw [hS.2.2.2]; exact vp_in_nI (n := 0) (by omega) (by omega), fun m8 e8 => ?_⟩
    rw [show sL m s (0 : Int32).toNatClampNeg (1 : Int64) = rL m s (va_up (mL m s) 0 1) by
      have h := sL_rL m s 0 (mL m s) 1
      rw [rL_self] at h
      exact h] at e8
    subst e8
    refine l_ways_20 g hS ha hba hQ a 0 _ (by omega) (fun k hk => ?_)
    have : k = 0 := by omega
    subst this
    simp [va_up, ch_0]
  · rw [if_neg (nI_ge (by omega) (by omega))]
    have h := hQ (mL m s)
    rw [rL_self, ch_gt a b (by omega)] at h
    exact h
theorem l_isNear (g : Gc) {lv t s : Nat} {m : Mm} (hS : ChAt m t s) {A n k w l T : Nat} (hA : A ≤ 60) (hn : n ≤ A) (hk : k ≤ n) (hw : w ≤ 1) (hl : l ≤ A) (hT : T = if w = 0 then n else k) {Q : Int32 → Mm → Prop} :
    ∀ (c j : Nat) (v : Int64) (f : Nat → Int64), j + c = T + 1 → (∀ f, Q (if (20 : Int64) * drawn A l n c j v < ch A n then 0 else 1) (rL m s f)) →
    At g M_RF_isNear (lv + 2) 15 [(0, va_rf (some t)), (1, .int (nI A)), (2, .int (nI n)), (3, .int (nI k)), (4, .int (nI w)), (5, .int (nI l)), (6, .long v), (8, .int (nI j))] [] (rL m s f) (QI Q) := by
  have hTn : T ≤ n := by
    rw [hT]
    by_cases h : w = 0
    · rw [if_pos h]; exact Nat.le_refl n
    · rw [if_neg h]; exact hk
  intro c
  induction c with
  | zero =>
    intro j v f hj h
    have fin : At g M_RF_isNear (lv + 2) 27 [(0, va_rf (some t)), (1, .int (nI A)), (2, .int (nI n)), (3, .int (nI k)), (4, .int (nI w)), (5, .int (nI l)), (6, .long v), (8, .int (nI j))] [.int (nI T), .int (nI j)] (rL m s f) (QI Q) := by
      refine bk_RF_isNear_27 g ?_
      rw [if_pos (nI_lt (by omega) (by omega))]
      refine ⟨hS.1, c_ways g (m := rL m s f) hS hA (by omega) (fun f2 => ?_)⟩
      rw [rL_rL]
      have h2 := h f2
      unfold drawn at h2
      by_cases hc : (20 : Int64) * v < ch A n
      · rw [if_pos hc] at h2 ⊢; exact h2
      · rw [if_neg hc] at h2 ⊢; exact h2
    refine bk_RF_isNear_15 g ?_
    rcases (show w = 0 ∨ w = 1 by omega) with rfl | rfl
    · rw [if_pos nI_0]; rw [if_pos rfl] at hT; subst hT; exact fin
    · rw [if_neg (by decide)]; rw [if_neg (by decide)] at hT; subst hT; exact fin
  | succ c ih =>
    intro j v f hj h
    have fin : At g M_RF_isNear (lv + 2) 27 [(0, va_rf (some t)), (1, .int (nI A)), (2, .int (nI n)), (3, .int (nI k)), (4, .int (nI w)), (5, .int (nI l)), (6, .long v), (8, .int (nI j))] [.int (nI T), .int (nI j)] (rL m s f) (QI Q) := by
      refine bk_RF_isNear_27 g ?_
      rw [if_neg (nI_nlt (by omega) (by omega))]
      refine ⟨hS.1, c_ways g (m := rL m s f) hS (by omega) (by omega) (fun f2 => ?_)⟩
      rw [rL_rL, pk_sub hl, pk_sub (show j ≤ n by omega)]
      refine c_ways g (m := rL m s f2) hS (by omega) (by omega) (fun f3 => ?_)
      rw [rL_rL, nI_1]
      exact ih (j + 1) _ f3 (by omega) h
    refine bk_RF_isNear_15 g ?_
    rcases (show w = 0 ∨ w = 1 by omega) with rfl | rfl
    · rw [if_pos nI_0]; rw [if_pos rfl] at hT; subst hT; exact fin
    · rw [if_neg (by decide)]; rw [if_neg (by decide)] at hT; subst hT; exact fin
theorem c_isNear (g : Gc) {lv t s : Nat} {m : Mm} (hS : ChAt m t s) {A n k w l : Nat} (hA : A ≤ 60) (hn : n ≤ A) (hk : k ≤ n) (hw : w ≤ 1) (hl : l ≤ A) {Q : Int32 → Mm → Prop} (h1 : near A n k w l → ∀ f, Q 1 (rL m s f)) (h0 : ¬ near A n k w l → ∀ f, Q 0 (rL m s f)) : CI g M_RF_isNear (lv + 2) [va_rf (some t), .int (nI A), .int (nI n), .int (nI k), .int (nI w), .int (nI l)] m Q := by
  have hh : ∀ f, Q (if (20 : Int64) * drawn A l n (if w = 0 then n + 1 - k else k + 1) (if w = 0 then k else 0) 0 < ch A n then 0 else 1) (rL m s f) := by
    intro f
    by_cases hc : (20 : Int64) * drawn A l n (if w = 0 then n + 1 - k else k + 1) (if w = 0 then k else 0) 0 < ch A n
    · rw [if_pos hc]; exact h0 (fun hn => hn hc) f
    · rw [if_neg hc]; exact h1 hc f
  refine en_RF_isNear g ?_
  rcases (show w = 0 ∨ w = 1 by omega) with rfl | rfl
  · rw [if_pos nI_0]
    have := l_isNear (lv := lv) g hS hA hn hk hw hl rfl (n + 1 - k) k 0 (mL m s) (by simp; omega) hh
    rw [rL_self] at this
    exact this
  · rw [if_neg (by decide)]
    have := l_isNear (lv := lv) g hS hA hn hk hw hl rfl (k + 1) 0 0 (mL m s) (by simp) hh
    rw [rL_self] at this
    exact this
theorem drawn_0 (A n : Nat) : ∀ (c j : Nat) (v : Int64), j + c = n + 1 → 0 < c → drawn A A n c j v = v + ch A n
  | 1, j, v, h, _ => by
    have : j = n := by omega
    subst this
    show v + ch A j * ch (A - A) (j - j) = _
    rw [Nat.sub_self, Nat.sub_self, ch_0, Int64.mul_one]
  | c + 2, j, v, h, _ => by
    show drawn A A n (c + 1) (j + 1) (v + ch A j * ch (A - A) (n - j)) = _
    rw [Nat.sub_self, ch_gt 0 (n - j) (by omega), Int64.mul_zero, Int64.add_zero]
    exact drawn_0 A n (c + 1) (j + 1) v (by omega) (by omega)
theorem drawn_1 (A n : Nat) : ∀ (c j : Nat) (v : Int64), 0 < j → drawn A 0 n c j v = v
  | 0, _, _, _ => rfl
  | c + 1, j, v, h => by
    show drawn A 0 n c (j + 1) (v + ch 0 j * ch (A - 0) (n - j)) = _
    rw [ch_gt 0 j h, Int64.zero_mul, Int64.add_zero]
    exact drawn_1 A n c (j + 1) v (by omega)
theorem near_end {A n k w : Nat} (hA : A ≤ 60) (hn : n ≤ A) (hk : k ≤ n) : near A n k w (lightAt A w A) := by
  unfold near lightAt
  by_cases h : w = 0
  · simp only [if_pos h]
    rw [drawn_0 A n (n + 1 - k) k 0 (by omega) (by omega), Int64.zero_add]
    exact ch_near hA (by omega)
  · simp only [if_neg h]
    rw [Nat.sub_self]
    show ¬ (20 : Int64) * drawn A 0 n k 1 (0 + ch 0 0 * ch (A - 0) (n - 0)) < ch A n
    rw [drawn_1 A n k 1 _ (by omega), ch_0, Int64.one_mul, Int64.zero_add]
    exact ch_near hA (by omega)
theorem l_rflight (g : Gc) {lv t s : Nat} {m : Mm} (hS : ChAt m t s) {A n k w : Nat} (hA : A ≤ 60) (hn : n ≤ A) (hk : k ≤ n) (hw : w ≤ 1) {Q : Int32 → Mm → Prop} : ∀ (c i : Nat) (f : Nat → Int64), i + c = A → (∀ j, i ≤ j → j ≤ A → (∀ j', i ≤ j' → j' < j → ¬ near A n k w (lightAt A w j')) → near A n k w (lightAt A w j) → ∀ f, Q (nI (lightAt A w j)) (rL m s f)) →
    At g M_RF_light (lv + 3) 65 [(0, va_rf (some t)), (1, .int (nI A)), (2, .int (nI n)), (3, .int (nI k)), (4, .int (nI w)), (5, .int (nI (lightAt A w i)))] [] (rL m s f) (QI Q) := by
  intro c
  induction c with
  | zero =>
    intro i f hi h
    have hia : i = A := by omega
    subst hia
    refine bk_RF_light_65 g ⟨hS.1, c_isNear g (m := rL m s f) hS hA hn hk hw (by unfold lightAt; split <;> omega) (fun hne f2 => ?_) (fun hne => absurd (near_end hA hn hk) hne)⟩
    rw [if_neg (by decide), rL_rL]
    exact h i (Nat.le_refl i) (Nat.le_refl i) (fun j' h1 h2 => absurd h2 (by omega)) hne f2
  | succ c ih =>
    intro i f hi h
    refine bk_RF_light_65 g ⟨hS.1, c_isNear g (m := rL m s f) hS hA hn hk hw (by unfold lightAt; split <;> omega) (fun hne f2 => ?_) (fun hne f2 => ?_)⟩
    · rw [if_neg (by decide), rL_rL]
      exact h i (Nat.le_refl i) (by omega) (fun j' h1 h2 => absurd h2 (by omega)) hne f2
    · rw [if_pos rfl, rL_rL]
      have nx := ih (i + 1) f2 (by omega) (fun j h1 h2 h3 h4 => h j (by omega) h2 (fun j' h5 h6 => by
        rcases Nat.lt_or_ge i j' with h7 | h7
        · exact h3 j' h7 h6
        · have : j' = i := by omega
          subst this
          exact hne) h4)
      rcases (show w = 0 ∨ w = 1 by omega) with rfl | rfl
      · rw [if_pos nI_0]
        unfold lightAt at nx ⊢
        simp only [if_pos] at nx ⊢
        rw [nI_1]
        exact nx
      · rw [if_neg (by decide)]
        unfold lightAt at nx ⊢
        rw [if_neg (by decide)] at nx ⊢
        rw [nI_dec (by omega), show A - i - 1 = A - (i + 1) by omega]
        exact nx
