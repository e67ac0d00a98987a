/-! ===== drawn sacks: Pascal's triangle, and 'light' ===== -/
def ch : Nat → Nat → Int64
  | _, 0 => 1
  | 0, _ + 1 => 0
  | n + 1, k + 1 => ch n k + ch n (k + 1)
theorem ch_0 (n : Nat) : ch n 0 = 1 := by cases n <;> rfl
theorem ch_s (n k : Nat) : ch (n + 1) (k + 1) = ch n k + ch n (k + 1) := rfl
theorem ch_gt : ∀ (n k : Nat), n < k → ch n k = 0
  | 0, k + 1, _ => rfl
  | n + 1, k + 1, h => by rw [ch_s, ch_gt n k (by omega), ch_gt n (k + 1) (by omega)]; rfl
theorem ch_self : ∀ n : Nat, ch n n = 1
  | 0 => rfl
  | n + 1 => by rw [ch_s, ch_self n, ch_gt n (n + 1) (by omega)]; rfl
def chNext (r : List Int64) : List Int64 := 1 :: List.zipWith (· + ·) r (r.tail ++ [0])
def chRow : Nat → List Int64
  | 0 => [1]
  | n + 1 => chNext (chRow n)
theorem chRow_len : ∀ n, (chRow n).length = n + 1
  | 0 => rfl
  | n + 1 => by simp [chRow, chNext, chRow_len n]
theorem chRow_get : ∀ n k, (chRow n).getD k 0 = ch n k
  | 0, 0 => rfl
  | 0, k + 1 => by simp [chRow, ch]
  | n + 1, 0 => by rw [ch_0]; rfl
  | n + 1, k + 1 => by
    have hl := chRow_len n
    have h1 := chRow_get n k
    have h2 := chRow_get n (k + 1)
    rw [ch_s, ← h1, ← h2]
    show (chNext (chRow n)).getD (k + 1) 0 = _
    unfold chNext
    rw [List.getD_cons_succ]
    simp only [List.getD_eq_getElem?_getD, List.getElem?_zipWith]
    rcases Nat.lt_trichotomy k n with hk | hk | hk
    · rw [List.getElem?_eq_getElem (l := chRow n) (i := k) (by omega), List.getElem?_append_left (by simp; omega), List.getElem?_tail, List.getElem?_eq_getElem (l := chRow n) (i := k + 1) (by omega)]
      rfl
    · subst hk
      rw [List.getElem?_eq_getElem (l := chRow k) (i := k) (by omega), List.getElem?_append_right (by simp; omega), List.getElem?_eq_none (l := chRow k) (i := k + 1) (by omega)]
      simp [hl]
    · rw [List.getElem?_eq_none (l := chRow n) (i := k) (by omega), List.getElem?_eq_none (l := chRow n) (i := k + 1) (by omega)]
      rfl
theorem ch_20 : ∀ n, n < 61 → ∀ k, k < 61 → ¬ (20 : Int64) * (chRow n).getD k 0 < (chRow n).getD k 0 := by decide +kernel
theorem ch_near {n k : Nat} (hn : n ≤ 60) (hk : k ≤ 60) : ¬ (20 : Int64) * ch n k < ch n k := by
  rw [← chRow_get]
  exact ch_20 n (by omega) k (by omega)
theorem lit60 : (60 : Int32) = nI 60 := rfl
theorem wi_nat {a c : Nat} {c32 : Int32} (hc : c32 = nI c) (hc2 : c < 2 ^ 31) (ha : a < 2 ^ 31) : wi (nI a) 0 c32 = if a ≤ c then 1 else 0 := by
  subst hc
  unfold wi
  rw [if_neg (nI_pos ha)]
  by_cases h : a ≤ c
  · rw [if_neg (nI_nlt h hc2), if_pos h]
  · rw [if_pos (nI_lt (by omega) ha), if_neg h]
theorem tri_idx {a b : Nat} (ha : a ≤ 60) : (nI a * (nI a + (1 : Int32))) / (2 : Int32) + nI b = nI (a * (a + 1) / 2 + b) := by
  have h1 : a * (a + 1) ≤ 60 * 61 := Nat.mul_le_mul ha (by omega)
  rw [nI_1, pk_mul, show (2 : Int32) = nI 2 from rfl, pk_div (by omega) (by omega) (by omega), nI_add]
theorem tri_le {a b : Nat} (ha : a ≤ 60) (hb : b ≤ a) : a * (a + 1) / 2 + b < 1891 := by
  have h1 : a * (a + 1) ≤ a * 61 := Nat.mul_le_mul (Nat.le_refl a) (by omega)
  have h2 : a * (a + 1) / 2 ≤ 60 * 61 / 2 := Nat.div_le_div_right (Nat.le_trans h1 (by omega))
  rcases Nat.lt_or_ge a 60 with h | h
  · have h3 : a * (a + 1) ≤ 59 * 60 := Nat.mul_le_mul (by omega) (by omega)
    have h4 : a * (a + 1) / 2 ≤ 59 * 60 / 2 := Nat.div_le_div_right h3
    omega
  · omega
/-- what the class's table of sets holds -/
def SetsAt (m : Mm) (t s : Nat) : Prop := mK m t = 12 ∧ mR m t 7 = some s ∧ mK m s = 16 ∧ mN m s = 1891 ∧ ∀ n k, n ≤ 60 → k ≤ n → mL m s (n * (n + 1) / 2 + k) = ch n k
theorem c_setsOf (g : Gc) {lv t s : Nat} {m : Mm} (hS : SetsAt m t s) {a b : Nat} (ha : a ≤ 60) (hb : b ≤ 60) {Q : Int64 → Mm → Prop} (h : Q (ch a b) m) : CJ g M_SL_setsOf (lv + 2) [va_rf (some t), .int (nI a), .int (nI b)] m Q := by
  obtain ⟨h1, h2, h3, h4, h5⟩ := hS
  refine en_SL_setsOf g (c_isWithin g ?_)
  rw [wi_nat lit60 (by omega) (by omega), if_pos ha, if_neg (by decide)]
  refine c_isWithin g ?_
  rw [wi_nat rfl (by omega) (by omega)]
  by_cases hba : b ≤ a
  · rw [if_pos hba, if_neg (by decide)]
    refine ⟨h1, s, h2, h3, ?_⟩
    rw [tri_idx ha, h4, nI_clamp (by have := tri_le ha hba; omega), h5 a b ha hba]
    exact ⟨vp_in_nI (tri_le ha hba) (by omega), h⟩
  · rw [if_neg hba, if_pos rfl]
    rw [ch_gt a b (by omega)] at h
    exact h
def drawn (A l n : Nat) : Nat → Nat → Int64 → Int64
  | 0, _, s => s
  | c + 1, j, s => drawn A l n c (j + 1) (s + ch l j * ch (A - l) (n - j))
theorem l_waysToDraw (g : Gc) {lv t s : Nat} {m : Mm} (hS : SetsAt m t s) {A l n T : Nat} (hA : A ≤ 60) (hl : l ≤ A) (hn : n ≤ A) (hT : T ≤ n) {Q : Int64 → Mm → Prop} : ∀ (c j : Nat) (v : Int64), j + c = T + 1 → Q (drawn A l n c j v) m →
    At g M_SL_waysToDraw (lv + 3) 7 [(0, va_rf (some t)), (1, .int (nI A)), (2, .int (nI l)), (3, .int (nI n)), (5, .int (nI T)), (6, .long v), (8, .int (nI j))] [] m (QJ Q) := by
  intro c
  induction c with
  | zero =>
    intro j v hj h
    refine bk_SL_waysToDraw_7 g ?_
    rw [if_pos (nI_lt (by omega) (by omega))]
    exact h
  | succ c ih =>
    intro j v hj h
    refine bk_SL_waysToDraw_7 g ?_
    rw [if_neg (nI_nlt (by omega) (by omega))]
    refine ⟨hS.1, c_setsOf g hS (by omega) (by omega) ?_⟩
    rw [pk_sub hl, pk_sub (show j ≤ n by omega)]
    refine c_setsOf g hS (by omega) (by omega) ?_
    rw [nI_1]
    exact ih (j + 1) _ (by omega) h
theorem c_waysToDraw (g : Gc) {lv t s : Nat} {m : Mm} (hS : SetsAt m t s) {A l n F T : Nat} (hA : A ≤ 60) (hl : l ≤ A) (hn : n ≤ A) (hT : T ≤ n) (hF : F ≤ T) {Q : Int64 → Mm → Prop} (h : Q (drawn A l n (T + 1 - F) F 0) m) : CJ g M_SL_waysToDraw (lv + 3) [va_rf (some t), .int (nI A), .int (nI l), .int (nI n), .int (nI F), .int (nI T)] m Q :=
  en_SL_waysToDraw g (l_waysToDraw g hS hA hl hn hT _ _ _ (by omega) h)
/-- light ones l are not beyond -/
def near (A n k w l : Nat) : Prop := ¬ (20 : Int64) * drawn A l n (if w = 0 then n + 1 - k else k + 1) (if w = 0 then k else 0) 0 < ch A n
def lightAt (A w i : Nat) : Nat := if w = 0 then i else A - i
theorem l_light (g : Gc) {lv t s : Nat} {m : Mm} (hS : SetsAt m t s) {A n k w : Nat} (hA : A ≤ 60) (hn : n ≤ A) (hk : k ≤ n) (hw : w ≤ 1) {Q : Int32 → Mm → Prop} : ∀ (c i : Nat), i + c = A → (∀ j, i ≤ j → j ≤ A → (∀ j', i ≤ j' → j' < j → ¬ near A n k w (lightAt A w j')) → (j = A ∨ near A n k w (lightAt A w j)) → Q (nI (lightAt A w j)) m) →
    At g M_SL_light (lv + 4) 56 [(0, va_rf (some t)), (1, .int (nI A)), (2, .int (nI n)), (3, .int (nI k)), (4, .int (nI w)), (6, .int (nI i))] [] m (QI Q) := by
  intro c
  induction c with
  | zero =>
    intro i hi h
    refine bk_SL_light_56 g ?_
    rw [if_pos (nI_le (by omega) (by omega))]
    have hh := h A (by omega) (Nat.le_refl A) (fun j' h1 h2 => absurd h2 (by omega)) (Or.inl rfl)
    unfold lightAt at hh
    rcases (show w = 0 ∨ w = 1 by omega) with rfl | rfl
    · rw [if_pos nI_0]; exact hh
    · rw [if_neg (by decide)]
      rw [if_neg (by decide), Nat.sub_self] at hh
      exact hh
  | succ c ih =>
    intro i hi h
    refine bk_SL_light_56 g ?_
    rw [if_neg (nI_ge (by omega) (by omega))]
    -- behind the two choices
    have key : ∀ {m : Mm} (hS : SetsAt m t s) (v : Int64), v = drawn A (lightAt A w i) n (if w = 0 then n + 1 - k else k + 1) (if w = 0 then k else 0) 0 → (∀ j, i ≤ j → j ≤ A → (∀ j', i ≤ j' → j' < j → ¬ near A n k w (lightAt A w j')) → (j = A ∨ near A n k w (lightAt A w j)) → Q (nI (lightAt A w j)) m) → (∀ i', i' + c = A → (∀ j, i' ≤ j → j ≤ A → (∀ j', i' ≤ j' → j' < j → ¬ near A n k w (lightAt A w j')) → (j = A ∨ near A n k w (lightAt A w j)) → Q (nI (lightAt A w j)) m) → At g M_SL_light (lv + 4) 56 [(0, va_rf (some t)), (1, .int (nI A)), (2, .int (nI n)), (3, .int (nI k)), (4, .int (nI w)), (6, .int (nI i'))] [] m (QI Q)) →
        At g M_SL_light (lv + 4) 118 [(0, va_rf (some t)), (1, .int (nI A)), (2, .int (nI n)), (3, .int (nI k)), (4, .int (nI w)), (6, .int (nI i)), (8, .int (nI (lightAt A w i)))] [.long v] m (QI Q) := by
      intro m hS v hv h ih
      refine bk_SL_light_118 g ⟨hS.1, c_setsOf g hS hA (by omega) ?_⟩
      by_cases hc : v * (20 : Int64) < ch A n
      · rw [if_pos hc, nI_1]
        refine ih (i + 1) (by omega) (fun j h1 h2 h3 h4 => h j (by omega) h2 (fun j' h5 h6 => ?_) h4)
        rcases Nat.lt_or_ge i j' with h7 | h7
        · exact h3 j' h7 h6
        · have : j' = i := by omega
          subst this
          intro hne
          apply hne
          rw [← hv, Int64.mul_comm]
          exact hc
      · rw [if_neg hc]
        refine h i (Nat.le_refl i) (by omega) (fun j' h5 h6 => absurd h6 (by omega)) (Or.inr ?_)
        unfold near
        rw [← hv, Int64.mul_comm]
        exact hc
    rcases (show w = 0 ∨ w = 1 by omega) with rfl | rfl
    · rw [if_pos nI_0]
      refine bk_SL_light_72 g ?_
      rw [if_neg (by decide)]
      refine bk_SL_light_88 g ?_
      rw [if_neg (by decide)]
      exact ⟨hS.1, c_waysToDraw g hS hA (by omega) hn (Nat.le_refl n) hk (key hS _ rfl h ih)⟩
    · rw [if_neg (by decide)]
      refine bk_SL_light_72 g ?_
      rw [if_pos rfl]
      refine bk_SL_light_88 g ?_
      rw [if_pos rfl, pk_sub (show i ≤ A by omega)]
      exact ⟨hS.1, c_waysToDraw (F := 0) (T := k) g hS hA (by omega) hn hk (Nat.zero_le k) (key hS _ rfl h ih)⟩
