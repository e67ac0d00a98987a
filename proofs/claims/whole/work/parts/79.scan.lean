/-! ===== the class scans a text ===== -/
def TxC (g : Gc) (tx : Nat → Int32) (L : Nat) (m : Mm) : Prop := L ≤ 300 ∧ (∀ j, j < L → mI m (gz g + 129) j = tx j) ∧ mI m (gz g + 128) 4 = nI L
theorem c_isLetC (g : Gc) {lv L j : Nat} {tx : Nat → Int32} {m : Mm} (S : Sg g m) (X : TxC g tx L m) (hj : j < L) {Q : Int32 → Mm → Prop} (hQ : Q (pL (tx j)) m) : CI g M_Tape_isLetter (lv + 1) [va_rf (some (gz g + 128)), .int (nI j)] m Q := by
  obtain ⟨hL, hb, -⟩ := X
  have v : vp_in (nI j) (mN m (gz g + 129)) := by rw [S.n 129 rfl]; exact vp_in_nI (N := 300) (by omega) (by omega)
  refine en_Tape_isLetter g ⟨S.k 128 rfl, gz g + 129, S.r 128 0 rfl, S.k 129 rfl, v, ?_⟩
  rw [nI_clamp (show j < 2 ^ 31 by omega), hb j hj]
  unfold pL wi at hQ
  by_cases h1 : tx j < 97
  · rw [if_pos h1] at hQ ⊢; exact hQ
  rw [if_neg h1] at hQ ⊢
  refine ⟨v, ?_⟩
  by_cases h2 : 122 < tx j
  · rw [if_pos h2] at hQ ⊢; exact hQ
  rw [if_neg h2] at hQ ⊢; exact hQ
theorem c_isDigC (g : Gc) {lv L j : Nat} {tx : Nat → Int32} {m : Mm} (S : Sg g m) (X : TxC g tx L m) (hj : j < L) {Q : Int32 → Mm → Prop} (hQ : Q (pD (tx j)) m) : CI g M_Tape_isDigit (lv + 1) [va_rf (some (gz g + 128)), .int (nI j)] m Q := by
  obtain ⟨hL, hb, -⟩ := X
  have v : vp_in (nI j) (mN m (gz g + 129)) := by rw [S.n 129 rfl]; exact vp_in_nI (N := 300) (by omega) (by omega)
  refine en_Tape_isDigit g ⟨S.k 128 rfl, gz g + 129, S.r 128 0 rfl, S.k 129 rfl, v, ?_⟩
  rw [nI_clamp (show j < 2 ^ 31 by omega), hb j hj]
  unfold pD wi at hQ
  by_cases h1 : tx j < 48
  · rw [if_pos h1] at hQ ⊢; exact hQ
  rw [if_neg h1] at hQ ⊢
  refine ⟨v, ?_⟩
  by_cases h2 : 57 < tx j
  · rw [if_pos h2] at hQ ⊢; exact hQ
  rw [if_neg h2] at hQ ⊢; exact hQ
theorem l_stopL (g : Gc) {lv L : Nat} {tx : Nat → Int32} {m : Mm} {w : Int32} (S : Sg g m) (X : TxC g tx L m) (hw : ¬ w = 0) {Q : Int32 → Mm → Prop} : ∀ n k, L - k ≤ n → k ≤ L → Q (nI (rn pL tx L k)) m → At g M_Tape_stopOf (lv + 2) 17 [(0, va_rf (some (gz g + 128))), (2, .int w), (3, .int (0 : Int32)), (4, .int (nI k))] [] m (QI Q) := by
  have hL := X.1
  intro n
  induction n with
  | zero =>
    intro k h1 h2 hQ
    refine bk_Tape_stopOf_17 g ⟨S.k 128 rfl, ?_⟩
    rw [X.2.2, if_pos (nI_le (by omega) (by omega))]
    rw [rn_no hL (Or.inl (by omega))] at hQ
    exact hQ
  | succ n ih =>
    intro k h1 h2 hQ
    refine bk_Tape_stopOf_17 g ⟨S.k 128 rfl, ?_⟩
    rw [X.2.2]
    by_cases hk : L ≤ k
    · rw [if_pos (nI_le (by omega) (by omega))]
      rw [rn_no hL (Or.inl (by omega))] at hQ
      exact hQ
    rw [if_neg (nI_ge (by omega) (by omega)), if_neg hw]
    refine c_isLetC g S X (by omega) ?_
    by_cases hp : pL (tx k) = 0
    · rw [if_pos hp]
      refine bk_Tape_stopOf_39 g ?_
      rw [if_pos rfl]
      rw [rn_no hL (Or.inr hp)] at hQ
      exact hQ
    · rw [if_neg hp, nI_s]
      rw [rn_go hL (by omega) hp] at hQ
      exact ih (k + 1) (by omega) (by omega) hQ
theorem l_stopD (g : Gc) {lv L : Nat} {tx : Nat → Int32} {m : Mm} {w : Int32} (S : Sg g m) (X : TxC g tx L m) (hw : ¬ w = 0) {Q : Int32 → Mm → Prop} : ∀ n k, L - k ≤ n → k ≤ L → Q (nI (rn pD tx L k)) m → At g M_Tape_stopOf (lv + 2) 17 [(0, va_rf (some (gz g + 128))), (2, .int (0 : Int32)), (3, .int w), (4, .int (nI k))] [] m (QI Q) := by
  have hL := X.1
  intro n
  induction n with
  | zero =>
    intro k h1 h2 hQ
    refine bk_Tape_stopOf_17 g ⟨S.k 128 rfl, ?_⟩
    rw [X.2.2, if_pos (nI_le (by omega) (by omega))]
    rw [rn_no hL (Or.inl (by omega))] at hQ
    exact hQ
  | succ n ih =>
    intro k h1 h2 hQ
    refine bk_Tape_stopOf_17 g ⟨S.k 128 rfl, ?_⟩
    rw [X.2.2]
    by_cases hk : L ≤ k
    · rw [if_pos (nI_le (by omega) (by omega))]
      rw [rn_no hL (Or.inl (by omega))] at hQ
      exact hQ
    rw [if_neg (nI_ge (by omega) (by omega)), if_pos rfl]
    refine bk_Tape_stopOf_39 g ?_
    rw [if_neg hw]
    refine ⟨S.k 128 rfl, c_isDigC g S X (by omega) ?_⟩
    by_cases hp : pD (tx k) = 0
    · rw [if_pos hp]
      rw [rn_no hL (Or.inr hp)] at hQ
      exact hQ
    · rw [if_neg hp, nI_s]
      rw [rn_go hL (by omega) hp] at hQ
      exact ih (k + 1) (by omega) (by omega) hQ
theorem c_stopOf (g : Gc) {lv L i : Nat} {tx : Nat → Int32} {m : Mm} (S : Sg g m) (X : TxC g tx L m) (hi : i < L) {Q : Int32 → Mm → Prop} (hQ : Q (nI (stp tx L i)) m) : CI g M_Tape_stopOf (lv + 2) [va_rf (some (gz g + 128)), .int (nI i)] m Q := by
  have hL := X.1
  refine en_Tape_stopOf g ⟨S.k 128 rfl, c_isLetC g S X hi (c_isDigC g S X hi ?_)⟩
  rw [nI_s]
  unfold stp at hQ
  by_cases h1 : pL (tx i) = 0
  · rw [if_neg (fun q => q h1)] at hQ
    rw [h1]
    by_cases h2 : pD (tx i) = 0
    · rw [if_neg (fun q => q h2)] at hQ
      rw [h2]
      refine bk_Tape_stopOf_17 g ⟨S.k 128 rfl, ?_⟩
      split
      · exact hQ
      · rw [if_pos rfl]
        refine bk_Tape_stopOf_39 g ?_
        rw [if_pos rfl]
        exact hQ
    · rw [if_pos h2] at hQ
      exact l_stopD g S X h2 L (i + 1) (by omega) (by omega) hQ
  · rw [if_pos h1] at hQ
    rw [pLD h1]
    exact l_stopL g S X h1 L (i + 1) (by omega) (by omega) hQ
theorem l_numC (g : Gc) {lv L s e : Nat} {tx : Nat → Int32} {m : Mm} (S : Sg g m) (X : TxC g tx L m) (he : e ≤ L) {Q : Int32 → Mm → Prop} (hQ : Q (numV tx s (e - s)) m) : ∀ n c, e - s ≤ c + n → s + c ≤ e → At g M_Tape_numberOf (lv + 1) 5 [(0, va_rf (some (gz g + 128))), (2, .int (nI e)), (3, .int (numV tx s c)), (4, .int (nI (s + c)))] [] m (QI Q) := by
  obtain ⟨hL, hb, -⟩ := X
  intro n
  induction n with
  | zero =>
    intro c h1 h2
    refine bk_Tape_numberOf_5 g ?_
    rw [if_pos (nI_le (by omega) (by omega)), show c = e - s by omega]
    exact hQ
  | succ n ih =>
    intro c h1 h2
    refine bk_Tape_numberOf_5 g ?_
    by_cases hc : e ≤ s + c
    · rw [if_pos (nI_le hc (by omega)), show c = e - s by omega]
      exact hQ
    rw [if_neg (nI_ge (by omega) (by omega))]
    refine ⟨S.k 128 rfl, gz g + 129, S.r 128 0 rfl, S.k 129 rfl, by rw [S.n 129 rfl]; exact vp_in_nI (N := 300) (by omega) (by omega), ?_⟩
    rw [nI_clamp (show s + c < 2 ^ 31 by omega), hb (s + c) (by omega), nI_s, ← numV_s, Nat.add_assoc]
    exact ih (c + 1) (by omega) (by omega)
theorem c_numC (g : Gc) {lv L s e : Nat} {tx : Nat → Int32} {m : Mm} (S : Sg g m) (X : TxC g tx L m) (hs : s ≤ e) (he : e ≤ L) {Q : Int32 → Mm → Prop} (hQ : Q (numV tx s (e - s)) m) : CI g M_Tape_numberOf (lv + 1) [va_rf (some (gz g + 128)), .int (nI s), .int (nI e)] m Q :=
  en_Tape_numberOf g (l_numC g S X he hQ (e - s) 0 (by omega) (by omega))
theorem st_len10 : ∀ k, k < 13 → stLen.getD k 0 < 10 := by decide
theorem l_spells (g : Gc) {lv L s e w : Nat} {tx : Nat → Int32} {m : Mm} (S : Sg g m) (X : TxC g tx L m) (hw : w < 13) (hs : s ≤ e) (he : e ≤ L) (hes : e - s = stLen.getD w 0) {Q : Int32 → Mm → Prop} (hQ : Q (spl tx s e w) m) : ∀ n c, stLen.getD w 0 ≤ c + n → c ≤ stLen.getD w 0 → (∀ j, j < c → tx (s + j) = (stByt.getD w []).getD j 0) → At g M_Tape_spells (lv + 5) 15 [(0, va_rf (some (gz g + 128))), (1, .int (nI s)), (3, va_rf (some (gK g w))), (4, .int (nI c))] [] m (QI Q) := by
  obtain ⟨hL, hb, -⟩ := X
  have l10 := st_len10 w hw
  intro n
  induction n with
  | zero =>
    intro c h1 h2 h3
    refine bk_Tape_spells_15 g ⟨w, hw, rfl, c_strlen g (lv := lv + 2) hw ?_⟩
    rw [if_pos (nI_le (by omega) (by omega))]
    rw [spl_1 hes (fun j hj => h3 j (by omega))] at hQ
    exact hQ
  | succ n ih =>
    intro c h1 h2 h3
    refine bk_Tape_spells_15 g ⟨w, hw, rfl, c_strlen g (lv := lv + 2) hw ?_⟩
    by_cases hc : stLen.getD w 0 ≤ c
    · rw [if_pos (nI_le hc (by omega))]
      rw [spl_1 hes (fun j hj => h3 j (by omega))] at hQ
      exact hQ
    rw [if_neg (nI_ge (by omega) (by omega)), nI_add]
    refine ⟨S.k 128 rfl, gz g + 129, S.r 128 0 rfl, S.k 129 rfl, by rw [S.n 129 rfl]; exact vp_in_nI (N := 300) (by omega) (by omega), ?_⟩
    rw [nI_clamp (show s + c < 2 ^ 31 by omega), hb (s + c) (by omega)]
    refine c_charAt g hw (by omega) ?_
    by_cases hx : tx (s + c) = (stByt.getD w []).getD c 0
    · rw [if_pos hx, nI_s]
      refine ih (c + 1) (by omega) (by omega) (fun j hj => ?_)
      by_cases hjc : j = c
      · rw [hjc]; exact hx
      · exact h3 j (by omega)
    · rw [if_neg hx]
      rw [spl_0 (fun q => hx (q.2 c (by omega)))] at hQ
      exact hQ
theorem c_spells (g : Gc) {lv L s e w : Nat} {tx : Nat → Int32} {m : Mm} (S : Sg g m) (X : TxC g tx L m) (hw : w < 13) (hs : s ≤ e) (he : e ≤ L) {Q : Int32 → Mm → Prop} (hQ : Q (spl tx s e w) m) : CI g M_Tape_spells (lv + 5) [va_rf (some (gz g + 128)), .int (nI s), .int (nI e), va_rf (some (gK g w))] m Q := by
  have hL := X.1
  have l10 := st_len10 w hw
  refine en_Tape_spells g ⟨w, hw, rfl, c_strlen g (lv := lv + 2) hw ?_⟩
  rw [nI_sub hs (by omega)]
  by_cases h : e - s = stLen.getD w 0
  · rw [if_pos (by rw [h])]
    exact l_spells g S X hw hs he h hQ (stLen.getD w 0) 0 (by omega) (by omega) (fun j hj => by omega)
  · rw [if_neg (fun q => h ((nI_eq (by omega) (by omega)).mp q))]
    rw [spl_0 (fun q => h q.1)] at hQ
    exact hQ
theorem c_kindOfWord (g : Gc) {lv L s e : Nat} {tx : Nat → Int32} {m : Mm} (S : Sg g m) (X : TxC g tx L m) (hs : s ≤ e) (he : e ≤ L) {Q : Int32 → Mm → Prop} (hQ : Q (wrd tx s e 13) m) : CI g M_Tape_kindOfWord (lv + 6) [va_rf (some (gz g + 128)), .int (nI s), .int (nI e)] m Q := by
  refine en_Tape_kindOfWord g ⟨S.k 128 rfl, ?_⟩
  refine c_spells g (w := 0) S X (by decide) hs he ?_
  rw [wrd_s] at hQ
  by_cases h0 : spl tx s e 0 = 0
  rotate_left
  · rw [if_neg h0] at hQ ⊢; exact hQ
  rw [if_pos h0] at hQ ⊢
  refine c_spells g (w := 1) S X (by decide) hs he ?_
  rw [wrd_s] at hQ
  by_cases h1 : spl tx s e 1 = 0
  rotate_left
  · rw [if_neg h1] at hQ ⊢; exact hQ
  rw [if_pos h1] at hQ ⊢
  refine c_spells g (w := 2) S X (by decide) hs he ?_
  rw [wrd_s] at hQ
  by_cases h2 : spl tx s e 2 = 0
  rotate_left
  · rw [if_neg h2] at hQ ⊢; exact hQ
  rw [if_pos h2] at hQ ⊢
  refine c_spells g (w := 3) S X (by decide) hs he ?_
  rw [wrd_s] at hQ
  by_cases h3 : spl tx s e 3 = 0
  rotate_left
  · rw [if_neg h3] at hQ ⊢; exact hQ
  rw [if_pos h3] at hQ ⊢
  refine c_spells g (w := 4) S X (by decide) hs he ?_
  rw [wrd_s] at hQ
  by_cases h4 : spl tx s e 4 = 0
  rotate_left
  · rw [if_neg h4] at hQ ⊢; exact hQ
  rw [if_pos h4] at hQ ⊢
  refine c_spells g (w := 5) S X (by decide) hs he ?_
  rw [wrd_s] at hQ
  by_cases h5 : spl tx s e 5 = 0
  rotate_left
  · rw [if_neg h5] at hQ ⊢; exact hQ
  rw [if_pos h5] at hQ ⊢
  refine c_spells g (w := 6) S X (by decide) hs he ?_
  rw [wrd_s] at hQ
  by_cases h6 : spl tx s e 6 = 0
  rotate_left
  · rw [if_neg h6] at hQ ⊢; exact hQ
  rw [if_pos h6] at hQ ⊢
  refine c_spells g (w := 7) S X (by decide) hs he ?_
  rw [wrd_s] at hQ
  by_cases h7 : spl tx s e 7 = 0
  rotate_left
  · rw [if_neg h7] at hQ ⊢; exact hQ
  rw [if_pos h7] at hQ ⊢
  refine c_spells g (w := 8) S X (by decide) hs he ?_
  rw [wrd_s] at hQ
  by_cases h8 : spl tx s e 8 = 0
  rotate_left
  · rw [if_neg h8] at hQ ⊢; exact hQ
  rw [if_pos h8] at hQ ⊢
  refine c_spells g (w := 9) S X (by decide) hs he ?_
  rw [wrd_s] at hQ
  by_cases h9 : spl tx s e 9 = 0
  rotate_left
  · rw [if_neg h9] at hQ ⊢; exact hQ
  rw [if_pos h9] at hQ ⊢
  refine c_spells g (w := 10) S X (by decide) hs he ?_
  rw [wrd_s] at hQ
  by_cases h10 : spl tx s e 10 = 0
  rotate_left
  · rw [if_neg h10] at hQ ⊢; exact hQ
  rw [if_pos h10] at hQ ⊢
  refine c_spells g (w := 11) S X (by decide) hs he ?_
  rw [wrd_s] at hQ
  by_cases h11 : spl tx s e 11 = 0
  rotate_left
  · rw [if_neg h11] at hQ ⊢; exact hQ
  rw [if_pos h11] at hQ ⊢
  refine c_spells g (w := 12) S X (by decide) hs he ?_
  rw [wrd_s] at hQ
  by_cases h12 : spl tx s e 12 = 0
  rotate_left
  · rw [if_neg h12] at hQ ⊢; exact hQ
  rw [if_pos h12] at hQ ⊢
  exact hQ
theorem c_kindOf (g : Gc) {lv L s e : Nat} {tx : Nat → Int32} {m : Mm} (S : Sg g m) (X : TxC g tx L m) (hs : s < e) (he : e ≤ L) {Q : Int32 → Mm → Prop} (hQ : Q (kdP tx s e) m) : CI g M_Tape_kindOf (lv + 7) [va_rf (some (gz g + 128)), .int (nI s), .int (nI e)] m Q := by
  have hL := X.1
  refine en_Tape_kindOf g ⟨S.k 128 rfl, c_isLetC g S X (by omega) ?_⟩
  unfold kdP at hQ
  by_cases h1 : pL (tx s) = 0
  · rw [if_neg (fun q => q h1)] at hQ
    rw [if_pos h1]
    refine c_isDigC g S X (by omega) ?_
    by_cases h2 : pD (tx s) = 0
    · rw [if_neg (fun q => q h2)] at hQ
      rw [if_pos h2]
      refine ⟨gz g + 129, S.r 128 0 rfl, S.k 129 rfl, by rw [S.n 129 rfl]; exact vp_in_nI (N := 300) (by omega) (by omega), ?_⟩
      rw [nI_clamp (show s < 2 ^ 31 by omega), X.2.1 s (by omega)]
      generalize tx s = x at hQ
      unfold sgn at hQ
      by_cases h40 : x = 40
      · rw [if_pos h40] at hQ ⊢; exact hQ
      rw [if_neg h40] at hQ ⊢
      by_cases h41 : x = 41
      · rw [if_pos h41] at hQ ⊢; exact hQ
      rw [if_neg h41] at hQ ⊢
      by_cases h42 : x = 42
      · rw [if_pos h42] at hQ ⊢; exact hQ
      rw [if_neg h42] at hQ ⊢
      by_cases h43 : x = 43
      · rw [if_pos h43] at hQ ⊢; exact hQ
      rw [if_neg h43] at hQ ⊢
      by_cases h44 : x = 44
      · rw [if_pos h44]
        subst h44
        exact hQ
      rw [if_neg h44]
      by_cases h45 : x = 45
      · rw [if_pos h45] at hQ ⊢; exact hQ
      rw [if_neg h45] at hQ ⊢
      by_cases h46 : x = 46
      · rw [if_pos h46]
        subst h46
        exact hQ
      rw [if_neg h46]
      by_cases h47 : x = 47
      · rw [if_pos h47] at hQ ⊢; exact hQ
      rw [if_neg h47] at hQ ⊢
      by_cases h48 : x = 48
      · rw [if_pos h48]
        subst h48
        exact hQ
      rw [if_neg h48]
      by_cases h49 : x = 49
      · rw [if_pos h49]
        subst h49
        exact hQ
      rw [if_neg h49]
      by_cases h50 : x = 50
      · rw [if_pos h50]
        subst h50
        exact hQ
      rw [if_neg h50]
      by_cases h51 : x = 51
      · rw [if_pos h51]
        subst h51
        exact hQ
      rw [if_neg h51]
      by_cases h52 : x = 52
      · rw [if_pos h52]
        subst h52
        exact hQ
      rw [if_neg h52]
      by_cases h53 : x = 53
      · rw [if_pos h53]
        subst h53
        exact hQ
      rw [if_neg h53]
      by_cases h54 : x = 54
      · rw [if_pos h54]
        subst h54
        exact hQ
      rw [if_neg h54]
      by_cases h55 : x = 55
      · rw [if_pos h55]
        subst h55
        exact hQ
      rw [if_neg h55]
      by_cases h56 : x = 56
      · rw [if_pos h56]
        subst h56
        exact hQ
      rw [if_neg h56]
      by_cases h57 : x = 57
      · rw [if_pos h57]
        subst h57
        exact hQ
      rw [if_neg h57]
      by_cases h58 : x = 58
      · rw [if_pos h58]
        subst h58
        exact hQ
      rw [if_neg h58]
      by_cases h59 : x = 59
      · rw [if_pos h59] at hQ ⊢; exact hQ
      rw [if_neg h59] at hQ ⊢
      by_cases h60 : x = 60
      · rw [if_pos h60] at hQ ⊢; exact hQ
      rw [if_neg h60] at hQ ⊢
      by_cases h61 : x = 61
      · rw [if_pos h61] at hQ ⊢; exact hQ
      rw [if_neg h61] at hQ ⊢
      by_cases h62 : x = 62
      · rw [if_pos h62] at hQ ⊢; exact hQ
      rw [if_neg h62] at hQ ⊢
      exact hQ
    · rw [if_pos h2] at hQ
      rw [if_neg h2]
      refine c_numC g (lv := lv + 5) S X (by omega) he ?_
      by_cases h3 : numV tx s (e - s) ≤ 999999
      · rw [if_pos h3] at hQ ⊢; exact hQ
      · rw [if_neg h3] at hQ ⊢; exact hQ
  · rw [if_pos h1] at hQ
    rw [if_neg h1]
    exact c_kindOfWord g S X (by omega) he hQ
def PPt (g : Gc) (a j : Nat) : Prop := (a = gz g + 128 ∧ j = 6) ∨ (130 ≤ a - gz g ∧ a - gz g ≤ 132)
def TokU (g : Gc) (tx : Nat → Int32) (L k : Nat) (m : Mm) : Prop := ∀ j, j < k → mI m (gz g + 130) j = kdT tx L j ∧ mI m (gz g + 131) j = plT tx L j ∧ (kdT tx L j = 3 → mI m (gz g + 132) j = vlT tx L j)
theorem TxC.st {g : Gc} {tx : Nat → Int32} {L : Nat} {m m' : Mm} (h : TxC g tx L m) (s : St (PPt g) m m') : TxC g tx L m' := ⟨h.1, fun j hj => (s.2 _ _ (by unfold PPt; omega)).1.trans (h.2.1 j hj), (s.2 _ _ (by unfold PPt; omega)).1.trans h.2.2⟩
theorem imx_nI {a b : Nat} (h : a ≤ b) (hb : b < 2 ^ 31) : imx (nI a) (nI b) = nI b := by
  unfold imx
  by_cases q : a = b
  · rw [q]; split <;> rfl
  · rw [if_pos (nI_lt (by omega) hb)]
theorem l_scan (g : Gc) {lv L T : Nat} {tx : Nat → Int32} (hT : TxT tx L T) {Q : Mm → Prop} : ∀ n i k m, L - i ≤ n → i ≤ L → k < T → skp tx L i = sTk tx L k → Sg g m → TxC g tx L m → mI m (gz g + 128) 6 = nI k → TokU g tx L k m → (∀ m', St (PPt g) m m' → TokU g tx L T m' → mI m' (gz g + 128) 6 = nI T → Q m') → At g M_Tape_scan (lv + 8) 9 [(0, va_rf (some (gz g + 128))), (2, .int (nI i))] [] m (QV Q) := by
  have fin : ∀ k m, k < T → L = sTk tx L k → Sg g m → TxC g tx L m → mI m (gz g + 128) 6 = nI k → TokU g tx L k m → (∀ m', St (PPt g) m m' → TokU g tx L T m' → mI m' (gz g + 128) 6 = nI T → Q m') → At g M_Tape_scan (lv + 8) 9 [(0, va_rf (some (gz g + 128))), (2, .int (nI L))] [] m (QV Q) := by
    intro k m hk hs S X h6 U hQ
    have hL := X.1
    have hkT := hT.last hk hs.symm
    have hTL := hT.2.1
    refine bk_Tape_scan_9 g ⟨S.k 128 rfl, ?_⟩
    rw [X.2.2, if_pos (nI_le (Nat.le_refl _) (by omega))]
    refine ⟨gz g + 130, S.r 128 1 rfl, S.k 130 rfl, ?_⟩
    rw [h6, nI_clamp (show k < 2 ^ 31 by omega)]
    refine ⟨by rw [S.n 130 rfl]; exact vp_in_nI (N := 301) (by omega) (by omega), fun m1 e1 => ?_⟩
    have s1 : St (PPt g) m m1 := by rw [e1]; exact St_sI m (by unfold PPt; omega) _
    have S1 := s1.sg S
    have h61 : mI m1 (gz g + 128) 6 = nI k := by rw [e1, mI_sI, up2_oth (by omega)]; exact h6
    refine ⟨gz g + 131, S1.r 128 2 rfl, S1.k 131 rfl, ?_⟩
    rw [h61, nI_clamp (show k < 2 ^ 31 by omega), (X.st s1).2.2]
    refine ⟨by rw [S1.n 131 rfl]; exact vp_in_nI (N := 301) (by omega) (by omega), fun m2 e2 m3 e3 => ?_⟩
    have s2 : St (PPt g) m1 m2 := by rw [e2]; exact St_sI m1 (by unfold PPt; omega) _
    have h62 : mI m2 (gz g + 128) 6 = nI k := by rw [e2, mI_sI, up2_oth (by omega)]; exact h61
    rw [h62, nI_s] at e3
    have s3 : St (PPt g) m2 m3 := by rw [e3]; exact St_sI m2 (by unfold PPt; omega) _
    have all : ∀ a j, mI m3 a j = up2 (up2 (up2 (mI m) (gz g + 130) k 2) (gz g + 131) k (nI L)) (gz g + 128) 6 (nI (k + 1)) a j := fun a j => by
      rw [e3, mI_sI, e2, mI_sI, e1, mI_sI]
    refine hQ m3 ((s1.trans s2).trans s3) (fun j hj => ?_) (by rw [all, up2_at, hkT])
    by_cases hjk : j = k
    · subst hjk
      have k2 : kdT tx L j = 2 := by unfold kdT; rw [if_neg (by omega)]
      refine ⟨?_, ?_, fun q => by rw [k2] at q; exact absurd q (by decide)⟩
      · rw [all, up2_oth (by omega), up2_oth (by omega), up2_at, k2]
      · rw [all, up2_oth (by omega), up2_at]; unfold plT; rw [← hs]
    · obtain ⟨x1, x2, x3⟩ := U j (by omega)
      refine ⟨?_, ?_, fun q => ?_⟩
      · rw [all, up2_oth (by omega), up2_oth (by omega), up2_sl hjk]; exact x1
      · rw [all, up2_oth (by omega), up2_sl hjk, up2_oth (by omega)]; exact x2
      · rw [all, up2_oth (by omega), up2_oth (by omega), up2_oth (by omega)]; exact x3 q
  intro n
  induction n with
  | zero =>
    intro i k m h1 h2 hk hs S X h6 U hQ
    have : i = L := by omega
    subst this
    exact fin k m hk (by rw [← hs]; exact (rn_no X.1 (Or.inl (Nat.le_refl _))).symm) S X h6 U hQ
  | succ n ih =>
    intro i k m h1 h2 hk hs S X h6 U hQ
    by_cases hiL : i = L
    · subst hiL
      exact fin k m hk (by rw [← hs]; exact (rn_no X.1 (Or.inl (Nat.le_refl _))).symm) S X h6 U hQ
    have hL := X.1
    have hi : i < L := by omega
    have hTL := hT.2.1
    obtain ⟨r1, r2⟩ := stp_rng (tx := tx) hL hi
    have v29 : vp_in (nI i) (mN m (gz g + 129)) := by rw [S.n 129 rfl]; exact vp_in_nI (N := 300) (by omega) (by omega)
    refine bk_Tape_scan_9 g ⟨S.k 128 rfl, ?_⟩
    rw [X.2.2, if_neg (nI_ge (by omega) (by omega))]
    refine c_stopOf g (lv := lv + 5) S X hi ⟨gz g + 129, S.r 128 0 rfl, S.k 129 rfl, v29, ?_⟩
    rw [nI_clamp (show i < 2 ^ 31 by omega), X.2.1 i hi]
    have space : tx i = 32 ∨ tx i = 10 → At g M_Tape_scan (lv + 8) 112 [(0, va_rf (some (gz g + 128))), (1, .int (nI (stp tx L i))), (2, .int (nI i))] [] m (QV Q) := by
      intro hx
      obtain ⟨p1, p2, p3⟩ := pSp hx
      have e1 : stp tx L i = i + 1 := by unfold stp; rw [if_neg (fun q => q p1), if_neg (fun q => q p2)]
      refine bk_Tape_scan_112 g ?_
      rw [e1, nI_s, imx_nI (Nat.le_refl _) (by omega)]
      refine ih (i + 1) k m (by omega) (by omega) hk ?_ S X h6 U hQ
      rw [← hs]
      exact (rn_go hL hi p3).symm
    by_cases h32 : tx i = 32
    · rw [if_pos h32]; exact space (Or.inl h32)
    rw [if_neg h32]
    refine ⟨v29, ?_⟩
    by_cases h10 : tx i = 10
    · rw [if_pos h10]; exact space (Or.inr h10)
    rw [if_neg h10]
    have hsi : sTk tx L k = i := by
      rw [← hs]
      refine rn_no hL (Or.inr ?_)
      unfold pS
      rw [if_neg h32, if_neg h10]
    have kk : kdT tx L k = kdP tx i (stp tx L i) := by unfold kdT; rw [hsi, if_pos hi]
    have vv : vlT tx L k = numV tx i (stp tx L i - i) := by unfold vlT; rw [hsi]
    have hk1 : k + 1 < T := by
      rcases Nat.lt_or_ge (k + 1) T with q | q
      · exact q
      · have := hT.2.2.1
        rw [show T - 1 = k by omega] at this
        omega
    refine ⟨gz g + 130, S.r 128 1 rfl, c_kindOf g S X (by omega) r2 ⟨S.k 130 rfl, ?_⟩⟩
    rw [h6, nI_clamp (show k < 2 ^ 31 by omega), ← kk]
    refine ⟨by rw [S.n 130 rfl]; exact vp_in_nI (N := 301) (by omega) (by omega), fun m1 e1 => ?_⟩
    have s1 : St (PPt g) m m1 := by rw [e1]; exact St_sI m (by unfold PPt; omega) _
    have S1 := s1.sg S
    have X1 := X.st s1
    have h61 : mI m1 (gz g + 128) 6 = nI k := by rw [e1, mI_sI, up2_oth (by omega)]; exact h6
    refine ⟨gz g + 131, S1.r 128 2 rfl, S1.k 131 rfl, ?_⟩
    rw [h61, nI_clamp (show k < 2 ^ 31 by omega)]
    refine ⟨by rw [S1.n 131 rfl]; exact vp_in_nI (N := 301) (by omega) (by omega), fun m2 e2 => ?_⟩
    have s2 : St (PPt g) m1 m2 := by rw [e2]; exact St_sI m1 (by unfold PPt; omega) _
    have S2 := s2.sg S1
    have X2 := X1.st s2
    have h62 : mI m2 (gz g + 128) 6 = nI k := by rw [e2, mI_sI, up2_oth (by omega)]; exact h61
    have q2 : mI m2 (gz g + 130) k = kdT tx L k := by rw [e2, mI_sI, up2_oth (by omega), e1, mI_sI, up2_at]
    refine ⟨gz g + 132, S2.r 128 3 rfl, ?_⟩
    rw [h62, nI_clamp (show k < 2 ^ 31 by omega), q2]
    refine ⟨by rw [S2.n 130 rfl]; exact vp_in_nI (N := 301) (by omega) (by omega), ?_⟩
    have rest : ∀ v : Int32, (kdT tx L k = 3 → v = vlT tx L k) → At g M_Tape_scan (lv + 8) 101 [(0, va_rf (some (gz g + 128))), (1, .int (nI (stp tx L i))), (2, .int (nI i))] [.int v, .int (nI k), va_rf (some (gz g + 132))] m2 (QV Q) := by
      intro v hv
      refine bk_Tape_scan_101 g ⟨gz g + 132, rfl, S2.k 132 rfl, by rw [S2.n 132 rfl]; exact vp_in_nI (N := 301) (by omega) (by omega), fun m3 e3 => ?_⟩
      rw [nI_clamp (show k < 2 ^ 31 by omega)] at e3
      have s3 : St (PPt g) m2 m3 := by rw [e3]; exact St_sI m2 (by unfold PPt; omega) _
      refine ⟨(s3.sg S2).k 128 rfl, fun m4 e4 => ?_⟩
      have h63 : mI m3 (gz g + 128) 6 = nI k := by rw [e3, mI_sI, up2_oth (by omega)]; exact h62
      rw [h63, nI_s] at e4
      have s4 : St (PPt g) m3 m4 := by rw [e4]; exact St_sI m3 (by unfold PPt; omega) _
      have s14 := ((s1.trans s2).trans s3).trans s4
      have all : ∀ a j, mI m4 a j = up2 (up2 (up2 (up2 (mI m) (gz g + 130) k (kdT tx L k)) (gz g + 131) k (nI i)) (gz g + 132) k v) (gz g + 128) 6 (nI (k + 1)) a j := fun a j => by
        rw [e4, mI_sI, e3, mI_sI, e2, mI_sI, e1, mI_sI]
      refine bk_Tape_scan_112 g ?_
      rw [nI_s, imx_nI r1 (by omega)]
      refine ih (stp tx L i) (k + 1) m4 (by omega) r2 hk1 (by rw [sTk_s, hsi]) (s14.sg S) (X.st s14) (by rw [all, up2_at]) (fun j hj => ?_) (fun m' s' U' h' => hQ m' (s14.trans s') U' h')
      by_cases hjk : j = k
      · subst hjk
        refine ⟨?_, ?_, fun q => ?_⟩
        · rw [all, up2_oth (by omega), up2_oth (by omega), up2_oth (by omega), up2_at]
        · rw [all, up2_oth (by omega), up2_oth (by omega), up2_at]; unfold plT; rw [hsi]
        · rw [all, up2_oth (by omega), up2_at]; exact hv q
      · obtain ⟨x1, x2, x3⟩ := U j (by omega)
        refine ⟨?_, ?_, fun q => ?_⟩
        · rw [all, up2_oth (by omega), up2_oth (by omega), up2_oth (by omega), up2_sl hjk]; exact x1
        · rw [all, up2_oth (by omega), up2_oth (by omega), up2_sl hjk, up2_oth (by omega)]; exact x2
        · rw [all, up2_oth (by omega), up2_sl hjk, up2_oth (by omega), up2_oth (by omega)]; exact x3 q
    by_cases h3 : kdT tx L k = 3
    · rw [if_pos h3]
      refine c_numC g (lv := lv + 6) S2 X2 (by omega) r2 ?_
      rw [← vv]
      exact rest _ (fun _ => rfl)
    · rw [if_neg h3]
      exact rest _ (fun q => absurd q h3)
theorem c_scan (g : Gc) {lv L T : Nat} {tx : Nat → Int32} (hT : TxT tx L T) {m : Mm} (S : Sg g m) (X : TxC g tx L m) {Q : Mm → Prop} (hQ : ∀ m', St (PPt g) m m' → TokU g tx L T m' → mI m' (gz g + 128) 6 = nI T → Q m') : CV g M_Tape_scan (lv + 8) [va_rf (some (gz g + 128))] m Q := by
  refine en_Tape_scan g ⟨S.k 128 rfl, fun m1 e1 => ?_⟩
  have s1 : St (PPt g) m m1 := by rw [e1]; exact St_sI m (by unfold PPt; omega) _
  exact l_scan g hT L 0 0 m1 (by omega) (Nat.zero_le _) hT.1 rfl (s1.sg S) (X.st s1) (by rw [e1, mI_sI, up2_at]; rfl) (fun j hj => by omega) (fun m' s' U h => hQ m' (s1.trans s') U h)
/-- what came of a text -/
def lawOf (tx : Nat → Int32) (L : Nat) : Option ResL := plw (kdT tx L) (vlT tx L) 400 0 []
theorem lawOf_ex (tx : Nat → Int32) {L : Nat} (hL : L ≤ 300) : ∃ res, lawOf tx L = some res := by
  obtain ⟨T, hT⟩ := txT_ex tx hL
  exact plw_tot (hT.toks hL) 400 0 [] hT.1 (by have := hT.2.1; omega)
def PPr (g : Gc) (a j : Nat) : Prop := (a = gz g + 128 ∧ 4 ≤ j) ∨ (130 ≤ a - gz g ∧ a - gz g ≤ 138)
theorem c_readLaw (g : Gc) {b L : Nat} {tx : Nat → Int32} {m : Mm} {res : ResL} (S : Sg g m) (X : TxC g tx L m) (h : lawOf tx L = some res) {Q : Int32 → Mm → Prop} (Pok : ∀ cs, res = Sum.inl cs → ∀ m', St (PPr g) (sR m (gz g + 128) 8 (some (gz g + 133))) m' → mI m' (gz g + 128) 4 = 0 → LawD g cs m' → mI m' (gz g + 128) 5 = -1 → Q 1 m') (Perr : ∀ e, res = Sum.inr e → ∀ m', St (PPr g) (sR m (gz g + 128) 8 (some (gz g + 133))) m' → mI m' (gz g + 128) 4 = 0 → mI m' (gz g + 128) 5 = plT tx L e → Q 0 m') : CI g M_Tape_readLaw (b + 35) [va_rf (some (gz g + 128)), va_rf (some (gz g + 133))] m Q := by
  have hL := X.1
  obtain ⟨T, hT⟩ := txT_ex tx hL
  have hTk := hT.toks hL
  refine en_Tape_readLaw g ⟨S.k 128 rfl, fun m1 e1 => ?_⟩
  have x1 : Ext m m1 := by rw [e1]; exact Ext.sR _ (Or.inl (by rw [S.k 128 rfl]; rfl))
  have S1 := S.ext x1
  have r1 : mR m1 (gz g + 128) 8 = some (gz g + 133) := by rw [e1, mR_sR, up2_at]
  refine ⟨gz g + 133, r1, S1.k 133 rfl, fun m2 e2 => ?_⟩
  have s2 : St (PPr g) m1 m2 := by rw [e2]; exact St_sI m1 (by unfold PPr; omega) _
  refine ⟨gz g + 133, by rw [s2.1.1]; exact r1, (s2.sg S1).k 133 rfl, fun m3 e3 m4 e4 m5 e5 => ?_⟩
  have s3 : St (PPr g) m2 m3 := by rw [e3]; exact St_sI m2 (by unfold PPr; omega) _
  have s4 : St (PPr g) m3 m4 := by rw [e4]; exact St_sI m3 (by unfold PPr; omega) _
  have s5 : St (PPr g) m4 m5 := by rw [e5]; exact St_sI m4 (by unfold PPr; omega) _
  have s15 := ((s2.trans s3).trans s4).trans s5
  have all : ∀ a j, mI m5 a j = up2 (up2 (up2 (up2 (mI m) (gz g + 133) 5 0) (gz g + 133) 6 0) (gz g + 128) 5 (-1)) (gz g + 128) 7 0 a j := fun a j => by
    rw [e5, mI_sI, e4, mI_sI, e3, mI_sI, e2, mI_sI, e1, mI_sR]
  have X5 : TxC g tx L m5 := ⟨hL, fun j hj => by rw [all, up2_oth (by omega), up2_oth (by omega), up2_oth (by omega), up2_oth (by omega)]; exact X.2.1 j hj, by rw [all, up2_sl (by omega), up2_sl (by omega), up2_oth (by omega), up2_oth (by omega)]; exact X.2.2⟩
  rw [show b + 34 = (b + 26) + 8 by omega]
  refine c_scan g hT (s15.sg S1) X5 (fun m6 s6 U6 h66 m7 e7 => ?_)
  have s6r : St (PPr g) m5 m6 := s6.weak (fun a j q => by unfold PPt at q; unfold PPr; omega)
  have s7 : St (PPr g) m6 m7 := by rw [e7]; exact St_sI m6 (by unfold PPr; omega) _
  have s17 := (s15.trans s6r).trans s7
  have S7 := s17.sg S1
  have o6 : ∀ a j, a ≠ gz g + 128 → mI m7 a j = mI m6 a j := fun a j q => by rw [e7, mI_sI, up2_oth q]
  have K7 : TokC g T (kdT tx L) (vlT tx L) (plT tx L) m7 := by
    refine ⟨fun j hj => ?_, ?_, by rw [s17.1.1]; exact r1⟩
    · obtain ⟨y1, y2, y3⟩ := U6 j hj
      exact ⟨(o6 _ _ (by omega)).trans y1, (o6 _ _ (by omega)).trans y2, fun q => (o6 _ _ (by omega)).trans (y3 q)⟩
    · rw [e7, mI_sI, up2_sl (by omega)]; exact h66
  have at7 : mI m7 (gz g + 128) 7 = nI 0 := by
    rw [e7, mI_sI, up2_sl (by omega), (s6.2 _ _ (by unfold PPt; omega)).1, all, up2_at]; rfl
  have f7 : mI m7 (gz g + 128) 5 = -1 := by
    rw [e7, mI_sI, up2_sl (by omega), (s6.2 _ _ (by unfold PPt; omega)).1, all, up2_sl (by omega), up2_at]
  have L7 : LawD g [] m7 := by
    refine ⟨?_, ⟨?_, fun k hk => absurd hk (Nat.not_lt_zero _)⟩, fun k c hk => by simp at hk⟩
    · rw [o6 _ _ (by omega), (s6.2 _ _ (by unfold PPt; omega)).1, all, up2_oth (by omega), up2_oth (by omega), up2_sl (by omega), up2_at]; rfl
    · rw [o6 _ _ (by omega), (s6.2 _ _ (by unfold PPt; omega)).1, all, up2_oth (by omega), up2_oth (by omega), up2_at]; rfl
  have f4 : mI m7 (gz g + 128) 4 = 0 := by rw [e7, mI_sI, up2_at]
  have lr : ∀ {ma mb : Mm}, St (PPl g) ma mb → St (PPr g) ma mb := fun s => s.weak (fun a j q => by unfold PPl at q; unfold PPr; omega)
  rw [e1] at s17
  refine c_lawC g (b := b) hTk 400 0 [] res m7 Q hT.1 h S7 K7 at7 L7 (Nat.le_refl _) (by decide) ⟨fun cs hc m8 s8 d8 L8 f8 => ?_, fun e he m8 s8 d8 a8 => ?_⟩
  · exact Pok cs hc m8 (s17.trans (lr s8)) (by rw [d8 4 (by omega) (by omega)]; exact f4) L8 (by rw [f8]; exact f7)
  · exact Perr e he m8 (s17.trans (lr s8)) (by rw [d8 4 (by omega) (by omega)]; exact f4) a8
