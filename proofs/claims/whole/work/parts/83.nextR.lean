/-! ===== the reference's next token; is it this word, this sign? ===== -/
theorem sgn_1 {x : Int32} : sgn x = 1 ↔ ¬ (x = 40 ∨ x = 41 ∨ x = 42 ∨ x = 43 ∨ x = 45 ∨ x = 47 ∨ x = 59 ∨ x = 60 ∨ x = 61 ∨ x = 62) := by
  unfold sgn
  by_cases h40 : x = 40
  · rw [if_pos h40]; subst h40; decide
  rw [if_neg h40]
  by_cases h41 : x = 41
  · rw [if_pos h41]; subst h41; decide
  rw [if_neg h41]
  by_cases h42 : x = 42
  · rw [if_pos h42]; subst h42; decide
  rw [if_neg h42]
  by_cases h43 : x = 43
  · rw [if_pos h43]; subst h43; decide
  rw [if_neg h43]
  by_cases h45 : x = 45
  · rw [if_pos h45]; subst h45; decide
  rw [if_neg h45]
  by_cases h47 : x = 47
  · rw [if_pos h47]; subst h47; decide
  rw [if_neg h47]
  by_cases h59 : x = 59
  · rw [if_pos h59]; subst h59; decide
  rw [if_neg h59]
  by_cases h60 : x = 60
  · rw [if_pos h60]; subst h60; decide
  rw [if_neg h60]
  by_cases h61 : x = 61
  · rw [if_pos h61]; subst h61; decide
  rw [if_neg h61]
  by_cases h62 : x = 62
  · rw [if_pos h62]; subst h62; decide
  rw [if_neg h62]
  exact ⟨fun _ q => q.elim h40 fun q => q.elim h41 fun q => q.elim h42 fun q => q.elim h43 fun q => q.elim h45 fun q => q.elim h47 fun q => q.elim h59 fun q => q.elim h60 fun q => q.elim h61 h62, fun _ => rfl⟩
theorem l_next0 (g : Gc) {lv L base : Nat} {tx : Nat → Int32} {Q : Mm → Prop} : ∀ n i m, L - i ≤ n → i ≤ L → Sg g m → RTx g tx L base m → mI m (gz g + 145) 50 = nI i → (∀ m', St (PN5 g) m m' → mI m' (gz g + 145) 50 = nI (skp tx L i) → At g M_RF_next (lv + 2) 50 [(0, va_rf (some (gz g + 145)))] [] m' (QV Q)) → At g M_RF_next (lv + 2) 0 [(0, va_rf (some (gz g + 145)))] [] m (QV Q) := by
  intro n
  induction n with
  | zero =>
    intro i m h1 h2 S X h50 hQ
    have hL := X.1
    refine bk_RF_next_0 g ⟨S.k 145 rfl, ?_⟩
    rw [X.2.2.2.1, h50, if_pos (nI_le (by omega) (by omega))]
    exact hQ m (St.refl _ _) (by unfold skp; rw [rn_no hL (Or.inl (by omega))]; exact h50)
  | succ n ih =>
    intro i m h1 h2 S X h50 hQ
    have hL := X.1
    refine bk_RF_next_0 g ⟨S.k 145 rfl, ?_⟩
    rw [X.2.2.2.1, h50]
    by_cases hi : L ≤ i
    · rw [if_pos (nI_le (by omega) (by omega))]
      exact hQ m (St.refl _ _) (by unfold skp; rw [rn_no hL (Or.inl (by omega))]; exact h50)
    rw [if_neg (nI_ge (by omega) (by omega))]
    have hz : txz tx L i = tx i := by unfold txz; rw [if_pos (by omega)]
    have sp : tx i = 32 ∨ tx i = 10 → ∀ m1, m1 = sI m (gz g + 145) 50 (nI i + 1) → At g M_RF_next (lv + 2) 0 [(0, va_rf (some (gz g + 145)))] [] m1 (QV Q) := by
      intro hx m1 e1
      obtain ⟨-, -, p3⟩ := pSp hx
      rw [nI_s] at e1
      have s1 : St (PN5 g) m m1 := by rw [e1]; exact St_sI m (by unfold PN5; omega) _
      refine ih (i + 1) m1 (by omega) (by omega) (s1.sg S) (X.p5 s1) (by rw [e1, mI_sI, up2_at]) (fun m' s' a' => hQ m' (s1.trans s') ?_)
      rw [a']
      unfold skp
      rw [← rn_go hL (by omega) p3]
    refine c_atR g S X (by omega) ?_
    rw [hz]
    by_cases h32 : tx i = 32
    · rw [if_pos h32, h50]
      exact sp (Or.inl h32)
    rw [if_neg h32, h50]
    refine c_atR g S X (by omega) ?_
    rw [hz]
    by_cases h10 : tx i = 10
    · rw [if_pos h10, h50]
      exact sp (Or.inr h10)
    rw [if_neg h10]
    refine hQ m (St.refl _ _) ?_
    unfold skp
    rw [rn_no hL (Or.inr (by unfold pS; rw [if_neg h32, if_neg h10]))]
    exact h50
theorem c_nextR (g : Gc) {lv L base i k : Nat} {tx : Nat → Int32} {m : Mm} (S : Sg g m) (X : RTx g tx L base m) (hi : i ≤ L) (h50 : mI m (gz g + 145) 50 = nI i) (hk : skp tx L i = sTk tx L k) {Q : Mm → Prop} (hQ : ∀ m', St (PN5 g) m m' → RAt g tx L k m' → Q m') : CV g M_RF_next (lv + 2) [va_rf (some (gz g + 145))] m Q := by
  have hL := X.1
  refine Call.of (by decide +kernel) (Nat.le_of_ble_eq_true rfl) ?_
  show At g M_RF_next (lv + 2) 0 [(0, va_rf (some (gz g + 145)))] [] m (QV Q)
  refine l_next0 g L i m (by omega) hi S X h50 (fun m1 s1 a1 => ?_)
  rw [hk] at a1
  have hsl : sTk tx L k ≤ L := by rw [← hk]; exact (rn_le hL hi).2
  have S1 := s1.sg S
  have X1 := X.p5 s1
  refine bk_RF_next_50 g ⟨S1.k 145 rfl, fun m2 e2 => ?_⟩
  rw [a1] at e2
  have s2 : St (PN5 g) m1 m2 := by rw [e2]; exact St_sI m1 (by unfold PN5; omega) _
  have S2 := s2.sg S1
  have X2 := X1.p5 s2
  have b50 : mI m2 (gz g + 145) 50 = nI (sTk tx L k) := by rw [e2, mI_sI, up2_sl (by omega)]; exact a1
  have b51 : mI m2 (gz g + 145) 51 = nI (sTk tx L k) := by rw [e2, mI_sI, up2_at]
  rw [b50]
  refine c_atR g S2 X2 (by omega) ?_
  rw [b50, X2.2.2.2.1]
  have s12 := s1.trans s2
  generalize hs : sTk tx L k = s at hsl b50 b51
  by_cases hse : s = L
  · rw [if_pos (by rw [hse])]
    intro m3 e3
    have s3 : St (PN5 g) m2 m3 := by rw [e3]; exact St_sI m2 (by unfold PN5; omega) _
    have sr : srT tx L k = 0 := by unfold srT; rw [hs, if_neg (by omega)]
    refine hQ m3 (s12.trans s3) ⟨?_, ?_, ?_, fun q => by rw [sr] at q; exact absurd q (by decide)⟩
    · rw [e3, mI_sI, up2_sl (by omega), hs]; exact b51
    · unfold enT; rw [hs, if_neg (by omega), e3, mI_sI, up2_sl (by omega), b50, hse]
    · rw [e3, mI_sI, up2_at, sr]
  rw [if_neg (fun q => hse ((nI_eq (by omega) (by omega)).mp q))]
  have hsL : s < L := by omega
  have hz : txz tx L s = tx s := by unfold txz; rw [if_pos hsL]
  rw [hz]
  have sr : srT tx L k = srP tx s (stp tx L s) := by unfold srT; rw [hs, if_pos hsL]
  have en : enT tx L k = stp tx L s := by unfold enT; rw [hs, if_pos hsL]
  refine c_isLetR g ?_
  by_cases hl : pL (tx s) = 0
  · rw [if_pos hl]
    refine c_isDigR g ?_
    by_cases hd : pD (tx s) = 0
    · rw [if_pos hd]
      have stp1 : stp tx L s = s + 1 := by unfold stp; rw [if_neg (fun q => q hl), if_neg (fun q => q hd)]
      have sr2 : srT tx L k = if sgn (tx s) = 1 then 4 else 3 := by rw [sr]; unfold srP; rw [if_neg (fun q => q hl), if_neg (fun q => q hd)]
      have fin : ∀ w : Int32, w = srT tx L k → ∀ m3, m3 = sI m2 (gz g + 145) 52 w → ∀ m4, m4 = sI m3 (gz g + 145) 50 (mI m3 (gz g + 145) 50 + 1) → Q m4 := by
        intro w hw m3 e3 m4 e4
        have c50 : mI m3 (gz g + 145) 50 = nI s := by rw [e3, mI_sI, up2_sl (by omega)]; exact b50
        rw [c50, nI_s] at e4
        have s4 : St (PN5 g) m2 m4 := by rw [e4, e3]; exact (St_sI m2 (by unfold PN5; omega) _).trans (St_sI _ (by unfold PN5; omega) _)
        refine hQ m4 (s12.trans s4) ⟨?_, ?_, ?_, fun q => ?_⟩
        · rw [e4, mI_sI, up2_sl (by omega), e3, mI_sI, up2_sl (by omega), hs]; exact b51
        · rw [en, stp1, e4, mI_sI, up2_at]
        · rw [e4, mI_sI, up2_sl (by omega), e3, mI_sI, up2_at, hw]
        · rw [sr2] at q; split at q <;> exact absurd q (by decide)
      have good : (tx s = 40 ∨ tx s = 41 ∨ tx s = 42 ∨ tx s = 43 ∨ tx s = 45 ∨ tx s = 47 ∨ tx s = 59 ∨ tx s = 60 ∨ tx s = 61 ∨ tx s = 62) → (3 : Int32) = srT tx L k := fun q => by
        rw [sr2, if_neg (fun e => sgn_1.mp e q)]
      by_cases h43 : tx s = 43
      · rw [if_pos h43]; exact fin _ (good (Or.inr (Or.inr (Or.inr (Or.inl h43)))))
      rw [if_neg h43]
      by_cases h45 : tx s = 45
      · rw [if_pos h45]; exact fin _ (good (Or.inr (Or.inr (Or.inr (Or.inr (Or.inl h45))))))
      rw [if_neg h45]
      by_cases h42 : tx s = 42
      · rw [if_pos h42]; exact fin _ (good (Or.inr (Or.inr (Or.inl h42))))
      rw [if_neg h42]
      by_cases h47 : tx s = 47
      · rw [if_pos h47]; exact fin _ (good (Or.inr (Or.inr (Or.inr (Or.inr (Or.inr (Or.inl h47)))))))
      rw [if_neg h47]
      by_cases h40 : tx s = 40
      · rw [if_pos h40]; exact fin _ (good (Or.inl h40))
      rw [if_neg h40]
      by_cases h41 : tx s = 41
      · rw [if_pos h41]; exact fin _ (good (Or.inr (Or.inl h41)))
      rw [if_neg h41]
      by_cases h60 : tx s = 60
      · rw [if_pos h60]; exact fin _ (good (Or.inr (Or.inr (Or.inr (Or.inr (Or.inr (Or.inr (Or.inr (Or.inl h60)))))))))
      rw [if_neg h60]
      by_cases h62 : tx s = 62
      · rw [if_pos h62]; exact fin _ (good (Or.inr (Or.inr (Or.inr (Or.inr (Or.inr (Or.inr (Or.inr (Or.inr (Or.inr (h62)))))))))))
      rw [if_neg h62]
      by_cases h61 : tx s = 61
      · rw [if_pos h61]; exact fin _ (good (Or.inr (Or.inr (Or.inr (Or.inr (Or.inr (Or.inr (Or.inr (Or.inr (Or.inl h61))))))))))
      rw [if_neg h61]
      by_cases h59 : tx s = 59
      · rw [if_pos h59]; exact fin _ (good (Or.inr (Or.inr (Or.inr (Or.inr (Or.inr (Or.inr (Or.inl h59))))))))
      rw [if_neg h59]
      refine fin _ ?_
      rw [sr2, if_pos (sgn_1.mpr (fun q => q.elim h40 fun q => q.elim h41 fun q => q.elim h42 fun q => q.elim h43 fun q => q.elim h45 fun q => q.elim h47 fun q => q.elim h59 fun q => q.elim h60 fun q => q.elim h61 h62))]
    · rw [if_neg hd]
      intro m3 e3 m4 e4
      have s4 : St (PN5 g) m2 m4 := by rw [e4, e3]; exact (St_sI m2 (by unfold PN5; omega) _).trans (St_sL _ (by unfold PN5; omega) _)
      have stp1 : stp tx L s = rn pD tx L s := by unfold stp; rw [if_neg (fun q => q hl), if_pos hd, ← rn_go hL hsL hd]
      have sr2 : srT tx L k = if numV tx s (rn pD tx L s - s) ≤ 999999 then 2 else 4 := by rw [sr]; unfold srP; rw [if_neg (fun q => q hl), if_pos hd, stp1]
      refine l_next142 g (s := s) (by omega) L 0 m4 (by omega) (by omega) (s4.sg S2) (X2.p5 s4) ?_ ?_ ?_ (fun m5 s5 a5 b5 c5 d5 => ?_)
      · rw [e4, mI_sL, e3, mI_sI, up2_sl (by omega)]; exact b50
      · rw [e4, mI_sL, e3, mI_sI, up2_at]
      · rw [e4, mL_sL, up2_at]; exact ⟨0, by omega, rfl, Or.inl ⟨by omega, rfl⟩⟩
      · rw [Nat.add_zero] at a5 c5 d5
        refine hQ m5 ((s12.trans s4).trans s5) ⟨?_, ?_, ?_, fun q => ?_⟩
        · rw [b5, e4, mI_sL, e3, mI_sI, up2_sl (by omega), hs]; exact b51
        · rw [en, stp1]; exact a5
        · rw [sr2]; exact c5
        · rw [sr2] at q
          by_cases h9 : numV tx s (rn pD tx L s - s) ≤ 999999
          · rw [d5 h9]; unfold vlT; rw [hs, stp1]
          · rw [if_neg h9] at q; exact absurd q (by decide)
  · rw [if_neg hl]
    intro m3 e3
    have s3 : St (PN5 g) m2 m3 := by rw [e3]; exact St_sI m2 (by unfold PN5; omega) _
    have stp1 : stp tx L s = rn pL tx L s := by unfold stp; rw [if_pos hl, ← rn_go hL hsL hl]
    have sr2 : srT tx L k = 1 := by rw [sr]; unfold srP; rw [if_pos hl]
    refine l_next98 g L s m3 (by omega) (by omega) (s3.sg S2) (X2.p5 s3) (by rw [e3, mI_sI, up2_sl (by omega)]; exact b50) (fun m4 s4 a4 b4 c4 => ?_)
    refine hQ m4 ((s12.trans s3).trans s4) ⟨?_, ?_, ?_, fun q => by rw [sr2] at q; exact absurd q (by decide)⟩
    · rw [b4 51 (by omega), e3, mI_sI, up2_sl (by omega), hs]; exact b51
    · rw [en, stp1]; exact a4
    · rw [b4 52 (by omega), e3, mI_sI, up2_at, sr2]
/-- from one token to the next -/
theorem c_nextT (g : Gc) {lv L base k T : Nat} {tx : Nat → Int32} {m : Mm} (hT : TxT tx L T) (S : Sg g m) (X : RTx g tx L base m) (R : RAt g tx L k m) (hk : k + 1 < T) {Q : Mm → Prop} (hQ : ∀ m', St (PN5 g) m m' → RAt g tx L (k + 1) m' → Q m') : CV g M_RF_next (lv + 2) [va_rf (some (gz g + 145))] m Q := by
  have hs := hT.2.2.2 k hk
  have en : enT tx L k = stp tx L (sTk tx L k) := by unfold enT; rw [if_pos hs]
  have r := stp_rng (tx := tx) X.1 hs
  exact c_nextR g S X r.2 (by rw [← en]; exact R.2.1) rfl hQ
theorem sgn_rng (x : Int32) : sgn x = 1 ∨ ∃ j, 4 ≤ j ∧ j ≤ 13 ∧ sgn x = nI j := by
  unfold sgn
  by_cases h40 : x = 40
  · rw [if_pos h40]; exact Or.inr ⟨8, by decide, by decide, rfl⟩
  rw [if_neg h40]
  by_cases h41 : x = 41
  · rw [if_pos h41]; exact Or.inr ⟨9, by decide, by decide, rfl⟩
  rw [if_neg h41]
  by_cases h42 : x = 42
  · rw [if_pos h42]; exact Or.inr ⟨6, by decide, by decide, rfl⟩
  rw [if_neg h42]
  by_cases h43 : x = 43
  · rw [if_pos h43]; exact Or.inr ⟨4, by decide, by decide, rfl⟩
  rw [if_neg h43]
  by_cases h45 : x = 45
  · rw [if_pos h45]; exact Or.inr ⟨5, by decide, by decide, rfl⟩
  rw [if_neg h45]
  by_cases h47 : x = 47
  · rw [if_pos h47]; exact Or.inr ⟨7, by decide, by decide, rfl⟩
  rw [if_neg h47]
  by_cases h59 : x = 59
  · rw [if_pos h59]; exact Or.inr ⟨13, by decide, by decide, rfl⟩
  rw [if_neg h59]
  by_cases h60 : x = 60
  · rw [if_pos h60]; exact Or.inr ⟨10, by decide, by decide, rfl⟩
  rw [if_neg h60]
  by_cases h61 : x = 61
  · rw [if_pos h61]; exact Or.inr ⟨12, by decide, by decide, rfl⟩
  rw [if_neg h61]
  by_cases h62 : x = 62
  · rw [if_pos h62]; exact Or.inr ⟨11, by decide, by decide, rfl⟩
  rw [if_neg h62]
  exact Or.inl rfl
theorem nI_neq {a b : Nat} (ha : a < 2 ^ 31) (hb : b < 2 ^ 31) (h : a ≠ b) : ¬ nI a = nI b := fun q => h ((nI_eq ha hb).mp q)
theorem wd_num {y : Int32} {w : Nat} (hw : w < 13) (h : y = 1 ∨ ∃ j, 2 ≤ j ∧ j ≤ 13 ∧ y = nI j) : ¬ y = nI (14 + w) := by
  rcases h with rfl | ⟨j, h1, h2, rfl⟩
  · exact nI_neq (a := 1) (by omega) (by omega) (by omega)
  · exact nI_neq (by omega) (by omega) (by omega)
theorem l_isR (g : Gc) {lv L base s e w : Nat} {tx : Nat → Int32} {m : Mm} (S : Sg g m) (X : RTx g tx L base m) (hw : w < 13) (hs : s ≤ e) (he : e ≤ L) (h51 : mI m (gz g + 145) 51 = nI s) (hes : e - s = stLen.getD w 0) {Q : Int32 → Mm → Prop} (hQ : Q (spl tx s e w) m) : ∀ n c, stLen.getD w 0 ≤ c + n → c ≤ stLen.getD w 0 → (∀ j, j < c → tx (s + j) = (stByt.getD w []).getD j 0) → At g M_RF_is (lv + 5) 39 [(0, va_rf (some (gz g + 145))), (1, va_rf (some (gK g w))), (2, .int (1 : Int32)), (3, .int (nI c))] [] m (QI Q) := by
  have hL := X.1
  have l10 := st_len10 w hw
  intro n
  induction n with
  | zero =>
    intro c h1 h2 h3
    refine bk_RF_is_39 g ?_
    rw [if_neg (by decide)]
    refine ⟨w, hw, rfl, c_strlen g (lv := lv + 2) hw ?_⟩
    rw [if_pos (nI_le (by omega) (by omega))]
    rw [spl_1 hes (fun j hj => h3 j (by omega))] at hQ
    exact ⟨Or.inr rfl, hQ⟩
  | succ n ih =>
    intro c h1 h2 h3
    refine bk_RF_is_39 g ?_
    rw [if_neg (by decide)]
    refine ⟨w, hw, rfl, c_strlen g (lv := lv + 2) hw ?_⟩
    by_cases hc : stLen.getD w 0 ≤ c
    · rw [if_pos (nI_le hc (by omega))]
      rw [spl_1 hes (fun j hj => h3 j (by omega))] at hQ
      exact ⟨Or.inr rfl, hQ⟩
    rw [if_neg (nI_ge (by omega) (by omega)), h51, nI_add]
    refine ⟨S.k 145 rfl, c_atR g (lv := lv + 3) S X (by omega) ?_⟩
    have hz : txz tx L (s + c) = tx (s + c) := by unfold txz; rw [if_pos (by omega)]
    rw [hz]
    refine c_charAt g hw (by omega) ?_
    by_cases hx : tx (s + c) = (stByt.getD w []).getD c 0
    · rw [if_pos hx, nI_s]
      refine ih (c + 1) (by omega) (by omega) (fun j hj => ?_)
      by_cases hjc : j = c
      · rw [hjc]; exact hx
      · exact h3 j (by omega)
    · rw [if_neg hx]
      rw [spl_0 (fun q => hx (q.2 c (by omega)))] at hQ
      refine bk_RF_is_39 g ?_
      rw [if_pos rfl]
      exact ⟨Or.inl rfl, hQ⟩
theorem c_isR (g : Gc) {lv L base k w : Nat} {tx : Nat → Int32} {m : Mm} (S : Sg g m) (X : RTx g tx L base m) (R : RAt g tx L k m) (h55 : mI m (gz g + 145) 55 = 0) (hw : w < 13) {Q : Int32 → Mm → Prop} (hQ : Q (if kdT tx L k = nI (14 + w) then 1 else 0) m) : CI g M_RF_is (lv + 5) [va_rf (some (gz g + 145)), va_rf (some (gK g w))] m Q := by
  have hL := X.1
  have l10 := st_len10 w hw
  refine en_RF_is g ⟨S.k 145 rfl, ?_⟩
  rw [if_pos h55, R.2.2.1]
  have off : ¬ kdT tx L k = nI (14 + w) → At g M_RF_is (lv + 5) 39 [(0, va_rf (some (gz g + 145))), (1, va_rf (some (gK g w))), (2, .int (0 : Int32)), (3, .int (0 : Int32))] [] m (QI Q) := fun q => by
    rw [if_neg q] at hQ
    refine bk_RF_is_39 g ?_
    rw [if_pos rfl]
    exact ⟨Or.inl rfl, hQ⟩
  rcases Nat.lt_or_ge (sTk tx L k) L with hs | hs0
  rotate_left
  · have hs : ¬ sTk tx L k < L := by omega
    have sr : srT tx L k = 0 := by unfold srT; rw [if_neg hs]
    rw [sr, if_neg (by decide)]
    refine off ?_
    unfold kdT
    rw [if_neg hs]
    exact nI_neq (a := 2) (by omega) (by omega) (by omega)
  have sr : srT tx L k = srP tx (sTk tx L k) (stp tx L (sTk tx L k)) := by unfold srT; rw [if_pos hs]
  have kd : kdT tx L k = kdP tx (sTk tx L k) (stp tx L (sTk tx L k)) := by unfold kdT; rw [if_pos hs]
  have en : enT tx L k = stp tx L (sTk tx L k) := by unfold enT; rw [if_pos hs]
  have r := stp_rng (tx := tx) hL hs
  have h50 := R.2.1
  have h51 := R.1
  rw [en] at h50
  generalize sTk tx L k = s at hs sr kd r h50 h51
  generalize stp tx L s = e at sr kd r h50
  by_cases hl : pL (tx s) = 0
  · have s1 : ¬ srT tx L k = 1 := by
      rw [sr]; unfold srP
      rw [if_neg (fun q => q hl)]
      split
      · split <;> decide
      · split <;> decide
    rw [if_neg s1]
    refine off ?_
    rw [kd]
    refine wd_num hw ?_
    unfold kdP
    rw [if_neg (fun q => q hl)]
    split
    · split
      · exact Or.inr ⟨3, by decide, by decide, rfl⟩
      · exact Or.inl rfl
    · rcases sgn_rng (tx s) with q | ⟨j, j1, j2, q⟩
      · exact Or.inl q
      · exact Or.inr ⟨j, by omega, j2, q⟩
  · have s1 : srT tx L k = 1 := by rw [sr]; unfold srP; rw [if_pos hl]
    have kw : kdT tx L k = wrd tx s e 13 := by rw [kd]; unfold kdP; rw [if_pos hl]
    rw [if_pos s1]
    refine ⟨w, hw, rfl, c_strlen g (lv := lv + 2) hw ?_⟩
    rw [h50, h51, nI_sub (by omega) (by omega)]
    have hQ2 : Q (spl tx s e w) m := by
      rw [kw] at hQ
      by_cases hz : spl tx s e w = 0
      · rw [if_neg (fun q => wrd_of hw 13 (by omega) q hz)] at hQ
        rw [hz]; exact hQ
      · rw [if_pos (wrd_is hw hz 13 (by omega) (by omega))] at hQ
        have : spl tx s e w = 1 := spl_1 (spl_ne hz).1 (spl_ne hz).2
        rw [this]; exact hQ
    by_cases h : e - s = stLen.getD w 0
    · rw [if_pos (by rw [h])]
      exact l_isR g S X hw (by omega) r.2 h51 h hQ2 (stLen.getD w 0) 0 (by omega) (by omega) (fun j hj => by omega)
    · rw [if_neg (fun q => h ((nI_eq (by omega) (by omega)).mp q))]
      rw [spl_0 (fun q => h q.1)] at hQ2
      refine bk_RF_is_39 g ?_
      rw [if_pos rfl]
      exact ⟨Or.inl rfl, hQ2⟩
theorem c_isB (g : Gc) {lv w : Nat} {m : Mm} (S : Sg g m) (h55 : ¬ mI m (gz g + 145) 55 = 0) {Q : Int32 → Mm → Prop} (hQ : Q 0 m) : CI g M_RF_is (lv + 5) [va_rf (some (gz g + 145)), va_rf (some (gK g w))] m Q := by
  refine en_RF_is g ⟨S.k 145 rfl, ?_⟩
  rw [if_neg h55]
  refine bk_RF_is_39 g ?_
  rw [if_pos rfl]
  exact ⟨Or.inl rfl, hQ⟩
/-- a sign's kind -/
def SgK (ch K : Int32) : Prop := (∀ x, sgn x = K ↔ x = ch) ∧ 4 ≤ K ∧ K ≤ 13 ∧ ¬ K = 1 ∧ ¬ K = 2 ∧ ¬ K = 3 ∧ ∀ w, w < 13 → ¬ nI (14 + w) = K
theorem sgK_of {ch K : Int32} (h1 : sgn ch = K) (h2 : (ch = 40 ∧ K = 8) ∨ (ch = 41 ∧ K = 9) ∨ (ch = 42 ∧ K = 6) ∨ (ch = 43 ∧ K = 4) ∨ (ch = 45 ∧ K = 5) ∨ (ch = 47 ∧ K = 7) ∨ (ch = 59 ∧ K = 13) ∨ (ch = 60 ∧ K = 10) ∨ (ch = 61 ∧ K = 12) ∨ (ch = 62 ∧ K = 11)) : SgK ch K := by
  refine ⟨fun x => ⟨fun q => ?_, fun q => by rw [q]; exact h1⟩, ?_⟩
  · revert q
    unfold sgn
    by_cases h40 : x = 40
    · rw [if_pos h40]; subst h40; rcases h2 with ⟨rfl, rfl⟩ | ⟨rfl, rfl⟩ | ⟨rfl, rfl⟩ | ⟨rfl, rfl⟩ | ⟨rfl, rfl⟩ | ⟨rfl, rfl⟩ | ⟨rfl, rfl⟩ | ⟨rfl, rfl⟩ | ⟨rfl, rfl⟩ | ⟨rfl, rfl⟩ <;> decide
    rw [if_neg h40]
    by_cases h41 : x = 41
    · rw [if_pos h41]; subst h41; rcases h2 with ⟨rfl, rfl⟩ | ⟨rfl, rfl⟩ | ⟨rfl, rfl⟩ | ⟨rfl, rfl⟩ | ⟨rfl, rfl⟩ | ⟨rfl, rfl⟩ | ⟨rfl, rfl⟩ | ⟨rfl, rfl⟩ | ⟨rfl, rfl⟩ | ⟨rfl, rfl⟩ <;> decide
    rw [if_neg h41]
    by_cases h42 : x = 42
    · rw [if_pos h42]; subst h42; rcases h2 with ⟨rfl, rfl⟩ | ⟨rfl, rfl⟩ | ⟨rfl, rfl⟩ | ⟨rfl, rfl⟩ | ⟨rfl, rfl⟩ | ⟨rfl, rfl⟩ | ⟨rfl, rfl⟩ | ⟨rfl, rfl⟩ | ⟨rfl, rfl⟩ | ⟨rfl, rfl⟩ <;> decide
    rw [if_neg h42]
    by_cases h43 : x = 43
    · rw [if_pos h43]; subst h43; rcases h2 with ⟨rfl, rfl⟩ | ⟨rfl, rfl⟩ | ⟨rfl, rfl⟩ | ⟨rfl, rfl⟩ | ⟨rfl, rfl⟩ | ⟨rfl, rfl⟩ | ⟨rfl, rfl⟩ | ⟨rfl, rfl⟩ | ⟨rfl, rfl⟩ | ⟨rfl, rfl⟩ <;> decide
    rw [if_neg h43]
    by_cases h45 : x = 45
    · rw [if_pos h45]; subst h45; rcases h2 with ⟨rfl, rfl⟩ | ⟨rfl, rfl⟩ | ⟨rfl, rfl⟩ | ⟨rfl, rfl⟩ | ⟨rfl, rfl⟩ | ⟨rfl, rfl⟩ | ⟨rfl, rfl⟩ | ⟨rfl, rfl⟩ | ⟨rfl, rfl⟩ | ⟨rfl, rfl⟩ <;> decide
    rw [if_neg h45]
    by_cases h47 : x = 47
    · rw [if_pos h47]; subst h47; rcases h2 with ⟨rfl, rfl⟩ | ⟨rfl, rfl⟩ | ⟨rfl, rfl⟩ | ⟨rfl, rfl⟩ | ⟨rfl, rfl⟩ | ⟨rfl, rfl⟩ | ⟨rfl, rfl⟩ | ⟨rfl, rfl⟩ | ⟨rfl, rfl⟩ | ⟨rfl, rfl⟩ <;> decide
    rw [if_neg h47]
    by_cases h59 : x = 59
    · rw [if_pos h59]; subst h59; rcases h2 with ⟨rfl, rfl⟩ | ⟨rfl, rfl⟩ | ⟨rfl, rfl⟩ | ⟨rfl, rfl⟩ | ⟨rfl, rfl⟩ | ⟨rfl, rfl⟩ | ⟨rfl, rfl⟩ | ⟨rfl, rfl⟩ | ⟨rfl, rfl⟩ | ⟨rfl, rfl⟩ <;> decide
    rw [if_neg h59]
    by_cases h60 : x = 60
    · rw [if_pos h60]; subst h60; rcases h2 with ⟨rfl, rfl⟩ | ⟨rfl, rfl⟩ | ⟨rfl, rfl⟩ | ⟨rfl, rfl⟩ | ⟨rfl, rfl⟩ | ⟨rfl, rfl⟩ | ⟨rfl, rfl⟩ | ⟨rfl, rfl⟩ | ⟨rfl, rfl⟩ | ⟨rfl, rfl⟩ <;> decide
    rw [if_neg h60]
    by_cases h61 : x = 61
    · rw [if_pos h61]; subst h61; rcases h2 with ⟨rfl, rfl⟩ | ⟨rfl, rfl⟩ | ⟨rfl, rfl⟩ | ⟨rfl, rfl⟩ | ⟨rfl, rfl⟩ | ⟨rfl, rfl⟩ | ⟨rfl, rfl⟩ | ⟨rfl, rfl⟩ | ⟨rfl, rfl⟩ | ⟨rfl, rfl⟩ <;> decide
    rw [if_neg h61]
    by_cases h62 : x = 62
    · rw [if_pos h62]; subst h62; rcases h2 with ⟨rfl, rfl⟩ | ⟨rfl, rfl⟩ | ⟨rfl, rfl⟩ | ⟨rfl, rfl⟩ | ⟨rfl, rfl⟩ | ⟨rfl, rfl⟩ | ⟨rfl, rfl⟩ | ⟨rfl, rfl⟩ | ⟨rfl, rfl⟩ | ⟨rfl, rfl⟩ <;> decide
    rw [if_neg h62]
    rcases h2 with ⟨rfl, rfl⟩ | ⟨rfl, rfl⟩ | ⟨rfl, rfl⟩ | ⟨rfl, rfl⟩ | ⟨rfl, rfl⟩ | ⟨rfl, rfl⟩ | ⟨rfl, rfl⟩ | ⟨rfl, rfl⟩ | ⟨rfl, rfl⟩ | ⟨rfl, rfl⟩ <;> exact fun q => absurd q (by decide)
  · rcases h2 with ⟨rfl, rfl⟩ | ⟨rfl, rfl⟩ | ⟨rfl, rfl⟩ | ⟨rfl, rfl⟩ | ⟨rfl, rfl⟩ | ⟨rfl, rfl⟩ | ⟨rfl, rfl⟩ | ⟨rfl, rfl⟩ | ⟨rfl, rfl⟩ | ⟨rfl, rfl⟩ <;> decide
theorem sk_40 : SgK 40 8 := sgK_of rfl (Or.inl ⟨rfl, rfl⟩)
theorem sk_41 : SgK 41 9 := sgK_of rfl (Or.inr (Or.inl ⟨rfl, rfl⟩))
theorem sk_42 : SgK 42 6 := sgK_of rfl (Or.inr (Or.inr (Or.inl ⟨rfl, rfl⟩)))
theorem sk_43 : SgK 43 4 := sgK_of rfl (Or.inr (Or.inr (Or.inr (Or.inl ⟨rfl, rfl⟩))))
theorem sk_45 : SgK 45 5 := sgK_of rfl (Or.inr (Or.inr (Or.inr (Or.inr (Or.inl ⟨rfl, rfl⟩)))))
theorem sk_47 : SgK 47 7 := sgK_of rfl (Or.inr (Or.inr (Or.inr (Or.inr (Or.inr (Or.inl ⟨rfl, rfl⟩))))))
theorem sk_59 : SgK 59 13 := sgK_of rfl (Or.inr (Or.inr (Or.inr (Or.inr (Or.inr (Or.inr (Or.inl ⟨rfl, rfl⟩)))))))
theorem sk_60 : SgK 60 10 := sgK_of rfl (Or.inr (Or.inr (Or.inr (Or.inr (Or.inr (Or.inr (Or.inr (Or.inl ⟨rfl, rfl⟩))))))))
theorem sk_61 : SgK 61 12 := sgK_of rfl (Or.inr (Or.inr (Or.inr (Or.inr (Or.inr (Or.inr (Or.inr (Or.inr (Or.inl ⟨rfl, rfl⟩)))))))))
theorem sk_62 : SgK 62 11 := sgK_of rfl (Or.inr (Or.inr (Or.inr (Or.inr (Or.inr (Or.inr (Or.inr (Or.inr (Or.inr (⟨rfl, rfl⟩))))))))))
theorem c_signR (g : Gc) {lv L base k : Nat} {tx : Nat → Int32} {ch K : Int32} {m : Mm} (S : Sg g m) (X : RTx g tx L base m) (R : RAt g tx L k m) (h55 : mI m (gz g + 145) 55 = 0) (hK : SgK ch K) {Q : Int32 → Mm → Prop} (hQ : Q (if kdT tx L k = K then 1 else 0) m) : CI g M_RF_isSign (lv + 2) [va_rf (some (gz g + 145)), .int ch] m Q := by
  have hL := X.1
  obtain ⟨k1, k4, k13, n1, n2, n3, kw⟩ := hK
  refine en_RF_isSign g ⟨S.k 145 rfl, ?_⟩
  rw [if_pos h55, R.2.2.1]
  by_cases hs : sTk tx L k < L
  · have sr : srT tx L k = srP tx (sTk tx L k) (stp tx L (sTk tx L k)) := by unfold srT; rw [if_pos hs]
    have kd : kdT tx L k = kdP tx (sTk tx L k) (stp tx L (sTk tx L k)) := by unfold kdT; rw [if_pos hs]
    have h51 := R.1
    generalize sTk tx L k = s at hs sr kd h51
    generalize stp tx L s = e at sr kd
    by_cases hl : pL (tx s) = 0
    · by_cases hd : pD (tx s) = 0
      · have sr2 : srT tx L k = if sgn (tx s) = 1 then 4 else 3 := by rw [sr]; unfold srP; rw [if_neg (fun q => q hl), if_neg (fun q => q hd)]
        have kd2 : kdT tx L k = sgn (tx s) := by rw [kd]; unfold kdP; rw [if_neg (fun q => q hl), if_neg (fun q => q hd)]
        rw [kd2] at hQ
        by_cases h1 : sgn (tx s) = 1
        · rw [sr2, if_pos h1, if_neg (by decide)]
          rw [h1, if_neg (fun q => n1 q.symm)] at hQ
          exact hQ
        · rw [sr2, if_neg h1, if_pos rfl, h51]
          refine c_atR g S X (by omega) ?_
          have hz : txz tx L s = tx s := by unfold txz; rw [if_pos hs]
          rw [hz]
          by_cases hc : tx s = ch
          · rw [if_pos hc]
            rw [if_pos ((k1 _).mpr hc)] at hQ
            exact hQ
          · rw [if_neg hc]
            rw [if_neg (fun q => hc ((k1 _).mp q))] at hQ
            exact hQ
      · have sr2 : ¬ srT tx L k = 3 := by rw [sr]; unfold srP; rw [if_neg (fun q => q hl), if_pos hd]; split <;> decide
        have kd2 : ¬ kdT tx L k = K := by
          rw [kd]; unfold kdP; rw [if_neg (fun q => q hl), if_pos hd]
          split
          · exact fun q => n3 q.symm
          · exact fun q => n1 q.symm
        rw [if_neg sr2]
        rw [if_neg kd2] at hQ
        exact hQ
    · have sr2 : ¬ srT tx L k = 3 := by rw [sr]; unfold srP; rw [if_pos hl]; decide
      have kd2 : ¬ kdT tx L k = K := by
        rw [kd]; unfold kdP; rw [if_pos hl]
        rcases wrd_rng tx s e 13 (by omega) with q | ⟨w, hw, q⟩
        · rw [q]; exact fun q => n1 q.symm
        · rw [q]; exact kw w hw
      rw [if_neg sr2]
      rw [if_neg kd2] at hQ
      exact hQ
  · have sr : srT tx L k = 0 := by unfold srT; rw [if_neg hs]
    have kd : kdT tx L k = 2 := by unfold kdT; rw [if_neg hs]
    rw [sr, if_neg (by decide)]
    rw [kd, if_neg (fun q => n2 q.symm)] at hQ
    exact hQ
theorem c_signB (g : Gc) {lv : Nat} {ch : Int32} {m : Mm} (S : Sg g m) (h55 : ¬ mI m (gz g + 145) 55 = 0) {Q : Int32 → Mm → Prop} (hQ : Q 0 m) : CI g M_RF_isSign (lv + 2) [va_rf (some (gz g + 145)), .int ch] m Q := by
  refine en_RF_isSign g ⟨S.k 145 rfl, ?_⟩
  rw [if_neg h55]
  exact hQ
/-- sorts and kinds -/
theorem sr_kd {tx : Nat → Int32} {L k : Nat} : (srT tx L k = 2 ↔ kdT tx L k = 3) ∧ (srT tx L k = 0 ↔ kdT tx L k = 2) := by
  have fin : ∀ a b : Int32, srT tx L k = a → kdT tx L k = b → ((a = 2 ↔ b = 3) ∧ (a = 0 ↔ b = 2)) → (srT tx L k = 2 ↔ kdT tx L k = 3) ∧ (srT tx L k = 0 ↔ kdT tx L k = 2) := fun a b e1 e2 h => by rw [e1, e2]; exact h
  by_cases hs : sTk tx L k < L
  · have e1 : srT tx L k = srP tx (sTk tx L k) (stp tx L (sTk tx L k)) := if_pos hs
    have e2 : kdT tx L k = kdP tx (sTk tx L k) (stp tx L (sTk tx L k)) := if_pos hs
    generalize sTk tx L k = s at hs e1 e2
    generalize stp tx L s = e at e1 e2
    by_cases hl : pL (tx s) = 0
    · have nl : ¬ ¬ pL (tx s) = 0 := fun q => q hl
      by_cases hd : pD (tx s) = 0
      · have nd : ¬ ¬ pD (tx s) = 0 := fun q => q hd
        have a1 : srT tx L k = if sgn (tx s) = 1 then 4 else 3 := by rw [e1]; unfold srP; rw [if_neg nl, if_neg nd]
        have a2 : kdT tx L k = sgn (tx s) := by rw [e2]; unfold kdP; rw [if_neg nl, if_neg nd]
        rcases sgn_rng (tx s) with q | ⟨j, j1, j2, q⟩
        · rw [q] at a1 a2
          exact fin 4 1 a1 a2 (by decide)
        · have n1 : ¬ nI j = 1 := nI_neq (b := 1) (by omega) (by omega) (by omega)
          have n2 : ¬ nI j = 2 := nI_neq (b := 2) (by omega) (by omega) (by omega)
          have n3 : ¬ nI j = 3 := nI_neq (b := 3) (by omega) (by omega) (by omega)
          rw [q] at a1 a2
          rw [if_neg n1] at a1
          exact fin 3 (nI j) a1 a2 ⟨⟨fun h => absurd h (by decide), fun h => absurd h n3⟩, ⟨fun h => absurd h (by decide), fun h => absurd h n2⟩⟩
      · have a1 : srT tx L k = if numV tx s (e - s) ≤ 999999 then 2 else 4 := by rw [e1]; unfold srP; rw [if_neg nl, if_pos hd]
        have a2 : kdT tx L k = if numV tx s (e - s) ≤ 999999 then 3 else 1 := by rw [e2]; unfold kdP; rw [if_neg nl, if_pos hd]
        by_cases h9 : numV tx s (e - s) ≤ 999999
        · rw [if_pos h9] at a1 a2; exact fin 2 3 a1 a2 (by decide)
        · rw [if_neg h9] at a1 a2; exact fin 4 1 a1 a2 (by decide)
    · have a1 : srT tx L k = 1 := by rw [e1]; unfold srP; rw [if_pos hl]
      have a2 : kdT tx L k = wrd tx s e 13 := by rw [e2]; unfold kdP; rw [if_pos hl]
      rcases wrd_rng tx s e 13 (by omega) with q | ⟨w, hw, q⟩
      · rw [q] at a2; exact fin 1 1 a1 a2 (by decide)
      · have n2 : ¬ nI (14 + w) = 2 := nI_neq (b := 2) (by omega) (by omega) (by omega)
        have n3 : ¬ nI (14 + w) = 3 := nI_neq (b := 3) (by omega) (by omega) (by omega)
        rw [q] at a2
        exact fin 1 _ a1 a2 ⟨⟨fun h => absurd h (by decide), fun h => absurd h n3⟩, ⟨fun h => absurd h (by decide), fun h => absurd h n2⟩⟩
  · exact fin 0 2 (if_neg hs) (if_neg hs) (by decide)
theorem c_badR (g : Gc) {lv : Nat} {m : Mm} (S : Sg g m) {Q : Mm → Prop} (hQ : ∀ m', St (fun a j => a = gz g + 145 ∧ (j = 16 ∨ j = 55)) m m' → ¬ mI m' (gz g + 145) 55 = 0 → mI m' (gz g + 145) 16 = (if mI m (gz g + 145) 55 = 0 then mI m (gz g + 145) 51 else mI m (gz g + 145) 16) → Q m') : CV g M_RF_bad (lv + 1) [va_rf (some (gz g + 145))] m Q := by
  refine en_RF_bad g ⟨S.k 145 rfl, ?_⟩
  by_cases h : mI m (gz g + 145) 55 = 0
  · rw [if_pos h]
    intro m1 e1 m2 e2
    refine hQ m2 (by rw [e2, e1]; exact (St_sI m ⟨rfl, Or.inl rfl⟩ _).trans (St_sI _ ⟨rfl, Or.inr rfl⟩ _)) (by rw [e2, mI_sI, up2_at]; decide) ?_
    rw [if_pos h, e2, mI_sI, up2_sl (by omega), e1, mI_sI, up2_at]
  · rw [if_neg h]
    intro m1 e1
    refine hQ m1 (by rw [e1]; exact St_sI m ⟨rfl, Or.inr rfl⟩ _) (by rw [e1, mI_sI, up2_at]; decide) ?_
    rw [if_neg h, e1, mI_sI, up2_sl (by omega)]
