/-! ===== the reference takes a text off its tape, and keeps it for years ===== -/
def Txt (g : Gc) (y L : Nat) (tx : Nat → Int32) (m : Mm) : Prop := mI m (gz g + 154) y = nI L ∧ ∀ j, j < L → mI m (gz g + 153) (300 * y + j) = tx j
def Byt (L : Nat) (tx : Nat → Int32) : Prop := ∀ j, j < L → (tx j).toInt8.toInt32 = tx j
def PIL (g : Gc) (a j : Nat) : Prop := (a = gz g + 153 ∧ 9000 ≤ j) ∨ (a = gz g + 154 ∧ j = 30) ∨ (a = gz g + 145 ∧ (j = 15 ∨ j = 16 ∨ (48 ≤ j ∧ j ≤ 64)))
theorem l_isLaw (g : Gc) {b L : Nat} {tx : Nat → Int32} {f : Nat → Int64} {res : ResL} (hL : L ≤ 300) (hB : Byt L tx) (h : lawOf tx L = some res) {Q : Int32 → Mm → Prop} : ∀ n k m, L ≤ k + n → k ≤ L → Sg g m → mI m (gz g + 145) 15 = nI L → (∀ j, j < L → mI m (gz g + 152) j = tx j) → FcR g f m → (∀ j, j < k → mI m (gz g + 153) (9000 + j) = tx j) → (∀ cs, res = Sum.inl cs → ∀ m', St (PIL g) m m' → Txt g 30 L tx m' → mI m' (gz g + 145) 15 = 0 → mI m' (gz g + 145) 16 = -1 → mI m' (gz g + 145) 64 = nI cs.length → Q 1 m') → (∀ e, res = Sum.inr e → ∀ m', St (PIL g) m m' → mI m' (gz g + 145) 15 = 0 → mI m' (gz g + 145) 16 = plT tx L e → Q 0 m') → At g M_RF_isLaw (b + 36) 2 [(0, va_rf (some (gz g + 145))), (1, .int (nI k))] [] m (QI Q) := by
  have fin : ∀ m, Sg g m → mI m (gz g + 145) 15 = nI L → FcR g f m → (∀ j, j < L → mI m (gz g + 153) (9000 + j) = tx j) → (∀ cs, res = Sum.inl cs → ∀ m', St (PIL g) m m' → Txt g 30 L tx m' → mI m' (gz g + 145) 15 = 0 → mI m' (gz g + 145) 16 = -1 → mI m' (gz g + 145) 64 = nI cs.length → Q 1 m') → (∀ e, res = Sum.inr e → ∀ m', St (PIL g) m m' → mI m' (gz g + 145) 15 = 0 → mI m' (gz g + 145) 16 = plT tx L e → Q 0 m') → At g M_RF_isLaw (b + 36) 2 [(0, va_rf (some (gz g + 145))), (1, .int (nI L))] [] m (QI Q) := by
    intro m S h15 F hX Pok Perr
    refine bk_RF_isLaw_2 g ⟨S.k 145 rfl, ?_⟩
    rw [h15, if_pos (nI_le (Nat.le_refl _) (by omega))]
    refine ⟨gz g + 154, S.r 145 18 rfl, S.k 154 rfl, by rw [S.n 154 rfl]; exact vp_in_nI (n := 30) (N := 31) (by omega) (by omega), fun m1 e1 m2 e2 m3 e3 => ?_⟩
    have z30 : (30 : Int32).toNatClampNeg = 30 := rfl
    rw [z30] at e1
    have s1 : St (PIL g) m m1 := by rw [e1]; exact St_sI m (Or.inr (Or.inl ⟨rfl, rfl⟩)) _
    have s2 : St (PIL g) m1 m2 := by rw [e2]; exact St_sI m1 (Or.inr (Or.inr ⟨rfl, Or.inl rfl⟩)) _
    have s3 : St (PIL g) m2 m3 := by rw [e3]; exact St_sI m2 (Or.inr (Or.inr ⟨rfl, Or.inr (Or.inl rfl)⟩)) _
    have s13 := (s1.trans s2).trans s3
    have S3 := s13.sg S
    have iE : ∀ a j, mI m3 a j = up2 (up2 (up2 (mI m) (gz g + 154) 30 (nI L)) (gz g + 145) 15 0) (gz g + 145) 16 (-1) a j := fun a j => by rw [e3, mI_sI, e2, mI_sI, e1, mI_sI]
    have t30 : mI m3 (gz g + 154) 30 = nI L := by rw [iE, up2_oth (by omega), up2_oth (by omega), up2_at]
    have x30 : ∀ j, j < L → mI m3 (gz g + 153) (300 * 30 + j) = tx j := fun j hj => by rw [iE, up2_oth (by omega), up2_oth (by omega), up2_oth (by omega)]; exact hX j hj
    have F3 : FcR g f m3 := fun j hj => (s13.2 _ _ (by unfold PIL; omega)).2.trans (F j hj)
    refine c_readsT g (b := b) (t := 30) S3 (by omega) hL t30 x30 F3 h (fun cs hc m4 s4 a4 W4 z4 => ?_) (fun e he m4 s4 a4 b4 => ?_)
    · rw [if_pos a4]
      refine Pok cs hc m4 (s13.trans (s4.weak (fun a j q => Or.inr (Or.inr ⟨q.1, Or.inr (Or.inr q.2)⟩)))) ⟨?_, fun j hj => ?_⟩ ?_ ?_ z4
      · exact (s4.2 _ _ (by unfold PNr; omega)).1.trans t30
      · exact (s4.2 _ _ (by unfold PNr; omega)).1.trans (x30 j hj)
      · rw [(s4.2 _ _ (by unfold PNr; omega)).1, iE, up2_sl (by omega), up2_at]
      · rw [(s4.2 _ _ (by unfold PNr; omega)).1, iE, up2_at]
    · rw [if_neg a4]
      refine Perr e he m4 (s13.trans (s4.weak (fun a j q => Or.inr (Or.inr ⟨q.1, Or.inr q.2⟩)))) ?_ b4
      rw [(s4.2 _ _ (by unfold PNe; omega)).1, iE, up2_sl (by omega), up2_at]
  intro n
  induction n with
  | zero =>
    intro k m h1 h2 S h15 hT F hX Pok Perr
    have : k = L := by omega
    subst this
    exact fin m S h15 F hX Pok Perr
  | succ n ih =>
    intro k m h1 h2 S h15 hT F hX Pok Perr
    by_cases hk : k = L
    · subst hk
      exact fin m S h15 F hX Pok Perr
    have hk2 : k < L := by omega
    refine bk_RF_isLaw_2 g ⟨S.k 145 rfl, ?_⟩
    rw [h15, if_neg (nI_ge hk2 (by omega))]
    have e9 : (9000 : Int32) + nI k = nI (9000 + k) := by rw [show (9000 : Int32) = nI 9000 from rfl, nI_add]
    rw [e9, nI_clamp (show k < 2 ^ 31 by omega), nI_clamp (show 9000 + k < 2 ^ 31 by omega)]
    refine ⟨gz g + 153, S.r 145 17 rfl, gz g + 152, S.r 145 14 rfl, S.k 152 rfl, by rw [S.n 152 rfl]; exact vp_in_nI (N := 300) (by omega) (by omega), S.k 153 rfl, by rw [S.n 153 rfl]; exact vp_in_nI (N := 9300) (by omega) (by omega), fun m1 e1 => ?_⟩
    rw [hT k hk2, hB k hk2] at e1
    have s1 : St (PIL g) m m1 := by rw [e1]; exact St_sI m (Or.inl ⟨rfl, by omega⟩) _
    rw [nI_s]
    refine ih (k + 1) m1 (by omega) (by omega) (s1.sg S) ?_ ?_ ?_ ?_ (fun cs hc m2 s2 => Pok cs hc m2 (s1.trans s2)) (fun e he m2 s2 => Perr e he m2 (s1.trans s2))
    · rw [e1, mI_sI, up2_oth (by omega)]; exact h15
    · intro j hj; rw [e1, mI_sI, up2_oth (by omega)]; exact hT j hj
    · intro j hj; rw [e1, mL_sI]; exact F j hj
    · intro j hj
      rw [e1, mI_sI]
      by_cases hjk : j = k
      · rw [hjk, up2_at]
      · rw [up2_sl (by omega)]; exact hX j (by omega)
theorem c_isLawR (g : Gc) {b L : Nat} {tx : Nat → Int32} {m : Mm} {res : ResL} (hL : L ≤ 300) (hB : Byt L tx) (h : lawOf tx L = some res) (S : Sg g m) (h15 : mI m (gz g + 145) 15 = nI L) (hT : ∀ j, j < L → mI m (gz g + 152) j = tx j) {Q : Int32 → Mm → Prop} (Pok : ∀ cs, res = Sum.inl cs → ∀ m', St (PIL g) m m' → Txt g 30 L tx m' → mI m' (gz g + 145) 15 = 0 → mI m' (gz g + 145) 16 = -1 → mI m' (gz g + 145) 64 = nI cs.length → Q 1 m') (Perr : ∀ e, res = Sum.inr e → ∀ m', St (PIL g) m m' → mI m' (gz g + 145) 15 = 0 → mI m' (gz g + 145) 16 = plT tx L e → Q 0 m') : CI g M_RF_isLaw (b + 36) [va_rf (some (gz g + 145))] m Q :=
  en_RF_isLaw g (l_isLaw g (f := fun j => mL m (gz g + 182) j) hL hB h L 0 m (by omega) (Nat.zero_le _) S h15 hT (fun _ _ => rfl) (fun j hj => absurd hj (Nat.not_lt_zero _)) Pok Perr)
/-- one year's text -/
def PY1 (g : Gc) (y a j : Nat) : Prop := (a = gz g + 153 ∧ 300 * y ≤ j ∧ j < 300 * y + 300) ∨ (a = gz g + 154 ∧ j = y)
theorem l_law49 (g : Gc) {lv L y B : Nat} {tx : Nat → Int32} (hL : L ≤ 300) (hB : Byt L tx) (hy : y < 30) {Q : Int32 → Mm → Prop} : ∀ n k m, L ≤ k + n → k ≤ L → Sg g m → Txt g 30 L tx m → (∀ j, j < k → mI m (gz g + 153) (300 * y + j) = tx j) → (∀ m', St (PY1 g y) m m' → Txt g y L tx m' → At g M_RF_law (lv + 1) 41 [(0, va_rf (some (gz g + 145))), (2, .int (nI B)), (3, .int (nI (y + 1)))] [] m' (QI Q)) → At g M_RF_law (lv + 1) 49 [(0, va_rf (some (gz g + 145))), (2, .int (nI B)), (3, .int (nI y)), (4, .int (nI k))] [] m (QI Q) := by
  have z30 : (30 : Int32).toNatClampNeg = 30 := rfl
  have fin : ∀ m, Sg g m → Txt g 30 L tx m → (∀ j, j < L → mI m (gz g + 153) (300 * y + j) = tx j) → (∀ m', St (PY1 g y) m m' → Txt g y L tx m' → At g M_RF_law (lv + 1) 41 [(0, va_rf (some (gz g + 145))), (2, .int (nI B)), (3, .int (nI (y + 1)))] [] m' (QI Q)) → At g M_RF_law (lv + 1) 49 [(0, va_rf (some (gz g + 145))), (2, .int (nI B)), (3, .int (nI y)), (4, .int (nI L))] [] m (QI Q) := by
    intro m S T hX hQ
    refine bk_RF_law_49 g ⟨S.k 145 rfl, gz g + 154, S.r 145 18 rfl, S.k 154 rfl, by rw [S.n 154 rfl]; exact vp_in_nI (n := 30) (N := 31) (by omega) (by omega), ?_⟩
    rw [z30, T.1, if_pos (nI_le (Nat.le_refl _) (by omega)), nI_clamp (show y < 2 ^ 31 by omega), nI_s]
    refine ⟨by rw [S.n 154 rfl]; exact vp_in_nI (n := 30) (N := 31) (by omega) (by omega), by rw [S.n 154 rfl]; exact vp_in_nI (N := 31) (by omega) (by omega), fun m1 e1 => hQ m1 ?_ ⟨?_, fun j hj => ?_⟩⟩
    · rw [e1]; exact St_sI m (Or.inr ⟨rfl, rfl⟩) _
    · rw [e1, mI_sI, up2_at]
    · rw [e1, mI_sI, up2_oth (by omega)]; exact hX j hj
  intro n
  induction n with
  | zero =>
    intro k m h1 h2 S T hX hQ
    have : k = L := by omega
    subst this
    exact fin m S T hX hQ
  | succ n ih =>
    intro k m h1 h2 S T hX hQ
    by_cases hk : k = L
    · subst hk
      exact fin m S T hX hQ
    have hk2 : k < L := by omega
    refine bk_RF_law_49 g ⟨S.k 145 rfl, gz g + 154, S.r 145 18 rfl, S.k 154 rfl, by rw [S.n 154 rfl]; exact vp_in_nI (n := 30) (N := 31) (by omega) (by omega), ?_⟩
    have e9 : (9000 : Int32) + nI k = nI (9000 + k) := by rw [show (9000 : Int32) = nI 9000 from rfl, nI_add]
    have e3 : (300 : Int32) * nI y + nI k = nI (300 * y + k) := by rw [show (300 : Int32) = nI 300 from rfl, pk_mul, nI_add]
    rw [z30, T.1, if_neg (nI_ge hk2 (by omega)), e9, e3, nI_clamp (show 9000 + k < 2 ^ 31 by omega), nI_clamp (show 300 * y + k < 2 ^ 31 by omega), nI_s]
    have xk : mI m (gz g + 153) (9000 + k) = tx k := T.2 k hk2
    refine ⟨gz g + 153, S.r 145 17 rfl, S.k 153 rfl, by rw [S.n 153 rfl]; exact vp_in_nI (N := 9300) (by omega) (by omega), by rw [S.n 153 rfl]; exact vp_in_nI (N := 9300) (by omega) (by omega), fun m1 e1 => ?_⟩
    rw [xk, hB k hk2] at e1
    have s1 : St (PY1 g y) m m1 := by rw [e1]; exact St_sI m (Or.inl ⟨rfl, by omega, by omega⟩) _
    refine ih (k + 1) m1 (by omega) (by omega) (s1.sg S) ⟨?_, ?_⟩ ?_ (fun m2 s2 => hQ m2 (s1.trans s2))
    · rw [e1, mI_sI, up2_oth (by omega)]; exact T.1
    · intro j hj; rw [e1, mI_sI, up2_sl (by omega)]; exact T.2 j hj
    · intro j hj
      rw [e1, mI_sI]
      by_cases hjk : j = k
      · rw [hjk, up2_at]
      · rw [up2_sl (by omega)]; exact hX j (by omega)
def PYs (g : Gc) (a' b' a j : Nat) : Prop := (a = gz g + 153 ∧ 300 * a' ≤ j ∧ j < 300 * b' + 300) ∨ (a = gz g + 154 ∧ a' ≤ j ∧ j ≤ b')
theorem Txt.st {g : Gc} {y L : Nat} {tx : Nat → Int32} {P : Nat → Nat → Prop} {m m' : Mm} (h : Txt g y L tx m) (s : St P m m') (h1 : ¬ P (gz g + 154) y) (h2 : ∀ j, j < L → ¬ P (gz g + 153) (300 * y + j)) : Txt g y L tx m' := ⟨(s.2 _ _ h1).1.trans h.1, fun j hj => (s.2 _ _ (h2 j hj)).1.trans (h.2 j hj)⟩
theorem l_law41 (g : Gc) {lv L A B : Nat} {tx : Nat → Int32} (hL : L ≤ 300) (hB : Byt L tx) (hb : B < 30) {Q : Int32 → Mm → Prop} : ∀ n y m, B + 1 ≤ y + n → y ≤ B + 1 → A ≤ y → Sg g m → Txt g 30 L tx m → (∀ z, A ≤ z → z < y → Txt g z L tx m) → (∀ m', St (PYs g A B) m m' → (∀ z, A ≤ z → z ≤ B → Txt g z L tx m') → Q (mI m' (gz g + 145) 64) m') → At g M_RF_law (lv + 1) 41 [(0, va_rf (some (gz g + 145))), (2, .int (nI B)), (3, .int (nI y))] [] m (QI Q) := by
  intro n
  induction n with
  | zero =>
    intro y m h1 h2 h3 S T hZ hQ
    refine bk_RF_law_41 g ?_
    rw [if_pos (nI_lt (by omega) (by omega))]
    exact ⟨S.k 145 rfl, hQ m (St.refl _ _) (fun z z1 z2 => hZ z z1 (by omega))⟩
  | succ n ih =>
    intro y m h1 h2 h3 S T hZ hQ
    refine bk_RF_law_41 g ?_
    by_cases hy : B < y
    · rw [if_pos (nI_lt (by omega) (by omega))]
      exact ⟨S.k 145 rfl, hQ m (St.refl _ _) (fun z z1 z2 => hZ z z1 (by omega))⟩
    · rw [if_neg (nI_nlt (by omega) (by omega))]
      refine l_law49 g hL hB (y := y) (by omega) L 0 m (by omega) (Nat.zero_le _) S T (fun j hj => absurd hj (Nat.not_lt_zero _)) (fun m1 s1 T1 => ?_)
      refine ih (y + 1) m1 (by omega) (by omega) (by omega) (s1.sg S) (T.st s1 (by unfold PY1; omega) (fun j hj => by unfold PY1; omega)) (fun z z1 z2 => ?_) (fun m2 s2 => hQ m2 ((s1.weak (fun a j q => by unfold PY1 at q; unfold PYs; omega)).trans s2))
      by_cases hzy : z = y
      · rw [hzy]; exact T1
      · exact (hZ z z1 (by omega)).st s1 (by unfold PY1; omega) (fun j hj => by unfold PY1; omega)
