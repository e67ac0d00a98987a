/-! ===== settleLoans: the class's loop ===== -/
theorem c_close0 (g : Gc) {lv y r i : Nat} {A m : Mm} {pa : Nat → Nat} (hC : LC g pa y r A m) (hi : i < r) {Q : Mm → Prop} (hQ : Q m) : CV g M_Land_closeIfDue (lv + 2) [va_rf (some (gz g + 2)), va_rf (some (pa i)), va_rf none] m Q := by
  refine en_Land_closeIfDue g ⟨pa i, rfl, (hC.2.2.1.1 i hi).2.1, en_Receipt_bears g ?_⟩
  rw [if_pos rfl, if_pos rfl]
  exact hQ
theorem c_closeN (g : Gc) {lv y r i q : Nat} {A m : Mm} {pa : Nat → Nat} (hC : LC g pa y r A m) (hi : i < r) (h3 : mR m (pa i) 3 = none) (h4 : mR m (pa i) 4 = none) {Q : Mm → Prop} (hQ : Q m) : CV g M_Land_closeIfDue (lv + 2) [va_rf (some (gz g + 2)), va_rf (some (pa i)), va_rf (some q)] m Q := by
  have p7 := (hC.2.2.1.1 i hi).2.1
  refine en_Land_closeIfDue g ⟨pa i, rfl, p7, en_Receipt_bears g ?_⟩
  rw [if_neg (by simp)]
  refine ⟨p7, ?_⟩
  rw [if_neg (by rw [h3]; simp), if_neg (by rw [h4]; simp), if_pos rfl]
  exact hQ
theorem LC.none3 {g : Gc} {pa : Nat → Nat} {y r i k : Nat} {A m : Mm} (h : LC g pa y r A m) (hi : i < r) (hk : k < 2) : mR m (pa i) (3 + k) = none ↔ mI A 12 (2 * i + k) = -1 := by
  rcases h.2.2.2 i hi k hk with ⟨e, hb⟩ | ⟨q, b, e, -, -, -, b3, hb, -⟩
  · exact ⟨fun _ => hb, fun _ => e⟩
  · exact ⟨fun z => by rw [e] at z; exact absurd z (by simp), fun z => by rw [hb] at z; exact absurd z (nI_ne_m1 (by omega))⟩
/-- a memory of the main land that has come out of another -/
def GrOK (g : Gc) (Y r0 : Nat) (pa0 : Nat → Nat) (m0 : Mm) (d : Nat) (A : Mm) (r : Nat) (pa : Nat → Nat) (m : Mm) : Prop := LC g pa Y r A m ∧ Sg g m ∧ Fr g m ∧ Fs g (PC g 2 pa0 r0) d m0 m ∧ (∀ j, j < r0 → pa j = pa0 j) ∧ (∀ j, r0 ≤ j → j < r → gz g + mC m0 ≤ pa j) ∧ r0 ≤ r
theorem GrOK.step {g : Gc} {Y r0 d r r' : Nat} {pa0 pa pa' : Nat → Nat} {m0 A A' m m' : Mm} (h : GrOK g Y r0 pa0 m0 d A r pa m) (C : LC g pa' Y r' A' m') (e : ∀ j, j < r → pa' j = pa j) (f : ∀ j, r ≤ j → j < r' → gz g + mC m ≤ pa' j) (fs : Fs g (PC g 2 pa r) 1 m m') (F : Fr g m') (S : Sg g m') (hr : r ≤ r') : GrOK g Y r0 pa0 m0 (d + 1) A' r' pa' m' := by
  obtain ⟨h1, h2, h3, h4, h5, h6, h7⟩ := h
  refine ⟨C, S, F, h4.trans fs (fun a j ha q => ?_), fun j hj => (e j (by omega)).trans (h5 j hj), fun j a b => ?_, by omega⟩
  · rcases q with q | ⟨i, hi, rfl⟩
    · exact Or.inl q
    · by_cases hi0 : i < r0
      · exact Or.inr ⟨i, hi0, h5 i hi0⟩
      · have := h6 i (by omega) hi
        omega
  · by_cases hjr : j < r
    · rw [e j hjr]; exact h6 j a hjr
    · have := f j (by omega) b
      have := h4.2.1.1
      omega
theorem GrOK.weak {g : Gc} {Y r0 d d' r : Nat} {pa0 pa : Nat → Nat} {m0 A m : Mm} (h : GrOK g Y r0 pa0 m0 d A r pa m) (hd : d ≤ d') : GrOK g Y r0 pa0 m0 d' A r pa m := by
  obtain ⟨h1, h2, h3, h4, h5, h6, h7⟩ := h
  exact ⟨h1, h2, h3, h4.weak (fun _ _ _ q => q) hd, h5, h6, h7⟩
theorem dueS_I {n y p r i : Nat} {A : Mm} (H : LoanI n y p r A) (hi : i < r) : LoanI n y p (dueS A r i y).2 (dueS A r i y).1 ∧ (dueS A r i y).2 ≤ r + 2 ∧ r ≤ (dueS A r i y).2 := by
  unfold dueS
  by_cases h1 : DueA A i 0 y
  · rw [if_pos h1]
    obtain ⟨H1, a1, b1, -⟩ := H.close (h := hO A i) (b := bO A i 0) hi (k := 0) (by omega) h1.1
    by_cases h2 : DueA (clsA A r i 0).1 i 0 y
    · rw [if_pos h2]
      obtain ⟨H2, a2, b2, -⟩ := H1.close (h := hO (clsA A r i 0).1 i) (b := bO (clsA A r i 0).1 i 0) (by omega) (k := 0) (by omega) h2.1
      exact ⟨H2, by have : (clsA (clsA A r i 0).1 (clsA A r i 0).2 i 0).2 ≤ (clsA A r i 0).2 + 1 := a2; have : (clsA A r i 0).2 ≤ r + 1 := a1; omega, by have : (clsA A r i 0).2 ≤ (clsA (clsA A r i 0).1 (clsA A r i 0).2 i 0).2 := b2; have : r ≤ (clsA A r i 0).2 := b1; omega⟩
    · rw [if_neg h2]
      exact ⟨H1, by have : (clsA A r i 0).2 ≤ r + 1 := a1; omega, b1⟩
  · rw [if_neg h1]
    by_cases h2 : DueA A i 1 y
    · rw [if_pos h2]
      obtain ⟨H1, a1, b1, -⟩ := H.close (h := hO A i) (b := bO A i 1) hi (k := 1) (by omega) h2.1
      exact ⟨H1, by have : (clsA A r i 1).2 ≤ r + 1 := a1; omega, b1⟩
    · rw [if_neg h2]
      exact ⟨H, by show r ≤ r + 2; omega, Nat.le_refl _⟩
theorem duesA_I {n y p r : Nat} {A : Mm} (H : LoanI n y p r A) : ∀ k, k ≤ r → LoanI n y p (duesA A r y k).2 (duesA A r y k).1 ∧ (duesA A r y k).2 ≤ r + 2 * k ∧ r ≤ (duesA A r y k).2
  | 0, _ => ⟨H, by show r ≤ r + 0; omega, Nat.le_refl _⟩
  | k + 1, hk => by
    obtain ⟨H1, a1, b1⟩ := duesA_I H k (by omega)
    obtain ⟨H2, a2, b2⟩ := dueS_I H1 (i := k) (by omega)
    exact ⟨H2, by show (dueS _ _ _ _).2 ≤ _; omega, by show _ ≤ (dueS _ _ _ _).2; omega⟩
theorem c_settleLoans (g : Gc) {lv n y p Y r0 : Nat} {A m0 : Mm} {pa0 : Nat → Nat} (hS : Sg g m0) (hF : Fr g m0) (hC : LC g pa0 Y r0 A m0) (H : LoanI n y p r0 A) (h12 : n ≤ 12) (hp1 : 1 ≤ p) (hp2 : p ≤ 10000) {Q : Mm → Prop} (hQ : ∀ pa m', GrOK g Y r0 pa0 m0 (2 * r0) (duesA A r0 y r0).1 (duesA A r0 y r0).2 pa m' → Q m') : CV g M_Land_settleLoans (lv + 6) [va_rf (some (gz g + 2))] m0 Q := by
  have r04 := H.2.2.2.1.2
  have loop : ∀ (d k : Nat) (pa : Nat → Nat) (m : Mm), k + d = r0 → GrOK g Y r0 pa0 m0 (2 * k) (duesA A r0 y k).1 (duesA A r0 y k).2 pa m → At g M_Land_settleLoans (lv + 6) 10 [(0, va_rf (some (gz g + 2))), (1, .int (nI r0)), (2, .int (nI k))] [] m (QV Q) := by
    intro d
    induction d with
    | zero =>
      intro k pa m hk G
      obtain rfl : k = r0 := by omega
      refine bk_Land_settleLoans_10 g ?_
      rw [if_pos (nI_le (by omega) (by omega))]
      exact hQ pa m G
    | succ d ih =>
      intro k pa m hk G
      obtain ⟨Hk, ak, bk⟩ := duesA_I (A := A) (y := y) H k (by omega)
      have ih1 := ih (k + 1)
      have ev : duesA A r0 y (k + 1) = dueS (duesA A r0 y k).1 (duesA A r0 y k).2 k y := rfl
      rw [ev] at ih1
      generalize (duesA A r0 y k).1 = B at G Hk ih1
      generalize (duesA A r0 y k).2 = r at G Hk ih1 ak bk
      obtain ⟨C, S, F, fs, e1, e2, e3⟩ := id G
      have hkr : k < r := by omega
      obtain ⟨pp1, pp2, pp3⟩ := C.2.2.1.1 k hkr
      refine bk_Land_settleLoans_10 g ?_
      rw [if_neg (nI_ge (by omega) (by omega)), nI_clamp (by omega), nI_s]
      refine ⟨S.k 2 rfl, gz g + 5, S.r 2 3 rfl, S.k 5 rfl, gz g + 6, S.r 5 0 rfl, S.k 6 rfl, by rw [S.n 6 rfl]; exact vp_in_nI (N := 400) (by omega) (by omega), pa k, pp1, pp2, ?_⟩
      have n0 := C.none3 hkr (k := 0) (by omega)
      have n1 := C.none3 hkr (k := 1) (by omega)
      unfold dueS at ih1
      cases h3 : mR m (pa k) 3 with
      | none =>
        have a0 : mI B 12 (2 * k) = -1 := n0.1 h3
        have a1 : mI B 12 (2 * k + 1) = -1 := by
          by_cases z : mI B 12 (2 * k + 1) = -1
          · exact z
          · exact absurd a0 (Hk.1 k hkr z).1
        have h4 : mR m (pa k) 4 = none := n1.2 a1
        rw [h4]
        rw [if_neg (fun z : DueA B k 0 y => z.1 a0), if_neg (fun z : DueA B k 1 y => z.1 a1)] at ih1
        exact c_close0 g C hkr (c_close0 g C hkr (ih1 pa m (by omega) (G.weak (by omega))))
      | some q1 =>
        refine c_close g S F C Hk h12 hp1 hp2 hkr (k := 0) (by omega) h3 (fun hd => ?_) (fun hd pa1 m1 C1 g1 g2 f1 F1 S1 x1 => ?_)
        · rw [if_neg hd] at ih1
          cases h4 : mR m (pa k) 4 with
          | none =>
            have a1 : mI B 12 (2 * k + 1) = -1 := n1.1 h4
            rw [if_neg (fun z : DueA B k 1 y => z.1 a1)] at ih1
            exact c_close0 g C hkr (ih1 pa m (by omega) (G.weak (by omega)))
          | some q2 =>
            refine c_close g S F C Hk h12 hp1 hp2 hkr (k := 1) (by omega) h4 (fun hd1 => ?_) (fun hd1 pa1 m1 C1 g1 g2 f1 F1 S1 _ => ?_)
            · rw [if_neg hd1] at ih1
              exact ih1 pa m (by omega) (G.weak (by omega))
            · rw [if_pos hd1] at ih1
              obtain ⟨-, -, b1, -⟩ := Hk.close (h := hO B k) (b := bO B k 1) hkr (k := 1) (by omega) hd1.1
              exact ih1 pa1 m1 (by omega) ((G.step C1 g1 g2 f1 F1 S1 b1).weak (by omega))
        · rw [if_pos hd] at ih1
          obtain ⟨H1, a1, b1, c1⟩ := Hk.close (h := hO B k) (b := bO B k 0) hkr (k := 0) (by omega) hd.1
          have G1 := G.step C1 g1 g2 f1 F1 S1 b1
          have hk1 : k < (clsA B r k 0).2 := by have : r ≤ (clsA B r k 0).2 := b1; omega
          have pk : pa1 k = pa k := g1 k hkr
          have m0' := C1.none3 hk1 (k := 0) (by omega)
          have m1' := C1.none3 hk1 (k := 1) (by omega)
          have m14 : mR m1 (pa k) 4 = none := by rw [← pk]; exact m1'.2 c1
          rw [show va_rf (some (pa k)) = va_rf (some (pa1 k)) by rw [pk]]
          cases h4 : mR m (pa k) 4 with
          | none =>
            have m13 : mR m1 (pa1 k) 3 = none := by
              rw [pk]
              rcases x1 rfl with z | z
              · exact z
              · rw [z, h4]
            have a0 := m0'.1 m13
            rw [if_neg (fun z : DueA (clsA B r k 0).1 k 0 y => z.1 a0)] at ih1
            exact c_close0 g C1 hk1 (ih1 pa1 m1 (by omega) (G1.weak (by omega)))
          | some q2 =>
            rcases x1 rfl with z | z
            · have m13 : mR m1 (pa1 k) 3 = none := by rw [pk]; exact z
              have a0 := m0'.1 m13
              rw [if_neg (fun z : DueA (clsA B r k 0).1 k 0 y => z.1 a0)] at ih1
              exact c_closeN g C1 hk1 m13 (by rw [pk]; exact m14) (ih1 pa1 m1 (by omega) (G1.weak (by omega)))
            · have m13 : mR m1 (pa1 k) (3 + 0) = some q2 := by rw [pk]; exact z.trans h4
              refine c_close g S1 F1 C1 H1 h12 hp1 hp2 hk1 (k := 0) (by omega) m13 (fun hd1 => ?_) (fun hd1 pa2 m2 C2 g3 g4 f2 F2 S2 _ => ?_)
              · rw [if_neg hd1] at ih1
                exact ih1 pa1 m1 (by omega) (G1.weak (by omega))
              · rw [if_pos hd1] at ih1
                obtain ⟨-, -, b2, -⟩ := H1.close (h := hO (clsA B r k 0).1 k) (b := bO (clsA B r k 0).1 k 0) hk1 (k := 0) (by omega) hd1.1
                exact ih1 pa2 m2 (by omega) ((G1.step C2 g3 g4 f2 F2 S2 b2).weak (by omega))
  refine en_Land_settleLoans g ⟨hS.k 2 rfl, gz g + 5, hS.r 2 3 rfl, hS.k 5 rfl, ?_⟩
  rw [hC.rn, H.2.2.2.1.1]
  exact loop r0 0 pa0 m0 (by omega) ⟨hC, hS, hF, Fs.refl _ _ _ _, fun _ _ => rfl, fun j a b => absurd b (by show ¬ j < r0; omega), Nat.le_refl _⟩
