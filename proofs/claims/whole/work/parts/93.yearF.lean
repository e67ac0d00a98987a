/-! ===== the year as one function ===== -/
def verP (V : RS) : Int32 := if V.1 = 0 then 0 else (lmx 0 (lmn 100 V.2.2.1)).toInt32
def verS (V : RS) (st : Int64) : Int64 := if V.2.1 = 0 then 0 else lmx 0 (lmn st V.2.2.2.1)
def yF (tm : Nat → Int32) (n y : Nat) (yl : Int32) (A : Mm) (r : Nat) : Nat → Int64 := factA (yr3 A y n yl (tm 0) (tm 1)) y r n
def yV (tm : Nat → Int32) (cs : List Cls) (n y : Nat) (yl : Int32) (A : Mm) (r : Nat) : RS := rawL (yF tm n y yl A r) cs
def yA4 (tm : Nat → Int32) (n y : Nat) (yl : Int32) (V : RS) (A : Mm) : Mm := yr4 (yr3 A y n yl (tm 0) (tm 1)) y (verP V)
def yA5 (tm : Nat → Int32) (n y : Nat) (yl : Int32) (V : RS) (A : Mm) (r : Nat) : Mm × Nat := yr5 (yA4 tm n y yl V A) r y n (verP V) V.2.2.2.2.2.2.1.toInt64 V.2.2.2.2.1
def yA7 (tm : Nat → Int32) (n y : Nat) (yl : Int32) (V : RS) (Sd : Int64) (A : Mm) (r : Nat) : Mm := yr7 (yA5 tm n y yl V A r).1 r (yA5 tm n y yl V A r).2 Sd V.2.2.2.2.2.2.2
def yA9 (tm : Nat → Int32) (n y : Nat) (yl : Int32) (V : RS) (Sd : Int64) (A : Mm) (r : Nat) : Mm := yr9 (yA7 tm n y yl V Sd A r) n Sd (tm 3)
def yBd (tm : Nat → Int32) (n y : Nat) (yl : Int32) (V : RS) (Sd : Int64) (A : Mm) (r : Nat) : Mm × Nat := (yr13 (yr11 (yA9 tm n y yl V Sd A r) (yA5 tm n y yl V A r).2 (tm 6)) n (sumL (yA7 tm n y yl V Sd A r) 7 n) Sd (tm 2) (tm 4) (tm 5), (yA5 tm n y yl V A r).2)
def yearA (tm : Nat → Int32) (cs : List Cls) (n y : Nat) (yl : Int32) (A : Mm) (r : Nat) : Mm × Nat := yBd tm n y yl (yV tm cs n y yl A r) (verS (yV tm cs n y yl A r) (yF tm n y yl A r 1)) A r
theorem yA4_I {tm : Nat → Int32} {n y c i : Nat} {yl : Int32} {V : RS} {A : Mm} (hn : n ≤ 12) (h7 : c ≠ 7) (h17 : ¬ (c = 17 ∧ 12 * y ≤ i ∧ i < 12 * y + n)) (h19 : ¬ (c = 19 ∧ i = y)) (h20 : ¬ (c = 20 ∧ i = y)) (h0 : ¬ (c = 0 ∧ (i = 4 ∨ i = 5))) : mI (yA4 tm n y yl V A) c i = mI A c i := by
  unfold yA4
  rw [yr34_I hn h7 h17 h19 h20 (by omega), mI_sI, up2_not (by omega)]
theorem yA4_17 {tm : Nat → Int32} {n y k : Nat} {yl : Int32} {V : RS} {A : Mm} (hn : n ≤ 12) (hk : k < n) : mI (yA4 tm n y yl V A) 17 (12 * y + k) = cropV A y yl k := by
  unfold yA4
  show mI (sI (sI _ 0 5 _) 20 y _) 17 _ = _
  rw [mI_sI, up2_oth (by omega), mI_sI, up2_oth (by omega)]
  unfold yr3
  rw [gathA_17 n hn, if_pos (by omega), show 12 * y + k - 12 * y = k by omega]
  unfold cropV
  rw [mI_sI, mI_sI, up2_oth (by omega), up2_oth (by omega), up2_oth (by omega), up2_oth (by omega)]
theorem yA4_7 {tm : Nat → Int32} {n y j : Nat} {yl : Int32} {V : RS} {A : Mm} : mI (yA4 tm n y yl V A) 7 j = if j < n then mI A 7 j + cropV A y yl j else mI A 7 j := by
  unfold yA4
  show mI (sI (sI _ 0 5 _) 20 y _) 7 _ = _
  rw [mI_sI, up2_oth (by omega), mI_sI, up2_oth (by omega)]
  unfold yr3
  rw [gathA_7, mI_sI, up2_oth (by omega), mI_sI, up2_oth (by omega)]
  unfold cropV
  rw [mI_sI, mI_sI, up2_oth (by omega), up2_oth (by omega), up2_oth (by omega), up2_oth (by omega)]
theorem yA4_19 {tm : Nat → Int32} {n y : Nat} {yl : Int32} {V : RS} {A : Mm} : mI (yA4 tm n y yl V A) 19 y = yl ∧ mI (yA4 tm n y yl V A) 20 y = verP V ∧ mI (yA4 tm n y yl V A) 0 5 = verP V ∧ mI (yA4 tm n y yl V A) 0 4 = wantV (tm 0) (tm 1) (mI A 0 2) := by
  unfold yA4
  show mI (sI (sI _ 0 5 _) 20 y _) 19 _ = _ ∧ mI (sI (sI _ 0 5 _) 20 y _) 20 _ = _ ∧ mI (sI (sI _ 0 5 _) 20 y _) 0 _ = _ ∧ mI (sI (sI _ 0 5 _) 20 y _) 0 _ = _
  refine ⟨?_, ?_, ?_, ?_⟩
  · rw [mI_sI, up2_oth (by omega), mI_sI, up2_oth (by omega)]
    unfold yr3
    rw [gathA_oth (by omega) (by omega), mI_sI, up2_at]
  · rw [mI_sI, up2_at]
  · rw [mI_sI, up2_oth (by omega), mI_sI, up2_at]
  · rw [mI_sI, up2_oth (by omega), mI_sI, up2_sl (by omega)]
    unfold yr3
    rw [gathA_oth (by omega) (by omega), mI_sI, up2_oth (by omega), mI_sI, up2_at]
theorem yA4_L3 {tm : Nat → Int32} {n y i : Nat} {yl : Int32} {V : RS} {A : Mm} : mL (yA4 tm n y yl V A) 3 i = mL A 3 i := by
  show mL (yr3 A y n yl (tm 0) (tm 1)) 3 i = _
  unfold yr3
  rw [gathA_L, mL_sL, up2_oth (by omega)]
  rfl
theorem yA5_I {tm : Nat → Int32} {n y r c i : Nat} {yl : Int32} {V : RS} {A : Mm} (h8 : c ≠ 8) (h18 : c ≠ 18) (h7 : c ≠ 7) (h9 : ¬ (9 ≤ c ∧ c ≤ 11 ∧ r ≤ i)) (h0 : ¬ (c = 0 ∧ i = 3)) : mI (yA5 tm n y yl V A r).1 c i = mI (yA4 tm n y yl V A) c i := kpA_I h8 h18 h7 h9 h0 n
/-- what the year does behind the keeping -/
theorem yBd_5 {tm : Nat → Int32} {n y r c i : Nat} {yl : Int32} {V : RS} {Sd : Int64} {A : Mm} (h3 : ¬ (3 ≤ c ∧ c ≤ 7)) (h10 : c ≠ 10) (h0 : ¬ (c = 0 ∧ i = 2)) : mI (yBd tm n y yl V Sd A r).1 c i = mI (yA5 tm n y yl V A r).1 c i := by
  show mI (vineA (sI _ 0 2 _) _ _ n) c i = _
  rw [vineA_I (by omega), mI_sI, up2_not (by omega), yr11_I h10]
  unfold yA9
  rw [yr9_I (by omega)]
  unfold yA7
  rw [yr7_I h10]
theorem yBd_I {tm : Nat → Int32} {n y r c i : Nat} {yl : Int32} {V : RS} {Sd : Int64} {A : Mm} (hn : n ≤ 12) (h3 : ¬ (3 ≤ c ∧ c ≤ 8)) (h10 : c ≠ 10) (h9 : ¬ (9 ≤ c ∧ c ≤ 11 ∧ r ≤ i)) (h0 : ¬ (c = 0 ∧ 2 ≤ i ∧ i ≤ 5)) (h17 : ¬ (c = 17 ∧ 12 * y ≤ i ∧ i < 12 * y + n)) (h18 : c ≠ 18) (h19 : ¬ (c = 19 ∧ i = y)) (h20 : ¬ (c = 20 ∧ i = y)) : mI (yBd tm n y yl V Sd A r).1 c i = mI A c i := by
  rw [yBd_5 (by omega) h10 (by omega), yA5_I (by omega) h18 (by omega) h9 (by omega), yA4_I hn (by omega) h17 h19 h20 (by omega)]
theorem yBd_2 {tm : Nat → Int32} {n y r : Nat} {yl : Int32} {V : RS} {Sd : Int64} {A : Mm} : r ≤ (yBd tm n y yl V Sd A r).2 ∧ (yBd tm n y yl V Sd A r).2 ≤ r + n := kpA_2 n
theorem yBd_3 {tm : Nat → Int32} {n y r : Nat} {yl : Int32} {V : RS} {Sd : Int64} {A : Mm} (hn : n ≤ 12) (h : mI A 0 3 = nI r) : mI (yBd tm n y yl V Sd A r).1 0 3 = nI (yBd tm n y yl V Sd A r).2 := by
  rw [yBd_5 (by omega) (by omega) (by omega)]
  exact kpA_3 (by rw [yA4_I hn (by omega) (by omega) (by omega) (by omega) (by omega)]; exact h) n
theorem yBd_19 {tm : Nat → Int32} {n y r : Nat} {yl : Int32} {V : RS} {Sd : Int64} {A : Mm} : mI (yBd tm n y yl V Sd A r).1 19 y = yl ∧ mI (yBd tm n y yl V Sd A r).1 20 y = verP V ∧ mI (yBd tm n y yl V Sd A r).1 0 5 = verP V := by
  obtain ⟨a, b, c, -⟩ := yA4_19 (tm := tm) (n := n) (y := y) (yl := yl) (V := V) (A := A)
  refine ⟨?_, ?_, ?_⟩
  · rw [yBd_5 (by omega) (by omega) (by omega), yA5_I (by omega) (by omega) (by omega) (by omega) (by omega)]; exact a
  · rw [yBd_5 (by omega) (by omega) (by omega), yA5_I (by omega) (by omega) (by omega) (by omega) (by omega)]; exact b
  · rw [yBd_5 (by omega) (by omega) (by omega), yA5_I (by omega) (by omega) (by omega) (by omega) (by omega)]; exact c
theorem yBd_17 {tm : Nat → Int32} {n y r k : Nat} {yl : Int32} {V : RS} {Sd : Int64} {A : Mm} (hn : n ≤ 12) (hk : k < n) : mI (yBd tm n y yl V Sd A r).1 17 (12 * y + k) = cropV A y yl k := by
  rw [yBd_5 (by omega) (by omega) (by omega), yA5_I (by omega) (by omega) (by omega) (by omega) (by omega), yA4_17 hn hk]
theorem yBd_18 {tm : Nat → Int32} {n y r i : Nat} {yl : Int32} {V : RS} {Sd : Int64} {A : Mm} (hn : n ≤ 12) : mI (yBd tm n y yl V Sd A r).1 18 i = if 12 * y ≤ i ∧ i < 12 * y + n then frV V.2.2.2.2.2.2.1.toInt64 V.2.2.2.2.1 (mI A 1 (i - 12 * y)) (cropV A y yl (i - 12 * y)) else mI A 18 i := by
  rw [yBd_5 (by omega) (by omega) (by omega)]
  unfold yA5 yr5
  rw [kpA_18]
  by_cases h : 12 * y ≤ i ∧ i < 12 * y + n
  · rw [if_pos h, if_pos h, yA4_I hn (by omega) (by omega) (by omega) (by omega) (by omega), yA4_17 hn (by omega)]
  · rw [if_neg h, if_neg h, yA4_I hn (by omega) (by omega) (by omega) (by omega) (by omega)]
theorem yBd_hold {tm : Nat → Int32} {n y r : Nat} {yl : Int32} {V : RS} {Sd : Int64} {A : Mm} (hn : n ≤ 12) (h : HoldOK n r A) : HoldOK n (yBd tm n y yl V Sd A r).2 (yBd tm n y yl V Sd A r).1 := fun i hi => by
  rw [yBd_5 (by omega) (by omega) (by omega)]
  exact kpA_hold (fun i hi => by rw [yA4_I hn (by omega) (by omega) (by omega) (by omega) (by omega)]; exact h i hi) n (Nat.le_refl _) i hi
theorem yBd_holdG {tm : Nat → Int32} {n y r : Nat} {yl : Int32} {V : RS} {Sd : Int64} {A : Mm} (hn : n ≤ 12) (h : HoldG n r A) : HoldG n (yBd tm n y yl V Sd A r).2 (yBd tm n y yl V Sd A r).1 := fun i hi => by
  rw [yBd_5 (by omega) (by omega) (by omega)]
  exact kpA_holdG (fun i hi => by rw [yA4_I hn (by omega) (by omega) (by omega) (by omega) (by omega)]; exact h i hi) n (Nat.le_refl _) i hi
theorem yBd_30 {tm : Nat → Int32} {n y r : Nat} {yl : Int32} {V : RS} {Sd : Int64} {A : Mm} (hn : n ≤ 12) (h : F30 r A) (hy : y < 30) : F30 (yBd tm n y yl V Sd A r).2 (yBd tm n y yl V Sd A r).1 := fun i hi => by
  rw [yBd_5 (by omega) (by omega) (by omega)]
  exact kpA_30 (fun i hi => by rw [yA4_I hn (by omega) (by omega) (by omega) (by omega) (by omega)]; exact h i hi) hy n i hi
theorem yBd_L3 {tm : Nat → Int32} {n y r i : Nat} {yl : Int32} {V : RS} {Sd : Int64} {A : Mm} : mL (yBd tm n y yl V Sd A r).1 3 i = mL A 3 i := by
  show mL (vineA (sI _ 0 2 _) _ _ n) 3 i = _
  rw [vineA_L, mL_sI]
  unfold yr11
  rw [mL_sL, up2_oth (by omega), rotA_L]
  unfold yA9 yr9
  rw [stfA_L3, sfreeA_L3]
  unfold yA7 yr7
  have e : mL (ssA (yA5 tm n y yl V A r).1 (mI (yA5 tm n y yl V A r).1 0 2) Sd r).1 3 i = mL A 3 i := by
    rw [ssA_L3]
    unfold yA5 yr5
    rw [kpA_L3, yA4_L3]
  split
  · exact e
  · rw [slA_L3]; exact e
theorem yBd_price {tm : Nat → Int32} {n y r : Nat} {yl : Int32} {V : RS} {Sd : Int64} {A : Mm} : ∃ p : Nat, 1 ≤ p ∧ p ≤ 10000 ∧ mI (yBd tm n y yl V Sd A r).1 0 2 = nI p := by
  show ∃ p : Nat, 1 ≤ p ∧ p ≤ 10000 ∧ mI (vineA (sI _ 0 2 _) _ _ n) 0 2 = nI p
  rw [vineA_I (by omega), mI_sI, up2_at]
  exact price_nat _
theorem yBd_be {tm : Nat → Int32} {n y r pl : Nat} {yl : Int32} {V : RS} {Sd : Int64} {A : Mm} (hn : n ≤ 12) (h : BeOK n A) (hp : tm 5 = nI pl) (hp2 : pl ≤ 100) : BeOK n (yBd tm n y yl V Sd A r).1 := by
  show BeOK n (vineA (sI _ 0 2 _) _ (tm 5) n)
  rw [hp]
  refine vineA_be ?_ hp2 n (Nat.le_refl _)
  intro j hj
  obtain ⟨b, a0, a1, a2, hh⟩ := h j hj
  refine ⟨b, a0, a1, a2, ?_⟩
  have e : ∀ c, 3 ≤ c → c ≤ 6 → mI (sI (yr11 (yA9 tm n y yl V Sd A r) (yA5 tm n y yl V A r).2 (tm 6)) 0 2 (priceV (mI (yr11 (yA9 tm n y yl V Sd A r) (yA5 tm n y yl V A r).2 (tm 6)) 0 2) (mI (yr11 (yA9 tm n y yl V Sd A r) (yA5 tm n y yl V A r).2 (tm 6)) 0 4) (tm 2) (sumL (yA7 tm n y yl V Sd A r) 7 n) Sd)) c j = mI A c j := fun c h1 h2 => by
    rw [mI_sI, up2_oth (by omega), yr11_I (by omega)]
    unfold yA9
    rw [yr9_I (by omega)]
    unfold yA7
    rw [yr7_I (by omega), yA5_I (by omega) (by omega) (by omega) (by omega) (by omega), yA4_I hn (by omega) (by omega) (by omega) (by omega) (by omega)]
  rw [e 3 (by omega) (by omega), e 4 (by omega) (by omega), e 5 (by omega) (by omega), e 6 (by omega) (by omega)]
  exact hh
theorem yBd_nat {tm : Nat → Int32} {n y r s0 b s q d p : Nat} {yl : Int32} {V : RS} {A : Mm} {v u c : Nat → Nat} (hn : n ≤ 12) (hv : frN n A v) (hu : skN r A u) (hc : ∀ k, k < n → cropV A y yl k = nI (c k)) (tot : sumN v n + sumN c n + sumN u r < 2 ^ 31) (hs0 : s0 < 2 ^ 31) (hb : tm 0 = nI b) (hb2 : b ≤ 10000000) (hs : tm 1 = nI s) (hs2 : s ≤ 1000000) (hq : tm 3 = nI q) (hq2 : q ≤ 10000000) (hd : tm 6 = nI d) (hd2 : d ≤ 200) (hp : mI A 0 2 = nI p) (hp2 : p ≤ 10000) : ∃ v' u' : Nat → Nat, frN n (yBd tm n y yl V (lN s0) A r).1 v' ∧ skN (yBd tm n y yl V (lN s0) A r).2 (yBd tm n y yl V (lN s0) A r).1 u' ∧ sumN v' n + sumN u' (yBd tm n y yl V (lN s0) A r).2 ≤ sumN v n + sumN c n + sumN u r := by
  have sc : ∀ t, sumN (fun j => v j + c j) t = sumN v t + sumN c t := fun t => by
    induction t with
    | zero => rfl
    | succ t ih =>
      show sumN (fun j => v j + c j) t + (v t + c t) = sumN v t + v t + (sumN c t + c t)
      rw [ih]; omega
  have v4 : frN n (yA4 tm n y yl V A) (fun j => v j + c j) := fun j hj => by
    have h1 := sumN_le (u := v) n hj
    have h2 := sumN_le (u := c) n hj
    rw [yA4_7, if_pos hj, (hv j hj).1, hc j hj, nI_add]
    exact ⟨rfl, by show v j + c j < 2 ^ 31; omega⟩
  have u4 : skN r (yA4 tm n y yl V A) u := fun i hi => by
    rw [yA4_I hn (by omega) (by omega) (by omega) (by omega) (by omega)]; exact hu i hi
  obtain ⟨v5, u5, a1, a2, a3, -⟩ := kpA_nat (P := verP V) (fr := fun k => frV V.2.2.2.2.2.2.1.toInt64 V.2.2.2.2.1 (mI (yA4 tm n y yl V A) 1 k) (mI (yA4 tm n y yl V A) 17 (12 * y + k))) (y := y) v4 u4 (fun k hk => ⟨by rw [yA4_17 hn hk]; exact hc k hk, by omega⟩) n (Nat.le_refl _)
  rw [sc] at a3
  have w4 := (yA4_19 (tm := tm) (n := n) (y := y) (yl := yl) (V := V) (A := A)).2.2.2
  rw [hb, hs, hp] at w4
  obtain ⟨w, hw1, hw2⟩ := want_N (b := b) (s := s) (p := p) hb2 hs2 hp2
  have w5 : mI (yA5 tm n y yl V A r).1 0 4 = nI w := by
    rw [yA5_I (by omega) (by omega) (by omega) (by omega) (by omega), w4]; exact hw2
  have e5 : yA5 tm n y yl V A r = kpA (yA4 tm n y yl V A) r y (verP V) (fun k => frV V.2.2.2.2.2.2.1.toInt64 V.2.2.2.2.1 (mI (yA4 tm n y yl V A) 1 k) (mI (yA4 tm n y yl V A) 17 (12 * y + k))) n := rfl
  have r5 := yBd_2 (tm := tm) (n := n) (y := y) (yl := yl) (V := V) (Sd := lN s0) (A := A) (r := r)
  have r5e : (yBd tm n y yl V (lN s0) A r).2 = (yA5 tm n y yl V A r).2 := rfl
  rw [r5e] at r5 ⊢
  rw [← e5] at a1 a2 a3
  have b1e : (yBd tm n y yl V (lN s0) A r).1 = yr13 (yr11 (yr9 (yr7 (yA5 tm n y yl V A r).1 r (yA5 tm n y yl V A r).2 (lN s0) V.2.2.2.2.2.2.2) n (lN s0) (tm 3)) (yA5 tm n y yl V A r).2 (tm 6)) n (sumL (yr7 (yA5 tm n y yl V A r).1 r (yA5 tm n y yl V A r).2 (lN s0) V.2.2.2.2.2.2.2) 7 n) (lN s0) (tm 2) (tm 4) (tm 5) := rfl
  rw [b1e]
  clear b1e r5e e5
  generalize yA5 tm n y yl V A r = A5 at *
  obtain ⟨A5, r5'⟩ := A5
  simp only at *
  obtain ⟨L, u6, c1, c2, c3, c4, -, -⟩ := ssA_nat (p := mI A5 0 2) a2 hs0 r r5.1
  have x7 : ∃ u7 : Nat → Nat, skN r5' (yr7 A5 r r5' (lN s0) V.2.2.2.2.2.2.2) u7 ∧ sumN u7 r5' ≤ sumN u5 r5' := by
    unfold yr7
    split
    · exact ⟨u6, c3, by omega⟩
    · obtain ⟨u7, d1, d2⟩ := slA_nat (T := V.2.2.2.2.2.2.2) (p := mI A5 0 2 / 4) c3 r5' (Nat.le_refl _)
      exact ⟨u7, d1, by have := sumN_mono2 r5' (fun j _ => d2 j); omega⟩
  obtain ⟨u7, d1, d2⟩ := x7
  have v7 : frN n (yr7 A5 r r5' (lN s0) V.2.2.2.2.2.2.2) v5 := fun j hj => by rw [yr7_I (by omega)]; exact a1 j hj
  have w7 : mI (yr7 A5 r r5' (lN s0) V.2.2.2.2.2.2.2) 0 4 = nI w := by rw [yr7_I (by omega)]; exact w5
  have sl7 := (sumL_N (A := yr7 A5 r r5' (lN s0) V.2.2.2.2.2.2.2) (c := 7) n v7).1
  generalize yr7 A5 r r5' (lN s0) V.2.2.2.2.2.2.2 = A7 at *
  obtain ⟨v8, f1, f2⟩ := sfreeA_nat (s0 := s0) v7 rfl (by omega) w7 (by omega) hs0
  rw [← sl7] at f1
  have v9 : ∃ v9 : Nat → Nat, frN n (yr9 A7 n (lN s0) (tm 3)) v9 ∧ sumN v9 n ≤ sumN v8 n := by
    unfold yr9
    rw [hq]
    obtain ⟨v9, q', g1, -, -, g4⟩ := stfA_nat (q0 := q) (p := mI A7 0 2 / 4) f1 (by omega) n (Nat.le_refl _)
    exact ⟨v9, g1, sumN_mono2 n (fun j _ => g4 j)⟩
  obtain ⟨v9, g1, g2⟩ := v9
  have u9 : skN r5' (yr9 A7 n (lN s0) (tm 3)) u7 := fun i hi => by rw [yr9_I (by omega)]; exact d1 i hi
  generalize yr9 A7 n (lN s0) (tm 3) = A9 at *
  obtain ⟨u11, k1, k2⟩ := rotA_nat u9 hd2 r5' (Nat.le_refl _)
  have k3 := sumN_mono2 r5' (fun j _ => k2 j)
  refine ⟨v9, u11, fun j hj => ?_, fun i hi => ?_, by omega⟩
  · show mI (vineA (sI _ 0 2 _) _ _ n) 7 j = _ ∧ _
    rw [vineA_I (by omega), mI_sI, up2_oth (by omega), yr11_I (by omega)]
    exact g1 j hj
  · show mI (vineA (sI _ 0 2 _) _ _ n) 10 i = _ ∧ _
    rw [vineA_I (by omega), mI_sI, up2_oth (by omega)]
    unfold yr11
    rw [mI_sL, hd]
    exact k1 i hi
