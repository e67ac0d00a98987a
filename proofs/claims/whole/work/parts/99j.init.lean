/-! ===== what the two new objects hold ===== -/
def L1 : List Op := (0, 144, 16, 1891, 1891) :: LT
def bx (g : Gc) (m : Mm) (f : Nat → Int64) : Mm := sR (rL m (gz g + 144) f) (gz g + 0) 7 (some (gz g + 144))
theorem bx_ok (g : Gc) (m : Mm) (f : Nat → Int64) : (mC (bx g m f) = mC m ∧ mS (bx g m f) = mS m) ∧ mK (bx g m f) = mK m ∧ mN (bx g m f) = mN m ∧ mI (bx g m f) = mI m ∧ mR (bx g m f) = up2 (mR m) (gz g + 0) 7 (some (gz g + 144)) ∧ mL (bx g m f) = va_up (mL m) (gz g + 144) f := ⟨⟨rfl, rfl⟩, rfl, rfl, rfl, rfl, rfl⟩
def RO (g : Gc) (b : Mm) (l : List Op) (m : Mm) : Prop := (mC m = mC b + cnt l ∧ mS m = mS b + szs l) ∧ ∀ a, (mK m (gz g + a) = ((cK l a).getD (mK b (gz g + a), mN b (gz g + a))).1 ∧ mN m (gz g + a) = ((cK l a).getD (mK b (gz g + a), mN b (gz g + a))).2) ∧ (∀ j, mR m (gz g + a) j = ((cR l a j).map (fun o => o.map (fun x => gz g + x))).getD (mR b (gz g + a) j)) ∧ (∀ j, mI m (gz g + a) j = (cV l a j).getD (mI b (gz g + a) j)) ∧ mL m (gz g + a) = if (cK l a).isSome = true then (fun _ => 0) else mL b (gz g + a)
theorem run_RO (g : Gc) (b : Mm) (l : List Op) : RO g b l (run g b l) := ⟨run_C l, fun a => run_ok l a⟩
def LL : List Op := ngs 157 12 (ngs 154 31 LR0)
theorem LL_K (a : Nat) : cK LL a = cK LR0 a := (cK_ngs 12).trans (cK_ngs 31)
theorem LL_R (a j : Nat) : cR LL a j = cR LR0 a j := (cR_ngs 12).trans (cR_ngs 31)
theorem LL_V (a j : Nat) : cV LL a j = if a = 157 ∧ j < 12 then some (-1) else if a = 154 ∧ j < 31 then some (-1) else cV LR0 a j := by
  unfold LL
  rw [cV_ngs, cV_ngs]
theorem LL_C : cnt LL = cnt LR0 ∧ szs LL = szs LR0 := ⟨(cnt_ngs 12).1.trans (cnt_ngs 31).1, (cnt_ngs 12).2.trans (cnt_ngs 31).2⟩
/-- the memory after both constructors -/
def Ini2 (g : Gc) (m1 : Mm) (f : Nat → Int64) (m : Mm) : Prop := RO g m00 L1 m1 ∧ RO g (bx g m1 f) LL m
def noW (l : List Op) (a : Nat) : Bool := l.all (fun o => decide (o.1 = 0 ∨ o.1 = 1 ∨ o.2.1 ≠ a))
theorem noW_V {a j : Nat} : ∀ {l : List Op}, noW l a = true → cV l a j = if (cK l a).isSome = true then some 0 else none
  | [], _ => rfl
  | o :: l, h => by
    have h' : decide (o.1 = 0 ∨ o.1 = 1 ∨ o.2.1 ≠ a) = true ∧ noW l a = true := by
      unfold noW at h ⊢
      rw [List.all_cons, Bool.and_eq_true] at h
      exact h
    have ho := of_decide_eq_true h'.1
    have ih := noW_V (j := j) h'.2
    show (if o.1 = 0 ∧ o.2.1 = a then some 0 else if o.1 = 2 ∧ o.2.1 = a ∧ o.2.2.1 = j then _ else if o.1 ≠ 0 ∧ o.1 ≠ 1 ∧ o.1 ≠ 2 ∧ o.2.1 = a ∧ o.2.2.1 = j then _ else cV l a j) = if (if o.1 = 0 ∧ o.2.1 = a then some (o.2.2.1, o.2.2.2.1) else cK l a).isSome = true then some 0 else none
    by_cases h0 : o.1 = 0 ∧ o.2.1 = a
    · rw [if_pos h0, if_pos h0]; rfl
    · rw [if_neg h0, if_neg h0, if_neg (by omega), if_neg (by omega)]; exact ih
def wthn (l : List Op) (lo hi : Nat) : Bool := l.all (fun o => decide (lo ≤ o.2.1 ∧ o.2.1 < hi))
theorem wthn_no {a j lo hi : Nat} : ∀ {l : List Op}, wthn l lo hi = true → (a < lo ∨ hi ≤ a) → cK l a = none ∧ cR l a j = none ∧ cV l a j = none
  | [], _, _ => ⟨rfl, rfl, rfl⟩
  | o :: l, h, ha => by
    have h' : decide (lo ≤ o.2.1 ∧ o.2.1 < hi) = true ∧ wthn l lo hi = true := by
      unfold wthn at h ⊢
      rw [List.all_cons, Bool.and_eq_true] at h
      exact h
    have ho := of_decide_eq_true h'.1
    obtain ⟨i1, i2, i3⟩ := wthn_no (j := j) h'.2 ha
    refine ⟨?_, ?_, ?_⟩
    · show (if o.1 = 0 ∧ o.2.1 = a then _ else cK l a) = none
      rw [if_neg (by omega)]; exact i1
    · show (if o.1 = 0 ∧ o.2.1 = a then _ else if o.1 = 1 ∧ o.2.1 = a ∧ o.2.2.1 = j then _ else cR l a j) = none
      rw [if_neg (by omega), if_neg (by omega)]; exact i2
    · show (if o.1 = 0 ∧ o.2.1 = a then _ else if o.1 = 2 ∧ o.2.1 = a ∧ o.2.2.1 = j then _ else if o.1 ≠ 0 ∧ o.1 ≠ 1 ∧ o.1 ≠ 2 ∧ o.2.1 = a ∧ o.2.2.1 = j then _ else cV l a j) = none
      rw [if_neg (by omega), if_neg (by omega), if_neg (by omega)]; exact i3
theorem wi1 : wthn L1 0 145 = true := by decide +kernel
theorem wi2 : wthn LR0 145 184 = true := by decide +kernel
theorem K1 : ∀ a, a < 145 → cK L1 a = some (shK a, shN a) := by decide +kernel
theorem K2 : ∀ d, d < 39 → cK LR0 (145 + d) = some (shK (145 + d), shN (145 + d)) := by decide +kernel
theorem R1 : ∀ a, a < 145 → ∀ j, j < (shRL.getD a []).length → (a = 0 ∧ j = 7) ∨ shR a j = none ∨ cR L1 a j = some (shR a j) := by decide +kernel
theorem R2 : ∀ d, d < 39 → ∀ j, j < (shRL.getD (145 + d) []).length → shR (145 + d) j = none ∨ cR LR0 (145 + d) j = some (shR (145 + d) j) := by decide +kernel
theorem szsL : szs L1 + szs LR0 ≤ 30000 := by decide +kernel
theorem cntL : cnt L1 = 145 ∧ cnt LR0 = 39 := by decide +kernel
theorem sh07 : shR 0 7 = some 144 := by decide +kernel
theorem L07 : cR L1 0 7 = some none := by decide +kernel
theorem m00_ok (a j : Nat) : mK m00 a = 0 ∧ mN m00 a = 0 ∧ mR m00 a j = none ∧ mI m00 a j = 0 ∧ mL m00 a = (fun _ => 0) ∧ mC m00 = 0 ∧ mS m00 = 0 := ⟨rfl, rfl, rfl, rfl, rfl, rfl, rfl⟩
theorem ini_lo {g : Gc} {m1 m : Mm} {f : Nat → Int64} (H : Ini2 g m1 f m) {a : Nat} (h : a < 145) : (mK m (gz g + a) = shK a ∧ mN m (gz g + a) = shN a) ∧ (∀ j, ¬ (a = 0 ∧ j = 7) → mR m (gz g + a) j = ((cR L1 a j).map (fun o => o.map (fun x => gz g + x))).getD none) ∧ (∀ j, mI m (gz g + a) j = (cV L1 a j).getD 0) ∧ (a ≠ 144 → mL m (gz g + a) = fun _ => 0) := by
  obtain ⟨⟨-, H1⟩, ⟨-, H2⟩⟩ := H
  obtain ⟨⟨p1, p2⟩, p3, p4, p5⟩ := H2 a
  obtain ⟨⟨q1, q2⟩, q3, q4, q5⟩ := H1 a
  obtain ⟨-, bK, bN, bI, bR, bL⟩ := bx_ok g m1 f
  have n1 := fun j => wthn_no (j := j) wi2 (Or.inl h)
  rw [LL_K, (n1 0).1] at p1 p2 p5
  rw [K1 a h] at q1 q2 q5
  rw [bK, bN] at p1 p2
  refine ⟨⟨p1.trans q1, p2.trans q2⟩, fun j hj => ?_, fun j => ?_, fun h4 => ?_⟩
  · rw [p3 j, LL_R, (n1 j).2.1, bR]
    show up2 (mR m1) (gz g + 0) 7 (some (gz g + 144)) (gz g + a) j = _
    rw [up2_not (by omega), q3 j, (m00_ok (gz g + a) j).2.2.1]
  · rw [p4 j, LL_V, if_neg (by omega), if_neg (by omega), (n1 j).2.2, bI]
    show mI m1 (gz g + a) j = _
    rw [q4 j, (m00_ok (gz g + a) j).2.2.2.1]
  · rw [p5, bL]
    show va_up (mL m1) (gz g + 144) f (gz g + a) = _
    have : va_up (mL m1) (gz g + 144) f (gz g + a) = mL m1 (gz g + a) := by
      simp [va_up, h4]
    rw [this, q5]
    rfl
theorem ini_hi {g : Gc} {m1 m : Mm} {f : Nat → Int64} (H : Ini2 g m1 f m) {a : Nat} (h : 145 ≤ a) (h2 : a < 184) : (mK m (gz g + a) = shK a ∧ mN m (gz g + a) = shN a) ∧ (∀ j, mR m (gz g + a) j = ((cR LR0 a j).map (fun o => o.map (fun x => gz g + x))).getD (mR (bx g m1 f) (gz g + a) j)) ∧ (∀ j, mI m (gz g + a) j = if a = 157 ∧ j < 12 then -1 else if a = 154 ∧ j < 31 then -1 else (cV LR0 a j).getD (mI (bx g m1 f) (gz g + a) j)) ∧ mL m (gz g + a) = fun _ => 0 := by
  obtain ⟨-, ⟨-, H2⟩⟩ := H
  obtain ⟨⟨p1, p2⟩, p3, p4, p5⟩ := H2 a
  have k2 := K2 (a - 145) (by omega)
  rw [show 145 + (a - 145) = a by omega] at k2
  rw [LL_K, k2] at p1 p2 p5
  refine ⟨⟨p1, p2⟩, fun j => ?_, fun j => ?_, p5⟩
  · rw [p3 j, LL_R]
  · rw [p4 j, LL_V]
    by_cases h7 : a = 157 ∧ j < 12
    · rw [if_pos h7, if_pos h7]; rfl
    · rw [if_neg h7, if_neg h7]
      by_cases h4 : a = 154 ∧ j < 31
      · rw [if_pos h4, if_pos h4]; rfl
      · rw [if_neg h4, if_neg h4]
theorem ini_Sg {g : Gc} {m1 m : Mm} {f : Nat → Int64} (H : Ini2 g m1 f m) : Sg g m := by
  refine ⟨fun a ha => ?_, fun a j b hb => ?_⟩
  · by_cases h : a < 145
    · exact (ini_lo H h).1
    · exact (ini_hi H (by omega) ha).1
  · have ha := (shR_a hb).1
    have hj : j < (shRL.getD a []).length := by
      by_cases h : j < (shRL.getD a []).length
      · exact h
      · unfold shR at hb
        have : ((shRL.getD a []).getD j none) = none := by
          rw [List.getD_eq_getElem?_getD, List.getElem?_eq_none (by omega)]; rfl
        rw [this] at hb
        cases hb
    by_cases h : a < 145
    · by_cases h07 : a = 0 ∧ j = 7
      · obtain ⟨rfl, rfl⟩ := h07
        rw [sh07] at hb
        cases hb
        obtain ⟨-, ⟨-, H2⟩⟩ := H
        obtain ⟨-, p3, -⟩ := H2 0
        rw [p3 7, LL_R, (wthn_no (j := 7) wi2 (Or.inl (show 0 < 145 by omega))).2.1, (bx_ok g m1 f).2.2.2.2.1]
        show up2 (mR m1) (gz g + 0) 7 (some (gz g + 144)) (gz g + 0) 7 = _
        rw [up2_at]
      · rcases R1 a h j hj with q | q | q
        · exact absurd q h07
        · rw [q] at hb; cases hb
        · rw [(ini_lo H h).2.1 j h07, q, hb]; rfl
    · have r2 := R2 (a - 145) (by omega) j (by rw [show 145 + (a - 145) = a by omega]; exact hj)
      rw [show 145 + (a - 145) = a by omega] at r2
      rcases r2 with q | q
      · rw [q] at hb; cases hb
      · rw [(ini_hi H (by omega) ha).2.1 j, q, hb]; rfl
theorem ini_Fr {g : Gc} {m1 m : Mm} {f : Nat → Int64} (H : Ini2 g m1 f m) : Fr g m ∧ mC m = 184 ∧ mS m ≤ 30000 := by
  obtain ⟨⟨⟨c1, s1⟩, H1⟩, ⟨⟨c2, s2⟩, H2⟩⟩ := H
  obtain ⟨⟨bC, bS⟩, bK, -⟩ := bx_ok g m1 f
  rw [bC, c1, LL_C.1, cntL.1, cntL.2] at c2
  rw [bS, s1, LL_C.2] at s2
  have c : mC m = 184 := c2
  refine ⟨⟨by omega, fun x hx => ?_⟩, c, ?_⟩
  · rw [c] at hx
    obtain ⟨y, rfl⟩ : ∃ y, x = gz g + y := ⟨x - gz g, by omega⟩
    have hy : 184 ≤ y := by omega
    obtain ⟨⟨p1, -⟩, -⟩ := H2 y
    obtain ⟨⟨q1, -⟩, -⟩ := H1 y
    rw [LL_K, (wthn_no (j := 0) wi2 (Or.inr hy)).1, bK] at p1
    rw [(wthn_no (j := 0) wi1 (Or.inr (show 145 ≤ y by omega))).1] at q1
    exact p1.trans q1
  · have h := szsL
    have h0 : mS m00 = 0 := rfl
    rw [h0] at s2
    omega
theorem noW_lo {g : Gc} {m1 m : Mm} {f : Nat → Int64} (H : Ini2 g m1 f m) {a : Nat} (h : a < 145) (hw : noW L1 a = true) (j : Nat) : mI m (gz g + a) j = 0 := by
  rw [(ini_lo H h).2.2.1 j, noW_V hw, K1 a h]; rfl
theorem noW_hi {g : Gc} {m1 m : Mm} {f : Nat → Int64} (H : Ini2 g m1 f m) {a : Nat} (h : 145 ≤ a) (h2 : a < 184) (hn : a ≠ 157) (hn2 : a ≠ 154) (hw : noW LR0 a = true) (j : Nat) : mI m (gz g + a) j = 0 := by
  have k2 := K2 (a - 145) (by omega)
  rw [show 145 + (a - 145) = a by omega] at k2
  rw [(ini_hi H h h2).2.2.1 j, if_neg (by omega), if_neg (by omega), noW_V hw, k2]; rfl
theorem v_hi {g : Gc} {m1 m : Mm} {f : Nat → Int64} (H : Ini2 g m1 f m) {a j : Nat} {v : Int32} (h : 145 ≤ a) (h2 : a < 184) (hn : a ≠ 157) (hn2 : a ≠ 154) (hv : cV LR0 a j = some v) : mI m (gz g + a) j = v := by
  rw [(ini_hi H h h2).2.2.1 j, if_neg (by omega), if_neg (by omega), hv]; rfl
theorem v_lo {g : Gc} {m1 m : Mm} {f : Nat → Int64} (H : Ini2 g m1 f m) {a j : Nat} {v : Int32} (h : a < 145) (hv : cV L1 a j = some v) : mI m (gz g + a) j = v := by
  rw [(ini_lo H h).2.2.1 j, hv]; rfl
