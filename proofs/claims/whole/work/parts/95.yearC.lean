/-! ===== a year of the main land, the class's side ===== -/
theorem vI_y {n y r c i : Nat} (h : vI n 30 r c i) (hn : ¬ ((c = 17 ∨ c = 18) ∧ y ≤ i / 12 ∨ (c = 19 ∨ c = 20) ∧ y ≤ i)) : vI n y r c i := by
  unfold vI at h
  split at h
  · exact h
  · exact h
  · exact h
  · exact h
  · exact h
  · exact ⟨h.1, by have := h.2; omega⟩
  · exact ⟨h.1, by have := h.2; omega⟩
  · show i < y; omega
  · show i < y; omega
  · exact h
  · exact h
  · obtain ⟨a, b, d⟩ := h
    rcases (show c = 1 ∨ c = 2 ∨ c = 3 ∨ c = 4 ∨ c = 5 ∨ c = 6 ∨ c = 7 ∨ c = 8 by omega) with rfl | rfl | rfl | rfl | rfl | rfl | rfl | rfl <;> exact ⟨a, b, d⟩
def extA (A m : Mm) (k : Nat → Nat → Nat × Nat) (y : Nat) : Mm := (fun c i => if (c = 17 ∨ c = 18) ∧ y ≤ i / 12 ∨ (c = 19 ∨ c = 20) ∧ y ≤ i then mI m (k c i).1 (k c i).2 else mI A c i, A.2)
theorem extA_I {A m : Mm} {k : Nat → Nat → Nat × Nat} {y c i : Nat} (h : ¬ ((c = 17 ∨ c = 18) ∧ y ≤ i / 12 ∨ (c = 19 ∨ c = 20) ∧ y ≤ i)) : mI (extA A m k y) c i = mI A c i := if_neg h
theorem extA_y {A m : Mm} {k : Nat → Nat → Nat × Nat} {y c i : Nat} (h : (c = 17 ∨ c = 18) ∧ y ≤ i / 12 ∨ (c = 19 ∨ c = 20) ∧ y ≤ i) : mI (extA A m k y) c i = mI m (k c i).1 (k c i).2 := if_pos h
theorem LandC.ext {g : Gc} {t : Nat} {pa : Nat → Nat} {N y r : Nat} {A m : Mm} (h : LandC g t pa N y r A m) : LandC g t pa N 30 r (extA A m (cI (gz g + t) pa) y) m := by
  refine ⟨fun c i hv => ?_, fun c i hv => h.2 c i hv⟩
  by_cases hc : (c = 17 ∨ c = 18) ∧ y ≤ i / 12 ∨ (c = 19 ∨ c = 20) ∧ y ≤ i
  · exact (extA_y hc).symm
  · rw [extA_I hc]; exact h.1 c i (vI_y hv hc)
theorem vI_ny {n y r c i : Nat} (h : vI n y r c i) : ¬ ((c = 17 ∨ c = 18) ∧ y ≤ i / 12 ∨ (c = 19 ∨ c = 20) ∧ y ≤ i) := by
  rintro (⟨rfl | rfl, e⟩ | ⟨rfl | rfl, e⟩)
  · have : i % 12 < n ∧ i / 12 < y := h
    omega
  · have : i % 12 < n ∧ i / 12 < y := h
    omega
  · have : i < y := h
    omega
  · have : i < y := h
    omega
theorem LandQ.ext {g : Gc} {l n y r : Nat} {A m mm : Mm} {k : Nat → Nat → Nat × Nat} (h : LandQ g l n y r A m) : LandQ g l n y r (extA A mm k y) m :=
  ⟨fun c i hv => (h.1 c i hv).trans (extA_I (vI_ny hv.1.1)).symm, fun c i hv => h.2 c i hv⟩
theorem vI_up {n y r c i : Nat} (h : vI n y r c i) (hy : y ≤ 30) : vI n 30 r c i := by
  unfold vI at h
  split at h
  · exact h
  · exact h
  · exact h
  · exact h
  · exact h
  · exact ⟨h.1, by have := h.2; omega⟩
  · exact ⟨h.1, by have := h.2; omega⟩
  · show i < 30; omega
  · show i < 30; omega
  · exact h
  · exact h
  · obtain ⟨a, b, d⟩ := h
    rcases (show c = 1 ∨ c = 2 ∨ c = 3 ∨ c = 4 ∨ c = 5 ∨ c = 6 ∨ c = 7 ∨ c = 8 by omega) with rfl | rfl | rfl | rfl | rfl | rfl | rfl | rfl <;> exact ⟨a, b, d⟩
theorem LC.down {g : Gc} {pa : Nat → Nat} {y r : Nat} {A m : Mm} (h : LC g pa 30 r A m) (hy : y ≤ 30) : LC g pa y r A m := ⟨⟨fun c i hv => h.1.1 c i (vI_up hv hy), h.1.2⟩, h.2⟩
theorem LR.down {g : Gc} {y r : Nat} {A m : Mm} (h : LR g 30 r A m) (hy : y ≤ 30) : LR g y r A m := ⟨⟨fun c i hv => h.1.1 c i ⟨vI_up hv.1 hy, hv.2⟩, h.1.2⟩, h.2⟩
theorem LR.up {g : Gc} {y r : Nat} {A m : Mm} (h : LR g y r A m) (hU : ∀ c i, vI 12 30 r c i → ((c = 17 ∨ c = 18) ∧ y ≤ i / 12 ∨ (c = 19 ∨ c = 20) ∧ y ≤ i) → mI m (rI' (gz g + 145) 0 c i).1 (rI' (gz g + 145) 0 c i).2 = mI A c i) : LR g 30 r A m := by
  refine ⟨⟨fun c i hv => ?_, h.1.2⟩, h.2⟩
  by_cases hc : (c = 17 ∨ c = 18) ∧ y ≤ i / 12 ∨ (c = 19 ∨ c = 20) ∧ y ≤ i
  · exact hU c i hv.1 hc
  · exact h.1.1 c i ⟨vI_y hv.1 hc, hv.2⟩
theorem LandC.up {g : Gc} {pa : Nat → Nat} {y r : Nat} {A m : Mm} (h : LandC g 2 pa 12 y r A m) (hU : ∀ c i, vI 12 30 r c i → ((c = 17 ∨ c = 18) ∧ y ≤ i / 12 ∨ (c = 19 ∨ c = 20) ∧ y ≤ i) → mI m (cI (gz g + 2) pa c i).1 (cI (gz g + 2) pa c i).2 = mI A c i) : LandC g 2 pa 12 30 r A m := by
  refine ⟨fun c i hv => ?_, h.2⟩
  by_cases hc : (c = 17 ∨ c = 18) ∧ y ≤ i / 12 ∨ (c = 19 ∨ c = 20) ∧ y ≤ i
  · exact hU c i hv hc
  · exact h.1 c i (vI_y hv hc)
def patL (B : Mm) (r0 r : Nat) : Mm := rI B 12 (fun i => if 2 * r0 ≤ i ∧ i < 2 * r then -1 else mI B 12 i)
theorem patL_I {B : Mm} {r0 r c : Nat} (h : c ≠ 12) : mI (patL B r0 r) c = mI B c := mI_rI_ne h
theorem patL_12 {B : Mm} {r0 r i : Nat} : mI (patL B r0 r) 12 i = if 2 * r0 ≤ i ∧ i < 2 * r then -1 else mI B 12 i := by
  unfold patL
  rw [mI_rI]
theorem vI_n12 {n y r i : Nat} (h : vI n y r 12 i) : False := by
  have : 1 ≤ 12 ∧ 12 ≤ 8 ∧ i < n := h
  omega
theorem LandC.pat {g : Gc} {t : Nat} {pa : Nat → Nat} {N y r r0 r1 : Nat} {A m : Mm} (h : LandC g t pa N y r A m) : LandC g t pa N y r (patL A r0 r1) m :=
  ⟨fun c i hv => (h.1 c i hv).trans (by rw [patL_I (fun e => by subst e; exact vI_n12 hv)]), fun c i hv => h.2 c i hv⟩
theorem LandQ.pat {g : Gc} {l n y r r0 r1 : Nat} {A m : Mm} (h : LandQ g l n y r A m) : LandQ g l n y r (patL A r0 r1) m :=
  ⟨fun c i hv => (h.1 c i hv).trans (by rw [patL_I (fun e => by subst e; exact vI_n12 hv.1.1)]), fun c i hv => h.2 c i hv⟩
theorem LoanI.same2 {n y p r : Nat} {A B : Mm} (h : LoanI n y p r A) (e : ∀ c j, c ≤ 12 → mI B c j = mI A c j) : LoanI n y p r B := by
  obtain ⟨a, b, c, d, f, k, l⟩ := h
  refine ⟨fun i hi => ?_, fun i k hi hk => ?_, fun i hi => ?_, ⟨(e 0 3 (by omega)).trans d.1, d.2⟩, (e 0 0 (by omega)).trans f, (e 0 1 (by omega)).trans k, (e 0 2 (by omega)).trans l⟩
  · rw [e 12 _ (by omega), e 12 _ (by omega)]; exact a i hi
  · rw [e 12 _ (by omega)]; exact b i k hi hk
  · rw [e 12 _ (by omega), e 9 _ (by omega)]; exact c i hi
theorem LoanI.yr {tm : Nat → Int32} {n y p r : Nat} {yl : Int32} {V : RS} {Sd : Int64} {A : Mm} (H : LoanI n y p r A) (h12 : n ≤ 12) (h4 : r + n ≤ 400) : ∃ p1 : Nat, (1 ≤ p1 ∧ p1 ≤ 10000) ∧ LoanI n y p1 (yBd tm n y yl V Sd A r).2 (patL (yBd tm n y yl V Sd A r).1 r (yBd tm n y yl V Sd A r).2) := by
  obtain ⟨p1, q1, q2, q3⟩ := yBd_price (tm := tm) (n := n) (y := y) (r := r) (yl := yl) (V := V) (Sd := Sd) (A := A)
  obtain ⟨a, b, c, d, f, k, l⟩ := H
  have z2 := yBd_2 (tm := tm) (n := n) (y := y) (r := r) (yl := yl) (V := V) (Sd := Sd) (A := A)
  have z3 := yBd_3 (tm := tm) (y := y) (yl := yl) (V := V) (Sd := Sd) h12 d.1
  have e12 : ∀ i, mI (yBd tm n y yl V Sd A r).1 12 i = mI A 12 i := fun i => yBd_I h12 (by omega) (by omega) (by omega) (by omega) (by omega) (by omega) (by omega) (by omega)
  have e9 : ∀ i, i < r → mI (yBd tm n y yl V Sd A r).1 9 i = mI A 9 i := fun i hi => yBd_I h12 (by omega) (by omega) (by omega) (by omega) (by omega) (by omega) (by omega) (by omega)
  have e00 : mI (yBd tm n y yl V Sd A r).1 0 0 = mI A 0 0 := yBd_I h12 (by omega) (by omega) (by omega) (by omega) (by omega) (by omega) (by omega) (by omega)
  have e01 : mI (yBd tm n y yl V Sd A r).1 0 1 = mI A 0 1 := yBd_I h12 (by omega) (by omega) (by omega) (by omega) (by omega) (by omega) (by omega) (by omega)
  generalize yBd tm n y yl V Sd A r = B at *
  obtain ⟨B, r1⟩ := B
  simp only at *
  refine ⟨p1, ⟨q1, q2⟩, fun i hi => ?_, fun i k hi hk => ?_, fun i hi => ?_, ⟨(by rw [patL_I (by omega)]; exact z3), by omega⟩, (by rw [patL_I (by omega), e00]; exact f), (by rw [patL_I (by omega), e01]; exact k), (by rw [patL_I (by omega)]; exact q3)⟩
  · rw [patL_12, patL_12]
    by_cases hr : i < r
    · rw [if_neg (by omega), if_neg (by omega), e12, e12]; exact a i hr
    · rw [if_pos (by omega), if_pos (by omega)]; exact fun q => absurd rfl q
  · rw [patL_12]
    by_cases hr : i < r
    · rw [if_neg (by omega), e12]; exact b i k hr hk
    · rw [if_pos (by omega)]; exact Or.inl rfl
  · rw [patL_12, patL_I (by omega)]
    by_cases hr : i < r
    · rw [if_neg (by omega), e12, e9 i hr]; exact c i hr
    · rw [if_pos (by omega)]; exact fun q => absurd rfl q
theorem LC.year {g : Gc} {tm : Nat → Int32} {n y r R : Nat} {yl : Int32} {V : RS} {Sd : Int64} {A m m' : Mm} {pa pa' : Nat → Nat} {mm : Mm} {kk : Nat → Nat → Nat × Nat} (h : LC g pa y r A m) (h12 : n ≤ 12) (K : YrOK g 2 12 y r r pa m (yBd tm n y yl V Sd (extA A mm kk y) r).1 (yBd tm n y yl V Sd (extA A mm kk y) r).2 pa' R m') : LC g pa' 30 (yBd tm n y yl V Sd (extA A mm kk y) r).2 (patL (yBd tm n y yl V Sd (extA A mm kk y) r).1 r (yBd tm n y yl V Sd (extA A mm kk y) r).2) m' := by
  obtain ⟨c, po, pp, ⟨r1, r2, r3, r4, r5⟩, S', F', fs, hpa, hnew, hold, hnn⟩ := K
  have e12 : ∀ i, mI (yBd tm n y yl V Sd (extA A mm kk y) r).1 12 i = mI A 12 i := fun i => (yBd_I h12 (by omega) (by omega) (by omega) (by omega) (by omega) (by omega) (by omega) (by omega)).trans (extA_I (by omega))
  have e13 : ∀ i, mI (yBd tm n y yl V Sd (extA A mm kk y) r).1 13 i = mI A 13 i := fun i => (yBd_I h12 (by omega) (by omega) (by omega) (by omega) (by omega) (by omega) (by omega) (by omega)).trans (extA_I (by omega))
  have e3 : ∀ i, mL (yBd tm n y yl V Sd (extA A mm kk y) r).1 3 i = mL A 3 i := fun i => yBd_L3
  generalize yBd tm n y yl V Sd (extA A mm kk y) r = B at *
  obtain ⟨B, rr⟩ := B
  simp only at *
  obtain rfl : R = rr := by omega
  refine ⟨c.pat, po, pp, fun i hi k hk => ?_⟩
  rw [patL_12, patL_I (by omega), show mL (patL B r R) = mL B from rfl]
  by_cases hr : i < r
  · rw [if_neg (by omega), e12, e13, e3, hpa i hr, hold i hr]
    refine (h.2.2.2 i hr k hk).same fs.2.1.1 (fun q hq h1 h2 => ?_)
    have := fun j => fs.2.2 q j h2 (fun z => by
      rcases z with (z | ⟨k', hk', rfl⟩) | z
      · omega
      · rw [(h.2.2.1.1 k' hk').2.1] at hq; exact absurd hq (by decide)
      · unfold PJ at z; omega)
    exact ⟨fs.1.k hq (by decide), funext fun j => (this j).1, funext fun j => (this j).2.1⟩
  · rw [if_pos (by omega)]
    obtain ⟨a1, a2⟩ := hnn i (by omega) hi
    rcases (show k = 0 ∨ k = 1 by omega) with rfl | rfl
    · exact Or.inl ⟨a1, rfl⟩
    · exact Or.inl ⟨a2, rfl⟩
theorem c_yearC (g : Gc) {lv n y p r : Nat} {A m : Mm} {pa : Nat → Nat} {o : Option Nat} {cs : List Cls} {yl : Int32} (S : Sg g m) (F : Fr g m) (C : LC g pa y r A m) (H : LoanI n y p r A) (h12 : n ≤ 12) (h30 : y < 30) (hr4 : r + n ≤ 400) (hh : HoldOK n r A) (hL : LwOK cs)
    (hO : ∀ m1, St (fun a j => PC g 2 pa r a j ∨ PJ g 2 a j) m m1 → (o = none → cs = []) ∧ ∀ la, o = some la → LawH la cs m1)
    {Q : Mm → Prop} (hQ : ∀ (X B D : Mm) (r1 r2 p1 : Nat) (pa2 : Nat → Nat) (m2 : Mm), X = extA A m (cI (gz g + 2) pa) y → yearA (mI m (gz g + 1)) cs n y yl X r = (B, r1) → LoanI n y p1 r1 (patL B r r1) → (1 ≤ p1 ∧ p1 ≤ 10000) → duesA (patL B r r1) r1 y r1 = (D, r2) → LC g pa2 30 r2 (sI D 0 1 (nI (y + 1))) m2 → Fs g (fun a j => PC g 2 pa r a j ∨ PJ g 2 a j) (12 + 2 * r1) m m2 → Fr g m2 → Sg g m2 → (∀ i, i < r → pa2 i = pa i) → (∀ i, r ≤ i → i < r2 → gz g + mC m ≤ pa2 i) → mI m2 (gz g + 2) 9 = nI (y + 1) → Q m2) : CV g M_Land_passYear (lv + 7) [va_rf (some (gz g + 2)), .int yl, va_rf o] m Q := by
  have HX : LoanI n y p r (extA A m (cI (gz g + 2) pa) y) := H.same2 (fun c j hc => extA_I (by omega))
  have hhX : HoldOK n r (extA A m (cI (gz g + 2) pa) y) := fun i hi => by rw [extA_I (by omega)]; exact hh i hi
  refine c_passY g (lv := lv + 2) (Or.inl rfl) C.2.1 HX.2.2.2.2.1 h12 (Nat.le_refl 12) HX.2.2.2.2.2.1 h30 (Nat.le_refl _) (by omega) hr4 HX.2.2.2.1.1 hhX S F C.2.2.1 C.1.ext hL hO (fun pa1 R m1 K => ?_)
  have C1 := LC.year C h12 K
  obtain ⟨p1, hp1, H1⟩ := LoanI.yr (tm := mI m (gz g + 1)) (yl := yl) (V := yV (mI m (gz g + 1)) cs n y yl (extA A m (cI (gz g + 2) pa) y) r) (Sd := verS (yV (mI m (gz g + 1)) cs n y yl (extA A m (cI (gz g + 2) pa) y) r) (yF (mI m (gz g + 1)) n y yl (extA A m (cI (gz g + 2) pa) y) r 1)) HX h12 hr4
  have hQ1 := hQ (extA A m (cI (gz g + 2) pa) y) (yearA (mI m (gz g + 1)) cs n y yl (extA A m (cI (gz g + 2) pa) y) r).1 (duesA (patL (yearA (mI m (gz g + 1)) cs n y yl (extA A m (cI (gz g + 2) pa) y) r).1 r (yearA (mI m (gz g + 1)) cs n y yl (extA A m (cI (gz g + 2) pa) y) r).2) (yearA (mI m (gz g + 1)) cs n y yl (extA A m (cI (gz g + 2) pa) y) r).2 y (yearA (mI m (gz g + 1)) cs n y yl (extA A m (cI (gz g + 2) pa) y) r).2).1 (yearA (mI m (gz g + 1)) cs n y yl (extA A m (cI (gz g + 2) pa) y) r).2 (duesA (patL (yearA (mI m (gz g + 1)) cs n y yl (extA A m (cI (gz g + 2) pa) y) r).1 r (yearA (mI m (gz g + 1)) cs n y yl (extA A m (cI (gz g + 2) pa) y) r).2) (yearA (mI m (gz g + 1)) cs n y yl (extA A m (cI (gz g + 2) pa) y) r).2 y (yearA (mI m (gz g + 1)) cs n y yl (extA A m (cI (gz g + 2) pa) y) r).2).2 p1
  clear hQ
  have hQ2 := fun pa2 m2 => hQ1 pa2 m2 rfl rfl H1 hp1 rfl
  clear hQ1
  have C1' : LC g pa1 30 (yearA (mI m (gz g + 1)) cs n y yl (extA A m (cI (gz g + 2) pa) y) r).2 (patL (yearA (mI m (gz g + 1)) cs n y yl (extA A m (cI (gz g + 2) pa) y) r).1 r (yearA (mI m (gz g + 1)) cs n y yl (extA A m (cI (gz g + 2) pa) y) r).2) m1 := C1
  have H1' : LoanI n y p1 (yearA (mI m (gz g + 1)) cs n y yl (extA A m (cI (gz g + 2) pa) y) r).2 (patL (yearA (mI m (gz g + 1)) cs n y yl (extA A m (cI (gz g + 2) pa) y) r).1 r (yearA (mI m (gz g + 1)) cs n y yl (extA A m (cI (gz g + 2) pa) y) r).2) := H1
  clear C1 H1
  generalize yearA (mI m (gz g + 1)) cs n y yl (extA A m (cI (gz g + 2) pa) y) r = BB at *
  obtain ⟨B, r1⟩ := BB
  simp only at *
  obtain ⟨-, po, pp, ⟨q1, q2, q3, q4, q5⟩, S1, F1, fs1, hpa, hnew, -, -⟩ := K
  refine c_settleLoans g (lv := lv) S1 F1 C1' H1' h12 hp1.1 hp1.2 (fun pa2 m2 GR => ?_)
  obtain ⟨C2, S2, F2, fs2, e2, n2, r12⟩ := GR
  have H2 := (duesA_I H1' r1 (Nat.le_refl _)).1
  intro m3 e3
  have y2 : mI m2 (gz g + 2) 9 = nI y := C2.yr.trans H2.2.2.2.2.2.1
  rw [y2, nI_s] at e3
  have s3 : ∀ P : Nat → Nat → Prop, P (gz g + 2) 9 → St P m2 m3 := fun P hP => by rw [e3]; exact St_sI m2 hP _
  have hC3 : LandC g 2 pa2 12 30 (duesA (patL B r r1) r1 y r1).2 (sI (duesA (patL B r r1) r1 y r1).1 0 1 (nI (y + 1))) m3 := by
    have := (C2.1.p0 (by omega) (by omega) C2.2.1 (nI (y + 1))).1
    rw [← e3] at this
    exact this
  have C3 := C2.st (s3 _ (Or.inl (by omega))) hC3 (by funext j; rw [mI_sI, up2_oth (by omega)]) (by funext j; rw [mI_sI, up2_oth (by omega)]) rfl
  have s3' := s3 (fun a j => PC g 2 pa r a j ∨ PJ g 2 a j) (Or.inl (Or.inl (by omega)))
  refine hQ2 pa2 m3 C3 ?_ (s3'.fr F2) (s3'.sg S2) (fun i hi => ?_) (fun i h1 h2 => ?_) (by rw [e3, mI_sI, up2_at])
  · refine ((fs1.trans fs2 (fun a j ha z => ?_)).trans s3'.fs (fun a j _ z => z)).weak (fun _ _ _ z => z) (by omega)
    rcases z with z | ⟨i, hi, rfl⟩
    · exact Or.inl (Or.inl z)
    · by_cases hir : i < r
      · exact Or.inl (Or.inr ⟨i, hir, hpa i hir⟩)
      · have := hnew i (by omega) (by omega)
        omega
  · rw [e2 i (by omega)]; exact hpa i hi
  · by_cases hi1 : i < r1
    · rw [e2 i hi1]; exact hnew i h1 (by omega)
    · have := n2 i (by omega) h2
      have := fs1.2.1.1
      omega
