/-! ===== what holds of the main land between calls, as numbers; a year keeps it ===== -/
def ToldOK (n y : Nat) (A : Mm) : Prop := ∀ k j, k < 30 → j < n → (mI A 16 (12 * k + j) = -1 ∨ ∃ s : Nat, s ≤ 500000 ∧ mI A 16 (12 * k + j) = nI s) ∧ (y < k → mI A 16 (12 * k + j) = -1)
def BkOK (A : Mm) : Prop := ∀ b, b < 3 → ∃ q s : Nat, q ≤ 100 ∧ s ≤ 100 ∧ mI A 21 b = nI q ∧ mI A 22 b = nI s
def GrK (n y : Nat) (A : Mm) : Prop := (∀ j, j < n → ∃ w : Nat, w < 8 ∧ mI A 1 j = nI w) ∧ (∀ j, j < n → ∃ a : Nat, a ≤ 1000 ∧ mI A 2 j = nI a) ∧ BeOK n A ∧ ToldOK n y A ∧ ∀ k, k < y → ∃ q : Nat, q ≤ 100 ∧ mI A 19 k = nI q
def Good (n y p r : Nat) (A : Mm) : Prop := LoanI n y p r A ∧ (n ≤ 12 ∧ y ≤ 30 ∧ 1 ≤ p ∧ p ≤ 10000) ∧ (∃ (v : Nat → Nat) (tot : Nat), frN n A v ∧ sumN v n + tot ≤ 6000000 * y ∧ Pp n r tot A) ∧ GrK n y A ∧ BkOK A ∧ (mI A 0 5 = if y = 0 then 0 else mI A 20 (y - 1)) ∧ (y = 0 → Blank n A)
theorem crop_nat {n y q : Nat} {A : Mm} (hb : BeOK n A) (ht : ∀ j, j < n → mI A 16 (12 * y + j) = -1 ∨ ∃ s : Nat, s ≤ 500000 ∧ mI A 16 (12 * y + j) = nI s) (hq : q ≤ 100) : ∃ c : Nat → Nat, ∀ k, k < n → c k ≤ 500000 ∧ cropV A y (nI q) k = nI (c k) := by
  refine ⟨fun k => (cropV A y (nI q) k).toNatClampNeg, fun k hk => ?_⟩
  have key : ∃ j : Nat, j ≤ 500000 ∧ cropV A y (nI q) k = nI j := by
    unfold cropV
    rcases ht k hk with e | ⟨s, hs, e⟩
    · rw [if_pos e]
      obtain ⟨b, a0, a1, a2, e3, -, -, -, hs⟩ := hb k hk
      rw [e3, pk_mul]
      exact ⟨b * q, by have := Nat.mul_le_mul (show b ≤ 5000 by omega) hq; omega, rfl⟩
    · rw [e, if_neg (nI_ne_m1 (by omega))]
      exact ⟨s, hs, rfl⟩
  obtain ⟨j, hj, e⟩ := key
  simp only [e, nI_clamp (show j < 2 ^ 31 by omega)]
  exact ⟨hj, trivial⟩
theorem Good.year {g : Gc} {n y p r q r1 r2 : Nat} {A B D mm m : Mm} {kk : Nat → Nat → Nat × Nat} {cs : List Cls} (G : Good n y p r A) (h30 : y < 30) (h4 : r + n ≤ 400) (hq : q ≤ 100) (T : TermsOK g m) (hY : yearA (mI m (gz g + 1)) cs n y (nI q) (extA A mm kk y) r = (B, r1)) (hD : duesA (patL B r r1) r1 y r1 = (D, r2)) : ∃ p2, Good n (y + 1) p2 r2 (sI D 0 1 (nI (y + 1))) ∧ r2 ≤ 400 ∧ FrZ (patL B r r1) D := by
  obtain ⟨H, ⟨h12, -, hp1, hp2⟩, ⟨v, tot, hv, hsum, hh, ⟨u, hu, hut⟩, hf, how⟩, ⟨gv, ga, gb, gt, gy⟩, hbk, -, -⟩ := G
  obtain ⟨te, b, s, pp', q', h, pl, d, hb2, hs2, hp2', hq2, hh1, hh2, hpl, hd2, e0, e1, e2, e3, e4, e5, e6⟩ := T
  have eX : ∀ c i, c ≤ 16 → mI (extA A mm kk y) c i = mI A c i := fun c i hc => extA_I (by omega)
  have HX : LoanI n y p r (extA A mm kk y) := H.same2 (fun c j hc => eX c j (by omega))
  have hvX : frN n (extA A mm kk y) v := fun j hj => by rw [eX 7 j (by omega)]; exact hv j hj
  have huX : skN r (extA A mm kk y) u := fun j hj => by rw [eX 10 j (by omega)]; exact hu j hj
  have hfX : F30 r (extA A mm kk y) := fun j hj => by rw [eX 11 j (by omega)]; exact hf j hj
  have hhX : HoldOK n r (extA A mm kk y) := fun j hj => by rw [eX 9 j (by omega)]; exact hh j hj
  have gbX : BeOK n (extA A mm kk y) := fun j hj => by
    obtain ⟨b, a0, a1, a2, hh⟩ := gb j hj
    exact ⟨b, a0, a1, a2, by rw [eX 3 j (by omega), eX 4 j (by omega), eX 5 j (by omega), eX 6 j (by omega)]; exact hh⟩
  obtain ⟨c, hc⟩ := crop_nat (y := y) gbX (fun j hj => by rw [eX 16 _ (by omega)]; exact (gt y j h30 hj).1) hq
  have sc := sumN_max (u := c) (x := 500000) n (fun j hj => (hc j hj).1)
  have sc2 : sumN c n ≤ 6000000 := by
    have := Nat.mul_le_mul_left 500000 h12
    omega
  have ty : 6000000 * y ≤ 6000000 * 29 := Nat.mul_le_mul_left _ (by omega)
  have hut2 : sumN v n + sumN c n + sumN u r < 2 ^ 31 := by omega
  obtain ⟨f1, -⟩ := yF_1 (tm := mI m (gz g + 1)) (n := n) (y := y) (yl := nI q) huX hfX
  obtain ⟨s0, hs0, hsv⟩ := verS_nat (V := yV (mI m (gz g + 1)) cs n y (nI q) (extA A mm kk y) r) (T := sumN u r) (by omega)
  have ey : yearA (mI m (gz g + 1)) cs n y (nI q) (extA A mm kk y) r = yBd (mI m (gz g + 1)) n y (nI q) (yV (mI m (gz g + 1)) cs n y (nI q) (extA A mm kk y) r) (lN s0) (extA A mm kk y) r := by
    unfold yearA
    rw [f1, hsv]
  rw [ey] at hY
  generalize hVe : yV (mI m (gz g + 1)) cs n y (nI q) (extA A mm kk y) r = V at hY
  obtain ⟨v1, u1, k1, k2, k3⟩ := yBd_nat (tm := mI m (gz g + 1)) (V := V) (s0 := s0) (r := r) h12 hvX huX (fun k hk => (hc k hk).2) hut2 (by omega) e0 hb2 e1 hs2 e3 hq2 e6 hd2 HX.2.2.2.2.2.2 hp2
  obtain ⟨p1, hp, H1⟩ := LoanI.yr (tm := mI m (gz g + 1)) (yl := nI q) (V := V) (Sd := lN s0) HX h12 h4
  have z2 := yBd_2 (tm := mI m (gz g + 1)) (n := n) (y := y) (r := r) (yl := nI q) (V := V) (Sd := lN s0) (A := extA A mm kk y)
  have hh1' := yBd_hold (tm := mI m (gz g + 1)) (y := y) (yl := nI q) (V := V) (Sd := lN s0) h12 hhX
  have hf1 := yBd_30 (tm := mI m (gz g + 1)) (y := y) (yl := nI q) (V := V) (Sd := lN s0) h12 hfX h30
  have be1 := yBd_be (tm := mI m (gz g + 1)) (y := y) (r := r) (yl := nI q) (V := V) (Sd := lN s0) h12 gbX e5 hpl
  obtain ⟨x19, x20, x5⟩ := yBd_19 (tm := mI m (gz g + 1)) (n := n) (y := y) (r := r) (yl := nI q) (V := V) (Sd := lN s0) (A := extA A mm kk y)
  have eB : ∀ c i, c = 1 ∨ c = 2 ∨ c = 12 ∨ c = 16 ∨ c = 21 ∨ c = 22 → mI (yBd (mI m (gz g + 1)) n y (nI q) V (lN s0) (extA A mm kk y) r).1 c i = mI A c i := fun c i hc => (yBd_I h12 (by omega) (by omega) (by omega) (by omega) (by omega) (by omega) (by omega) (by omega)).trans (extA_I (by omega))
  have e19 : ∀ i, i < y → mI (yBd (mI m (gz g + 1)) n y (nI q) V (lN s0) (extA A mm kk y) r).1 19 i = mI A 19 i := fun i hi => (yBd_I h12 (by omega) (by omega) (by omega) (by omega) (by omega) (by omega) (by omega) (by omega)).trans (extA_I (by omega))
  have eL : ∀ i, mL (yBd (mI m (gz g + 1)) n y (nI q) V (lN s0) (extA A mm kk y) r).1 3 i = mL A 3 i := fun i => yBd_L3
  rw [hY] at k1 k2 k3 H1 z2 hh1' hf1 be1 x19 x20 x5 eB e19 eL
  simp only at k1 k2 k3 H1 z2 hh1' hf1 be1 x19 x20 x5 eB e19 eL
  clear hY ey hVe
  have P1 : Pp n r1 (sumN u1 r1) (patL B r r1) := by
    refine ⟨fun i hi => by rw [patL_I (by omega)]; exact hh1' i hi, ⟨u1, fun i hi => by rw [patL_I (by omega)]; exact k2 i hi, Nat.le_refl _⟩, fun i hi => by rw [patL_I (by omega)]; exact hf1 i hi, fun i k hi hk hn => ?_⟩
    rw [patL_12] at hn
    by_cases hr : i < r
    · rw [if_neg (by omega), eB 12 _ (by omega)] at hn
      obtain ⟨w, w1, w2⟩ := how i k hr hk hn
      exact ⟨w, w1, (eL _).trans w2⟩
    · rw [if_pos (by omega)] at hn; exact absurd rfl hn
  obtain ⟨P2, Z2⟩ := duesA_P H1 P1 h12 hp.1 hp.2 r1 (Nat.le_refl _)
  have H2 := (duesA_I H1 r1 (Nat.le_refl _)).1
  rw [hD] at P2 Z2 H2
  simp only at P2 Z2 H2
  have D4 := H2.2.2.2.1.2
  have eD : ∀ c i, ¬ (9 ≤ c ∧ c ≤ 13) → ¬ (c = 0 ∧ (i = 1 ∨ i = 3 ∨ i = 6)) → mI (sI D 0 1 (nI (y + 1))) c i = mI B c i := fun c i h1 h2 => by
    rw [mI_sI, up2_not (by omega), Z2 c i h1 (by omega), patL_I (by omega)]
  have eS : ∀ c i, c ≠ 0 → mI (sI D 0 1 (nI (y + 1))) c i = mI D c i := fun c i h1 => by rw [mI_sI, up2_oth h1]
  refine ⟨p1, ⟨?_, ⟨h12, by omega, hp.1, hp.2⟩, ⟨v1, sumN u1 r1, fun j hj => ?_, ?_, ?_⟩, ⟨fun j hj => ?_, fun j hj => ?_, fun j hj => ?_, fun k j hk hj => ?_, fun k hk => ?_⟩, fun b hb => ?_, ?_, fun q => absurd q (by omega)⟩, D4, Z2⟩
  · obtain ⟨a1, a2, a3, a4, a5, a6, a7⟩ := H2
    refine ⟨fun i hi => ?_, fun i k hi hk => ?_, fun i hi => ?_, ⟨?_, a4.2⟩, ?_, ?_, ?_⟩
    · rw [eS 12 _ (by omega), eS 12 _ (by omega)]; exact a1 i hi
    · rw [eS 12 _ (by omega)]; exact a2 i k hi hk
    · rw [eS 12 _ (by omega), eS 9 _ (by omega)]; exact a3 i hi
    · rw [mI_sI, up2_sl (by omega)]; exact a4.1
    · rw [mI_sI, up2_sl (by omega)]; exact a5
    · rw [mI_sI, up2_at]
    · rw [mI_sI, up2_sl (by omega)]; exact a7
  · rw [eD 7 j (by omega) (by omega)]; exact k1 j hj
  · omega
  · obtain ⟨a1, ⟨u2, a2, a3⟩, a4, a5⟩ := P2
    refine ⟨fun i hi => ?_, ⟨u2, fun i hi => ?_, a3⟩, fun i hi => ?_, fun i k hi hk hn => ?_⟩
    · rw [eS 9 _ (by omega)]; exact a1 i hi
    · rw [eS 10 _ (by omega)]; exact a2 i hi
    · rw [eS 11 _ (by omega)]; exact a4 i hi
    · rw [eS 12 _ (by omega)] at hn; exact a5 i k hi hk hn
  · rw [eD 1 j (by omega) (by omega), eB 1 j (by omega)]; exact gv j hj
  · rw [eD 2 j (by omega) (by omega), eB 2 j (by omega)]; exact ga j hj
  · rw [eD 3 j (by omega) (by omega), eD 4 j (by omega) (by omega), eD 5 j (by omega) (by omega), eD 6 j (by omega) (by omega)]; exact be1 j hj
  · rw [eD 16 _ (by omega) (by omega), eB 16 _ (by omega)]
    exact ⟨(gt k j hk hj).1, fun h => (gt k j hk hj).2 (by omega)⟩
  · rw [eD 19 _ (by omega) (by omega)]
    by_cases hky : k = y
    · subst hky; exact ⟨q, hq, x19⟩
    · rw [e19 k (by omega)]; exact gy k (by omega)
  · rw [eD 21 _ (by omega) (by omega), eD 22 _ (by omega) (by omega), eB 21 _ (by omega), eB 22 _ (by omega)]; exact hbk b hb
  · rw [eD 0 5 (by omega) (by omega), eD 20 _ (by omega) (by omega), if_neg (by omega), show y + 1 - 1 = y by omega, x5, x20]
