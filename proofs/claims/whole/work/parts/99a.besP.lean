/-! ===== beside: the years as numbers ===== -/
def BP (n k : Nat) (tl : Nat → Int32) (A : Mm) (r : Nat) : Prop := mI A 0 0 = nI n ∧ mI A 0 1 = nI k ∧ (∃ p : Nat, 1 ≤ p ∧ p ≤ 10000 ∧ mI A 0 2 = nI p) ∧ mI A 0 3 = nI r ∧ r ≤ 12 * k ∧ HoldG n r A ∧ F30 r A ∧ (∃ v u : Nat → Nat, frN n A v ∧ skN r A u ∧ sumN v n + sumN u r ≤ 6000000 * k) ∧ BeOK n A ∧ (∀ j, j < n → ∃ w : Nat, w < 8 ∧ mI A 1 j = nI w) ∧ ∀ i j, i < 30 → j < n → mI A 16 (12 * i + j) = tl (12 * i + j)
def TlOK (n : Nat) (tl : Nat → Int32) : Prop := ∀ i j, i < 30 → j < n → tl (12 * i + j) = -1 ∨ ∃ s : Nat, s ≤ 500000 ∧ tl (12 * i + j) = nI s
def besA (tm : Nat → Int32) (cs : List Cls) (n : Nat) (yl : Nat → Int32) (A0 : Mm) : Nat → Mm × Nat
  | 0 => (A0, 0)
  | k + 1 => (sI (yearA tm cs n k (yl k) (besA tm cs n yl A0 k).1 (besA tm cs n yl A0 k).2).1 0 1 (nI (k + 1)), (yearA tm cs n k (yl k) (besA tm cs n yl A0 k).1 (besA tm cs n yl A0 k).2).2)
theorem HoldG.ok {n r : Nat} {A : Mm} (h : HoldG n r A) : HoldOK n r A := fun i hi => by
  obtain ⟨x, a, b⟩ := h i hi
  exact ⟨x, a, Or.inl b⟩
theorem BP.num {n k q : Nat} {tl : Nat → Int32} {A : Mm} {r : Nat} (B : BP n k tl A r) (h12 : n ≤ 12) (h30 : k < 30) (hq : q ≤ 100) (ht : TlOK n tl) : ∃ v u c : Nat → Nat, frN n A v ∧ skN r A u ∧ (∀ j, j < n → cropV A k (nI q) j = nI (c j)) ∧ sumN v n + sumN c n + sumN u r < 2 ^ 31 ∧ sumN v n + sumN c n + sumN u r ≤ 6000000 * (k + 1) := by
  obtain ⟨-, -, -, -, -, -, -, ⟨v, u, hv, hu, hs⟩, hb, -, h16⟩ := B
  obtain ⟨c, hc⟩ := crop_nat (y := k) hb (fun j hj => by rw [h16 k j h30 hj]; exact ht k j h30 hj) hq
  have sc := sumN_max (u := c) (x := 500000) n (fun j hj => (hc j hj).1)
  have sc2 : sumN c n ≤ 6000000 := by
    have := Nat.mul_le_mul_left 500000 h12
    omega
  have ty : 6000000 * k ≤ 6000000 * 29 := Nat.mul_le_mul_left _ (by omega)
  exact ⟨v, u, c, hv, hu, fun j hj => (hc j hj).2, by omega, by omega⟩
theorem BP.step {g : Gc} {n k q : Nat} {tl : Nat → Int32} {A m : Mm} {r : Nat} {cs : List Cls} (B : BP n k tl A r) (h12 : n ≤ 12) (h30 : k < 30) (hq : q ≤ 100) (ht : TlOK n tl) (T : TermsOK g m) : BP n (k + 1) tl (sI (yearA (mI m (gz g + 1)) cs n k (nI q) A r).1 0 1 (nI (k + 1))) (yearA (mI m (gz g + 1)) cs n k (nI q) A r).2 := by
  obtain ⟨v, u, c, hv, hu, hc, tot, tot2⟩ := B.num h12 h30 hq ht
  obtain ⟨b1, b2, ⟨p, hp1, hp2, b3⟩, b4, b5, b6, b7, -, b8, b9, b10⟩ := B
  obtain ⟨te, b, s, pp', q', h, pl, d, hb2, hs2, hp2', hq2, hh1, hh2, hpl, hd2, e0, e1, e2, e3, e4, e5, e6⟩ := T
  obtain ⟨f1, -⟩ := yF_1 (tm := mI m (gz g + 1)) (n := n) (y := k) (yl := nI q) hu b7
  obtain ⟨s0, hs0, hsv⟩ := verS_nat (V := yV (mI m (gz g + 1)) cs n k (nI q) A r) (T := sumN u r) (by omega)
  have ey : yearA (mI m (gz g + 1)) cs n k (nI q) A r = yBd (mI m (gz g + 1)) n k (nI q) (yV (mI m (gz g + 1)) cs n k (nI q) A r) (lN s0) A r := by
    unfold yearA
    rw [f1, hsv]
  rw [ey]
  generalize yV (mI m (gz g + 1)) cs n k (nI q) A r = V
  obtain ⟨v1, u1, k1, k2, k3⟩ := yBd_nat (tm := mI m (gz g + 1)) (V := V) (s0 := s0) (r := r) h12 hv hu hc tot (by omega) e0 hb2 e1 hs2 e3 hq2 e6 hd2 b3 hp2
  obtain ⟨p1, q1, q2, q3⟩ := yBd_price (tm := mI m (gz g + 1)) (n := n) (y := k) (r := r) (yl := nI q) (V := V) (Sd := lN s0) (A := A)
  have z2 := yBd_2 (tm := mI m (gz g + 1)) (n := n) (y := k) (r := r) (yl := nI q) (V := V) (Sd := lN s0) (A := A)
  have z3 := yBd_3 (tm := mI m (gz g + 1)) (y := k) (yl := nI q) (V := V) (Sd := lN s0) h12 b4
  have hg := yBd_holdG (tm := mI m (gz g + 1)) (y := k) (yl := nI q) (V := V) (Sd := lN s0) h12 b6
  have hf := yBd_30 (tm := mI m (gz g + 1)) (y := k) (yl := nI q) (V := V) (Sd := lN s0) h12 b7 h30
  have be := yBd_be (tm := mI m (gz g + 1)) (y := k) (r := r) (yl := nI q) (V := V) (Sd := lN s0) h12 b8 e5 hpl
  have eI : ∀ cc i, cc = 1 ∨ cc = 16 ∨ (cc = 0 ∧ i = 0) → mI (yBd (mI m (gz g + 1)) n k (nI q) V (lN s0) A r).1 cc i = mI A cc i := fun cc i hc => yBd_I h12 (by omega) (by omega) (by omega) (by omega) (by omega) (by omega) (by omega) (by omega)
  generalize yBd (mI m (gz g + 1)) n k (nI q) V (lN s0) A r = BB at *
  obtain ⟨B1, r1⟩ := BB
  simp only at *
  have eS : ∀ cc i, ¬ (cc = 0 ∧ i = 1) → mI (sI B1 0 1 (nI (k + 1))) cc i = mI B1 cc i := fun cc i h => by rw [mI_sI, up2_not h]
  refine ⟨?_, ?_, ⟨p1, q1, q2, ?_⟩, ?_, by omega, fun i hi => ?_, fun i hi => ?_, ⟨v1, u1, fun j hj => ?_, fun j hj => ?_, by omega⟩, fun j hj => ?_, fun j hj => ?_, fun i j hi hj => ?_⟩
  · rw [eS 0 0 (by omega), eI 0 0 (by omega)]; exact b1
  · rw [mI_sI, up2_at]
  · rw [eS 0 2 (by omega)]; exact q3
  · rw [eS 0 3 (by omega)]; exact z3
  · rw [eS 9 i (by omega)]; exact hg i hi
  · rw [eS 11 i (by omega)]; exact hf i hi
  · rw [eS 7 j (by omega)]; exact k1 j hj
  · rw [eS 10 j (by omega)]; exact k2 j hj
  · rw [eS 3 j (by omega), eS 4 j (by omega), eS 5 j (by omega), eS 6 j (by omega)]; exact be j hj
  · rw [eS 1 j (by omega), eI 1 j (by omega)]; exact b9 j hj
  · rw [eS 16 _ (by omega), eI 16 _ (by omega)]; exact b10 i j hi hj
theorem besA_P {g : Gc} {n y : Nat} {tl : Nat → Int32} {A0 m : Mm} {yl : Nat → Int32} {cs : List Cls} (B0 : BP n 0 tl A0 0) (h12 : n ≤ 12) (h30 : y ≤ 30) (hyl : ∀ k, k < y → ∃ q : Nat, q ≤ 100 ∧ yl k = nI q) (ht : TlOK n tl) (T : TermsOK g m) : ∀ k, k ≤ y → BP n k tl (besA (mI m (gz g + 1)) cs n yl A0 k).1 (besA (mI m (gz g + 1)) cs n yl A0 k).2
  | 0, _ => B0
  | k + 1, hk => by
    have ih := besA_P (cs := cs) B0 h12 h30 hyl ht T k (by omega)
    obtain ⟨q, hq, e⟩ := hyl k (by omega)
    show BP n (k + 1) tl (sI (yearA _ cs n k (yl k) _ _).1 0 1 (nI (k + 1))) (yearA _ cs n k (yl k) _ _).2
    rw [e]
    exact ih.step h12 (by omega) hq ht T
theorem LawD.h {g : Gc} {cs : List Cls} {m : Mm} (D : LawD g cs m) (S : Sg g m) (hL : LwOK cs) : LawH (gz g + 133) cs m := by
  obtain ⟨a, ⟨b1, b2⟩, c⟩ := D
  obtain ⟨h12, h300, -⟩ := hL
  refine ⟨gz g + 134, gz g + 135, gz g + 136, gz g + 137, gz g + 138, ⟨S.k 133 rfl, a⟩, ⟨S.r 133 0 rfl, S.r 133 1 rfl, S.r 133 2 rfl, S.r 133 3 rfl⟩, ⟨S.k 134 rfl, S.k 135 rfl, S.k 136 rfl, S.k 137 rfl⟩, ⟨by rw [S.n 134 rfl]; exact h12, by rw [S.n 135 rfl]; exact h12, by rw [S.n 136 rfl]; exact h12, by rw [S.n 137 rfl]; exact h12⟩, c, ⟨S.k 133 rfl, S.r 133 4 rfl, S.k 138 rfl, by rw [S.n 138 rfl]; exact h300⟩, fun k hk => ?_⟩
  rw [Nat.zero_add]
  exact b2 k hk
theorem LawD.off {g : Gc} {cs : List Cls} {m m' : Mm} (D : LawD g cs m) (h : ∀ a j, gz g + 133 ≤ a → a ≤ gz g + 138 → mI m' a j = mI m a j) : LawD g cs m' := by
  obtain ⟨a, ⟨b1, b2⟩, c⟩ := D
  refine ⟨(h _ _ (by omega) (by omega)).trans a, ⟨(h _ _ (by omega) (by omega)).trans b1, fun k hk => (h _ _ (by omega) (by omega)).trans (b2 k hk)⟩, fun k cc hc => ?_⟩
  obtain ⟨x1, x2, x3, x4⟩ := c k cc hc
  exact ⟨(h _ _ (by omega) (by omega)).trans x1, (h _ _ (by omega) (by omega)).trans x2, (h _ _ (by omega) (by omega)).trans x3, (h _ _ (by omega) (by omega)).trans x4⟩
