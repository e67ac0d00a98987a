/-! ===== beside: the reference's years, and its start ===== -/
theorem l_bes136 (g : Gc) {lv n y : Nat} {A0 Am m0 : Mm} {x : Int32} {cs : List Cls} (S0 : Sg g m0) (T : TermsOK g m0) (TX : TxtOf g 30 cs m0) (B0 : BP n 0 (mI Am 16) A0 0) (h12 : n ≤ 12) (h30 : y ≤ 30) (ht : TlOK n (mI Am 16)) (hyl : ∀ k, k < y → ∃ q : Nat, q ≤ 100 ∧ mI Am 19 k = nI q) (WR : WasR g n y Am m0) (hY : ∀ k, k < y → mI m0 (gz g + 160) k = mI Am 19 k) (h66 : mI m0 (gz g + 166) 0 = nI y) {Q : Int64 → Mm → Prop} (hQ : ∀ m, LandQ g 1 n y (besA (mI m0 (gz g + 1)) cs n (mI Am 19) A0 y).2 (besA (mI m0 (gz g + 1)) cs n (mI Am 19) A0 y).1 m → St (PBw g) m0 m → Q (besV (besA (mI m0 (gz g + 1)) cs n (mI Am 19) A0 y).1 n (besA (mI m0 (gz g + 1)) cs n (mI Am 19) A0 y).2 x) m) : ∀ (d k : Nat) (m : Mm), k + d = y → St (PBw g) m0 m → LandQ g 1 n k (besA (mI m0 (gz g + 1)) cs n (mI Am 19) A0 k).2 (besA (mI m0 (gz g + 1)) cs n (mI Am 19) A0 k).1 m → At g M_RF_beside (lv + 37) 136 [(0, va_rf (some (gz g + 145))), (1, .int x)] [] m (QJ Q) := by
  intro d
  induction d with
  | zero =>
    intro k m hk s R
    obtain rfl : k = y := by omega
    exact l_besE g (lv := lv + 35) (tl := mI Am 16) (s.sg S0) R (besA_P B0 h12 h30 hyl ht T k (Nat.le_refl _)) h12 h30 ((s.2 _ _ (by unfold PBw PQ PRs; omega)).1.trans h66) (hQ m R s)
  | succ d ih =>
    intro k m hk s R
    have c1 : (1 : Int32).toNatClampNeg = 1 := rfl
    have c0 : (0 : Int32).toNatClampNeg = 0 := rfl
    have BP1 := besA_P (cs := cs) B0 h12 h30 hyl ht T k (by omega)
    have ih1 := ih (k + 1)
    have ev : besA (mI m0 (gz g + 1)) cs n (mI Am 19) A0 (k + 1) = (sI (yearA (mI m0 (gz g + 1)) cs n k (mI Am 19 k) (besA (mI m0 (gz g + 1)) cs n (mI Am 19) A0 k).1 (besA (mI m0 (gz g + 1)) cs n (mI Am 19) A0 k).2).1 0 1 (nI (k + 1)), (yearA (mI m0 (gz g + 1)) cs n k (mI Am 19 k) (besA (mI m0 (gz g + 1)) cs n (mI Am 19) A0 k).1 (besA (mI m0 (gz g + 1)) cs n (mI Am 19) A0 k).2).2) := rfl
    rw [ev] at ih1
    clear ev
    generalize (besA (mI m0 (gz g + 1)) cs n (mI Am 19) A0 k).1 = A at R BP1 ih1
    generalize (besA (mI m0 (gz g + 1)) cs n (mI Am 19) A0 k).2 = r at R BP1 ih1
    obtain ⟨q, hq, eq⟩ := hyl k (by omega)
    obtain ⟨v, u, c, hv, hu, hc, tot, -⟩ := BP1.num h12 (by omega) hq ht
    obtain ⟨b1, b2, ⟨p, hp1, hp2, b3⟩, b4, b5, b6, b7, -, b8, b9, b10⟩ := BP1
    have S := s.sg S0
    have x0 : ∀ a j, ¬ PBw g a j → mI m a j = mI m0 a j ∧ mL m a j = mL m0 a j := fun a j h => s.2 a j h
    have v2 : ∀ (mm : Mm) (i : Nat), Sg g mm → i < 2 → vp_in (nI i) (mN mm (gz g + 166)) := fun mm i S hi => by rw [S.n 166 rfl]; exact vp_in_nI (N := 2) hi (by omega)
    refine bk_RF_beside_136 g ⟨S.k 145 rfl, gz g + 166, S.r 145 31 rfl, S.k 166 rfl, v2 m 1 S (by omega), v2 m 0 S (by omega), ?_⟩
    rw [c0, c1, (x0 _ _ (by unfold PBw PQ PRs; omega)).1, h66, R.sc.1, b2, if_neg (nI_ge (by omega) (by omega))]
    refine l_bes153 g (lv := lv + 36) (A := A) (yk := mI Am 19 k) S (R.n.trans b1) h12 (by omega) (R.sc.1.trans b2) (fun j hj => ?_) (fun j hj => (R.gr (j := j) hj).2.1) ((x0 _ _ (by unfold PBw PQ PRs; omega)).1.trans (hY k (by omega))) (fun m1 s1 hc1 => ?_) n 0 m (by omega) (St.refl _ _) (fun j hj => absurd hj (by omega))
    · rw [b10 k j (by omega) hj, (x0 _ _ (by unfold PBw PQ PRs; omega)).1, (x0 _ _ (by unfold PBw PQ PRs; omega)).1]
      exact WR k j (by omega) hj
    have S1 := s1.sg S
    have x1 : ∀ a j, a ≠ gz g + 164 → mI m1 a j = mI m a j ∧ mL m1 a j = mL m a j := fun a j h => s1.2 a j h
    have s01 : St (PBw g) m0 m1 := s.trans (s1.weak (fun a j z => Or.inr (Or.inr z)))
    have x01 : ∀ a j, ¬ PBw g a j → mI m1 a j = mI m0 a j := fun a j h => (s01.2 a j h).1
    have R1 : LandQ g 1 n k r A m1 := R.off h12 (by omega) (fun d j hd => (x1 _ _ (by unfold RdI at hd; omega)).1) (fun d j hd => (x1 _ _ (by unfold RdJ at hd; omega)).2)
    refine bk_RF_beside_153 g ⟨S1.k 145 rfl, ?_⟩
    rw [R1.n, b1, if_pos (nI_le (Nat.le_refl _) (by omega))]
    refine ⟨gz g + 164, S1.r 145 29 rfl, ?_⟩
    have t1 : mI m1 (gz g + 1) = mI m0 (gz g + 1) := funext fun j => x01 _ _ (by unfold PBw PQ PRs; omega)
    have T1 : TermsOK g m1 := T.same t1 (fun j hj => x01 _ _ (by unfold PBw PQ PRs; omega))
    have TX1 : TxtOf g 30 cs m1 := TX.st s01 (by unfold PBw PQ PRs; omega) (fun j => by unfold PBw PQ PRs; omega)
    rw [eq] at hc1 ih1
    refine c_passesY g (lv := lv) (l := 1) (N := n) (e := 164) (co := 0) (t := 30) (A := A) (yl := nI q) (cs := cs) (by omega) h12 (Nat.le_refl _) b1 b2 (by omega) b4 (by omega) b6.ok (fun _ => b6) hv hu b7 hc tot (Or.inr ⟨rfl, rfl⟩) (fun j hj => by rw [Nat.zero_add]; exact hc1 j hj) T1 b3 hp2 b9 S1 R1 (by omega) TX1 (fun m2 R2 s2 _ => ?_)
    rw [t1] at R2
    have z1 : mI (yearA (mI m0 (gz g + 1)) cs n k (nI q) A r).1 0 1 = nI k := (yBd_I h12 (by omega) (by omega) (by omega) (by omega) (by omega) (by omega) (by omega) (by omega)).trans b2
    generalize yearA (mI m0 (gz g + 1)) cs n k (nI q) A r = BB at R2 z1 ih1
    obtain ⟨B, r1⟩ := BB
    simp only at R2 z1 ih1
    have S2 := s2.sg S1
    refine ⟨gz g + 166, S2.r 145 31 rfl, S2.k 166 rfl, v2 m2 1 S2 (by omega), v2 m2 1 S2 (by omega), fun m3 e3 => ?_⟩
    rw [c1, R2.sc.1, z1, nI_s] at e3
    have R3 := (R2.p0 (nI (k + 1))).1
    rw [← e3] at R3
    have s3 : St (PBw g) m2 m3 := by rw [e3]; exact St_sI m2 (Or.inl (by unfold PQ; omega)) _
    refine ih1 m3 (by omega) ((s01.trans (s2.weak (fun a j z => ?_))).trans s3) R3.y
    rcases z with (z | z) | z
    · exact Or.inl z
    · exact absurd z.1 (by omega)
    · exact Or.inr (Or.inl z)
def PBr (g : Gc) (a i : Nat) : Prop := ((a = gz g + 170 ∨ a = gz g + 172 ∨ a = gz g + 173) ∧ 12 ≤ i) ∨ (a = gz g + 171 ∧ 36 ≤ i) ∨ (a = gz g + 174 ∧ 15 ≤ i)
def BrF (g : Gc) (m0 : Mm) (q : Nat) (m : Mm) : Prop := mI m (gz g + 170) (12 + q) = mI m0 (gz g + 156) q ∧ (mI m (gz g + 171) (3 * (12 + q)) = 0 ∧ mI m (gz g + 171) (3 * (12 + q) + 1) = 0 ∧ mI m (gz g + 171) (3 * (12 + q) + 2) = 0) ∧ mI m (gz g + 172) (12 + q) = 0 ∧ mL m (gz g + 173) (12 + q) = 0 ∧ mL m (gz g + 174) (15 + q) = 0
theorem l_bes56 (g : Gc) {lv : Nat} {m0 : Mm} {x : Int32} (S0 : Sg g m0) {Q : Int64 → Mm → Prop} (hQ : ∀ m, St (PBr g) m0 m → (∀ q, q < 12 → BrF g m0 q m) → At g M_RF_beside (lv + 1) 136 [(0, va_rf (some (gz g + 145))), (1, .int x)] [] m (QJ Q)) : ∀ (d j : Nat) (m : Mm), j + d = 12 → St (PBr g) m0 m → (∀ q, q < j → BrF g m0 q m) → At g M_RF_beside (lv + 1) 56 [(0, va_rf (some (gz g + 145))), (1, .int x), (2, .int (nI j))] [] m (QJ Q) := by
  intro d
  induction d with
  | zero =>
    intro j m hj s G
    obtain rfl : j = 12 := by omega
    refine bk_RF_beside_56 g ?_
    rw [if_pos (by decide)]
    exact hQ m s G
  | succ d ih =>
    intro j m hj s G
    have S := s.sg S0
    have i12 : (12 : Int32) + nI j = nI (12 + j) := by rw [show (12 : Int32) = nI 12 from rfl, nI_add]
    have i15 : (15 : Int32) + nI j = nI (15 + j) := by rw [show (15 : Int32) = nI 15 from rfl, nI_add]
    have k0 : (3 : Int32) * nI (12 + j) + 0 = nI (3 * (12 + j)) := by rw [show (3 : Int32) = nI 3 from rfl, pk_mul, show (0 : Int32) = nI 0 from rfl, nI_add, Nat.add_zero]
    have k1 : (3 : Int32) * nI (12 + j) + (0 + 1) = nI (3 * (12 + j) + 1) := by rw [show (3 : Int32) = nI 3 from rfl, pk_mul, show (0 : Int32) + 1 = nI 1 from rfl, nI_add]
    have k2 : (3 : Int32) * nI (12 + j) + (0 + 1 + 1) = nI (3 * (12 + j) + 2) := by rw [show (3 : Int32) = nI 3 from rfl, pk_mul, show (0 : Int32) + 1 + 1 = nI 2 from rfl, nI_add]
    have c0 : (nI (3 * (12 + j))).toNatClampNeg = 3 * (12 + j) := nI_clamp (by omega)
    have c1 : (nI (3 * (12 + j) + 1)).toNatClampNeg = 3 * (12 + j) + 1 := nI_clamp (by omega)
    have c2 : (nI (3 * (12 + j) + 2)).toNatClampNeg = 3 * (12 + j) + 2 := nI_clamp (by omega)
    have v171 : ∀ (mm : Mm) (i : Nat), Sg g mm → i < 72 → vp_in (nI i) (mN mm (gz g + 171)) := fun mm i S hi => by rw [S.n 171 rfl]; exact vp_in_nI (N := 72) hi (by omega)
    refine bk_RF_beside_56 g ?_
    rw [if_neg (show ¬ (12 : Int32) ≤ nI j from nI_ge (b := 12) (by omega) (by omega)), i12, nI_clamp (show j < 2 ^ 31 by omega), nI_clamp (show 12 + j < 2 ^ 31 by omega)]
    refine ⟨S.k 145 rfl, gz g + 170, S.r 145 35 rfl, gz g + 156, S.r 145 21 rfl, S.k 156 rfl, by rw [S.n 156 rfl]; exact vp_in_nI (N := 12) (by omega) (by omega), S.k 170 rfl, by rw [S.n 170 rfl]; exact vp_in_nI (N := 24) (by omega) (by omega), fun m1 e1 => ?_⟩
    have s1 : St (PBr g) m m1 := by rw [e1]; exact St_sI m (by unfold PBr; omega) _
    have S1 := s1.sg S
    refine bk_RF_beside_82 g ?_
    rw [if_neg (by decide), k0, c0]
    refine ⟨S1.k 145 rfl, gz g + 171, S1.r 145 36 rfl, S1.k 171 rfl, v171 m1 _ S1 (by omega), fun m2 e2 => ?_⟩
    have s2 : St (PBr g) m1 m2 := by rw [e2]; exact St_sI m1 (by unfold PBr; omega) _
    have S2 := s2.sg S1
    refine bk_RF_beside_82 g ?_
    rw [if_neg (by decide), k1, c1]
    refine ⟨S2.k 145 rfl, gz g + 171, S2.r 145 36 rfl, S2.k 171 rfl, v171 m2 _ S2 (by omega), fun m3 e3 => ?_⟩
    have s3 : St (PBr g) m2 m3 := by rw [e3]; exact St_sI m2 (by unfold PBr; omega) _
    have S3 := s3.sg S2
    refine bk_RF_beside_82 g ?_
    rw [if_neg (by decide), k2, c2]
    refine ⟨S3.k 145 rfl, gz g + 171, S3.r 145 36 rfl, S3.k 171 rfl, v171 m3 _ S3 (by omega), fun m4 e4 => ?_⟩
    have s4 : St (PBr g) m3 m4 := by rw [e4]; exact St_sI m3 (by unfold PBr; omega) _
    have S4 := s4.sg S3
    refine bk_RF_beside_82 g ?_
    rw [if_pos (by decide), i15, nI_clamp (show 12 + j < 2 ^ 31 by omega), nI_clamp (show 15 + j < 2 ^ 31 by omega), nI_s]
    refine ⟨S4.k 145 rfl, gz g + 172, S4.r 145 37 rfl, S4.k 172 rfl, by rw [S4.n 172 rfl]; exact vp_in_nI (N := 24) (by omega) (by omega), fun m5 e5 => ?_⟩
    have s5 : St (PBr g) m4 m5 := by rw [e5]; exact St_sI m4 (by unfold PBr; omega) _
    have S5 := s5.sg S4
    refine ⟨gz g + 173, S5.r 145 38 rfl, S5.k 173 rfl, by rw [S5.n 173 rfl]; exact vp_in_nI (N := 24) (by omega) (by omega), fun m6 e6 => ?_⟩
    have s6 : St (PBr g) m5 m6 := by rw [e6]; exact St_sL m5 (by unfold PBr; omega) _
    have S6 := s6.sg S5
    refine ⟨gz g + 174, S6.r 145 39 rfl, S6.k 174 rfl, by rw [S6.n 174 rfl]; exact vp_in_nI (N := 30) (by omega) (by omega), fun m7 e7 => ?_⟩
    have s7 : St (PBr g) m6 m7 := by rw [e7]; exact St_sL m6 (by unfold PBr; omega) _
    have a56 : mI m (gz g + 156) j = mI m0 (gz g + 156) j := (s.2 _ _ (by unfold PBr; omega)).1
    refine ih (j + 1) m7 (by omega) (s.trans (((s1.trans s2).trans (s3.trans s4)).trans ((s5.trans s6).trans s7))) (fun q hq => ?_)
    have eI : ∀ a i, mI m7 a i = mI (sI (sI (sI (sI (sI m (gz g + 170) (12 + j) (mI m (gz g + 156) j)) (gz g + 171) (3 * (12 + j)) 0) (gz g + 171) (3 * (12 + j) + 1) 0) (gz g + 171) (3 * (12 + j) + 2) 0) (gz g + 172) (12 + j) 0) a i := fun a i => by rw [e7, e6, e5, e4, e3, e2, e1]; rfl
    have eL : ∀ a i, mL m7 a i = mL (sL (sL m (gz g + 173) (12 + j) 0) (gz g + 174) (15 + j) 0) a i := fun a i => by rw [e7, e6, e5, e4, e3, e2, e1]; rfl
    clear e1 e2 e3 e4 e5 e6 e7
    by_cases hqj : q = j
    · subst hqj
      refine ⟨?_, ⟨?_, ?_, ?_⟩, ?_, ?_, ?_⟩
      · rw [eI, mI_sI, up2_oth (by omega), mI_sI, up2_oth (by omega), mI_sI, up2_oth (by omega), mI_sI, up2_oth (by omega), mI_sI, up2_at]; exact a56
      · rw [eI, mI_sI, up2_oth (by omega), mI_sI, up2_sl (by omega), mI_sI, up2_sl (by omega), mI_sI, up2_at]
      · rw [eI, mI_sI, up2_oth (by omega), mI_sI, up2_sl (by omega), mI_sI, up2_at]
      · rw [eI, mI_sI, up2_oth (by omega), mI_sI, up2_at]
      · rw [eI, mI_sI, up2_at]
      · rw [eL, mL_sL, up2_oth (by omega), mL_sL, up2_at]
      · rw [eL, mL_sL, up2_at]
    · obtain ⟨f1, ⟨f2, f3, f4⟩, f5, f6, f7⟩ := G q (by omega)
      refine ⟨?_, ⟨?_, ?_, ?_⟩, ?_, ?_, ?_⟩
      · rw [eI, mI_sI, up2_not (by omega), mI_sI, up2_not (by omega), mI_sI, up2_not (by omega), mI_sI, up2_not (by omega), mI_sI, up2_not (by omega)]; exact f1
      · rw [eI, mI_sI, up2_not (by omega), mI_sI, up2_not (by omega), mI_sI, up2_not (by omega), mI_sI, up2_not (by omega), mI_sI, up2_not (by omega)]; exact f2
      · rw [eI, mI_sI, up2_not (by omega), mI_sI, up2_not (by omega), mI_sI, up2_not (by omega), mI_sI, up2_not (by omega), mI_sI, up2_not (by omega)]; exact f3
      · rw [eI, mI_sI, up2_not (by omega), mI_sI, up2_not (by omega), mI_sI, up2_not (by omega), mI_sI, up2_not (by omega), mI_sI, up2_not (by omega)]; exact f4
      · rw [eI, mI_sI, up2_not (by omega), mI_sI, up2_not (by omega), mI_sI, up2_not (by omega), mI_sI, up2_not (by omega), mI_sI, up2_not (by omega)]; exact f5
      · rw [eL, mL_sL, up2_not (by omega), mL_sL, up2_not (by omega)]; exact f6
      · rw [eL, mL_sL, up2_not (by omega), mL_sL, up2_not (by omega)]; exact f7
