/-! ===== beside: the class's side ===== -/
theorem c_settle0 (g : Gc) {lv t r R : Nat} {pa : Nat → Nat} {m : Mm} (ht : t = 2 ∨ t = 65) (S : Sg g m) (hP : Pap g t pa R m) (hr : r ≤ R) (h4 : R ≤ 400) (h3 : mI m (gz g + (t + 3)) 1 = nI r) (hN : ∀ i, i < r → mR m (pa i) 3 = none ∧ mR m (pa i) 4 = none) {Q : Mm → Prop} (hQ : Q m) : CV g M_Land_settleLoans (lv + 3) [va_rf (some (gz g + t))] m Q := by
  obtain ⟨⟨t1, t2, t3, t4, t5, t6⟩, t7, t8, t9, t10, t11, t12, t13⟩ := sh_t ht
  have loop : ∀ (d k : Nat), k + d = r → At g M_Land_settleLoans (lv + 3) 10 [(0, va_rf (some (gz g + t))), (1, .int (nI r)), (2, .int (nI k))] [] m (QV Q) := by
    intro d
    induction d with
    | zero =>
      intro k hk
      refine bk_Land_settleLoans_10 g ?_
      rw [if_pos (nI_le (by omega) (by omega))]
      exact hQ
    | succ d ih =>
      intro k hk
      obtain ⟨p1, p2, p3⟩ := hP.1 k (by omega)
      refine bk_Land_settleLoans_10 g ?_
      rw [if_neg (nI_ge (by omega) (by omega)), nI_clamp (show k < 2 ^ 31 by omega), nI_s]
      refine ⟨S.k t t1 (by omega), gz g + (t + 3), S.r t 3 t5, S.k (t + 3) t2 (by omega), gz g + (t + 4), S.r (t + 3) 0 t6, S.k (t + 4) t3 (by omega), by rw [S.n (t + 4) t4 (by omega)]; exact vp_in_nI (N := 400) (by omega) (by omega), pa k, p1, p2, ?_⟩
      rw [(hN k (by omega)).1, (hN k (by omega)).2]
      refine en_Land_closeIfDue g ⟨pa k, rfl, p2, en_Receipt_bears g ?_⟩
      rw [if_pos rfl, if_pos rfl]
      refine en_Land_closeIfDue g ⟨pa k, rfl, p2, en_Receipt_bears g ?_⟩
      rw [if_pos rfl, if_pos rfl]
      exact ih (k + 1) (by omega)
  refine en_Land_settleLoans g ⟨S.k t t1 (by omega), gz g + (t + 3), S.r t 3 t5, S.k (t + 3) t2 (by omega), ?_⟩
  rw [h3]
  exact loop r 0 (by omega)
def PAr (g : Gc) (j x i : Nat) : Prop := x = gz g + (77 + 4 * j) ∨ x = gz g + (78 + 4 * j) ∨ (x = gz g + 65 ∧ i = 8)
def PA1 (g : Gc) (j x _i : Nat) : Prop := x = gz g + (77 + 4 * j)
theorem c_arrive (g : Gc) {lv j : Nat} {m : Mm} (S : Sg g m) (hj : j < 12) (h8 : mI m (gz g + 65) 8 = nI j) (v a : Int32) {Q : Int32 → Mm → Prop} (hQ : ∀ m', St (PAr g j) m m' → (mI m' (gz g + (77 + 4 * j)) 3 = v ∧ mI m' (gz g + (77 + 4 * j)) 4 = a ∧ mI m' (gz g + (77 + 4 * j)) 5 = a) → (∀ i, 6 ≤ i → i ≤ 10 → mI m' (gz g + (77 + 4 * j)) i = 0) → (mL m' (gz g + (77 + 4 * j)) 11 = 0 ∧ mL m' (gz g + (77 + 4 * j)) 12 = 0) → mI m' (gz g + 65) 8 = nI (j + 1) → Q (nI j) m') : CI g M_Land_settle (lv + 3) [va_rf (some (gz g + 65)), .int v, .int a] m Q := by
  obtain ⟨⟨g1, g2⟩, ⟨g3, g4, g5⟩, -, -⟩ := sh_tg (t := 65) (Or.inr rfl) j hj
  have e77 : 65 + 12 + 4 * j = 77 + 4 * j := by omega
  have e78 : 65 + 13 + 4 * j = 78 + 4 * j := by omega
  rw [e77] at g1 g2 g3
  rw [e78] at g3 g4 g5
  have hk : mK m (gz g + (77 + 4 * j)) = 2 := S.k (77 + 4 * j) g2 (by omega)
  refine en_Land_settle g ⟨S.k 65 rfl, ?_⟩
  rw [h8, if_pos ((lt_12 j (by omega)).1.2 hj), nI_clamp (show j < 2 ^ 31 by omega)]
  refine ⟨gz g + 66, S.r 65 1 rfl, S.k 66 rfl, by rw [S.n 66 rfl]; exact vp_in_nI (N := 12) (by omega) (by omega), gz g + (77 + 4 * j), S.r 66 j g1, hk, ?_⟩
  refine en_Grower_arrive g ⟨hk, fun m1 d1 m2 d2 m3 d3 m4 d4 m5 d5 m6 d6 m7 d7 m8 d8 m9 d9 m10 d10 => ?_⟩
  have p : ∀ i, PA1 g j (gz g + (77 + 4 * j)) i := fun i => rfl
  have t1 : St (PA1 g j) m m1 := by rw [d1]; exact St_sI m (p _) _
  have t2 : St (PA1 g j) m1 m2 := by rw [d2]; exact St_sI m1 (p _) _
  have t3 : St (PA1 g j) m2 m3 := by rw [d3]; exact St_sI m2 (p _) _
  have t4 : St (PA1 g j) m3 m4 := by rw [d4]; exact St_sI m3 (p _) _
  have t5 : St (PA1 g j) m4 m5 := by rw [d5]; exact St_sI m4 (p _) _
  have t6 : St (PA1 g j) m5 m6 := by rw [d6]; exact St_sI m5 (p _) _
  have t7 : St (PA1 g j) m6 m7 := by rw [d7]; exact St_sI m6 (p _) _
  have t8 : St (PA1 g j) m7 m8 := by rw [d8]; exact St_sI m7 (p _) _
  have t9 : St (PA1 g j) m8 m9 := by rw [d9]; exact St_sL m8 (p _) _
  have t10 : St (PA1 g j) m9 m10 := by rw [d10]; exact St_sL m9 (p _) _
  have s10' : St (PA1 g j) m m10 := (((((((((t1.trans t2).trans t3).trans t4).trans t5).trans t6).trans t7).trans t8).trans t9).trans t10)
  have s10 : St (PAr g j) m m10 := s10'.weak (fun _ _ z => Or.inl z)
  have f1 : mI m10 (gz g + (77 + 4 * j)) 3 = v ∧ mI m10 (gz g + (77 + 4 * j)) 4 = a ∧ mI m10 (gz g + (77 + 4 * j)) 5 = a := by
    subst d1 d2 d3 d4 d5 d6 d7 d8 d9 d10
    simp [mI_sI, mI_sL, up2]
  have f2 : ∀ i, 6 ≤ i → i ≤ 10 → mI m10 (gz g + (77 + 4 * j)) i = 0 := fun i h1 h2 => by
    subst d1 d2 d3 d4 d5 d6 d7 d8 d9 d10
    rcases (show i = 6 ∨ i = 7 ∨ i = 8 ∨ i = 9 ∨ i = 10 by omega) with rfl | rfl | rfl | rfl | rfl <;> simp [mI_sI, mI_sL, up2]
  have f3 : mL m10 (gz g + (77 + 4 * j)) 11 = 0 ∧ mL m10 (gz g + (77 + 4 * j)) 12 = 0 := by
    subst d1 d2 d3 d4 d5 d6 d7 d8 d9 d10
    simp [mL_sI, mL_sL, up2]
  clear d1 d2 d3 d4 d5 d6 d7 d8 d9 d10 t1 t2 t3 t4 t5 t6 t7 t8 t9 t10
  have S10 := s10.sg S
  refine ⟨gz g + (78 + 4 * j), S10.r (77 + 4 * j) 0 g3, c_fill g (N := 30) (S10.k (78 + 4 * j) g4 (by omega)) (S10.n (78 + 4 * j) g5 (by omega)) (by omega) (fun f hf1 hf2 m12 e12 => ?_)⟩
  have rI_o : ∀ b, b ≠ gz g + (78 + 4 * j) → mI (rI m10 (gz g + (78 + 4 * j)) f) b = mI m10 b := fun b hb => mI_rI_ne hb
  have n12 : mI (rI m10 (gz g + (78 + 4 * j)) f) (gz g + 65) 8 = nI j := by
    rw [rI_o _ (by omega), (s10'.2 (gz g + 65) 8 (by unfold PA1; omega)).1]
    exact h8
  rw [n12, nI_s] at e12
  have sF : St (PAr g j) m10 (rI m10 (gz g + (78 + 4 * j)) f) := ⟨⟨rfl, rfl, rfl, rfl, rfl⟩, fun b i hn => ⟨by rw [rI_o b (fun q => hn (Or.inr (Or.inl q)))], rfl⟩⟩
  have s12 : St (PAr g j) m m12 := (s10.trans sF).trans (by rw [e12]; exact St_sI _ (Or.inr (Or.inr ⟨rfl, rfl⟩)) _)
  have x12 : ∀ i, mI m12 (gz g + (77 + 4 * j)) i = mI m10 (gz g + (77 + 4 * j)) i := fun i => by rw [e12, mI_sI, up2_oth (by omega), rI_o _ (by omega)]
  have l12 : mL m12 = mL m10 := by rw [e12]; rfl
  have k12 : mI m12 (gz g + 65) 8 = nI (j + 1) := by rw [e12, mI_sI, up2_at]
  rw [k12, nI_m1 (by omega), show j + 1 - 1 = j by omega]
  exact hQ m12 s12 (by rw [x12, x12, x12]; exact f1) (fun i h1 h2 => by rw [x12]; exact f2 i h1 h2) (by rw [l12]; exact f3) k12
def PLv (g : Gc) (a i : Nat) : Prop := (a = gz g + 65 ∧ 8 ≤ i ∧ i ≤ 10) ∨ a = gz g + 68 ∨ (gz g + 77 ≤ a ∧ a < gz g + 125)
def GrF (g : Gc) (A : Mm) (q : Nat) (m : Mm) : Prop := (mI m (gz g + (77 + 4 * q)) 3 = mI A 1 q ∧ mI m (gz g + (77 + 4 * q)) 4 = mI A 2 q ∧ mI m (gz g + (77 + 4 * q)) 5 = mI A 2 q) ∧ (∀ i, 6 ≤ i → i ≤ 10 → mI m (gz g + (77 + 4 * q)) i = 0) ∧ (mL m (gz g + (77 + 4 * q)) 11 = 0 ∧ mL m (gz g + (77 + 4 * q)) 12 = 0) ∧ ∀ k, k < 30 → mI m (gz g + (78 + 4 * q)) k = mI A 16 (12 * k + q)
theorem l_live26 (g : Gc) {lv n y r : Nat} {A m0 : Mm} {pa : Nat → Nat} {l2 : Option Nat} (S0 : Sg g m0) (C : LandC g 2 pa 12 y r A m0) (hn : mI A 0 0 = nI n) (h12 : n ≤ 12) {Q : Mm → Prop} (hQ : ∀ m, St (PLv g) m0 m → (∀ q, q < n → GrF g A q m) → mI m (gz g + 65) 8 = nI n → mI m (gz g + 65) 9 = mI m0 (gz g + 65) 9 → mI m (gz g + 65) 10 = mI m0 (gz g + 65) 10 → mI m (gz g + 68) 1 = mI m0 (gz g + 68) 1 → At g M_Land_liveAgain (lv + 4) 90 [(0, va_rf (some (gz g + 65))), (1, va_rf (some (gz g + 2))), (2, va_rf l2), (3, .int (0 : Int32))] [] m (QV Q)) : ∀ (d j : Nat) (m : Mm), j + d = n → St (PLv g) m0 m → (∀ q, q < j → GrF g A q m) → mI m (gz g + 65) 8 = nI j → mI m (gz g + 65) 9 = mI m0 (gz g + 65) 9 → mI m (gz g + 65) 10 = mI m0 (gz g + 65) 10 → mI m (gz g + 68) 1 = mI m0 (gz g + 68) 1 → At g M_Land_liveAgain (lv + 4) 26 [(0, va_rf (some (gz g + 65))), (1, va_rf (some (gz g + 2))), (2, va_rf l2), (3, .int (nI j))] [] m (QV Q) := by
  intro d
  induction d with
  | zero =>
    intro j m hj s G h8 h9 h10 h68
    obtain rfl : j = n := by omega
    have S := s.sg S0
    refine bk_Land_liveAgain_26 g ⟨gz g + 2, rfl, S.k 2 rfl, ?_⟩
    rw [show mI m (gz g + 2) 8 = nI j from (s.2 _ _ (by unfold PLv; omega)).1.trans (C.n.trans hn), if_pos (nI_le (Nat.le_refl _) (by omega))]
    exact hQ m s G h8 h9 h10 h68
  | succ d ih =>
    intro j m hj s G h8 h9 h10 h68
    have S := s.sg S0
    have j12 : j < 12 := by omega
    obtain ⟨⟨g1, g2⟩, ⟨g3, g4, g5⟩, -, -⟩ := sh_tg (t := 65) (Or.inr rfl) j j12
    rw [show 65 + 12 + 4 * j = 77 + 4 * j by omega] at g1 g2 g3
    rw [show 65 + 13 + 4 * j = 78 + 4 * j by omega] at g3 g4 g5
    have c30 : (30 : Int32).toNatClampNeg = 30 := rfl
    have c0 : (0 : Int32).toNatClampNeg = 0 := rfl
    refine bk_Land_liveAgain_26 g ⟨gz g + 2, rfl, S.k 2 rfl, ?_⟩
    rw [show mI m (gz g + 2) 8 = nI n from (s.2 _ _ (by unfold PLv; omega)).1.trans (C.n.trans hn), if_neg (nI_ge (by omega) (by omega)), nI_clamp (show j < 2 ^ 31 by omega)]
    refine ⟨gz g + 3, S.r 2 1 rfl, S.k 3 rfl, by rw [S.n 3 rfl]; exact vp_in_nI (N := 12) (by omega) (by omega), gz g + (14 + 4 * j), S.r 3 j (sh_gr j j12).1, S.k (14 + 4 * j) (sh_gr j j12).2 (by omega), by rw [S.n 3 rfl]; exact vp_in_nI (N := 12) (by omega) (by omega), S.k 65 rfl, ?_⟩
    have v1 : mI m (gz g + (14 + 4 * j)) 3 = mI A 1 j := (s.2 _ _ (by unfold PLv; omega)).1.trans (C.gr (c := 1) j12 (by omega) (by omega))
    have v2 : mI m (gz g + (14 + 4 * j)) 4 = mI A 2 j := (s.2 _ _ (by unfold PLv; omega)).1.trans (C.gr (c := 2) j12 (by omega) (by omega))
    rw [v1, v2]
    refine c_arrive g (lv := lv) S j12 h8 _ _ (fun m1 s1 f1 f2 f3 k1 => ?_)
    have S1 := s1.sg S
    refine ⟨by rw [S1.n 3 rfl]; exact vp_in_nI (N := 12) (by omega) (by omega), gz g + (15 + 4 * j), S1.r (14 + 4 * j) 0 (sh_tld j j12).1, gz g + 66, S1.r 65 1 rfl, S1.k 66 rfl, by rw [S1.n 66 rfl]; exact vp_in_nI (N := 12) (by omega) (by omega), gz g + (77 + 4 * j), S1.r 66 j g1, S1.k (77 + 4 * j) g2 (by omega), gz g + (78 + 4 * j), S1.r (77 + 4 * j) 0 g3, S1.k (15 + 4 * j) (sh_tld j j12).2.1 (by omega), S1.k (78 + 4 * j) g4 (by omega), by decide, by decide, by decide, ?_, ?_, fun m2 e2 => ?_⟩
    · rw [S1.n (15 + 4 * j) (sh_tld j j12).2.2 (by omega)]; decide
    · rw [S1.n (78 + 4 * j) g5 (by omega)]; decide
    rw [c30, c0] at e2
    have wk : St (PLv g) m m1 := s1.weak (fun a i z => by unfold PAr at z; unfold PLv; omega)
    have s2 : St (fun a _ => a = gz g + (78 + 4 * j)) m1 m2 := by
      rw [e2]
      exact ⟨⟨rfl, rfl, rfl, rfl, rfl⟩, fun b i hn => ⟨by rw [mI_rI_ne hn], rfl⟩⟩
    have t2 : ∀ k, k < 30 → mI m2 (gz g + (78 + 4 * j)) k = mI A 16 (12 * k + j) := fun k hk => by
      rw [e2, mI_rI, cpy0 _ _ _ _ hk, (s1.2 _ _ (by unfold PAr; omega)).1, (s.2 _ _ (by unfold PLv; omega)).1]
      have := C.tl (by omega) (j := j) (k := k) j12 hk
      rw [show 2 + 13 + 4 * j = 15 + 4 * j by omega] at this
      exact this
    clear e2
    rw [nI_s]
    have x2 : ∀ a i, a ≠ gz g + (78 + 4 * j) → mI m2 a i = mI m1 a i ∧ mL m2 a i = mL m1 a i := fun a i h => s2.2 a i h
    refine ih (j + 1) m2 (by omega) (s.trans (wk.trans (s2.weak (fun a i z => by unfold PLv; omega)))) (fun q hq => ?_) ?_ ?_ ?_ ?_
    · by_cases hqj : q = j
      · subst hqj
        refine ⟨?_, fun i h1 h2 => ?_, ?_, t2⟩
        · rw [(x2 _ _ (by omega)).1, (x2 _ _ (by omega)).1, (x2 _ _ (by omega)).1]; exact f1
        · rw [(x2 _ _ (by omega)).1]; exact f2 i h1 h2
        · rw [(x2 _ _ (by omega)).2, (x2 _ _ (by omega)).2]; exact f3
      · obtain ⟨o1, o2, o3, o4⟩ := G q (by omega)
        have x : ∀ a i, a = gz g + (77 + 4 * q) ∨ a = gz g + (78 + 4 * q) → mI m2 a i = mI m a i ∧ mL m2 a i = mL m a i := fun a i h => by
          rw [(x2 a i (by omega)).1, (x2 a i (by omega)).2]
          exact s1.2 a i (by unfold PAr; omega)
        refine ⟨?_, fun i h1 h2 => ?_, ?_, fun k hk => ?_⟩
        · rw [(x _ _ (by omega)).1, (x _ _ (by omega)).1, (x _ _ (by omega)).1]; exact o1
        · rw [(x _ _ (by omega)).1]; exact o2 i h1 h2
        · rw [(x _ _ (by omega)).2, (x _ _ (by omega)).2]; exact o3
        · rw [(x _ _ (by omega)).1]; exact o4 k hk
    · rw [(x2 _ _ (by omega)).1]; exact k1
    · rw [(x2 _ _ (by omega)).1, (s1.2 _ _ (by unfold PAr; omega)).1]; exact h9
    · rw [(x2 _ _ (by omega)).1, (s1.2 _ _ (by unfold PAr; omega)).1]; exact h10
    · rw [(x2 _ _ (by omega)).1, (s1.2 _ _ (by unfold PAr; omega)).1]; exact h68
