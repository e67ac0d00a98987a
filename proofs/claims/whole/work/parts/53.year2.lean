/-! ===== the year, the class's side: selling, stilling, rot, price, vines ===== -/
def sellA (A : Mm) (j : Nat) (s p : Int32) : Mm := sL (sI A 7 j (mI A 7 j - s)) 0 j (mL A 0 j + s.toInt64 * p.toInt64)
theorem sellA_I {A : Mm} {j c i : Nat} {s p : Int32} (h : c ≠ 7) : mI (sellA A j s p) c i = mI A c i := by unfold sellA; rw [mI_sL, mI_sI, up2_oth h]
theorem sellA_L {A : Mm} {j c i : Nat} {s p : Int32} (h : c ≠ 0) : mL (sellA A j s p) c i = mL A c i := by unfold sellA; rw [mL_sL, up2_oth h, mL_sI]
theorem c_gsell (g : Gc) {lv t N y r j : Nat} {A m : Mm} {pa : Nat → Nat} (ht : t = 2 ∨ t = 65) (hp : PaOK g pa r) (hN : N ≤ 12) (hj : j < N) (S : Sg g m) (C : LandC g t pa N y r A m) (s p : Int32) {Q : Mm → Prop} (hQ : ∀ m', LandC g t pa N y r (sellA A j s p) m' → St (PC g t pa r) m m' → Q m') : CV g M_Grower_sell (lv + 1) [va_rf (some (gz g + (t + 12 + 4 * j))), .int s, .int p] m Q := by
  obtain ⟨-, t7, -⟩ := sh_t ht
  obtain ⟨⟨g1, g2⟩, -⟩ := sh_tg ht j (by omega)
  refine en_Grower_sell g ⟨S.k (t + 12 + 4 * j) g2 (by omega), fun m1 e1 m2 e2 => ?_⟩
  rw [show mI m (gz g + (t + 12 + 4 * j)) 9 = mI A 7 j from C.gr (c := 7) hj (by omega) (by omega)] at e1
  have C1 := C.pg hN (by omega) hp (c := 7) hj (by omega) (by omega) (mI A 7 j - s)
  rw [show (7 : Nat) + 2 = 9 from rfl, ← e1] at C1
  rw [C1.mo hj hN, mL_sI] at e2
  have C2 := C1.pm hN hj (mL A 0 j + s.toInt64 * p.toInt64)
  rw [← e2] at C2
  refine hQ m2 C2 ?_
  rw [e2, e1]
  exact (St_sI m (Or.inl (by omega)) _).trans (St_sL _ (Or.inl (by omega)) _)
def stfA (A : Mm) (q p : Int32) : Nat → Mm × Int32
  | 0 => (A, q)
  | k + 1 => (sL (sellA (stfA A q p k).1 k (imn (stfA A q p k).2 (mI (stfA A q p k).1 7 k)) p) 2 4 (mL (stfA A q p k).1 2 4 + (imn (stfA A q p k).2 (mI (stfA A q p k).1 7 k)).toInt64), (stfA A q p k).2 - imn (stfA A q p k).2 (mI (stfA A q p k).1 7 k))
theorem stfA_I {A : Mm} {q p : Int32} {c i : Nat} (h : c ≠ 7) : ∀ k, mI (stfA A q p k).1 c i = mI A c i
  | 0 => rfl
  | k + 1 => by
    show mI (sL (sellA _ _ _ _) _ _ _) c i = _
    rw [mI_sL, sellA_I h, stfA_I h k]
theorem c_stillFree (g : Gc) {lv t N n y r : Nat} {A m0 : Mm} {pa : Nat → Nat} (ht : t = 2 ∨ t = 65) (hp : PaOK g pa r) (hn : mI A 0 0 = nI n) (hnN : n ≤ N) (hN : N ≤ 12) (hS : Sg g m0) (hC : LandC g t pa N y r A m0) {Q : Mm → Prop} (hQ : ∀ m', LandC g t pa N y r (stfA A (mI m0 (gz g + 1) 3) (mI A 0 2 / 4) n).1 m' → St (PC g t pa r) m0 m' → Q m') : CV g M_Land_stillFree (lv + 2) [va_rf (some (gz g + t))] m0 Q := by
  obtain ⟨⟨t1, -⟩, t7, t8, t9, t10, t11, t12, t13⟩ := sh_t ht
  have z4 : (4 : Int32).toNatClampNeg = 4 := rfl
  have loop : ∀ (d k : Nat) (m : Mm), k + d = n → LandC g t pa N y r (stfA A (mI m0 (gz g + 1) 3) (mI A 0 2 / 4) k).1 m → St (PC g t pa r) m0 m → At g M_Land_stillFree (lv + 2) 10 [(0, va_rf (some (gz g + t))), (1, .int (stfA A (mI m0 (gz g + 1) 3) (mI A 0 2 / 4) k).2), (2, .int (nI k))] [] m (QV Q) := by
    intro d
    induction d with
    | zero =>
      intro k m hk C s
      obtain rfl : k = n := by omega
      refine bk_Land_stillFree_10 g ⟨(s.sg hS).k t t1 (by omega), ?_⟩
      rw [C.n, stfA_I (by omega), hn, if_pos (nI_le (by omega) (by omega))]
      exact hQ m C s
    | succ d ih =>
      intro k m hk C s
      have S := s.sg hS
      obtain ⟨⟨g1, g2⟩, -⟩ := sh_tg ht k (by omega)
      refine bk_Land_stillFree_10 g ⟨S.k t t1 (by omega), ?_⟩
      rw [C.n, stfA_I (by omega), hn, if_neg (nI_ge (by omega) (by omega)), nI_clamp (by omega), nI_s, C.pr, stfA_I (by omega)]
      refine ⟨gz g + (t + 1), S.r t 1 t10, S.k (t + 1) t8 (by omega), by rw [S.n (t + 1) t9 (by omega)]; exact vp_in_nI (N := 12) (by omega) (by omega), gz g + (t + 12 + 4 * k), S.r (t + 1) k g1, S.k (t + 12 + 4 * k) g2 (by omega), by rw [S.n (t + 1) t9 (by omega)]; exact vp_in_nI (N := 12) (by omega) (by omega), ?_⟩
      rw [show mI m (gz g + (t + 12 + 4 * k)) 9 = mI (stfA A (mI m0 (gz g + 1) 3) (mI A 0 2 / 4) k).1 7 k from C.gr (c := 7) (by omega) (by omega) (by omega)]
      refine c_gsell g ht hp hN (by omega) S C _ _ (fun m1 C1 s1 => ?_)
      have S1 := s1.sg S
      refine ⟨gz g + (t + 11), S1.r t 7 t11, S1.k (t + 11) t12 (by omega), by rw [S1.n (t + 11) t13 (by omega)]; exact vp_in_nI (n := 4) (N := 8) (by omega) (by omega), by rw [S1.n (t + 11) t13 (by omega)]; exact vp_in_nI (n := 4) (N := 8) (by omega) (by omega), fun m2 e2 => ?_⟩
      rw [z4, C1.su (by omega), sellA_L (by omega)] at e2
      have C2 := C1.ps hN (j := 4) (by omega) (mL (stfA A (mI m0 (gz g + 1) 3) (mI A 0 2 / 4) k).1 2 4 + (imn (stfA A (mI m0 (gz g + 1) 3) (mI A 0 2 / 4) k).2 (mI (stfA A (mI m0 (gz g + 1) 3) (mI A 0 2 / 4) k).1 7 k)).toInt64)
      rw [← e2] at C2
      refine ih (k + 1) m2 (by omega) C2 ((s.trans s1).trans ?_)
      rw [e2]
      exact St_sL m1 (Or.inl (by omega)) _
  have t0r : shR t 0 = some 1 := by rcases ht with rfl | rfl <;> rfl
  exact en_Land_stillFree g ⟨hS.k t t1 (by omega), gz g + 1, hS.r t 0 t0r, hS.k 1 rfl, loop n 0 m0 (by omega) hC (St.refl _ _)⟩
def rotA (A : Mm) (dm : Int32) : Nat → Mm × Int64
  | 0 => (A, 0)
  | k + 1 => (sI (rotA A dm k).1 10 k (mI (rotA A dm k).1 10 k - ((mI (rotA A dm k).1 10 k).toInt64 * dm.toInt64 / 1000).toInt32), (rotA A dm k).2 + ((mI (rotA A dm k).1 10 k).toInt64 * dm.toInt64 / 1000).toInt32.toInt64)
theorem rotA_I {A : Mm} {dm : Int32} {c i : Nat} (h : c ≠ 10) : ∀ k, mI (rotA A dm k).1 c i = mI A c i
  | 0 => rfl
  | k + 1 => by
    show mI (sI _ _ _ _) c i = _
    rw [mI_sI, up2_oth h, rotA_I h k]
theorem rotA_L {A : Mm} {dm : Int32} : ∀ k, mL (rotA A dm k).1 = mL A
  | 0 => rfl
  | k + 1 => by
    show mL (sI _ _ _ _) = _
    rw [mL_sI, rotA_L k]
theorem c_rot (g : Gc) {lv t N y r R : Nat} {A m0 : Mm} {pa : Nat → Nat} {dm : Int32} (ht : t = 2 ∨ t = 65) (hp : PaOK g pa r) (hN : N ≤ 12) (hrR : r ≤ R) (hR4 : R ≤ 400) (h03 : mI A 0 3 = nI r) (hS : Sg g m0) (hP : Pap g t pa R m0) (hC : LandC g t pa N y r A m0) {Q : Int64 → Mm → Prop} (hQ : ∀ m', LandC g t pa N y r (rotA A dm r).1 m' → St (PC g t pa r) m0 m' → Q (rotA A dm r).2 m') : CJ g M_Store_rot (lv + 1) [va_rf (some (gz g + (t + 3))), .int dm] m0 Q := by
  obtain ⟨⟨t1, t2, t3, t4, t5, t6⟩, t7, -⟩ := sh_t ht
  have loop : ∀ (d k : Nat) (m : Mm), k + d = r → LandC g t pa N y r (rotA A dm k).1 m → St (PC g t pa r) m0 m → At g M_Store_rot (lv + 1) 5 [(0, va_rf (some (gz g + (t + 3)))), (1, .int dm), (2, .long (rotA A dm k).2), (4, .int (nI k))] [] m (QJ Q) := by
    intro d
    induction d with
    | zero =>
      intro k m hk C s
      obtain rfl : k = r := by omega
      refine bk_Store_rot_5 g ⟨(s.sg hS).k (t + 3) t2 (by omega), ?_⟩
      rw [C.rn, rotA_I (by omega), h03, if_pos (nI_le (by omega) (by omega))]
      exact hQ m C s
    | succ d ih =>
      intro k m hk C s
      have S := s.sg hS
      obtain ⟨p1, p2, p3⟩ := (s.pap hP).1 k (by omega)
      refine bk_Store_rot_5 g ⟨S.k (t + 3) t2 (by omega), ?_⟩
      rw [C.rn, rotA_I (by omega), h03, if_neg (nI_ge (by omega) (by omega)), nI_clamp (by omega), nI_s]
      refine ⟨gz g + (t + 4), S.r (t + 3) 0 t6, S.k (t + 4) t3 (by omega), by rw [S.n (t + 4) t4 (by omega)]; exact vp_in_nI (N := 400) (by omega) (by omega), pa k, p1, p2, by rw [S.n (t + 4) t4 (by omega)]; exact vp_in_nI (N := 400) (by omega) (by omega), fun m1 e1 => ?_⟩
      rw [(C.rc (show k < r by omega)).2.1] at e1 ⊢
      have C1 := (C.p9 hN (by omega) hp (i := k) (by omega) (mI (rotA A dm k).1 10 k - ((mI (rotA A dm k).1 10 k).toInt64 * dm.toInt64 / 1000).toInt32)).2
      rw [← e1] at C1
      refine ih (k + 1) m1 (by omega) C1 (s.trans ?_)
      rw [e1]
      exact St_sI m (Or.inr ⟨k, by omega, rfl⟩) _
  exact en_Store_rot g (loop r 0 m0 (by omega) hC (St.refl _ _))
def priceV (p w pull : Int32) (f s : Int64) : Int32 := (lmx 1 (lmn 10000 (p.toInt64 + ((w.toInt64 - f) - s) * pull.toInt64 / 1000))).toInt32
theorem c_movePrice (g : Gc) {lv t N y r : Nat} {A m : Mm} {pa : Nat → Nat} {f sd : Int64} (ht : t = 2 ∨ t = 65) (hp : PaOK g pa r) (hN : N ≤ 12) (S : Sg g m) (C : LandC g t pa N y r A m) (hsd : mL m (gz g + (t + 5)) 8 = sd) {Q : Mm → Prop} (hQ : ∀ m', LandC g t pa N y r (sI A 0 2 (priceV (mI A 0 2) (mI A 0 4) (mI m (gz g + 1) 2) f sd)) m' → St (PC g t pa r) m m' → Q m') : CV g M_Land_movePrice (lv + 2) [va_rf (some (gz g + t)), .long f] m Q := by
  obtain ⟨⟨t1, -⟩, t7, -⟩ := sh_t ht
  have t4r : shR t 4 = some (t + 5) ∧ shK (t + 5) = 3 ∧ shR t 0 = some 1 := by rcases ht with rfl | rfl <;> exact ⟨rfl, rfl, rfl⟩
  refine en_Land_movePrice g ⟨S.k t t1 (by omega), gz g + (t + 5), S.r t 4 t4r.1, S.k (t + 5) t4r.2.1 (by omega), gz g + 1, S.r t 0 t4r.2.2, S.k 1 rfl, en_SL_cutTo g (fun m1 e1 => ?_)⟩
  rw [C.pr, show mI m (gz g + t) 11 = mI A 0 4 from C.1 0 4 (by show 4 < 7; omega), hsd] at e1
  have C1 := (C.p0 hN (by omega) hp (priceV (mI A 0 2) (mI A 0 4) (mI m (gz g + 1) 2) f sd)).2.1
  refine hQ m1 ?_ ?_
  · rw [e1]; exact C1
  · rw [e1]; exact St_sI m (Or.inl (by omega)) _
def olderA (A : Mm) (j : Nat) : Mm := sI (sI (sI (sI A 3 j (mI A 3 j + mI A 6 j)) 6 j (mI A 5 j)) 5 j (mI A 4 j)) 4 j 0
def plantV (A : Mm) (j : Nat) (pl : Int32) : Int32 := imx 0 (imn (5000 - mI A 3 j - mI A 5 j - mI A 6 j) (mI A 3 j * pl / 100))
def vineS (A : Mm) (j : Nat) (hi pl : Int32) : Mm := if mI A 0 2 < hi then olderA A j else if mL A 0 j < 0 then olderA A j else sI (olderA A j) 4 j (plantV (olderA A j) j pl)
def vineA (A : Mm) (hi pl : Int32) : Nat → Mm
  | 0 => A
  | k + 1 => vineS (vineA A hi pl k) k hi pl
theorem olderA_I {A : Mm} {j c i : Nat} (h : c < 3 ∨ 6 < c) : mI (olderA A j) c i = mI A c i := by
  unfold olderA
  rw [mI_sI, up2_oth (by omega), mI_sI, up2_oth (by omega), mI_sI, up2_oth (by omega), mI_sI, up2_oth (by omega)]
theorem vineS_I {A : Mm} {j c i : Nat} {hi pl : Int32} (h : c < 3 ∨ 6 < c) : mI (vineS A j hi pl) c i = mI A c i := by
  unfold vineS
  split
  · exact olderA_I h
  · split
    · exact olderA_I h
    · rw [mI_sI, up2_oth (by omega)]; exact olderA_I h
theorem vineS_L {A : Mm} {j : Nat} {hi pl : Int32} : mL (vineS A j hi pl) = mL A := by
  unfold vineS
  split
  · rfl
  · split
    · rfl
    · rfl
theorem vineA_I {A : Mm} {c i : Nat} {hi pl : Int32} (h : c < 3 ∨ 6 < c) : ∀ k, mI (vineA A hi pl k) c i = mI A c i
  | 0 => rfl
  | k + 1 => by
    show mI (vineS _ _ _ _) c i = _
    rw [vineS_I h, vineA_I h k]
theorem c_tend (g : Gc) {lv t N n y r : Nat} {A m0 : Mm} {pa : Nat → Nat} (ht : t = 2 ∨ t = 65) (hp : PaOK g pa r) (hn : mI A 0 0 = nI n) (hnN : n ≤ N) (hN : N ≤ 12) (hS : Sg g m0) (hC : LandC g t pa N y r A m0) {Q : Mm → Prop} (hQ : ∀ m', LandC g t pa N y r (vineA A (mI m0 (gz g + 1) 4) (mI m0 (gz g + 1) 5) n) m' → St (PC g t pa r) m0 m' → Q m') : CV g M_Land_tendVines (lv + 2) [va_rf (some (gz g + t))] m0 Q := by
  obtain ⟨⟨t1, -⟩, t7, t8, t9, t10, -⟩ := sh_t ht
  have t0r : shR t 0 = some 1 := by rcases ht with rfl | rfl <;> rfl
  have tm : ∀ m, St (PC g t pa r) m0 m → mI m (gz g + 1) 4 = mI m0 (gz g + 1) 4 ∧ mI m (gz g + 1) 5 = mI m0 (gz g + 1) 5 := fun m s => by
    have : ∀ j, ¬ PC g t pa r (gz g + 1) j := fun j q => by
      rcases q with q | ⟨k, hk, e⟩
      · omega
      · have := hp.2 k hk; omega
    exact ⟨(s.2 _ _ (this _)).1, (s.2 _ _ (this _)).1⟩
  have loop : ∀ (d k : Nat) (m : Mm), k + d = n → LandC g t pa N y r (vineA A (mI m0 (gz g + 1) 4) (mI m0 (gz g + 1) 5) k) m → St (PC g t pa r) m0 m → At g M_Land_tendVines (lv + 2) 2 [(0, va_rf (some (gz g + t))), (1, .int (nI k))] [] m (QV Q) := by
    intro d
    induction d with
    | zero =>
      intro k m hk C s
      obtain rfl : k = n := by omega
      refine bk_Land_tendVines_2 g ⟨(s.sg hS).k t t1 (by omega), ?_⟩
      rw [C.n, vineA_I (by omega), hn, if_pos (nI_le (by omega) (by omega))]
      exact hQ m C s
    | succ d ih =>
      intro k m hk C s
      have S := s.sg hS
      obtain ⟨⟨g1, g2⟩, -⟩ := sh_tg ht k (by omega)
      refine bk_Land_tendVines_2 g ⟨S.k t t1 (by omega), ?_⟩
      rw [C.n, vineA_I (by omega), hn, if_neg (nI_ge (by omega) (by omega)), nI_clamp (by omega), nI_s]
      refine ⟨gz g + (t + 1), S.r t 1 t10, S.k (t + 1) t8 (by omega), by rw [S.n (t + 1) t9 (by omega)]; exact vp_in_nI (N := 12) (by omega) (by omega), gz g + (t + 12 + 4 * k), S.r (t + 1) k g1, S.k (t + 12 + 4 * k) g2 (by omega), ?_⟩
      have ih1 := ih (k + 1)
      have ev : vineA A (mI m0 (gz g + 1) 4) (mI m0 (gz g + 1) 5) (k + 1) = vineS (vineA A (mI m0 (gz g + 1) 4) (mI m0 (gz g + 1) 5) k) k (mI m0 (gz g + 1) 4) (mI m0 (gz g + 1) 5) := rfl
      rw [ev] at ih1
      generalize vineA A (mI m0 (gz g + 1) 4) (mI m0 (gz g + 1) 5) k = B at C ih1
      have c3 : mI m (gz g + (t + 12 + 4 * k)) 5 = mI B 3 k := C.gr (c := 3) (by omega) (by omega) (by omega)
      have c6 : mI m (gz g + (t + 12 + 4 * k)) 8 = mI B 6 k := C.gr (c := 6) (by omega) (by omega) (by omega)
      refine en_Grower_growOlder g ⟨S.k (t + 12 + 4 * k) g2 (by omega), fun m1 e1 m2 e2 m3 e3 m4 e4 => ?_⟩
      have C1 := C.pg hN (by omega) hp (j := k) (c := 3) (by omega) (by omega) (by omega) (mI B 3 k + mI B 6 k)
      rw [c3, c6] at e1
      rw [show (3 : Nat) + 2 = 5 from rfl, ← e1] at C1
      rw [show mI m1 (gz g + (t + 12 + 4 * k)) 7 = mI B 5 k from C1.gr (c := 5) (by omega) (by omega) (by omega)] at e2
      have C2 := C1.pg hN (by omega) hp (j := k) (c := 6) (by omega) (by omega) (by omega) (mI B 5 k)
      rw [show (6 : Nat) + 2 = 8 from rfl, ← e2] at C2
      rw [show mI m2 (gz g + (t + 12 + 4 * k)) 6 = mI B 4 k from C2.gr (c := 4) (by omega) (by omega) (by omega)] at e3
      have C3 := C2.pg hN (by omega) hp (j := k) (c := 5) (by omega) (by omega) (by omega) (mI B 4 k)
      rw [show (5 : Nat) + 2 = 7 from rfl, ← e3] at C3
      have C4 : LandC g t pa N y r (olderA B k) m4 := by
        have := C3.pg hN (by omega) hp (j := k) (c := 4) (by omega) (by omega) (by omega) 0
        rw [show (4 : Nat) + 2 = 6 from rfl, ← e4] at this
        exact this
      have s4 : St (PC g t pa r) m m4 := by
        rw [e4, e3, e2, e1]
        exact ((St_sI m (Or.inl (by omega)) _).trans (St_sI _ (Or.inl (by omega)) _)).trans ((St_sI _ (Or.inl (by omega)) _).trans (St_sI _ (Or.inl (by omega)) _))
      have S4 := s4.sg S
      clear e1 e2 e3 e4
      refine ⟨gz g + 1, S4.r t 0 t0r, S4.k 1 rfl, ?_⟩
      rw [C4.pr, olderA_I (by omega), (tm m4 (s.trans s4)).1, (tm m4 (s.trans s4)).2, C4.mo (by omega) hN]
      unfold vineS at ih1
      by_cases h1 : mI B 0 2 < mI m0 (gz g + 1) 4
      · rw [if_pos h1] at ih1 ⊢
        exact ih1 m4 (by omega) C4 (s.trans s4)
      rw [if_neg h1] at ih1 ⊢
      refine ⟨by rw [S4.n (t + 1) t9 (by omega)]; exact vp_in_nI (N := 12) (by omega) (by omega), ?_⟩
      by_cases h2 : mL B 0 k < 0
      · rw [if_pos h2] at ih1
        rw [if_pos (show mL (olderA B k) 0 k < 0 from h2)]
        exact ih1 m4 (by omega) C4 (s.trans s4)
      rw [if_neg h2] at ih1
      rw [if_neg (show ¬ mL (olderA B k) 0 k < 0 from h2)]
      refine ⟨by rw [S4.n (t + 1) t9 (by omega)]; exact vp_in_nI (N := 12) (by omega) (by omega), en_Grower_plant g ⟨S4.k (t + 12 + 4 * k) g2 (by omega), fun m5 e5 => ?_⟩⟩
      rw [show mI m4 (gz g + (t + 12 + 4 * k)) 5 = mI (olderA B k) 3 k from C4.gr (c := 3) (by omega) (by omega) (by omega), show mI m4 (gz g + (t + 12 + 4 * k)) 7 = mI (olderA B k) 5 k from C4.gr (c := 5) (by omega) (by omega) (by omega), show mI m4 (gz g + (t + 12 + 4 * k)) 8 = mI (olderA B k) 6 k from C4.gr (c := 6) (by omega) (by omega) (by omega)] at e5
      have C5 := C4.pg hN (by omega) hp (j := k) (c := 4) (by omega) (by omega) (by omega) (plantV (olderA B k) k (mI m0 (gz g + 1) 5))
      rw [show (4 : Nat) + 2 = 6 from rfl] at C5
      refine ih1 m5 (by omega) ?_ ((s.trans s4).trans ?_)
      · rw [e5]; exact C5
      · rw [e5]; exact St_sI m4 (Or.inl (by omega)) _
  exact en_Land_tendVines g (loop n 0 m0 (by omega) hC (St.refl _ _))
