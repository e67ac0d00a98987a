/-! ===== the year, the class's side: the free sacks are sold abroad ===== -/
def sfA (A : Mm) (ab f : Int64) (p : Int32) : Nat → Mm × Int64
  | 0 => (A, ab)
  | k + 1 => (sellA (sfA A ab f p k).1 k ((mI (sfA A ab f p k).1 7 k).toInt64 * ab / f).toInt32 p, (sfA A ab f p k).2 - ((mI (sfA A ab f p k).1 7 k).toInt64 * ab / f).toInt32.toInt64)
theorem sfA_I {A : Mm} {ab f : Int64} {p : Int32} {c i : Nat} (h : c ≠ 7) : ∀ k, mI (sfA A ab f p k).1 c i = mI A c i
  | 0 => rfl
  | k + 1 => by
    show mI (sellA _ _ _ _) c i = _
    rw [sellA_I h, sfA_I h k]
theorem sfA_L {A : Mm} {ab f : Int64} {p : Int32} {c i : Nat} (h : c ≠ 0) : ∀ k, mL (sfA A ab f p k).1 c i = mL A c i
  | 0 => rfl
  | k + 1 => by
    show mL (sellA _ _ _ _) c i = _
    rw [sellA_L h, sfA_L h k]
def soA (B : Mm) (most : Int64) (p : Int32) : Nat → Mm × Int64
  | 0 => (B, 0)
  | j + 1 => if most ≤ (soA B most p j).2 then soA B most p j else if mI (soA B most p j).1 7 j ≤ 0 then soA B most p j else (sellA (soA B most p j).1 j 1 p, (soA B most p j).2 + 1)
theorem soA_I {B : Mm} {most : Int64} {p : Int32} {c i : Nat} (h : c ≠ 7) : ∀ k, mI (soA B most p k).1 c i = mI B c i
  | 0 => rfl
  | k + 1 => by
    unfold soA
    split
    · exact soA_I h k
    · split
      · exact soA_I h k
      · show mI (sellA _ _ _ _) c i = _
        rw [sellA_I h, soA_I h k]
theorem soA_L {B : Mm} {most : Int64} {p : Int32} {c i : Nat} (h : c ≠ 0) : ∀ k, mL (soA B most p k).1 c i = mL B c i
  | 0 => rfl
  | k + 1 => by
    unfold soA
    split
    · exact soA_L h k
    · split
      · exact soA_L h k
      · show mL (sellA _ _ _ _) c i = _
        rw [sellA_L h, soA_L h k]
theorem soA_stop {B : Mm} {most : Int64} {p : Int32} {j : Nat} (h : most ≤ (soA B most p j).2) : ∀ d, soA B most p (j + d) = soA B most p j
  | 0 => rfl
  | d + 1 => by
    have e := soA_stop h d
    refine (show soA B most p (j + d + 1) = (if most ≤ (soA B most p (j + d)).2 then soA B most p (j + d) else if mI (soA B most p (j + d)).1 7 (j + d) ≤ 0 then soA B most p (j + d) else (sellA (soA B most p (j + d)).1 (j + d) 1 p, (soA B most p (j + d)).2 + 1)) from rfl).trans ?_
    rw [e, if_pos h]
theorem c_sellOne (g : Gc) {lv t N n y r : Nat} {B m0 : Mm} {pa : Nat → Nat} {most : Int64} (ht : t = 2 ∨ t = 65) (hp : PaOK g pa r) (hn : mI B 0 0 = nI n) (hnN : n ≤ N) (hN : N ≤ 12) (hS : Sg g m0) (hC : LandC g t pa N y r B m0) {Q : Int64 → Mm → Prop} (hQ : ∀ m', LandC g t pa N y r (soA B most (mI B 0 2) n).1 m' → St (PC g t pa r) m0 m' → Q (soA B most (mI B 0 2) n).2 m') : CJ g M_Land_sellOneEach (lv + 2) [va_rf (some (gz g + t)), .long most] m0 Q := by
  obtain ⟨⟨t1, -⟩, t7, t8, t9, t10, -⟩ := sh_t ht
  have loop : ∀ (d k : Nat) (m : Mm), k + d = n → LandC g t pa N y r (soA B most (mI B 0 2) k).1 m → St (PC g t pa r) m0 m → At g M_Land_sellOneEach (lv + 2) 5 [(0, va_rf (some (gz g + t))), (1, .long most), (3, .long (soA B most (mI B 0 2) k).2), (5, .int (nI k))] [] m (QJ Q) := by
    intro d
    induction d with
    | zero =>
      intro k m hk C s
      obtain rfl : k = n := by omega
      refine bk_Land_sellOneEach_5 g ⟨(s.sg hS).k t t1 (by omega), ?_⟩
      rw [C.n, soA_I (by omega), hn, if_pos (nI_le (by omega) (by omega))]
      exact hQ m C s
    | succ d ih =>
      intro k m hk C s
      have S := s.sg hS
      obtain ⟨⟨g1, g2⟩, -⟩ := sh_tg ht k (by omega)
      refine bk_Land_sellOneEach_5 g ⟨S.k t t1 (by omega), ?_⟩
      rw [C.n, soA_I (by omega), hn, if_neg (nI_ge (by omega) (by omega)), nI_clamp (by omega), nI_s]
      by_cases h1 : most ≤ (soA B most (mI B 0 2) k).2
      · rw [if_pos h1]
        have e := soA_stop h1 (d + 1)
        rw [show k + (d + 1) = n by omega] at e
        rw [e] at hQ
        exact hQ m C s
      rw [if_neg h1]
      have pr : mI (soA B most (mI B 0 2) k).1 0 2 = mI B 0 2 := soA_I (by omega) k
      have ih1 := ih (k + 1)
      unfold soA at ih1
      rw [if_neg h1] at ih1
      refine ⟨gz g + (t + 1), S.r t 1 t10, S.k (t + 1) t8 (by omega), by rw [S.n (t + 1) t9 (by omega)]; exact vp_in_nI (N := 12) (by omega) (by omega), gz g + (t + 12 + 4 * k), S.r (t + 1) k g1, S.k (t + 12 + 4 * k) g2 (by omega), ?_⟩
      rw [show mI m (gz g + (t + 12 + 4 * k)) 9 = mI (soA B most (mI B 0 2) k).1 7 k from C.gr (c := 7) (by omega) (by omega) (by omega)]
      by_cases h2 : mI (soA B most (mI B 0 2) k).1 7 k ≤ 0
      · rw [if_pos h2] at ih1 ⊢
        exact ih1 m (by omega) C s
      rw [if_neg h2] at ih1 ⊢
      refine ⟨by rw [S.n (t + 1) t9 (by omega)]; exact vp_in_nI (N := 12) (by omega) (by omega), ?_⟩
      rw [C.pr, pr]
      exact c_gsell g ht hp hN (by omega) S C _ _ (fun m1 C1 s1 => ih1 m1 (by omega) C1 (s.trans s1))
  exact en_Land_sellOneEach g (loop n 0 m0 (by omega) hC (St.refl _ _))
def rdA (B : Mm) (L : Int64) (p : Int32) (n : Nat) : Nat → Mm × Int64
  | 0 => (B, L)
  | k + 1 => if (rdA B L p n k).2 ≤ 0 then rdA B L p n k else ((soA (rdA B L p n k).1 (rdA B L p n k).2 p n).1, (rdA B L p n k).2 - (soA (rdA B L p n k).1 (rdA B L p n k).2 p n).2)
theorem rdA_I {B : Mm} {L : Int64} {p : Int32} {n c i : Nat} (h : c ≠ 7) : ∀ k, mI (rdA B L p n k).1 c i = mI B c i
  | 0 => rfl
  | k + 1 => by
    unfold rdA
    split
    · exact rdA_I h k
    · show mI (soA _ _ _ _).1 c i = _
      rw [soA_I h, rdA_I h k]
theorem rdA_L {B : Mm} {L : Int64} {p : Int32} {n c i : Nat} (h : c ≠ 0) : ∀ k, mL (rdA B L p n k).1 c i = mL B c i
  | 0 => rfl
  | k + 1 => by
    unfold rdA
    split
    · exact rdA_L h k
    · show mL (soA _ _ _ _).1 c i = _
      rw [soA_L h, rdA_L h k]
theorem rdA_stop {B : Mm} {L : Int64} {p : Int32} {n j : Nat} (h : (rdA B L p n j).2 ≤ 0) : ∀ d, rdA B L p n (j + d) = rdA B L p n j
  | 0 => rfl
  | d + 1 => by
    have e := rdA_stop h d
    refine (show rdA B L p n (j + d + 1) = (if (rdA B L p n (j + d)).2 ≤ 0 then rdA B L p n (j + d) else ((soA (rdA B L p n (j + d)).1 (rdA B L p n (j + d)).2 p n).1, (rdA B L p n (j + d)).2 - (soA (rdA B L p n (j + d)).1 (rdA B L p n (j + d)).2 p n).2)) from rfl).trans ?_
    rw [e, if_pos h]
def abrV (w : Int32) (f sd : Int64) : Int64 := lmx 0 (lmn f (w.toInt64 - sd))
def sfreeA (A : Mm) (f sd : Int64) (n : Nat) : Mm := if 0 < f then sL (rdA (sfA A (abrV (mI A 0 4) f sd) f (mI A 0 2) n).1 (sfA A (abrV (mI A 0 4) f sd) f (mI A 0 2) n).2 (mI A 0 2) n 12).1 2 2 (mL A 2 2 + (abrV (mI A 0 4) f sd - (rdA (sfA A (abrV (mI A 0 4) f sd) f (mI A 0 2) n).1 (sfA A (abrV (mI A 0 4) f sd) f (mI A 0 2) n).2 (mI A 0 2) n 12).2)) else A
theorem c_sellFree (g : Gc) {lv t N n y r : Nat} {A m0 : Mm} {pa : Nat → Nat} {f sd : Int64} (ht : t = 2 ∨ t = 65) (hp : PaOK g pa r) (hn : mI A 0 0 = nI n) (hnN : n ≤ N) (hN : N ≤ 12) (hS : Sg g m0) (hC : LandC g t pa N y r A m0) (hj : mL m0 (gz g + (t + 5)) 8 = sd) {Q : Mm → Prop} (hQ : ∀ m', LandC g t pa N y r (sfreeA A f sd n) m' → St (PC g t pa r) m0 m' → Q m') : CV g M_Land_sellFree (lv + 3) [va_rf (some (gz g + t)), .long f] m0 Q := by
  obtain ⟨⟨t1, -⟩, t7, t8, t9, t10, t11, t12, t13⟩ := sh_t ht
  have z2 : (2 : Int32).toNatClampNeg = 2 := rfl
  have t4r : shR t 4 = some (t + 5) ∧ shK (t + 5) = 3 := by rcases ht with rfl | rfl <;> exact ⟨rfl, rfl⟩
  refine en_Land_sellFree g ?_
  by_cases hf : 0 < f
  · rw [if_pos hf]
    unfold sfreeA at hQ
    rw [if_pos hf] at hQ
    have fne : ¬ f = 0 := fun e => by rw [e] at hf; exact absurd hf (by decide)
    refine ⟨hS.k t t1 (by omega), gz g + (t + 5), hS.r t 4 t4r.1, hS.k (t + 5) t4r.2 (by omega), en_SL_cutTo g ?_⟩
    rw [show mI m0 (gz g + t) 11 = mI A 0 4 from hC.1 0 4 (by show 4 < 7; omega), hj]
    show At g M_Land_sellFree (lv + 3) 32 [(0, va_rf (some (gz g + t))), (1, .long f), (3, .long (abrV (mI A 0 4) f sd)), (5, .long (abrV (mI A 0 4) f sd)), (7, .int (nI 0))] [] m0 (QV Q)
    generalize abrV (mI A 0 4) f sd = ab at hQ ⊢
    -- the rounds
    have rounds : ∀ (B : Mm) (L : Int64) (d k : Nat) (m : Mm), mI B 0 0 = nI n → mI B 0 2 = mI A 0 2 → mL B 2 2 = mL A 2 2 → k + d = 12 → LandC g t pa N y r (rdA B L (mI A 0 2) n k).1 m → St (PC g t pa r) m0 m → (∀ m', LandC g t pa N y r (sL (rdA B L (mI A 0 2) n 12).1 2 2 (mL A 2 2 + (ab - (rdA B L (mI A 0 2) n 12).2))) m' → St (PC g t pa r) m0 m' → Q m') → At g M_Land_sellFree (lv + 3) 92 [(0, va_rf (some (gz g + t))), (3, .long ab), (5, .long (rdA B L (mI A 0 2) n k).2), (7, .int (nI k))] [] m (QV Q) := by
      intro B L d
      have fin : ∀ (k : Nat) (m : Mm), mL B 2 2 = mL A 2 2 → rdA B L (mI A 0 2) n 12 = rdA B L (mI A 0 2) n k → LandC g t pa N y r (rdA B L (mI A 0 2) n k).1 m → St (PC g t pa r) m0 m → (∀ m', LandC g t pa N y r (sL (rdA B L (mI A 0 2) n 12).1 2 2 (mL A 2 2 + (ab - (rdA B L (mI A 0 2) n 12).2))) m' → St (PC g t pa r) m0 m' → Q m') → mK m (gz g + t) = 4 ∧ ∃ b3, mR m (gz g + t) 7 = some b3 ∧ mK m b3 = 16 ∧ vp_in (2 : Int32) (mN m b3) ∧ vp_in (2 : Int32) (mN m b3) ∧ ∀ m8, m8 = sL m b3 (2 : Int32).toNatClampNeg (mL m b3 (2 : Int32).toNatClampNeg + (ab - (rdA B L (mI A 0 2) n k).2)) → Q m8 := by
        intro k m hB e C s hq
        have S := s.sg hS
        refine ⟨S.k t t1 (by omega), gz g + (t + 11), S.r t 7 t11, S.k (t + 11) t12 (by omega), by rw [S.n (t + 11) t13 (by omega)]; exact vp_in_nI (n := 2) (N := 8) (by omega) (by omega), by rw [S.n (t + 11) t13 (by omega)]; exact vp_in_nI (n := 2) (N := 8) (by omega) (by omega), fun m1 e1 => ?_⟩
        rw [z2, C.su (by omega), rdA_L (by omega), hB] at e1
        rw [e] at hq
        refine hq m1 ?_ (s.trans ?_)
        · rw [e1]; exact C.ps hN (j := 2) (by omega) _
        · rw [e1]; exact St_sL m (Or.inl (by omega)) _
      induction d with
      | zero =>
        intro k m h0 hpr hB hk C s hq
        obtain rfl : k = 12 := by omega
        refine bk_Land_sellFree_92 g ?_
        rw [if_pos (show (12 : Int32) ≤ nI 12 from nI_le (a := 12) (b := 12) (by omega) (by omega))]
        exact fin 12 m hB rfl C s hq
      | succ d ih =>
        intro k m h0 hpr hB hk C s hq
        have S := s.sg hS
        refine bk_Land_sellFree_92 g ?_
        rw [if_neg (show ¬ (12 : Int32) ≤ nI k from nI_ge (a := k) (b := 12) (by omega) (by omega)), nI_s]
        by_cases hL : (rdA B L (mI A 0 2) n k).2 ≤ 0
        · rw [if_pos hL]
          refine fin k m hB ?_ C s hq
          have := rdA_stop hL (d + 1)
          rw [show k + (d + 1) = 12 by omega] at this
          exact this
        rw [if_neg hL]
        refine ⟨S.k t t1 (by omega), ?_⟩
        have pr : mI (rdA B L (mI A 0 2) n k).1 0 2 = mI A 0 2 := (rdA_I (by omega) k).trans hpr
        refine c_sellOne g ht hp ((rdA_I (by omega) k).trans h0) hnN hN S C (fun m1 C1 s1 => ?_)
        rw [pr] at C1 ⊢
        have ih1 := ih (k + 1) m1 h0 hpr hB (by omega)
        unfold rdA at ih1
        rw [if_neg hL] at ih1
        exact ih1 C1 (s.trans s1) hq
    have loop : ∀ (d k : Nat) (m : Mm), k + d = n → LandC g t pa N y r (sfA A ab f (mI A 0 2) k).1 m → St (PC g t pa r) m0 m → At g M_Land_sellFree (lv + 3) 32 [(0, va_rf (some (gz g + t))), (1, .long f), (3, .long ab), (5, .long (sfA A ab f (mI A 0 2) k).2), (7, .int (nI k))] [] m (QV Q) := by
      intro d
      induction d with
      | zero =>
        intro k m hk C s
        obtain rfl : k = n := by omega
        refine bk_Land_sellFree_32 g ⟨(s.sg hS).k t t1 (by omega), ?_⟩
        rw [C.n, sfA_I (by omega), hn, if_pos (nI_le (by omega) (by omega))]
        exact rounds _ _ 12 0 m ((sfA_I (by omega) k).trans hn) (sfA_I (by omega) k) (sfA_L (by omega) k) (by omega) C s hQ
      | succ d ih =>
        intro k m hk C s
        have S := s.sg hS
        obtain ⟨⟨g1, g2⟩, -⟩ := sh_tg ht k (by omega)
        refine bk_Land_sellFree_32 g ⟨S.k t t1 (by omega), ?_⟩
        rw [C.n, sfA_I (by omega), hn, if_neg (nI_ge (by omega) (by omega)), nI_clamp (by omega), nI_s]
        refine ⟨gz g + (t + 1), S.r t 1 t10, S.k (t + 1) t8 (by omega), by rw [S.n (t + 1) t9 (by omega)]; exact vp_in_nI (N := 12) (by omega) (by omega), gz g + (t + 12 + 4 * k), S.r (t + 1) k g1, S.k (t + 12 + 4 * k) g2 (by omega), fne, by rw [S.n (t + 1) t9 (by omega)]; exact vp_in_nI (N := 12) (by omega) (by omega), ?_⟩
        rw [show mI m (gz g + (t + 12 + 4 * k)) 9 = mI (sfA A ab f (mI A 0 2) k).1 7 k from C.gr (c := 7) (by omega) (by omega) (by omega), C.pr, show mI (sfA A ab f (mI A 0 2) k).1 0 2 = mI A 0 2 from sfA_I (by omega) k]
        exact c_gsell g ht hp hN (by omega) S C _ _ (fun m1 C1 s1 => ih (k + 1) m1 (by omega) C1 (s.trans s1))
    exact loop n 0 m0 (by omega) hC (St.refl _ _)
  · rw [if_neg hf]
    unfold sfreeA at hQ
    rw [if_neg hf] at hQ
    exact hQ m0 hC (St.refl _ _)
