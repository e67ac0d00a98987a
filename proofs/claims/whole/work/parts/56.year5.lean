/-! ===== the year, the class's side: the parts are kept ===== -/
def frV (ls : Int64) (F : Nat → Int32) (v c : Int32) : Int32 := if c.toInt64 < ls then 1 else if wi v 0 7 = 0 then 0 else if F v.toNatClampNeg = 0 then 0 else 1
theorem frV_01 (ls : Int64) (F : Nat → Int32) (v c : Int32) : frV ls F v c = 0 ∨ frV ls F v c = 1 := by
  unfold frV
  split
  · exact Or.inr rfl
  · split
    · exact Or.inl rfl
    · split
      · exact Or.inl rfl
      · exact Or.inr rfl
def dueV (B : Mm) (y k : Nat) (P : Int32) : Int64 := P.toInt64 * (mI B 17 (12 * y + k)).toInt64 + mL B 1 k
def kpV (B : Mm) (y k : Nat) (P : Int32) : Int32 := (lmx 0 (lmn (mI B 17 (12 * y + k)).toInt64 (dueV B y k P / 100))).toInt32
def kp1 (B : Mm) (y k : Nat) (fr : Int32) : Mm := sI (sI B 8 k 0) 18 (12 * y + k) fr
def kp2 (B : Mm) (y k : Nat) (P fr : Int32) : Mm := sL (sI (kp1 B y k fr) 8 k (kpV B y k P)) 1 k (dueV B y k P - 100 * (kpV B y k P).toInt64)
def kp3 (B : Mm) (r y k : Nat) (P fr : Int32) : Mm := sL (issA (sI (kp2 B y k P fr) 7 k (mI B 7 k - kpV B y k P)) r (nI k) (kpV B y k P) (nI y)) 2 1 (mL B 2 1 + (kpV B y k P).toInt64)
def kpS (B : Mm) (r y k : Nat) (P fr : Int32) : Mm × Nat := if fr = 0 then (if kpV B y k P ≤ 0 then (kp2 B y k P fr, r) else (kp3 B r y k P fr, r + 1)) else (kp1 B y k fr, r)
def kpA (A : Mm) (r y : Nat) (P : Int32) (fr : Nat → Int32) : Nat → Mm × Nat
  | 0 => (A, r)
  | k + 1 => kpS (kpA A r y P fr k).1 (kpA A r y P fr k).2 y k P (fr k)
theorem kp1_I {B : Mm} {y k c i : Nat} {fr : Int32} (h8 : c ≠ 8) (h18 : c ≠ 18) : mI (kp1 B y k fr) c i = mI B c i := by unfold kp1; rw [mI_sI, up2_oth h18, mI_sI, up2_oth h8]
theorem kp2_I {B : Mm} {y k c i : Nat} {P fr : Int32} (h8 : c ≠ 8) (h18 : c ≠ 18) : mI (kp2 B y k P fr) c i = mI B c i := by unfold kp2; rw [mI_sL, mI_sI, up2_oth h8, kp1_I h8 h18]
theorem kp3_I {B : Mm} {r y k c i : Nat} {P fr : Int32} (h8 : c ≠ 8) (h18 : c ≠ 18) (h7 : c ≠ 7) (h9 : ¬ (9 ≤ c ∧ c ≤ 11 ∧ i = r)) (h0 : ¬ (c = 0 ∧ i = 3)) : mI (kp3 B r y k P fr) c i = mI B c i := by
  unfold kp3
  rw [mI_sL, issA_oth (by omega) h0, mI_sI, up2_oth h7, kp2_I h8 h18]
theorem kpS_I {B : Mm} {r y k c i : Nat} {P fr : Int32} (h8 : c ≠ 8) (h18 : c ≠ 18) (h7 : c ≠ 7) (h9 : ¬ (9 ≤ c ∧ c ≤ 11 ∧ i = r)) (h0 : ¬ (c = 0 ∧ i = 3)) : mI (kpS B r y k P fr).1 c i = mI B c i := by
  unfold kpS
  split
  · split
    · exact kp2_I h8 h18
    · exact kp3_I h8 h18 h7 h9 h0
  · exact kp1_I h8 h18
theorem kpA_2 {A : Mm} {r y : Nat} {P : Int32} {fr : Nat → Int32} : ∀ k, r ≤ (kpA A r y P fr k).2 ∧ (kpA A r y P fr k).2 ≤ r + k
  | 0 => ⟨Nat.le_refl _, Nat.le_refl _⟩
  | k + 1 => by
    obtain ⟨a, b⟩ := kpA_2 (A := A) (r := r) (y := y) (P := P) (fr := fr) k
    show r ≤ (kpS _ _ _ _ _ _).2 ∧ (kpS _ _ _ _ _ _).2 ≤ _
    unfold kpS
    split
    · split
      · exact ⟨a, by omega⟩
      · exact ⟨by show r ≤ _ + 1; omega, by show _ + 1 ≤ _; omega⟩
    · exact ⟨a, by omega⟩
theorem kpA_I {A : Mm} {r y c i : Nat} {P : Int32} {fr : Nat → Int32} (h8 : c ≠ 8) (h18 : c ≠ 18) (h7 : c ≠ 7) (h9 : ¬ (9 ≤ c ∧ c ≤ 11 ∧ r ≤ i)) (h0 : ¬ (c = 0 ∧ i = 3)) : ∀ k, mI (kpA A r y P fr k).1 c i = mI A c i
  | 0 => rfl
  | k + 1 => by
    show mI (kpS _ _ _ _ _ _).1 c i = _
    have := (kpA_2 (A := A) (r := r) (y := y) (P := P) (fr := fr) k).1
    rw [kpS_I h8 h18 h7 (by omega) h0, kpA_I h8 h18 h7 h9 h0 k]
theorem kpS_3 {B : Mm} {r y k : Nat} {P fr : Int32} (h : mI B 0 3 = nI r) : mI (kpS B r y k P fr).1 0 3 = nI (kpS B r y k P fr).2 := by
  unfold kpS
  split
  · split
    · rw [kp2_I (by omega) (by omega)]; exact h
    · show mI (kp3 _ _ _ _ _ _) 0 3 = _
      unfold kp3 issA
      rw [mI_sL, mI_sI, up2_at]
  · rw [kp1_I (by omega) (by omega)]; exact h
theorem kpA_3 {A : Mm} {r y : Nat} {P : Int32} {fr : Nat → Int32} (h : mI A 0 3 = nI r) : ∀ k, mI (kpA A r y P fr k).1 0 3 = nI (kpA A r y P fr k).2
  | 0 => h
  | k + 1 => kpS_3 (kpA_3 h k)
theorem c_frees (g : Gc) {lv t : Nat} {m : Mm} {ls : Int64} {F : Nat → Int32} {v c : Int32} (ht : t = 2 ∨ t = 65) (S : Sg g m) (h7 : mL m (gz g + (t + 5)) 7 = ls) (hF : ∀ j, j < 8 → mI m (gz g + (t + 8)) j = F j) {Q : Int32 → Mm → Prop} (hQ : Q (frV ls F v c) m) : CI g M_Judge_frees (lv + 2) [va_rf (some (gz g + (t + 5))), .int v, .int c] m Q := by
  have t4r : shK (t + 5) = 3 ∧ shR (t + 5) 2 = some (t + 8) ∧ shK (t + 8) = 17 ∧ shN (t + 8) = 8 ∧ t < 66 := by rcases ht with rfl | rfl <;> exact ⟨rfl, rfl, rfl, rfl, by omega⟩
  obtain ⟨a1, a2, a3, a4, a5⟩ := t4r
  refine en_Judge_frees g ⟨S.k (t + 5) a1 (by omega), ?_⟩
  rw [h7]
  unfold frV at hQ
  by_cases h1 : c.toInt64 < ls
  · rw [if_pos h1] at hQ ⊢; exact hQ
  rw [if_neg h1] at hQ ⊢
  refine c_isWithin g ?_
  by_cases h2 : wi v 0 7 = 0
  · rw [if_pos h2] at hQ ⊢; exact hQ
  rw [if_neg h2] at hQ ⊢
  obtain ⟨j, -, hj, rfl⟩ := wi_rng (a := 0) (c := 7) rfl rfl (by omega) (by omega) h2
  refine ⟨gz g + (t + 8), S.r (t + 5) 2 a2, S.k (t + 8) a3 (by omega), by rw [S.n (t + 8) a4 (by omega)]; exact vp_in_nI (N := 8) (by omega) (by omega), ?_⟩
  rw [nI_clamp (by omega), hF j (by omega)]
  rw [nI_clamp (by omega)] at hQ
  by_cases h3 : F j = 0
  · rw [if_pos h3] at hQ ⊢; exact hQ
  · rw [if_neg h3] at hQ ⊢; exact hQ
/-- how far the keeping has come: receipts old and new -/
def KpOK (g : Gc) (t N y r0 R0 : Nat) (pa0 : Nat → Nat) (m0 : Mm) (k : Nat) (B : Mm) (r : Nat) (pa : Nat → Nat) (R : Nat) (m : Mm) : Prop :=
  LandC g t pa N 30 r B m ∧ PaOK g pa R ∧ Pap g t pa R m ∧ (r ≤ R ∧ R ≤ 400 ∧ r0 ≤ r ∧ R0 ≤ R ∧ (R = R0 ∨ R = r)) ∧ Sg g m ∧ Fr g m ∧ Fs g (PC g t pa0 R0) k m0 m ∧ (∀ i, i < R0 → pa i = pa0 i) ∧ (∀ i, R0 ≤ i → i < R → gz g + mC m0 ≤ pa i) ∧ (∀ i, i < r0 → mR m (pa0 i) = mR m0 (pa0 i)) ∧ ∀ i, r0 ≤ i → i < r → mR m (pa i) 3 = none ∧ mR m (pa i) 4 = none
theorem KpOK.st {g : Gc} {t N y r0 R0 k k' : Nat} {pa0 : Nat → Nat} {m0 B B' m m' : Mm} {r : Nat} {pa : Nat → Nat} {R : Nat} (h : KpOK g t N y r0 R0 pa0 m0 k B r pa R m) (s : St (PC g t pa r) m m') (c : LandC g t pa N 30 r B' m') (hk : k ≤ k') : KpOK g t N y r0 R0 pa0 m0 k' B' r pa R m' := by
  obtain ⟨h1, h2, h3, h4, h5, h6, h7, h8, h9, h10, h11⟩ := h
  refine ⟨c, h2, s.pap h3, h4, s.sg h5, s.fr h6, ?_, h8, h9, fun i hi => by rw [s.1.1]; exact h10 i hi, fun i a b => by rw [s.1.1]; exact h11 i a b⟩
  refine (h7.trans s.fs (fun a j ha q => ?_)).weak (fun _ _ _ q => q) (by omega)
  rcases q with q | ⟨i, hi, rfl⟩
  · exact Or.inl q
  · by_cases hi0 : i < R0
    · exact Or.inr ⟨i, hi0, h8 i hi0⟩
    · have := h9 i (by omega) (by omega)
      omega
theorem c_keep (g : Gc) {lv t N n y r0 R0 : Nat} {A m0 : Mm} {pa0 : Nat → Nat} {ls : Int64} {F : Nat → Int32} (ht : t = 2 ∨ t = 65) (hp : PaOK g pa0 R0) (hn : mI A 0 0 = nI n) (hnN : n ≤ N) (hN : N ≤ 12) (hy : mI A 0 1 = nI y) (h30 : y < 30) (hrR : r0 ≤ R0) (hR4 : R0 ≤ 400) (hr4 : r0 + n ≤ 400) (h03 : mI A 0 3 = nI r0) (hS : Sg g m0) (hF : Fr g m0) (hP : Pap g t pa0 R0 m0) (hC : LandC g t pa0 N 30 r0 A m0) (hl : mL m0 (gz g + (t + 5)) 7 = ls) (hv : ∀ j, j < 8 → mI m0 (gz g + (t + 8)) j = F j) {Q : Mm → Prop} (hQ : ∀ pa R m', KpOK g t N y r0 R0 pa0 m0 n (kpA A r0 y (mI A 0 5) (fun k => frV ls F (mI A 1 k) (mI A 17 (12 * y + k))) n).1 (kpA A r0 y (mI A 0 5) (fun k => frV ls F (mI A 1 k) (mI A 17 (12 * y + k))) n).2 pa R m' → Q m') : CV g M_Land_keepParts (lv + 3) [va_rf (some (gz g + t))] m0 Q := by
  obtain ⟨⟨t1, t2, t3, t4, t5, t6⟩, t7, t8, t9, t10, t11, t12, t13⟩ := sh_t ht
  have z1 : (1 : Int32).toNatClampNeg = 1 := rfl
  have t4r : shR t 4 = some (t + 5) ∧ shK (t + 5) = 3 := by rcases ht with rfl | rfl <;> exact ⟨rfl, rfl⟩
  have h184 := hF.1
  have loop : ∀ (d k : Nat) (pa : Nat → Nat) (R : Nat) (m : Mm), k + d = n → KpOK g t N y r0 R0 pa0 m0 k (kpA A r0 y (mI A 0 5) (fun k => frV ls F (mI A 1 k) (mI A 17 (12 * y + k))) k).1 (kpA A r0 y (mI A 0 5) (fun k => frV ls F (mI A 1 k) (mI A 17 (12 * y + k))) k).2 pa R m → At g M_Land_keepParts (lv + 3) 2 [(0, va_rf (some (gz g + t))), (1, .int (nI k))] [] m (QV Q) := by
    intro d
    induction d with
    | zero =>
      intro k pa R m hk K
      obtain rfl : k = n := by omega
      refine bk_Land_keepParts_2 g ⟨K.2.2.2.2.1.k t t1 (by omega), ?_⟩
      rw [K.1.n, kpA_I (by omega) (by omega) (by omega) (by omega) (by omega), hn, if_pos (nI_le (by omega) (by omega))]
      exact hQ pa R m K
    | succ d ih =>
      intro k pa R m hk K
      have ih1 := ih (k + 1)
      have ev : kpA A r0 y (mI A 0 5) (fun k => frV ls F (mI A 1 k) (mI A 17 (12 * y + k))) (k + 1) = kpS (kpA A r0 y (mI A 0 5) (fun k => frV ls F (mI A 1 k) (mI A 17 (12 * y + k))) k).1 (kpA A r0 y (mI A 0 5) (fun k => frV ls F (mI A 1 k) (mI A 17 (12 * y + k))) k).2 y k (mI A 0 5) (frV ls F (mI A 1 k) (mI A 17 (12 * y + k))) := rfl
      rw [ev] at ih1
      have b00 : mI (kpA A r0 y (mI A 0 5) (fun k => frV ls F (mI A 1 k) (mI A 17 (12 * y + k))) k).1 0 0 = nI n := (kpA_I (by omega) (by omega) (by omega) (by omega) (by omega) k).trans hn
      have b01' : mI (kpA A r0 y (mI A 0 5) (fun k => frV ls F (mI A 1 k) (mI A 17 (12 * y + k))) k).1 0 1 = nI y := (kpA_I (by omega) (by omega) (by omega) (by omega) (by omega) k).trans hy
      have b05 : mI (kpA A r0 y (mI A 0 5) (fun k => frV ls F (mI A 1 k) (mI A 17 (12 * y + k))) k).1 0 5 = mI A 0 5 := kpA_I (by omega) (by omega) (by omega) (by omega) (by omega) k
      have b1 : mI (kpA A r0 y (mI A 0 5) (fun k => frV ls F (mI A 1 k) (mI A 17 (12 * y + k))) k).1 1 k = mI A 1 k := kpA_I (by omega) (by omega) (by omega) (by omega) (by omega) k
      have b17 : mI (kpA A r0 y (mI A 0 5) (fun k => frV ls F (mI A 1 k) (mI A 17 (12 * y + k))) k).1 17 (12 * y + k) = mI A 17 (12 * y + k) := kpA_I (by omega) (by omega) (by omega) (by omega) (by omega) k
      have b03 := kpA_3 (y := y) (P := mI A 0 5) (fr := fun k => frV ls F (mI A 1 k) (mI A 17 (12 * y + k))) h03 k
      have br := kpA_2 (A := A) (r := r0) (y := y) (P := mI A 0 5) (fr := fun k => frV ls F (mI A 1 k) (mI A 17 (12 * y + k))) k
      generalize (kpA A r0 y (mI A 0 5) (fun k => frV ls F (mI A 1 k) (mI A 17 (12 * y + k))) k).1 = B at K ih1 b00 b01' b05 b1 b17 b03
      generalize (kpA A r0 y (mI A 0 5) (fun k => frV ls F (mI A 1 k) (mI A 17 (12 * y + k))) k).2 = r at K ih1 b03 br
      obtain ⟨C, PO, PP, ⟨rR, R4, r0r, R0R, RRr⟩, S, FF, fs, hpa, hfr, hold, hnew⟩ := id K
      have POr : PaOK g pa r := PO.weak rR
      obtain ⟨⟨g1, g2⟩, -, ⟨g6, g7, g8⟩, ⟨g9, g10, g11⟩⟩ := sh_tg ht k (by omega)
      have y9 : mI m (gz g + t) 9 = nI y := C.yr.trans b01'
      refine bk_Land_keepParts_2 g ⟨S.k t t1 (by omega), ?_⟩
      rw [C.n, b00, if_neg (nI_ge (by omega) (by omega)), y9, nI_clamp (show y < 2 ^ 31 by omega), nI_clamp (show k < 2 ^ 31 by omega), nI_s]
      refine ⟨gz g + (t + 1), S.r t 1 t10, S.k (t + 1) t8 (by omega), by rw [S.n (t + 1) t9 (by omega)]; exact vp_in_nI (N := 12) (by omega) (by omega), gz g + (t + 12 + 4 * k), S.r (t + 1) k g1, S.k (t + 12 + 4 * k) g2 (by omega), gz g + (t + 14 + 4 * k), S.r (t + 12 + 4 * k) 1 g6, S.k (t + 14 + 4 * k) g7 (by omega), by rw [S.n (t + 14 + 4 * k) g8 (by omega)]; exact vp_in_nI (N := 30) (by omega) (by omega), fun m1 e1 => ?_⟩
      rw [(C.cr hN (j := k) (k := y) (by omega) (by omega)).1]
      have C1 := C.pg hN (by omega) POr (j := k) (c := 8) (by omega) (by omega) (by omega) 0
      rw [show (8 : Nat) + 2 = 10 from rfl, ← e1] at C1
      have s1 : St (PC g t pa r) m m1 := by rw [e1]; exact St_sI m (Or.inl (by omega)) _
      clear e1
      have S1 := s1.sg S
      have y1 : mI m1 (gz g + t) 9 = nI y := by rw [C1.yr, mI_sI, up2_oth (by omega)]; exact b01'
      have v1 : mI m1 (gz g + (t + 12 + 4 * k)) 3 = mI A 1 k := by rw [show mI m1 (gz g + (t + 12 + 4 * k)) 3 = _ from C1.gr (c := 1) (by omega) (by omega) (by omega), mI_sI, up2_oth (by omega)]; exact b1
      refine ⟨gz g + (t + 15 + 4 * k), S1.r (t + 12 + 4 * k) 2 g9, gz g + (t + 5), S1.r t 4 t4r.1, S1.k (t + 5) t4r.2 (by omega), ?_⟩
      have npc : ∀ a j, gz g + (t + 5) ≤ a → a ≤ gz g + (t + 8) → ¬ PC g t pa0 R0 a j := fun a j h1 h2 q => by
        rcases q with q | ⟨i, hi, e⟩
        · omega
        · have := hp.2 i hi; omega
      have fs1 : Fs g (PC g t pa0 R0) (k + 0) m0 m1 := fs.trans s1.fs (fun a j ha q => by
        rcases q with q | ⟨i, hi, rfl⟩
        · exact Or.inl q
        · by_cases hi0 : i < R0
          · exact Or.inr ⟨i, hi0, hpa i hi0⟩
          · have := hfr i (by omega) (by omega)
            omega)
      rw [v1, b17, y1]
      refine c_frees g ht S1 (ls := ls) (F := F) ((fs1.2.2 _ _ (by omega) (npc _ _ (by omega) (by omega))).2.1.trans hl) (fun j hj => (fs1.2.2 _ _ (by omega) (npc _ _ (by omega) (by omega))).1.trans (hv j hj)) ?_
      have f01 := frV_01 ls F (mI A 1 k) (mI A 17 (12 * y + k))
      generalize frV ls F (mI A 1 k) (mI A 17 (12 * y + k)) = fr at ih1 f01 ⊢
      refine ⟨S1.k (t + 15 + 4 * k) g10 (by omega), by rw [S1.n (t + 15 + 4 * k) g11 (by omega)]; exact vp_in_nI (N := 30) (by omega) (by omega), f01, fun m2 e2 => ?_⟩
      rw [nI_clamp (show y < 2 ^ 31 by omega)] at e2
      have C2 : LandC g t pa N 30 r (kp1 B y k fr) m2 := by
        have := (C1.p17 hN (by omega) POr (j := k) (k := y) (by omega) (by omega) fr).2
        rw [← e2] at this
        exact this
      have s2 : St (PC g t pa r) m1 m2 := by rw [e2]; exact St_sI m1 (Or.inl (by omega)) _
      clear e2
      have S2 := s2.sg S1
      have y2 : mI m2 (gz g + t) 9 = nI y := by rw [C2.yr, kp1_I (by omega) (by omega)]; exact b01'
      have a18 : mI m2 (gz g + (t + 15 + 4 * k)) y = fr := by rw [(C2.cr hN (j := k) (k := y) (by omega) (by omega)).2]; unfold kp1; rw [mI_sI, up2_at]
      rw [y2, nI_clamp (show y < 2 ^ 31 by omega), a18]
      refine ⟨by rw [S2.n (t + 15 + 4 * k) g11 (by omega)]; exact vp_in_nI (N := 30) (by omega) (by omega), ?_⟩
      unfold kpS at ih1
      by_cases hfr0 : fr = 0
      · rw [if_pos hfr0] at ih1 ⊢
        have a5 : mI m2 (gz g + t) 12 = mI A 0 5 := by rw [show mI m2 (gz g + t) 12 = _ from C2.1 0 5 (by show 5 < 7; omega), kp1_I (by omega) (by omega)]; exact b05
        have a1L : mL m2 (gz g + (t + 12 + 4 * k)) 12 = mL B 1 k := C2.rs (by omega)
        rw [a5, a1L]
        refine en_SL_cutTo g (fun m3 e3 m4 e4 => ?_)
        have dv : (mI A 0 5).toInt64 * (mI A 17 (12 * y + k)).toInt64 + mL B 1 k = dueV B y k (mI A 0 5) := by unfold dueV; rw [b17]
        have kv : (lmx 0 (lmn (mI A 17 (12 * y + k)).toInt64 (dueV B y k (mI A 0 5) / 100))).toInt32 = kpV B y k (mI A 0 5) := by unfold kpV; rw [b17]
        rw [dv, kv] at e3
        rw [dv] at e4
        have C3 := C2.pg hN (by omega) POr (j := k) (c := 8) (by omega) (by omega) (by omega) (kpV B y k (mI A 0 5))
        rw [show (8 : Nat) + 2 = 10 from rfl, ← e3] at C3
        have s3 : St (PC g t pa r) m2 m3 := by rw [e3]; exact St_sI m2 (Or.inl (by omega)) _
        have a8 : mI m3 (gz g + (t + 12 + 4 * k)) 10 = kpV B y k (mI A 0 5) := by rw [show mI m3 (gz g + (t + 12 + 4 * k)) 10 = _ from C3.gr (c := 8) (by omega) (by omega) (by omega), mI_sI, up2_at]
        rw [a8] at e4
        have C4 : LandC g t pa N 30 r (kp2 B y k (mI A 0 5) fr) m4 := by
          have := C3.prs hN (j := k) (by omega) (dueV B y k (mI A 0 5) - 100 * (kpV B y k (mI A 0 5)).toInt64)
          rw [← e4] at this
          exact this
        have s4 : St (PC g t pa r) m3 m4 := by rw [e4]; exact St_sL m3 (Or.inl (by omega)) _
        clear e3 e4
        have a84 : mI m4 (gz g + (t + 12 + 4 * k)) 10 = kpV B y k (mI A 0 5) := by
          rw [show mI m4 (gz g + (t + 12 + 4 * k)) 10 = _ from C4.gr (c := 8) (by omega) (by omega) (by omega)]
          unfold kp2
          rw [mI_sL, mI_sI, up2_at]
        have s14 := ((s1.trans s2).trans s3).trans s4
        rw [a84]
        by_cases hk0 : kpV B y k (mI A 0 5) ≤ 0
        · rw [if_pos hk0] at ih1 ⊢
          exact ih1 pa R m4 (by omega) (K.st s14 C4 (by omega))
        · rw [if_neg hk0] at ih1 ⊢
          intro m5 e5
          have f4 : mI m4 (gz g + (t + 12 + 4 * k)) 9 = mI B 7 k := by rw [show mI m4 (gz g + (t + 12 + 4 * k)) 9 = _ from C4.gr (c := 7) (by omega) (by omega) (by omega), kp2_I (by omega) (by omega)]
          rw [f4] at e5
          have C5 := C4.pg hN (by omega) POr (j := k) (c := 7) (by omega) (by omega) (by omega) (mI B 7 k - kpV B y k (mI A 0 5))
          rw [show (7 : Nat) + 2 = 9 from rfl, ← e5] at C5
          have s5 : St (PC g t pa r) m4 m5 := by rw [e5]; exact St_sI m4 (Or.inl (by omega)) _
          clear e5
          have K5 := K.st (k' := k) (s14.trans s5) C5 (Nat.le_refl _)
          obtain ⟨-, -, PP5, -, S5, F5, fs5, -, -, hold5, hnew5⟩ := id K5
          have a85 : mI m5 (gz g + (t + 12 + 4 * k)) 10 = kpV B y k (mI A 0 5) := by
            rw [show mI m5 (gz g + (t + 12 + 4 * k)) 10 = _ from C5.gr (c := 8) (by omega) (by omega) (by omega), mI_sI, up2_oth (by omega)]
            unfold kp2
            rw [mI_sL, mI_sI, up2_at]
          have y5 : mI m5 (gz g + t) 9 = nI y := by rw [C5.yr, mI_sI, up2_oth (by omega), kp2_I (by omega) (by omega)]; exact b01'
          refine ⟨gz g + (t + 3), S5.r t 3 t5, S5.k (t + 3) t2 (by omega), ?_⟩
          rw [a85, y5]
          refine c_issue g S5 F5 ht C5 hN PO PP5 rR R4 (by omega) (by rw [mI_sI, up2_oth (by omega), kp2_I (by omega) (by omega)]; exact b03) _ _ _ (fun pa' R' m6 eR p1 p2 C6 PO6 PP6 F6 S6 n3 n4 fs6 mr6 => ?_)
          have a86 : mI m6 (gz g + (t + 12 + 4 * k)) 10 = kpV B y k (mI A 0 5) := by
            rw [show mI m6 (gz g + (t + 12 + 4 * k)) 10 = _ from C6.gr (c := 8) (by omega) (by omega) (by omega), issA_oth (by omega) (by omega), mI_sI, up2_oth (by omega)]
            unfold kp2
            rw [mI_sL, mI_sI, up2_at]
          refine ⟨gz g + (t + 11), S6.r t 7 t11, S6.k (t + 11) t12 (by omega), by rw [S6.n (t + 11) t13 (by omega)]; exact vp_in_nI (n := 1) (N := 8) (by omega) (by omega), by rw [S6.n (t + 11) t13 (by omega)]; exact vp_in_nI (n := 1) (N := 8) (by omega) (by omega), fun m7 e7 => ?_⟩
          have su6 : mL m6 (gz g + (t + 11)) 1 = mL B 2 1 := by
            rw [C6.su (by omega)]
            show mL (sL _ 1 k _) 2 1 = _
            rw [mL_sL, up2_oth (by omega)]
            rfl
          rw [z1, su6, a86] at e7
          have C7 : LandC g t pa' N 30 (r + 1) (kp3 B r y k (mI A 0 5) fr) m7 := by
            have := C6.ps hN (j := 1) (by omega) (mL B 2 1 + (kpV B y k (mI A 0 5)).toInt64)
            rw [← e7] at this
            exact this
          have s7 : St (PC g t pa' (r + 1)) m6 m7 := by rw [e7]; exact St_sL m6 (Or.inl (by omega)) _
          clear e7
          have hpa' : ∀ i, i < R0 → pa' i = pa0 i := fun i hi => (p1 i (by omega)).trans (hpa i hi)
          have hfr' : ∀ i, R0 ≤ i → i < R' → gz g + mC m0 ≤ pa' i := fun i h1 h2 => by
            by_cases hiR : i < R
            · rw [p1 i hiR]; exact hfr i h1 hiR
            · have := p2 i (by omega) h2
              have := fs5.2.1.1
              omega
          have K6 : KpOK g t N y r0 R0 pa0 m0 (k + 1) (issA (sI (kp2 B y k (mI A 0 5) fr) 7 k (mI B 7 k - kpV B y k (mI A 0 5))) r (nI k) (kpV B y k (mI A 0 5)) (nI y)) (r + 1) pa' R' m6 := by
            refine ⟨C6, PO6, PP6, ⟨by omega, by omega, by omega, by omega, by omega⟩, S6, F6, ?_, hpa', hfr', fun i hi => ?_, fun i h1 h2 => ?_⟩
            · refine fs5.trans fs6 (fun a j ha q => ?_)
              rcases q with q | ⟨i, hi, rfl⟩
              · exact Or.inl q
              · by_cases hi0 : i < R0
                · exact Or.inr ⟨i, hi0, hpa i hi0⟩
                · have := hfr i (by omega) (by omega)
                  omega
            · rw [← hpa i (by omega), mr6 i (by omega) (by omega), hpa i (by omega)]
              exact hold5 i hi
            · by_cases hir : i = r
              · subst hir; exact ⟨n3, n4⟩
              · rw [p1 i (by omega), mr6 i (by omega) hir]
                exact hnew5 i h1 (by omega)
          exact ih1 pa' R' m7 (by omega) (K6.st s7 C7 (Nat.le_refl _))
      · rw [if_neg hfr0] at ih1 ⊢
        exact ih1 pa R m2 (by omega) (K.st (s1.trans s2) C2 (by omega))
  exact en_Land_keepParts g (loop n 0 pa0 R0 m0 (by omega) ⟨hC, hp, hP, ⟨hrR, hR4, Nat.le_refl _, Nat.le_refl _, Or.inl rfl⟩, hS, hF, Fs.refl _ _ _ _, fun _ _ => rfl, fun i h1 h2 => absurd h2 (by omega), fun _ _ => rfl, fun i h1 h2 => absurd h2 (by
    have : (kpA A r0 y (mI A 0 5) (fun k => frV ls F (mI A 1 k) (mI A 17 (12 * y + k))) 0).2 = r0 := rfl
    omega)⟩)
