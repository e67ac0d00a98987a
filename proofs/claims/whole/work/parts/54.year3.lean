/-! ===== the year, the class's side: the store is sold and stilled ===== -/
def soldA (A : Mm) (i : Nat) (s p : Int32) (w : Nat) : Mm := sL (sL (sI A 10 i (mI A 10 i - s)) 0 (mI A 9 i).toNatClampNeg (mL A 0 (mI A 9 i).toNatClampNeg + s.toInt64 * p.toInt64)) 2 w (mL A 2 w + s.toInt64)
theorem soldA_I {A : Mm} {i c j w : Nat} {s p : Int32} (h : c ≠ 10) : mI (soldA A i s p w) c j = mI A c j := by unfold soldA; rw [mI_sL, mI_sL, mI_sI, up2_oth h]
theorem soldA_10 {A : Mm} {i j w : Nat} {s p : Int32} (h : j ≠ i) : mI (soldA A i s p w) 10 j = mI A 10 j := by unfold soldA; rw [mI_sL, mI_sL, mI_sI, up2_sl h]
def ssA (A : Mm) (p : Int32) (S : Int64) : Nat → Mm × Int64
  | 0 => (A, S)
  | k + 1 => (soldA (ssA A p S k).1 k (lmn (ssA A p S k).2 (mI (ssA A p S k).1 10 k).toInt64).toInt32 p 3, (ssA A p S k).2 - (lmn (ssA A p S k).2 (mI (ssA A p S k).1 10 k).toInt64).toInt32.toInt64)
theorem ssA_I {A : Mm} {p : Int32} {S : Int64} {c i : Nat} (h : c ≠ 10) : ∀ k, mI (ssA A p S k).1 c i = mI A c i
  | 0 => rfl
  | k + 1 => by
    show mI (soldA _ _ _ _ _) c i = _
    rw [soldA_I h, ssA_I h k]
theorem c_sellStored (g : Gc) {lv t N n y r r0 R : Nat} {A m0 : Mm} {pa : Nat → Nat} {S0 : Int64} (ht : t = 2 ∨ t = 65) (hp : PaOK g pa r) (hn : mI A 0 0 = nI n) (hnN : n ≤ N) (hN : N ≤ 12) (hr0 : r0 ≤ r) (hrR : r ≤ R) (hR4 : R ≤ 400) (h03 : mI A 0 3 = nI r) (hh : HoldOK n r A) (hS : Sg g m0) (hP : Pap g t pa R m0) (hC : LandC g t pa N y r A m0) (hj : mL m0 (gz g + (t + 5)) 8 = S0) {Q : Mm → Prop} (hQ : ∀ m', LandC g t pa N y r (ssA A (mI A 0 2) S0 r0).1 m' → St (PC g t pa r) m0 m' → Q m') : CV g M_Land_sellStored (lv + 3) [va_rf (some (gz g + t)), .int (nI r0)] m0 Q := by
  obtain ⟨⟨t1, t2, t3, t4, t5, t6⟩, t7, t8, t9, t10, t11, t12, t13⟩ := sh_t ht
  have z3 : (3 : Int32).toNatClampNeg = 3 := rfl
  have t4r : shR t 4 = some (t + 5) ∧ shK (t + 5) = 3 := by rcases ht with rfl | rfl <;> exact ⟨rfl, rfl⟩
  have loop : ∀ (d k : Nat) (m : Mm), k + d = r0 → LandC g t pa N y r (ssA A (mI A 0 2) S0 k).1 m → St (PC g t pa r) m0 m → At g M_Land_sellStored (lv + 3) 11 [(0, va_rf (some (gz g + t))), (1, .int (nI r0)), (2, .long (ssA A (mI A 0 2) S0 k).2), (4, .int (nI k))] [] m (QV Q) := by
    intro d
    induction d with
    | zero =>
      intro k m hk C s
      obtain rfl : k = r0 := by omega
      refine bk_Land_sellStored_11 g ?_
      rw [if_pos (nI_le (by omega) (by omega))]
      exact hQ m C s
    | succ d ih =>
      intro k m hk C s
      have S := s.sg hS
      obtain ⟨p1, p2, p3⟩ := (s.pap hP).1 k (by omega)
      have pk := hp.2 k (by omega)
      refine bk_Land_sellStored_11 g ?_
      rw [if_neg (nI_ge (by omega) (by omega))]
      refine ⟨S.k t t1 (by omega), gz g + (t + 3), S.r t 3 t5, S.k (t + 3) t2 (by omega), ?_⟩
      rw [C.rn, ssA_I (by omega), h03, if_neg (nI_ge (by omega) (by omega)), nI_clamp (by omega), nI_s]
      refine ⟨gz g + (t + 4), S.r (t + 3) 0 t6, S.k (t + 4) t3 (by omega), by rw [S.n (t + 4) t4 (by omega)]; exact vp_in_nI (N := 400) (by omega) (by omega), pa k, p1, p2, fun m1 e1 => ?_⟩
      have pr : mI (ssA A (mI A 0 2) S0 k).1 0 2 = mI A 0 2 := ssA_I (by omega) k
      obtain ⟨h, hh1, hh2⟩ := hh k (by omega)
      have h9 : mI (ssA A (mI A 0 2) S0 k).1 9 k = nI h := (ssA_I (by omega) k).trans hh1
      have h00 : mI (ssA A (mI A 0 2) S0 k).1 0 0 = nI n := (ssA_I (by omega) k).trans hn
      have ih1 := ih (k + 1)
      have ev : ssA A (mI A 0 2) S0 (k + 1) = (soldA (ssA A (mI A 0 2) S0 k).1 k (lmn (ssA A (mI A 0 2) S0 k).2 (mI (ssA A (mI A 0 2) S0 k).1 10 k).toInt64).toInt32 (mI A 0 2) 3, (ssA A (mI A 0 2) S0 k).2 - (lmn (ssA A (mI A 0 2) S0 k).2 (mI (ssA A (mI A 0 2) S0 k).1 10 k).toInt64).toInt32.toInt64) := rfl
      rw [ev] at ih1
      generalize (ssA A (mI A 0 2) S0 k).1 = B at C pr h9 h00 ih1 ⊢
      generalize (ssA A (mI A 0 2) S0 k).2 = L at ih1 ⊢ e1
      have c10 : mI m (pa k) 1 = mI B 10 k := (C.rc (show k < r by omega)).2.1
      rw [c10] at e1
      rw [c10]
      generalize (lmn L (mI B 10 k).toInt64).toInt32 = sv at ih1 ⊢ e1
      have C1 := (C.p9 hN (by omega) hp (i := k) (by omega) (mI B 10 k - sv)).2
      rw [← e1] at C1
      have s1 : St (PC g t pa r) m m1 := by rw [e1]; exact St_sI m (Or.inr ⟨k, by omega, rfl⟩) _
      have S1 := s1.sg S
      have a9 : mI m1 (pa k) 0 = nI h := by rw [(C1.rc (show k < r by omega)).1, mI_sI, up2_oth (by omega)]; exact h9
      have a10 : mI m1 (gz g + t) 10 = mI A 0 2 := by rw [C1.pr, mI_sI, up2_oth (by omega)]; exact pr
      rw [a9, a10]
      refine c_credit g S1 ht C1 (by rw [mI_sI, up2_oth (by omega)]; exact h00) hnN hN hh2 _ (fun m2 C2 s2 => ?_)
      have S2 := s2.sg S1
      refine ⟨gz g + (t + 11), S2.r t 7 t11, S2.k (t + 11) t12 (by omega), by rw [S2.n (t + 11) t13 (by omega)]; exact vp_in_nI (n := 3) (N := 8) (by omega) (by omega), by rw [S2.n (t + 11) t13 (by omega)]; exact vp_in_nI (n := 3) (N := 8) (by omega) (by omega), fun m3 e3 => ?_⟩
      rw [z3, C2.su (by omega), mL_sL, up2_oth (by omega), mL_sI] at e3
      have C3 := C2.ps hN (j := 3) (by omega) (mL B 2 3 + sv.toInt64)
      rw [← e3] at C3
      have hc : (mI B 9 k).toNatClampNeg = h := by rw [h9, nI_clamp (by omega)]
      refine ih1 m3 (by omega) ?_ (((s.trans s1).trans s2).trans ?_)
      · unfold soldA
        rw [hc]
        exact C3
      · rw [e3]; exact St_sL m2 (Or.inl (by omega)) _
  refine en_Land_sellStored g ⟨hS.k t t1 (by omega), gz g + (t + 5), hS.r t 4 t4r.1, hS.k (t + 5) t4r.2 (by omega), ?_⟩
  rw [hj]
  exact loop r0 0 m0 (by omega) hC (St.refl _ _)
def slS (A : Mm) (k : Nat) (T p : Int32) : Mm := if mI A 0 1 - mI A 11 k ≤ T then A else soldA A k (mI A 10 k) p 5
def slA (A : Mm) (T p : Int32) : Nat → Mm
  | 0 => A
  | k + 1 => slS (slA A T p k) k T p
theorem slS_I {A : Mm} {k c i : Nat} {T p : Int32} (h : c ≠ 10) : mI (slS A k T p) c i = mI A c i := by
  unfold slS
  split
  · rfl
  · exact soldA_I h
theorem slA_I {A : Mm} {c i : Nat} {T p : Int32} (h : c ≠ 10) : ∀ k, mI (slA A T p k) c i = mI A c i
  | 0 => rfl
  | k + 1 => by
    show mI (slS _ _ _ _) c i = _
    rw [slS_I h, slA_I h k]
theorem c_stillStored (g : Gc) {lv t N n y r R : Nat} {A m0 : Mm} {pa : Nat → Nat} {T : Int32} (ht : t = 2 ∨ t = 65) (hp : PaOK g pa r) (hn : mI A 0 0 = nI n) (hnN : n ≤ N) (hN : N ≤ 12) (hrR : r ≤ R) (hR4 : R ≤ 400) (h03 : mI A 0 3 = nI r) (hh : HoldOK n r A) (hS : Sg g m0) (hP : Pap g t pa R m0) (hC : LandC g t pa N y r A m0) (hj : mI m0 (gz g + (t + 5)) 6 = T) {Q : Mm → Prop} (hQ : ∀ m', LandC g t pa N y r (if T = -1 then A else slA A T (mI A 0 2 / 4) r) m' → St (PC g t pa r) m0 m' → Q m') : CV g M_Land_stillStored (lv + 3) [va_rf (some (gz g + t))] m0 Q := by
  obtain ⟨⟨t1, t2, t3, t4, t5, t6⟩, t7, t8, t9, t10, t11, t12, t13⟩ := sh_t ht
  have z5 : (5 : Int32).toNatClampNeg = 5 := rfl
  have t4r : shR t 4 = some (t + 5) ∧ shK (t + 5) = 3 := by rcases ht with rfl | rfl <;> exact ⟨rfl, rfl⟩
  have tm : ∀ m, St (PC g t pa r) m0 m → mI m (gz g + (t + 5)) 6 = T := fun m s => by
    refine Eq.trans (s.2 _ _ (fun q => ?_)).1 hj
    rcases q with q | ⟨k, hk, e⟩
    · omega
    · have := hp.2 k hk; omega
  refine en_Land_stillStored g ⟨hS.k t t1 (by omega), gz g + (t + 5), hS.r t 4 t4r.1, hS.k (t + 5) t4r.2 (by omega), ?_⟩
  rw [hj]
  by_cases hT : T = -1
  · rw [if_pos hT]
    rw [if_pos hT] at hQ
    exact hQ m0 hC (St.refl _ _)
  rw [if_neg hT]
  rw [if_neg hT] at hQ
  have loop : ∀ (d k : Nat) (m : Mm), k + d = r → LandC g t pa N y r (slA A T (mI A 0 2 / 4) k) m → St (PC g t pa r) m0 m → At g M_Land_stillStored (lv + 3) 14 [(0, va_rf (some (gz g + t))), (1, .int (nI k))] [] m (QV Q) := by
    intro d
    induction d with
    | zero =>
      intro k m hk C s
      obtain rfl : k = r := by omega
      have S := s.sg hS
      refine bk_Land_stillStored_14 g ⟨S.k t t1 (by omega), gz g + (t + 3), S.r t 3 t5, S.k (t + 3) t2 (by omega), ?_⟩
      rw [C.rn, slA_I (by omega), h03, if_pos (nI_le (by omega) (by omega))]
      exact hQ m C s
    | succ d ih =>
      intro k m hk C s
      have S := s.sg hS
      obtain ⟨p1, p2, p3⟩ := (s.pap hP).1 k (by omega)
      have pk := hp.2 k (by omega)
      refine bk_Land_stillStored_14 g ⟨S.k t t1 (by omega), gz g + (t + 3), S.r t 3 t5, S.k (t + 3) t2 (by omega), ?_⟩
      rw [C.rn, slA_I (by omega), h03, if_neg (nI_ge (by omega) (by omega)), nI_clamp (by omega), nI_s]
      refine ⟨gz g + (t + 4), S.r (t + 3) 0 t6, S.k (t + 4) t3 (by omega), by rw [S.n (t + 4) t4 (by omega)]; exact vp_in_nI (N := 400) (by omega) (by omega), pa k, p1, p2, gz g + (t + 5), S.r t 4 t4r.1, S.k (t + 5) t4r.2 (by omega), ?_⟩
      have pr : mI (slA A T (mI A 0 2 / 4) k) 0 2 = mI A 0 2 := slA_I (by omega) k
      obtain ⟨h, hh1, hh2⟩ := hh k (by omega)
      have h9 : mI (slA A T (mI A 0 2 / 4) k) 9 k = nI h := (slA_I (by omega) k).trans hh1
      have h00 : mI (slA A T (mI A 0 2 / 4) k) 0 0 = nI n := (slA_I (by omega) k).trans hn
      have ih1 := ih (k + 1)
      have ev : slA A T (mI A 0 2 / 4) (k + 1) = slS (slA A T (mI A 0 2 / 4) k) k T (mI A 0 2 / 4) := rfl
      rw [ev] at ih1
      generalize slA A T (mI A 0 2 / 4) k = B at C pr h9 h00 ih1
      rw [C.yr, (C.rc (show k < r by omega)).2.2, tm m s, C.pr, pr, (C.rc (show k < r by omega)).1, (C.rc (show k < r by omega)).2.1, h9]
      unfold slS at ih1
      by_cases h1 : mI B 0 1 - mI B 11 k ≤ T
      · rw [if_pos h1] at ih1 ⊢
        exact ih1 m (by omega) C s
      rw [if_neg h1] at ih1 ⊢
      refine c_credit g S ht C h00 hnN hN hh2 _ (fun m2 C2 s2 => ?_)
      have S2 := s2.sg S
      refine ⟨gz g + (t + 11), S2.r t 7 t11, S2.k (t + 11) t12 (by omega), by rw [S2.n (t + 11) t13 (by omega)]; exact vp_in_nI (n := 5) (N := 8) (by omega) (by omega), by rw [S2.n (t + 11) t13 (by omega)]; exact vp_in_nI (n := 5) (N := 8) (by omega) (by omega), fun m3 e3 m4 e4 => ?_⟩
      rw [z5, C2.su (by omega), (C2.rc (show k < r by omega)).2.1, mL_sL, up2_oth (by omega), mI_sL] at e3
      have C3 := C2.ps hN (j := 5) (by omega) (mL B 2 5 + (mI B 10 k).toInt64)
      rw [← e3] at C3
      have C4 := (C3.p9 hN (by omega) hp (i := k) (by omega) 0).2
      rw [← e4] at C4
      have hc : (mI B 9 k).toNatClampNeg = h := by rw [h9, nI_clamp (by omega)]
      refine ih1 m4 (by omega) ?_ ((s.trans s2).trans ?_)
      · unfold soldA
        rw [hc, Int32.sub_self]
        exact C4
      · rw [e4, e3]
        exact (St_sL m2 (Or.inl (by omega)) _).trans (St_sI _ (Or.inr ⟨k, by omega, rfl⟩) _)
  exact loop r 0 m0 (by omega) hC (St.refl _ _)
