/-! ===== the year, the class's side: the law is asked ===== -/
theorem cI_nj {t n y r c i : Nat} {pa : Nat → Nat} (hv : vI n y r c i) (hc : c ≠ 9 ∧ c ≠ 10 ∧ c ≠ 11) : ¬ (t + 5 ≤ (cI t pa c i).1 ∧ (cI t pa c i).1 ≤ t + 8) := by
  unfold vI at hv
  split at hv
  · rcases (show i = 0 ∨ i = 1 ∨ i = 2 ∨ i = 3 ∨ i = 4 ∨ i = 5 ∨ i = 6 by omega) with rfl | rfl | rfl | rfl | rfl | rfl | rfl <;> simp [cI]
  · exact absurd rfl hc.1
  · exact absurd rfl hc.2.1
  · exact absurd rfl hc.2.2
  · show ¬ (t + 5 ≤ t + 13 + 4 * (i % 12) ∧ t + 13 + 4 * (i % 12) ≤ t + 8); omega
  · show ¬ (t + 5 ≤ t + 14 + 4 * (i % 12) ∧ t + 14 + 4 * (i % 12) ≤ t + 8); omega
  · show ¬ (t + 5 ≤ t + 15 + 4 * (i % 12) ∧ t + 15 + 4 * (i % 12) ≤ t + 8); omega
  · show ¬ (t + 5 ≤ t + 9 ∧ t + 9 ≤ t + 8); omega
  · show ¬ (t + 5 ≤ t + 10 ∧ t + 10 ≤ t + 8); omega
  · show ¬ (t + 5 ≤ t + 60 + i ∧ t + 60 + i ≤ t + 8); omega
  · show ¬ (t + 5 ≤ t + 60 + i ∧ t + 60 + i ≤ t + 8); omega
  · obtain ⟨h1, h2, h3⟩ := hv
    have he : cI t pa c i = (t + 12 + 4 * i, c + 2) := by
      rcases (show c = 1 ∨ c = 2 ∨ c = 3 ∨ c = 4 ∨ c = 5 ∨ c = 6 ∨ c = 7 ∨ c = 8 by omega) with rfl | rfl | rfl | rfl | rfl | rfl | rfl | rfl <;> rfl
    rw [he]
    show ¬ (t + 5 ≤ t + 12 + 4 * i ∧ t + 12 + 4 * i ≤ t + 8)
    omega
theorem cJ_nj {t n c i : Nat} (hn : n ≤ 12) (hv : vJ n c i) : ¬ (t + 5 ≤ (cJ t c i).1 ∧ (cJ t c i).1 ≤ t + 8) := by
  unfold vJ at hv
  split at hv
  · simp only [cJ]
    split <;> simp only <;> omega
  · simp only [cJ]
    omega
  · simp only [cJ]
    omega
  · exact absurd hv id
/-- the judge's cells -/
def PJ (g : Gc) (t : Nat) (a _j : Nat) : Prop := gz g + (t + 5) ≤ a ∧ a ≤ gz g + (t + 8)
theorem LandC.judge {g : Gc} {t : Nat} {pa : Nat → Nat} {N y r : Nat} {A m m' : Mm} (h : LandC g t pa N y r A m) (hN : N ≤ 12) (ht : t + 63 ≤ 184) (hp : PaOK g pa r) (hs : ∀ a j, ¬ PJ g t a j → mI m' a j = mI m a j ∧ mL m' a j = mL m a j) : LandC g t pa N y r A m' := by
  refine ⟨h.1.off (fun c i hv => (hs _ _ (fun q => ?_)).1), h.2.off (fun c i hv => (hs _ _ (fun q => ?_)).2)⟩
  · unfold PJ at q
    by_cases hc : c = 9 ∨ c = 10 ∨ c = 11
    · have : ∃ k, k < r ∧ (cI (gz g + t) pa c i).1 = pa k := by
        rcases hc with rfl | rfl | rfl
        · exact ⟨i, hv, rfl⟩
        · exact ⟨i, hv, rfl⟩
        · exact ⟨i, hv, rfl⟩
      obtain ⟨k, hk, e⟩ := this
      have := hp.2 k hk
      omega
    · have := cI_nj (t := gz g + t) (pa := pa) hv (by omega)
      omega
  · have := cJ_nj (t := gz g + t) hN hv
    unfold PJ at q
    omega
def crpL (A : Mm) (y : Nat) : Nat → Int64
  | 0 => 0
  | k + 1 => crpL A y k + (mI A 17 (12 * y + k)).toInt64
/-- what the law may ask for -/
def factA (A : Mm) (y r n : Nat) (j : Nat) : Int64 := if j = 0 then crpL A y n else if j = 1 then sacB A 30 r else if j = 2 then sacB A (nI y - 1) r else if j = 3 then (mI A 0 2).toInt64 else if j = 4 then (mI A 0 4).toInt64 else (mI A 0 1).toInt64
def VerC (g : Gc) (t : Nat) (P : Int32) (Sd ls : Int64) (F : Nat → Int32) (T : Int32) (m : Mm) : Prop := mI m (gz g + (t + 5)) 5 = P ∧ mL m (gz g + (t + 5)) 8 = Sd ∧ mL m (gz g + (t + 5)) 7 = ls ∧ mI m (gz g + (t + 5)) 6 = T ∧ ∀ j, j < 8 → mI m (gz g + (t + 8)) j = F j
theorem c_apply (g : Gc) {lv t N n y r R : Nat} {A m0 : Mm} {pa : Nat → Nat} {o : Option Nat} {P : Int32} {Sd ls : Int64} {F : Nat → Int32} {T : Int32} (ht : t = 2 ∨ t = 65) (hp : PaOK g pa r) (hn : mI A 0 0 = nI n) (hnN : n ≤ N) (hN : N ≤ 12) (hy : mI A 0 1 = nI y) (h30 : y < 30) (hrR : r ≤ R) (hR4 : R ≤ 400) (h03 : mI A 0 3 = nI r) (hS : Sg g m0) (hP : Pap g t pa R m0) (hC : LandC g t pa N 30 r A m0) (hH : ∀ m1, St (PJ g t) m0 m1 → (∀ j, j < 6 → mL m1 (gz g + (t + 6)) j = factA A y r n j) → CV g M_Judge_hear (lv + 2) [va_rf (some (gz g + (t + 5))), va_rf o] m1 (fun m2 => VerC g t P Sd ls F T m2 ∧ St (PJ g t) m1 m2)) {Q : Mm → Prop} (hQ : ∀ m', LandC g t pa N 30 r (sI (sI A 0 5 P) 20 y P) m' → VerC g t P Sd ls F T m' → St (fun a j => PC g t pa r a j ∨ PJ g t a j) m0 m' → Q m') : CV g M_Land_applyLaw (lv + 3) [va_rf (some (gz g + t)), va_rf o] m0 Q := by
  obtain ⟨⟨t1, t2, t3, t4, t5, t6⟩, t7, t8, t9, t10, t11, t12, t13⟩ := sh_t ht
  have t4r : shR t 4 = some (t + 5) ∧ shK (t + 5) = 3 ∧ shR (t + 5) 0 = some (t + 6) ∧ shK (t + 6) = 16 ∧ shN (t + 6) = 6 ∧ shR t 6 = some (t + 10) ∧ shK (t + 10) = 15 ∧ shN (t + 10) = 30 := by rcases ht with rfl | rfl <;> exact ⟨rfl, rfl, rfl, rfl, rfl, rfl, rfl, rfl⟩
  obtain ⟨j1, j2, j3, j4, j5, j6, j7, j8⟩ := t4r
  have y9 : mI m0 (gz g + t) 9 = nI y := hC.yr.trans hy
  have c0 : (0 : Int32).toNatClampNeg = 0 := rfl
  have c1 : (1 : Int32).toNatClampNeg = 1 := rfl
  have c2 : (2 : Int32).toNatClampNeg = 2 := rfl
  have c3 : (3 : Int32).toNatClampNeg = 3 := rfl
  have c4 : (4 : Int32).toNatClampNeg = 4 := rfl
  have c5 : (5 : Int32).toNatClampNeg = 5 := rfl
  have vin : ∀ (m : Mm) (j : Nat), Sg g m → j < 6 → vp_in (nI j) (mN m (gz g + (t + 6))) := fun m j S hj => by rw [S.n (t + 6) j5 (by omega)]; exact vp_in_nI (N := 6) hj (by omega)
  have loop : ∀ (d k : Nat), k + d = n → At g M_Land_applyLaw (lv + 3) 5 [(0, va_rf (some (gz g + t))), (1, va_rf o), (2, .long (crpL A y k)), (4, .int (nI k))] [] m0 (QV Q) := by
    intro d
    induction d with
    | zero =>
      intro k hk
      obtain rfl : k = n := by omega
      refine bk_Land_applyLaw_5 g ⟨hS.k t t1 (by omega), ?_⟩
      rw [hC.n, hn, if_pos (nI_le (by omega) (by omega))]
      refine ⟨gz g + (t + 5), hS.r t 4 j1, hS.k (t + 5) j2 (by omega), gz g + (t + 6), hS.r (t + 5) 0 j3, hS.k (t + 6) j4 (by omega), vin m0 0 hS (by omega), fun m1 e1 => ?_⟩
      rw [c0] at e1
      have s1 : St (PJ g t) m0 m1 := by rw [e1]; exact St_sL m0 (by unfold PJ; omega) _
      have S1 := s1.sg hS
      have C1 := hC.judge hN (by omega) hp s1.2
      refine ⟨gz g + (t + 3), S1.r t 3 t5, S1.k (t + 3) t2 (by omega), c_sacA g S1 ht C1 (s1.pap hP) hrR hR4 h03 ⟨vin m1 1 S1 (by omega), fun m2 e2 => ?_⟩⟩
      rw [c1] at e2
      have s2 : St (PJ g t) m1 m2 := by rw [e2]; exact St_sL m1 (by unfold PJ; omega) _
      have S2 := s2.sg S1
      have C2 := C1.judge hN (by omega) hp s2.2
      rw [show mI m2 (gz g + t) 9 = nI y from C2.yr.trans hy]
      refine c_sacB g S2 ht C2 (s2.pap (s1.pap hP)) hrR hR4 h03 ⟨vin m2 2 S2 (by omega), fun m3 e3 => ?_⟩
      rw [c2] at e3
      have s3 : St (PJ g t) m2 m3 := by rw [e3]; exact St_sL m2 (by unfold PJ; omega) _
      have S3 := s3.sg S2
      have C3 := C2.judge hN (by omega) hp s3.2
      refine ⟨vin m3 3 S3 (by omega), fun m4 e4 => ?_⟩
      rw [c3, C3.pr] at e4
      have s4 : St (PJ g t) m3 m4 := by rw [e4]; exact St_sL m3 (by unfold PJ; omega) _
      have S4 := s4.sg S3
      have C4 := C3.judge hN (by omega) hp s4.2
      refine ⟨vin m4 4 S4 (by omega), fun m5 e5 => ?_⟩
      rw [c4, show mI m4 (gz g + t) 11 = mI A 0 4 from C4.1 0 4 (by show 4 < 7; omega)] at e5
      have s5 : St (PJ g t) m4 m5 := by rw [e5]; exact St_sL m4 (by unfold PJ; omega) _
      have S5 := s5.sg S4
      have C5 := C4.judge hN (by omega) hp s5.2
      refine ⟨vin m5 5 S5 (by omega), fun m6 e6 => ?_⟩
      rw [c5, C5.yr] at e6
      have s6 : St (PJ g t) m5 m6 := by rw [e6]; exact St_sL m5 (by unfold PJ; omega) _
      have C6 := C5.judge hN (by omega) hp s6.2
      have s06 := ((((s1.trans s2).trans s3).trans s4).trans s5).trans s6
      have fc : ∀ j, j < 6 → mL m6 (gz g + (t + 6)) j = factA A y r k j := by
        intro j hj
        rw [e6, e5, e4, e3, e2, e1]
        simp only [mL_sL]
        rcases (show j = 0 ∨ j = 1 ∨ j = 2 ∨ j = 3 ∨ j = 4 ∨ j = 5 by omega) with rfl | rfl | rfl | rfl | rfl | rfl <;> simp [up2, factA]
      clear e1 e2 e3 e4 e5 e6
      refine CV.monoE (hH m6 s06 fc) (fun m7 h7 hE => ?_)
      obtain ⟨V7, s7⟩ := h7
      have S7 := s7.sg (s06.sg hS)
      have C7 := C6.judge hN (by omega) hp s7.2
      intro m8 e8
      rw [V7.1] at e8
      have C8 := (C7.p0 hN (by omega) hp P).2.2.2.1
      rw [← e8] at C8
      have s8 : St (PC g t pa r) m7 m8 := by rw [e8]; exact St_sI m7 (Or.inl (by omega)) _
      have S8 := s8.sg S7
      have y8 : mI m8 (gz g + t) 9 = nI y := by rw [C8.yr, mI_sI, up2_sl (by omega)]; exact hy
      have p8 : mI m8 (gz g + t) 12 = P := by rw [show mI m8 (gz g + t) 12 = _ from C8.1 0 5 (by show 5 < 7; omega), mI_sI, up2_at]
      refine ⟨gz g + (t + 10), S8.r t 6 j6, S8.k (t + 10) j7 (by omega), ?_⟩
      rw [y8, p8, nI_clamp (by omega)]
      refine ⟨by rw [S8.n (t + 10) j8 (by omega)]; exact vp_in_nI (N := 30) (by omega) (by omega), fun m9 e9 => ?_⟩
      have C9 := (C8.py hN (by omega) hp (i := y) (by omega) P).2
      rw [← e9] at C9
      have s9 : St (PC g t pa r) m8 m9 := by rw [e9]; exact St_sI m8 (Or.inl (by omega)) _
      have npc : ∀ a j, gz g + (t + 5) ≤ a → a ≤ gz g + (t + 8) → ¬ PC g t pa r a j := fun a j h1 h2 q => by
        rcases q with q | ⟨i, hi, e⟩
        · omega
        · have := hp.2 i hi; omega
      have s79 := s8.trans s9
      have V9 : VerC g t P Sd ls F T m9 := by
        obtain ⟨v1, v2, v3, v4, v5⟩ := V7
        refine ⟨(s79.2 _ _ (npc _ _ (by omega) (by omega))).1.trans v1, (s79.2 _ _ (npc _ _ (by omega) (by omega))).2.trans v2, (s79.2 _ _ (npc _ _ (by omega) (by omega))).2.trans v3, (s79.2 _ _ (npc _ _ (by omega) (by omega))).1.trans v4, fun j hj => (s79.2 _ _ (npc _ _ (by omega) (by omega))).1.trans (v5 j hj)⟩
      exact hQ m9 C9 V9 (((s06.trans s7).weak (fun a j q => Or.inr q)).trans (s79.weak (fun a j q => Or.inl q)))
    | succ d ih =>
      intro k hk
      obtain ⟨⟨g1, g2⟩, -, ⟨g6, g7, g8⟩, -⟩ := sh_tg ht k (by omega)
      refine bk_Land_applyLaw_5 g ⟨hS.k t t1 (by omega), ?_⟩
      rw [hC.n, hn, if_neg (nI_ge (by omega) (by omega)), nI_clamp (by omega), y9, nI_clamp (by omega), nI_s]
      refine ⟨gz g + (t + 1), hS.r t 1 t10, hS.k (t + 1) t8 (by omega), by rw [hS.n (t + 1) t9 (by omega)]; exact vp_in_nI (N := 12) (by omega) (by omega), gz g + (t + 12 + 4 * k), hS.r (t + 1) k g1, hS.k (t + 12 + 4 * k) g2 (by omega), gz g + (t + 14 + 4 * k), hS.r (t + 12 + 4 * k) 1 g6, hS.k (t + 14 + 4 * k) g7 (by omega), by rw [hS.n (t + 14 + 4 * k) g8 (by omega)]; exact vp_in_nI (N := 30) (by omega) (by omega), ?_⟩
      rw [(hC.cr hN (j := k) (k := y) (by omega) (by omega)).1]
      exact ih (k + 1) (by omega)
  exact en_Land_applyLaw g (loop n 0 (by omega))
