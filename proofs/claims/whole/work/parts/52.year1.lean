/-! ===== the year: one store in either land of the class; gathering ===== -/
theorem LandC.pg {g : Gc} {t : Nat} {pa : Nat → Nat} {N y r j c : Nat} {A m : Mm} (h : LandC g t pa N y r A m) (hN : N ≤ 12) (ht : t + 63 ≤ 184) (hp : PaOK g pa r) (hj : j < N) (h1 : 1 ≤ c) (h8 : c ≤ 8) (v : Int32) : LandC g t pa N y r (sI A c j v) (sI m (gz g + (t + 12 + 4 * j)) (c + 2) v) := by
  have e : gz g + t + 12 + 4 * j = gz g + (t + 12 + 4 * j) := by omega
  rcases (show c = 1 ∨ c = 2 ∨ c = 3 ∨ c = 4 ∨ c = 5 ∨ c = 6 ∨ c = 7 ∨ c = 8 by omega) with rfl | rfl | rfl | rfl | rfl | rfl | rfl | rfl
  · exact h.putI hN ht hp (c := 1) (i := j) ⟨h1, h8, hj⟩ (Prod.ext e rfl) v
  · exact h.putI hN ht hp (c := 2) (i := j) ⟨h1, h8, hj⟩ (Prod.ext e rfl) v
  · exact h.putI hN ht hp (c := 3) (i := j) ⟨h1, h8, hj⟩ (Prod.ext e rfl) v
  · exact h.putI hN ht hp (c := 4) (i := j) ⟨h1, h8, hj⟩ (Prod.ext e rfl) v
  · exact h.putI hN ht hp (c := 5) (i := j) ⟨h1, h8, hj⟩ (Prod.ext e rfl) v
  · exact h.putI hN ht hp (c := 6) (i := j) ⟨h1, h8, hj⟩ (Prod.ext e rfl) v
  · exact h.putI hN ht hp (c := 7) (i := j) ⟨h1, h8, hj⟩ (Prod.ext e rfl) v
  · exact h.putI hN ht hp (c := 8) (i := j) ⟨h1, h8, hj⟩ (Prod.ext e rfl) v
theorem LandC.pm {g : Gc} {t : Nat} {pa : Nat → Nat} {N y r j : Nat} {A m : Mm} (h : LandC g t pa N y r A m) (hN : N ≤ 12) (hj : j < N) (v : Int64) : LandC g t pa N y r (sL A 0 j v) (sL m (gz g + (t + 12 + 4 * j)) 11 v) := by
  refine h.putJ hN (c := 0) (i := j) (Or.inl hj) ?_ v
  simp only [cJ]
  rw [if_pos (by omega)]
  exact Prod.ext (by simp only; omega) rfl
theorem LandC.prs {g : Gc} {t : Nat} {pa : Nat → Nat} {N y r j : Nat} {A m : Mm} (h : LandC g t pa N y r A m) (hN : N ≤ 12) (hj : j < N) (v : Int64) : LandC g t pa N y r (sL A 1 j v) (sL m (gz g + (t + 12 + 4 * j)) 12 v) :=
  h.putJ hN (c := 1) (i := j) (a := gz g + (t + 12 + 4 * j)) (j := 12) hj (Prod.ext (by show gz g + t + 12 + 4 * j = _; omega) rfl) v
theorem LandC.ps {g : Gc} {t : Nat} {pa : Nat → Nat} {N y r j : Nat} {A m : Mm} (h : LandC g t pa N y r A m) (hN : N ≤ 12) (hj : j < 8) (v : Int64) : LandC g t pa N y r (sL A 2 j v) (sL m (gz g + (t + 11)) j v) :=
  h.putJ hN (c := 2) (i := j) hj (Prod.ext (by show gz g + t + 11 = _; omega) rfl) v
theorem LandC.p0 {g : Gc} {t : Nat} {pa : Nat → Nat} {N y r : Nat} {A m : Mm} (h : LandC g t pa N y r A m) (hN : N ≤ 12) (ht : t + 63 ≤ 184) (hp : PaOK g pa r) (v : Int32) : LandC g t pa N y r (sI A 0 1 v) (sI m (gz g + t) 9 v) ∧ LandC g t pa N y r (sI A 0 2 v) (sI m (gz g + t) 10 v) ∧ LandC g t pa N y r (sI A 0 4 v) (sI m (gz g + t) 11 v) ∧ LandC g t pa N y r (sI A 0 5 v) (sI m (gz g + t) 12 v) ∧ LandC g t pa N y r (sI A 0 6 v) (sI m (gz g + t) 13 v) :=
  ⟨h.putI hN ht hp (c := 0) (i := 1) (by show 1 < 7; omega) rfl v, h.putI hN ht hp (c := 0) (i := 2) (by show 2 < 7; omega) rfl v, h.putI hN ht hp (c := 0) (i := 4) (by show 4 < 7; omega) rfl v, h.putI hN ht hp (c := 0) (i := 5) (by show 5 < 7; omega) rfl v, h.putI hN ht hp (c := 0) (i := 6) (by show 6 < 7; omega) rfl v⟩
theorem LandC.p9 {g : Gc} {t : Nat} {pa : Nat → Nat} {N y r i : Nat} {A m : Mm} (h : LandC g t pa N y r A m) (hN : N ≤ 12) (ht : t + 63 ≤ 184) (hp : PaOK g pa r) (hi : i < r) (v : Int32) : LandC g t pa N y r (sI A 9 i v) (sI m (pa i) 0 v) ∧ LandC g t pa N y r (sI A 10 i v) (sI m (pa i) 1 v) :=
  ⟨h.putI hN ht hp (c := 9) (i := i) hi rfl v, h.putI hN ht hp (c := 10) (i := i) hi rfl v⟩
theorem LandC.py {g : Gc} {t : Nat} {pa : Nat → Nat} {N y r i : Nat} {A m : Mm} (h : LandC g t pa N y r A m) (hN : N ≤ 12) (ht : t + 63 ≤ 184) (hp : PaOK g pa r) (hi : i < y) (v : Int32) : LandC g t pa N y r (sI A 19 i v) (sI m (gz g + (t + 9)) i v) ∧ LandC g t pa N y r (sI A 20 i v) (sI m (gz g + (t + 10)) i v) :=
  ⟨h.putI hN ht hp (c := 19) (i := i) hi (Prod.ext (by show gz g + t + 9 = _; omega) rfl) v, h.putI hN ht hp (c := 20) (i := i) hi (Prod.ext (by show gz g + t + 10 = _; omega) rfl) v⟩
theorem LandC.p17 {g : Gc} {t : Nat} {pa : Nat → Nat} {N y k r j : Nat} {A m : Mm} (h : LandC g t pa N y r A m) (hN : N ≤ 12) (ht : t + 63 ≤ 184) (hp : PaOK g pa r) (hj : j < N) (hk : k < y) (v : Int32) : LandC g t pa N y r (sI A 17 (12 * k + j) v) (sI m (gz g + (t + 14 + 4 * j)) k v) ∧ LandC g t pa N y r (sI A 18 (12 * k + j) v) (sI m (gz g + (t + 15 + 4 * j)) k v) :=
  ⟨h.putI hN ht hp (c := 17) (i := 12 * k + j) ⟨by omega, by omega⟩ (Prod.ext (by show gz g + t + 14 + 4 * ((12 * k + j) % 12) = gz g + (t + 14 + 4 * j); omega) (by show (12 * k + j) / 12 = k; omega)) v, h.putI hN ht hp (c := 18) (i := 12 * k + j) ⟨by omega, by omega⟩ (Prod.ext (by show gz g + t + 15 + 4 * ((12 * k + j) % 12) = gz g + (t + 15 + 4 * j); omega) (by show (12 * k + j) / 12 = k; omega)) v⟩
theorem LandC.tl {g : Gc} {t : Nat} {pa : Nat → Nat} {N y k r j : Nat} {A m : Mm} (h : LandC g t pa N y r A m) (hN : N ≤ 12) (hj : j < N) (hk : k < 30) : mI m (gz g + (t + 13 + 4 * j)) k = mI A 16 (12 * k + j) := by
  have h1 : mI m (gz g + t + 13 + 4 * ((12 * k + j) % 12)) ((12 * k + j) / 12) = mI A 16 (12 * k + j) := h.1 16 _ ⟨by omega, by omega⟩
  rw [show gz g + t + 13 + 4 * ((12 * k + j) % 12) = gz g + (t + 13 + 4 * j) by omega, show (12 * k + j) / 12 = k by omega] at h1
  exact h1
theorem LandC.cr {g : Gc} {t : Nat} {pa : Nat → Nat} {N y k r j : Nat} {A m : Mm} (h : LandC g t pa N y r A m) (hN : N ≤ 12) (hj : j < N) (hk : k < y) : mI m (gz g + (t + 14 + 4 * j)) k = mI A 17 (12 * k + j) ∧ mI m (gz g + (t + 15 + 4 * j)) k = mI A 18 (12 * k + j) := by
  have h1 : mI m (gz g + t + 14 + 4 * ((12 * k + j) % 12)) ((12 * k + j) / 12) = mI A 17 (12 * k + j) := h.1 17 _ ⟨by omega, by omega⟩
  have h2 : mI m (gz g + t + 15 + 4 * ((12 * k + j) % 12)) ((12 * k + j) / 12) = mI A 18 (12 * k + j) := h.1 18 _ ⟨by omega, by omega⟩
  rw [show gz g + t + 14 + 4 * ((12 * k + j) % 12) = gz g + (t + 14 + 4 * j) by omega, show (12 * k + j) / 12 = k by omega] at h1
  rw [show gz g + t + 15 + 4 * ((12 * k + j) % 12) = gz g + (t + 15 + 4 * j) by omega, show (12 * k + j) / 12 = k by omega] at h2
  exact ⟨h1, h2⟩
theorem LandC.su {g : Gc} {t : Nat} {pa : Nat → Nat} {N y r j : Nat} {A m : Mm} (h : LandC g t pa N y r A m) (hj : j < 8) : mL m (gz g + (t + 11)) j = mL A 2 j := by
  rw [← Nat.add_assoc]; exact h.2 2 j hj
theorem LandC.rs {g : Gc} {t : Nat} {pa : Nat → Nat} {N y r j : Nat} {A m : Mm} (h : LandC g t pa N y r A m) (hj : j < N) : mL m (gz g + (t + 12 + 4 * j)) 12 = mL A 1 j := by
  have := h.2 1 j hj
  rw [show cJ (gz g + t) 1 j = (gz g + (t + 12 + 4 * j), 12) from Prod.ext (by show gz g + t + 12 + 4 * j = _; omega) rfl] at this
  exact this
/-- the crop of a grower -/
def cropV (A : Mm) (y : Nat) (yl : Int32) (j : Nat) : Int32 := if mI A 16 (12 * y + j) = -1 then mI A 3 j * yl else mI A 16 (12 * y + j)
def gatS (A : Mm) (y j : Nat) (c : Int32) : Mm := sL (sI (sI A 17 (12 * y + j) c) 7 j (mI A 7 j + c)) 2 0 (mL A 2 0 + c.toInt64)
def gathA (A : Mm) (y : Nat) (yl : Int32) : Nat → Mm
  | 0 => A
  | k + 1 => gatS (gathA A y yl k) y k (cropV A y yl k)
theorem gathA_oth {A : Mm} {y : Nat} {yl : Int32} {c i : Nat} (h7 : c ≠ 7) (h17 : c ≠ 17) : ∀ k, mI (gathA A y yl k) c i = mI A c i
  | 0 => rfl
  | k + 1 => by
    show mI (gatS _ _ _ _) c i = _
    unfold gatS
    rw [mI_sL, mI_sI, up2_oth h7, mI_sI, up2_oth h17, gathA_oth h7 h17 k]
theorem c_gather (g : Gc) {lv t N n y r : Nat} {A m0 : Mm} {pa : Nat → Nat} {yl : Int32} (ht : t = 2 ∨ t = 65) (hp : PaOK g pa r) (hn : mI A 0 0 = nI n) (hnN : n ≤ N) (hN : N ≤ 12) (hy : mI A 0 1 = nI y) (h30 : y < 30) (hS : Sg g m0) (hC : LandC g t pa N 30 r A m0) {Q : Mm → Prop} (hQ : ∀ m', LandC g t pa N 30 r (gathA A y yl n) m' → St (PC g t pa r) m0 m' → Q m') : CV g M_Land_gatherCrops (lv + 1) [va_rf (some (gz g + t)), .int yl] m0 Q := by
  obtain ⟨⟨t1, -⟩, t7, t8, t9, t10, t11, t12, t13⟩ := sh_t ht
  have z0 : (0 : Int32).toNatClampNeg = 0 := rfl
  have loop : ∀ (d k : Nat) (m : Mm), k + d = n → LandC g t pa N 30 r (gathA A y yl k) m → St (PC g t pa r) m0 m → At g M_Land_gatherCrops (lv + 1) 2 [(0, va_rf (some (gz g + t))), (1, .int yl), (2, .int (nI k))] [] m (QV Q) := by
    intro d
    induction d with
    | zero =>
      intro k m hk C s
      obtain rfl : k = n := by omega
      have S := s.sg hS
      refine bk_Land_gatherCrops_2 g ⟨S.k t t1 (by omega), ?_⟩
      rw [C.n, gathA_oth (by omega) (by omega), hn, if_pos (nI_le (by omega) (by omega))]
      exact hQ m C s
    | succ d ih =>
      intro k m hk C s
      have S := s.sg hS
      obtain ⟨⟨g1, g2⟩, ⟨g3, g4, g5⟩, ⟨g6, g7, g8⟩, -⟩ := sh_tg ht k (by omega)
      have y9 : mI m (gz g + t) 9 = nI y := by rw [C.yr, gathA_oth (by omega) (by omega)]; exact hy
      refine bk_Land_gatherCrops_2 g ⟨S.k t t1 (by omega), ?_⟩
      rw [C.n, gathA_oth (by omega) (by omega), hn, if_neg (nI_ge (by omega) (by omega)), y9, nI_clamp (by omega), nI_clamp (by omega)]
      refine ⟨gz g + (t + 1), S.r t 1 t10, S.k (t + 1) t8 (by omega), by rw [S.n (t + 1) t9 (by omega)]; exact vp_in_nI (N := 12) (by omega) (by omega), gz g + (t + 12 + 4 * k), S.r (t + 1) k g1, S.k (t + 12 + 4 * k) g2 (by omega), gz g + (t + 13 + 4 * k), S.r (t + 12 + 4 * k) 0 g3, S.k (t + 13 + 4 * k) g4 (by omega), by rw [S.n (t + 13 + 4 * k) g5 (by omega)]; exact vp_in_nI (N := 30) (by omega) (by omega), ?_⟩
      rw [C.tl hN (by omega) (by omega), gathA_oth (by omega) (by omega), show mI m (gz g + (t + 12 + 4 * k)) 5 = mI A 3 k by rw [show mI m (gz g + (t + 12 + 4 * k)) 5 = mI (gathA A y yl k) 3 k from C.gr (c := 3) (by omega) (by omega) (by omega), gathA_oth (by omega) (by omega)]]
      have fin : ∀ v, v = cropV A y yl k → At g M_Land_gatherCrops (lv + 1) 48 [(0, va_rf (some (gz g + t))), (1, .int yl), (2, .int (nI k)), (3, va_rf (some (gz g + (t + 12 + 4 * k))))] [.int v] m (QV Q) := by
        intro v ev
        subst ev
        refine bk_Land_gatherCrops_48 g ⟨gz g + (t + 12 + 4 * k), rfl, S.k (t + 12 + 4 * k) g2 (by omega), gz g + (t + 14 + 4 * k), S.r (t + 12 + 4 * k) 1 g6, S.k t t1 (by omega), S.k (t + 14 + 4 * k) g7 (by omega), ?_⟩
        rw [y9, nI_clamp (by omega), nI_s]
        refine ⟨by rw [S.n (t + 14 + 4 * k) g8 (by omega)]; exact vp_in_nI (N := 30) (by omega) (by omega), fun m1 e1 m2 e2 => ?_⟩
        have C1 := (C.p17 hN (by omega) hp (j := k) (k := y) (by omega) (by omega) (cropV A y yl k)).1
        rw [← e1] at C1
        have f1 : mI m1 (gz g + (t + 12 + 4 * k)) 9 = mI (gathA A y yl k) 7 k := by
          rw [show mI m1 (gz g + (t + 12 + 4 * k)) 9 = _ from C1.gr (c := 7) (by omega) (by omega) (by omega), mI_sI, up2_oth (by omega)]
        rw [f1] at e2
        have C2 := C1.pg hN (by omega) hp (j := k) (c := 7) (by omega) (by omega) (by omega) (mI (gathA A y yl k) 7 k + cropV A y yl k)
        rw [show (7 : Nat) + 2 = 9 from rfl, ← e2] at C2
        have s2 : St (PC g t pa r) m m2 := by rw [e2, e1]; exact (St_sI m (Or.inl (by omega)) _).trans (St_sI _ (Or.inl (by omega)) _)
        have S2 := s2.sg S
        refine ⟨gz g + (t + 11), S2.r t 7 t11, S2.k (t + 11) t12 (by omega), by rw [S2.n (t + 11) t13 (by omega)]; exact vp_in_nI (n := 0) (N := 8) (by omega) (by omega), by rw [S2.n (t + 11) t13 (by omega)]; exact vp_in_nI (n := 0) (N := 8) (by omega) (by omega), fun m3 e3 => ?_⟩
        rw [z0, C2.su (by omega), mL_sI, mL_sI] at e3
        have C3 := C2.ps hN (j := 0) (by omega) (mL (gathA A y yl k) 2 0 + (cropV A y yl k).toInt64)
        rw [← e3] at C3
        refine ih (k + 1) m3 (by omega) C3 ((s.trans s2).trans ?_)
        rw [e3]
        exact St_sL m2 (Or.inl (by omega)) _
      by_cases hz : mI A 16 (12 * y + k) = -1
      · rw [if_pos hz]
        exact fin _ (by unfold cropV; rw [if_pos hz])
      · rw [if_neg hz]
        exact ⟨by rw [S.n (t + 13 + 4 * k) g5 (by omega)]; exact vp_in_nI (N := 30) (by omega) (by omega), fin _ (by unfold cropV; rw [if_neg hz])⟩
  exact en_Land_gatherCrops g (loop n 0 m0 (by omega) hC (St.refl _ _))
