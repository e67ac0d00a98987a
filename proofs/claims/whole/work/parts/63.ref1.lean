/-! ===== the year, the reference's side: stores, selling, stilling, vines ===== -/
/-- what may change of the reference in a year of the land l -/
def PQ (g : Gc) (l a j : Nat) : Prop := (gz g + 166 ≤ a ∧ a ≤ gz g + 169 ∧ j = l) ∨ ((a = gz g + 170 ∨ a = gz g + 172 ∨ a = gz g + 173) ∧ 12 * l ≤ j) ∨ (a = gz g + 171 ∧ 36 * l ≤ j) ∨ (a = gz g + 174 ∧ 15 * l ≤ j) ∨ (gz g + 175 ≤ a ∧ a ≤ gz g + 177 ∧ 400 * l ≤ j) ∨ (a = gz g + 178 ∧ 8 * l ≤ j ∧ j < 8 * l + 8)
theorem LandQ.same {g : Gc} {l n y r : Nat} {A m m' : Mm} (h : LandQ g l n y r A m) (hs : ∀ d, rCell d → mI m' (gz g + 145 + d) = mI m (gz g + 145 + d) ∧ mL m' (gz g + 145 + d) = mL m (gz g + 145 + d)) (h19 : mI m' (gz g + 145) 19 = mI m (gz g + 145) 19) (h47 : mI m' (gz g + 145) 47 = mI m (gz g + 145) 47) : LandQ g l n y r A m' := by
  refine ⟨h.1.off (fun c i hv => ?_), h.2.off (fun c i hv => ?_)⟩
  · rcases rI_at (M := gz g + 145) (l := l) hv.1 with ⟨d, hd, e⟩ | e | e
    · rw [e, (hs d hd).1]
    · rw [e]; exact h19
    · rw [e]; exact h47
  · obtain ⟨d, hd, e⟩ := rJ_at (M := gz g + 145) (l := l) hv.1
    rw [e, (hs d hd).2]
theorem vL_c {l N y r c j : Nat} (h1 : 1 ≤ c) (h7 : c ≤ 7) (hj : j < N) : vL l N y r c j := ⟨⟨by
    rcases (show c = 1 ∨ c = 2 ∨ c = 3 ∨ c = 4 ∨ c = 5 ∨ c = 6 ∨ c = 7 by omega) with rfl | rfl | rfl | rfl | rfl | rfl | rfl <;> exact ⟨by omega, by omega, hj⟩, by omega, by omega⟩, Or.inr (Or.inr (Or.inl ⟨h1, h7⟩))⟩
theorem LandQ.pg {g : Gc} {l N y r j : Nat} {A m : Mm} (h : LandQ g l N y r A m) (hj : j < N) (v : Int32) : LandQ g l N y r (sI A 3 j v) (sI m (gz g + 170) (12 * l + j) v) ∧ LandQ g l N y r (sI A 4 j v) (sI m (gz g + 171) (3 * (12 * l + j)) v) ∧ LandQ g l N y r (sI A 5 j v) (sI m (gz g + 171) (3 * (12 * l + j) + 1) v) ∧ LandQ g l N y r (sI A 6 j v) (sI m (gz g + 171) (3 * (12 * l + j) + 2) v) ∧ LandQ g l N y r (sI A 7 j v) (sI m (gz g + 172) (12 * l + j) v) :=
  ⟨h.putI (c := 3) (i := j) (vL_c (by omega) (by omega) hj) rfl v, h.putI (c := 4) (i := j) (vL_c (by omega) (by omega) hj) rfl v, h.putI (c := 5) (i := j) (vL_c (by omega) (by omega) hj) rfl v, h.putI (c := 6) (i := j) (vL_c (by omega) (by omega) hj) rfl v, h.putI (c := 7) (i := j) (vL_c (by omega) (by omega) hj) rfl v⟩
theorem LandQ.pm {g : Gc} {l N y r j : Nat} {A m : Mm} (h : LandQ g l N y r A m) (hN : N ≤ 12) (hj : j < N) (v : Int64) : LandQ g l N y r (sL A 0 j v) (sL m (gz g + 174) (15 * l + j) v) ∧ LandQ g l N y r (sL A 1 j v) (sL m (gz g + 173) (12 * l + j) v) :=
  ⟨h.putJ hN (c := 0) (i := j) ⟨Or.inl hj, Or.inr (Or.inl ⟨rfl, hj⟩)⟩ rfl v, h.putJ hN (c := 1) (i := j) ⟨hj, Or.inr (Or.inr (Or.inl rfl))⟩ rfl v⟩
theorem LandQ.ps {g : Gc} {l N y r j : Nat} {A m : Mm} (h : LandQ g l N y r A m) (hN : N ≤ 12) (hj : j < 8) (v : Int64) : LandQ g l N y r (sL A 2 j v) (sL m (gz g + 178) (8 * l + j) v) := h.putJ hN (c := 2) (i := j) ⟨hj, Or.inr (Or.inr (Or.inr rfl))⟩ rfl v
theorem LandQ.p0 {g : Gc} {l N y r : Nat} {A m : Mm} (h : LandQ g l N y r A m) (v : Int32) : LandQ g l N y r (sI A 0 1 v) (sI m (gz g + 166) l v) ∧ LandQ g l N y r (sI A 0 2 v) (sI m (gz g + 167) l v) ∧ LandQ g l N y r (sI A 0 4 v) (sI m (gz g + 169) l v) :=
  ⟨h.putI (c := 0) (i := 1) ⟨⟨by show 1 < 7; omega, by omega, by omega⟩, Or.inr (Or.inl ⟨rfl, by omega⟩)⟩ rfl v, h.putI (c := 0) (i := 2) ⟨⟨by show 2 < 7; omega, by omega, by omega⟩, Or.inr (Or.inl ⟨rfl, by omega⟩)⟩ rfl v, h.putI (c := 0) (i := 4) ⟨⟨by show 4 < 7; omega, by omega, by omega⟩, Or.inr (Or.inl ⟨rfl, by omega⟩)⟩ rfl v⟩
theorem LandQ.p10 {g : Gc} {l N y r i : Nat} {A m : Mm} (h : LandQ g l N y r A m) (hi : i < r) (v : Int32) : LandQ g l N y r (sI A 10 i v) (sI m (gz g + 176) (400 * l + i) v) := h.putI (c := 10) (i := i) ⟨⟨hi, by omega, by omega⟩, Or.inr (Or.inr (Or.inr (by omega)))⟩ rfl v
theorem ix15 (l j : Nat) : (15 : Int32) * nI l + nI j = nI (15 * l + j) := by rw [show (15 : Int32) = nI 15 from rfl, pk_mul, nI_add]
theorem ix8 (l j : Nat) : (8 : Int32) * nI l + nI j = nI (8 * l + j) := by rw [show (8 : Int32) = nI 8 from rfl, pk_mul, nI_add]
theorem c_sellsR (g : Gc) {lv l N y r j w : Nat} {A m : Mm} (hl : l < 2) (hN : N ≤ 12) (hj : j < N) (hw : w < 8) (S : Sg g m) (R : LandQ g l N y r A m) (s p : Int32) {Q : Mm → Prop} (hQ : ∀ m', LandQ g l N y r (sL (sellA A j s p) 2 w (mL A 2 w + s.toInt64)) m' → St (PQ g l) m m' → Q m') : CV g M_RF_sells (lv + 1) [va_rf (some (gz g + 145)), .int (nI l), .int (nI j), .int s, .int p, .int (nI w)] m Q := by
  refine en_RF_sells g ⟨S.k 145 rfl, gz g + 172, S.r 145 37 rfl, S.k 172 rfl, ?_⟩
  rw [ix12l, ix15, ix8, nI_clamp (show 12 * l + j < 2 ^ 31 by omega), nI_clamp (show 15 * l + j < 2 ^ 31 by omega), nI_clamp (show 8 * l + w < 2 ^ 31 by omega)]
  refine ⟨by rw [S.n 172 rfl]; exact vp_in_nI (N := 24) (by omega) (by omega), by rw [S.n 172 rfl]; exact vp_in_nI (N := 24) (by omega) (by omega), fun m1 e1 => ?_⟩
  rw [(R.gr hj).2.2.2.2.2] at e1
  have R1 := (R.pg hj (mI A 7 j - s)).2.2.2.2
  rw [← e1] at R1
  have S1 : Sg g m1 := by rw [e1]; exact S
  refine ⟨gz g + 174, S1.r 145 39 rfl, S1.k 174 rfl, by rw [S1.n 174 rfl]; exact vp_in_nI (N := 30) (by omega) (by omega), by rw [S1.n 174 rfl]; exact vp_in_nI (N := 30) (by omega) (by omega), fun m2 e2 => ?_⟩
  rw [(R1.mo hj).1, mL_sI] at e2
  have R2 := (R1.pm hN hj (mL A 0 j + s.toInt64 * p.toInt64)).1
  rw [← e2] at R2
  have S2 : Sg g m2 := by rw [e2]; exact S1
  refine ⟨gz g + 178, S2.r 145 43 rfl, S2.k 178 rfl, by rw [S2.n 178 rfl]; exact vp_in_nI (N := 16) (by omega) (by omega), by rw [S2.n 178 rfl]; exact vp_in_nI (N := 16) (by omega) (by omega), fun m3 e3 => ?_⟩
  rw [R2.su hw, mL_sL, up2_oth (by omega), mL_sI] at e3
  have R3 := R2.ps hN hw (mL A 2 w + s.toInt64)
  rw [← e3] at R3
  refine hQ m3 R3 ?_
  rw [e3, e2, e1]
  exact ((St_sI m (by unfold PQ; omega) _).trans (St_sL _ (by unfold PQ; omega) _)).trans (St_sL _ (by unfold PQ; omega) _)
theorem c_soldR (g : Gc) {lv l N n y r i w h : Nat} {A m : Mm} (hl : l < 2) (hN : N ≤ 12) (hnN : n ≤ N) (hi : i < r) (h4 : r ≤ 400) (hw : w < 8) (h9 : mI A 9 i = nI h) (hh : h < n ∨ (12 ≤ h ∧ h < 15)) (hl0 : l = 1 → h < n) (S : Sg g m) (R : LandQ g l N y r A m) (s p : Int32) {Q : Mm → Prop} (hQ : ∀ m', LandQ g l N y r (soldA A i s p w) m' → St (PQ g l) m m' → Q m') : CV g M_RF_sold (lv + 1) [va_rf (some (gz g + 145)), .int (nI l), .int (nI i), .int s, .int p, .int (nI w)] m Q := by
  have vk : vK l N 0 h := by
    refine ⟨by show h < N ∨ _; omega, ?_⟩
    rcases (show l = 0 ∨ l = 1 by omega) with q | q
    · exact Or.inl q
    · exact Or.inr (Or.inl ⟨rfl, by have := hl0 q; omega⟩)
  refine en_RF_sold g ⟨S.k 145 rfl, gz g + 176, S.r 145 41 rfl, S.k 176 rfl, ?_⟩
  rw [ix400, ix8, nI_clamp (show 400 * l + i < 2 ^ 31 by omega), nI_clamp (show 8 * l + w < 2 ^ 31 by omega)]
  refine ⟨by rw [S.n 176 rfl]; exact vp_in_nI (N := 800) (by omega) (by omega), by rw [S.n 176 rfl]; exact vp_in_nI (N := 800) (by omega) (by omega), fun m1 e1 => ?_⟩
  rw [(R.rc hi).2.1] at e1
  have R1 := R.p10 hi (mI A 10 i - s)
  rw [← e1] at R1
  have S1 : Sg g m1 := by rw [e1]; exact S
  refine ⟨gz g + 174, S1.r 145 39 rfl, gz g + 175, S1.r 145 40 rfl, S1.k 175 rfl, by rw [S1.n 175 rfl]; exact vp_in_nI (N := 800) (by omega) (by omega), S1.k 174 rfl, ?_⟩
  have h91 : mI m1 (gz g + 175) (400 * l + i) = nI h := by rw [(R1.rc hi).1, mI_sI, up2_oth (by omega)]; exact h9
  rw [h91, ix15, nI_clamp (show 15 * l + h < 2 ^ 31 by omega)]
  refine ⟨by rw [S1.n 174 rfl]; exact vp_in_nI (N := 30) (by omega) (by omega), by rw [S1.n 174 rfl]; exact vp_in_nI (N := 30) (by omega) (by omega), fun m2 e2 => ?_⟩
  have mo1 : mL m1 (gz g + 174) (15 * l + h) = mL A 0 h := R1.2 0 h vk
  rw [mo1] at e2
  have R2 := R1.putJ hN (c := 0) (i := h) vk (a := gz g + 174) (j := 15 * l + h) rfl (mL A 0 h + s.toInt64 * p.toInt64)
  rw [← e2] at R2
  have S2 : Sg g m2 := by rw [e2]; exact S1
  refine ⟨gz g + 178, S2.r 145 43 rfl, S2.k 178 rfl, by rw [S2.n 178 rfl]; exact vp_in_nI (N := 16) (by omega) (by omega), by rw [S2.n 178 rfl]; exact vp_in_nI (N := 16) (by omega) (by omega), fun m3 e3 => ?_⟩
  rw [R2.su hw, mL_sL, up2_oth (by omega), mL_sI] at e3
  have R3 := R2.ps hN hw (mL A 2 w + s.toInt64)
  rw [← e3] at R3
  refine hQ m3 ?_ ?_
  · unfold soldA
    rw [h9, nI_clamp (by omega)]
    exact R3
  · rw [e3, e2, e1]
    exact ((St_sI m (by unfold PQ; omega) _).trans (St_sL _ (by unfold PQ; omega) _)).trans (St_sL _ (by unfold PQ; omega) _)
theorem c_stillsR (g : Gc) {lv l N n y r : Nat} {A m0 : Mm} {x : Int32} (hx : x = nI l) (hl : l < 2) (hN : N ≤ 12) (hnN : n ≤ N) (hn : mI A 0 0 = nI n) (hS : Sg g m0) (hR : LandQ g l N y r A m0) {Q : Mm → Prop} (hQ : ∀ m', LandQ g l N y r (stfA A (mI m0 (gz g + 145) 8) (mI A 0 2 / 4) n).1 m' → St (PQ g l) m0 m' → Q m') : CV g M_RF_stills (lv + 2) [va_rf (some (gz g + 145)), .int x] m0 Q := by
  subst hx
  have loop : ∀ (d k : Nat) (m : Mm), k + d = n → LandQ g l N y r (stfA A (mI m0 (gz g + 145) 8) (mI A 0 2 / 4) k).1 m → St (PQ g l) m0 m → At g M_RF_stills (lv + 2) 7 [(0, va_rf (some (gz g + 145))), (1, .int (nI l)), (2, .int (stfA A (mI m0 (gz g + 145) 8) (mI A 0 2 / 4) k).2), (3, .int (nI k))] [] m (QV Q) := by
    intro d
    induction d with
    | zero =>
      intro k m hk R s
      obtain rfl : k = n := by omega
      refine bk_RF_stills_7 g ⟨(s.sg hS).k 145 rfl, ?_⟩
      rw [R.n, stfA_I (by omega), hn, if_pos (nI_le (by omega) (by omega))]
      exact hQ m R s
    | succ d ih =>
      intro k m hk R s
      have S := s.sg hS
      refine bk_RF_stills_7 g ⟨S.k 145 rfl, ?_⟩
      rw [R.n, stfA_I (by omega), hn, if_neg (nI_ge (by omega) (by omega)), ix12l, nI_clamp (show 12 * l + k < 2 ^ 31 by omega), nI_clamp (show l < 2 ^ 31 by omega), nI_s]
      refine ⟨gz g + 172, S.r 145 37 rfl, S.k 172 rfl, by rw [S.n 172 rfl]; exact vp_in_nI (N := 24) (by omega) (by omega), gz g + 167, S.r 145 32 rfl, S.k 167 rfl, by rw [S.n 167 rfl]; exact vp_in_nI (N := 2) (by omega) (by omega), ?_⟩
      rw [R.sc.2.1, (R.gr (show k < N by omega)).2.2.2.2.2, show mI (stfA A (mI m0 (gz g + 145) 8) (mI A 0 2 / 4) k).1 0 2 = mI A 0 2 from stfA_I (by omega) k]
      exact c_sellsR g hl hN (j := k) (w := 4) (by omega) (by omega) S R _ _ (fun m1 R1 s1 => ih (k + 1) m1 (by omega) R1 (s.trans s1))
  exact en_RF_stills g ⟨hS.k 145 rfl, loop n 0 m0 (by omega) hR (St.refl _ _)⟩
