/-! ===== the year, the reference's side: vines, the store ===== -/
theorem mL_over {B : Mm} {c i : Nat} {v w : Int64} : mL (sL (sL B c i v) c i w) = mL (sL B c i w) := by
  funext q k
  show up2 (up2 (mL B) c i v) c i w q k = up2 (mL B) c i w q k
  by_cases h : q = c ∧ k = i
  · rw [h.1, h.2, up2_at, up2_at]
  · rw [up2_not h, up2_not h, up2_not h]
theorem mL_selfA {B : Mm} {c i : Nat} : mL (sL B c i (mL B c i)) = mL B := by
  funext q k
  show up2 (mL B) c i (mL B c i) q k = mL B q k
  by_cases h : q = c ∧ k = i
  · rw [h.1, h.2, up2_at]
  · rw [up2_not h]
theorem ix3l (l j : Nat) : (3 : Int32) * nI (12 * l + j) = nI (3 * (12 * l + j)) := by rw [show (3 : Int32) = nI 3 from rfl, pk_mul]
theorem c_growsR (g : Gc) {lv l N n y r : Nat} {A m0 : Mm} {x : Int32} (hx : x = nI l) (hl : l < 2) (hN : N ≤ 12) (hnN : n ≤ N) (hn : mI A 0 0 = nI n) (hS : Sg g m0) (hR : LandQ g l N y r A m0) {Q : Mm → Prop} (hQ : ∀ m', LandQ g l N y r (vineA A (mI m0 (gz g + 145) 9) (mI m0 (gz g + 145) 10) n) m' → St (PQ g l) m0 m' → Q m') : CV g M_RF_grows (lv + 1) [va_rf (some (gz g + 145)), .int x] m0 Q := by
  subst hx
  have tm : ∀ m, St (PQ g l) m0 m → mI m (gz g + 145) 9 = mI m0 (gz g + 145) 9 ∧ mI m (gz g + 145) 10 = mI m0 (gz g + 145) 10 := fun m s => ⟨(s.2 _ _ (by unfold PQ; omega)).1, (s.2 _ _ (by unfold PQ; omega)).1⟩
  have loop : ∀ (d k : Nat) (m : Mm), k + d = n → LandQ g l N y r (vineA A (mI m0 (gz g + 145) 9) (mI m0 (gz g + 145) 10) k) m → St (PQ g l) m0 m → At g M_RF_grows (lv + 1) 2 [(0, va_rf (some (gz g + 145))), (1, .int (nI l)), (2, .int (nI k))] [] m (QV Q) := by
    intro d
    induction d with
    | zero =>
      intro k m hk R s
      obtain rfl : k = n := by omega
      refine bk_RF_grows_2 g ⟨(s.sg hS).k 145 rfl, ?_⟩
      rw [R.n, vineA_I (by omega), hn, if_pos (nI_le (by omega) (by omega))]
      exact hQ m R s
    | succ d ih =>
      intro k m hk R s
      have S := s.sg hS
      have hkN : k < N := by omega
      refine bk_RF_grows_2 g ⟨S.k 145 rfl, ?_⟩
      rw [R.n, vineA_I (by omega), hn, if_neg (nI_ge (by omega) (by omega)), ix12l, ix15, ix3l, show nI (3 * (12 * l + k)) + (2 : Int32) = nI (3 * (12 * l + k) + 2) from nI_add _ 2, show nI (3 * (12 * l + k)) + (1 : Int32) = nI (3 * (12 * l + k) + 1) from nI_add _ 1, nI_clamp (show 12 * l + k < 2 ^ 31 by omega), nI_clamp (show 15 * l + k < 2 ^ 31 by omega), nI_clamp (show 3 * (12 * l + k) + 2 < 2 ^ 31 by omega), nI_clamp (show 3 * (12 * l + k) + 1 < 2 ^ 31 by omega), nI_clamp (show 3 * (12 * l + k) < 2 ^ 31 by omega), nI_clamp (show l < 2 ^ 31 by omega), nI_s]
      have ih1 := ih (k + 1)
      have ev : vineA A (mI m0 (gz g + 145) 9) (mI m0 (gz g + 145) 10) (k + 1) = vineS (vineA A (mI m0 (gz g + 145) 9) (mI m0 (gz g + 145) 10) k) k (mI m0 (gz g + 145) 9) (mI m0 (gz g + 145) 10) := rfl
      rw [ev] at ih1
      generalize vineA A (mI m0 (gz g + 145) 9) (mI m0 (gz g + 145) 10) k = B at R ih1
      have vp : ∀ (mm : Mm), Sg g mm → vp_in (nI (12 * l + k)) (mN mm (gz g + 170)) ∧ vp_in (nI (3 * (12 * l + k) + 2)) (mN mm (gz g + 171)) ∧ vp_in (nI (3 * (12 * l + k) + 1)) (mN mm (gz g + 171)) ∧ vp_in (nI (3 * (12 * l + k))) (mN mm (gz g + 171)) ∧ vp_in (nI l) (mN mm (gz g + 167)) ∧ vp_in (nI (15 * l + k)) (mN mm (gz g + 174)) := fun mm s => ⟨by rw [s.n 170 rfl]; exact vp_in_nI (N := 24) (by omega) (by omega), by rw [s.n 171 rfl]; exact vp_in_nI (N := 72) (by omega) (by omega), by rw [s.n 171 rfl]; exact vp_in_nI (N := 72) (by omega) (by omega), by rw [s.n 171 rfl]; exact vp_in_nI (N := 72) (by omega) (by omega), by rw [s.n 167 rfl]; exact vp_in_nI (N := 2) (by omega) (by omega), by rw [s.n 174 rfl]; exact vp_in_nI (N := 30) (by omega) (by omega)⟩
      obtain ⟨v1, v2, v3, v4, v5, v6⟩ := vp m S
      refine ⟨gz g + 170, S.r 145 35 rfl, S.k 170 rfl, v1, gz g + 171, S.r 145 36 rfl, S.k 171 rfl, v2, v1, fun m1 e1 => ?_⟩
      rw [(R.gr hkN).2.1, (R.gr hkN).2.2.2.2.1] at e1
      have R1 := (R.pg hkN (mI B 3 k + mI B 6 k)).1
      rw [← e1] at R1
      have S1 : Sg g m1 := by rw [e1]; exact S
      refine ⟨(vp m1 S1).2.2.1, (vp m1 S1).2.1, fun m2 e2 => ?_⟩
      rw [show mI m1 (gz g + 171) (3 * (12 * l + k) + 1) = mI B 5 k from (R1.gr hkN).2.2.2.1] at e2
      have R2 := (R1.pg hkN (mI B 5 k)).2.2.2.1
      rw [← e2] at R2
      have S2 : Sg g m2 := by rw [e2]; exact S1
      refine ⟨(vp m2 S2).2.2.2.1, (vp m2 S2).2.2.1, fun m3 e3 => ?_⟩
      rw [show mI m2 (gz g + 171) (3 * (12 * l + k)) = mI B 4 k from (R2.gr hkN).2.2.1] at e3
      have R3 := (R2.pg hkN (mI B 4 k)).2.2.1
      rw [← e3] at R3
      have S3 : Sg g m3 := by rw [e3]; exact S2
      refine ⟨(vp m3 S3).2.2.2.1, fun m4 e4 => ?_⟩
      have R4 : LandQ g l N y r (olderA B k) m4 := by
        have := (R3.pg hkN 0).2.1
        rw [← e4] at this
        exact this
      have s4 : St (PQ g l) m m4 := by
        rw [e4, e3, e2, e1]
        exact ((St_sI m (by unfold PQ; omega) _).trans (St_sI _ (by unfold PQ; omega) _)).trans ((St_sI _ (by unfold PQ; omega) _).trans (St_sI _ (by unfold PQ; omega) _))
      have S4 := s4.sg S
      clear e1 e2 e3 e4
      refine ⟨gz g + 167, S4.r 145 32 rfl, S4.k 167 rfl, (vp m4 S4).2.2.2.2.1, ?_⟩
      rw [R4.sc.2.1, olderA_I (by omega), (tm m4 (s.trans s4)).1, (tm m4 (s.trans s4)).2]
      unfold vineS at ih1
      by_cases h1 : mI B 0 2 < mI m0 (gz g + 145) 9
      · rw [if_pos h1] at ih1 ⊢
        exact ih1 m4 (by omega) R4 (s.trans s4)
      rw [if_neg h1] at ih1 ⊢
      refine ⟨gz g + 174, S4.r 145 39 rfl, S4.k 174 rfl, (vp m4 S4).2.2.2.2.2, ?_⟩
      rw [(R4.mo hkN).1]
      by_cases h2 : mL B 0 k < 0
      · rw [if_pos h2] at ih1
        rw [if_neg (show ¬ (0 : Int64) ≤ mL (olderA B k) 0 k from fun q => by have h3 : mL (olderA B k) 0 k < 0 := h2; rw [i64_le] at q; rw [i64_lt] at h3; omega)]
        exact ih1 m4 (by omega) R4 (s.trans s4)
      rw [if_neg h2] at ih1
      rw [if_pos (show (0 : Int64) ≤ mL (olderA B k) 0 k by have h3 : ¬ mL (olderA B k) 0 k < 0 := h2; rw [i64_le]; rw [i64_lt] at h3; omega)]
      refine ⟨(vp m4 S4).1, (vp m4 S4).2.2.1, (vp m4 S4).2.1, (vp m4 S4).1, (vp m4 S4).2.2.2.1, fun m5 e5 => ?_⟩
      rw [(R4.gr hkN).2.1, (R4.gr hkN).2.2.2.1, (R4.gr hkN).2.2.2.2.1] at e5
      have R5 := (R4.pg hkN (plantV (olderA B k) k (mI m0 (gz g + 145) 10))).2.1
      refine ih1 m5 (by omega) ?_ ((s.trans s4).trans ?_)
      · rw [e5]; exact R5
      · rw [e5]; exact St_sI m4 (by unfold PQ; omega) _
  exact en_RF_grows g (loop n 0 m0 (by omega) hR (St.refl _ _))
/-- the last loop of a year: the store rots, the price moves, the vines grow -/
theorem l_rotR (g : Gc) {lv l N n y r : Nat} {A m0 : Mm} {P sd f : Int32} (hl : l < 2) (hN : N ≤ 12) (hnN : n ≤ N) (hn : mI A 0 0 = nI n) (h4 : r ≤ 400) (h03 : mI A 0 3 = nI r) (hS : Sg g m0) (hR : LandQ g l N y r A m0) {Q : Int32 → Mm → Prop} (hQ : ∀ m', LandQ g l N y r (yr13 (yr11 A r (mI m0 (gz g + 145) 11)) n f.toInt64 sd.toInt64 (mI m0 (gz g + 145) 7) (mI m0 (gz g + 145) 9) (mI m0 (gz g + 145) 10)) m' → St (PQ g l) m0 m' → Q P m') : At g M_RF_passes (lv + 2) 697 [(0, va_rf (some (gz g + 145))), (1, .int (nI l)), (12, .int P), (13, .int sd), (15, .int f), (16, .int 0)] [] m0 (QI Q) := by
  have tm : ∀ m j, 5 ≤ j → j ≤ 11 → St (PQ g l) m0 m → mI m (gz g + 145) j = mI m0 (gz g + 145) j := fun m j h1 h2 s => (s.2 _ _ (by unfold PQ; omega)).1
  have e86 : (8 : Int32) * nI l + 6 = nI (8 * l + 6) := ix8 l 6
  have loop : ∀ (d k : Nat) (m : Mm), k + d = r → LandQ g l N y r (sL (rotA A (mI m0 (gz g + 145) 11) k).1 2 6 (mL A 2 6 + (rotA A (mI m0 (gz g + 145) 11) k).2)) m → St (PQ g l) m0 m → At g M_RF_passes (lv + 2) 697 [(0, va_rf (some (gz g + 145))), (1, .int (nI l)), (12, .int P), (13, .int sd), (15, .int f), (16, .int (nI k))] [] m (QI Q) := by
    intro d
    induction d with
    | zero =>
      intro k m hk R s
      obtain rfl : k = r := by omega
      have S := s.sg hS
      have i0 : ∀ i, mI (yr11 A k (mI m0 (gz g + 145) 11)) 0 i = mI A 0 i := fun i => yr11_I (by omega)
      have R' : LandQ g l N y k (yr11 A k (mI m0 (gz g + 145) 11)) m := R
      refine bk_RF_passes_697 g ⟨S.k 145 rfl, gz g + 168, S.r 145 33 rfl, S.k 168 rfl, by rw [S.n 168 rfl]; exact vp_in_nI (N := 2) (by omega) (by omega), ?_⟩
      rw [nI_clamp (show l < 2 ^ 31 by omega), R'.sc.2.2.1, i0, h03, if_pos (nI_le (by omega) (by omega))]
      refine ⟨gz g + 167, S.r 145 32 rfl, S.k 167 rfl, by rw [S.n 167 rfl]; exact vp_in_nI (N := 2) (by omega) (by omega), gz g + 169, S.r 145 34 rfl, S.k 169 rfl, by rw [S.n 169 rfl]; exact vp_in_nI (N := 2) (by omega) (by omega), by rw [S.n 167 rfl]; exact vp_in_nI (N := 2) (by omega) (by omega), fun m1 e1 => ?_⟩
      rw [R'.sc.2.1, R'.sc.2.2.2, tm m 7 (by omega) (by omega) s] at e1
      generalize yr11 A k (mI m0 (gz g + 145) 11) = B at R' i0 e1 hQ
      have R1 := (R'.p0 (priceV (mI B 0 2) (mI B 0 4) (mI m0 (gz g + 145) 7) f.toInt64 sd.toInt64)).2.1
      have e1' : m1 = sI m (gz g + 167) l (priceV (mI B 0 2) (mI B 0 4) (mI m0 (gz g + 145) 7) f.toInt64 sd.toInt64) := e1
      rw [← e1'] at R1
      have s1 : St (PQ g l) m m1 := by rw [e1']; exact St_sI m (by unfold PQ; omega) _
      have s01 := s.trans s1
      refine c_growsR g rfl hl hN hnN (by rw [mI_sI, up2_sl (by omega), i0]; exact hn) (s01.sg hS) R1 (fun m2 R2 s2 => ?_)
      rw [tm m1 9 (by omega) (by omega) s01, tm m1 10 (by omega) (by omega) s01] at R2
      exact hQ m2 R2 (s01.trans s2)
    | succ d ih =>
      intro k m hk R s
      have S := s.sg hS
      have hkr : k < r := by omega
      refine bk_RF_passes_697 g ⟨S.k 145 rfl, gz g + 168, S.r 145 33 rfl, S.k 168 rfl, by rw [S.n 168 rfl]; exact vp_in_nI (N := 2) (by omega) (by omega), ?_⟩
      rw [nI_clamp (show l < 2 ^ 31 by omega), R.sc.2.2.1, mI_sL, rotA_I (by omega), h03, if_neg (nI_ge (by omega) (by omega)), ix400, e86, nI_clamp (show 400 * l + k < 2 ^ 31 by omega), nI_clamp (show 8 * l + 6 < 2 ^ 31 by omega), nI_s, tm m 11 (by omega) (by omega) s]
      have v1 : vp_in (nI (400 * l + k)) (mN m (gz g + 176)) := by rw [S.n 176 rfl]; exact vp_in_nI (N := 800) (by omega) (by omega)
      refine ⟨gz g + 176, S.r 145 41 rfl, S.k 176 rfl, v1, v1, v1, fun m1 e1 => ?_⟩
      rw [(R.rc hkr).2.1, mI_sL] at e1 ⊢
      have ih1 := ih (k + 1)
      have ev1 : (rotA A (mI m0 (gz g + 145) 11) (k + 1)).1 = sI (rotA A (mI m0 (gz g + 145) 11) k).1 10 k (mI (rotA A (mI m0 (gz g + 145) 11) k).1 10 k - ((mI (rotA A (mI m0 (gz g + 145) 11) k).1 10 k).toInt64 * (mI m0 (gz g + 145) 11).toInt64 / 1000).toInt32) := rfl
      have ev2 : (rotA A (mI m0 (gz g + 145) 11) (k + 1)).2 = (rotA A (mI m0 (gz g + 145) 11) k).2 + ((mI (rotA A (mI m0 (gz g + 145) 11) k).1 10 k).toInt64 * (mI m0 (gz g + 145) 11).toInt64 / 1000).toInt32.toInt64 := rfl
      rw [ev1, ev2] at ih1
      generalize (rotA A (mI m0 (gz g + 145) 11) k).2 = lo at R ih1
      generalize (rotA A (mI m0 (gz g + 145) 11) k).1 = B at R ih1 e1 ⊢
      generalize ((mI B 10 k).toInt64 * (mI m0 (gz g + 145) 11).toInt64 / 1000).toInt32 = le at ih1 e1 ⊢
      have R1 := R.p10 hkr (mI B 10 k - le)
      rw [← e1] at R1
      have S1 : Sg g m1 := by rw [e1]; exact S
      have v2 : vp_in (nI (8 * l + 6)) (mN m1 (gz g + 178)) := by rw [S1.n 178 rfl]; exact vp_in_nI (N := 16) (by omega) (by omega)
      refine ⟨gz g + 178, S1.r 145 43 rfl, S1.k 178 rfl, v2, v2, fun m2 e2 => ?_⟩
      rw [R1.su (j := 6) (by omega), mL_sI, mL_sL, up2_at] at e2
      have R2 := R1.ps hN (j := 6) (by omega) (mL A 2 6 + lo + le.toInt64)
      rw [← e2] at R2
      refine ih1 m2 (by omega) ?_ (s.trans ?_)
      · rw [← Int64.add_assoc]
        refine ⟨R2.1, fun c i hv => (R2.2 c i hv).trans ?_⟩
        show mL (sL (sL B 2 6 (mL A 2 6 + lo)) 2 6 (mL A 2 6 + lo + le.toInt64)) c i = mL (sL B 2 6 (mL A 2 6 + lo + le.toInt64)) c i
        rw [mL_over]
      · rw [e2, e1]
        exact (St_sI m (by unfold PQ; omega) _).trans (St_sL _ (by unfold PQ; omega) _)
  refine loop r 0 m0 (by omega) ?_ (St.refl _ _)
  refine ⟨hR.1, fun c i hv => (hR.2 c i hv).trans ?_⟩
  show mL A c i = mL (sL A 2 6 (mL A 2 6 + 0)) c i
  rw [Int64.add_zero, mL_sL]
  by_cases q : c = 2 ∧ i = 6
  · rw [q.1, q.2, up2_at]
  · rw [up2_not q]
