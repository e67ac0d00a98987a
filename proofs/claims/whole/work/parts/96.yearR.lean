/-! ===== the reference's cells of a land, with their places; go, the reference's side ===== -/
def RdI (l y d j : Nat) : Prop := (d = 0 ∧ (j = 19 ∨ j = 47)) ∨ (d = 5 ∨ d = 6 ∨ d = 10 ∨ d = 11 ∨ d = 20) ∨ ((d = 14 ∨ d = 17) ∧ j < 12 * y) ∨ ((d = 15 ∨ d = 16) ∧ j < y) ∨ (21 ≤ d ∧ d ≤ 24 ∧ j = l) ∨ ((d = 25 ∨ d = 27) ∧ 12 * l ≤ j ∧ j < 12 * l + 12) ∨ (d = 26 ∧ 36 * l ≤ j ∧ j < 36 * l + 36) ∨ (30 ≤ d ∧ d ≤ 32 ∧ 400 * l ≤ j ∧ j < 400 * l + 400)
def RdJ (l d j : Nat) : Prop := (d = 28 ∧ 12 * l ≤ j ∧ j < 12 * l + 12) ∨ (d = 29 ∧ 15 * l ≤ j ∧ j < 15 * l + 15) ∨ (d = 33 ∧ 8 * l ≤ j ∧ j < 8 * l + 8)
theorem rI_cell {M l n y r c i : Nat} (hv : vR n y r c i) (hn : n ≤ 12) (hr : r ≤ 400) : ∃ d j, rI' M l c i = (M + d, j) ∧ RdI l y d j := by
  obtain ⟨hv, h16, h5⟩ := hv
  unfold vI at hv
  unfold RdI
  split at hv
  · rcases (show i = 0 ∨ i = 1 ∨ i = 2 ∨ i = 3 ∨ i = 4 ∨ i = 6 by omega) with rfl | rfl | rfl | rfl | rfl | rfl
    · exact ⟨0, 19, rfl, by omega⟩
    · exact ⟨21, l, rfl, by omega⟩
    · exact ⟨22, l, rfl, by omega⟩
    · exact ⟨23, l, rfl, by omega⟩
    · exact ⟨24, l, rfl, by omega⟩
    · exact ⟨0, 47, rfl, by omega⟩
  · exact ⟨30, _, rfl, by omega⟩
  · exact ⟨31, _, rfl, by omega⟩
  · exact ⟨32, _, rfl, by omega⟩
  · exact absurd rfl h16
  · exact ⟨14, i, rfl, by omega⟩
  · exact ⟨17, i, rfl, by omega⟩
  · exact ⟨15, i, rfl, by omega⟩
  · exact ⟨16, i, rfl, by omega⟩
  · exact ⟨5, i, rfl, by omega⟩
  · exact ⟨6, i, rfl, by omega⟩
  · obtain ⟨h1, h2, h3⟩ := hv
    rcases (show c = 1 ∨ c = 2 ∨ c = 3 ∨ c = 4 ∨ c = 5 ∨ c = 6 ∨ c = 7 ∨ c = 8 by omega) with rfl | rfl | rfl | rfl | rfl | rfl | rfl | rfl
    · exact ⟨10, i, rfl, by omega⟩
    · exact ⟨11, i, rfl, by omega⟩
    · exact ⟨25, _, rfl, by omega⟩
    · exact ⟨26, _, rfl, by omega⟩
    · exact ⟨26, _, rfl, by omega⟩
    · exact ⟨26, _, rfl, by omega⟩
    · exact ⟨27, _, rfl, by omega⟩
    · exact ⟨20, i, rfl, by omega⟩
theorem rJ_cell {M l n c i : Nat} (hv : vJ n c i) (hn : n ≤ 12) : ∃ d j, rJ M l c i = (M + d, j) ∧ RdJ l d j := by
  unfold vJ at hv
  unfold RdJ
  split at hv
  · exact ⟨29, _, rfl, by omega⟩
  · exact ⟨28, _, rfl, by omega⟩
  · exact ⟨33, _, rfl, by omega⟩
  · exact absurd hv id
theorem LandQ.off {g : Gc} {l n y r : Nat} {A m m' : Mm} (h : LandQ g l n y r A m) (hn : n ≤ 12) (hr : r ≤ 400) (hI : ∀ d j, RdI l y d j → mI m' (gz g + 145 + d) j = mI m (gz g + 145 + d) j) (hJ : ∀ d j, RdJ l d j → mL m' (gz g + 145 + d) j = mL m (gz g + 145 + d) j) : LandQ g l n y r A m' := by
  refine ⟨fun c i hv => ?_, fun c i hv => ?_⟩
  · obtain ⟨d, j, e, hd⟩ := rI_cell (M := gz g + 145) (l := l) hv.1 hn hr
    have := h.1 c i hv
    rw [e] at this ⊢
    exact (hI d j hd).trans this
  · obtain ⟨d, j, e, hd⟩ := rJ_cell (M := gz g + 145) (l := l) hv.1 hn
    have := h.2 c i hv
    rw [e] at this ⊢
    exact (hJ d j hd).trans this
theorem LR.off {g : Gc} {y r : Nat} {A m m' : Mm} (h : LR g y r A m) (hr : r ≤ 400) (hI : ∀ d j, RdI 0 y d j → mI m' (gz g + 145 + d) j = mI m (gz g + 145 + d) j) (hJ : ∀ d j, RdJ 0 d j → mL m' (gz g + 145 + d) j = mL m (gz g + 145 + d) j) (h1 : ∀ i, i < 2 * r → mI m' (gz g + 179) i = mI m (gz g + 179) i ∧ mI m' (gz g + 180) i = mI m (gz g + 180) i ∧ mL m' (gz g + 181) i = mL m (gz g + 181) i) : LR g y r A m' := by
  refine ⟨(h.1.q.off (by omega) hr hI hJ).r0, fun i hi => ?_⟩
  obtain ⟨a, b⟩ := h.2 i hi
  obtain ⟨c, d, e⟩ := h1 i hi
  exact ⟨c.trans a, fun q => ⟨d.trans (b q).1, e.trans (b q).2⟩⟩
def PG1 (g : Gc) (y a j : Nat) : Prop := a = gz g + 157 ∨ ((a = gz g + 158 ∨ a = gz g + 159 ∨ a = gz g + 163) ∧ 12 * y ≤ j ∧ j < 12 * y + 12)
def Go58 (g : Gc) (y : Nat) (yl : Int32) (A : Mm) (k : Nat) (m : Mm) : Prop := ∀ j, j < k → mI m (gz g + 158) (12 * y + j) = cropV A y yl j ∧ mI m (gz g + 159) (12 * y + j) = cropV A y yl j ∧ mI m (gz g + 163) (12 * y + j) = (if mI A 16 (12 * y + j) = -1 then 0 else 1) ∧ mI m (gz g + 157) j = -1
theorem l_go58 (g : Gc) {lv n y : Nat} {A m0 : Mm} {yl : Int32} (hS : Sg g m0) (hn : mI m0 (gz g + 145) 19 = nI n) (h12 : n ≤ 12) (h30 : y < 30) (hT : ∀ j, j < n → mI m0 (gz g + 157) j = mI A 16 (12 * y + j)) (hb : ∀ j, j < n → mI m0 (gz g + 170) j = mI A 3 j) {Q : Int32 → Mm → Prop} (hQ : ∀ m', St (PG1 g y) m0 m' → Go58 g y yl A n m' → (∀ j, n ≤ j → mI m' (gz g + 157) j = mI m0 (gz g + 157) j) → (∀ j, 12 * y + n ≤ j → mI m' (gz g + 159) j = mI m0 (gz g + 159) j) → At g M_RF_go (lv + 1) 58 [(0, va_rf (some (gz g + 145))), (1, .int yl), (2, .int (nI y)), (3, .int (nI n))] [] m' (QI Q)) : ∀ (d k : Nat) (m : Mm), k + d = n → St (PG1 g y) m0 m → Go58 g y yl A k m → (∀ j, k ≤ j → mI m (gz g + 157) j = mI m0 (gz g + 157) j) → (∀ j, 12 * y + k ≤ j → mI m (gz g + 159) j = mI m0 (gz g + 159) j) → At g M_RF_go (lv + 1) 58 [(0, va_rf (some (gz g + 145))), (1, .int yl), (2, .int (nI y)), (3, .int (nI k))] [] m (QI Q) := by
  intro d
  induction d with
  | zero =>
    intro k m hk s G e7 e9
    obtain rfl : k = n := by omega
    exact hQ m s G e7 e9
  | succ d ih =>
    intro k m hk s G e7 e9
    have S := s.sg hS
    have ng : mI m (gz g + 145) 19 = nI n := (s.2 _ _ (by unfold PG1; omega)).1.trans hn
    have ix : (12 : Int32) * nI y + nI k = nI (12 * y + k) := ix12 y k
    have c1 : (nI (12 * y + k)).toNatClampNeg = 12 * y + k := nI_clamp (by omega)
    have c2 : (nI k).toNatClampNeg = k := nI_clamp (by omega)
    have v360 : ∀ (mm : Mm) (a : Nat), Sg g mm → shN a = 360 → a < 184 → vp_in (nI (12 * y + k)) (mN mm (gz g + a)) := fun mm a S h1 h2 => by rw [S.n a h1 h2]; exact vp_in_nI (N := 360) (by omega) (by omega)
    have tk : mI m (gz g + 157) k = mI A 16 (12 * y + k) := (e7 k (Nat.le_refl _)).trans (hT k (by omega))
    have bk : mI m (gz g + 170) k = mI A 3 k := (s.2 _ _ (by unfold PG1; omega)).1.trans (hb k (by omega))
    -- from the crop on
    have t93 : At g M_RF_go (lv + 1) 93 [(0, va_rf (some (gz g + 145))), (1, .int yl), (2, .int (nI y)), (3, .int (nI k))] [.int (cropV A y yl k)] m (QI Q) := by
      refine bk_RF_go_93 g ?_
      rw [ix, c1, c2, nI_s]
      refine ⟨S.k 145 rfl, gz g + 158, S.r 145 23 rfl, S.k 158 rfl, v360 m 158 S rfl (by omega), fun m1 e1 => ?_⟩
      have s1 : St (PG1 g y) m m1 := by rw [e1]; exact St_sI m (by unfold PG1; omega) _
      have S1 := s1.sg S
      refine ⟨gz g + 159, S1.r 145 24 rfl, S1.k 159 rfl, v360 m1 159 S1 rfl (by omega), fun m2 e2 => ?_⟩
      have s2 : St (PG1 g y) m1 m2 := by rw [e2]; exact St_sI m1 (by unfold PG1; omega) _
      have S2 := s2.sg S1
      have tk2 : mI m2 (gz g + 157) k = mI A 16 (12 * y + k) := by rw [e2, e1, mI_sI, up2_oth (by omega), mI_sI, up2_oth (by omega)]; exact tk
      refine ⟨gz g + 163, S2.r 145 28 rfl, gz g + 157, S2.r 145 22 rfl, S2.k 157 rfl, by rw [S2.n 157 rfl]; exact vp_in_nI (N := 12) (by omega) (by omega), ?_⟩
      rw [tk2]
      have fin : ∀ (w : Int32) (m3 m4 : Mm), w = (if mI A 16 (12 * y + k) = -1 then 0 else 1) → m3 = sI m2 (gz g + 163) (12 * y + k) w → m4 = sI m3 (gz g + 157) k (-1) → At g M_RF_go (lv + 1) 58 [(0, va_rf (some (gz g + 145))), (1, .int yl), (2, .int (nI y)), (3, .int (nI (k + 1)))] [] m4 (QI Q) := by
        intro w m3 m4 ew e3 e4
        have s3 : St (PG1 g y) m2 m3 := by rw [e3]; exact St_sI m2 (by unfold PG1; omega) _
        have s4 : St (PG1 g y) m3 m4 := by rw [e4]; exact St_sI m3 (by unfold PG1; omega) _
        refine ih (k + 1) m4 (by omega) (s.trans ((s1.trans s2).trans (s3.trans s4))) (fun j hj => ?_) (fun j hj => ?_) (fun j hj => ?_)
        · rw [e4, e3, e2, e1]
          simp only [mI_sI]
          by_cases hjk : j = k
          · subst hjk
            refine ⟨?_, ?_, ?_, ?_⟩
            · rw [up2_oth (by omega), up2_oth (by omega), up2_oth (by omega), up2_at]
            · rw [up2_oth (by omega), up2_oth (by omega), up2_at]
            · rw [up2_oth (by omega), up2_at]; exact ew
            · rw [up2_at]
          · obtain ⟨g1, g2, g3, g4⟩ := G j (by omega)
            refine ⟨?_, ?_, ?_, ?_⟩
            · rw [up2_oth (by omega), up2_oth (by omega), up2_oth (by omega), up2_sl (by omega)]; exact g1
            · rw [up2_oth (by omega), up2_oth (by omega), up2_sl (by omega), up2_oth (by omega)]; exact g2
            · rw [up2_oth (by omega), up2_sl (by omega), up2_oth (by omega), up2_oth (by omega)]; exact g3
            · rw [up2_sl (by omega), up2_oth (by omega), up2_oth (by omega), up2_oth (by omega)]; exact g4
        · rw [e4, e3, e2, e1]
          simp only [mI_sI]
          rw [up2_sl (by omega), up2_oth (by omega), up2_oth (by omega), up2_oth (by omega)]
          exact e7 j (by omega)
        · rw [e4, e3, e2, e1]
          simp only [mI_sI]
          rw [up2_oth (by omega), up2_oth (by omega), up2_sl (by omega), up2_oth (by omega)]
          exact e9 j (by omega)
      by_cases ht : mI A 16 (12 * y + k) = -1
      · rw [if_pos ht]
        refine ⟨S2.k 163 rfl, v360 m2 163 S2 rfl (by omega), fun m3 e3 => ⟨?_, fun m4 e4 => fin 0 m3 m4 (by rw [if_pos ht]) e3 e4⟩⟩
        rw [e3, mN_sI, S2.n 157 rfl]; exact vp_in_nI (N := 12) (by omega) (by omega)
      · rw [if_neg ht]
        refine ⟨S2.k 163 rfl, v360 m2 163 S2 rfl (by omega), fun m3 e3 => ⟨?_, fun m4 e4 => fin 1 m3 m4 (by rw [if_neg ht]) e3 e4⟩⟩
        rw [e3, mN_sI, S2.n 157 rfl]; exact vp_in_nI (N := 12) (by omega) (by omega)
    refine bk_RF_go_58 g ⟨S.k 145 rfl, ?_⟩
    rw [ng, if_neg (nI_ge (by omega) (by omega)), c2]
    refine ⟨gz g + 157, S.r 145 22 rfl, S.k 157 rfl, by rw [S.n 157 rfl]; exact vp_in_nI (N := 12) (by omega) (by omega), ?_⟩
    rw [tk]
    by_cases ht : mI A 16 (12 * y + k) = -1
    · rw [if_pos ht]
      refine ⟨gz g + 170, S.r 145 35 rfl, S.k 170 rfl, by rw [S.n 170 rfl]; exact vp_in_nI (N := 24) (by omega) (by omega), ?_⟩
      rw [bk, show mI A 3 k * yl = cropV A y yl k by unfold cropV; rw [if_pos ht]]
      exact t93
    · rw [if_neg ht]
      refine ⟨by rw [S.n 157 rfl]; exact vp_in_nI (N := 12) (by omega) (by omega), ?_⟩
      rw [show mI A 16 (12 * y + k) = cropV A y yl k by unfold cropV; rw [if_neg ht]]
      exact t93
def NewN (r1 r : Nat) (A : Mm) : Prop := ∀ e, 2 * r1 ≤ e → e < 2 * r → mI A 12 e = -1
theorem endsA_new {r1 r i k : Nat} {A : Mm} (H : NewN r1 r A) (hi : i < r1) (hk : k < 2) : NewN r1 r (endsA A i k) := fun e h1 h2 => by
  rw [endsA_12 hk, if_neg (by omega), if_neg (by omega)]; exact H e h1 h2
theorem closeA_new {r1 r i k h b : Nat} {A : Mm} (H : NewN r1 r A) (hi : i < r1) (hk : k < 2) : NewN r1 (closeA A r i k h b).2 (closeA A r i k h b).1 := by
  unfold closeA
  split
  · unfold payA
    exact endsA_new (fun e h1 h2 => by rw [payB_I]; exact H e h1 h2) hi hk
  · split
    · intro e h1 h2
      show mI (takeA (unpA A) i b) 12 e = -1
      rw [takeA_12, if_neg (by omega), unpA_I (by omega)]; exact H e h1 h2
    · show NewN r1 (r + 1) (partA A r i k b)
      unfold partA
      refine endsA_new (fun e h1 h2 => ?_) hi hk
      unfold issM
      rw [issL_12]
      by_cases he : e = 2 * r ∨ e = 2 * r + 1
      · rw [if_pos he]
      · rw [if_neg he, issA_oth (by omega) (by omega), mI_sI, up2_oth (by omega), unpA_I (by omega)]
        exact H e h1 (by omega)
theorem dueS_new {n y p r1 r i : Nat} {A : Mm} (L : LoanI n y p r A) (H : NewN r1 r A) (hi : i < r1) (hr : r1 ≤ r) : NewN r1 (dueS A r i y).2 (dueS A r i y).1 := by
  unfold dueS
  split
  · next d0 =>
    have C0 : NewN r1 (clsA A r i 0).2 (clsA A r i 0).1 := closeA_new H hi (by omega)
    split
    · exact closeA_new C0 hi (by omega)
    · exact C0
  · split
    · exact closeA_new H hi (by omega)
    · exact H
theorem duesA_new {n y p r1 : Nat} {A : Mm} (L : LoanI n y p r1 A) : ∀ k, k ≤ r1 → NewN r1 (duesA A r1 y k).2 (duesA A r1 y k).1
  | 0, _ => fun e h1 h2 => absurd h1 (by show ¬ 2 * r1 ≤ e; have : e < 2 * r1 := h2; omega)
  | k + 1, hk => by
    obtain ⟨H1, -, l2⟩ := duesA_I L k (by omega)
    exact dueS_new H1 (duesA_new L k (by omega)) (by omega) l2
theorem dueS_none {r i y : Nat} {A : Mm} (h0 : mI A 12 (2 * i) = -1) (h1 : mI A 12 (2 * i + 1) = -1) : dueS A r i y = (A, r) := by
  unfold dueS
  rw [if_neg (fun q => q.1 h0), if_neg (fun q => q.1 h1)]
theorem l_go189 (g : Gc) {lv n y p Y r1 : Nat} {B m0 : Mm} (hL : LoanI n y p r1 B) (h12 : n ≤ 12) (hp1 : 1 ≤ p) (hp2 : p ≤ 10000) (hS : Sg g m0) (hF : Fr g m0) (hR : LR g Y r1 B m0) {Q : Int32 → Mm → Prop} (hQ : ∀ m', LR g Y (duesA B r1 y r1).2 (duesA B r1 y r1).1 m' → Fs g (PDu g) 0 m0 m' → Sg g m' → Fr g m' → ∀ m2, m2 = sI m' (gz g + 166) 0 (nI (y + 1)) → Q (nI (y + 1)) m2) : At g M_RF_go (lv + 4) 189 [(0, va_rf (some (gz g + 145))), (2, .int (nI y)), (3, .int (0 : Int32))] [] m0 (QI Q) := by
  have z0 : (0 : Int32).toNatClampNeg = 0 := rfl
  have v2 : ∀ (mm : Mm) (a : Nat), Sg g mm → shN a = 2 → a < 184 → vp_in (0 : Int32) (mN mm (gz g + a)) := fun mm a S h1 h2 => by rw [S.n a h1 h2]; exact vp_in_nI (n := 0) (N := 2) (by omega) (by omega)
  obtain ⟨HD, b1, b2⟩ := duesA_I hL r1 (Nat.le_refl _)
  have hN := duesA_new hL r1 (Nat.le_refl _)
  have D4 := HD.2.2.2.1.2
  have ph2 : ∀ (d k : Nat) (m : Mm), k + d = (duesA B r1 y r1).2 → r1 ≤ k → LR g Y (duesA B r1 y r1).2 (duesA B r1 y r1).1 m → Fs g (PDu g) 0 m0 m → Sg g m → Fr g m → At g M_RF_go (lv + 4) 189 [(0, va_rf (some (gz g + 145))), (2, .int (nI y)), (3, .int (nI k))] [] m (QI Q) := by
    intro d
    induction d with
    | zero =>
      intro k m hk h1 R fs S F
      refine bk_RF_go_189 g ⟨S.k 145 rfl, gz g + 168, S.r 145 33 rfl, S.k 168 rfl, v2 m 168 S rfl (by omega), ?_⟩
      rw [z0, R.rn, HD.2.2.2.1.1, if_pos (nI_le (by omega) (by omega))]
      refine ⟨gz g + 166, S.r 145 31 rfl, S.k 166 rfl, v2 m 166 S rfl (by omega), v2 m 166 S rfl (by omega), fun m2 e2 => ?_⟩
      rw [R.yr, HD.2.2.2.2.2.1, nI_s] at e2
      refine ⟨by rw [e2, mN_sI]; exact v2 m 166 S rfl (by omega), ?_⟩
      rw [show mI m2 (gz g + 166) 0 = nI (y + 1) by rw [e2, mI_sI, up2_at]]
      exact hQ m R fs S F m2 e2
    | succ d ih =>
      intro k m hk h1 R fs S F
      refine bk_RF_go_189 g ⟨S.k 145 rfl, gz g + 168, S.r 145 33 rfl, S.k 168 rfl, v2 m 168 S rfl (by omega), ?_⟩
      rw [z0, R.rn, HD.2.2.2.1.1, if_neg (nI_ge (by omega) (by omega)), nI_s]
      refine c_duesR g (lv := lv) (i := k) S F R HD h12 hp1 hp2 (by omega) (fun m' R' fs' S' F' => ?_)
      rw [dueS_none (hN _ (by omega) (by omega)) (hN _ (by omega) (by omega))] at R'
      exact ih (k + 1) m' (by omega) (by omega) R' ((fs.trans fs' (fun _ _ _ z => z)).weak (fun _ _ _ z => z) (by omega)) S' F'
  have ph1 : ∀ (d k : Nat) (m : Mm), k + d = r1 → LR g Y (duesA B r1 y k).2 (duesA B r1 y k).1 m → Fs g (PDu g) 0 m0 m → Sg g m → Fr g m → At g M_RF_go (lv + 4) 189 [(0, va_rf (some (gz g + 145))), (2, .int (nI y)), (3, .int (nI k))] [] m (QI Q) := by
    intro d
    induction d with
    | zero =>
      intro k m hk R fs S F
      obtain rfl : k = r1 := by omega
      exact ph2 ((duesA B k y k).2 - k) k m (by omega) (Nat.le_refl _) R fs S F
    | succ d ih =>
      intro k m hk R fs S F
      obtain ⟨HK, c1, c2⟩ := duesA_I hL k (by omega)
      have K4 := HK.2.2.2.1.2
      refine bk_RF_go_189 g ⟨S.k 145 rfl, gz g + 168, S.r 145 33 rfl, S.k 168 rfl, v2 m 168 S rfl (by omega), ?_⟩
      rw [z0, R.rn, HK.2.2.2.1.1, if_neg (nI_ge (by omega) (by omega)), nI_s]
      refine c_duesR g (lv := lv) (i := k) S F R HK h12 hp1 hp2 (by omega) (fun m' R' fs' S' F' => ?_)
      exact ih (k + 1) m' (by omega) R' ((fs.trans fs' (fun _ _ _ z => z)).weak (fun _ _ _ z => z) (by omega)) S' F'
  exact ph1 r1 0 m0 (by omega) hR (Fs.refl _ _ _ _) hS hF
