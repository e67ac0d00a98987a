/-! ===== the parts are kept, the reference's side ===== -/
theorem LandQ.inv {g : Gc} {l n y r : Nat} {A m : Mm} (h : LandQ g l n y r A m) {c i : Nat} (hv : ¬ vL l n y r c i) (v : Int32) : LandQ g l n y r (sI A c i v) m := by
  refine ⟨fun c' i' hv' => ?_, h.2⟩
  rw [mI_sI, up2_not (fun q => hv (by rw [← q.1, ← q.2]; exact hv'))]
  exact h.1 c' i' hv'
theorem LandQ.inv2 {g : Gc} {l n y r : Nat} {A m : Mm} {c i : Nat} {v : Int32} (h : LandQ g l n y r (sI A c i v) m) (hv : ¬ vL l n y r c i) : LandQ g l n y r A m := by
  refine ⟨fun c' i' hv' => ?_, h.2⟩
  have := h.1 c' i' hv'
  rw [mI_sI, up2_not (fun q => hv (by rw [← q.1, ← q.2]; exact hv'))] at this
  exact this
theorem vL_18 {l N y r k j : Nat} (hk : k < 12) (hy : y ≤ j) : ¬ vL l N y r 18 (12 * j + k) := fun h => by
  have : (12 * j + k) % 12 < N ∧ (12 * j + k) / 12 < y := h.1.1
  omega
theorem vL_8 {l N y r k : Nat} (hl : l = 1) : ¬ vL l N y r 8 k := fun h => by
  have := h.2
  omega
theorem sI_over {A : Mm} {c i : Nat} {v w : Int32} : sI (sI A c i v) c i w = sI A c i w := by
  obtain ⟨a, b⟩ := A
  refine congrArg (fun f => (f, b)) ?_
  funext q k
  show up2 (up2 a c i v) c i w q k = up2 a c i w q k
  by_cases h : q = c ∧ k = i
  · rw [h.1, h.2, up2_at, up2_at]
  · rw [up2_not h, up2_not h, up2_not h]
theorem sI_comm {A : Mm} {c i c' j : Nat} {v w : Int32} (h : ¬ (c = c' ∧ i = j)) : sI (sI A c i v) c' j w = sI (sI A c' j w) c i v := by
  obtain ⟨a, b⟩ := A
  refine congrArg (fun f => (f, b)) ?_
  funext q k
  show up2 (up2 a c i v) c' j w q k = up2 (up2 a c' j w) c i v q k
  by_cases h1 : q = c' ∧ k = j
  · rw [h1.1, h1.2, up2_at, up2_not (fun z => h ⟨z.1.symm, z.2.symm⟩), up2_at]
  · rw [up2_not h1]
    by_cases h2 : q = c ∧ k = i
    · rw [h2.1, h2.2, up2_at, up2_at]
    · rw [up2_not h2, up2_not h2, up2_not h1]
theorem LandQ.issue {g : Gc} {l n y r : Nat} {A m m' : Mm} {v0 v1 v2 : Int32} (h : LandQ g l n y r A m) (hs : ∀ d, rCell d → ∀ j, ¬ ((d = 30 ∨ d = 31 ∨ d = 32) ∧ j = 400 * l + r) → mI m' (gz g + 145 + d) j = mI m (gz g + 145 + d) j ∧ mL m' (gz g + 145 + d) j = mL m (gz g + 145 + d) j) (h19 : mI m' (gz g + 145) 19 = mI m (gz g + 145) 19) (h47 : mI m' (gz g + 145) 47 = mI m (gz g + 145) 47) (h0 : mI m' (gz g + 175) (400 * l + r) = v0) (h1 : mI m' (gz g + 176) (400 * l + r) = v1) (h2 : mI m' (gz g + 177) (400 * l + r) = v2) : LandQ g l n y (r + 1) (issB A r v0 v1 v2) m' := by
  obtain ⟨i9, i10, i11⟩ := issB_at (A := A) (r := r) (h := v0) (s := v1) (yy := v2)
  refine ⟨fun c i hv => ?_, fun c i hv => ?_⟩
  · by_cases hc : (c = 9 ∨ c = 10 ∨ c = 11) ∧ i = r
    · obtain ⟨h3, rfl⟩ := hc
      rcases h3 with rfl | rfl | rfl
      · rw [i9]; exact h0
      · rw [i10]; exact h1
      · rw [i11]; exact h2
    · rw [issB_oth hc]
      have hv' : vR n y r c i := by
        refine ⟨?_, hv.1.2⟩
        by_cases h9 : c = 9
        · subst h9; have : i < r + 1 := hv.1.1; show i < r; omega
        by_cases h10 : c = 10
        · subst h10; have : i < r + 1 := hv.1.1; show i < r; omega
        by_cases h11 : c = 11
        · subst h11; have : i < r + 1 := hv.1.1; show i < r; omega
        exact vI_r h9 h10 h11 hv.1.1
      refine Eq.trans ?_ (h.1 c i ⟨hv', hv.2⟩)
      rcases rI_at (M := gz g + 145) (l := l) hv' with ⟨d, hd, e⟩ | e | e
      · have k1 := rInv_ok (M := gz g + 145) (l := l) hv'
        rw [e]
        refine (hs d hd _ (fun q => ?_)).1
        obtain ⟨q1, q2⟩ := q
        have e2 : rI' (gz g + 145) l c i = (gz g + 145 + d, 400 * l + r) := Prod.ext e q2
        rw [e2] at k1
        rcases q1 with rfl | rfl | rfl
        · simp [rInv] at k1; omega
        · simp [rInv] at k1; omega
        · simp [rInv] at k1; omega
      · rw [e]; exact h19
      · rw [e]; exact h47
  · rw [issB_L]
    refine Eq.trans ?_ (h.2 c i hv)
    obtain ⟨d, hd, e⟩ := rJ_at (M := gz g + 145) (l := l) hv.1
    rw [e]
    by_cases h3 : (d = 30 ∨ d = 31 ∨ d = 32)
    · exfalso
      have hv1 := hv.1
      unfold vJ at hv1
      split at hv1
      · simp only [rJ] at e; omega
      · simp only [rJ] at e; omega
      · simp only [rJ] at e; omega
      · exact hv1
    · exact (hs d hd _ (fun q => h3 q.1)).2
/-- what a new receipt changes besides -/
def PQ9 (g : Gc) (l y n a j : Nat) : Prop := PQ g l a j ∨ (l = 0 ∧ ((a = gz g + 162 ∧ 12 * y ≤ j ∧ j < 12 * y + n) ∨ a = gz g + 165 ∨ a = gz g + 179))
theorem c_issueQ (g : Gc) {lv l N y r n : Nat} {A m : Mm} (hl : l < 2) (hS : Sg g m) (hR : LandQ g l N y r A m) (h03 : mI A 0 3 = nI r) (hr : r < 400) (h s yy : Int32) {Q : Int32 → Mm → Prop} (hQ : ∀ m', LandQ g l N y (r + 1) (issA A r h s yy) m' → St (PQ9 g l y n) m m' → (l = 0 → ∀ j, mI m' (gz g + 179) j = if j = 2 * r ∨ j = 2 * r + 1 then -1 else mI m (gz g + 179) j) → mI m' (gz g + 162) = mI m (gz g + 162) → Q (nI r) m') : CI g M_RF_receipt_IIII (lv + 1) [va_rf (some (gz g + 145)), .int (nI l), .int h, .int s, .int yy] m Q := by
  refine en_RF_receipt_IIII g ⟨hS.k 145 rfl, gz g + 168, hS.r 145 33 rfl, hS.k 168 rfl, by rw [hS.n 168 rfl]; exact vp_in_nI (N := 2) hl (by omega), ?_⟩
  rw [nI_clamp (show l < 2 ^ 31 by omega), hR.sc.2.2.1, h03, ix400, nI_clamp (show 400 * l + r < 2 ^ 31 by omega)]
  have v8 : ∀ mm : Mm, Sg g mm → vp_in (nI l) (mN mm (gz g + 168)) := fun mm S => by rw [S.n 168 rfl]; exact vp_in_nI (N := 2) hl (by omega)
  refine ⟨gz g + 175, hS.r 145 40 rfl, hS.k 175 rfl, by rw [hS.n 175 rfl]; exact vp_in_nI (N := 800) (by omega) (by omega), fun m1 e1 => ?_⟩
  have S1 : Sg g m1 := by rw [e1]; exact hS
  refine ⟨gz g + 176, S1.r 145 41 rfl, S1.k 176 rfl, by rw [S1.n 176 rfl]; exact vp_in_nI (N := 800) (by omega) (by omega), fun m2 e2 => ?_⟩
  have S2 : Sg g m2 := by rw [e2]; exact S1
  refine ⟨gz g + 177, S2.r 145 42 rfl, S2.k 177 rfl, by rw [S2.n 177 rfl]; exact vp_in_nI (N := 800) (by omega) (by omega), fun m3 e3 => ?_⟩
  have S3 : Sg g m3 := by rw [e3]; exact S2
  refine ⟨v8 m3 S3, v8 m3 S3, fun m4 e4 => ?_⟩
  have n3 : mI m3 (gz g + 168) l = nI r := by
    rw [e3, mI_sI, up2_oth (by omega), e2, mI_sI, up2_oth (by omega), e1, mI_sI, up2_oth (by omega)]
    exact hR.sc.2.2.1.trans h03
  rw [n3, nI_s] at e4
  have S4 : Sg g m4 := by rw [e4]; exact S3
  have R3 : LandQ g l N y (r + 1) (issB A r h s yy) m3 := by
    refine hR.issue (m' := m3) (fun d hd j hj => ?_) ?_ ?_ ?_ ?_ ?_
    · rw [e3, e2, e1]
      refine ⟨?_, rfl⟩
      rw [mI_sI, up2_not (by omega), mI_sI, up2_not (by omega), mI_sI, up2_not (by omega)]
    · rw [e3, mI_sI, up2_oth (by omega), e2, mI_sI, up2_oth (by omega), e1, mI_sI, up2_oth (by omega)]
    · rw [e3, mI_sI, up2_oth (by omega), e2, mI_sI, up2_oth (by omega), e1, mI_sI, up2_oth (by omega)]
    · rw [e3, mI_sI, up2_oth (by omega), e2, mI_sI, up2_oth (by omega), e1, mI_sI, up2_at]
    · rw [e3, mI_sI, up2_oth (by omega), e2, mI_sI, up2_at]
    · rw [e3, mI_sI, up2_at]
  have R4 : LandQ g l N y (r + 1) (issA A r h s yy) m4 := by
    rw [e4]
    exact R3.putI (c := 0) (i := 3) (a := gz g + 168) (j := l) ⟨⟨by show 3 < 7; omega, by omega, by omega⟩, Or.inr (Or.inl ⟨rfl, by omega⟩)⟩ rfl _
  have s4 : St (PQ9 g l y n) m m4 := by
    rw [e4, e3, e2, e1]
    exact ((St_sI m (Or.inl (by unfold PQ; omega)) _).trans (St_sI _ (Or.inl (by unfold PQ; omega)) _)).trans ((St_sI _ (Or.inl (by unfold PQ; omega)) _).trans (St_sI _ (Or.inl (by unfold PQ; omega)) _))
  have q4 : mI m4 (gz g + 179) = mI m (gz g + 179) := by rw [e4, mI_sI, up2_ne (by omega), e3, mI_sI, up2_ne (by omega), e2, mI_sI, up2_ne (by omega), e1, mI_sI, up2_ne (by omega)]
  have q2 : mI m4 (gz g + 162) = mI m (gz g + 162) := by rw [e4, mI_sI, up2_ne (by omega), e3, mI_sI, up2_ne (by omega), e2, mI_sI, up2_ne (by omega), e1, mI_sI, up2_ne (by omega)]
  have e7 : ∀ m' : Mm, mI m' (gz g + 168) l = nI (r + 1) → mI m' (gz g + 168) l - (1 : Int32) = nI r := fun m' e => by rw [e, nI_m1 (by omega)]; rfl
  have n4 : mI m4 (gz g + 168) l = nI (r + 1) := by rw [e4, mI_sI, up2_at]
  clear e1 e2 e3 e4
  rcases (show l = 0 ∨ l = 1 by omega) with rfl | rfl
  · rw [if_pos (show nI 0 = 0 from rfl), show 400 * 0 + r = r by omega, ix2s, ix2, nI_clamp (show 2 * r < 2 ^ 31 by omega), nI_clamp (show 2 * r + 1 < 2 ^ 31 by omega)]
    refine ⟨gz g + 179, S4.r 145 44 rfl, S4.k 179 rfl, by rw [S4.n 179 rfl]; exact vp_in_nI (N := 800) (by omega) (by omega), fun m5 e5 => ?_⟩
    have S5 : Sg g m5 := by rw [e5]; exact S4
    refine ⟨by rw [S5.n 179 rfl]; exact vp_in_nI (N := 800) (by omega) (by omega), fun m6 e6 => ?_⟩
    have S6 : Sg g m6 := by rw [e6]; exact S5
    refine ⟨v8 m6 S6, ?_⟩
    rw [e7 m6 (by rw [e6, mI_sI, up2_oth (by omega), e5, mI_sI, up2_oth (by omega)]; exact n4)]
    refine hQ m6 ?_ (s4.trans ?_) (fun _ j => ?_) (by rw [e6, mI_sI, up2_ne (by omega), e5, mI_sI, up2_ne (by omega)]; exact q2)
    · rw [e6, e5]
      exact (R4.same (m' := sI m4 (gz g + 179) (2 * r) (-1)) (fun d hd => ⟨up2_ne (by unfold rCell at hd; omega), rfl⟩) (up2_oth (by omega)) (up2_oth (by omega))).same (fun d hd => ⟨up2_ne (by unfold rCell at hd; omega), rfl⟩) (up2_oth (by omega)) (up2_oth (by omega))
    · rw [e6, e5]
      exact (St_sI m4 (Or.inr ⟨rfl, by omega⟩) _).trans (St_sI _ (Or.inr ⟨rfl, by omega⟩) _)
    · rw [e6, mI_sI]
      by_cases h1 : j = 2 * r + 1
      · subst h1; rw [up2_at, if_pos (Or.inr rfl)]
      · rw [up2_sl h1, e5, mI_sI]
        by_cases h2 : j = 2 * r
        · subst h2; rw [up2_at, if_pos (Or.inl rfl)]
        · rw [up2_sl h2, if_neg (by omega), q4]
  · rw [if_neg (show ¬ nI 1 = 0 by decide)]
    refine ⟨v8 m4 S4, ?_⟩
    rw [e7 m4 n4]
    exact hQ m4 R4 s4 (fun q => absurd q (by omega)) q2
