/-! ===== beside: the class's years ===== -/
def absC (g : Gc) (t : Nat) (pb : Nat → Nat) (m : Mm) : Mm := (fun c i => mI m (cI (gz g + t) pb c i).1 (cI (gz g + t) pb c i).2, fun c i => mL m (cJ (gz g + t) c i).1 (cJ (gz g + t) c i).2, m.2.2)
theorem absC_ok (g : Gc) (t : Nat) (pb : Nat → Nat) (N y r : Nat) (m : Mm) : LandC g t pb N y r (absC g t pb m) m := ⟨fun _ _ _ => rfl, fun _ _ _ => rfl⟩
def PBs (g : Gc) (pb0 : Nat → Nat) (R0 a j : Nat) : Prop := PC g 65 pb0 R0 a j ∨ PJ g 65 a j
def BsC (g : Gc) (pb0 : Nat → Nat) (R0 : Nat) (m0 : Mm) (n k : Nat) (A : Mm) (r : Nat) (pb : Nat → Nat) (R : Nat) (m : Mm) : Prop :=
  LandC g 65 pb n 30 r A m ∧ PaOK g pb R ∧ Pap g 65 pb R m ∧ (r ≤ R ∧ R ≤ 400 ∧ R0 ≤ R) ∧ Sg g m ∧ Fr g m ∧ Fs g (PBs g pb0 R0) (12 * k) m0 m ∧ (∀ i, i < R0 → pb i = pb0 i) ∧ (∀ i, R0 ≤ i → i < R → gz g + mC m0 ≤ pb i) ∧ ∀ i, i < r → mR m (pb i) 3 = none ∧ mR m (pb i) 4 = none
theorem l_live90 (g : Gc) {lv n y R0 : Nat} {A0 m0 : Mm} {tl yl : Nat → Int32} {pb0 : Nat → Nat} {cs : List Cls} (F0 : Fr g m0) (hP0 : PaOK g pb0 R0) (D : LawD g cs m0) (hL : LwOK cs) (T : TermsOK g m0) (B0 : BP n 0 tl A0 0) (h12 : n ≤ 12) (h30 : y ≤ 30) (ht : TlOK n tl) (hyl : ∀ k, k < y → ∃ q : Nat, q ≤ 100 ∧ yl k = nI q) (yC : mI m0 (gz g + 2) 9 = nI y) (yY : ∀ k, k < y → mI m0 (gz g + 11) k = yl k) {Q : Mm → Prop} (hQ : ∀ pb R m, BsC g pb0 R0 m0 n y (besA (mI m0 (gz g + 1)) cs n yl A0 y).1 (besA (mI m0 (gz g + 1)) cs n yl A0 y).2 pb R m → Q m) : ∀ (d k : Nat) (pb : Nat → Nat) (R : Nat) (m : Mm), k + d = y → BsC g pb0 R0 m0 n k (besA (mI m0 (gz g + 1)) cs n yl A0 k).1 (besA (mI m0 (gz g + 1)) cs n yl A0 k).2 pb R m → At g M_Land_liveAgain (lv + 6) 90 [(0, va_rf (some (gz g + 65))), (1, va_rf (some (gz g + 2))), (2, va_rf (some (gz g + 133))), (3, .int (nI k))] [] m (QV Q) := by
  have F184 := F0.1
  have low : ∀ {k : Nat} {m : Mm}, Fs g (PBs g pb0 R0) (12 * k) m0 m → ∀ a j, a < gz g + 184 → ¬ (gz g + 65 ≤ a ∧ a < gz g + 128) → mI m a j = mI m0 a j := fun fs a j h1 h2 => (fs.2.2 a j (by omega) (fun z => by
    rcases z with (z | ⟨k, hk, rfl⟩) | z
    · omega
    · have := hP0.2 k hk
      omega
    · unfold PJ at z; omega)).1
  intro d
  induction d with
  | zero =>
    intro k pb R m hk K
    obtain rfl : k = y := by omega
    obtain ⟨-, -, -, -, S, F, fs, -⟩ := id K
    refine bk_Land_liveAgain_90 g ⟨gz g + 2, rfl, S.k 2 rfl, ?_⟩
    rw [low fs (gz g + 2) 9 (by omega) (by omega), yC, if_pos (nI_le (Nat.le_refl _) (by omega))]
    exact hQ pb R m K
  | succ d ih =>
    intro k pb R m hk K
    have BP1 := besA_P (cs := cs) B0 h12 h30 hyl ht T k (by omega)
    have ih1 := ih (k + 1)
    have ev : besA (mI m0 (gz g + 1)) cs n yl A0 (k + 1) = (sI (yearA (mI m0 (gz g + 1)) cs n k (yl k) (besA (mI m0 (gz g + 1)) cs n yl A0 k).1 (besA (mI m0 (gz g + 1)) cs n yl A0 k).2).1 0 1 (nI (k + 1)), (yearA (mI m0 (gz g + 1)) cs n k (yl k) (besA (mI m0 (gz g + 1)) cs n yl A0 k).1 (besA (mI m0 (gz g + 1)) cs n yl A0 k).2).2) := rfl
    rw [ev] at ih1
    clear ev
    generalize (besA (mI m0 (gz g + 1)) cs n yl A0 k).1 = A at K BP1 ih1
    generalize (besA (mI m0 (gz g + 1)) cs n yl A0 k).2 = r at K BP1 ih1
    obtain ⟨C, po, pp, ⟨rR, R4, R0R⟩, S, F, fs, hpa, hnew, hln⟩ := K
    obtain ⟨b1, b2, -, b4, b5, b6, -⟩ := BP1
    have t1 : mI m (gz g + 1) = mI m0 (gz g + 1) := funext fun j => low fs (gz g + 1) j (by omega) (by omega)
    refine bk_Land_liveAgain_90 g ⟨gz g + 2, rfl, S.k 2 rfl, ?_⟩
    rw [low fs (gz g + 2) 9 (by omega) (by omega), yC, if_neg (nI_ge (by omega) (by omega)), if_neg (show ¬ (30 : Int32) ≤ nI k from nI_ge (b := 30) (by omega) (by omega)), nI_clamp (show k < 2 ^ 31 by omega)]
    refine ⟨gz g + 11, S.r 2 5 rfl, S.k 11 rfl, by rw [S.n 11 rfl]; exact vp_in_nI (N := 30) (by omega) (by omega), S.k 65 rfl, ?_⟩
    rw [low fs (gz g + 11) k (by omega) (by omega), yY k (by omega), nI_s]
    have D1 : LawD g cs m := D.off (fun a j h1 h2 => low fs a j (by omega) (by omega))
    refine c_passY g (lv := lv) (t := 65) (N := n) (cs := cs) (Or.inr rfl) po b1 (Nat.le_refl _) h12 b2 (by omega) rR R4 (by omega) b4 b6.ok S F pp C hL (fun m1 s1 => ⟨fun z => (by cases z), fun la z => ?_⟩) (fun pb1 R1 m1 K1 => ?_)
    · cases z
      refine (D1.off (fun a j h1 h2 => (s1.2 a j (fun z => ?_)).1)).h (s1.sg S) hL
      rcases z with (z | ⟨i, hi, rfl⟩) | z
      · omega
      · have := po.2 i (by omega)
        omega
      · unfold PJ at z; omega
    rw [t1] at K1
    have z3 : mI (yearA (mI m0 (gz g + 1)) cs n k (yl k) A r).1 0 3 = nI (yearA (mI m0 (gz g + 1)) cs n k (yl k) A r).2 := yBd_3 h12 b4
    have z1 : mI (yearA (mI m0 (gz g + 1)) cs n k (yl k) A r).1 0 1 = nI k := (yBd_I h12 (by omega) (by omega) (by omega) (by omega) (by omega) (by omega) (by omega) (by omega)).trans b2
    generalize yearA (mI m0 (gz g + 1)) cs n k (yl k) A r = BB at K1 z1 z3 ih1
    obtain ⟨B, r1⟩ := BB
    simp only at K1 z1 z3 ih1
    obtain ⟨c1, po1, pp1, ⟨q1, q2, q3, q4, q5⟩, S1, F1, fs1, hpa1, hnew1, hold1, hnn1⟩ := K1
    have nl : ∀ i, i < r1 → mR m1 (pb1 i) 3 = none ∧ mR m1 (pb1 i) 4 = none := fun i hi => by
      by_cases hir : i < r
      · rw [hpa1 i (by omega), hold1 i hir]; exact hln i hir
      · exact hnn1 i (by omega) hi
    refine c_settle0 g (lv := lv + 1) (Or.inr rfl) S1 pp1 q1 q2 (c1.rn.trans z3) nl (fun m3 e3 => ?_)
    rw [c1.yr, z1, nI_s] at e3
    have s3 : St (PBs g pb0 R0) m1 m3 := by rw [e3]; exact St_sI m1 (Or.inl (Or.inl (by omega))) _
    have c3 := (c1.p0 h12 (by omega) (po1.weak q1) (nI (k + 1))).1
    rw [← e3] at c3
    refine ih1 pb1 R1 m3 (by omega) ⟨c3, po1, s3.pap pp1, ⟨q1, q2, by omega⟩, s3.sg S1, s3.fr F1, ?_, fun i hi => ?_, fun i h1 h2 => ?_, fun i hi => by rw [s3.1.1]; exact nl i hi⟩
    · refine ((fs.trans fs1 (fun a j ha z => ?_)).trans s3.fs (fun _ _ _ z => z)).weak (fun _ _ _ z => z) (by omega)
      rcases z with (z | ⟨i, hi, rfl⟩) | z
      · exact Or.inl (Or.inl z)
      · by_cases hi0 : i < R0
        · exact Or.inl (Or.inr ⟨i, hi0, hpa i hi0⟩)
        · have := hnew i (by omega) hi
          omega
      · exact Or.inr z
    · rw [hpa1 i (by omega)]; exact hpa i hi
    · by_cases hiR : i < R
      · rw [hpa1 i hiR]; exact hnew i h1 hiR
      · have := hnew1 i (by omega) h2
        have := fs.2.1.1
        omega
def Ini (g : Gc) (n : Nat) (A A0 m : Mm) : Prop := (∀ j, j < n → mI A0 1 j = mI A 1 j ∧ mI A0 2 j = mI A 2 j ∧ mI A0 3 j = mI A 2 j ∧ mI A0 4 j = 0 ∧ mI A0 5 j = 0 ∧ mI A0 6 j = 0 ∧ mI A0 7 j = 0 ∧ mL A0 0 j = 0 ∧ mL A0 1 j = 0) ∧ mI A0 0 2 = 100 ∧ mI A0 0 4 = mI m (gz g + 65) 11 ∧ ∀ j, j < 8 → mL A0 2 j = mL m (gz g + 76) j
theorem c_live (g : Gc) {lv n y p r R0 : Nat} {A m : Mm} {pa pb0 : Nat → Nat} {cs : List Cls} (S : Sg g m) (F : Fr g m) (C : LC g pa y r A m) (G : Good n y p r A) (D : LawD g cs m) (hL : LwOK cs) (T : TermsOK g m) (hP0 : PaOK g pb0 R0) (hPp : Pap g 65 pb0 R0 m) (hR : R0 ≤ 400) {Q : Mm → Prop} (hQ : ∀ (A0 : Mm) (pb : Nat → Nat) (R : Nat) (m2 : Mm), BP n 0 (mI A 16) A0 0 → Ini g n A A0 m → LandC g 65 pb n 30 (besA (mI m (gz g + 1)) cs n (mI A 19) A0 y).2 (besA (mI m (gz g + 1)) cs n (mI A 19) A0 y).1 m2 → PaOK g pb R → Pap g 65 pb R m2 → ((besA (mI m (gz g + 1)) cs n (mI A 19) A0 y).2 ≤ R ∧ R ≤ 400 ∧ R0 ≤ R) → Sg g m2 → Fr g m2 → Fs g (PBs g pb0 R0) 360 m m2 → (∀ i, i < R0 → pb i = pb0 i) → (∀ i, R0 ≤ i → i < R → gz g + mC m ≤ pb i) → Q m2) : CV g M_Land_liveAgain (lv + 6) [va_rf (some (gz g + 65)), va_rf (some (gz g + 2)), va_rf (some (gz g + 133))] m Q := by
  obtain ⟨H, ⟨h12, hy30, hp1, hp2⟩, -, ⟨gv, ga, gb, gt, gy⟩, -, -, -⟩ := G
  have F184 := F.1
  refine en_Land_liveAgain g ⟨S.k 65 rfl, fun m1 e1 m2 e2 => ⟨gz g + 68, ?_, ?_, fun m3 e3 m4 e4 => ?_⟩⟩
  · rw [e2, e1]; exact S.r 65 3 rfl
  · rw [e2, e1]; exact S.k 68 rfl
  have s4 : St (PLv g) m m4 := by
    have a1 : St (PLv g) m m1 := by rw [e1]; exact St_sI m (by unfold PLv; omega) _
    have a2 : St (PLv g) m1 m2 := by rw [e2]; exact St_sI m1 (by unfold PLv; omega) _
    have a3 : St (PLv g) m2 m3 := by rw [e3]; exact St_sI m2 (by unfold PLv; omega) _
    have a4 : St (PLv g) m3 m4 := by rw [e4]; exact St_sI m3 (by unfold PLv; omega) _
    exact ((a1.trans a2).trans a3).trans a4
  have v8 : mI m4 (gz g + 65) 8 = 0 := by rw [e4, mI_sI, up2_at]
  have v9 : mI m4 (gz g + 65) 9 = 0 := by rw [e4, e3, e2, e1, mI_sI, up2_sl (by omega), mI_sI, up2_oth (by omega), mI_sI, up2_sl (by omega), mI_sI, up2_at]
  have v10 : mI m4 (gz g + 65) 10 = 100 := by rw [e4, e3, e2, mI_sI, up2_sl (by omega), mI_sI, up2_oth (by omega), mI_sI, up2_at]
  have v68 : mI m4 (gz g + 68) 1 = 0 := by rw [e4, e3, mI_sI, up2_oth (by omega), mI_sI, up2_at]
  clear e1 e2 e3 e4
  have S4 := s4.sg S
  have C4 : LandC g 2 pa 12 y r A m4 := ⟨C.1.1.off (fun c i hv => (s4.2 _ _ (fun z => by
      rcases cI_at (t := gz g + 2) (pa := pa) (by omega) hv with q | ⟨k, hk, q⟩
      · unfold PLv at z; omega
      · have := C.2.1.2 k hk
        unfold PLv at z; omega)).1), C.1.2.off (fun c i hv => (s4.2 _ _ (fun z => by
      have q := cJ_at (t := gz g + 2) (by omega) hv
      unfold PLv at z; omega)).2)⟩
  refine l_live26 g (lv := lv + 2) S4 C4 H.2.2.2.2.1 h12 (fun m5 s5 G5 k8 k9 k10 k68 => ?_) n 0 m4 (by omega) (St.refl _ _) (fun q hq => absurd hq (by omega)) v8 rfl rfl rfl
  have s45 := s4.trans s5
  have S5 := s45.sg S
  have F5 := s45.fr F
  have x5 : ∀ a j, ¬ PLv g a j → mI m5 a j = mI m a j ∧ mL m5 a j = mL m a j := fun a j h => s45.2 a j h
  have a77 : ∀ j, gz g + 65 + 12 + 4 * j = gz g + (77 + 4 * j) := fun j => by omega
  have b16 : ∀ i j, i < 30 → j < n → mI (absC g 65 pb0 m5) 16 (12 * i + j) = mI A 16 (12 * i + j) := fun i j hi hj => by
    show mI m5 (gz g + 65 + 13 + 4 * ((12 * i + j) % 12)) ((12 * i + j) / 12) = _
    rw [show (12 * i + j) % 12 = j by omega, show (12 * i + j) / 12 = i by omega, show gz g + 65 + 13 + 4 * j = gz g + (78 + 4 * j) by omega]
    exact (G5 j hj).2.2.2 i hi
  have q1 : ∀ j, j < n → mI (absC g 65 pb0 m5) 1 j = mI A 1 j ∧ mI (absC g 65 pb0 m5) 2 j = mI A 2 j ∧ mI (absC g 65 pb0 m5) 3 j = mI A 2 j ∧ mI (absC g 65 pb0 m5) 4 j = 0 ∧ mI (absC g 65 pb0 m5) 5 j = 0 ∧ mI (absC g 65 pb0 m5) 6 j = 0 ∧ mI (absC g 65 pb0 m5) 7 j = 0 ∧ mL (absC g 65 pb0 m5) 0 j = 0 ∧ mL (absC g 65 pb0 m5) 1 j = 0 := fun j hj => by
    obtain ⟨⟨c1, c2, c3⟩, c4, ⟨c5, c6⟩, -⟩ := G5 j hj
    refine ⟨?_, ?_, ?_, ?_, ?_, ?_, ?_, ?_, ?_⟩
    · show mI m5 (gz g + 65 + 12 + 4 * j) 3 = _
      rw [a77]; exact c1
    · show mI m5 (gz g + 65 + 12 + 4 * j) 4 = _
      rw [a77]; exact c2
    · show mI m5 (gz g + 65 + 12 + 4 * j) 5 = _
      rw [a77]; exact c3
    · show mI m5 (gz g + 65 + 12 + 4 * j) 6 = _
      rw [a77]; exact c4 6 (by omega) (by omega)
    · show mI m5 (gz g + 65 + 12 + 4 * j) 7 = _
      rw [a77]; exact c4 7 (by omega) (by omega)
    · show mI m5 (gz g + 65 + 12 + 4 * j) 8 = _
      rw [a77]; exact c4 8 (by omega) (by omega)
    · show mI m5 (gz g + 65 + 12 + 4 * j) 9 = _
      rw [a77]; exact c4 9 (by omega) (by omega)
    · show mL m5 (cJ (gz g + 65) 0 j).1 (cJ (gz g + 65) 0 j).2 = _
      rw [show cJ (gz g + 65) 0 j = (gz g + (77 + 4 * j), 11) by simp only [cJ]; rw [if_pos (by omega), a77]]
      exact c5
    · show mL m5 (gz g + 65 + 12 + 4 * j) 12 = _
      rw [a77]; exact c6
  have B0 : BP n 0 (mI A 16) (absC g 65 pb0 m5) 0 := by
    refine ⟨k8, k9.trans v9, ⟨100, by omega, by omega, k10.trans v10⟩, k68.trans v68, by omega, fun i hi => absurd hi (by omega), fun i hi => absurd hi (by omega), ⟨fun _ => 0, fun _ => 0, fun j hj => ⟨(q1 j hj).2.2.2.2.2.2.1, by show 0 < 2 ^ 31; omega⟩, fun i hi => absurd hi (by omega), ?_⟩, fun j hj => ?_, fun j hj => ?_, b16⟩
    · rw [sumN_zero n (fun _ _ => rfl)]; exact Nat.le_refl _
    · obtain ⟨a, ha, ea⟩ := ga j hj
      obtain ⟨-, -, d3, d4, d5, d6, -⟩ := q1 j hj
      exact ⟨a, 0, 0, 0, d3.trans ea, d4, d5, d6, by omega⟩
    · rw [(q1 j hj).1]; exact gv j hj
  have I0 : Ini g n A (absC g 65 pb0 m5) m := ⟨q1, k10.trans v10, (x5 (gz g + 65) 11 (by unfold PLv; omega)).1, fun j hj => (x5 (gz g + 76) j (by unfold PLv; omega)).2⟩
  have t5 : mI m5 (gz g + 1) = mI m (gz g + 1) := funext fun j => (x5 (gz g + 1) j (by unfold PLv; omega)).1
  have T5 : TermsOK g m5 := T.same t5 (fun j hj => (x5 _ _ (by unfold PLv; omega)).1)
  have D5 : LawD g cs m5 := D.off (fun a j h1 h2 => (x5 a j (by unfold PLv; omega)).1)
  refine l_live90 g (lv := lv) (pb0 := pb0) (R0 := R0) (yl := mI A 19) F5 hP0 D5 hL T5 B0 h12 hy30 (fun i j hi hj => (gt i j hi hj).1) gy ((x5 _ _ (by unfold PLv; omega)).1.trans (C.yr.trans H.2.2.2.2.2.1)) (fun k hk => (x5 _ _ (by unfold PLv; omega)).1.trans (C.1.1 19 k hk)) (fun pb R m6 K => ?_) y 0 pb0 R0 m5 (by omega) ⟨absC_ok g 65 pb0 n 30 0 m5, hP0, s45.pap hPp, ⟨Nat.zero_le _, hR, Nat.le_refl _⟩, S5, F5, Fs.refl _ _ _ _, fun _ _ => rfl, fun i h1 h2 => absurd h2 (by omega), fun i hi => absurd hi (by exact Nat.not_lt_zero _)⟩
  obtain ⟨c6, po6, pp6, ⟨z1, z2, z3⟩, S6, F6, fs6, hpa, hnew, -⟩ := K
  rw [t5] at c6 z1
  refine hQ (absC g 65 pb0 m5) pb R m6 B0 I0 c6 po6 pp6 ⟨z1, z2, z3⟩ S6 F6 ?_ hpa (fun i h1 h2 => ?_)
  · refine (((s45.fs (g := g)).weak (P2 := PBs g pb0 R0) (fun a j _ z => Or.inl (Or.inl (by unfold PLv at z; omega))) (Nat.le_refl _)).trans fs6 (fun _ _ _ z => z)).weak (fun _ _ _ z => z) (by omega)
  · have := hnew i h1 h2
    rw [s45.1.2.2.2.1] at this
    exact this
