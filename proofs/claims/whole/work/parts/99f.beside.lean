/-! ===== beside ===== -/
def Oth (g : Gc) (pb : Nat → Nat) (R : Nat) (m : Mm) : Prop := PaOK g pb R ∧ Pap g 65 pb R m ∧ R ≤ 400 ∧ mI m (gz g + 65) 11 = mI m (gz g + 169) 1 ∧ ∀ j, j < 8 → mL m (gz g + 76) j = mL m (gz g + 178) (8 + j)
def PBy (g : Gc) (pb : Nat → Nat) (R a j : Nat) : Prop := PLt g a j ∨ PBs g pb R a j ∨ PBw g a j
theorem Oth.st {g : Gc} {pb : Nat → Nat} {R : Nat} {P : Nat → Nat → Prop} {m m' : Mm} (h : Oth g pb R m) (s : St P m m') (h1 : ¬ P (gz g + 65) 11) (h2 : ¬ P (gz g + 169) 1) (h3 : ∀ j, ¬ P (gz g + 76) j) (h4 : ∀ j, ¬ P (gz g + 178) (8 + j)) : Oth g pb R m' := by
  obtain ⟨a, b, c, d, e⟩ := h
  exact ⟨a, s.pap b, c, (s.2 _ _ h1).1.trans (d.trans (s.2 _ _ h2).1.symm), fun j hj => (s.2 _ _ (h3 j)).2.trans ((e j hj).trans (s.2 _ _ (h4 j)).2.symm)⟩
theorem sim_beside (g : Gc) {lv n y p r R : Nat} {A m : Mm} {pa pb : Nat → Nat} (S : Sg g m) (F : Fr g m) (L : Lnd g n y p r A m pa) (T : TermsOK g m) (TP : TapeOK g m) (O : Oth g pb R m) (x : Int32) : SimJ g M_SL_beside M_RF_beside (lv + 37) [.int x] m (fun m2 => TapeOK g m2 ∧ Fr g m2 ∧ Fs g (PBy g pb R) 360 m m2 ∧ ∃ (pb2 : Nat → Nat) (R2 : Nat), Oth g pb2 R2 m2 ∧ (∀ i, i < R → pb2 i = pb i) ∧ R ≤ R2 ∧ ∀ i, R ≤ i → i < R2 → gz g + mC m ≤ pb2 i) := by
  have h184 := F.1
  obtain ⟨C30, R30, TR, WR, G⟩ := L
  have H := G.1
  have h12 := G.2.1.1
  have hy30 := G.2.1.2.1
  have C : LC g pa y r A m := C30.down hy30
  have RR : LR g y r A m := R30.down hy30
  have gG := G.2.2.2.1
  have r4 : r ≤ 400 := H.2.2.2.1.2
  obtain ⟨hf, LL, hL, l1, l2, hb⟩ := id TP
  obtain ⟨tx, htx⟩ : ∃ tx : Nat → Int32, tx = fun k => mI m (gz g + 152) k := ⟨_, rfl⟩
  have hX : ∀ k, k < LL → mI m (gz g + 152) k = tx k := fun k _ => by rw [htx]
  have hB : Byt LL tx := fun k hk => by rw [htx]; exact (hb k hk).2
  have XC : TxC g tx LL m := ⟨hL, fun k hk => by rw [(hb k hk).1, htx], l1⟩
  obtain ⟨res, hres⟩ := lawOf_ex tx hL
  have e1 : wj x.toInt64 (0 : Int64) (4 : Int64) = wi x 0 4 := wj_wide x 0 4
  have z0 : (0 : Int32).toNatClampNeg = 0 := rfl
  have zz1 : (1 : Int32).toNatClampNeg = 1 := rfl
  have st0 : ∀ m1 : Mm, St (P0 g) m1 (sI m1 (gz g + 145) 0 0) := fun m1 => St_sI m1 ⟨rfl, rfl⟩ _
  have p0t : ∀ a j, P0 g a j → PLt g a j := fun a j z => by unfold P0 at z; unfold PLt; omega
  unfold SimJ
  refine en_SL_beside g (lv := lv + 36) (c_isWithin g ?_)
  by_cases h1 : wi x 0 4 = 0
  · rw [if_pos h1]
    refine en_RF_beside g (lv := lv + 36) ⟨S.k 145 rfl, fun m2 e2 => c_in g ?_⟩
    rw [e1, if_pos h1, e2]
    have s := st0 m
    refine ⟨rfl, TP.same ?_ ?_ ?_ ?_ ?_, s.fr F, s.fs.weak (fun a j _ z => Or.inl (p0t a j z)) (by omega), pb, R, O.st s (by unfold P0; omega) (by unfold P0; omega) (fun j => by unfold P0; omega) (fun j => by unfold P0; omega), fun _ _ => rfl, Nat.le_refl _, fun i h1 h2 => absurd h2 (by omega)⟩
    · rw [mI_sI, up2_ne (by omega)]
    · rw [mI_sI, up2_ne (by omega)]
    · rw [mI_sI, up2_ne (by omega)]
    · rw [mI_sI, up2_sl (by omega)]
    · rw [mI_sI, up2_sl (by omega)]
  rw [if_neg h1]
  refine ⟨S.k 0 rfl, gz g + 128, S.r 0 3 rfl, gz g + 133, S.r 0 4 rfl, S.k 128 rfl, ?_⟩
  have f0 : Fs g (PLt g) 0 m (sR m (gz g + 128) 8 (some (gz g + 133))) := Fs_sR m (Or.inl rfl) _ (Or.inl (by rw [S.k 128 rfl]; rfl))
  have wk : ∀ {ma mb : Mm}, St (PPr g) ma mb → Fs g (PLt g) 0 ma mb := fun s => (s.weak (fun a j q => by unfold PPr at q; unfold PLt; omega)).fs
  have wr : ∀ {ma mb : Mm}, St (PIL g) ma mb → Fs g (PLt g) 0 ma mb := fun s => (s.weak (fun a j q => by unfold PIL at q; unfold PLt; omega)).fs
  have pap0 : Pap g 65 pb R (sR m (gz g + 128) 8 (some (gz g + 133))) := by
    obtain ⟨-, ⟨q1, q2⟩, -⟩ := O
    refine ⟨fun i hi => ?_, fun i h1 h2 => ?_⟩
    · rw [mR_sR, up2_oth (by omega)]; exact q1 i hi
    · rw [mR_sR, up2_oth (by omega)]; exact q2 i h1 h2
  have xs : ∀ {mb : Mm}, St (PPr g) (sR m (gz g + 128) 8 (some (gz g + 133))) mb → ∀ a j, ¬ PPr g a j → mI mb a j = mI m a j ∧ mL mb a j = mL m a j := fun s a j h => s.2 a j h
  refine c_readLaw g (b := lv + 1) S XC hres (fun cs hc m1 s1 a1 D1 g1 => ?_) (fun e he m1 s1 a1 g1 => ?_)
  rotate_left
  · -- a fault
    subst he
    have f1 : Fs g (PLt g) 0 m m1 := f0.trans (wk s1) (fun _ _ _ z => z)
    have S1 := S.ext f1.1
    have F1 : Fr g m1 := s1.fr ⟨F.1, F.2⟩
    rw [if_pos rfl]
    refine en_RF_beside g (lv := lv + 36) ⟨S1.k 145 rfl, fun m2 e2 => c_in g ?_⟩
    rw [e1, if_neg h1, e2]
    have S2 : Sg g (sI m1 (gz g + 145) 0 0) := S1
    refine c_isLawR g (b := lv) hL hB hres S2 (by rw [mI_sI, up2_sl (by omega), (xs s1 _ _ (by unfold PPr; omega)).1]; exact l2) (fun j hj => by rw [mI_sI, up2_oth (by omega), (xs s1 _ _ (by unfold PPr; omega)).1]; exact hX j hj) (fun cs' hc' => by cases hc') (fun e' he' m5 s5 a5 b5 => ?_)
    cases he'
    rw [if_pos rfl]
    have x5 : ∀ a j, ¬ PIL g a j → ¬ (a = gz g + 145 ∧ j = 0) → mI m5 a j = mI m1 a j ∧ mL m5 a j = mL m1 a j := fun a j h h' => by
      rw [(s5.2 a j h).1, (s5.2 a j h).2]
      exact ⟨by rw [mI_sI, up2_not h'], rfl⟩
    have f5 : Fs g (PLt g) 0 m m5 := (f1.trans ((st0 m1).weak p0t).fs (fun _ _ _ z => z)).trans (wr s5) (fun _ _ _ z => z)
    obtain ⟨o1, o2, o3, o4, o5⟩ := O
    refine ⟨rfl, ⟨?_, 0, by omega, ?_, a5, fun k hk => absurd hk (by omega)⟩, s5.fr ((st0 m1).fr F1), f5.weak (fun a j _ z => Or.inl z) (by omega), pb, R, ⟨o1, s5.pap ((st0 m1).pap (s1.pap pap0)), o3, ?_, fun j hj => ?_⟩, fun _ _ => rfl, Nat.le_refl _, fun i h1 h2 => absurd h2 (by omega)⟩
    · rw [(x5 _ _ (by unfold PIL; omega) (by omega)).1, g1, b5]
    · rw [(x5 _ _ (by unfold PIL; omega) (by omega)).1, a1]; rfl
    · rw [(x5 _ _ (by unfold PIL; omega) (by omega)).1, (x5 _ _ (by unfold PIL; omega) (by omega)).1, (xs s1 _ _ (by unfold PPr; omega)).1, (xs s1 _ _ (by unfold PPr; omega)).1]; exact o4
    · rw [(x5 _ _ (by unfold PIL; omega) (by omega)).2, (x5 _ _ (by unfold PIL; omega) (by omega)).2, (xs s1 _ _ (by unfold PPr; omega)).2, (xs s1 _ _ (by unfold PPr; omega)).2]; exact o5 j hj
  · -- a law
    subst hc
    have ok := lawOf_ok hL hres
    have f1 : Fs g (PLt g) 0 m m1 := f0.trans (wk s1) (fun _ _ _ z => z)
    have S1 := S.ext f1.1
    have F1 : Fr g m1 := s1.fr ⟨F.1, F.2⟩
    have C1 : LC g pa y r A m1 := C.keepS F f1 (fun a j _ z => by unfold PLt at z; omega)
    have t1 : mI m1 (gz g + 1) = mI m (gz g + 1) := funext fun j => (xs s1 _ _ (by unfold PPr; omega)).1
    have T1 : TermsOK g m1 := T.same t1 (fun j hj => (xs s1 _ _ (by unfold PPr; omega)).1)
    obtain ⟨o1, o2, o3, o4, o5⟩ := id O
    have c1e : mC m1 = mC m := by rw [s1.1.2.2.2.1]; rfl
    rw [if_neg (by decide)]
    refine ⟨gz g + 65, S1.r 0 2 rfl, gz g + 2, S1.r 0 1 rfl, S1.k 65 rfl, ?_⟩
    refine c_live g (lv := lv + 30) S1 F1 C1 G D1 ok T1 o1 (s1.pap pap0) o3 (fun A0 pb2 R2 m2 B0 I0 C2 po2 pp2 hz S2 F2 fs2 hpa hnew => ?_)
    have BPy := besA_P (cs := cs) (yl := mI A 19) B0 h12 hy30 gG.2.2.2.2 (fun i j hi hj => (gG.2.2.2.1 i j hi hj).1) T1 y (Nat.le_refl _)
    have low : ∀ a j, a < gz g + 184 → ¬ (gz g + 65 ≤ a ∧ a < gz g + 128) → mI m2 a j = mI m1 a j ∧ mL m2 a j = mL m1 a j := fun a j h1 h2 => by
      have := fs2.2.2 a j (by omega) (fun z => by
        rcases z with (z | ⟨k, hk, rfl⟩) | z
        · omega
        · have := o1.2 k hk
          omega
        · unfold PJ at z; omega)
      exact ⟨this.1, this.2.1⟩
    have fin : ∀ v, v = besV (besA (mI m1 (gz g + 1)) cs n (mI A 19) A0 y).1 n (besA (mI m1 (gz g + 1)) cs n (mI A 19) A0 y).2 x → CJ g M_RF_beside (lv + 37) [va_rf (some (gz g + 145)), .int x] m2 (fun r2 m3 => v = r2 ∧ TapeOK g m3 ∧ Fr g m3 ∧ Fs g (PBy g pb R) 360 m m3 ∧ ∃ (pb2 : Nat → Nat) (R2 : Nat), Oth g pb2 R2 m3 ∧ (∀ i, i < R → pb2 i = pb i) ∧ R ≤ R2 ∧ ∀ i, R ≤ i → i < R2 → gz g + mC m ≤ pb2 i) := by
      intro v ev
      refine en_RF_beside g (lv := lv + 36) ⟨S2.k 145 rfl, fun m3 e3 => c_in g ?_⟩
      rw [e1, if_neg h1]
      have s3 : St (P0 g) m2 m3 := by rw [e3]; exact st0 m2
      have S3 := s3.sg S2
      have x3 : ∀ a j, a < gz g + 184 → ¬ (gz g + 65 ≤ a ∧ a < gz g + 128) → ¬ (a = gz g + 145 ∧ j = 0) → ¬ PPr g a j → mI m3 a j = mI m a j ∧ mL m3 a j = mL m a j := fun a j q1 q2 q3 q4 => by
        rw [(s3.2 a j q3).1, (s3.2 a j q3).2, (low a j q1 q2).1, (low a j q1 q2).2]
        exact xs s1 a j q4
      refine c_isLawR g (b := lv) hL hB hres S3 (by rw [(x3 _ _ (by omega) (by omega) (by omega) (by unfold PPr; omega)).1]; exact l2) (fun j hj => by rw [(x3 _ _ (by omega) (by omega) (by omega) (by unfold PPr; omega)).1]; exact hX j hj) (fun cs' hc' m5 s5 T5 a5 b5 z5 => ?_) (fun e' he' => by cases he')
      have hcc : cs = cs' := Sum.inl.inj hc'
      subst hcc
      rw [if_neg (by decide)]
      have S5 := s5.sg S3
      have v2 : ∀ (mm : Mm) (a : Nat), Sg g mm → shN a = 2 → a < 184 → vp_in (1 : Int32) (mN mm (gz g + a)) := fun mm a S h1 h2 => by rw [S.n a h1 h2]; exact vp_in_nI (n := 1) (N := 2) (by omega) (by omega)
      refine ⟨gz g + 166, S5.r 145 31 rfl, S5.k 166 rfl, v2 m5 166 S5 rfl (by omega), fun m6 e6 => ?_⟩
      have s6 : St (PQ g 1) m5 m6 := by rw [e6]; exact St_sI m5 (by rw [zz1]; unfold PQ; omega) _
      have S6 := s6.sg S5
      refine ⟨gz g + 167, S6.r 145 32 rfl, S6.k 167 rfl, v2 m6 167 S6 rfl (by omega), fun m7 e7 => ?_⟩
      have s7 : St (PQ g 1) m6 m7 := by rw [e7]; exact St_sI m6 (by rw [zz1]; unfold PQ; omega) _
      have S7 := s7.sg S6
      refine ⟨gz g + 168, S7.r 145 33 rfl, S7.k 168 rfl, v2 m7 168 S7 rfl (by omega), fun m8 e8 => ?_⟩
      have s8 : St (PQ g 1) m7 m8 := by rw [e8]; exact St_sI m7 (by rw [zz1]; unfold PQ; omega) _
      have S8 := s8.sg S7
      rw [zz1] at e6 e7 e8
      have y66 : mI m8 (gz g + 166) 1 = 0 := by rw [e8, e7, e6, mI_sI, up2_oth (by omega), mI_sI, up2_oth (by omega), mI_sI, up2_at]
      have y67 : mI m8 (gz g + 167) 1 = 100 := by rw [e8, e7, mI_sI, up2_oth (by omega), mI_sI, up2_at]
      have y68 : mI m8 (gz g + 168) 1 = 0 := by rw [e8, mI_sI, up2_at]
      have x58 : ∀ a j, ¬ (gz g + 166 ≤ a ∧ a ≤ gz g + 168 ∧ j = 1) → mI m8 a j = mI m5 a j ∧ mL m8 a j = mL m5 a j := fun a j h => by
        rw [e8, e7, e6]
        exact ⟨by rw [mI_sI, up2_not (by omega), mI_sI, up2_not (by omega), mI_sI, up2_not (by omega)], rfl⟩
      clear e6 e7 e8
      have x8 : ∀ a j, a < gz g + 184 → ¬ (gz g + 65 ≤ a ∧ a < gz g + 128) → ¬ (a = gz g + 145 ∧ j = 0) → ¬ PPr g a j → ¬ PIL g a j → ¬ (gz g + 166 ≤ a ∧ a ≤ gz g + 168 ∧ j = 1) → mI m8 a j = mI m a j ∧ mL m8 a j = mL m a j := fun a j q1 q2 q3 q4 q5 q6 => by
        rw [(x58 a j q6).1, (x58 a j q6).2, (s5.2 a j q5).1, (s5.2 a j q5).2]
        exact x3 a j q1 q2 q3 q4
      refine l_bes56 g (lv := lv + 36) S8 (fun m9 s9 G9 => ?_) 12 0 m8 rfl (St.refl _ _) (fun q hq => absurd hq (by omega))
      have S9 := s9.sg S8
      have x9 : ∀ a j, a < gz g + 184 → ¬ (gz g + 65 ≤ a ∧ a < gz g + 128) → ¬ (a = gz g + 145 ∧ j = 0) → ¬ PPr g a j → ¬ PIL g a j → ¬ (gz g + 166 ≤ a ∧ a ≤ gz g + 168 ∧ j = 1) → ¬ PBr g a j → mI m9 a j = mI m a j ∧ mL m9 a j = mL m a j := fun a j q1 q2 q3 q4 q5 q6 q7 => by
        rw [(s9.2 a j q7).1, (s9.2 a j q7).2]
        exact x8 a j q1 q2 q3 q4 q5 q6
      have xr : ∀ a j, gz g + 155 ≤ a → a < gz g + 184 → ¬ (gz g + 166 ≤ a ∧ a ≤ gz g + 168 ∧ j = 1) → ¬ PBr g a j → mI m9 a j = mI m a j ∧ mL m9 a j = mL m a j := fun a j q1 q2 q3 q4 => x9 a j q2 (by omega) (by omega) (by unfold PPr; omega) (by unfold PIL; omega) q3 q4
      have t9 : mI m9 (gz g + 1) = mI m1 (gz g + 1) := by
        rw [t1]
        exact funext fun j => (x9 _ _ (by omega) (by omega) (by omega) (by unfold PPr; omega) (by unfold PIL; omega) (by omega) (by unfold PBr; omega)).1
      have T9 : TermsOK g m9 := T.same (t9.trans t1) (fun j hj => (x9 _ _ (by omega) (by omega) (by omega) (by unfold PPr; omega) (by unfold PIL; omega) (by omega) (by unfold PBr; omega)).1)
      have TX9 : TxtOf g 30 cs m9 := by
        have h58 : TxtOf g 30 cs m5 := Or.inr ⟨tx, LL, hL, T5, hres⟩
        exact ((((h58.st s6 (by unfold PQ; omega) (fun j => by unfold PQ; omega)).st s7 (by unfold PQ; omega) (fun j => by unfold PQ; omega)).st s8 (by unfold PQ; omega) (fun j => by unfold PQ; omega)).st s9 (by unfold PBr; omega) (fun j => by unfold PBr; omega))
      have LQ9 : LandQ g 1 n 0 0 A0 m9 := by
        obtain ⟨I1, I2, I3, I4⟩ := I0
        refine ⟨fun c i hv => ?_, fun c i hv => ?_⟩
        · obtain ⟨⟨hv1, -, -⟩, hv2⟩ := hv
          rcases hv2 with q | ⟨rfl, q⟩ | q | q
          · omega
          · rcases (show i = 0 ∨ i = 1 ∨ i = 2 ∨ i = 3 ∨ i = 4 by omega) with rfl | rfl | rfl | rfl | rfl
            · show mI m9 (gz g + 145) 19 = _
              rw [B0.1, (x9 _ _ (by omega) (by omega) (by omega) (by unfold PPr; omega) (by unfold PIL; omega) (by omega) (by unfold PBr; omega)).1]
              exact RR.n.trans H.2.2.2.2.1
            · show mI m9 (gz g + 166) 1 = _
              rw [B0.2.1, (s9.2 _ _ (by unfold PBr; omega)).1, y66]; rfl
            · show mI m9 (gz g + 167) 1 = _
              rw [I2, (s9.2 _ _ (by unfold PBr; omega)).1, y67]
            · show mI m9 (gz g + 168) 1 = _
              rw [B0.2.2.2.1, (s9.2 _ _ (by unfold PBr; omega)).1, y68]; rfl
            · show mI m9 (gz g + 169) 1 = _
              rw [I3, (xr _ _ (by omega) (by omega) (by omega) (by unfold PBr; omega)).1, (xs s1 _ _ (by unfold PPr; omega)).1]
              exact o4.symm
          · have hi : i < n := by
              rcases (show c = 1 ∨ c = 2 ∨ c = 3 ∨ c = 4 ∨ c = 5 ∨ c = 6 ∨ c = 7 by omega) with rfl | rfl | rfl | rfl | rfl | rfl | rfl <;> exact hv1.2.2
            obtain ⟨d1, d2, d3, d4, d5, d6, d7, -, -⟩ := I1 i hi
            obtain ⟨f1, ⟨f2, f3, f4⟩, f5, -, -⟩ := G9 i (by omega)
            have a55 : mI m (gz g + 155) i = mI A 1 i := RR.1.1 1 i ⟨⟨by omega, by omega, by omega⟩, by omega, by omega⟩
            have a56 : mI m (gz g + 156) i = mI A 2 i := RR.1.1 2 i ⟨⟨by omega, by omega, by omega⟩, by omega, by omega⟩
            have b56 : mI m8 (gz g + 156) i = mI m (gz g + 156) i := (x8 _ _ (by omega) (by omega) (by omega) (by unfold PPr; omega) (by unfold PIL; omega) (by omega)).1
            rcases (show c = 1 ∨ c = 2 ∨ c = 3 ∨ c = 4 ∨ c = 5 ∨ c = 6 ∨ c = 7 by omega) with rfl | rfl | rfl | rfl | rfl | rfl | rfl
            · show mI m9 (gz g + 155) i = _
              rw [d1, (xr _ _ (by omega) (by omega) (by omega) (by unfold PBr; omega)).1]; exact a55
            · show mI m9 (gz g + 156) i = _
              rw [d2, (xr _ _ (by omega) (by omega) (by omega) (by unfold PBr; omega)).1]; exact a56
            · show mI m9 (gz g + 170) (12 + i) = _
              rw [d3, f1, b56]; exact a56
            · show mI m9 (gz g + 171) (3 * (12 + i)) = _
              rw [d4]; exact f2
            · show mI m9 (gz g + 171) (3 * (12 + i) + 1) = _
              rw [d5]; exact f3
            · show mI m9 (gz g + 171) (3 * (12 + i) + 2) = _
              rw [d6]; exact f4
            · show mI m9 (gz g + 172) (12 + i) = _
              rw [d7]; exact f5
          · rcases (show c = 9 ∨ c = 10 ∨ c = 11 by omega) with rfl | rfl | rfl
            · exact absurd (show i < 0 from hv1) (by omega)
            · exact absurd (show i < 0 from hv1) (by omega)
            · exact absurd (show i < 0 from hv1) (by omega)
        · obtain ⟨hv1, hv2⟩ := hv
          rcases hv2 with q | ⟨rfl, q⟩ | rfl | rfl
          · omega
          · show mL m9 (gz g + 174) (15 + i) = _
            rw [(I1 i q).2.2.2.2.2.2.2.1]; exact (G9 i (by omega)).2.2.2.2
          · have hi : i < n := hv1
            show mL m9 (gz g + 173) (12 + i) = _
            rw [(I1 i hi).2.2.2.2.2.2.2.2]; exact (G9 i (by omega)).2.2.2.1
          · have hi : i < 8 := hv1
            show mL m9 (gz g + 178) (8 + i) = _
            rw [I4 i hi, (xr _ _ (by omega) (by omega) (by omega) (by unfold PBr; omega)).2, (xs s1 _ _ (by unfold PPr; omega)).2]
            exact (o5 i hi).symm
      have WR9 : WasR g n y A m9 := fun k j hk hj => by
        rw [(xr _ _ (by omega) (by omega) (by omega) (by unfold PBr; omega)).1, (xr _ _ (by omega) (by omega) (by omega) (by unfold PBr; omega)).1]
        exact WR k j hk hj
      have hY9 : ∀ k, k < y → mI m9 (gz g + 160) k = mI A 19 k := fun k hk => by
        rw [(xr _ _ (by omega) (by omega) (by omega) (by unfold PBr; omega)).1]
        exact RR.1.1 19 k ⟨hk, by omega, by omega⟩
      have h66 : mI m9 (gz g + 166) 0 = nI y := by
        rw [(xr _ _ (by omega) (by omega) (by omega) (by unfold PBr; omega)).1]
        exact RR.yr.trans H.2.2.2.2.2.1
      refine l_bes136 g (lv := lv) (cs := cs) (Am := A) (A0 := A0) S9 T9 TX9 B0 h12 hy30 (fun i j hi hj => (gG.2.2.2.1 i j hi hj).1) gG.2.2.2.2 WR9 hY9 h66 (fun m10 R10 s10 => ?_) y 0 m9 (by omega) (St.refl _ _) LQ9
      rw [t9] at R10 ⊢
      have s29 : St (PBw g) m5 m10 := ((s6.trans s7).trans s8 |>.weak (fun a j z => Or.inl z)).trans ((s9.weak (fun a j z => Or.inl (by unfold PBr at z; unfold PQ; omega))).trans s10)
      have xw : ∀ a j, gz g + 65 ≤ a → a < gz g + 145 → mI m10 a j = mI m2 a j ∧ mL m10 a j = mL m2 a j := fun a j q1 q2 => by
        rw [(s29.2 a j (by unfold PBw PQ PRs; omega)).1, (s29.2 a j (by unfold PBw PQ PRs; omega)).2, (s5.2 a j (by unfold PIL; omega)).1, (s5.2 a j (by unfold PIL; omega)).2]
        exact s3.2 a j (by unfold P0; omega)
      have F10 : Fr g m10 := s29.fr (s5.fr (s3.fr F2))
      refine ⟨ev, ⟨?_, 0, by omega, ?_, ?_, fun k hk => absurd hk (by omega)⟩, F10, ?_, pb2, R2, ⟨po2, s29.pap (s5.pap (s3.pap pp2)), hz.2.1, ?_, fun j hj => ?_⟩, hpa, hz.2.2, fun i q1 q2 => ?_⟩
      · rw [(xw _ _ (by omega) (by omega)).1, (low _ _ (by omega) (by omega)).1, g1, (s29.2 _ _ (by unfold PBw PQ PRs; omega)).1, b5]
      · rw [(xw _ _ (by omega) (by omega)).1, (low _ _ (by omega) (by omega)).1, a1]; rfl
      · rw [(s29.2 _ _ (by unfold PBw PQ PRs; omega)).1, a5]; rfl
      · exact (((((f1.weak (P2 := PBy g pb R) (fun a j _ z => Or.inl z) (Nat.le_refl _)).trans fs2 (fun a j _ z => Or.inr (Or.inl z))).trans s3.fs (fun a j _ z => Or.inl (p0t a j z))).trans (wr s5) (fun a j _ z => Or.inl z)).trans s29.fs (fun a j _ z => Or.inr (Or.inr z))).weak (fun _ _ _ z => z) (by omega)
      · rw [(xw _ _ (by omega) (by omega)).1, show mI m2 (gz g + 65) 11 = _ from C2.1 0 4 (by show 4 < 7; omega), R10.sc.2.2.2]
      · rw [(xw _ _ (by omega) (by omega)).2, show mL m2 (gz g + 76) j = _ from C2.su hj]
        exact (R10.su hj).symm
      · have := hnew i q1 q2
        rw [c1e] at this
        exact this
    have C2y : LandC g 65 pb2 n 30 (besA (mI m1 (gz g + 1)) cs n (mI A 19) A0 y).2 (besA (mI m1 (gz g + 1)) cs n (mI A 19) A0 y).1 m2 := C2
    have fin' := fin
    unfold besV at fin'
    by_cases x0 : x = 0
    · rw [if_pos x0]
      refine fin' _ ?_
      rw [if_pos x0, show mI m2 (gz g + 65) 10 = _ from C2.1 0 2 (by show 2 < 7; omega)]
    rw [if_neg x0]
    by_cases x1 : x = 1
    · rw [if_pos x1]
      refine ⟨gz g + 68, S2.r 65 3 rfl, S2.k 68 rfl, c_sacA g (lv := lv + 34) (t := 65) S2 (Or.inr rfl) C2 pp2 hz.1 hz.2.1 BPy.2.2.2.1 (fin' _ ?_)⟩
      rw [if_neg x0, if_pos x1]
    rw [if_neg x1]
    by_cases x2 : x = 2
    · rw [if_pos x2]
      refine c_moneyL g (lv := lv + 35) (t := 65) S2 (Or.inr rfl) C2 BPy.1 (Nat.le_refl _) h12 (fin' _ ?_)
      rw [if_neg x0, if_neg x1, if_pos x2]
    rw [if_neg x2]
    by_cases x3 : x = 3
    · rw [if_pos x3]
      refine c_bearL g (lv := lv + 35) (t := 65) S2 (Or.inr rfl) C2 BPy.1 (Nat.le_refl _) h12 (fin' _ ?_)
      rw [if_neg x0, if_neg x1, if_neg x2, if_pos x3]
    rw [if_neg x3]
    refine c_freeL g (lv := lv + 35) (t := 65) S2 (Or.inr rfl) C2 BPy.1 (Nat.le_refl _) h12 (fin' _ ?_)
    rw [if_neg x0, if_neg x1, if_neg x2, if_neg x3]
