/-! ===== the reference reads a text ===== -/
theorem rawL_app (f : Nat → Int64) (cs : List Cls) (c : Cls) : rawL f (cs ++ [c]) = clF f (rawL f cs) c := by
  unfold rawL
  rw [List.foldl_append]
  rfl
def POlw (g : Gc) (tx : Nat → Int32) (L : Nat) (f : Nat → Int64) (m : Mm) (res : ResL) (Q : Mm → Prop) : Prop := (∀ cs, res = Sum.inl cs → ∀ m', St (PNc g) m m' → mI m' (gz g + 145) 55 = 0 → VR g (rawL f cs) m' → mI m' (gz g + 145) 64 = nI cs.length → Q m') ∧ ∀ e, res = Sum.inr e → ∀ m', BadD g tx L e m m' → Q m'
theorem r_lw (g : Gc) {T L base b : Nat} {tx : Nat → Int32} {f : Nat → Int64} (hT : TxT tx L T) (hL : L ≤ 300) : ∀ (n i : Nat) (cs : List Cls) (res : ResL) (m : Mm) (Q : Mm → Prop), i < T → cs.length ≤ 12 → plw (kdT tx L) (vlT tx L) n i cs = some res → RdS g tx L base f 0 i m → VR g (rawL f cs) m → mI m (gz g + 145) 64 = nI cs.length → POlw g tx L f m res Q → CV g M_RF_clause (b + 34) [va_rf (some (gz g + 145))] m (fun m' => At g M_RF_reads (b + 34 + 1) 91 [(0, va_rf (some (gz g + 145)))] [] m' (QV Q)) := by
  have hTk := hT.toks hL
  have t2 := hTk.2.1
  intro n
  induction n with
  | zero => intro i cs res m Q h1 h12 h; exact absurd h (by simp [plw])
  | succ n ih =>
    intro i cs res m Q hi h12 h D W h64 PO
    obtain ⟨Pok, Perr⟩ := PO
    rw [plw_s] at h
    rcases nxC_some h with ⟨e, he, rfl⟩ | ⟨r, hr, hk⟩
    · refine r_clause g hT hL hi h12 he D W h64 ⟨fun r hr => (by cases hr), fun e' he' m1 B1 => ?_⟩
      cases he'
      have S1 := B1.1.sg D.1
      refine bk_RF_reads_91 g ⟨S1.k 145 rfl, c_signB g S1 B1.2.1 ?_⟩
      rw [if_pos rfl]
      by_cases h52 : mI m1 (gz g + 145) 52 = 0
      · rw [if_pos h52]; exact Perr _ rfl m1 B1
      · rw [if_neg h52]
        refine c_badR g S1 (fun m2 s2 a2 b2 => Perr _ rfl m2 ⟨B1.1.trans (s2.weak (fun a j q => ⟨q.1, by have := q.2; omega⟩)), a2, ?_⟩)
        rw [b2, if_neg B1.2.1]
        exact B1.2.2
    · obtain ⟨x1, x2, -, x4⟩ := (pcl_rng hTk hi hr).2 r rfl
      refine r_clause g hT hL hi h12 hr D W h64 ⟨fun r' hr' m1 s1 D1 W1 z1 => ?_, fun e' he' => (by cases he')⟩
      have hr2 : r = r' := Sum.inl.inj hr'
      subst hr2
      rw [← rawL_app] at W1
      have len : (cs ++ [r.2]).length = cs.length + 1 := by rw [List.length_append]; rfl
      refine bk_RF_reads_91 g ⟨D1.1.k 145 rfl, c_sgR g D1 sk_59 ?_⟩
      by_cases h13 : kdT tx L r.1 = 13
      · rw [if_pos h13] at hk
        rw [if_pos h13, if_neg (by decide)]
        have hr1 := hTk.lt x1 (by rw [h13]; decide)
        refine c_nextS g hT D1 hr1 (fun m2 s2 D2 => ?_)
        have s2c := s1.trans (s2.weak (fun _ _ q => q.c))
        exact ih (r.1 + 1) (cs ++ [r.2]) res m2 Q hr1 (by omega) hk D2 (W1.off s2) (by rw [len]; exact (s2.2 _ _ (by unfold PNo; omega)).1.trans z1) ⟨fun cs' hc m3 s3 a3 W3 z3 => Pok cs' hc m3 (s2c.trans s3) a3 W3 z3, fun e he m3 B3 => Perr e he m3 (B3.pre s2c)⟩
      · rw [if_neg h13] at hk
        rw [if_neg h13, if_pos rfl, D1.2.2.1.2.2.1]
        by_cases h2 : kdT tx L r.1 = 2
        · rw [if_pos h2] at hk
          rw [if_pos (sr_kd.2.mpr h2)]
          exact Pok _ (Option.some.inj hk).symm m1 s1 D1.2.2.2.1 W1 (by rw [len]; exact z1)
        · rw [if_neg h2] at hk
          rw [if_neg (fun q => h2 (sr_kd.2.mp q))]
          exact c_badO g D1 (fun m2 B2 => Perr _ (Option.some.inj hk).symm m2 (B2.d s1))
def PNr (g : Gc) (a j : Nat) : Prop := a = gz g + 145 ∧ (48 ≤ j ∧ j ≤ 64)
def PNe (g : Gc) (a j : Nat) : Prop := a = gz g + 145 ∧ (j = 16 ∨ (48 ≤ j ∧ j ≤ 64))
theorem VR0 (g : Gc) {m : Mm} (h : mI m (gz g + 145) 59 = 0 ∧ mI m (gz g + 145) 60 = 0 ∧ mL m (gz g + 145) 57 = 0 ∧ mL m (gz g + 145) 58 = 0 ∧ mI m (gz g + 145) 61 = 0 ∧ mI m (gz g + 145) 62 = 0 ∧ mI m (gz g + 145) 63 = -1) : VR g RS0 m := by
  obtain ⟨a, b, c, d, e, f, k⟩ := h
  exact ⟨⟨a, b, c, d⟩, ⟨e, f, k⟩, Or.inl rfl, Or.inl rfl⟩
/-- where reads begins -/
theorem c_reads0 (g : Gc) {lv t : Nat} {m : Mm} {Q : Mm → Prop} (S : Sg g m) (ht : t ≤ 30) (hQ : ∀ m', St (PNr g) m m' → mI m' (gz g + 145) 48 = nI (300 * t) → mI m' (gz g + 145) 49 = mI m (gz g + 154) t → mI m' (gz g + 145) 50 = 0 → mI m' (gz g + 145) 53 = 0 → mI m' (gz g + 145) 55 = 0 → mI m' (gz g + 145) 64 = 0 → VR g RS0 m' → (if mI m (gz g + 154) t = -1 then Q m' else CV g M_RF_next lv [va_rf (some (gz g + 145))] m' (fun m1 => CV g M_RF_clause lv [va_rf (some (gz g + 145))] m1 (fun m2 => At g M_RF_reads (lv + 1) 91 [(0, va_rf (some (gz g + 145)))] [] m2 (QV Q))))) : CV g M_RF_reads (lv + 1) [va_rf (some (gz g + 145)), .int (nI t)] m Q := by
  refine en_RF_reads g ⟨S.k 145 rfl, fun m2 e2 => ?_⟩
  have p : ∀ j, 48 ≤ j → j ≤ 64 → PNr g (gz g + 145) j := fun j h1 h2 => ⟨rfl, h1, h2⟩
  have s2 : St (PNr g) m m2 := by rw [e2]; exact St_sI m (p _ (by omega) (by omega)) _
  have S2 := s2.sg S
  refine ⟨gz g + 154, S2.r 145 18 rfl, S2.k 154 rfl, by rw [S2.n 154 rfl]; exact vp_in_nI (N := 31) (by omega) (by omega), ?_⟩
  rw [nI_clamp (show t < 2 ^ 31 by omega)]
  have t49 : mI m2 (gz g + 154) t = mI m (gz g + 154) t := (s2.2 _ _ (by unfold PNr; omega)).1
  rw [t49]
  intro m3 e3 m4 e4 m5 e5 m6 e6 m7 e7 m8 e8 m9 e9 ma ea mb eb mc ec md ed me ee
  have sA : St (PNr g) m2 m6 := by rw [e6, e5, e4, e3]; exact (((St_sI m2 (p _ (by omega) (by omega)) _).trans (St_sI _ (p _ (by omega) (by omega)) _)).trans (St_sI _ (p _ (by omega) (by omega)) _)).trans (St_sI _ (p _ (by omega) (by omega)) _)
  have sB : St (PNr g) m6 ma := by rw [ea, e9, e8, e7]; exact (((St_sL m6 (p _ (by omega) (by omega)) _).trans (St_sL _ (p _ (by omega) (by omega)) _)).trans (St_sI _ (p _ (by omega) (by omega)) _)).trans (St_sI _ (p _ (by omega) (by omega)) _)
  have sC : St (PNr g) ma me := by rw [ee, ed, ec, eb]; exact (((St_sI ma (p _ (by omega) (by omega)) _).trans (St_sI _ (p _ (by omega) (by omega)) _)).trans (St_sI _ (p _ (by omega) (by omega)) _)).trans (St_sI _ (p _ (by omega) (by omega)) _)
  have iE : ∀ j, mI me (gz g + 145) j = up2 (up2 (up2 (up2 (up2 (up2 (up2 (up2 (up2 (up2 (up2 (mI m) (gz g + 145) 48 (300 * nI t)) (gz g + 145) 49 (mI m (gz g + 154) t)) (gz g + 145) 50 0) (gz g + 145) 53 0) (gz g + 145) 55 0) (gz g + 145) 59 0) (gz g + 145) 60 0) (gz g + 145) 61 0) (gz g + 145) 62 0) (gz g + 145) 63 (-1)) (gz g + 145) 64 0 (gz g + 145) j := fun j => by
    rw [ee, mI_sI, ed, mI_sI, ec, mI_sI, eb, mI_sI, ea, mI_sI, e9, mI_sI, e8, mI_sL, e7, mI_sL, e6, mI_sI, e5, mI_sI, e4, mI_sI, e3, mI_sI, e2, mI_sI]
  have lE : ∀ j, mL me (gz g + 145) j = up2 (up2 (mL m) (gz g + 145) 57 0) (gz g + 145) 58 0 (gz g + 145) j := fun j => by
    rw [ee, mL_sI, ed, mL_sI, ec, mL_sI, eb, mL_sI, ea, mL_sI, e9, mL_sI, e8, mL_sL, e7, mL_sL, e6, mL_sI, e5, mL_sI, e4, mL_sI, e3, mL_sI, e2, mL_sI]
  have i49 : mI me (gz g + 145) 49 = mI m (gz g + 154) t := by
    rw [iE, up2_sl (by omega), up2_sl (by omega), up2_sl (by omega), up2_sl (by omega), up2_sl (by omega), up2_sl (by omega), up2_sl (by omega), up2_sl (by omega), up2_sl (by omega), up2_at]
  rw [i49]
  refine hQ me (((s2.trans sA).trans sB).trans sC) ?_ i49 ?_ ?_ ?_ ?_ (VR0 g ⟨?_, ?_, ?_, ?_, ?_, ?_, ?_⟩)
  · rw [iE, up2_sl (by omega), up2_sl (by omega), up2_sl (by omega), up2_sl (by omega), up2_sl (by omega), up2_sl (by omega), up2_sl (by omega), up2_sl (by omega), up2_sl (by omega), up2_sl (by omega), up2_at, show (300 : Int32) = nI 300 from rfl, pk_mul]
  · rw [iE, up2_sl (by omega), up2_sl (by omega), up2_sl (by omega), up2_sl (by omega), up2_sl (by omega), up2_sl (by omega), up2_sl (by omega), up2_sl (by omega), up2_at]
  · rw [iE, up2_sl (by omega), up2_sl (by omega), up2_sl (by omega), up2_sl (by omega), up2_sl (by omega), up2_sl (by omega), up2_sl (by omega), up2_at]
  · rw [iE, up2_sl (by omega), up2_sl (by omega), up2_sl (by omega), up2_sl (by omega), up2_sl (by omega), up2_sl (by omega), up2_at]
  · rw [iE, up2_at]
  · rw [iE, up2_sl (by omega), up2_sl (by omega), up2_sl (by omega), up2_sl (by omega), up2_sl (by omega), up2_at]
  · rw [iE, up2_sl (by omega), up2_sl (by omega), up2_sl (by omega), up2_sl (by omega), up2_at]
  · rw [lE, up2_sl (by omega), up2_at]
  · rw [lE, up2_at]
  · rw [iE, up2_sl (by omega), up2_sl (by omega), up2_sl (by omega), up2_at]
  · rw [iE, up2_sl (by omega), up2_sl (by omega), up2_at]
  · rw [iE, up2_sl (by omega), up2_at]
theorem c_readsN (g : Gc) {lv t : Nat} {m : Mm} {Q : Mm → Prop} (S : Sg g m) (ht : t ≤ 30) (hN : mI m (gz g + 154) t = -1) (hQ : ∀ m', St (PNr g) m m' → VR g RS0 m' → Q m') : CV g M_RF_reads (lv + 1) [va_rf (some (gz g + 145)), .int (nI t)] m Q :=
  c_reads0 g S ht (fun m' s _ _ _ _ _ _ W => by rw [if_pos hN]; exact hQ m' s W)
theorem c_readsT (g : Gc) {b t L : Nat} {tx : Nat → Int32} {f : Nat → Int64} {m : Mm} {res : ResL} {Q : Mm → Prop} (S : Sg g m) (ht : t ≤ 30) (hL : L ≤ 300) (hM : mI m (gz g + 154) t = nI L) (hX : ∀ j, j < L → mI m (gz g + 153) (300 * t + j) = tx j) (F : FcR g f m) (h : lawOf tx L = some res) (Pok : ∀ cs, res = Sum.inl cs → ∀ m', St (PNr g) m m' → mI m' (gz g + 145) 55 = 0 → VR g (rawL f cs) m' → mI m' (gz g + 145) 64 = nI cs.length → Q m') (Perr : ∀ e, res = Sum.inr e → ∀ m', St (PNe g) m m' → ¬ mI m' (gz g + 145) 55 = 0 → mI m' (gz g + 145) 16 = plT tx L e → Q m') : CV g M_RF_reads (b + 35) [va_rf (some (gz g + 145)), .int (nI t)] m Q := by
  obtain ⟨T, hT⟩ := txT_ex tx hL
  refine c_reads0 g S ht (fun m1 s1 a48 a49 a50 a53 a55 a64 W1 => ?_)
  rw [hM, if_neg (nI_ne_m1 (n := L) (by omega))]
  have S1 := s1.sg S
  have X1 : RTx g tx L (300 * t) m1 := ⟨hL, by omega, a48, a49.trans hM, fun j hj => (s1.2 _ _ (by unfold PNr; omega)).1.trans (hX j hj)⟩
  refine c_nextR g S1 X1 (i := 0) (k := 0) (Nat.zero_le _) a50 rfl (fun m2 s2 R2 => ?_)
  have s2o : St (PNo g) m1 m2 := s2.weak (fun _ _ q => q.o)
  have F1 : FcR g f m1 := fun j hj => (s1.2 _ _ (by unfold PNr; omega)).2.trans (F j hj)
  have D2 : RdS g tx L (300 * t) f 0 0 m2 := ⟨s2.sg S1, X1.p5 s2, R2, (s2.2 _ _ (by unfold PN5; omega)).1.trans a55, (s2.2 _ _ (by unfold PN5; omega)).1.trans a53, fun j hj => (s2.2 _ _ (by unfold PN5; omega)).2.trans (F1 j hj)⟩
  have wk : ∀ {ma mb : Mm}, St (PNc g) ma mb → St (PNr g) ma mb := fun s => s.weak (fun a j q => ⟨q.1, by have := q.2; omega⟩)
  have s12 : St (PNr g) m m2 := s1.trans (wk (s2o.weak (fun _ _ q => q.c)))
  have z2 : mI m2 (gz g + 145) 64 = nI 0 := (s2.2 _ _ (by unfold PN5; omega)).1.trans a64
  exact r_lw g (b := b) hT hL 400 0 [] res m2 Q hT.1 (by decide) h D2 (W1.off s2o) z2 ⟨fun cs hc m3 s3 a3 W3 z3 => Pok cs hc m3 (s12.trans (wk s3)) a3 W3 z3, fun e he m3 B3 => Perr e he m3 ((s12.weak (fun a j q => ⟨q.1, Or.inr q.2⟩)).trans (B3.1.weak (fun a j q => ⟨q.1, by have := q.2; omega⟩))) B3.2.1 B3.2.2⟩
