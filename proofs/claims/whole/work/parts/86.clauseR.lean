/-! ===== the reference reads a clause, and a text ===== -/
def PV7 (g : Gc) (a j : Nat) : Prop := a = gz g + 145 ∧ (57 ≤ j ∧ j ≤ 64)
def PNc (g : Gc) (a j : Nat) : Prop := a = gz g + 145 ∧ ((50 ≤ j ∧ j ≤ 54) ∨ (57 ≤ j ∧ j ≤ 64))
def PNd (g : Gc) (a j : Nat) : Prop := a = gz g + 145 ∧ (j = 16 ∨ (50 ≤ j ∧ j ≤ 64))
theorem PNo.c {g : Gc} {a j : Nat} (h : PNo g a j) : PNc g a j := ⟨h.1, by have := h.2; omega⟩
theorem PV7.c {g : Gc} {a j : Nat} (h : PV7 g a j) : PNc g a j := ⟨h.1, by have := h.2; omega⟩
theorem PNc.d {g : Gc} {a j : Nat} (h : PNc g a j) : PNd g a j := ⟨h.1, by have := h.2; omega⟩
theorem PNb.d {g : Gc} {a j : Nat} (h : PNb g a j) : PNd g a j := ⟨h.1, by have := h.2; omega⟩
def VR (g : Gc) (V : RS) (m : Mm) : Prop := (mI m (gz g + 145) 59 = V.1 ∧ mI m (gz g + 145) 60 = V.2.1 ∧ mL m (gz g + 145) 57 = V.2.2.1 ∧ mL m (gz g + 145) 58 = V.2.2.2.1) ∧ (mI m (gz g + 145) 61 = V.2.2.2.2.2.1 ∧ mI m (gz g + 145) 62 = V.2.2.2.2.2.2.1 ∧ mI m (gz g + 145) 63 = V.2.2.2.2.2.2.2) ∧ b01 V.1 ∧ b01 V.2.1
theorem VR.off {g : Gc} {V : RS} {m m' : Mm} (h : VR g V m) (s : St (PNo g) m m') : VR g V m' := by
  obtain ⟨⟨a1, a2, a3, a4⟩, ⟨b1, b2, b3⟩, c⟩ := h
  exact ⟨⟨(s.2 _ _ (by unfold PNo; omega)).1.trans a1, (s.2 _ _ (by unfold PNo; omega)).1.trans a2, (s.2 _ _ (by unfold PNo; omega)).2.trans a3, (s.2 _ _ (by unfold PNo; omega)).2.trans a4⟩, ⟨(s.2 _ _ (by unfold PNo; omega)).1.trans b1, (s.2 _ _ (by unfold PNo; omega)).1.trans b2, (s.2 _ _ (by unfold PNo; omega)).1.trans b3⟩, c⟩
theorem RdS.off {g : Gc} {tx : Nat → Int32} {L base : Nat} {f : Nat → Int64} {dp i : Nat} {m m' : Mm} (h : RdS g tx L base f dp i m) (s : St (PV7 g) m m') : RdS g tx L base f dp i m' := by
  obtain ⟨S, X, R, h5, h3, F⟩ := h
  exact ⟨s.sg S, X.st s (by unfold PV7; omega) (by unfold PV7; omega) (fun j => by unfold PV7; omega), R.same (s.2 _ _ (by unfold PV7; omega)).1 (s.2 _ _ (by unfold PV7; omega)).1 (s.2 _ _ (by unfold PV7; omega)).1 (s.2 _ _ (by unfold PV7; omega)).2, (s.2 _ _ (by unfold PV7; omega)).1.trans h5, (s.2 _ _ (by unfold PV7; omega)).1.trans h3, fun j hj => (s.2 _ _ (by unfold PV7; omega)).2.trans (F j hj)⟩
def BadD (g : Gc) (tx : Nat → Int32) (L e : Nat) (m m' : Mm) : Prop := St (PNd g) m m' ∧ ¬ mI m' (gz g + 145) 55 = 0 ∧ mI m' (gz g + 145) 16 = plT tx L e
theorem BadS.d {g : Gc} {tx : Nat → Int32} {L e : Nat} {m m1 m' : Mm} (s : St (PNc g) m m1) (h : BadS g tx L e m1 m') : BadD g tx L e m m' := ⟨(s.weak (fun _ _ q => q.d)).trans (h.1.weak (fun _ _ q => q.d)), h.2⟩
theorem BadD.pre {g : Gc} {tx : Nat → Int32} {L e : Nat} {m m1 m' : Mm} (s : St (PNc g) m m1) (h : BadD g tx L e m1 m') : BadD g tx L e m m' := ⟨(s.weak (fun _ _ q => q.d)).trans h.1, h.2⟩
def POcl (g : Gc) (tx : Nat → Int32) (L base : Nat) (f : Nat → Int64) (V : RS) (k : Nat) (m : Mm) (res : ResC) (Q : Mm → Prop) : Prop := (∀ r : Nat × Cls, res = Sum.inl r → ∀ m', St (PNc g) m m' → RdS g tx L base f 0 r.1 m' → VR g (clF f V r.2) m' → mI m' (gz g + 145) 64 = nI (k + 1) → Q m') ∧ ∀ e, res = Sum.inr e → ∀ m', BadD g tx L e m m' → Q m'
/-- the end of a keeping or selling clause -/
theorem t_289 (g : Gc) {lv : Nat} {V : RS} {kp : Int32} {x : Int64} {m : Mm} {Q : Mm → Prop} (S : Sg g m) (hkp : b01 kp) (h1 : b01 V.1) (h2 : b01 V.2.1) (a1 : mI m (gz g + 145) 59 = V.1) (a2 : mI m (gz g + 145) 60 = V.2.1) (hQ : Q (sI (sI m (gz g + 145) 59 (if kp = 0 then V.1 else 1)) (gz g + 145) 60 (if kp = 0 then 1 else V.2.1))) : At g M_RF_clause (lv + 1) 289 [(0, va_rf (some (gz g + 145))), (1, .int kp)] [] m (QV Q) := by
  have t306 : ∀ s1 : Int32, s1 = (if kp = 0 then V.1 else 1) → At g M_RF_clause (lv + 1) 306 [(0, va_rf (some (gz g + 145))), (1, .int kp)] [.int s1, va_rf (some (gz g + 145))] m (QV Q) := by
    intro s1 hs
    refine bk_RF_clause_306 g ⟨gz g + 145, rfl, S.k 145 rfl, ?_, fun m5 e5 => ?_⟩
    · rw [hs]
      by_cases q : kp = 0
      · rw [if_pos q]; exact h1
      · rw [if_neg q]; exact Or.inr rfl
    have S5 : Sg g m5 := by rw [e5]; exact (St_sI (P := fun _ _ => True) m trivial _).sg S
    have a5 : mI m5 (gz g + 145) 60 = V.2.1 := by rw [e5, mI_sI, up2_sl (by omega)]; exact a2
    refine ⟨S5.k 145 rfl, ?_⟩
    rw [a5]
    rw [← hs] at hQ
    by_cases q : kp = 0
    · rw [if_pos q] at hQ
      rw [if_pos q]
      by_cases c : V.2.1 = 0
      · rw [if_pos c]; intro m6 e6; rw [e6, e5]; exact hQ
      · rw [if_neg c]; intro m6 e6; rw [e6, e5]; exact hQ
    · rw [if_neg q] at hQ
      rw [if_neg q]
      by_cases c : V.2.1 = 0
      · rw [if_pos c]; intro m6 e6; rw [e6, e5]; rw [c] at hQ; exact hQ
      · rw [if_neg c]; intro m6 e6; rw [e6, e5]
        rw [h2.resolve_left c] at hQ
        exact hQ
  have t301 : (if kp = 0 then V.1 else 1) = 1 → At g M_RF_clause (lv + 1) 301 [(0, va_rf (some (gz g + 145))), (1, .int kp)] [va_rf (some (gz g + 145))] m (QV Q) := fun q => bk_RF_clause_301 g (t306 1 q.symm)
  refine bk_RF_clause_289 g ⟨S.k 145 rfl, ?_⟩
  rw [a1]
  by_cases c : V.1 = 0
  · rw [if_pos c]
    by_cases q : kp = 0
    · rw [if_pos q]
      exact t306 0 (by rw [if_pos q, c])
    · rw [if_neg q]
      exact t301 (by rw [if_neg q])
  · rw [if_neg c]
    refine t301 ?_
    by_cases q : kp = 0
    · rw [if_pos q]; exact h1.resolve_left c
    · rw [if_neg q]
theorem t_273 (g : Gc) {lv : Nat} {V : RS} {kp : Int32} {x : Int64} {m : Mm} {Q : Mm → Prop} (S : Sg g m) (hkp : b01 kp) (h1 : b01 V.1) (h2 : b01 V.2.1) (a1 : mI m (gz g + 145) 59 = V.1) (a2 : mI m (gz g + 145) 60 = V.2.1) (a4 : mL m (gz g + 145) 58 = V.2.2.2.1) (hQ : ∀ m', mL m' = up2 (mL m) (gz g + 145) 58 (if kp = 0 ∧ V.2.1 = 0 then x else V.2.2.2.1) → mI m' = up2 (up2 (mI m) (gz g + 145) 59 (if kp = 0 then V.1 else 1)) (gz g + 145) 60 (if kp = 0 then 1 else V.2.1) → St (PV7 g) m m' → Q m') : At g M_RF_clause (lv + 1) 273 [(0, va_rf (some (gz g + 145))), (1, .int kp), (3, .long x)] [] m (QV Q) := by
  have same : ∀ mm : Mm, mL mm (gz g + 145) 58 = V.2.2.2.1 → up2 (mL mm) (gz g + 145) 58 V.2.2.2.1 = mL mm := fun mm q => by
    funext a j
    by_cases e : a = gz g + 145 ∧ j = 58
    · rw [e.1, e.2, up2_at]; exact q.symm
    · rw [up2_not e]
  have fin : ∀ m1 : Mm, St (PV7 g) m m1 → mI m1 = mI m → mL m1 = up2 (mL m) (gz g + 145) 58 (if kp = 0 ∧ V.2.1 = 0 then x else V.2.2.2.1) → At g M_RF_clause (lv + 1) 289 [(0, va_rf (some (gz g + 145))), (1, .int kp)] [] m1 (QV Q) := fun m1 s1 i1 l1 => by
    refine t_289 (x := x) g (V := V) (s1.sg S) hkp h1 h2 (by rw [i1]; exact a1) (by rw [i1]; exact a2) (hQ _ ?_ ?_ ?_)
    · rw [mL_sI, mL_sI]; exact l1
    · rw [mI_sI, mI_sI, i1]
    · exact (s1.trans (St_sI m1 (by unfold PV7; omega) _)).trans (St_sI _ (by unfold PV7; omega) _)
  refine bk_RF_clause_273 g ?_
  by_cases q : kp = 0
  · rw [if_pos q]
    refine ⟨S.k 145 rfl, ?_⟩
    rw [a2]
    by_cases c : V.2.1 = 0
    · rw [if_pos c]
      intro m4 e4
      refine fin m4 (by rw [e4]; exact St_sL m (by unfold PV7; omega) _) (by rw [e4, mI_sL]) ?_
      rw [e4, mL_sL, if_pos ⟨q, c⟩]
    · rw [if_neg c]
      refine fin m (St.refl _ _) rfl ?_
      rw [if_neg (fun z => c z.2), same m a4]
  · rw [if_neg q]
    refine fin m (St.refl _ _) rfl ?_
    rw [if_neg (fun z => q z.1), same m a4]
theorem le8 (v : Int32) : ((8 : Int64) ≤ v.toInt64) = ((8 : Int32) ≤ v) := by
  apply propext
  rw [Int64.le_iff_toInt_le, Int32.le_iff_toInt_le, Int32.toInt_toInt64]
  exact Iff.rfl
theorem r_clause (g : Gc) {T L base b i k : Nat} {tx : Nat → Int32} {f : Nat → Int64} {V : RS} (hT : TxT tx L T) (hL : L ≤ 300) {res : ResC} {m : Mm} {Q : Mm → Prop} (hi : i < T) (hk : k ≤ 12) (h : pcl (kdT tx L) (vlT tx L) i k = some res) (D : RdS g tx L base f 0 i m) (W : VR g V m) (h64 : mI m (gz g + 145) 64 = nI k) (PO : POcl g tx L base f V k m res Q) : CV g M_RF_clause (b + 34) [va_rf (some (gz g + 145))] m Q := by
  have hTk := hT.toks hL
  have t2 := hTk.2.1
  obtain ⟨Pok, Perr⟩ := PO
  have S := D.1
  unfold pcl at h
  have bad : (wi (kdT tx L i) 14 18 = 0 ∨ 12 ≤ k) → ∀ lv, CV g M_RF_bad (lv + 1) [va_rf (some (gz g + 145))] m Q := fun q lv => by
    rw [if_pos q] at h
    exact c_badO g D (fun m' B => Perr _ (Option.some.inj h).symm m' (B.d (St.refl _ _)))
  -- keeping and selling
  have sums : ∀ kp : Int32, (kp = 1 ∧ kdT tx L i = 14) ∨ (kp = 0 ∧ kdT tx L i = 15) → k < 12 → At g M_RF_clause (b + 34) 76 [(0, va_rf (some (gz g + 145))), (1, .int kp), (2, .int (0 : Int32))] [] m (QV Q) := by
    intro kp hkp hk12
    have hkb : b01 kp := hkp.elim (fun q => Or.inr q.1) (fun q => Or.inl q.1)
    have hw : ¬ wi (kdT tx L i) 14 18 = 0 := by rcases hkp with ⟨-, q⟩ | ⟨-, q⟩ <;> rw [q] <;> decide
    rw [if_neg (fun q => q.elim hw (fun q => by omega)), if_neg (by rcases hkp with ⟨-, q⟩ | ⟨-, q⟩ <;> rw [q] <;> decide)] at h
    have hi1 := hTk.lt hi (wi_2 hw (by decide))
    refine bk_RF_clause_76 g ⟨S.k 145 rfl, fun m2 e2 => ?_⟩
    rw [if_pos rfl]
    rw [h64, nI_s] at e2
    have s2 : St (PV7 g) m m2 := by rw [e2]; exact St_sI m (by unfold PV7; omega) _
    have s2c : St (PNc g) m m2 := s2.weak (fun _ _ q => q.c)
    have D2 := D.off s2
    have z2 : mI m2 (gz g + 145) 64 = nI (k + 1) := by rw [e2, mI_sI, up2_at]
    have W2 : VR g V m2 := by
      obtain ⟨⟨a1, a2, a3, a4⟩, ⟨b1, b2, b3⟩, c⟩ := W
      rw [e2]
      refine ⟨⟨?_, ?_, a3, a4⟩, ⟨?_, ?_, ?_⟩, c⟩
      · rw [mI_sI, up2_sl (by omega)]; exact a1
      · rw [mI_sI, up2_sl (by omega)]; exact a2
      · rw [mI_sI, up2_sl (by omega)]; exact b1
      · rw [mI_sI, up2_sl (by omega)]; exact b2
      · rw [mI_sI, up2_sl (by omega)]; exact b3
    -- the end of it
    have end1 : ∀ (c : Cls) (j : Nat) (m3 : Mm), res = Sum.inl (j, c) → c.1 = kdT tx L i → St (PNo g) m2 m3 → RdS g tx L base f 0 j m3 → At g M_RF_clause (b + 34) 244 [(0, va_rf (some (gz g + 145))), (1, .int kp), (3, .long (c.2.2.1 f)), (5, .int (lb (c.2.2.2.2 f)))] [] m3 (QV Q) := by
      intro c j m3 hr hc s3 D3
      have W3 := W2.off s3
      have z3 : mI m3 (gz g + 145) 64 = nI (k + 1) := (s3.2 _ _ (by unfold PNo; omega)).1.trans z2
      have s3c : St (PNc g) m m3 := s2c.trans (s3.weak (fun _ _ q => q.c))
      refine bk_RF_clause_244 g ⟨D3.1.k 145 rfl, ?_⟩
      rw [if_pos D3.2.2.2.1]
      by_cases hc0 : c.2.2.2.2 f = 0
      · rw [if_pos (by unfold lb; rw [if_pos hc0])]
        refine Pok _ hr m3 s3c D3 ?_ z3
        unfold clF
        rw [if_pos hc0]
        exact W3
      · rw [if_neg (by unfold lb; rw [if_neg hc0]; decide)]
        have cF : clF f V c = rawF V (kdT tx L i) (c.2.2.1 f) := by unfold clF; rw [if_neg hc0, hc]
        obtain ⟨⟨a1, a2, a3, a4⟩, ⟨b1, b2, b3⟩, c1, c2⟩ := W3
        -- behind keeps
        have nx1 : ∀ m4 : Mm, St (PV7 g) m3 m4 → mI m4 = mI m3 → mL m4 (gz g + 145) 58 = V.2.2.2.1 → mL m4 (gz g + 145) 57 = (if kp = 0 then V.2.2.1 else if V.1 = 0 then c.2.2.1 f else V.2.2.1) → At g M_RF_clause (b + 34) 273 [(0, va_rf (some (gz g + 145))), (1, .int kp), (3, .long (c.2.2.1 f))] [] m4 (QV Q) := by
          intro m4 s4 i4 l58 l57
          have D4 := D3.off s4
          refine t_273 g (V := V) D4.1 hkb c1 c2 (by rw [i4]; exact a1) (by rw [i4]; exact a2) l58 (fun m5 l5 i5 s5 => ?_)
          have r1 : ∀ j, j ≠ 59 → j ≠ 60 → mI m5 (gz g + 145) j = mI m3 (gz g + 145) j := fun j q1 q2 => by rw [i5, up2_sl q2, up2_sl q1, i4]
          refine Pok _ hr m5 ((s3c.trans (s4.weak (fun _ _ q => q.c))).trans (s5.weak (fun _ _ q => q.c))) (D4.off s5) ?_ ((r1 64 (by omega) (by omega)).trans z3)
          show VR g (clF f V c) m5
          rw [cF]
          have e60 : mI m5 (gz g + 145) 60 = (if kp = 0 then 1 else V.2.1) := by rw [i5, up2_at]
          have e59 : mI m5 (gz g + 145) 59 = (if kp = 0 then V.1 else 1) := by rw [i5, up2_sl (by omega), up2_at]
          have e57 : mL m5 (gz g + 145) 57 = (if kp = 0 then V.2.2.1 else if V.1 = 0 then c.2.2.1 f else V.2.2.1) := by rw [l5, up2_sl (by omega)]; exact l57
          have e58 : mL m5 (gz g + 145) 58 = (if kp = 0 ∧ V.2.1 = 0 then c.2.2.1 f else V.2.2.2.1) := by rw [l5, up2_at]
          have e61 := (r1 61 (by omega) (by omega)).trans b1
          have e62 := (r1 62 (by omega) (by omega)).trans b2
          have e63 := (r1 63 (by omega) (by omega)).trans b3
          rcases hkp with ⟨q, kd⟩ | ⟨q, kd⟩
          · rw [kd]
            rw [if_neg (by rw [q]; decide)] at e60 e59 e57
            rw [if_neg (fun z => absurd z.1 (by rw [q]; decide))] at e58
            exact ⟨⟨e59, e60, e57, e58⟩, ⟨e61, e62, e63⟩, Or.inr rfl, c2⟩
          · rw [kd]
            rw [if_pos q] at e60 e59 e57
            have e58' : mL m5 (gz g + 145) 58 = (if V.2.1 = 0 then c.2.2.1 f else V.2.2.2.1) := by
              rw [e58]
              by_cases z : V.2.1 = 0
              · rw [if_pos z, if_pos ⟨q, z⟩]
              · rw [if_neg z, if_neg (fun y => z y.2)]
            exact ⟨⟨e59, e60, e57, e58'⟩, ⟨e61, e62, e63⟩, c1, Or.inr rfl⟩
        by_cases q : kp = 0
        · rw [if_pos q]
          exact nx1 m3 (St.refl _ _) rfl a4 (by rw [if_pos q]; exact a3)
        · rw [if_neg q, a1]
          by_cases z : V.1 = 0
          · rw [if_pos z]
            intro m4 e4
            refine nx1 m4 (by rw [e4]; exact St_sL m3 (by unfold PV7; omega) _) (by rw [e4, mI_sL]) ?_ ?_
            · rw [e4, mL_sL, up2_sl (by omega)]; exact a4
            · rw [e4, mL_sL, up2_at, if_neg q, if_pos z]
          · rw [if_neg z]
            exact nx1 m3 (St.refl _ _) rfl a4 (by rw [if_neg q, if_neg z]; exact a3)
    have endB : ∀ (x : Int64) (y : Int32) (e : Nat) (m3 : Mm), res = Sum.inr e → BadS g tx L e m2 m3 → At g M_RF_clause (b + 34) 244 [(0, va_rf (some (gz g + 145))), (1, .int kp), (3, .long x), (5, .int y)] [] m3 (QV Q) := by
      intro x y e m3 hr B3
      refine bk_RF_clause_244 g ⟨(B3.1.sg D2.1).k 145 rfl, ?_⟩
      rw [if_neg B3.2.1]
      exact Perr e hr m3 (B3.d s2c)
    refine c_nextS g hT D2 hi1 (fun m3 s3 D3 => ?_)
    rcases nx_some h with ⟨e, he, rfl⟩ | ⟨r, hr, hk1⟩
    · refine c_sumR g (b := b + 1) hT hL hi1 he D3 ⟨fun r hr => (by cases hr), fun e' he' m4 v B4 => ?_⟩
      cases he'
      refine c_isB g (B4.1.sg D3.1) B4.2.1 ?_
      rw [if_pos rfl]
      exact endB _ _ _ m4 rfl (B4.pre s3)
    · obtain ⟨x1, x2, -⟩ := (ppS_rng hTk hi1 hr).2 r rfl
      refine c_sumR g (b := b + 1) hT hL hi1 hr D3 ⟨fun r' hr' m4 s4 D4 => ?_, fun e' he' => (by cases he')⟩
      have hr2 : r = r' := Sum.inl.inj hr'
      subst hr2
      refine c_wdR g (lv := b + 28) D4 (w := 5) (by omega) ?_
      by_cases h19 : kdT tx L r.1 = 19
      · rw [if_pos h19] at hk1
        rw [if_pos (show kdT tx L r.1 = nI (14 + 5) from h19), if_neg (by decide)]
        have hr1 := hTk.lt x1 (by rw [h19]; decide)
        refine c_nextS g hT D4 hr1 (fun m5 s5 D5 => ?_)
        rcases nx_some hk1 with ⟨e, he, rfl⟩ | ⟨s, hs, hk2⟩
        · refine c_condsR g hT hL hr1 he D5 ⟨fun r hr => (by cases hr), fun e' he' m6 v B6 => ?_⟩
          cases he'
          exact endB _ _ _ m6 rfl (B6.pre ((s3.trans s4).trans s5))
        · refine c_condsR g hT hL hr1 hs D5 ⟨fun r' hr' m6 s6 D6 => ?_, fun e' he' => (by cases he')⟩
          have hr2 : s = r' := Sum.inl.inj hr'
          subst hr2
          exact end1 (kdT tx L i, r.2.1, r.2.2, s.2.1, s.2.2) s.1 m6 (Option.some.inj hk2).symm rfl (((s3.trans s4).trans s5).trans s6) D6
      · rw [if_neg h19] at hk1
        rw [if_neg (show ¬ kdT tx L r.1 = nI (14 + 5) from h19), if_pos rfl]
        exact end1 (kdT tx L i, r.2.1, r.2.2, [], d1) r.1 m4 (Option.some.inj hk1).symm rfl (s3.trans s4) D4
  -- counting
  have cnts : (kdT tx L i = 16 ∨ kdT tx L i = 17 ∨ kdT tx L i = 18) → k < 12 → At g M_RF_clause (b + 34) 76 [(0, va_rf (some (gz g + 145))), (1, .int (0 : Int32)), (2, .int (1 : Int32))] [] m (QV Q) := by
    intro hkd hk12
    have hw : ¬ wi (kdT tx L i) 14 18 = 0 := by rcases hkd with q | q | q <;> rw [q] <;> decide
    rw [if_neg (fun q => q.elim hw (fun q => by omega)), if_pos hkd] at h
    have hi1 := hTk.lt hi (wi_2 hw (by decide))
    refine bk_RF_clause_76 g ⟨S.k 145 rfl, fun m2 e2 => ?_⟩
    rw [if_neg (by decide)]
    rw [h64, nI_s] at e2
    have s2 : St (PV7 g) m m2 := by rw [e2]; exact St_sI m (by unfold PV7; omega) _
    have s2c : St (PNc g) m m2 := s2.weak (fun _ _ q => q.c)
    have D2 := D.off s2
    have z2 : mI m2 (gz g + 145) 64 = nI (k + 1) := by rw [e2, mI_sI, up2_at]
    have W2 : VR g V m2 := by
      obtain ⟨⟨a1, a2, a3, a4⟩, ⟨b1, b2, b3⟩, c⟩ := W
      rw [e2]
      refine ⟨⟨?_, ?_, a3, a4⟩, ⟨?_, ?_, ?_⟩, c⟩
      · rw [mI_sI, up2_sl (by omega)]; exact a1
      · rw [mI_sI, up2_sl (by omega)]; exact a2
      · rw [mI_sI, up2_sl (by omega)]; exact b1
      · rw [mI_sI, up2_sl (by omega)]; exact b2
      · rw [mI_sI, up2_sl (by omega)]; exact b3
    have f119 : ∀ s0 : Int32, (s0 = 0 ∧ kdT tx L i = 16) ∨ (s0 = 1 ∧ kdT tx L i = 17) ∨ (s0 = 2 ∧ kdT tx L i = 18) → At g M_RF_clause (b + 34) 119 [(0, va_rf (some (gz g + 145)))] [.int s0] m2 (QV Q) := by
      intro s0 hs
      refine bk_RF_clause_119 g ⟨D2.1.k 145 rfl, c_nextS g hT D2 hi1 (fun m3 s3 D3 => ?_)⟩
      refine c_numR g (lv := b + 30) hT D3 hi1 (fun k3 m4 s4 D4 => ?_) (fun k3 m4 B4 => ?_)
      rotate_left
      · rw [if_neg k3] at h
        rw [if_neg B4.2.1]
        exact Perr _ (Option.some.inj h).symm m4 ((B4.pre s3).d s2c)
      · rw [if_pos k3] at h
        rw [if_pos D4.2.2.2.1]
        have W4 := (W2.off s3).off s4
        have s34 := s3.trans s4
        have z4 : mI m4 (gz g + 145) 64 = nI (k + 1) := (s34.2 _ _ (by unfold PNo; omega)).1.trans z2
        have s4c : St (PNc g) m m4 := s2c.trans (s34.weak (fun _ _ q => q.c))
        obtain ⟨⟨a1, a2, a3, a4⟩, ⟨b1, b2, b3⟩, c⟩ := W4
        have hr := (Option.some.inj h).symm
        have cF : ∀ kk, kdT tx L i = kk → clF f V (kdT tx L i, [vlT tx L (i + 1)], (fun _ => (vlT tx L (i + 1)).toInt64), [], d1) = rawF V kk (vlT tx L (i + 1)).toInt64 := fun kk q => by rw [q]; rfl
        have fin : ∀ m5 j v, m5 = sI m4 (gz g + 145) j v → (j = 61 ∨ j = 62 ∨ j = 63) → VR g (clF f V (kdT tx L i, [vlT tx L (i + 1)], (fun _ => (vlT tx L (i + 1)).toInt64), [], d1)) m5 → Q m5 := fun m5 j v e5 hj W5 => by
          have s5 : St (PV7 g) m4 m5 := by rw [e5]; exact St_sI m4 (by unfold PV7; omega) _
          exact Pok _ hr m5 (s4c.trans (s5.weak (fun _ _ q => q.c))) (D4.off s5) W5 (by rw [e5, mI_sI, up2_sl (by omega)]; exact z4)
        have oth : ∀ j v i', i' ≠ j → mI (sI m4 (gz g + 145) j v) (gz g + 145) i' = mI m4 (gz g + 145) i' := fun j v i' q => by rw [mI_sI, up2_sl q]
        rcases hs with ⟨rfl, kd⟩ | ⟨rfl, kd⟩ | ⟨rfl, kd⟩
        · have cF' := cF _ kd
          rw [if_pos rfl]
          by_cases h8 : (8 : Int32) ≤ vlT tx L (i + 1)
          · rw [if_pos h8]
            refine bk_RF_clause_162 g ?_
            rw [if_neg (by decide)]
            refine bk_RF_clause_180 g ?_
            rw [if_neg (by decide)]
            refine Pok _ hr m4 s4c D4 ?_ z4
            show VR g (clF f V (kdT tx L i, [vlT tx L (i + 1)], (fun _ => (vlT tx L (i + 1)).toInt64), [], d1)) m4
            rw [cF']
            refine ⟨⟨a1, a2, a3, a4⟩, ⟨?_, b2, b3⟩, c⟩
            show mI m4 (gz g + 145) 61 = if (8 : Int64) ≤ (vlT tx L (i + 1)).toInt64 then V.2.2.2.2.2.1 else _
            rw [if_pos (by rw [le8]; exact h8)]
            exact b1
          · rw [if_neg h8]
            intro m5 e5
            refine bk_RF_clause_162 g ?_
            rw [if_neg (by decide)]
            refine bk_RF_clause_180 g ?_
            rw [if_neg (by decide)]
            refine fin m5 61 _ e5 (Or.inl rfl) ?_
            rw [cF', e5]
            refine ⟨⟨(oth _ _ _ (by omega)).trans a1, (oth _ _ _ (by omega)).trans a2, a3, a4⟩, ⟨?_, (oth _ _ _ (by omega)).trans b2, (oth _ _ _ (by omega)).trans b3⟩, c⟩
            show _ = if (8 : Int64) ≤ (vlT tx L (i + 1)).toInt64 then V.2.2.2.2.2.1 else V.2.2.2.2.2.1 ||| ((1 : Int32) <<< ((vlT tx L (i + 1)).toInt64.toInt32 &&& 31))
            rw [if_neg (by rw [le8]; exact h8), mI_sI, up2_at, b1, toI32_64]
        · have cF' := cF _ kd
          rw [if_neg (by decide)]
          refine bk_RF_clause_162 g ?_
          rw [if_pos rfl]
          refine ⟨D4.1.k 145 rfl, fun m5 e5 => ?_⟩
          refine bk_RF_clause_180 g ?_
          rw [if_neg (by decide)]
          refine fin m5 62 _ e5 (Or.inr (Or.inl rfl)) ?_
          rw [cF', e5]
          refine ⟨⟨(oth _ _ _ (by omega)).trans a1, (oth _ _ _ (by omega)).trans a2, a3, a4⟩, ⟨(oth _ _ _ (by omega)).trans b1, ?_, (oth _ _ _ (by omega)).trans b3⟩, c⟩
          show _ = imx V.2.2.2.2.2.2.1 (vlT tx L (i + 1)).toInt64.toInt32
          rw [mI_sI, up2_at, b2, toI32_64]
        · have cF' := cF _ kd
          rw [if_neg (by decide)]
          refine bk_RF_clause_162 g ?_
          rw [if_neg (by decide)]
          refine bk_RF_clause_180 g ?_
          rw [if_pos rfl]
          refine ⟨D4.1.k 145 rfl, ?_⟩
          have go : ∀ m5 v, m5 = sI m4 (gz g + 145) 63 v → v = (if V.2.2.2.2.2.2.2 = -1 then (vlT tx L (i + 1)).toInt64.toInt32 else imn V.2.2.2.2.2.2.2 (vlT tx L (i + 1)).toInt64.toInt32) → Q m5 := fun m5 v e5 hv => by
            refine fin m5 63 _ e5 (Or.inr (Or.inr rfl)) ?_
            rw [cF', e5]
            refine ⟨⟨(oth _ _ _ (by omega)).trans a1, (oth _ _ _ (by omega)).trans a2, a3, a4⟩, ⟨(oth _ _ _ (by omega)).trans b1, (oth _ _ _ (by omega)).trans b2, ?_⟩, c⟩
            rw [mI_sI, up2_at]
            exact hv
          rw [b3]
          by_cases z : V.2.2.2.2.2.2.2 = -1
          · rw [if_pos z]
            intro m5 e5
            exact go m5 _ e5 (by rw [if_pos z, toI32_64])
          · rw [if_neg z]
            intro m5 e5
            exact go m5 _ e5 (by rw [if_neg z, toI32_64])
    refine c_wdR g (lv := b + 28) D2 (w := 2) (by omega) ?_
    by_cases k16 : kdT tx L i = 16
    · rw [if_pos (show kdT tx L i = nI (14 + 2) from k16), if_neg (by decide)]
      exact f119 0 (Or.inl ⟨rfl, k16⟩)
    rw [if_neg (show ¬ kdT tx L i = nI (14 + 2) from k16), if_pos rfl]
    refine c_wdR g (lv := b + 28) D2 (w := 3) (by omega) ?_
    by_cases k17 : kdT tx L i = 17
    · rw [if_pos (show kdT tx L i = nI (14 + 3) from k17), if_neg (by decide)]
      exact f119 1 (Or.inr (Or.inl ⟨rfl, k17⟩))
    rw [if_neg (show ¬ kdT tx L i = nI (14 + 3) from k17), if_pos rfl]
    exact f119 2 (Or.inr (Or.inr ⟨rfl, (hkd.resolve_left k16).resolve_left k17⟩))
  have h43 : ∀ s0 : Int32, (s0 = 1 ∧ (kdT tx L i = 16 ∨ kdT tx L i = 17 ∨ kdT tx L i = 18)) ∨ (s0 = 0 ∧ ¬ (kdT tx L i = 16 ∨ kdT tx L i = 17 ∨ kdT tx L i = 18)) → At g M_RF_clause (b + 34) 43 [(0, va_rf (some (gz g + 145))), (1, .int (if kdT tx L i = nI (14 + 0) then 1 else 0))] [.int s0] m (QV Q) := by
    intro s0 hs
    refine bk_RF_clause_43 g ⟨S.k 145 rfl, ?_⟩
    rw [h64]
    by_cases k12 : k = 12
    · rw [if_pos (by rw [k12]; rfl)]
      exact bad (Or.inr (by omega)) _
    rw [if_neg (show ¬ nI k = (12 : Int32) from nI_neq (a := k) (b := 12) (by omega) (by omega) (by omega))]
    by_cases k14 : kdT tx L i = 14
    · have s00 : s0 = 0 := hs.elim (fun q => absurd q.2 (by rw [k14]; decide)) (fun q => q.1)
      rw [if_pos (show kdT tx L i = nI (14 + 0) from k14), if_neg (by decide), s00]
      exact sums 1 (Or.inl ⟨rfl, k14⟩) (by omega)
    rw [if_neg (show ¬ kdT tx L i = nI (14 + 0) from k14), if_pos rfl]
    refine c_wdR g (lv := b + 28) D (w := 1) (by omega) ?_
    by_cases k15 : kdT tx L i = 15
    · have s00 : s0 = 0 := hs.elim (fun q => absurd q.2 (by rw [k15]; decide)) (fun q => q.1)
      rw [if_pos (show kdT tx L i = nI (14 + 1) from k15), if_neg (by decide), s00]
      exact sums 0 (Or.inr ⟨rfl, k15⟩) (by omega)
    rw [if_neg (show ¬ kdT tx L i = nI (14 + 1) from k15), if_pos rfl]
    rcases hs with ⟨q, hk3⟩ | ⟨q, hk3⟩
    · rw [if_neg (by rw [q]; decide), q]
      exact cnts hk3 (by omega)
    · rw [if_pos q]
      refine bad (Or.inl (Classical.byContradiction (fun z => ?_))) _
      obtain ⟨j, j1, j2, hj⟩ := wi_cases (a := 14) (c := 18) (by omega) (by omega) z
      rcases (show j = 14 ∨ j = 15 ∨ j = 16 ∨ j = 17 ∨ j = 18 by omega) with rfl | rfl | rfl | rfl | rfl
      · exact k14 hj
      · exact k15 hj
      · exact hk3 (Or.inl hj)
      · exact hk3 (Or.inr (Or.inl hj))
      · exact hk3 (Or.inr (Or.inr hj))
  refine en_RF_clause g ⟨S.k 145 rfl, c_wdR g (lv := b + 28) D (w := 0) (by omega) (c_wdR g (lv := b + 28) D (w := 2) (by omega) ?_)⟩
  by_cases k16 : kdT tx L i = 16
  · rw [if_pos (show kdT tx L i = nI (14 + 2) from k16), if_neg (by decide)]
    exact bk_RF_clause_38 g (h43 1 (Or.inl ⟨rfl, Or.inl k16⟩))
  rw [if_neg (show ¬ kdT tx L i = nI (14 + 2) from k16), if_pos rfl]
  refine c_wdR g (lv := b + 28) D (w := 3) (by omega) ?_
  by_cases k17 : kdT tx L i = 17
  · rw [if_pos (show kdT tx L i = nI (14 + 3) from k17), if_neg (by decide)]
    exact bk_RF_clause_38 g (h43 1 (Or.inl ⟨rfl, Or.inr (Or.inl k17)⟩))
  rw [if_neg (show ¬ kdT tx L i = nI (14 + 3) from k17), if_pos rfl]
  refine c_wdR g (lv := b + 28) D (w := 4) (by omega) ?_
  by_cases k18 : kdT tx L i = 18
  · rw [if_pos (show kdT tx L i = nI (14 + 4) from k18), if_neg (by decide)]
    exact bk_RF_clause_38 g (h43 1 (Or.inl ⟨rfl, Or.inr (Or.inr k18)⟩))
  rw [if_neg (show ¬ kdT tx L i = nI (14 + 4) from k18), if_pos rfl]
  exact h43 0 (Or.inr ⟨rfl, fun q => q.elim k16 (fun q => q.elim k17 k18)⟩)
