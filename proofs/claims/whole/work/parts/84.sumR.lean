/-! ===== the reference reads a sum ===== -/
theorem div_m1 (a : Int64) : a / (-1) = -a := by
  apply Int64.toInt_inj.mp
  have h : (-1 : Int64).toInt = -1 := rfl
  rw [Int64.toInt_div, h, Int.tdiv_neg, Int.tdiv_one, Int64.toInt_neg]
def PNo (g : Gc) (a j : Nat) : Prop := a = gz g + 145 ∧ (50 ≤ j ∧ j ≤ 54)
def PNb (g : Gc) (a j : Nat) : Prop := a = gz g + 145 ∧ (j = 16 ∨ (50 ≤ j ∧ j ≤ 55))
theorem PN5.o {g : Gc} {a j : Nat} (h : PN5 g a j) : PNo g a j := ⟨h.1, by have := h.2; omega⟩
theorem PNo.b {g : Gc} {a j : Nat} (h : PNo g a j) : PNb g a j := ⟨h.1, by have := h.2; omega⟩
def FcR (g : Gc) (f : Nat → Int64) (m : Mm) : Prop := ∀ j, j < 6 → mL m (gz g + 182) j = f j
/-- the reference stands at token i, brackets dp deep, and all is well -/
def RdS (g : Gc) (tx : Nat → Int32) (L base : Nat) (f : Nat → Int64) (dp i : Nat) (m : Mm) : Prop := Sg g m ∧ RTx g tx L base m ∧ RAt g tx L i m ∧ mI m (gz g + 145) 55 = 0 ∧ mI m (gz g + 145) 53 = nI dp ∧ FcR g f m
/-- there was a fault at token e -/
def BadS (g : Gc) (tx : Nat → Int32) (L e : Nat) (m m' : Mm) : Prop := St (PNb g) m m' ∧ ¬ mI m' (gz g + 145) 55 = 0 ∧ mI m' (gz g + 145) 16 = plT tx L e
theorem BadS.pre {g : Gc} {tx : Nat → Int32} {L e : Nat} {m m1 m' : Mm} (s : St (PNo g) m m1) (h : BadS g tx L e m1 m') : BadS g tx L e m m' := ⟨(s.weak (fun _ _ q => q.b)).trans h.1, h.2⟩
theorem RdS.go {g : Gc} {tx : Nat → Int32} {L base : Nat} {f : Nat → Int64} {dp i i' : Nat} {m m' : Mm} (h : RdS g tx L base f dp i m) (s : St (PN5 g) m m') (R : RAt g tx L i' m') : RdS g tx L base f dp i' m' := by
  obtain ⟨S, X, -, h5, h3, F⟩ := h
  exact ⟨s.sg S, X.p5 s, R, (s.2 _ _ (by unfold PN5; omega)).1.trans h5, (s.2 _ _ (by unfold PN5; omega)).1.trans h3, fun j hj => (s.2 _ _ (by unfold PN5; omega)).2.trans (F j hj)⟩
theorem RdS.dp {g : Gc} {tx : Nat → Int32} {L base : Nat} {f : Nat → Int64} {dp dp' i : Nat} {m : Mm} (h : RdS g tx L base f dp i m) : RdS g tx L base f dp' i (sI m (gz g + 145) 53 (nI dp')) := by
  obtain ⟨S, X, R, h5, h3, F⟩ := h
  have s : St (PNo g) m (sI m (gz g + 145) 53 (nI dp')) := St_sI m (by unfold PNo; omega) _
  refine ⟨s.sg S, X.st s (by unfold PNo; omega) (by unfold PNo; omega) (fun j => by unfold PNo; omega), R.same ?_ ?_ ?_ ?_, ?_, ?_, fun j hj => (s.2 _ _ (by unfold PNo; omega)).2.trans (F j hj)⟩
  · rw [mI_sI, up2_sl (by omega)]
  · rw [mI_sI, up2_sl (by omega)]
  · rw [mI_sI, up2_sl (by omega)]
  · rw [mL_sI]
  · rw [mI_sI, up2_sl (by omega)]; exact h5
  · rw [mI_sI, up2_at]
theorem c_badO (g : Gc) {lv L base dp i : Nat} {tx : Nat → Int32} {f : Nat → Int64} {m : Mm} (h : RdS g tx L base f dp i m) {Q : Mm → Prop} (hQ : ∀ m', BadS g tx L i m m' → Q m') : CV g M_RF_bad (lv + 1) [va_rf (some (gz g + 145))] m Q := by
  obtain ⟨S, X, R, h5, -, -⟩ := h
  refine c_badR g S (fun m' s a b => hQ m' ⟨s.weak (fun a j q => ⟨q.1, by have := q.2; omega⟩), a, ?_⟩)
  rw [b, if_pos h5]
  exact R.1
theorem c_badB (g : Gc) {lv L e : Nat} {tx : Nat → Int32} {m0 m : Mm} (S : Sg g m) (B : BadS g tx L e m0 m) {Q : Mm → Prop} (hQ : ∀ m', BadS g tx L e m0 m' → Sg g m' → Q m') : CV g M_RF_bad (lv + 1) [va_rf (some (gz g + 145))] m Q := by
  refine c_badR g S (fun m' s a b => hQ m' ⟨B.1.trans (s.weak (fun a j q => ⟨q.1, by have := q.2; omega⟩)), a, ?_⟩ (s.sg S))
  rw [b, if_neg B.2.1]
  exact B.2.2
theorem c_nextS (g : Gc) {lv L base dp i T : Nat} {tx : Nat → Int32} {f : Nat → Int64} {m : Mm} (hT : TxT tx L T) (h : RdS g tx L base f dp i m) (hi : i + 1 < T) {Q : Mm → Prop} (hQ : ∀ m', St (PNo g) m m' → RdS g tx L base f dp (i + 1) m' → Q m') : CV g M_RF_next (lv + 2) [va_rf (some (gz g + 145))] m Q :=
  c_nextT g hT h.1 h.2.1 h.2.2.1 hi (fun m' s R => hQ m' (s.weak (fun _ _ q => q.o)) (h.go s R))
theorem c_numR (g : Gc) {lv L base dp i T : Nat} {tx : Nat → Int32} {f : Nat → Int64} {m : Mm} (hT : TxT tx L T) (h : RdS g tx L base f dp i m) (hi : i < T) {Q : Int32 → Mm → Prop} (h1 : kdT tx L i = 3 → ∀ m', St (PNo g) m m' → RdS g tx L base f dp (i + 1) m' → Q (vlT tx L i) m') (h0 : ¬ kdT tx L i = 3 → ∀ m', BadS g tx L i m m' → Q 0 m') : CI g M_RF_numberOf (lv + 3) [va_rf (some (gz g + 145))] m Q := by
  have hL := h.2.1.1
  refine en_RF_numberOf g ⟨h.1.k 145 rfl, ?_⟩
  rw [if_pos h.2.2.2.1, h.2.2.1.2.2.1]
  by_cases k3 : kdT tx L i = 3
  · have s2 := sr_kd.1.mpr k3
    rw [if_pos s2]
    have e : (mL m (gz g + 145) 54).toInt32 = vlT tx L i := by rw [h.2.2.1.2.2.2 s2, toI32_64]
    refine c_nextS g hT h ((hT.toks hL).lt hi (by rw [k3]; decide)) (fun m' s h' => ?_)
    rw [e]
    exact h1 k3 m' s h'
  · rw [if_neg (fun q => k3 (sr_kd.1.mp q))]
    exact c_badO g h (fun m' b => h0 k3 m' b)
def POR (g : Gc) (tx : Nat → Int32) (L base : Nat) (f : Nat → Int64) (dp : Nat) (m : Mm) (res : Res) (Q : Int64 → Mm → Prop) : Prop := (∀ r : Nat × List Int32 × Den, res = Sum.inl r → ∀ m', St (PNo g) m m' → RdS g tx L base f dp r.1 m' → Q (r.2.2 f) m') ∧ ∀ e, res = Sum.inr e → ∀ m' v, BadS g tx L e m m' → Q v m'
theorem c_sgR (g : Gc) {lv L base dp i : Nat} {tx : Nat → Int32} {f : Nat → Int64} {ch K : Int32} {m : Mm} (h : RdS g tx L base f dp i m) (hK : SgK ch K) {Q : Int32 → Mm → Prop} (hQ : Q (if kdT tx L i = K then 1 else 0) m) : CI g M_RF_isSign (lv + 2) [va_rf (some (gz g + 145)), .int ch] m Q := c_signR g h.1 h.2.1 h.2.2.1 h.2.2.2.1 hK hQ
theorem c_wdR (g : Gc) {lv L base dp i w : Nat} {tx : Nat → Int32} {f : Nat → Int64} {m : Mm} (h : RdS g tx L base f dp i m) (hw : w < 13) {Q : Int32 → Mm → Prop} (hQ : Q (if kdT tx L i = nI (14 + w) then 1 else 0) m) : CI g M_RF_is (lv + 5) [va_rf (some (gz g + 145)), va_rf (some (gK g w))] m Q := c_isR g h.1 h.2.1 h.2.2.1 h.2.2.2.1 hw hQ
theorem r_pp (g : Gc) {T L base b : Nat} {tx : Nat → Int32} {f : Nat → Int64} (hT : TxT tx L T) (hL : L ≤ 300) : ∀ (n mode dp i : Nat) (c : List Int32) (d : Den) (res : Res) (m : Mm) (Q : Int64 → Mm → Prop), mode ≤ 4 → dp ≤ 8 → i < T → pp (kdT tx L) (vlT tx L) n mode dp i c d = some res → RdS g tx L base f dp i m → POR g tx L base f dp m res Q → (mode = 0 → CJ g M_RF_factor (3 * (8 - dp) + b + 6) [va_rf (some (gz g + 145))] m Q) ∧ (mode = 1 → CJ g M_RF_term (3 * (8 - dp) + b + 7) [va_rf (some (gz g + 145))] m Q) ∧ (mode = 2 → At g M_RF_term (3 * (8 - dp) + b + 7) 5 [(0, va_rf (some (gz g + 145))), (1, .long (d f))] [] m (QJ Q)) ∧ (mode = 3 → CJ g M_RF_sum_ (3 * (8 - dp) + b + 8) [va_rf (some (gz g + 145))] m Q) ∧ (mode = 4 → At g M_RF_sum_ (3 * (8 - dp) + b + 8) 5 [(0, va_rf (some (gz g + 145))), (1, .long (d f))] [] m (QJ Q)) := by
  have hTk := hT.toks hL
  have t2 := hTk.2.1
  -- a fault ends a term and a sum
  have eT : ∀ (m0 m : Mm) (e : Nat) (x : Int64) (lv : Nat) (Q : Int64 → Mm → Prop), Sg g m0 → BadS g tx L e m0 m → Q x m → At g M_RF_term (lv + 3) 5 [(0, va_rf (some (gz g + 145))), (1, .long x)] [] m (QJ Q) := fun m0 m e x lv Q S0 B hQ => by
    have S := B.1.sg S0
    refine bk_RF_term_5 g ⟨S.k 145 rfl, c_signB g S B.2.1 ?_⟩
    rw [if_pos rfl]
    refine c_signB g S B.2.1 ?_
    rw [if_pos rfl]
    exact hQ
  have eS : ∀ (m0 m : Mm) (e : Nat) (x : Int64) (lv : Nat) (Q : Int64 → Mm → Prop), Sg g m0 → BadS g tx L e m0 m → Q x m → At g M_RF_sum_ (lv + 3) 5 [(0, va_rf (some (gz g + 145))), (1, .long x)] [] m (QJ Q) := fun m0 m e x lv Q S0 B hQ => by
    have S := B.1.sg S0
    refine bk_RF_sum__5 g ⟨S.k 145 rfl, c_signB g S B.2.1 ?_⟩
    rw [if_pos rfl]
    refine c_signB g S B.2.1 ?_
    rw [if_pos rfl]
    exact hQ
  intro n
  induction n with
  | zero => intro mode dp i c d res m Q hm hd hi h; exact absurd h (by simp [pp])
  | succ n ih =>
    intro mode dp i c d res m Q hm hd hi h D PO
    obtain ⟨Pok, Perr⟩ := PO
    have S := D.1
    rcases (show mode = 0 ∨ mode = 1 ∨ mode = 2 ∨ mode = 3 ∨ mode = 4 by omega) with rfl | rfl | rfl | rfl | rfl
    · refine ⟨fun _ => ?_, fun q => absurd q (by omega), fun q => absurd q (by omega), fun q => absurd q (by omega), fun q => absurd q (by omega)⟩
      rw [pp_0] at h
      refine en_RF_factor g ⟨S.k 145 rfl, ?_⟩
      rw [if_pos D.2.2.2.1, D.2.2.1.2.2.1]
      by_cases h3 : kdT tx L i = 3
      · rw [if_pos h3] at h
        rw [if_pos (sr_kd.1.mpr h3)]
        refine c_numR g (lv := 3 * (8 - dp) + b + 2) hT D hi (fun _ m' s D' => ?_) (fun q => absurd h3 q)
        exact Pok _ (Option.some.inj h).symm m' s D'
      rw [if_neg h3] at h
      rw [if_neg (fun q => h3 (sr_kd.1.mp q))]
      have fact : ∀ j, j < 6 → kdT tx L i = nI (21 + j) → At g M_RF_factor (3 * (8 - dp) + b + 6) 105 [(0, va_rf (some (gz g + 145)))] [.int (nI j)] m (QJ Q) := fun j hj hk => by
        have hw : ¬ wi (kdT tx L i) 21 26 = 0 := by
          rw [hk, wi_eq0]
          refine fun q => q.elim (fun q => ?_) (fun q => ?_)
          · exact nI_nlt (a := 21 + j) (b := 21) (by omega) (by omega) q
          · exact nI_nlt (a := 26) (b := 21 + j) (by omega) (by omega) q
        rw [if_pos hw] at h
        refine bk_RF_factor_105 g ?_
        rw [if_neg (nI_ne_m1 (n := j) (by omega))]
        refine ⟨S.k 145 rfl, c_nextS g hT D (hTk.lt hi (wi_2 hw (by decide))) (fun m' s D' => ⟨gz g + 182, D'.1.r 145 56 rfl, D'.1.k 182 rfl, by rw [D'.1.n 182 rfl]; exact vp_in_nI (N := 6) hj (by omega), ?_⟩)⟩
        rw [nI_clamp (show j < 2 ^ 31 by omega), D'.2.2.2.2.2 j hj]
        have := Pok _ (Option.some.inj h).symm m' s D'
        have e : f ((kdT tx L i).toNatClampNeg - 21) = f j := by
          rw [hk, nI_clamp (show 21 + j < 2 ^ 31 by omega), show 21 + j - 21 = j by omega]
        rw [← e]
        exact this
      refine c_wdR g (lv := 3 * (8 - dp) + b) D (w := 7) (by omega) ?_
      by_cases k0 : kdT tx L i = nI (14 + 7)
      · rw [if_pos k0, if_neg (by decide)]; exact fact 0 (by omega) k0
      rw [if_neg k0, if_pos rfl]
      refine c_wdR g (lv := 3 * (8 - dp) + b) D (w := 8) (by omega) ?_
      by_cases k1 : kdT tx L i = nI (14 + 8)
      · rw [if_pos k1, if_neg (by decide)]; exact fact 1 (by omega) k1
      rw [if_neg k1, if_pos rfl]
      refine c_wdR g (lv := 3 * (8 - dp) + b) D (w := 9) (by omega) ?_
      by_cases k2 : kdT tx L i = nI (14 + 9)
      · rw [if_pos k2, if_neg (by decide)]; exact fact 2 (by omega) k2
      rw [if_neg k2, if_pos rfl]
      refine c_wdR g (lv := 3 * (8 - dp) + b) D (w := 10) (by omega) ?_
      by_cases k3 : kdT tx L i = nI (14 + 10)
      · rw [if_pos k3, if_neg (by decide)]; exact fact 3 (by omega) k3
      rw [if_neg k3, if_pos rfl]
      refine c_wdR g (lv := 3 * (8 - dp) + b) D (w := 11) (by omega) ?_
      by_cases k4 : kdT tx L i = nI (14 + 11)
      · rw [if_pos k4, if_neg (by decide)]; exact fact 4 (by omega) k4
      rw [if_neg k4, if_pos rfl]
      refine c_wdR g (lv := 3 * (8 - dp) + b) D (w := 12) (by omega) ?_
      by_cases k5 : kdT tx L i = nI (14 + 12)
      · rw [if_pos k5, if_neg (by decide)]; exact fact 5 (by omega) k5
      rw [if_neg k5, if_pos rfl]
      have hw : wi (kdT tx L i) 21 26 = 0 := Classical.byContradiction (fun q => by
        obtain ⟨j, j1, j2, hj⟩ := wi_cases (a := 21) (c := 26) (by omega) (by omega) q
        rcases (show j = 21 ∨ j = 22 ∨ j = 23 ∨ j = 24 ∨ j = 25 ∨ j = 26 by omega) with rfl | rfl | rfl | rfl | rfl | rfl
        · exact k0 hj
        · exact k1 hj
        · exact k2 hj
        · exact k3 hj
        · exact k4 hj
        · exact k5 hj)
      rw [if_neg (fun q => q hw)] at h
      refine bk_RF_factor_105 g ?_
      rw [if_pos rfl]
      refine ⟨S.k 145 rfl, c_sgR g D sk_40 ?_⟩
      by_cases h8 : kdT tx L i = 8
      · rw [if_pos h8, if_neg (by decide), D.2.2.2.2.1]
        by_cases hd8 : dp < 8
        · rw [if_pos ⟨h8, hd8⟩] at h
          rw [if_neg (show ¬ nI dp = (8 : Int32) from nI_neq (a := dp) (b := 8) (by omega) (by omega) (by omega))]
          have hi1 := hTk.lt hi (by rw [h8]; decide)
          intro m1 e1
          rw [nI_s] at e1
          have s1 : St (PNo g) m m1 := by rw [e1]; exact St_sI m (by unfold PNo; omega) _
          have D1 : RdS g tx L base f (dp + 1) i m1 := by rw [e1]; exact D.dp
          refine c_nextS g hT D1 hi1 (fun m2 s2 D2 => ?_)
          have s12 := s1.trans s2
          rw [show 3 * (8 - dp) + b + 5 = 3 * (8 - (dp + 1)) + b + 8 by omega]
          rcases nxt_some h with ⟨e, he, rfl⟩ | ⟨r, hr, hk⟩
          · refine (ih 3 (dp + 1) (i + 1) [] d _ m2 _ (by omega) (by omega) hi1 he D2 ⟨fun r hr => (by cases hr), fun e' he' m3 v B3 => ?_⟩).2.2.2.1 rfl
            cases he'
            have S3 := B3.1.sg D2.1
            refine c_signB g S3 B3.2.1 ?_
            rw [if_pos rfl]
            exact c_badB g S3 (B3.pre s12) (fun m4 B4 _ => Perr _ rfl m4 _ B4)
          · obtain ⟨x1, x2, -, -⟩ := (pp_rng hTk n 3 (dp + 1) (i + 1) [] d _ (by omega) hi1 hr).2 _ rfl
            refine (ih 3 (dp + 1) (i + 1) [] d _ m2 _ (by omega) (by omega) hi1 hr D2 ⟨fun r' hr' m3 s3 D3 => ?_, fun e' he' => (by cases he')⟩).2.2.2.1 rfl
            have hr2 : r = r' := Sum.inl.inj hr'
            subst hr2
            refine c_sgR g D3 sk_41 ?_
            by_cases h9 : kdT tx L r.1 = 9
            · rw [if_pos h9] at hk ⊢
              rw [if_neg (by decide)]
              have hj1 := hTk.lt x1 (by rw [h9]; decide)
              intro m4 e4
              rw [D3.2.2.2.2.1, nI_m1 (by omega)] at e4
              have s4 : St (PNo g) m3 m4 := by rw [e4]; exact St_sI m3 (by unfold PNo; omega) _
              have D4 : RdS g tx L base f dp r.1 m4 := by rw [e4]; exact D3.dp
              refine c_nextS g hT D4 hj1 (fun m5 s5 D5 => ?_)
              exact Pok _ (Option.some.inj hk).symm m5 (((s12.trans s3).trans s4).trans s5) D5
            · rw [if_neg h9] at hk ⊢
              rw [if_pos rfl]
              exact c_badO g D3 (fun m4 B4 => Perr _ (Option.some.inj hk).symm m4 _ (B4.pre (s12.trans s3)))
        · rw [if_neg (fun q => hd8 q.2)] at h
          rw [if_pos (by rw [show dp = 8 by omega]; rfl)]
          exact c_badO g D (fun m4 B4 => Perr _ (Option.some.inj h).symm m4 _ B4)
      · rw [if_neg (fun q => h8 q.1)] at h
        rw [if_neg h8, if_pos rfl]
        exact c_badO g D (fun m4 B4 => Perr _ (Option.some.inj h).symm m4 _ B4)
    · refine ⟨fun q => absurd q (by omega), fun _ => ?_, fun q => absurd q (by omega), fun q => absurd q (by omega), fun q => absurd q (by omega)⟩
      rw [pp_1] at h
      refine en_RF_term g ⟨S.k 145 rfl, ?_⟩
      rcases nxt_some h with ⟨e, he, rfl⟩ | ⟨r, hr, hk⟩
      · refine (ih 0 dp i [] d _ m _ (by omega) hd hi he D ⟨fun r hr => (by cases hr), fun e' he' m3 v B3 => ?_⟩).1 rfl
        cases he'
        exact eT m m3 _ v _ Q S B3 (Perr _ rfl m3 v B3)
      · obtain ⟨x1, x2, -, -⟩ := (pp_rng hTk n 0 dp i [] d _ (by omega) hi hr).2 _ rfl
        refine (ih 0 dp i [] d _ m _ (by omega) hd hi hr D ⟨fun r' hr' m3 s3 D3 => ?_, fun e' he' => (by cases he')⟩).1 rfl
        have hr2 : r = r' := Sum.inl.inj hr'
        subst hr2
        exact (ih 2 dp r.1 r.2.1 r.2.2 res m3 Q (by omega) hd x1 hk D3 ⟨fun r' hr' m4 s4 D4 => Pok r' hr' m4 (s3.trans s4) D4, fun e he m4 v B4 => Perr e he m4 v (B4.pre s3)⟩).2.2.1 rfl
    · refine ⟨fun q => absurd q (by omega), fun q => absurd q (by omega), fun _ => ?_, fun q => absurd q (by omega), fun q => absurd q (by omega)⟩
      rw [pp_2] at h
      refine bk_RF_term_5 g ⟨S.k 145 rfl, c_sgR g D sk_42 ?_⟩
      have go : ¬ wi (kdT tx L i) 6 7 = 0 → At g M_RF_term (3 * (8 - dp) + b + 7) 23 [(0, va_rf (some (gz g + 145))), (1, .long (d f))] [] m (QJ Q) := fun hw => by
        rw [if_pos hw] at h
        have h67 := op67 hw
        have hi1 := hTk.lt hi (wi_2 hw (by decide))
        refine bk_RF_term_23 g ⟨S.k 145 rfl, c_sgR g D sk_42 (c_nextS g hT D hi1 (fun m2 s2 D2 => ?_))⟩
        rcases nxt_some h with ⟨e, he, rfl⟩ | ⟨r, hr, hk⟩
        · refine (ih 0 dp (i + 1) [] d _ m2 _ (by omega) hd hi1 he D2 ⟨fun r hr => (by cases hr), fun e' he' m3 v B3 => ?_⟩).1 rfl
          cases he'
          have fin : ∀ x, At g M_RF_term (3 * (8 - dp) + b + 6 + 1) 5 [(0, va_rf (some (gz g + 145))), (1, .long x)] [] m3 (QJ Q) := fun x => eT m2 m3 _ x _ Q D2.1 B3 (Perr _ rfl m3 x (B3.pre s2))
          by_cases k6 : kdT tx L i = 6
          · rw [if_pos k6, if_neg (by decide)]; exact fin _
          · rw [if_neg k6, if_pos rfl]
            by_cases v0 : v = 0
            · rw [if_pos v0]; exact fin _
            · rw [if_neg v0]
              by_cases v1 : v = -1
              · rw [if_pos v1]; exact fin _
              · rw [if_neg v1]; exact ⟨v0, fin _⟩
        · obtain ⟨x1, x2, -, -⟩ := (pp_rng hTk n 0 dp (i + 1) [] d _ (by omega) hi1 hr).2 _ rfl
          refine (ih 0 dp (i + 1) [] d _ m2 _ (by omega) hd hi1 hr D2 ⟨fun r' hr' m3 s3 D3 => ?_, fun e' he' => (by cases he')⟩).1 rfl
          have hr2 : r = r' := Sum.inl.inj hr'
          subst hr2
          have fin : ∀ x, x = opA (kdT tx L i) (d f) (r.2.2 f) → At g M_RF_term (3 * (8 - dp) + b + 6 + 1) 5 [(0, va_rf (some (gz g + 145))), (1, .long x)] [] m3 (QJ Q) := fun x hx => by
            rw [hx]
            exact (ih 2 dp r.1 _ (fun f => opA (kdT tx L i) (d f) (r.2.2 f)) res m3 Q (by omega) hd x1 hk D3 ⟨fun r' hr' m4 s4 D4 => Pok r' hr' m4 ((s2.trans s3).trans s4) D4, fun e he m4 v B4 => Perr e he m4 v (B4.pre (s2.trans s3))⟩).2.2.1 rfl
          rcases h67 with k6 | k7
          · rw [if_pos k6, if_neg (by decide)]
            refine fin _ ?_
            rw [k6]
            rfl
          · rw [if_neg (show ¬ kdT tx L i = 6 by rw [k7]; decide), if_pos rfl]
            have o7 : opA (kdT tx L i) (d f) (r.2.2 f) = if r.2.2 f = 0 then 0 else d f / r.2.2 f := by rw [k7]; rfl
            by_cases w0 : r.2.2 f = 0
            · rw [if_pos w0] at o7 ⊢; exact fin _ o7.symm
            · rw [if_neg w0] at o7 ⊢
              by_cases w1 : r.2.2 f = -1
              · rw [if_pos w1]
                refine fin _ ?_
                rw [o7, w1, div_m1]
              · rw [if_neg w1]
                exact ⟨w0, fin _ o7.symm⟩
      by_cases h6 : kdT tx L i = 6
      · rw [if_pos h6, if_neg (by decide)]
        exact go (by rw [h6]; decide)
      rw [if_neg h6, if_pos rfl]
      refine c_sgR g D sk_47 ?_
      by_cases h7 : kdT tx L i = 7
      · rw [if_pos h7, if_neg (by decide)]
        exact go (by rw [h7]; decide)
      rw [if_neg h7, if_pos rfl]
      rw [if_neg (fun hw => (op67 hw).elim h6 h7)] at h
      exact Pok _ (Option.some.inj h).symm m (St.refl _ _) D
    · refine ⟨fun q => absurd q (by omega), fun q => absurd q (by omega), fun q => absurd q (by omega), fun _ => ?_, fun q => absurd q (by omega)⟩
      rw [pp_3] at h
      refine en_RF_sum_ g ⟨S.k 145 rfl, ?_⟩
      rcases nxt_some h with ⟨e, he, rfl⟩ | ⟨r, hr, hk⟩
      · refine (ih 1 dp i [] d _ m _ (by omega) hd hi he D ⟨fun r hr => (by cases hr), fun e' he' m3 v B3 => ?_⟩).2.1 rfl
        cases he'
        exact eS m m3 _ v _ Q S B3 (Perr _ rfl m3 v B3)
      · obtain ⟨x1, x2, -, -⟩ := (pp_rng hTk n 1 dp i [] d _ (by omega) hi hr).2 _ rfl
        refine (ih 1 dp i [] d _ m _ (by omega) hd hi hr D ⟨fun r' hr' m3 s3 D3 => ?_, fun e' he' => (by cases he')⟩).2.1 rfl
        have hr2 : r = r' := Sum.inl.inj hr'
        subst hr2
        exact (ih 4 dp r.1 r.2.1 r.2.2 res m3 Q (by omega) hd x1 hk D3 ⟨fun r' hr' m4 s4 D4 => Pok r' hr' m4 (s3.trans s4) D4, fun e he m4 v B4 => Perr e he m4 v (B4.pre s3)⟩).2.2.2.2 rfl
    · refine ⟨fun q => absurd q (by omega), fun q => absurd q (by omega), fun q => absurd q (by omega), fun q => absurd q (by omega), fun _ => ?_⟩
      rw [pp_4] at h
      refine bk_RF_sum__5 g ⟨S.k 145 rfl, c_sgR g D sk_43 ?_⟩
      have go : ¬ wi (kdT tx L i) 4 5 = 0 → At g M_RF_sum_ (3 * (8 - dp) + b + 8) 23 [(0, va_rf (some (gz g + 145))), (1, .long (d f))] [] m (QJ Q) := fun hw => by
        rw [if_pos hw] at h
        have h45 := op45 hw
        have hi1 := hTk.lt hi (wi_2 hw (by decide))
        refine bk_RF_sum__23 g ⟨S.k 145 rfl, c_sgR g D sk_43 (c_nextS g hT D hi1 (fun m2 s2 D2 => ?_))⟩
        rcases nxt_some h with ⟨e, he, rfl⟩ | ⟨r, hr, hk⟩
        · refine (ih 1 dp (i + 1) [] d _ m2 _ (by omega) hd hi1 he D2 ⟨fun r hr => (by cases hr), fun e' he' m3 v B3 => ?_⟩).2.1 rfl
          cases he'
          have fin : ∀ x, At g M_RF_sum_ (3 * (8 - dp) + b + 7 + 1) 5 [(0, va_rf (some (gz g + 145))), (1, .long x)] [] m3 (QJ Q) := fun x => eS m2 m3 _ x _ Q D2.1 B3 (Perr _ rfl m3 x (B3.pre s2))
          by_cases k4 : kdT tx L i = 4
          · rw [if_pos k4, if_neg (by decide)]; exact fin _
          · rw [if_neg k4, if_pos rfl]; exact fin _
        · obtain ⟨x1, x2, -, -⟩ := (pp_rng hTk n 1 dp (i + 1) [] d _ (by omega) hi1 hr).2 _ rfl
          refine (ih 1 dp (i + 1) [] d _ m2 _ (by omega) hd hi1 hr D2 ⟨fun r' hr' m3 s3 D3 => ?_, fun e' he' => (by cases he')⟩).2.1 rfl
          have hr2 : r = r' := Sum.inl.inj hr'
          subst hr2
          have fin : ∀ x, x = opA (kdT tx L i) (d f) (r.2.2 f) → At g M_RF_sum_ (3 * (8 - dp) + b + 7 + 1) 5 [(0, va_rf (some (gz g + 145))), (1, .long x)] [] m3 (QJ Q) := fun x hx => by
            rw [hx]
            exact (ih 4 dp r.1 _ (fun f => opA (kdT tx L i) (d f) (r.2.2 f)) res m3 Q (by omega) hd x1 hk D3 ⟨fun r' hr' m4 s4 D4 => Pok r' hr' m4 ((s2.trans s3).trans s4) D4, fun e he m4 v B4 => Perr e he m4 v (B4.pre (s2.trans s3))⟩).2.2.2.2 rfl
          rcases h45 with k4 | k5
          · rw [if_pos k4, if_neg (by decide)]
            refine fin _ ?_
            rw [k4]
            rfl
          · rw [if_neg (show ¬ kdT tx L i = 4 by rw [k5]; decide), if_pos rfl]
            refine fin _ ?_
            rw [k5]
            rfl
      by_cases h4 : kdT tx L i = 4
      · rw [if_pos h4, if_neg (by decide)]
        exact go (by rw [h4]; decide)
      rw [if_neg h4, if_pos rfl]
      refine c_sgR g D sk_45 ?_
      by_cases h5 : kdT tx L i = 5
      · rw [if_pos h5, if_neg (by decide)]
        exact go (by rw [h5]; decide)
      rw [if_neg h5, if_pos rfl]
      rw [if_neg (fun hw => (op45 hw).elim h4 h5)] at h
      exact Pok _ (Option.some.inj h).symm m (St.refl _ _) D
theorem c_sumR (g : Gc) {T L base b i : Nat} {tx : Nat → Int32} {f : Nat → Int64} (hT : TxT tx L T) (hL : L ≤ 300) {res : Res} {m : Mm} {Q : Int64 → Mm → Prop} (hi : i < T) (h : ppS (kdT tx L) (vlT tx L) i = some res) (D : RdS g tx L base f 0 i m) (PO : POR g tx L base f 0 m res Q) : CJ g M_RF_sum_ (b + 32) [va_rf (some (gz g + 145))] m Q := by
  have := (r_pp g (b := b) hT hL 1000 3 0 i [] d0 res m Q (by omega) (by omega) hi h D PO).2.2.2.1 rfl
  rw [show 3 * (8 - 0) + b + 8 = b + 32 by omega] at this
  exact this
