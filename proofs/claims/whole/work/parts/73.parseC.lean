/-! ===== the class reads a sum ===== -/
def TokC (g : Gc) (T : Nat) (kd vl pl : Nat → Int32) (m : Mm) : Prop := (∀ i, i < T → mI m (gz g + 130) i = kd i ∧ mI m (gz g + 131) i = pl i ∧ (kd i = 3 → mI m (gz g + 132) i = vl i)) ∧ mI m (gz g + 128) 6 = nI T ∧ mR m (gz g + 128) 8 = some (gz g + 133)
def CodeAt (g : Gc) (l : List Int32) (m : Mm) : Prop := mI m (gz g + 133) 6 = nI l.length ∧ ∀ k, k < l.length → mI m (gz g + 138) k = l.getD k 0
def UsedOK (g : Gc) (m : Mm) : Prop := ∃ u : Nat, u ≤ 300 ∧ mI m (gz g + 133) 6 = nI u
def PPs (g : Gc) (a j : Nat) : Prop := (a = gz g + 128 ∧ (j = 5 ∨ j = 7)) ∨ (a = gz g + 133 ∧ j = 6) ∨ a = gz g + 138
theorem TokC.st {g : Gc} {T : Nat} {kd vl pl : Nat → Int32} {m m' : Mm} (h : TokC g T kd vl pl m) (s : St (PPs g) m m') : TokC g T kd vl pl m' := by
  refine ⟨fun i hi => ?_, ?_, ?_⟩
  · obtain ⟨a, b, c⟩ := h.1 i hi
    exact ⟨(s.2 _ _ (by unfold PPs; omega)).1.trans a, (s.2 _ _ (by unfold PPs; omega)).1.trans b, fun q => (s.2 _ _ (by unfold PPs; omega)).1.trans (c q)⟩
  · exact (s.2 _ _ (by unfold PPs; omega)).1.trans h.2.1
  · rw [s.1.1]; exact h.2.2
theorem c_step (g : Gc) {lv T i : Nat} {kd vl pl : Nat → Int32} {m : Mm} (S : Sg g m) (hT : Toks T kd) (K : TokC g T kd vl pl m) (h7 : mI m (gz g + 128) 7 = nI i) (hi : i + 1 < T) {Q : Mm → Prop} (hQ : ∀ m', St (PPs g) m m' → mI m' (gz g + 128) 7 = nI (i + 1) → mI m' (gz g + 133) = mI m (gz g + 133) → mI m' (gz g + 138) = mI m (gz g + 138) → mI m' (gz g + 128) 5 = mI m (gz g + 128) 5 → Q m') : CV g M_Tape_step (lv + 1) [va_rf (some (gz g + 128))] m Q := by
  obtain ⟨t1, t2, -⟩ := hT
  refine en_Tape_step g ⟨S.k 128 rfl, ?_⟩
  rw [K.2.1, h7, nI_m1 (by omega), if_neg (nI_ge (by omega) (by omega)), nI_s]
  intro m1 e1
  refine hQ m1 ?_ ?_ ?_ ?_ ?_
  · rw [e1]; exact St_sI m (Or.inl ⟨rfl, Or.inr rfl⟩) _
  · rw [e1, mI_sI, up2_at]
  · rw [e1, mI_sI, up2_ne (by omega)]
  · rw [e1, mI_sI, up2_ne (by omega)]
  · rw [e1, mI_sI, up2_sl (by omega)]
theorem c_emit (g : Gc) {lv : Nat} {l : List Int32} {x : Int32} {m : Mm} (S : Sg g m) (K : CodeAt g l m) (hl : l.length < 300) {Q : Mm → Prop} (hQ : ∀ m', St (PPs g) m m' → CodeAt g (l ++ [x]) m' → mI m' (gz g + 128) = mI m (gz g + 128) → Q m') : CV g M_Law_emit (lv + 1) [va_rf (some (gz g + 133)), .int x] m Q := by
  refine en_Law_emit g ⟨S.k 133 rfl, gz g + 138, S.r 133 4 rfl, S.k 138 rfl, ?_⟩
  rw [S.n 138 (n := 300) rfl, K.1, if_neg (nI_ge (by omega) (by omega)), nI_clamp (by omega)]
  refine ⟨vp_in_nI hl (by omega), fun m1 e1 m2 e2 => ?_⟩
  have u1 : mI m1 (gz g + 133) 6 = nI l.length := by rw [e1, mI_sI, up2_oth (by omega)]; exact K.1
  rw [u1, nI_s] at e2
  refine hQ m2 ?_ ⟨?_, fun k hk => ?_⟩ ?_
  · rw [e2, e1]
    exact (St_sI m (Or.inr (Or.inr rfl)) _).trans (St_sI _ (Or.inr (Or.inl ⟨rfl, rfl⟩)) _)
  · rw [e2, mI_sI, up2_at, List.length_append]; rfl
  · rw [List.length_append] at hk
    have hk2 : k < l.length + 1 := hk
    rw [e2, mI_sI, up2_oth (by omega), e1, mI_sI]
    by_cases hkl : k = l.length
    · subst hkl
      rw [up2_at, List.getD_eq_getElem?_getD, List.getElem?_append_right (Nat.le_refl _)]
      simp
    · rw [up2_sl hkl, List.getD_eq_getElem?_getD, List.getElem?_append_left (by omega), ← List.getD_eq_getElem?_getD]
      exact K.2 k (by omega)
  · rw [e2, mI_sI, up2_ne (by omega), e1, mI_sI, up2_ne (by omega)]
theorem c_emitU (g : Gc) {lv : Nat} {x : Int32} {m : Mm} (S : Sg g m) (K : UsedOK g m) {Q : Mm → Prop} (hQ : ∀ m', St (PPs g) m m' → UsedOK g m' → mI m' (gz g + 128) = mI m (gz g + 128) → Q m') : CV g M_Law_emit (lv + 1) [va_rf (some (gz g + 133)), .int x] m Q := by
  obtain ⟨u, hu, e⟩ := K
  refine en_Law_emit g ⟨S.k 133 rfl, gz g + 138, S.r 133 4 rfl, S.k 138 rfl, ?_⟩
  rw [S.n 138 (n := 300) rfl, e]
  by_cases h : u = 300
  · rw [if_pos (nI_le (by omega) (by omega))]
    exact hQ m (St.refl _ _) ⟨u, hu, e⟩ rfl
  · rw [if_neg (nI_ge (by omega) (by omega)), nI_clamp (by omega)]
    refine ⟨vp_in_nI (by omega) (by omega), fun m1 e1 m2 e2 => ?_⟩
    have u1 : mI m1 (gz g + 133) 6 = nI u := by rw [e1, mI_sI, up2_oth (by omega)]; exact e
    rw [u1, nI_s] at e2
    refine hQ m2 ?_ ⟨u + 1, by omega, by rw [e2, mI_sI, up2_at]⟩ ?_
    · rw [e2, e1]
      exact (St_sI m (Or.inr (Or.inr rfl)) _).trans (St_sI _ (Or.inr (Or.inl ⟨rfl, rfl⟩)) _)
    · rw [e2, mI_sI, up2_ne (by omega), e1, mI_sI, up2_ne (by omega)]
theorem c_refuse (g : Gc) {lv T i : Nat} {kd vl pl : Nat → Int32} {m : Mm} (S : Sg g m) (hT : Toks T kd) (K : TokC g T kd vl pl m) (h7 : mI m (gz g + 128) 7 = nI i) (hi : i < T) {Q : Int32 → Mm → Prop} (hQ : ∀ m', St (PPs g) m m' → mI m' (gz g + 128) 5 = pl i → mI m' (gz g + 133) = mI m (gz g + 133) → Q 0 m') : CI g M_Tape_refuse (lv + 1) [va_rf (some (gz g + 128))] m Q := by
  obtain ⟨t1, t2, -⟩ := hT
  refine en_Tape_refuse g ⟨S.k 128 rfl, gz g + 131, S.r 128 2 rfl, S.k 131 rfl, ?_⟩
  rw [h7, nI_clamp (by omega), (K.1 i hi).2.1]
  refine ⟨by rw [S.n 131 rfl]; exact vp_in_nI (N := 301) (by omega) (by omega), fun m1 e1 => hQ m1 ?_ ?_ ?_⟩
  · rw [e1]; exact St_sI m (Or.inl ⟨rfl, Or.inl rfl⟩) _
  · rw [e1, mI_sI, up2_at]
  · rw [e1, mI_sI, up2_ne (by omega)]
theorem CodeAt.used {g : Gc} {l : List Int32} {m : Mm} (h : CodeAt g l m) (hl : l.length ≤ 300) : UsedOK g m := ⟨l.length, hl, h.1⟩
theorem CodeAt.same {g : Gc} {l : List Int32} {m m' : Mm} (h : CodeAt g l m) (h1 : mI m' (gz g + 133) = mI m (gz g + 133)) (h2 : mI m' (gz g + 138) = mI m (gz g + 138)) : CodeAt g l m' := by
  unfold CodeAt
  rw [h1, h2]
  exact h
def POk (g : Gc) (pl : Nat → Int32) (l : List Int32) (m : Mm) (res : Res) (Q : Int32 → Mm → Prop) : Prop := (∀ r : Nat × List Int32 × Den, res = Sum.inl r → ∀ m', St (PPs g) m m' → mI m' (gz g + 128) 7 = nI r.1 → CodeAt g (l ++ r.2.1) m' → mI m' (gz g + 128) 5 = mI m (gz g + 128) 5 → Q 1 m') ∧ ∀ e, res = Sum.inr e → ∀ m', St (PPs g) m m' → mI m' (gz g + 128) 5 = pl e → UsedOK g m' → Q 0 m'
theorem c_pp (g : Gc) {T : Nat} {kd vl pl : Nat → Int32} (hT : Toks T kd) (b : Nat) : ∀ (n mode dp i : Nat) (c : List Int32) (d : Den) (res : Res) (l : List Int32) (m : Mm) (Q : Int32 → Mm → Prop), mode ≤ 4 → dp ≤ 8 → i < T → pp kd vl n mode dp i c d = some res → Sg g m → TokC g T kd vl pl m → mI m (gz g + 128) 7 = nI i → CodeAt g (l ++ (if mode = 2 ∨ mode = 4 then c else [])) m → l.length + (if mode = 2 ∨ mode = 4 then c.length else 0) ≤ i → POk g pl l m res Q → (mode = 0 → CI g M_Tape_readFactor (3 * (9 - dp) + b + 2) [va_rf (some (gz g + 128)), .int (nI dp)] m Q) ∧ (mode = 1 → CI g M_Tape_readTerm (3 * (9 - dp) + b + 3) [va_rf (some (gz g + 128)), .int (nI dp)] m Q) ∧ (mode = 2 → ∀ cnt, cnt ≤ i → At g M_Tape_readTerm (3 * (9 - dp) + b + 3) 8 [(0, va_rf (some (gz g + 128))), (1, .int (nI dp)), (2, .int 1), (3, .int (nI cnt))] [] m (QI Q)) ∧ (mode = 3 → CI g M_Tape_readSum (3 * (9 - dp) + b + 4) [va_rf (some (gz g + 128)), .int (nI dp)] m Q) ∧ (mode = 4 → ∀ cnt, cnt ≤ i → At g M_Tape_readSum (3 * (9 - dp) + b + 4) 8 [(0, va_rf (some (gz g + 128))), (1, .int (nI dp)), (2, .int 1), (3, .int (nI cnt))] [] m (QI Q)) := by
  have t2 := hT.2.1
  have v30 : ∀ (mm : Mm) (j : Nat), Sg g mm → j < T → vp_in (nI j) (mN mm (gz g + 130)) := fun mm j S hj => by rw [S.n 130 rfl]; exact vp_in_nI (N := 301) (by omega) (by omega)
  have v32 : ∀ (mm : Mm) (j : Nat), Sg g mm → j < T → vp_in (nI j) (mN mm (gz g + 132)) := fun mm j S hj => by rw [S.n 132 rfl]; exact vp_in_nI (N := 301) (by omega) (by omega)
  intro n
  induction n with
  | zero => intro mode dp i c d res l m Q hm hd hi h; exact absurd h (by simp [pp])
  | succ n ih =>
    intro mode dp i c d res l m Q hm hd hi h S K h7 CA hlen PO
    obtain ⟨Pok, Perr⟩ := PO
    have hK := K.1 i hi
    rcases (show mode = 0 ∨ mode = 1 ∨ mode = 2 ∨ mode = 3 ∨ mode = 4 by omega) with rfl | rfl | rfl | rfl | rfl
    · refine ⟨fun _ => ?_, fun q => absurd q (by omega), fun q => absurd q (by omega), fun q => absurd q (by omega), fun q => absurd q (by omega)⟩
      rw [if_neg (by omega)] at CA hlen
      rw [List.append_nil] at CA
      rw [pp_0] at h
      -- a number or a fact
      have one : ∀ x : Int32, kd i ≠ 2 → res = Sum.inl (i + 1, [x], fun f => if kd i = 3 then (vl i).toInt64 else f ((kd i).toNatClampNeg - 21)) ∨ (∃ d' : Den, res = Sum.inl (i + 1, [x], d')) → At g M_Tape_readFactor (3 * (9 - dp) + b + 2) 49 [(0, va_rf (some (gz g + 128)))] [.int x, va_rf (mR m (gz g + 128) 8)] m (QI Q) := by
        intro x hk2 hr
        obtain ⟨d', hr'⟩ : ∃ d' : Den, res = Sum.inl (i + 1, [x], d') := hr.elim (fun q => ⟨_, q⟩) id
        have hi1 := hT.lt hi hk2
        refine bk_Tape_readFactor_49 g ⟨gz g + 133, K.2.2, S.k 133 rfl, c_emit g S CA (by omega) (fun m1 s1 C1 e1 => ⟨(s1.sg S).k 128 rfl, ?_⟩)⟩
        refine c_step g (s1.sg S) hT (K.st s1) (by rw [e1]; exact h7) hi1 (fun m2 s2 a2 b2 c2 f2 => ?_)
        exact Pok _ hr' m2 (s1.trans s2) a2 (C1.same b2 c2) (by rw [f2, e1])
      refine en_Tape_readFactor g ⟨S.k 128 rfl, gz g + 130, S.r 128 1 rfl, S.k 130 rfl, ?_⟩
      rw [h7, nI_clamp (show i < 2 ^ 31 by omega), hK.1]
      refine ⟨v30 m i S hi, ?_⟩
      by_cases h3 : kd i = 3
      · rw [if_pos h3] at h ⊢
        refine bk_Tape_readFactor_26 g ⟨S.k 128 rfl, ?_⟩
        rw [if_pos h3, h7, nI_clamp (show i < 2 ^ 31 by omega)]
        refine ⟨gz g + 132, S.r 128 3 rfl, S.k 132 rfl, v32 m i S hi, ?_⟩
        rw [hK.2.2 h3]
        exact one _ (by rw [h3]; decide) (Or.inr ⟨_, (Option.some.inj h).symm⟩)
      rw [if_neg h3] at h ⊢
      refine c_isWithin g ?_
      by_cases hw : wi (kd i) 21 26 = 0
      · rw [if_neg (fun q => q hw)] at h
        rw [if_pos hw]
        by_cases h8 : kd i = 8
        · rw [if_pos h8]
          by_cases hd8 : dp < 8
          · rw [if_pos ⟨h8, hd8⟩] at h
            rw [if_pos (show nI dp < (8 : Int32) from nI_lt (a := dp) (b := 8) hd8 (by omega))]
            have hi1 := hT.lt hi (by rw [h8]; decide)
            refine c_step g S hT K h7 hi1 (fun m1 s1 a1 b1 c1 f1 => ?_)
            have S1 := s1.sg S
            have K1 := K.st s1
            have C1 := CA.same b1 c1
            rw [nI_s, show 3 * (9 - dp) + b + 1 = 3 * (9 - (dp + 1)) + b + 4 by omega]
            rcases nxt_some h with ⟨e1, he1, rfl⟩ | ⟨r1, he1, hk1⟩
            · refine (ih 3 (dp + 1) (i + 1) [] d _ l m1 _ (by omega) (by omega) hi1 he1 S1 K1 a1 (by rw [if_neg (by omega), List.append_nil]; exact C1) (by rw [if_neg (by omega)]; omega) ⟨fun r hr => (by cases hr), fun e he m2 s2 a2 u2 => ?_⟩).2.2.2.1 rfl
              cases he
              rw [if_pos rfl]
              exact Perr _ rfl m2 (s1.trans s2) a2 u2
            · obtain ⟨x1, x2, x3, -⟩ := (pp_rng hT n 3 (dp + 1) (i + 1) [] d _ (by omega) hi1 he1).2 _ rfl
              obtain ⟨x4, x5⟩ := x3 (by omega)
              refine (ih 3 (dp + 1) (i + 1) [] d _ l m1 _ (by omega) (by omega) hi1 he1 S1 K1 a1 (by rw [if_neg (by omega), List.append_nil]; exact C1) (by rw [if_neg (by omega)]; omega) ⟨fun r hr m2 s2 a2 C2 f2 => ?_, fun e he => (by cases he)⟩).2.2.2.1 rfl
              have hr' : r1 = r := Sum.inl.inj hr
              subst hr'
              have S2 := s2.sg S1
              have K2 := K1.st s2
              rw [if_neg (by decide), a2, nI_clamp (show r1.1 < 2 ^ 31 by omega), (K2.1 r1.1 x1).1]
              refine ⟨v30 m2 r1.1 S2 x1, ?_⟩
              by_cases h9 : kd r1.1 = 9
              · rw [if_pos h9] at hk1 ⊢
                have hj1 := hT.lt x1 (by rw [h9]; decide)
                refine c_step g S2 hT K2 a2 hj1 (fun m3 s3 a3 b3 c3 f3 => ?_)
                exact Pok _ (Option.some.inj hk1).symm m3 ((s1.trans s2).trans s3) a3 (C2.same b3 c3) (by rw [f3, f2, f1])
              · rw [if_neg h9] at hk1 ⊢
                refine c_refuse g S2 hT K2 a2 x1 (fun m3 s3 a3 b3 => ⟨Or.inl rfl, ?_⟩)
                have hlen2 : (l ++ r1.2.1).length ≤ 300 := by rw [List.length_append]; omega
                exact Perr _ (Option.some.inj hk1).symm m3 ((s1.trans s2).trans s3) a3 ⟨_, hlen2, by rw [b3]; exact C2.1⟩
          · rw [if_neg (fun q => hd8 q.2)] at h
            rw [if_neg (show ¬ nI dp < (8 : Int32) from nI_nlt (a := dp) (b := 8) (by omega) (by omega))]
            refine c_refuse g S hT K h7 hi (fun m1 s1 a1 b1 => ⟨Or.inl rfl, Perr _ (Option.some.inj h).symm m1 s1 a1 ⟨_, (by omega : l.length ≤ 300), by rw [b1]; exact CA.1⟩⟩)
        · rw [if_neg (fun q => h8 q.1)] at h
          rw [if_neg h8]
          refine c_refuse g S hT K h7 hi (fun m1 s1 a1 b1 => ⟨Or.inl rfl, Perr _ (Option.some.inj h).symm m1 s1 a1 ⟨_, (by omega : l.length ≤ 300), by rw [b1]; exact CA.1⟩⟩)
      · rw [if_pos hw] at h
        rw [if_neg hw]
        refine bk_Tape_readFactor_26 g ⟨S.k 128 rfl, ?_⟩
        rw [if_neg h3]
        exact one _ (wi_2 hw (by decide)) (Or.inr ⟨_, (Option.some.inj h).symm⟩)
    · refine ⟨fun q => absurd q (by omega), fun _ => ?_, fun q => absurd q (by omega), fun q => absurd q (by omega), fun q => absurd q (by omega)⟩
      rw [if_neg (by omega)] at CA hlen
      rw [pp_1] at h
      refine en_Tape_readTerm g ⟨S.k 128 rfl, ?_⟩
      rcases nxt_some h with ⟨e1, he1, rfl⟩ | ⟨r1, he1, hk1⟩
      · refine (ih 0 dp i [] d _ l m _ (by omega) hd hi he1 S K h7 (by rw [if_neg (by omega)]; exact CA) (by rw [if_neg (by omega)]; omega) ⟨fun r hr => (by cases hr), fun e he m2 s2 a2 u2 => ?_⟩).1 rfl
        cases he
        refine bk_Tape_readTerm_8 g ?_
        rw [if_neg (by decide), if_pos rfl]
        exact ⟨Or.inl rfl, Perr _ rfl m2 s2 a2 u2⟩
      · obtain ⟨x1, x2, x3, -⟩ := (pp_rng hT n 0 dp i [] d _ (by omega) hi he1).2 _ rfl
        obtain ⟨x4, x5⟩ := x3 (by omega)
        refine (ih 0 dp i [] d _ l m _ (by omega) hd hi he1 S K h7 (by rw [if_neg (by omega)]; exact CA) (by rw [if_neg (by omega)]; omega) ⟨fun r hr m2 s2 a2 C2 f2 => ?_, fun e he => (by cases he)⟩).1 rfl
        have hr' : r1 = r := Sum.inl.inj hr
        subst hr'
        exact (ih 2 dp r1.1 r1.2.1 r1.2.2 res l m2 Q (by omega) hd x1 hk1 (s2.sg S) (K.st s2) a2 (by rw [if_pos (Or.inl rfl)]; exact C2) (by rw [if_pos (Or.inl rfl)]; omega) ⟨fun r hr m3 s3 a3 C3 f3 => Pok r hr m3 (s2.trans s3) a3 C3 (f3.trans f2), fun e he m3 s3 a3 u3 => Perr e he m3 (s2.trans s3) a3 u3⟩).2.2.1 rfl 0 (by omega)
    · refine ⟨fun q => absurd q (by omega), fun q => absurd q (by omega), fun _ cnt hcnt => ?_, fun q => absurd q (by omega), fun q => absurd q (by omega)⟩
      rw [if_pos (Or.inl rfl)] at CA hlen
      rw [pp_2] at h
      have done : res = Sum.inl (i, c, d) → Q 1 m := fun e => Pok _ e m (St.refl _ _) h7 CA rfl
      refine bk_Tape_readTerm_8 g ?_
      by_cases hw : wi (kd i) 6 7 = 0
      · rw [if_neg (fun q => q hw)] at h
        have e := (Option.some.inj h).symm
        split
        · exact ⟨Or.inr rfl, done e⟩
        · rw [if_neg (by decide), h7, nI_clamp (show i < 2 ^ 31 by omega)]
          refine ⟨S.k 128 rfl, gz g + 130, S.r 128 1 rfl, S.k 130 rfl, v30 m i S hi, c_isWithin g ?_⟩
          rw [hK.1, if_pos hw]
          exact ⟨Or.inr rfl, done e⟩
      · rw [if_pos hw] at h
        have hi1 := hT.lt hi (wi_2 hw (by decide))
        rw [if_neg (show ¬ (300 : Int32) ≤ nI cnt from nI_ge (a := cnt) (b := 300) (by omega) (by omega)), if_neg (by decide), h7, nI_clamp (show i < 2 ^ 31 by omega)]
        refine ⟨S.k 128 rfl, gz g + 130, S.r 128 1 rfl, S.k 130 rfl, v30 m i S hi, c_isWithin g ?_⟩
        rw [hK.1, if_neg hw, h7]
        refine ⟨v30 m i S hi, c_step g S hT K h7 hi1 (fun m1 s1 a1 b1 c1 f1 => ?_)⟩
        have S1 := s1.sg S
        have K1 := K.st s1
        have C1 := CA.same b1 c1
        rw [nI_clamp (show i < 2 ^ 31 by omega), hK.1, nI_s]
        rcases nxt_some h with ⟨e1, he1, rfl⟩ | ⟨r1, he1, hk1⟩
        · refine (ih 0 dp (i + 1) [] d _ (l ++ c) m1 _ (by omega) hd hi1 he1 S1 K1 a1 (by rw [if_neg (by omega), List.append_nil]; exact C1) (by rw [if_neg (by omega), List.length_append]; omega) ⟨fun r hr => (by cases hr), fun e he m2 s2 a2 u2 => ?_⟩).1 rfl
          cases he
          have S2 := s2.sg S1
          refine ⟨gz g + 133, by rw [s2.1.1, s1.1.1]; exact K.2.2, S2.k 133 rfl, c_emitU g S2 u2 (fun m3 s3 u3 i3 => ?_)⟩
          refine bk_Tape_readTerm_8 g ?_
          have fin : Q 0 m3 := Perr _ rfl m3 ((s1.trans s2).trans s3) (by rw [i3]; exact a2) u3
          split
          · exact ⟨Or.inl rfl, fin⟩
          · rw [if_pos rfl]; exact ⟨Or.inl rfl, fin⟩
        · obtain ⟨x1, x2, x3, -⟩ := (pp_rng hT n 0 dp (i + 1) [] d _ (by omega) hi1 he1).2 _ rfl
          obtain ⟨x4, x5⟩ := x3 (by omega)
          refine (ih 0 dp (i + 1) [] d _ (l ++ c) m1 _ (by omega) hd hi1 he1 S1 K1 a1 (by rw [if_neg (by omega), List.append_nil]; exact C1) (by rw [if_neg (by omega), List.length_append]; omega) ⟨fun r hr m2 s2 a2 C2 f2 => ?_, fun e he => (by cases he)⟩).1 rfl
          have hr' : r1 = r := Sum.inl.inj hr
          subst hr'
          have S2 := s2.sg S1
          refine ⟨gz g + 133, by rw [s2.1.1, s1.1.1]; exact K.2.2, S2.k 133 rfl, c_emit g S2 C2 (by rw [List.length_append, List.length_append]; omega) (fun m3 s3 C3 i3 => ?_)⟩
          have e3 : l ++ c ++ r1.2.1 ++ [-(kd i)] = l ++ (c ++ (r1.2.1 ++ [-(kd i)])) := by simp only [List.append_assoc]
          rw [e3] at C3
          refine (ih 2 dp r1.1 (c ++ (r1.2.1 ++ [-(kd i)])) _ res l m3 Q (by omega) hd x1 hk1 (s3.sg S2) ((K1.st s2).st s3) (by rw [i3]; exact a2) (by rw [if_pos (Or.inl rfl)]; exact C3) (by rw [if_pos (Or.inl rfl)]; simp only [List.length_append, List.length_cons, List.length_nil]; omega) ⟨fun r hr m4 s4 a4 C4 f4 => Pok r hr m4 (((s1.trans s2).trans s3).trans s4) a4 C4 (by rw [f4, i3, f2, f1]), fun e he m4 s4 a4 u4 => Perr e he m4 (((s1.trans s2).trans s3).trans s4) a4 u4⟩).2.2.1 rfl (cnt + 1) (by omega)
    · refine ⟨fun q => absurd q (by omega), fun q => absurd q (by omega), fun q => absurd q (by omega), fun _ => ?_, fun q => absurd q (by omega)⟩
      rw [if_neg (by omega)] at CA hlen
      rw [pp_3] at h
      refine en_Tape_readSum g ⟨S.k 128 rfl, ?_⟩
      rcases nxt_some h with ⟨e1, he1, rfl⟩ | ⟨r1, he1, hk1⟩
      · refine (ih 1 dp i [] d _ l m _ (by omega) hd hi he1 S K h7 (by rw [if_neg (by omega)]; exact CA) (by rw [if_neg (by omega)]; omega) ⟨fun r hr => (by cases hr), fun e he m2 s2 a2 u2 => ?_⟩).2.1 rfl
        cases he
        refine bk_Tape_readSum_8 g ?_
        rw [if_neg (by decide), if_pos rfl]
        exact ⟨Or.inl rfl, Perr _ rfl m2 s2 a2 u2⟩
      · obtain ⟨x1, x2, x3, -⟩ := (pp_rng hT n 1 dp i [] d _ (by omega) hi he1).2 _ rfl
        obtain ⟨x4, x5⟩ := x3 (by omega)
        refine (ih 1 dp i [] d _ l m _ (by omega) hd hi he1 S K h7 (by rw [if_neg (by omega)]; exact CA) (by rw [if_neg (by omega)]; omega) ⟨fun r hr m2 s2 a2 C2 f2 => ?_, fun e he => (by cases he)⟩).2.1 rfl
        have hr' : r1 = r := Sum.inl.inj hr
        subst hr'
        exact (ih 4 dp r1.1 r1.2.1 r1.2.2 res l m2 Q (by omega) hd x1 hk1 (s2.sg S) (K.st s2) a2 (by rw [if_pos (Or.inr rfl)]; exact C2) (by rw [if_pos (Or.inr rfl)]; omega) ⟨fun r hr m3 s3 a3 C3 f3 => Pok r hr m3 (s2.trans s3) a3 C3 (f3.trans f2), fun e he m3 s3 a3 u3 => Perr e he m3 (s2.trans s3) a3 u3⟩).2.2.2.2 rfl 0 (by omega)
    · refine ⟨fun q => absurd q (by omega), fun q => absurd q (by omega), fun q => absurd q (by omega), fun q => absurd q (by omega), fun _ cnt hcnt => ?_⟩
      rw [if_pos (Or.inr rfl)] at CA hlen
      rw [pp_4] at h
      have done : res = Sum.inl (i, c, d) → Q 1 m := fun e => Pok _ e m (St.refl _ _) h7 CA rfl
      refine bk_Tape_readSum_8 g ?_
      by_cases hw : wi (kd i) 4 5 = 0
      · rw [if_neg (fun q => q hw)] at h
        have e := (Option.some.inj h).symm
        split
        · exact ⟨Or.inr rfl, done e⟩
        · rw [if_neg (by decide), h7, nI_clamp (show i < 2 ^ 31 by omega)]
          refine ⟨S.k 128 rfl, gz g + 130, S.r 128 1 rfl, S.k 130 rfl, v30 m i S hi, c_isWithin g ?_⟩
          rw [hK.1, if_pos hw]
          exact ⟨Or.inr rfl, done e⟩
      · rw [if_pos hw] at h
        have hi1 := hT.lt hi (wi_2 hw (by decide))
        rw [if_neg (show ¬ (300 : Int32) ≤ nI cnt from nI_ge (a := cnt) (b := 300) (by omega) (by omega)), if_neg (by decide), h7, nI_clamp (show i < 2 ^ 31 by omega)]
        refine ⟨S.k 128 rfl, gz g + 130, S.r 128 1 rfl, S.k 130 rfl, v30 m i S hi, c_isWithin g ?_⟩
        rw [hK.1, if_neg hw, h7]
        refine ⟨v30 m i S hi, c_step g S hT K h7 hi1 (fun m1 s1 a1 b1 c1 f1 => ?_)⟩
        have S1 := s1.sg S
        have K1 := K.st s1
        have C1 := CA.same b1 c1
        rw [nI_clamp (show i < 2 ^ 31 by omega), hK.1, nI_s]
        rcases nxt_some h with ⟨e1, he1, rfl⟩ | ⟨r1, he1, hk1⟩
        · refine (ih 1 dp (i + 1) [] d _ (l ++ c) m1 _ (by omega) hd hi1 he1 S1 K1 a1 (by rw [if_neg (by omega), List.append_nil]; exact C1) (by rw [if_neg (by omega), List.length_append]; omega) ⟨fun r hr => (by cases hr), fun e he m2 s2 a2 u2 => ?_⟩).2.1 rfl
          cases he
          have S2 := s2.sg S1
          refine ⟨gz g + 133, by rw [s2.1.1, s1.1.1]; exact K.2.2, S2.k 133 rfl, c_emitU g S2 u2 (fun m3 s3 u3 i3 => ?_)⟩
          refine bk_Tape_readSum_8 g ?_
          have fin : Q 0 m3 := Perr _ rfl m3 ((s1.trans s2).trans s3) (by rw [i3]; exact a2) u3
          split
          · exact ⟨Or.inl rfl, fin⟩
          · rw [if_pos rfl]; exact ⟨Or.inl rfl, fin⟩
        · obtain ⟨x1, x2, x3, -⟩ := (pp_rng hT n 1 dp (i + 1) [] d _ (by omega) hi1 he1).2 _ rfl
          obtain ⟨x4, x5⟩ := x3 (by omega)
          refine (ih 1 dp (i + 1) [] d _ (l ++ c) m1 _ (by omega) hd hi1 he1 S1 K1 a1 (by rw [if_neg (by omega), List.append_nil]; exact C1) (by rw [if_neg (by omega), List.length_append]; omega) ⟨fun r hr m2 s2 a2 C2 f2 => ?_, fun e he => (by cases he)⟩).2.1 rfl
          have hr' : r1 = r := Sum.inl.inj hr
          subst hr'
          have S2 := s2.sg S1
          refine ⟨gz g + 133, by rw [s2.1.1, s1.1.1]; exact K.2.2, S2.k 133 rfl, c_emit g S2 C2 (by rw [List.length_append, List.length_append]; omega) (fun m3 s3 C3 i3 => ?_)⟩
          have e3 : l ++ c ++ r1.2.1 ++ [-(kd i)] = l ++ (c ++ (r1.2.1 ++ [-(kd i)])) := by simp only [List.append_assoc]
          rw [e3] at C3
          refine (ih 4 dp r1.1 (c ++ (r1.2.1 ++ [-(kd i)])) _ res l m3 Q (by omega) hd x1 hk1 (s3.sg S2) ((K1.st s2).st s3) (by rw [i3]; exact a2) (by rw [if_pos (Or.inr rfl)]; exact C3) (by rw [if_pos (Or.inr rfl)]; simp only [List.length_append, List.length_cons, List.length_nil]; omega) ⟨fun r hr m4 s4 a4 C4 f4 => Pok r hr m4 (((s1.trans s2).trans s3).trans s4) a4 C4 (by rw [f4, i3, f2, f1]), fun e he m4 s4 a4 u4 => Perr e he m4 (((s1.trans s2).trans s3).trans s4) a4 u4⟩).2.2.2.2 rfl (cnt + 1) (by omega)
