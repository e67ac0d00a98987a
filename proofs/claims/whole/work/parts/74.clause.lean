/-! ===== reading conditions and clauses: the common meaning; the class's ===== -/
def d0 : Den := fun _ => 0
def ppS (kd vl : Nat → Int32) (i : Nat) : Option Res := pp kd vl 1000 3 0 i [] d0
theorem ppS_rng {T : Nat} {kd vl : Nat → Int32} (hT : Toks T kd) {i : Nat} {res : Res} (hi : i < T) (h : ppS kd vl i = some res) : (∀ e, res = Sum.inr e → e < T) ∧ ∀ r, res = Sum.inl r → r.1 < T ∧ i < r.1 ∧ r.2.1.length ≤ r.1 - i := by
  obtain ⟨a, b⟩ := pp_rng hT 1000 3 0 i [] d0 res (by omega) hi h
  refine ⟨a, fun r hr => ?_⟩
  obtain ⟨x1, -, x3, -⟩ := b r hr
  exact ⟨x1, x3 (by omega)⟩
theorem ppS_tot {T : Nat} {kd vl : Nat → Int32} (hT : Toks T kd) {i : Nat} (hi : i < T) : ∃ res, ppS kd vl i = some res := pp_tot hT 1000 3 0 i [] d0 (by omega) hi (by have := hT.2.1; rw [if_neg (by omega), if_neg (by omega)]; omega)
theorem c_sumC (g : Gc) {T b i : Nat} {kd vl pl : Nat → Int32} (hT : Toks T kd) {l : List Int32} {res : Res} {m : Mm} {Q : Int32 → Mm → Prop} (hi : i < T) (h : ppS kd vl i = some res) (S : Sg g m) (K : TokC g T kd vl pl m) (h7 : mI m (gz g + 128) 7 = nI i) (CA : CodeAt g l m) (hl : l.length ≤ i) (PO : POk g pl l m res Q) : CI g M_Tape_readSum (b + 31) [va_rf (some (gz g + 128)), .int (0 : Int32)] m Q := by
  have := (c_pp g hT b 1000 3 0 i [] d0 res l m Q (by omega) (by omega) hi h S K h7 (by rw [if_neg (by omega), List.append_nil]; exact CA) (by rw [if_neg (by omega)]; exact hl) PO).2.2.2.1 rfl
  rw [show 3 * (9 - 0) + b + 4 = b + 31 by omega] at this
  exact this
def nx {β : Type} (o : Option Res) (k : Nat × List Int32 × Den → Option (β ⊕ Nat)) : Option (β ⊕ Nat) :=
  match o with
  | none => none
  | some (Sum.inr e) => some (Sum.inr e)
  | some (Sum.inl r) => k r
theorem nx_some {β : Type} {o : Option Res} {k : Nat × List Int32 × Den → Option (β ⊕ Nat)} {res : β ⊕ Nat} (h : nx o k = some res) : (∃ e, o = some (Sum.inr e) ∧ res = Sum.inr e) ∨ ∃ r, o = some (Sum.inl r) ∧ k r = some res := by
  cases o with
  | none => exact absurd h (by simp [nx])
  | some q =>
    cases q with
    | inr e =>
      have : some (Sum.inr e) = some res := h
      exact Or.inl ⟨e, rfl, (Option.some.inj this).symm⟩
    | inl r => exact Or.inr ⟨r, rfl, h⟩
theorem nx_tot {β : Type} {o : Option Res} {k : Nat × List Int32 × Den → Option (β ⊕ Nat)} (h : ∃ res, o = some res) (hk : ∀ r, o = some (Sum.inl r) → ∃ res, k r = some res) : ∃ res, nx o k = some res := by
  obtain ⟨q, rfl⟩ := h
  cases q with
  | inr e => exact ⟨_, rfl⟩
  | inl r => exact hk r rfl
def cmpA (k : Int32) (a b : Int64) : Int64 := if k = 10 then (if b ≤ a then 0 else 1) else if k = 11 then (if a ≤ b then 0 else 1) else if a = b then 1 else 0
def cdC (q : Nat) (c r s : List Int32) (k : Int32) : List Int32 := if q = 0 then r ++ (s ++ [-k]) else c ++ (r ++ (s ++ ([-k] ++ [-20])))
def cdD (q : Nat) (d r s : Den) (k : Int32) : Den := fun f => if q = 0 then cmpA k (r f) (s f) else d f &&& cmpA k (r f) (s f)
/-- conditions; token i is the word before -/
def pcd (kd vl : Nat → Int32) : Nat → Nat → Nat → List Int32 → Den → Option Res
  | 0 => fun _ _ _ _ => none
  | n + 1 => fun q i c d => nx (ppS kd vl (i + 1)) (fun r => if wi (kd r.1) 10 12 = 0 then some (Sum.inr r.1) else nx (ppS kd vl (r.1 + 1)) (fun s => if kd s.1 = 20 then pcd kd vl n (q + 1) s.1 (cdC q c r.2.1 s.2.1 (kd r.1)) (cdD q d r.2.2 s.2.2 (kd r.1)) else some (Sum.inl (s.1, cdC q c r.2.1 s.2.1 (kd r.1), cdD q d r.2.2 s.2.2 (kd r.1)))))
theorem pcd_s (kd vl : Nat → Int32) (n q i : Nat) (c : List Int32) (d : Den) : pcd kd vl (n + 1) q i c d = nx (ppS kd vl (i + 1)) (fun r => if wi (kd r.1) 10 12 = 0 then some (Sum.inr r.1) else nx (ppS kd vl (r.1 + 1)) (fun s => if kd s.1 = 20 then pcd kd vl n (q + 1) s.1 (cdC q c r.2.1 s.2.1 (kd r.1)) (cdD q d r.2.2 s.2.2 (kd r.1)) else some (Sum.inl (s.1, cdC q c r.2.1 s.2.1 (kd r.1), cdD q d r.2.2 s.2.2 (kd r.1))))) := rfl
theorem pcd_tot {T : Nat} {kd vl : Nat → Int32} (hT : Toks T kd) : ∀ n q i c d, i + 1 < T → T - i ≤ n → ∃ res, pcd kd vl n q i c d = some res := by
  intro n
  induction n with
  | zero => intro q i c d h1 h2; omega
  | succ n ih =>
    intro q i c d h1 h2
    rw [pcd_s]
    refine nx_tot (ppS_tot hT h1) (fun r hr => ?_)
    by_cases hw : wi (kd r.1) 10 12 = 0
    · rw [if_pos hw]; exact ⟨_, rfl⟩
    · rw [if_neg hw]
      obtain ⟨x1, x2, -⟩ := (ppS_rng hT h1 hr).2 r rfl
      have hr1 := hT.lt x1 (wi_2 hw (by decide))
      refine nx_tot (ppS_tot hT hr1) (fun s hs => ?_)
      obtain ⟨y1, y2, -⟩ := (ppS_rng hT hr1 hs).2 s rfl
      by_cases h20 : kd s.1 = 20
      · rw [if_pos h20]
        exact ih (q + 1) s.1 _ _ (hT.lt y1 (by rw [h20]; decide)) (by omega)
      · rw [if_neg h20]; exact ⟨_, rfl⟩
theorem cdC_len {q : Nat} {c r s : List Int32} {k : Int32} (hq : q = 0 → c = []) : (cdC q c r s k).length = c.length + r.length + s.length + (if q = 0 then 1 else 2) := by
  unfold cdC
  by_cases h : q = 0
  · rw [if_pos h, if_pos h, hq h]; simp only [List.length_append, List.length_cons, List.length_nil]; omega
  · rw [if_neg h, if_neg h]; simp only [List.length_append, List.length_cons, List.length_nil]; omega
theorem pcd_rng {T : Nat} {kd vl : Nat → Int32} (hT : Toks T kd) : ∀ n q i c d res, i + 1 < T → (q = 0 → c = []) → pcd kd vl n q i c d = some res → (∀ e, res = Sum.inr e → e < T) ∧ ∀ r, res = Sum.inl r → r.1 < T ∧ i < r.1 ∧ r.2.1.length ≤ c.length + (r.1 - i) ∧ 1 ≤ r.2.1.length := by
  intro n
  induction n with
  | zero => intro q i c d res h1 hq h; exact absurd h (by simp [pcd])
  | succ n ih =>
    intro q i c d res h1 hq h
    rw [pcd_s] at h
    rcases nx_some h with ⟨e, he, rfl⟩ | ⟨r, hr, hk⟩
    · exact ⟨fun e' q' => by cases q'; exact (ppS_rng hT h1 he).1 _ rfl, fun r q' => by cases q'⟩
    · obtain ⟨x1, x2, x3⟩ := (ppS_rng hT h1 hr).2 r rfl
      by_cases hw : wi (kd r.1) 10 12 = 0
      · rw [if_pos hw] at hk
        have := Option.some.inj hk
        subst this
        exact ⟨fun e' q' => by cases q'; exact x1, fun r q' => by cases q'⟩
      · rw [if_neg hw] at hk
        have hr1 := hT.lt x1 (wi_2 hw (by decide))
        rcases nx_some hk with ⟨e, he, rfl⟩ | ⟨s, hs, hk2⟩
        · exact ⟨fun e' q' => by cases q'; exact (ppS_rng hT hr1 he).1 _ rfl, fun r q' => by cases q'⟩
        · obtain ⟨y1, y2, y3⟩ := (ppS_rng hT hr1 hs).2 s rfl
          have cl := cdC_len (r := r.2.1) (s := s.2.1) (k := kd r.1) hq
          have c2 : (if q = 0 then 1 else 2) ≤ 2 ∧ 1 ≤ (if q = 0 then 1 else 2) := by split <;> omega
          by_cases h20 : kd s.1 = 20
          · rw [if_pos h20] at hk2
            obtain ⟨z1, z2⟩ := ih (q + 1) s.1 _ _ res (hT.lt y1 (by rw [h20]; decide)) (fun q' => by omega) hk2
            refine ⟨z1, fun r' hr' => ?_⟩
            obtain ⟨w1, w2, w3, w4⟩ := z2 r' hr'
            exact ⟨w1, by omega, by omega, w4⟩
          · rw [if_neg h20] at hk2
            have := Option.some.inj hk2
            subst this
            refine ⟨fun e' q' => (by cases q'), fun r' q' => ?_⟩
            cases q'
            exact ⟨y1, by omega, by show (cdC q c r.2.1 s.2.1 (kd r.1)).length ≤ _; omega, by show 1 ≤ (cdC q c r.2.1 s.2.1 (kd r.1)).length; omega⟩
theorem c_cd (g : Gc) {T b : Nat} {kd vl pl : Nat → Int32} (hT : Toks T kd) : ∀ (n q i : Nat) (c : List Int32) (d : Den) (res : Res) (l : List Int32) (m : Mm) (Q : Int32 → Mm → Prop), i + 1 < T → 3 * q ≤ i → (q = 0 → c = []) → pcd kd vl n q i c d = some res → Sg g m → TokC g T kd vl pl m → mI m (gz g + 128) 7 = nI i → CodeAt g (l ++ c) m → (l ++ c).length ≤ i → POk g pl l m res Q → At g M_Tape_readConditions (b + 32) 27 [(0, va_rf (some (gz g + 128))), (1, .int (nI q))] [] m (QI Q) := by
  have t2 := hT.2.1
  have v30 : ∀ (mm : Mm) (j : Nat), Sg g mm → j < T → vp_in (nI j) (mN mm (gz g + 130)) := fun mm j S hj => by rw [S.n 130 rfl]; exact vp_in_nI (N := 301) (by omega) (by omega)
  intro n
  induction n with
  | zero => intro q i c d res l m Q h1 h3 hq h; exact absurd h (by simp [pcd])
  | succ n ih =>
    intro q i c d res l m Q hi1 h3q hq h S K h7 CA hlen PO
    obtain ⟨Pok, Perr⟩ := PO
    rw [pcd_s] at h
    refine bk_Tape_readConditions_27 g ⟨S.k 128 rfl, c_step g S hT K h7 hi1 (fun m1 s1 a1 b1 c1 f1 => ?_)⟩
    have S1 := s1.sg S
    have K1 := K.st s1
    have C1 := CA.same b1 c1
    rcases nx_some h with ⟨e, he, rfl⟩ | ⟨r, hr, hk⟩
    · refine c_sumC g hT hi1 he S1 K1 a1 C1 (by omega) ⟨fun r hr => (by cases hr), fun e2 he2 m2 s2 a2 u2 => ?_⟩
      cases he2
      rw [if_pos rfl]
      exact Perr _ rfl m2 (s1.trans s2) a2 u2
    · obtain ⟨x1, x2, x3⟩ := (ppS_rng hT hi1 hr).2 r rfl
      refine c_sumC g hT hi1 hr S1 K1 a1 C1 (by omega) ⟨fun r2 hr2 m2 s2 a2 C2 f2 => ?_, fun e2 he2 => (by cases he2)⟩
      have hr' : r = r2 := Sum.inl.inj hr2
      subst hr'
      have S2 := s2.sg S1
      have K2 := K1.st s2
      show (if (1 : Int32) = 0 then _ else _)
      rw [if_neg (by decide)]
      refine ⟨gz g + 130, S2.r 128 1 rfl, S2.k 130 rfl, ?_⟩
      rw [a2, nI_clamp (show r.1 < 2 ^ 31 by omega), (K2.1 r.1 x1).1]
      refine ⟨v30 m2 r.1 S2 x1, c_isWithin g ?_⟩
      by_cases hw : wi (kd r.1) 10 12 = 0
      · rw [if_pos hw] at hk ⊢
        refine c_refuse g S2 hT K2 a2 x1 (fun m3 s3 a3 b3 => ⟨Or.inl rfl, ?_⟩)
        have hlen2 : (l ++ c ++ r.2.1).length ≤ 300 := by rw [List.length_append]; omega
        exact Perr _ (Option.some.inj hk).symm m3 ((s1.trans s2).trans s3) a3 ⟨_, hlen2, by rw [b3]; exact C2.1⟩
      · rw [if_neg hw] at hk ⊢
        have hr1 := hT.lt x1 (wi_2 hw (by decide))
        refine c_step g S2 hT K2 a2 hr1 (fun m3 s3 a3 b3 c3 f3 => ?_)
        have S3 := s3.sg S2
        have K3 := K2.st s3
        have C3 := C2.same b3 c3
        have hl3 : (l ++ c ++ r.2.1).length ≤ r.1 + 1 := by rw [List.length_append]; omega
        rcases nx_some hk with ⟨e, he, rfl⟩ | ⟨s, hs, hk2⟩
        · refine c_sumC g hT hr1 he S3 K3 a3 C3 hl3 ⟨fun r hr => (by cases hr), fun e2 he2 m4 s4 a4 u4 => ?_⟩
          cases he2
          rw [if_pos rfl]
          exact Perr _ rfl m4 (((s1.trans s2).trans s3).trans s4) a4 u4
        · obtain ⟨y1, y2, y3⟩ := (ppS_rng hT hr1 hs).2 s rfl
          refine c_sumC g hT hr1 hs S3 K3 a3 C3 hl3 ⟨fun r2 hr2 m4 s4 a4 C4 f4 => ?_, fun e2 he2 => (by cases he2)⟩
          have hr' : s = r2 := Sum.inl.inj hr2
          subst hr'
          have S4 := s4.sg S3
          have hl4 : (l ++ c ++ r.2.1 ++ s.2.1).length + 2 ≤ s.1 := by
            have : (l ++ c ++ r.2.1).length + 2 ≤ r.1 + 1 := by rw [List.length_append]; omega
            rw [List.length_append]
            omega
          show (if (1 : Int32) = 0 then _ else _)
          rw [if_neg (by decide)]
          refine ⟨gz g + 133, by rw [s4.1.1, s3.1.1, s2.1.1, s1.1.1]; exact K.2.2, S4.k 133 rfl, c_emit g S4 C4 (by omega) (fun m5 s5 C5 i5 => ?_)⟩
          have S5 := s5.sg S4
          have s15 := (((s1.trans s2).trans s3).trans s4).trans s5
          have f15 : mI m5 (gz g + 128) 5 = mI m (gz g + 128) 5 := by rw [i5, f4, f3, f2, f1]
          have a5 : mI m5 (gz g + 128) 7 = nI s.1 := by rw [i5]; exact a4
          have nxt2 : ∀ m6, St (PPs g) m m6 → mI m6 (gz g + 128) 7 = nI s.1 → mI m6 (gz g + 128) 5 = mI m (gz g + 128) 5 → CodeAt g (l ++ cdC q c r.2.1 s.2.1 (kd r.1)) m6 → At g M_Tape_readConditions (b + 31 + 1) 2 [(0, va_rf (some (gz g + 128))), (1, .int (nI q + (1 : Int32)))] [] m6 (QI Q) := by
            intro m6 s6 a6 f6 C6
            have S6 := s6.sg S
            have K6 := K.st s6
            have cl := cdC_len (r := r.2.1) (s := s.2.1) (k := kd r.1) hq
            have c2 : (if q = 0 then 1 else 2) ≤ 2 ∧ 1 ≤ (if q = 0 then 1 else 2) := by split <;> omega
            rw [nI_s]
            refine bk_Tape_readConditions_2 g ?_
            rw [if_neg (show ¬ (300 : Int32) ≤ nI (q + 1) from nI_ge (a := q + 1) (b := 300) (by omega) (by omega)), if_neg (show ¬ nI (q + 1) = (0 : Int32) from fun e0 => absurd ((nI_eq (a := q + 1) (b := 0) (by omega) (by omega)).mp e0) (by omega))]
            refine ⟨S6.k 128 rfl, gz g + 130, S6.r 128 1 rfl, S6.k 130 rfl, ?_⟩
            rw [a6, nI_clamp (show s.1 < 2 ^ 31 by omega), (K6.1 s.1 y1).1]
            refine ⟨v30 m6 s.1 S6 y1, ?_⟩
            by_cases h20 : kd s.1 = 20
            · rw [if_pos h20] at hk2 ⊢
              refine ih (q + 1) s.1 _ _ res l m6 Q (hT.lt y1 (by rw [h20]; decide)) (by omega) (fun q' => by omega) hk2 S6 K6 a6 C6 ?_ ⟨fun r' hr' m7 s7 a7 C7 f7 => Pok r' hr' m7 (s6.trans s7) a7 C7 (f7.trans f6), fun e he m7 s7 a7 u7 => Perr e he m7 (s6.trans s7) a7 u7⟩
              have : (l ++ c).length = l.length + c.length := List.length_append
              rw [List.length_append, cl]
              simp only [List.length_append] at hl4
              omega
            · rw [if_neg h20] at hk2 ⊢
              exact Pok _ (Option.some.inj hk2).symm m6 s6 a6 C6 f6
          by_cases hq0 : q = 0
          · rw [if_pos (show nI q ≤ (0 : Int32) by rw [hq0]; decide)]
            refine nxt2 m5 s15 a5 f15 ?_
            have e5 : l ++ cdC q c r.2.1 s.2.1 (kd r.1) = l ++ c ++ r.2.1 ++ s.2.1 ++ [-(kd r.1)] := by
              rw [hq hq0, cdC, if_pos hq0]; simp only [List.append_assoc, List.nil_append]
            rw [e5]
            exact C5
          · rw [if_neg (show ¬ nI q ≤ (0 : Int32) from nI_ge (a := 0 + 1 - 1) (b := q) (by omega) (by omega))]
            refine ⟨gz g + 133, by rw [s15.1.1]; exact K.2.2, S5.k 133 rfl, c_emit g S5 C5 (by rw [List.length_append]; show _ + 1 < 300; omega) (fun m6 s6 C6 i6 => ?_)⟩
            refine nxt2 m6 (s15.trans s6) (by rw [i6]; exact a5) (by rw [i6]; exact f15) ?_
            have e5 : l ++ cdC q c r.2.1 s.2.1 (kd r.1) = l ++ c ++ r.2.1 ++ s.2.1 ++ [-(kd r.1)] ++ [-20] := by
              rw [cdC, if_neg hq0]; simp only [List.append_assoc]
            rw [e5]
            exact C6
