/-! ===== a law: the common meaning; the class's ===== -/
def nxC (o : Option ResC) (k : Nat × Cls → Option ResL) : Option ResL :=
  match o with
  | none => none
  | some (Sum.inr e) => some (Sum.inr e)
  | some (Sum.inl r) => k r
theorem nxC_some {o : Option ResC} {k : Nat × Cls → Option ResL} {res : ResL} (h : nxC o k = some res) : (∃ e, o = some (Sum.inr e) ∧ res = Sum.inr e) ∨ ∃ r, o = some (Sum.inl r) ∧ k r = some res := by
  cases o with
  | none => exact absurd h (by simp [nxC])
  | some q =>
    cases q with
    | inr e =>
      have : some (Sum.inr e) = some res := h
      exact Or.inl ⟨e, rfl, (Option.some.inj this).symm⟩
    | inl r => exact Or.inr ⟨r, rfl, h⟩
def plw (kd vl : Nat → Int32) : Nat → Nat → List Cls → Option ResL
  | 0 => fun _ _ => none
  | n + 1 => fun i cs => nxC (pcl kd vl i cs.length) (fun r => if kd r.1 = 13 then plw kd vl n (r.1 + 1) (cs ++ [r.2]) else if kd r.1 = 2 then some (Sum.inl (cs ++ [r.2])) else some (Sum.inr r.1))
theorem plw_s (kd vl : Nat → Int32) (n i : Nat) (cs : List Cls) : plw kd vl (n + 1) i cs = nxC (pcl kd vl i cs.length) (fun r => if kd r.1 = 13 then plw kd vl n (r.1 + 1) (cs ++ [r.2]) else if kd r.1 = 2 then some (Sum.inl (cs ++ [r.2])) else some (Sum.inr r.1)) := rfl
theorem plw_tot {T : Nat} {kd vl : Nat → Int32} (hT : Toks T kd) : ∀ n i cs, i < T → T - i ≤ n → ∃ res, plw kd vl n i cs = some res := by
  intro n
  induction n with
  | zero => intro i cs h1 h2; omega
  | succ n ih =>
    intro i cs h1 h2
    rw [plw_s]
    obtain ⟨res, h⟩ := pcl_tot (vl := vl) (k := cs.length) hT h1
    rw [h]
    cases res with
    | inr e => exact ⟨_, rfl⟩
    | inl r =>
      obtain ⟨x1, x2, -⟩ := (pcl_rng hT h1 h).2 r rfl
      show ∃ res, (if kd r.1 = 13 then _ else _) = some res
      by_cases h13 : kd r.1 = 13
      · rw [if_pos h13]
        exact ih (r.1 + 1) _ (hT.lt x1 (by rw [h13]; decide)) (by omega)
      · rw [if_neg h13]
        split <;> exact ⟨_, rfl⟩
theorem plw_rng {T : Nat} {kd vl : Nat → Int32} (hT : Toks T kd) : ∀ n i cs res, i < T → (codeOf cs).length ≤ i → plw kd vl n i cs = some res → (∀ e, res = Sum.inr e → e < T) ∧ ∀ cs', res = Sum.inl cs' → (codeOf cs').length ≤ 300 ∧ cs'.length ≤ 12 := by
  have t2 := hT.2.1
  intro n
  induction n with
  | zero => intro i cs res h1 h2 h; exact absurd h (by simp [plw])
  | succ n ih =>
    intro i cs res h1 hl h
    rw [plw_s] at h
    rcases nxC_some h with ⟨e, he, rfl⟩ | ⟨r, hr, hk⟩
    · exact ⟨fun e' q' => by cases q'; exact (pcl_rng hT h1 he).1 _ rfl, fun r q' => by cases q'⟩
    · obtain ⟨x1, x2, x3, x4⟩ := (pcl_rng hT h1 hr).2 r rfl
      have cl : (codeOf (cs ++ [r.2])).length ≤ r.1 := by
        rw [codeOf_app, List.length_append, List.length_append]; omega
      by_cases h13 : kd r.1 = 13
      · rw [if_pos h13] at hk
        exact ih (r.1 + 1) _ res (hT.lt x1 (by rw [h13]; decide)) (by omega) hk
      · rw [if_neg h13] at hk
        by_cases h2 : kd r.1 = 2
        · rw [if_pos h2] at hk
          have := Option.some.inj hk
          subst this
          refine ⟨fun e' q' => (by cases q'), fun c q' => ?_⟩
          cases q'
          exact ⟨by omega, by rw [List.length_append]; show _ + 1 ≤ 12; omega⟩
        · rw [if_neg h2] at hk
          have := Option.some.inj hk
          subst this
          exact ⟨fun e' q' => by cases q'; exact x1, fun r q' => by cases q'⟩
theorem plw_all {kd vl : Nat → Int32} {P : Cls → Prop} (hP : ∀ i k r, pcl kd vl i k = some (Sum.inl r) → P r.2) : ∀ n i cs cs', (∀ c, c ∈ cs → P c) → plw kd vl n i cs = some (Sum.inl cs') → ∀ c, c ∈ cs' → P c := by
  intro n
  induction n with
  | zero => intro i cs cs' h1 h; exact absurd h (by simp [plw])
  | succ n ih =>
    intro i cs cs' h1 h
    rw [plw_s] at h
    rcases nxC_some h with ⟨e, he, q⟩ | ⟨r, hr, hk⟩
    · cases q
    · have all : ∀ c, c ∈ cs ++ [r.2] → P c := fun c hc => by
        rcases List.mem_append.mp hc with q | q
        · exact h1 c q
        · rw [List.mem_singleton.mp q]; exact hP i _ r hr
      by_cases h13 : kd r.1 = 13
      · rw [if_pos h13] at hk
        exact ih _ _ cs' all hk
      · rw [if_neg h13] at hk
        by_cases h2 : kd r.1 = 2
        · rw [if_pos h2] at hk
          have : cs ++ [r.2] = cs' := Sum.inl.inj (Option.some.inj hk)
          rw [← this]
          exact all
        · rw [if_neg h2] at hk
          exact absurd (Option.some.inj hk) (by simp)
def POkL (g : Gc) (pl : Nat → Int32) (m : Mm) (res : ResL) (Q : Int32 → Mm → Prop) : Prop := (∀ cs, res = Sum.inl cs → ∀ m', St (PPl g) m m' → (∀ j, j ≠ 5 → j ≠ 7 → mI m' (gz g + 128) j = mI m (gz g + 128) j) → LawD g cs m' → mI m' (gz g + 128) 5 = mI m (gz g + 128) 5 → Q 1 m') ∧ ∀ e, res = Sum.inr e → ∀ m', St (PPl g) m m' → (∀ j, j ≠ 5 → j ≠ 7 → mI m' (gz g + 128) j = mI m (gz g + 128) j) → mI m' (gz g + 128) 5 = pl e → Q 0 m'
theorem LawD.step {g : Gc} {cs : List Cls} {m m' : Mm} (h : LawD g cs m) (s : St (PPs g) m m') (b : mI m' (gz g + 133) = mI m (gz g + 133)) (c : mI m' (gz g + 138) = mI m (gz g + 138)) : LawD g cs m' := ⟨by rw [b]; exact h.1, h.2.1.same b c, h.2.2.st s⟩
theorem c_lawC (g : Gc) {T b : Nat} {kd vl pl : Nat → Int32} (hT : Toks T kd) : ∀ (n i : Nat) (cs : List Cls) (res : ResL) (m : Mm) (Q : Int32 → Mm → Prop), i < T → plw kd vl n i cs = some res → Sg g m → TokC g T kd vl pl m → mI m (gz g + 128) 7 = nI i → LawD g cs m → (codeOf cs).length ≤ i → cs.length ≤ 12 → POkL g pl m res Q → CI g M_Tape_readClause (b + 34) [va_rf (some (gz g + 128))] m (fun x m' => At g M_Tape_readLaw (b + 34 + 1) 47 [(0, va_rf (some (gz g + 128))), (2, .int x), (3, .int (nI cs.length))] [] m' (QI Q)) := by
  have t2 := hT.2.1
  have v30 : ∀ (mm : Mm) (j : Nat), Sg g mm → j < T → vp_in (nI j) (mN mm (gz g + 130)) := fun mm j S hj => by rw [S.n 130 rfl]; exact vp_in_nI (N := 301) (by omega) (by omega)
  intro n
  induction n with
  | zero => intro i cs res m Q h1 h; exact absurd h (by simp [plw])
  | succ n ih =>
    intro i cs res m Q hi h S K h7 LD hl h12 PO
    obtain ⟨Pok, Perr⟩ := PO
    rw [plw_s] at h
    have n300 : ¬ (300 : Int32) ≤ nI cs.length := nI_ge (a := cs.length) (b := 300) (by omega) (by omega)
    rcases nxC_some h with ⟨e, he, rfl⟩ | ⟨r, hr, hk⟩
    · refine c_clause g hT hi he S K h7 LD hl h12 ⟨fun r hr => (by cases hr), fun e2 he2 m1 s1 k1 a1 => ?_⟩
      cases he2
      refine bk_Tape_readLaw_47 g ?_
      rw [if_neg n300, if_pos rfl]
      refine bk_Tape_readLaw_87 g ?_
      rw [if_pos rfl]
      exact Perr _ rfl m1 s1 k1 a1
    · obtain ⟨x1, x2, x3, x4⟩ := (pcl_rng hT hi hr).2 r rfl
      refine c_clause g hT hi hr S K h7 LD hl h12 ⟨fun r2 hr2 m1 s1 k1 d1 a1 L1 f1 => ?_, fun e2 he2 => (by cases he2)⟩
      have hr' : r = r2 := Sum.inl.inj hr2
      subst hr'
      have S1 := s1.sg S
      have K1 : TokC g T kd vl pl m1 := K.stl (d1 6 (by omega) (by omega)) k1 s1.1.1
      have cl : (codeOf (cs ++ [r.2])).length ≤ r.1 := by
        rw [codeOf_app, List.length_append, List.length_append]; omega
      refine bk_Tape_readLaw_47 g ?_
      rw [if_neg n300, if_neg (by decide)]
      refine ⟨S1.k 128 rfl, gz g + 130, S1.r 128 1 rfl, S1.k 130 rfl, ?_⟩
      rw [a1, nI_clamp (show r.1 < 2 ^ 31 by omega), (K1.1 r.1 x1).1]
      refine ⟨v30 m1 r.1 S1 x1, ?_⟩
      by_cases h13 : kd r.1 = 13
      · rw [if_pos h13] at hk ⊢
        have hr1 := hT.lt x1 (by rw [h13]; decide)
        refine c_step g S1 hT K1 a1 hr1 (fun m2 s2 a2 b2 c2 f2 => ?_)
        have s2' : St (PPl g) m1 m2 := s2.weak (fun a j q => PPs.l q)
        have d2 : ∀ j, j ≠ 5 → j ≠ 7 → mI m2 (gz g + 128) j = mI m1 (gz g + 128) j := fun j q1 q2 => (s2.2 _ _ (by unfold PPs; omega)).1
        have e12 : nI cs.length + (1 : Int32) = nI (cs ++ [r.2]).length := by rw [nI_s, List.length_append]; rfl
        rw [e12]
        exact ih (r.1 + 1) (cs ++ [r.2]) res m2 Q hr1 hk (s2.sg S1) (K1.st s2) a2 (L1.step s2 b2 c2) (by omega) (by rw [List.length_append]; show _ + 1 ≤ 12; omega) ⟨fun cs' hc m3 s3 d3 L3 f3 => Pok cs' hc m3 ((s1.trans s2').trans s3) (fun j q1 q2 => by rw [d3 j q1 q2, d2 j q1 q2, d1 j q1 q2]) L3 (by rw [f3, f2, f1]), fun e he m3 s3 d3 a3 => Perr e he m3 ((s1.trans s2').trans s3) (fun j q1 q2 => by rw [d3 j q1 q2, d2 j q1 q2, d1 j q1 q2]) a3⟩
      · rw [if_neg h13] at hk ⊢
        refine bk_Tape_readLaw_87 g ?_
        rw [if_neg (by decide)]
        refine ⟨S1.k 128 rfl, gz g + 130, S1.r 128 1 rfl, S1.k 130 rfl, ?_⟩
        rw [a1, nI_clamp (show r.1 < 2 ^ 31 by omega), (K1.1 r.1 x1).1]
        refine ⟨v30 m1 r.1 S1 x1, ?_⟩
        by_cases h2 : kd r.1 = 2
        · rw [if_pos h2] at hk ⊢
          exact Pok _ (Option.some.inj hk).symm m1 s1 d1 L1 f1
        · rw [if_neg h2] at hk ⊢
          rw [show b + 34 = (b + 33) + 1 by omega]
          refine c_refuse g S1 hT K1 a1 x1 (fun m2 s2 a2 b2 => ?_)
          rw [if_pos rfl]
          have s2' : St (PPl g) m1 m2 := s2.weak (fun a j q => PPs.l q)
          exact Perr _ (Option.some.inj hk).symm m2 (s1.trans s2') (fun j q1 q2 => by rw [(s2.2 _ _ (by unfold PPs; omega)).1, d1 j q1 q2]) a2
