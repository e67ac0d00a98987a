/-! ===== clauses and a law: the common meaning; the class's ===== -/
abbrev Cls : Type := Int32 × List Int32 × Den × List Int32 × Den
abbrev ResC : Type := (Nat × Cls) ⊕ Nat
abbrev ResL : Type := List Cls ⊕ Nat
def d1 : Den := fun _ => 1
/-- a clause; k clauses came before -/
def pcl (kd vl : Nat → Int32) (i k : Nat) : Option ResC :=
  if wi (kd i) 14 18 = 0 ∨ 12 ≤ k then some (Sum.inr i)
  else if kd i = 16 ∨ kd i = 17 ∨ kd i = 18 then
    (if kd (i + 1) = 3 then some (Sum.inl (i + 2, kd i, [vl (i + 1)], (fun _ => (vl (i + 1)).toInt64), [], d1)) else some (Sum.inr (i + 1)))
  else nx (ppS kd vl (i + 1)) (fun r => if kd r.1 = 19 then nx (pcd kd vl 400 0 r.1 [] d0) (fun s => some (Sum.inl (s.1, kd i, r.2.1, r.2.2, s.2.1, s.2.2))) else some (Sum.inl (r.1, kd i, r.2.1, r.2.2, [], d1)))
def codeOf (cs : List Cls) : List Int32 := (cs.map (fun c => c.2.1 ++ c.2.2.2.1)).flatten
theorem codeOf_app (cs : List Cls) (c : Cls) : codeOf (cs ++ [c]) = codeOf cs ++ (c.2.1 ++ c.2.2.2.1) := by
  unfold codeOf
  rw [List.map_append, List.flatten_append]
  simp only [List.map_cons, List.map_nil, List.flatten_cons, List.flatten_nil, List.append_nil]
theorem pcl_tot {T : Nat} {kd vl : Nat → Int32} (hT : Toks T kd) {i k : Nat} (hi : i < T) : ∃ res, pcl kd vl i k = some res := by
  have t2 := hT.2.1
  unfold pcl
  by_cases h1 : wi (kd i) 14 18 = 0 ∨ 12 ≤ k
  · rw [if_pos h1]; exact ⟨_, rfl⟩
  rw [if_neg h1]
  have hw : ¬ wi (kd i) 14 18 = 0 := fun q => h1 (Or.inl q)
  have hi1 := hT.lt hi (wi_2 hw (by decide))
  split
  · split <;> exact ⟨_, rfl⟩
  · refine nx_tot (ppS_tot hT hi1) (fun r hr => ?_)
    obtain ⟨x1, x2, -⟩ := (ppS_rng hT hi1 hr).2 r rfl
    by_cases h19 : kd r.1 = 19
    · rw [if_pos h19]
      exact nx_tot (pcd_tot hT 400 0 r.1 [] d0 (hT.lt x1 (by rw [h19]; decide)) (by omega)) (fun s _ => ⟨_, rfl⟩)
    · rw [if_neg h19]; exact ⟨_, rfl⟩
theorem pcl_rng {T : Nat} {kd vl : Nat → Int32} (hT : Toks T kd) {i k : Nat} {res : ResC} (hi : i < T) (h : pcl kd vl i k = some res) : (∀ e, res = Sum.inr e → e < T) ∧ ∀ r, res = Sum.inl r → r.1 < T ∧ i < r.1 ∧ r.2.2.1.length + r.2.2.2.2.1.length ≤ r.1 - i ∧ k < 12 := by
  have t2 := hT.2.1
  unfold pcl at h
  by_cases h1 : wi (kd i) 14 18 = 0 ∨ 12 ≤ k
  · rw [if_pos h1] at h
    have := Option.some.inj h
    subst this
    exact ⟨fun e he => by cases he; exact hi, fun r hr => by cases hr⟩
  rw [if_neg h1] at h
  have hw : ¬ wi (kd i) 14 18 = 0 := fun q => h1 (Or.inl q)
  have hi1 := hT.lt hi (wi_2 hw (by decide))
  by_cases h2 : kd i = 16 ∨ kd i = 17 ∨ kd i = 18
  · rw [if_pos h2] at h
    by_cases h3 : kd (i + 1) = 3
    · rw [if_pos h3] at h
      have := Option.some.inj h
      subst this
      have := hT.lt hi1 (by rw [h3]; decide)
      exact ⟨fun e he => (by cases he), fun r hr => by cases hr; exact ⟨this, by show i < i + 2; omega, by show 1 + 0 ≤ i + 2 - i; omega, by omega⟩⟩
    · rw [if_neg h3] at h
      have := Option.some.inj h
      subst this
      exact ⟨fun e he => by cases he; exact hi1, fun r hr => by cases hr⟩
  · rw [if_neg h2] at h
    rcases nx_some h with ⟨e, he, rfl⟩ | ⟨r, hr, hk⟩
    · exact ⟨fun e' q' => by cases q'; exact (ppS_rng hT hi1 he).1 _ rfl, fun r q' => by cases q'⟩
    · obtain ⟨x1, x2, x3⟩ := (ppS_rng hT hi1 hr).2 r rfl
      by_cases h19 : kd r.1 = 19
      · rw [if_pos h19] at hk
        have hr1 := hT.lt x1 (by rw [h19]; decide)
        rcases nx_some hk with ⟨e, he, rfl⟩ | ⟨s, hs, hk2⟩
        · exact ⟨fun e' q' => by cases q'; exact (pcd_rng hT 400 0 r.1 [] d0 _ hr1 (fun _ => rfl) he).1 _ rfl, fun r q' => by cases q'⟩
        · obtain ⟨y1, y2, y3, -⟩ := (pcd_rng hT 400 0 r.1 [] d0 _ hr1 (fun _ => rfl) hs).2 s rfl
          have := Option.some.inj hk2
          subst this
          refine ⟨fun e he => (by cases he), fun r' hr' => ?_⟩
          cases hr'
          exact ⟨y1, by show i < s.1; omega, by show r.2.1.length + s.2.1.length ≤ s.1 - i; simp only [List.length_nil] at y3; omega, by omega⟩
      · rw [if_neg h19] at hk
        have := Option.some.inj hk
        subst this
        refine ⟨fun e he => (by cases he), fun r' hr' => ?_⟩
        cases hr'
        exact ⟨x1, by show i < r.1; omega, by show r.2.1.length + 0 ≤ r.1 - i; omega, by omega⟩
def ClsAt (b0 b1 b2 b3 : Nat) (cs : List Cls) (m : Mm) : Prop := ∀ k c, cs[k]? = some c → mI m b0 k = c.1 ∧ mI m b1 k = nI (codeOf (cs.take k)).length ∧ mI m b2 k = nI ((codeOf (cs.take k)).length + c.2.1.length) ∧ mI m b3 k = nI ((codeOf (cs.take k)).length + c.2.1.length + c.2.2.2.1.length)
def LawD (g : Gc) (cs : List Cls) (m : Mm) : Prop := mI m (gz g + 133) 5 = nI cs.length ∧ CodeAt g (codeOf cs) m ∧ ClsAt (gz g + 134) (gz g + 135) (gz g + 136) (gz g + 137) cs m
def PPl (g : Gc) (a j : Nat) : Prop := (a = gz g + 128 ∧ 4 ≤ j) ∨ (130 ≤ a - gz g ∧ a - gz g ≤ 132) ∨ (133 ≤ a - gz g ∧ a - gz g ≤ 138)
theorem PPs.l {g : Gc} {a j : Nat} (h : PPs g a j) : PPl g a j := by unfold PPs at h; unfold PPl; omega
theorem ClsAt.st {g : Gc} {cs : List Cls} {m m' : Mm} (h : ClsAt (gz g + 134) (gz g + 135) (gz g + 136) (gz g + 137) cs m) (s : St (PPs g) m m') : ClsAt (gz g + 134) (gz g + 135) (gz g + 136) (gz g + 137) cs m' := fun k c hk => by
  obtain ⟨a, b, c, d⟩ := h k c hk
  exact ⟨(s.2 _ _ (by unfold PPs; omega)).1.trans a, (s.2 _ _ (by unfold PPs; omega)).1.trans b, (s.2 _ _ (by unfold PPs; omega)).1.trans c, (s.2 _ _ (by unfold PPs; omega)).1.trans d⟩
def PPa (g : Gc) (a _j : Nat) : Prop := 133 ≤ a - gz g ∧ a - gz g ≤ 138
/-- a clause is added to the draft -/
theorem c_addCl (g : Gc) {lv : Nat} {cs : List Cls} {c : Cls} {m : Mm} {Q : Mm → Prop} (S : Sg g m) (h5 : mI m (gz g + 133) 5 = nI cs.length) (h12 : cs.length < 12) (CA : CodeAt g (codeOf (cs ++ [c])) m) (CL : ClsAt (gz g + 134) (gz g + 135) (gz g + 136) (gz g + 137) cs m) (hQ : ∀ m', LawD g (cs ++ [c]) m' → St (PPa g) m m' → Q m') : CV g M_Law_addClause (lv + 1) [va_rf (some (gz g + 133)), .int c.1, .int (nI (codeOf cs).length), .int (nI ((codeOf cs).length + c.2.1.length))] m Q := by
  have vv : ∀ (mm : Mm) (a : Nat), mN mm a = 12 → vp_in (nI cs.length) (mN mm a) := fun mm a e => by rw [e]; exact vp_in_nI (N := 12) h12 (by omega)
  refine en_Law_addClause g ⟨S.k 133 rfl, gz g + 134, S.r 133 0 rfl, S.k 134 rfl, ?_⟩
  rw [h5, if_neg (by rw [S.n 134 (n := 12) rfl]; exact nI_ge (by omega) (by omega)), nI_clamp (show cs.length < 2 ^ 31 by omega)]
  refine ⟨vv m _ (S.n 134 rfl), fun m1 e1 => ?_⟩
  have s1 : St (PPa g) m m1 := by rw [e1]; exact St_sI m (by unfold PPa; omega) _
  have S1 := s1.sg S
  refine ⟨gz g + 135, S1.r 133 1 rfl, S1.k 135 rfl, ?_⟩
  have h51 : mI m1 (gz g + 133) 5 = nI cs.length := by rw [e1, mI_sI, up2_oth (by omega)]; exact h5
  rw [h51, nI_clamp (show cs.length < 2 ^ 31 by omega)]
  refine ⟨vv m1 _ (S1.n 135 rfl), fun m2 e2 => ?_⟩
  have s2 : St (PPa g) m1 m2 := by rw [e2]; exact St_sI m1 (by unfold PPa; omega) _
  have S2 := s2.sg S1
  refine ⟨gz g + 136, S2.r 133 2 rfl, S2.k 136 rfl, ?_⟩
  have h52 : mI m2 (gz g + 133) 5 = nI cs.length := by rw [e2, mI_sI, up2_oth (by omega)]; exact h51
  rw [h52, nI_clamp (show cs.length < 2 ^ 31 by omega)]
  refine ⟨vv m2 _ (S2.n 136 rfl), fun m3 e3 => ?_⟩
  have s3 : St (PPa g) m2 m3 := by rw [e3]; exact St_sI m2 (by unfold PPa; omega) _
  have S3 := s3.sg S2
  refine ⟨gz g + 137, S3.r 133 3 rfl, S3.k 137 rfl, ?_⟩
  have h53 : mI m3 (gz g + 133) 5 = nI cs.length := by rw [e3, mI_sI, up2_oth (by omega)]; exact h52
  rw [h53, nI_clamp (show cs.length < 2 ^ 31 by omega)]
  refine ⟨vv m3 _ (S3.n 137 rfl), fun m4 e4 m5 e5 => ?_⟩
  have s4 : St (PPa g) m3 m4 := by rw [e4]; exact St_sI m3 (by unfold PPa; omega) _
  have h54 : mI m4 (gz g + 133) 5 = nI cs.length := by rw [e4, mI_sI, up2_oth (by omega)]; exact h53
  have s5 : St (PPa g) m4 m5 := by rw [e5]; exact St_sI m4 (by unfold PPa; omega) _
  rw [h54, nI_s] at e5
  have h36 : mI m3 (gz g + 133) 6 = nI (codeOf (cs ++ [c])).length := by
    rw [e3, mI_sI, up2_oth (by omega), e2, mI_sI, up2_oth (by omega), e1, mI_sI, up2_oth (by omega)]
    exact CA.1
  rw [h36] at e4
  have all : ∀ a j, mI m5 a j = up2 (up2 (up2 (up2 (up2 (mI m) (gz g + 134) cs.length c.1) (gz g + 135) cs.length (nI (codeOf cs).length)) (gz g + 136) cs.length (nI ((codeOf cs).length + c.2.1.length))) (gz g + 137) cs.length (nI (codeOf (cs ++ [c])).length)) (gz g + 133) 5 (nI (cs.length + 1)) a j := fun a j => by
    rw [e5, mI_sI, e4, mI_sI, e3, mI_sI, e2, mI_sI, e1, mI_sI]
  have lc : (codeOf (cs ++ [c])).length = (codeOf cs).length + c.2.1.length + c.2.2.2.1.length := by
    rw [codeOf_app, List.length_append, List.length_append]; omega
  refine hQ m5 ⟨?_, ⟨?_, fun k hk => ?_⟩, fun k c' hk => ?_⟩ ((((s1.trans s2).trans s3).trans s4).trans s5)
  · rw [all, up2_at, List.length_append]; rfl
  · rw [all, up2_sl (by omega), up2_oth (by omega), up2_oth (by omega), up2_oth (by omega), up2_oth (by omega)]; exact CA.1
  · rw [all, up2_oth (by omega), up2_oth (by omega), up2_oth (by omega), up2_oth (by omega), up2_oth (by omega)]; exact CA.2 k hk
  · by_cases hkl : k < cs.length
    · rw [List.getElem?_append_left hkl] at hk
      obtain ⟨x1, x2, x3, x4⟩ := CL k c' hk
      rw [List.take_append_of_le_length (Nat.le_of_lt hkl)]
      refine ⟨?_, ?_, ?_, ?_⟩
      · rw [all, up2_oth (by omega), up2_oth (by omega), up2_oth (by omega), up2_oth (by omega), up2_sl (by omega)]; exact x1
      · rw [all, up2_oth (by omega), up2_oth (by omega), up2_oth (by omega), up2_sl (by omega), up2_oth (by omega)]; exact x2
      · rw [all, up2_oth (by omega), up2_oth (by omega), up2_sl (by omega), up2_oth (by omega), up2_oth (by omega)]; exact x3
      · rw [all, up2_oth (by omega), up2_sl (by omega), up2_oth (by omega), up2_oth (by omega), up2_oth (by omega)]; exact x4
    · rw [List.getElem?_append_right (by omega)] at hk
      have hk0 : k - cs.length = 0 := by
        cases hq : k - cs.length with
        | zero => rfl
        | succ q => rw [hq] at hk; simp at hk
      have hkk : k = cs.length := by omega
      subst hkk
      rw [hk0] at hk
      have hc : c = c' := Option.some.inj hk
      subst hc
      rw [List.take_left, ← lc]
      refine ⟨?_, ?_, ?_, ?_⟩
      · rw [all, up2_oth (by omega), up2_oth (by omega), up2_oth (by omega), up2_oth (by omega), up2_at]
      · rw [all, up2_oth (by omega), up2_oth (by omega), up2_oth (by omega), up2_at]
      · rw [all, up2_oth (by omega), up2_oth (by omega), up2_at]
      · rw [all, up2_oth (by omega), up2_at]
theorem TokC.stl {g : Gc} {T : Nat} {kd vl pl : Nat → Int32} {m m' : Mm} (h : TokC g T kd vl pl m) (e1 : mI m' (gz g + 128) 6 = mI m (gz g + 128) 6) (s : ∀ a j, 130 ≤ a - gz g → a - gz g ≤ 132 → mI m' a j = mI m a j) (er : mR m' = mR m) : TokC g T kd vl pl m' := by
  refine ⟨fun i hi => ?_, e1.trans h.2.1, by rw [er]; exact h.2.2⟩
  obtain ⟨a, b, c⟩ := h.1 i hi
  exact ⟨(s _ _ (by omega) (by omega)).trans a, (s _ _ (by omega) (by omega)).trans b, fun q => (s _ _ (by omega) (by omega)).trans (c q)⟩
def POkC (g : Gc) (pl : Nat → Int32) (cs : List Cls) (m : Mm) (res : ResC) (Q : Int32 → Mm → Prop) : Prop := (∀ r : Nat × Cls, res = Sum.inl r → ∀ m', St (PPl g) m m' → (∀ a j, 130 ≤ a - gz g → a - gz g ≤ 132 → mI m' a j = mI m a j) → (∀ j, j ≠ 5 → j ≠ 7 → mI m' (gz g + 128) j = mI m (gz g + 128) j) → mI m' (gz g + 128) 7 = nI r.1 → LawD g (cs ++ [r.2]) m' → mI m' (gz g + 128) 5 = mI m (gz g + 128) 5 → Q 1 m') ∧ ∀ e, res = Sum.inr e → ∀ m', St (PPl g) m m' → (∀ j, j ≠ 5 → j ≠ 7 → mI m' (gz g + 128) j = mI m (gz g + 128) j) → mI m' (gz g + 128) 5 = pl e → Q 0 m'
theorem c_clause (g : Gc) {T b i : Nat} {kd vl pl : Nat → Int32} (hT : Toks T kd) {cs : List Cls} {res : ResC} {m : Mm} {Q : Int32 → Mm → Prop} (hi : i < T) (h : pcl kd vl i cs.length = some res) (S : Sg g m) (K : TokC g T kd vl pl m) (h7 : mI m (gz g + 128) 7 = nI i) (LD : LawD g cs m) (hl : (codeOf cs).length ≤ i) (hl12 : cs.length ≤ 12) (PO : POkC g pl cs m res Q) : CI g M_Tape_readClause (b + 34) [va_rf (some (gz g + 128))] m Q := by
  have t2 := hT.2.1
  obtain ⟨Pok, Perr⟩ := PO
  obtain ⟨L5, CA, CL⟩ := LD
  have v30 : ∀ (mm : Mm) (j : Nat), Sg g mm → j < T → vp_in (nI j) (mN mm (gz g + 130)) := fun mm j S hj => by rw [S.n 130 rfl]; exact vp_in_nI (N := 301) (by omega) (by omega)
  have sl : ∀ {m1 m2 : Mm}, St (PPs g) m1 m2 → St (PPl g) m1 m2 := fun s => s.weak (fun a j q => PPs.l q)
  have k128 : ∀ {m1 m2 : Mm}, St (PPs g) m1 m2 → ∀ j, j ≠ 5 → j ≠ 7 → mI m2 (gz g + 128) j = mI m1 (gz g + 128) j := fun s j h1 h2 => (s.2 _ _ (by unfold PPs; omega)).1
  have err : ∀ (j : Nat) (m1 : Mm), St (PPs g) m m1 → mI m1 (gz g + 128) 7 = nI j → j < T → res = Sum.inr j → CI g M_Tape_refuse (b + 33) [va_rf (some (gz g + 128))] m1 (fun x m2 => b01 x ∧ Q x m2) := by
    intro j m1 s1 a1 hj hr
    refine c_refuse g (s1.sg S) hT (K.st s1) a1 hj (fun m2 s2 a2 _ => ⟨Or.inl rfl, Perr _ hr m2 (sl (s1.trans s2)) (k128 (s1.trans s2)) a2⟩)
  refine en_Tape_readClause g ⟨S.k 128 rfl, gz g + 130, S.r 128 1 rfl, S.k 130 rfl, ?_⟩
  rw [h7, nI_clamp (show i < 2 ^ 31 by omega), (K.1 i hi).1]
  refine ⟨v30 m i S hi, c_isWithin g ?_⟩
  unfold pcl at h
  by_cases hw : wi (kd i) 14 18 = 0
  · rw [if_pos (Or.inl hw)] at h
    rw [if_pos hw]
    exact err i m (St.refl _ _) h7 hi (Option.some.inj h).symm
  rw [if_neg hw]
  refine ⟨gz g + 133, K.2.2, S.k 133 rfl, ?_⟩
  rw [L5]
  by_cases h12' : 12 ≤ cs.length
  · rw [if_pos (Or.inr (by omega))] at h
    rw [if_neg (show ¬ nI cs.length < (12 : Int32) from nI_nlt (a := cs.length) (b := 12) (by omega) (by omega))]
    exact err i m (St.refl _ _) h7 hi (Option.some.inj h).symm
  have h12 : cs.length < 12 := by omega
  rw [if_neg (fun q => q.elim hw h12')] at h
  rw [if_pos (show nI cs.length < (12 : Int32) from nI_lt (a := cs.length) (b := 12) (by omega) (by omega))]
  have hi1 := hT.lt hi (wi_2 hw (by decide))
  refine c_step g S hT K h7 hi1 (fun m1 s1 a1 b1 c1 f1 => ⟨gz g + 133, by rw [s1.1.1]; exact K.2.2, (s1.sg S).k 133 rfl, ?_⟩)
  have S1 := s1.sg S
  have K1 := K.st s1
  have C1 := CA.same b1 c1
  rw [C1.1]
  -- the end of a clause
  have fin : ∀ (c : Cls) (j : Nat) (m2 : Mm), St (PPs g) m m2 → mI m2 (gz g + 128) 7 = nI j → mI m2 (gz g + 128) 5 = mI m (gz g + 128) 5 → CodeAt g (codeOf cs ++ (c.2.1 ++ c.2.2.2.1)) m2 → c.1 = kd i → res = Sum.inl (j, c) → At g M_Tape_readClause (b + 34) 174 [(0, va_rf (some (gz g + 128))), (1, .int (kd i)), (2, .int (nI (codeOf cs).length)), (3, .int (nI ((codeOf cs).length + c.2.1.length)))] [] m2 (QI Q) := by
    intro c j m2 s2 a2 f2 C2 hc hr
    have S2 := s2.sg S
    refine bk_Tape_readClause_174 g ⟨S2.k 128 rfl, gz g + 133, by rw [s2.1.1]; exact K.2.2, S2.k 133 rfl, ?_⟩
    rw [← hc]
    refine c_addCl g S2 ((s2.2 _ _ (by unfold PPs; omega)).1.trans L5) h12 (by rw [codeOf_app]; exact C2) (CL.st s2) (fun m3 L3 s3 => ?_)
    have i3 : ∀ a jj, a - gz g < 133 → mI m3 a jj = mI m2 a jj := fun a jj q => (s3.2 _ _ (by unfold PPa; omega)).1
    refine Pok (j, c) hr m3 ((sl s2).trans (s3.weak (fun a jj q => Or.inr (Or.inr q)))) (fun a jj q1 q2 => ?_) (fun jj q1 q2 => ?_) ?_ L3 ?_
    · rw [i3 _ _ (by omega)]; exact (s2.2 _ _ (by unfold PPs; omega)).1
    · rw [i3 _ _ (by omega)]; exact k128 s2 jj q1 q2
    · rw [i3 _ _ (by omega)]; exact a2
    · rw [i3 _ _ (by omega)]; exact f2
  by_cases h2 : kd i = 16 ∨ kd i = 17 ∨ kd i = 18
  · rw [if_pos h2] at h
    have n14 : ¬ kd i = 14 := fun q => by rw [q] at h2; revert h2; decide
    have n15 : ¬ kd i = 15 := fun q => by rw [q] at h2; revert h2; decide
    have go : At g M_Tape_readClause (b + 34) 68 [(0, va_rf (some (gz g + 128))), (1, .int (kd i)), (2, .int (nI (codeOf cs).length))] [] m1 (QI Q) := by
      refine bk_Tape_readClause_68 g ⟨S1.k 128 rfl, gz g + 130, S1.r 128 1 rfl, S1.k 130 rfl, ?_⟩
      rw [a1, nI_clamp (show i + 1 < 2 ^ 31 by omega), (K1.1 (i + 1) hi1).1]
      refine ⟨v30 m1 (i + 1) S1 hi1, ?_⟩
      by_cases h3 : kd (i + 1) = 3
      · rw [if_pos h3] at h ⊢
        have hi2 := hT.lt hi1 (by rw [h3]; decide)
        refine ⟨gz g + 132, S1.r 128 3 rfl, S1.k 132 rfl, by rw [S1.n 132 rfl]; exact vp_in_nI (N := 301) (by omega) (by omega), gz g + 133, K1.2.2, S1.k 133 rfl, ?_⟩
        rw [(K1.1 (i + 1) hi1).2.2 h3]
        refine c_emit g S1 C1 (by omega) (fun m2 s2 C2 i2 => ?_)
        have S2 := s2.sg S1
        refine c_step g S2 hT (K1.st s2) (by rw [i2]; exact a1) hi2 (fun m3 s3 a3 b3 c3 f3 => ?_)
        have S3 := s3.sg S2
        have s13 := (s1.trans s2).trans s3
        refine bk_Tape_readClause_119 g ⟨S3.k 128 rfl, gz g + 133, by rw [s13.1.1]; exact K.2.2, S3.k 133 rfl, ?_⟩
        rw [if_neg n14, if_neg n15]
        refine bk_Tape_readClause_144 g ?_
        rw [if_pos rfl, (C2.same b3 c3).1, List.length_append]
        exact fin (kd i, [vl (i + 1)], (fun _ => (vl (i + 1)).toInt64), [], d1) (i + 2) m3 s13 a3 (by rw [f3, i2, f1]) (C2.same b3 c3) rfl (Option.some.inj h).symm
      · rw [if_neg h3] at h ⊢
        exact err (i + 1) m1 s1 a1 hi1 (Option.some.inj h).symm
    by_cases h16 : kd i = 16
    · rw [if_pos h16]; exact go
    rw [if_neg h16]
    by_cases h17 : kd i = 17
    · rw [if_pos h17]; exact go
    rw [if_neg h17, if_pos ((h2.resolve_left h16).resolve_left h17)]
    exact go
  · rw [if_neg h2] at h
    rw [if_neg (fun q => h2 (Or.inl q)), if_neg (fun q => h2 (Or.inr (Or.inl q))), if_neg (fun q => h2 (Or.inr (Or.inr q)))]
    have h1415 : kd i = 14 ∨ kd i = 15 := by
      obtain ⟨q1, q2⟩ := wi_ne hw
      rw [Int32.lt_iff_toInt_lt] at q1 q2
      have z14 : (14 : Int32).toInt = 14 := rfl
      have z18 : (18 : Int32).toInt = 18 := rfl
      have e : ∀ (z : Int32), (kd i).toInt = z.toInt → kd i = z := fun z hz => Int32.toInt_inj.mp hz
      have q16 : (kd i).toInt ≠ 16 := fun q => h2 (Or.inl (e 16 q))
      have q17 : (kd i).toInt ≠ 17 := fun q => h2 (Or.inr (Or.inl (e 17 q)))
      have q18 : (kd i).toInt ≠ 18 := fun q => h2 (Or.inr (Or.inr (e 18 q)))
      rcases (show (kd i).toInt = 14 ∨ (kd i).toInt = 15 by omega) with q | q
      · exact Or.inl (e 14 q)
      · exact Or.inr (e 15 q)
    rw [show b + 33 = (b + 2) + 31 by omega]
    rcases nx_some h with ⟨e, he, rfl⟩ | ⟨r, hr, hk⟩
    · refine c_sumC g hT hi1 he S1 K1 a1 C1 (by omega) ⟨fun r hr => (by cases hr), fun e2 he2 m2 s2 a2 u2 => ?_⟩
      cases he2
      rw [if_pos rfl]
      exact Perr _ rfl m2 (sl (s1.trans s2)) (k128 (s1.trans s2)) a2
    · obtain ⟨x1, x2, x3⟩ := (ppS_rng hT hi1 hr).2 r rfl
      refine c_sumC g hT hi1 hr S1 K1 a1 C1 (by omega) ⟨fun r2 hr2 m2 s2 a2 C2 f2 => ?_, fun e2 he2 => (by cases he2)⟩
      have hr' : r = r2 := Sum.inl.inj hr2
      subst hr'
      have S2 := s2.sg S1
      have K2 := K1.st s2
      have s12 := s1.trans s2
      show (if (1 : Int32) = 0 then _ else _)
      rw [if_neg (by decide)]
      refine bk_Tape_readClause_119 g ⟨S2.k 128 rfl, gz g + 133, K2.2.2, S2.k 133 rfl, ?_⟩
      rw [C2.1, List.length_append]
      have go : At g M_Tape_readClause (b + 34) 144 [(0, va_rf (some (gz g + 128))), (1, .int (kd i)), (2, .int (nI (codeOf cs).length)), (3, .int (nI ((codeOf cs).length + r.2.1.length)))] [.int (1 : Int32)] m2 (QI Q) := by
        refine bk_Tape_readClause_144 g ?_
        rw [if_neg (by decide)]
        refine ⟨S2.k 128 rfl, gz g + 130, S2.r 128 1 rfl, S2.k 130 rfl, ?_⟩
        rw [a2, nI_clamp (show r.1 < 2 ^ 31 by omega), (K2.1 r.1 x1).1]
        refine ⟨v30 m2 r.1 S2 x1, ?_⟩
        by_cases h19 : kd r.1 = 19
        · rw [if_pos h19] at hk ⊢
          have hr1 := hT.lt x1 (by rw [h19]; decide)
          have hl2 : (codeOf cs ++ r.2.1 ++ []).length ≤ r.1 := by rw [List.append_nil, List.length_append]; omega
          refine en_Tape_readConditions g (bk_Tape_readConditions_2 g ?_)
          rw [if_neg (by decide), if_pos rfl]
          rcases nx_some hk with ⟨e, he, rfl⟩ | ⟨s, hs, hk2⟩
          · refine c_cd g (b := b + 1) hT 400 0 r.1 [] d0 _ (codeOf cs ++ r.2.1) m2 _ hr1 (by omega) (fun _ => rfl) he S2 K2 a2 (by rw [List.append_nil]; exact C2) hl2 ⟨fun r hr => (by cases hr), fun e2 he2 m3 s3 a3 u3 => ?_⟩
            cases he2
            rw [if_pos rfl]
            exact Perr _ rfl m3 (sl (s12.trans s3)) (k128 (s12.trans s3)) a3
          · refine c_cd g (b := b + 1) hT 400 0 r.1 [] d0 _ (codeOf cs ++ r.2.1) m2 _ hr1 (by omega) (fun _ => rfl) hs S2 K2 a2 (by rw [List.append_nil]; exact C2) hl2 ⟨fun s2' hs2 m3 s3 a3 C3 f3 => ?_, fun e2 he2 => (by cases he2)⟩
            have hs' : s = s2' := Sum.inl.inj hs2
            subst hs'
            show (if (1 : Int32) = 0 then _ else _)
            rw [if_neg (by decide)]
            exact fin (kd i, r.2.1, r.2.2, s.2.1, s.2.2) s.1 m3 (s12.trans s3) a3 (by rw [f3, f2, f1]) (by rw [← List.append_assoc]; exact C3) rfl (Option.some.inj hk2).symm
        · rw [if_neg h19] at hk ⊢
          exact fin (kd i, r.2.1, r.2.2, [], d1) r.1 m2 s12 a2 (by rw [f2, f1]) (by show CodeAt g (codeOf cs ++ (r.2.1 ++ [])) m2; rw [List.append_nil]; exact C2) rfl (Option.some.inj hk).symm
      by_cases h14 : kd i = 14
      · rw [if_pos h14]
        exact bk_Tape_readClause_139 g go
      · rw [if_neg h14, if_pos (h1415.resolve_left h14)]
        exact bk_Tape_readClause_139 g go
