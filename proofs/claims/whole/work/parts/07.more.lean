/-! ===== strings, the script, arraycopy; the rules with names for what comes behind ===== -/
section EXT
variable {g : Gc} {M M' : Md} {lv pc : Nat} {lc : List (Nat × Value)} {st : List Value} {m : Mm} {Q : Option Value → Mm → Prop} {n : Nat}
theorem at_alenX {ls0 : Unit} (pc' : Nat) (hp : pc + 1 = pc') (d : decode M.2.1 pc = .ok (.arraylength, 1)) (k : At g M lv pc' lc (.int (nI (gn g)) :: st) m Q) : At g M lv pc lc (va_rf (some (gb g)) :: st) m Q := by
  subst hp
  obtain ⟨r, m', hq, h1, h2, k⟩ := k
  refine ⟨r, m', hq, h1, h2, fun p e s mid args below meth c R c0 s0 H locs ls ha hr hc hs hw hS hl hz => ?_⟩
  have hE := ha.2.2.2.2.2.2.2
  exact va_tlen ha.1 ha.2.1 hE.2.2.2.2.2.2.2 hS rfl d (k p e s mid args below meth c R c0 s0 H locs ls ha hr hc hs hw hS hl hz)
theorem at_ialdX {i : Int32} (pc' : Nat) (hp : pc + 1 = pc') (d : decode M.2.1 pc = .ok (.iaload, 1)) (hi : vp_in i (gn g)) (k : At g M lv pc' lc (.int (gx g i.toNatClampNeg) :: st) m Q) : At g M lv pc lc (.int i :: va_rf (some (gb g)) :: st) m Q := by
  subst hp
  obtain ⟨r, m', hq, h1, h2, k⟩ := k
  refine ⟨r, m', hq, h1, h2, fun p e s mid args below meth c R c0 s0 H locs ls ha hr hc hs hw hS hl hz => ?_⟩
  have hE := ha.2.2.2.2.2.2.2
  exact va_ti ha.1 ha.2.1 hE.2.2.2.2.2.2.2 hS hi rfl d (k p e s mid args below meth c R c0 s0 H locs ls ha hr hc hs hw hS hl hz)
theorem at_alenS {i : Nat} (hi13 : i < 13) (pc' : Nat) (hp : pc + 1 = pc') (d : decode M.2.1 pc = .ok (.arraylength, 1)) (k : At g M lv pc' lc (.int (nI (stLen.getD i 0)) :: st) m Q) : At g M lv pc lc (va_rf (some (gV g i)) :: st) m Q := by
  subst hp
  obtain ⟨r, m', hq, h1, h2, k⟩ := k
  refine ⟨r, m', hq, h1, h2, fun p e s mid args below meth c R c0 s0 H locs ls ha hr hc hs hw hS hl hz => ?_⟩
  have hE := ha.2.2.2.2.2.2.2
  exact va_tlen ha.1 ha.2.1 (hE.2.2.2.2.1 i hi13).2.2.2 hS rfl d (k p e s mid args below meth c R c0 s0 H locs ls ha hr hc hs hw hS hl hz)
theorem at_baldS {i : Nat} (hi13 : i < 13) {j : Int32} (pc' : Nat) (hp : pc + 1 = pc') (d : decode M.2.1 pc = .ok (.baload, 1)) (hj : vp_in j (stLen.getD i 0)) (k : At g M lv pc' lc (.int ((stByt.getD i []).getD j.toNatClampNeg 0) :: st) m Q) : At g M lv pc lc (.int j :: va_rf (some (gV g i)) :: st) m Q := by
  subst hp
  obtain ⟨r, m', hq, h1, h2, k⟩ := k
  refine ⟨r, m', hq, h1, h2, fun p e s mid args below meth c R c0 s0 H locs ls ha hr hc hs hw hS hl hz => ?_⟩
  have hE := ha.2.2.2.2.2.2.2
  exact va_tb ha.1 ha.2.1 (hE.2.2.2.2.1 i hi13).2.2.2 hS hj rfl d (k p e s mid args below meth c R c0 s0 H locs ls ha hr hc hs hw hS hl hz)
theorem at_getSC {i index : Nat} (hi13 : i < 13) (pc' : Nat) (hp : pc + 3 = pc') (d : decode M.2.1 pc = .ok (.getfield index, 3)) (hl : Cond.fieldLink M.1.cls index "java/lang/String" "coder" "B" ∈ tG) (k : At g M lv pc' lc (.int 0 :: st) m Q) : At g M lv pc lc (va_rf (some (gK g i)) :: st) m Q := by
  subst hp
  obtain ⟨r, m', hq, h1, h2, k⟩ := k
  refine ⟨r, m', hq, h1, h2, fun p e s mid args below meth c R c0 s0 H locs ls ha hr hc hs hw hS hlv hz => ?_⟩
  have hE := ha.2.2.2.2.2.2.2
  exact vk_getf ha.1 ha.2.1 (hE.2.2.2.2.1 i hi13).2.1 hS ha.2.2.2.2.1 (hE.1 _ hl args) (fun _ h => h) d (k p e s mid args below meth c R c0 s0 H locs ls ha hr hc hs hw hS hlv hz)
theorem at_getSV {i index : Nat} (hi13 : i < 13) (pc' : Nat) (hp : pc + 3 = pc') (d : decode M.2.1 pc = .ok (.getfield index, 3)) (hl : Cond.fieldLink M.1.cls index "java/lang/String" "value" "[B" ∈ tG) (k : At g M lv pc' lc (va_rf (some (gV g i)) :: st) m Q) : At g M lv pc lc (va_rf (some (gK g i)) :: st) m Q := by
  subst hp
  obtain ⟨r, m', hq, h1, h2, k⟩ := k
  refine ⟨r, m', hq, h1, h2, fun p e s mid args below meth c R c0 s0 H locs ls ha hr hc hs hw hS hlv hz => ?_⟩
  have hE := ha.2.2.2.2.2.2.2
  exact vk_getf ha.1 ha.2.1 (hE.2.2.2.2.1 i hi13).2.2.1 hS ha.2.2.2.2.1 (hE.1 _ hl args) (fun _ h => h) d (k p e s mid args below meth c R c0 s0 H locs ls ha hr hc hs hw hS hlv hz)
theorem at_getCS {index : Nat} (pc' : Nat) (hp : pc + 3 = pc') (d : decode M.2.1 pc = .ok (.getstatic index, 3)) (hl : Cond.fieldLink M.1.cls index "java/lang/String" "COMPACT_STRINGS" "Z" ∈ tG) (k : At g M lv pc' lc (.int 1 :: st) m Q) : At g M lv pc lc st m Q := by
  subst hp
  obtain ⟨r, m', hq, h1, h2, k⟩ := k
  refine ⟨r, m', hq, h1, h2, fun p e s mid args below meth c R c0 s0 H locs ls ha hr hc hs hw hS hlv hz => ?_⟩
  have hE := ha.2.2.2.2.2.2.2
  exact va_gets ha.1 ha.2.1 hE.2.2.2.2.2.2.1.1 hS ha.2.2.2.2.1 (hE.1 _ hl args) (fun _ h => h) d (k p e s mid args below meth c R c0 s0 H locs ls ha hr hc hs hw hS hlv hz)
/-- a call of a string constant's own method -/
theorem at_callVS (hM : MB M' n) (hcls : M'.1.cls = "java/lang/String") (hin : Cond.instanceMethod M'.1 ∈ tG) (hsel : Cond.selects M'.1.cls M'.1 M'.1 ∈ tG) {i : Nat} (hi13 : i < 13) {index : Nat} (hl : Cond.methodLink M.1.cls index M'.1 ∈ tG) (As rest : List Value) (hst : st = As.reverse ++ va_rf (some (gK g i)) :: rest) (hn : As.length = n) (hrest : (rest.map fun v => v.category).sum ≤ 8) (pc' : Nat) (hp : pc + 3 = pc') (d : decode M.2.1 pc = .ok (.invokevirtual index, 3)) (k : Call g M' lv (va_rf (some (gK g i)) :: As) m (fun r m1 => At g M (lv + 1) pc' lc (r.toList ++ rest) m1 Q)) : At g M (lv + 1) pc lc st m Q := by
  subst hp
  obtain ⟨r1, m1, ⟨r, m', hq, h1, h2, k⟩, c1, c2, hMet⟩ := k
  refine ⟨r, m', hq, Nat.le_trans c1 h1, ⟨Nat.le_trans c2.1 h2.1, c2.2.trans h2.2⟩, fun p e s mid args below meth c R c0 s0 H locs ls ha hr hc hs hw hS hlv hz => ?_⟩
  have hE := ha.2.2.2.2.2.2.2
  obtain ⟨cellB, g1, g2, g3, -⟩ := (hE.2.2.2.2.1 i hi13).1.kept hS.2.1
  refine W.ofRun (va_runV (b := gK g i) (g := F0 mid pc ls st) (As := As) (rest := rest) (Ts := tG) (nL := M.2.2.1) ⟨ha.1, ha.2.1, ha.2.2.2.1, ha.2.2.2.2.1, fun w hw => hE.1 w hw args⟩ hMet ⟨CallB_mk ha hr.1 hr.2.1 hM hl, hE.1 _ hin args, hE.1 _ hsel args⟩ ⟨PX_blind _ _ _, ⟨cellB, g1, g2, by rw [hcls]; exact g3⟩, PX_at ha hw hS⟩ rfl hn hlv.1 hst (lv_room (rest := st) hrest) d ⟨by omega, by omega⟩) hS (Rn.call ⟨h1, h2, k⟩ ha hr hc hs c1 c2.1 hz hlv)
theorem at_copyI {a0 a index : Nat} {sp dp nn : Int32} (pc' : Nat) (hp : pc + 3 = pc') (d : decode M.2.1 pc = .ok (.invokestatic index, 3)) (hl : Cond.methodLink M.1.cls index arraycopyName ∈ tG) (hnat : Cond.native arraycopyName ∈ tG) (hstt : Cond.static arraycopyName ∈ tG) (hini : Cond.initialized "java/lang/System" ∈ tG) (hk0 : mK m a0 = 15) (hk : mK m a = 15) (b1 : ¬ sp < 0) (b2 : ¬ dp < 0) (b3 : ¬ nn < 0) (b4 : sp.toNatClampNeg + nn.toNatClampNeg ≤ mN m a0) (b5 : dp.toNatClampNeg + nn.toNatClampNeg ≤ mN m a) (hrest : (st.map fun v => v.category).sum ≤ 8)
    (k : ∀ mm, mm = rI m a (va_cpy (mI m a0) (mI m a) sp.toNatClampNeg dp.toNatClampNeg nn.toNatClampNeg) → At g M (lv + 1) pc' lc st mm Q) : At g M (lv + 1) pc lc (.int nn :: .int dp :: va_rf (some a) :: .int sp :: va_rf (some a0) :: st) m Q := by
  subst hp
  have k := k _ rfl
  obtain ⟨r, m', hq, h1, h2, k⟩ := k
  refine ⟨r, m', hq, h1, h2, fun p e s mid args below meth c R c0 s0 H locs ls ha hr hc hs hw hS hlv hz => ?_⟩
  have hE := ha.2.2.2.2.2.2.2
  have hset : (wld g m).set (a - gz g) (a, .inl (gy g 1, mN m a, .inl (va_cpy (mI m a0) (mI m a) sp.toNatClampNeg dp.toNatClampNeg nn.toNatClampNeg))) = wld g (rI m a (va_cpy (mI m a0) (mI m a) sp.toNatClampNeg dp.toNatClampNeg nn.toNatClampNeg)) := by
    refine wld_set (m := m) (m' := rI m a (va_cpy (mI m a0) (mI m a) sp.toNatClampNeg dp.toNatClampNeg nn.toNatClampNeg)) (hw.z hk (by decide)) rfl rfl (fun b hb => ⟨by show va_up _ _ _ _ = _; simp [va_up, hb, mI], rfl, rfl, rfl⟩) ?_
    rw [hk]
    refine congrArg (fun f => (Sum.inl (gy g 1, mN m a, .inl (f)) : va_E)) (?_ : va_up (mI m) a (va_cpy (mI m a0) (mI m a) sp.toNatClampNeg dp.toNatClampNeg nn.toNatClampNeg) a = _)
    simp [va_up]
  have hnw : nativeFrameWords "java/lang/System" "arraycopy" 5 ≤ 40 := by decide +kernel
  refine va_copyi (D := gD g) (cl := vwCl) (tys := gT g) (ws := wld g m) (A := gA g) (H0 := s.heap) ha.1 ha.2.1 (by rw [ha.2.2.2.1]; exact hlv.1.symm) ha.2.2.2.2.1 (hE.1 _ hl args) (hE.1 _ hnat args) (hE.1 _ hstt args) (hE.1 _ hini args) hE.2.2.2.1 hw.2.2 (wld_D g m) hS (a0 - gz g) (a - gz g) 1 1 (wld_get hw hk0 (by decide)) (wld_get hw hk (by decide)) rfl rfl rfl b1 b2 b3 b4 b5 (fun i _ => rfl) (by omega) (by omega) d (fun H1 locs1 hP1 hD1 hS1 => ?_)
  rw [hset] at hP1
  exact Rn.put (m := m) ⟨h1, h2, k⟩ ha hr hc hs hw hz rfl rfl rfl hP1 hS1 hlv
theorem at_copyL {a0 a index : Nat} {sp dp nn : Int32} (pc' : Nat) (hp : pc + 3 = pc') (d : decode M.2.1 pc = .ok (.invokestatic index, 3)) (hl : Cond.methodLink M.1.cls index arraycopyName ∈ tG) (hnat : Cond.native arraycopyName ∈ tG) (hstt : Cond.static arraycopyName ∈ tG) (hini : Cond.initialized "java/lang/System" ∈ tG) (hk0 : mK m a0 = 16) (hk : mK m a = 16) (b1 : ¬ sp < 0) (b2 : ¬ dp < 0) (b3 : ¬ nn < 0) (b4 : sp.toNatClampNeg + nn.toNatClampNeg ≤ mN m a0) (b5 : dp.toNatClampNeg + nn.toNatClampNeg ≤ mN m a) (hrest : (st.map fun v => v.category).sum ≤ 8)
    (k : ∀ mm, mm = rL m a (va_cpy (mL m a0) (mL m a) sp.toNatClampNeg dp.toNatClampNeg nn.toNatClampNeg) → At g M (lv + 1) pc' lc st mm Q) : At g M (lv + 1) pc lc (.int nn :: .int dp :: va_rf (some a) :: .int sp :: va_rf (some a0) :: st) m Q := by
  subst hp
  have k := k _ rfl
  obtain ⟨r, m', hq, h1, h2, k⟩ := k
  refine ⟨r, m', hq, h1, h2, fun p e s mid args below meth c R c0 s0 H locs ls ha hr hc hs hw hS hlv hz => ?_⟩
  have hE := ha.2.2.2.2.2.2.2
  have hset : (wld g m).set (a - gz g) (a, .inl (gy g 2, mN m a, .inr (.inl (va_cpy (mL m a0) (mL m a) sp.toNatClampNeg dp.toNatClampNeg nn.toNatClampNeg)))) = wld g (rL m a (va_cpy (mL m a0) (mL m a) sp.toNatClampNeg dp.toNatClampNeg nn.toNatClampNeg)) := by
    refine wld_set (m := m) (m' := rL m a (va_cpy (mL m a0) (mL m a) sp.toNatClampNeg dp.toNatClampNeg nn.toNatClampNeg)) (hw.z hk (by decide)) rfl rfl (fun b hb => ⟨rfl, by show va_up _ _ _ _ = _; simp [va_up, hb, mL], rfl, rfl⟩) ?_
    rw [hk]
    refine congrArg (fun f => (Sum.inl (gy g 2, mN m a, .inr (.inl (f))) : va_E)) (?_ : va_up (mL m) a (va_cpy (mL m a0) (mL m a) sp.toNatClampNeg dp.toNatClampNeg nn.toNatClampNeg) a = _)
    simp [va_up]
  have hnw : nativeFrameWords "java/lang/System" "arraycopy" 5 ≤ 40 := by decide +kernel
  refine va_copyl (D := gD g) (cl := vwCl) (tys := gT g) (ws := wld g m) (A := gA g) (H0 := s.heap) ha.1 ha.2.1 (by rw [ha.2.2.2.1]; exact hlv.1.symm) ha.2.2.2.2.1 (hE.1 _ hl args) (hE.1 _ hnat args) (hE.1 _ hstt args) (hE.1 _ hini args) hE.2.2.2.1 hw.2.2 (wld_D g m) hS (a0 - gz g) (a - gz g) 2 2 (wld_get hw hk0 (by decide)) (wld_get hw hk (by decide)) rfl rfl rfl b1 b2 b3 b4 b5 (fun i _ => rfl) (by omega) (by omega) d (fun H1 locs1 hP1 hD1 hS1 => ?_)
  rw [hset] at hP1
  exact Rn.put (m := m) ⟨h1, h2, k⟩ ha hr hc hs hw hz rfl rfl rfl hP1 hS1 hlv
theorem let_m {mm : Mm} {P : Mm → Prop} (k : ∀ x, x = mm → P x) : P mm := k mm rfl
end EXT
