/-! ===== reference arrays, lengths, new cells, calls ===== -/
section HEAP2
variable {g : Gc} {M : Md} {lv pc : Nat} {lc : List (Nat × Value)} {st : List Value} {m : Mm} {Q : Option Value → Mm → Prop}
theorem at_aastBank {a b : Nat} {i : Int32} (pc' : Nat) (hp : pc + 1 = pc') (d : decode M.2.1 pc = .ok (.aastore, 1)) (hk : mK m a = 18) (hi : vp_in i (mN m a)) (hold : mR m a i.toNatClampNeg = none) (hb : mK m b = 1) (k : ∀ mm, mm = sR m a i.toNatClampNeg (some b) → At g M lv pc' lc st mm Q) : At g M lv pc lc (va_rf (some b) :: .int i :: va_rf (some a) :: st) m Q := by
  subst hp
  have k := k _ rfl
  obtain ⟨r, m', hq, h1, h2, k⟩ := k
  refine ⟨r, m', hq, h1, ⟨h2.1, (Ext.sR (m := m) _ (Or.inr hold)).trans h2.2⟩, fun p e s mid args below meth c R c0 s0 H locs ls ha hr hc hs hw hS hl hz => ?_⟩
  have hE := ha.2.2.2.2.2.2.2
  have hset : (wld g m).set (a - gz g) (a, .inl (gy g 4, mN m a, .inr (.inr (.inr (.inr (va_up (mR m a) i.toNatClampNeg (some b))))))) = wld g (sR m a i.toNatClampNeg (some b)) := by
    refine wld_set (m := m) (m' := sR m a i.toNatClampNeg (some b)) (hw.z hk (by decide)) rfl rfl (fun b hb => ⟨rfl, rfl, by show up2 _ _ _ _ _ = _; exact up2_ne hb, rfl⟩) ?_
    rw [hk]
    exact congrArg (fun f => (Sum.inl (gy g 4, mN m a, .inr (.inr (.inr (.inr f)))) : va_E)) (up2_eq (mR m) a i.toNatClampNeg (some b))
  refine va_astq (D := gD g) (cl := vwCl) (tys := gT g) (ws := wld g m) (A := gA g) (H0 := s.heap) ha.1 ha.2.1 hE.2.2.2.1 hw.2.2 (wld_D g m) hS (a - gz g) 4 (b - gz g) 0 (r := (RX0, TX0, nf 0)) (wld_get hw hk (by decide)) rfl (obj_get hw (by decide) hb) rfl hi d (fun H1 locs1 hP1 hD1 hS1 => ?_)
  rw [hset] at hP1
  exact Rn.put (m := m) ⟨h1, h2, k⟩ ha hr hc hs hw hz rfl rfl rfl hP1 hS1 hl
theorem at_aastGrower {a b : Nat} {i : Int32} (pc' : Nat) (hp : pc + 1 = pc') (d : decode M.2.1 pc = .ok (.aastore, 1)) (hk : mK m a = 19) (hi : vp_in i (mN m a)) (hold : mR m a i.toNatClampNeg = none) (hb : mK m b = 2) (k : ∀ mm, mm = sR m a i.toNatClampNeg (some b) → At g M lv pc' lc st mm Q) : At g M lv pc lc (va_rf (some b) :: .int i :: va_rf (some a) :: st) m Q := by
  subst hp
  have k := k _ rfl
  obtain ⟨r, m', hq, h1, h2, k⟩ := k
  refine ⟨r, m', hq, h1, ⟨h2.1, (Ext.sR (m := m) _ (Or.inr hold)).trans h2.2⟩, fun p e s mid args below meth c R c0 s0 H locs ls ha hr hc hs hw hS hl hz => ?_⟩
  have hE := ha.2.2.2.2.2.2.2
  have hset : (wld g m).set (a - gz g) (a, .inl (gy g 5, mN m a, .inr (.inr (.inr (.inr (va_up (mR m a) i.toNatClampNeg (some b))))))) = wld g (sR m a i.toNatClampNeg (some b)) := by
    refine wld_set (m := m) (m' := sR m a i.toNatClampNeg (some b)) (hw.z hk (by decide)) rfl rfl (fun b hb => ⟨rfl, rfl, by show up2 _ _ _ _ _ = _; exact up2_ne hb, rfl⟩) ?_
    rw [hk]
    exact congrArg (fun f => (Sum.inl (gy g 5, mN m a, .inr (.inr (.inr (.inr f)))) : va_E)) (up2_eq (mR m) a i.toNatClampNeg (some b))
  refine va_astq (D := gD g) (cl := vwCl) (tys := gT g) (ws := wld g m) (A := gA g) (H0 := s.heap) ha.1 ha.2.1 hE.2.2.2.1 hw.2.2 (wld_D g m) hS (a - gz g) 5 (b - gz g) 1 (r := (RX1, TX1, nf 1)) (wld_get hw hk (by decide)) rfl (obj_get hw (by decide) hb) rfl hi d (fun H1 locs1 hP1 hD1 hS1 => ?_)
  rw [hset] at hP1
  exact Rn.put (m := m) ⟨h1, h2, k⟩ ha hr hc hs hw hz rfl rfl rfl hP1 hS1 hl
theorem at_aastLaw {a b : Nat} {i : Int32} (pc' : Nat) (hp : pc + 1 = pc') (d : decode M.2.1 pc = .ok (.aastore, 1)) (hk : mK m a = 20) (hi : vp_in i (mN m a))  (hb : mK m b = 5) (k : ∀ mm, mm = sR m a i.toNatClampNeg (some b) → At g M lv pc' lc st mm Q) : At g M lv pc lc (va_rf (some b) :: .int i :: va_rf (some a) :: st) m Q := by
  subst hp
  have k := k _ rfl
  obtain ⟨r, m', hq, h1, h2, k⟩ := k
  refine ⟨r, m', hq, h1, ⟨h2.1, (Ext.sR (m := m) _ (Or.inl (by rw [hk]; rfl))).trans h2.2⟩, fun p e s mid args below meth c R c0 s0 H locs ls ha hr hc hs hw hS hl hz => ?_⟩
  have hE := ha.2.2.2.2.2.2.2
  have hset : (wld g m).set (a - gz g) (a, .inl (gy g 6, mN m a, .inr (.inr (.inr (.inr (va_up (mR m a) i.toNatClampNeg (some b))))))) = wld g (sR m a i.toNatClampNeg (some b)) := by
    refine wld_set (m := m) (m' := sR m a i.toNatClampNeg (some b)) (hw.z hk (by decide)) rfl rfl (fun b hb => ⟨rfl, rfl, by show up2 _ _ _ _ _ = _; exact up2_ne hb, rfl⟩) ?_
    rw [hk]
    exact congrArg (fun f => (Sum.inl (gy g 6, mN m a, .inr (.inr (.inr (.inr f)))) : va_E)) (up2_eq (mR m) a i.toNatClampNeg (some b))
  refine va_astq (D := gD g) (cl := vwCl) (tys := gT g) (ws := wld g m) (A := gA g) (H0 := s.heap) ha.1 ha.2.1 hE.2.2.2.1 hw.2.2 (wld_D g m) hS (a - gz g) 6 (b - gz g) 4 (r := (RX4, TX4, nf 4)) (wld_get hw hk (by decide)) rfl (obj_get hw (by decide) hb) rfl hi d (fun H1 locs1 hP1 hD1 hS1 => ?_)
  rw [hset] at hP1
  exact Rn.put (m := m) ⟨h1, h2, k⟩ ha hr hc hs hw hz rfl rfl rfl hP1 hS1 hl
theorem at_aastReceipt {a b : Nat} {i : Int32} (pc' : Nat) (hp : pc + 1 = pc') (d : decode M.2.1 pc = .ok (.aastore, 1)) (hk : mK m a = 21) (hi : vp_in i (mN m a))  (hb : mK m b = 7) (k : ∀ mm, mm = sR m a i.toNatClampNeg (some b) → At g M lv pc' lc st mm Q) : At g M lv pc lc (va_rf (some b) :: .int i :: va_rf (some a) :: st) m Q := by
  subst hp
  have k := k _ rfl
  obtain ⟨r, m', hq, h1, h2, k⟩ := k
  refine ⟨r, m', hq, h1, ⟨h2.1, (Ext.sR (m := m) _ (Or.inl (by rw [hk]; rfl))).trans h2.2⟩, fun p e s mid args below meth c R c0 s0 H locs ls ha hr hc hs hw hS hl hz => ?_⟩
  have hE := ha.2.2.2.2.2.2.2
  have hset : (wld g m).set (a - gz g) (a, .inl (gy g 7, mN m a, .inr (.inr (.inr (.inr (va_up (mR m a) i.toNatClampNeg (some b))))))) = wld g (sR m a i.toNatClampNeg (some b)) := by
    refine wld_set (m := m) (m' := sR m a i.toNatClampNeg (some b)) (hw.z hk (by decide)) rfl rfl (fun b hb => ⟨rfl, rfl, by show up2 _ _ _ _ _ = _; exact up2_ne hb, rfl⟩) ?_
    rw [hk]
    exact congrArg (fun f => (Sum.inl (gy g 7, mN m a, .inr (.inr (.inr (.inr f)))) : va_E)) (up2_eq (mR m) a i.toNatClampNeg (some b))
  refine va_astq (D := gD g) (cl := vwCl) (tys := gT g) (ws := wld g m) (A := gA g) (H0 := s.heap) ha.1 ha.2.1 hE.2.2.2.1 hw.2.2 (wld_D g m) hS (a - gz g) 7 (b - gz g) 6 (r := (RX6, TX6, nf 6)) (wld_get hw hk (by decide)) rfl (obj_get hw (by decide) hb) rfl hi d (fun H1 locs1 hP1 hD1 hS1 => ?_)
  rw [hset] at hP1
  exact Rn.put (m := m) ⟨h1, h2, k⟩ ha hr hc hs hw hz rfl rfl rfl hP1 hS1 hl
theorem Ext.nw {m : Mm} {q : Nat} (h0 : mK m q = 0) (k n sz : Nat) : Ext m (nw m q k n sz) := fun a ha => by
  have h : a ≠ q := fun e => ha (by rw [e]; exact h0)
  refine ⟨by show va_up _ _ _ _ = _; simp [va_up, h], by show va_up _ _ _ _ = _; simp [va_up, h], fun j b _ hr => ?_⟩
  show va_up (mR m) q (fun _ => none) a j = some b
  simp only [va_up, if_neg h]
  exact hr
/-- the length of an array -/
theorem at_alen {a : Nat} {kd : Nat} (pc' : Nat) (hp : pc + 1 = pc') (d : decode M.2.1 pc = .ok (.arraylength, 1)) (hk : mK m a = kd) (hkd : kd = 14 ∨ kd = 15 ∨ kd = 16 ∨ kd = 17 ∨ kd = 18 ∨ kd = 19 ∨ kd = 20 ∨ kd = 21) (k : At g M lv pc' lc (.int (nI (mN m a)) :: st) m Q) : At g M lv pc lc (va_rf (some a) :: st) m Q := by
  subst hp
  obtain ⟨r, m', hq, h1, h2, k⟩ := k
  refine ⟨r, m', hq, h1, h2, fun p e s mid args below meth c R c0 s0 H locs ls ha hr hc hs hw hS hl hz => ?_⟩
  have hE := ha.2.2.2.2.2.2.2
  have kk := k p e s mid args below meth c R c0 s0 H locs ls ha hr hc hs hw hS hl hz
  rcases hkd with rfl | rfl | rfl | rfl | rfl | rfl | rfl | rfl
  · exact va_alen (D := gD g) (cl := vwCl) (tys := gT g) (ws := wld g m) ha.1 ha.2.1 hE.2.2.2.1 hw.2.2 (a - gz g) 0 (wld_get hw hk (by decide)) rfl rfl d kk
  · exact va_alen (D := gD g) (cl := vwCl) (tys := gT g) (ws := wld g m) ha.1 ha.2.1 hE.2.2.2.1 hw.2.2 (a - gz g) 1 (wld_get hw hk (by decide)) rfl rfl d kk
  · exact va_alen (D := gD g) (cl := vwCl) (tys := gT g) (ws := wld g m) ha.1 ha.2.1 hE.2.2.2.1 hw.2.2 (a - gz g) 2 (wld_get hw hk (by decide)) rfl rfl d kk
  · exact va_alen (D := gD g) (cl := vwCl) (tys := gT g) (ws := wld g m) ha.1 ha.2.1 hE.2.2.2.1 hw.2.2 (a - gz g) 3 (wld_get hw hk (by decide)) rfl rfl d kk
  · exact va_alen (D := gD g) (cl := vwCl) (tys := gT g) (ws := wld g m) ha.1 ha.2.1 hE.2.2.2.1 hw.2.2 (a - gz g) 4 (wld_get hw hk (by decide)) rfl rfl d kk
  · exact va_alen (D := gD g) (cl := vwCl) (tys := gT g) (ws := wld g m) ha.1 ha.2.1 hE.2.2.2.1 hw.2.2 (a - gz g) 5 (wld_get hw hk (by decide)) rfl rfl d kk
  · exact va_alen (D := gD g) (cl := vwCl) (tys := gT g) (ws := wld g m) ha.1 ha.2.1 hE.2.2.2.1 hw.2.2 (a - gz g) 6 (wld_get hw hk (by decide)) rfl rfl d kk
  · exact va_alen (D := gD g) (cl := vwCl) (tys := gT g) (ws := wld g m) ha.1 ha.2.1 hE.2.2.2.1 hw.2.2 (a - gz g) 7 (wld_get hw hk (by decide)) rfl rfl d kk
/-- behind a new cell: the new world -/
theorem Wd.push {H H1 : Heap} {kd n sz : Nat} (hw : Wd g m H) (h0 : kd ≠ 0) (hz : H1.size = H.size + 1) (ho : ∀ q, q < H.size → H1[q]? = H[q]?) (hat : va_at (gD g) vwCl (gz g + mC m, entK g (nw m (gz g + mC m) kd n sz) (gz g + mC m) kd) H1) : Wd g (nw m (gz g + mC m) kd n sz) H1 := by
  have hC : mC (nw m (gz g + mC m) kd n sz) = mC m + 1 := rfl
  have hKn : ∀ a, mK (nw m (gz g + mC m) kd n sz) a = if a = gz g + mC m then kd else mK m a := fun a => rfl
  refine ⟨by rw [hz, hw.1, hC]; omega, fun a h => ?_, fun k q hq => ?_⟩
  · rw [hKn] at h
    rw [hC]
    by_cases ha : a = gz g + mC m
    · omega
    · rw [if_neg ha] at h
      have := hw.2.1 a h
      omega
  · have hk : k < mC m + 1 := by
      have := (List.getElem?_eq_some_iff.mp hq).1
      rwa [wld_len, hC] at this
    rw [wld_at g _ (by rw [hC]; exact hk)] at hq
    cases hq
    by_cases hkm : k = mC m
    · subst hkm
      rw [hKn, if_pos rfl]
      exact hat
    · have h1 : gz g + k ≠ gz g + mC m := by omega
      rw [hKn, if_neg h1, ent_congr (m := m) g _ (by show va_up _ _ _ _ = _; simp [va_up, hkm, mI]) (by show va_up _ _ _ _ = _; simp [va_up, hkm, mL]) (by show va_up _ _ _ _ = _; simp [va_up, hkm, mR]) (by show va_up _ _ _ _ = _; simp [va_up, hkm, mN])]
      have hk2 : k < mC m := by omega
      exact (hw.2.2 k _ (wld_at g m hk2)).kept (ho _ (by rw [hw.1]; omega))
theorem Rn.new {r : Option Value} {m' : Mm} {pc2 kd n sz : Nat} {lc' : List (Nat × Value)} {st' : List Value} (k : Rn g M lv r m' pc2 lc' st' (nw m (gz g + mC m) kd n sz)) {p : Program} {e : Env} {s : State} {mid : MethodId} {args : Array Value} {below : List Frame} {meth : Method} {c : Code} {R : Room} {c0 s0 : Nat} {H1 : Heap} {locs : List Loc} {ls : Array Slot}
    (ha : Act g M p s mid meth c) (hr : lv ≤ R.frames ∧ 64 * lv ≤ R.locals ∧ mC m' - c0 ≤ R.cells ∧ mS m' - s0 ≤ R.slots) (hc : c0 ≤ mC m) (hs : s0 ≤ mS m) (hw : Wd g (nw m (gz g + mC m) kd n sz) H1) (hz : s.heap.size = gz g + c0) (hS : va_S (gA g) s.heap H1 locs) (hl : lv_has ls M.2.2.1 lc') :
    W p (gl g) e R s mid args below meth c H1 locs (mC m - c0 + 1) (mS m - s0 + sz) (MQ below (QX g r m') args s (mC m' - c0) (mS m' - s0) (gA g)) (F0 mid pc2 ls st') := by
  have hC : mC (nw m (gz g + mC m) kd n sz) = mC m + 1 := rfl
  have hSz : mS (nw m (gz g + mC m) kd n sz) = mS m + sz := rfl
  have := k.2.2 p e s mid args below meth c R c0 s0 H1 locs ls ha hr (by omega) (by omega) hw hS hl hz
  rw [hC, hSz, show mC m + 1 - c0 = mC m - c0 + 1 by omega, show mS m + sz - s0 = mS m - s0 + sz by omega] at this
  exact this
theorem S_push {s : State} {H H1 : Heap} {locs : List Loc} (hS : va_S (gA g) s.heap H locs) (hz : H1.size = H.size + 1) (ho : ∀ q, q < H.size → H1[q]? = H[q]?) : va_S (gA g) s.heap H1 locs :=
  ⟨Nat.le_trans hS.1 (by omega), fun q h1 h2 => (ho q (Nat.lt_of_lt_of_le h1 hS.1)).trans (hS.2.1 q h1 h2), hS.2.2⟩
theorem at_new {ci : Nat} {C : String} {T : u_T} {ty : Nat → FieldType} {N : Nat} (hC : Cok ci C T ty N) {index : Nat} (pc' : Nat) (hp : pc + 3 = pc') (h0 : mK m (gz g + mC m) = 0) (d : decode M.2.1 pc = .ok (.new index, 3)) (hcl : Cond.classLink M.1.cls index C ∈ tG) (hin : Cond.instantiable C N ∈ tG) (hini : Cond.initialized C ∈ tG) (k : ∀ qq mm, qq = gz g + mC m → mm = nw m qq (ci + 1) 0 N → At g M lv pc' lc (va_rf (some qq) :: st) mm Q) : At g M lv pc lc st m Q := by
  subst hp
  have k := k _ _ rfl rfl
  obtain ⟨r, m', hq, h1, h2, k⟩ := k
  have hC1 : mC (nw m (gz g + mC m) (ci + 1) 0 N) = mC m + 1 := rfl
  have hS1 : mS (nw m (gz g + mC m) (ci + 1) 0 N) = mS m + N := rfl
  refine ⟨r, m', hq, by omega, ⟨by have := h2.1; omega, (Ext.nw h0 _ _ _).trans h2.2⟩, fun p e s mid args below meth c R c0 s0 H locs ls ha hr hc hs hw hS hl hz => ?_⟩
  have hE := ha.2.2.2.2.2.2.2
  obtain ⟨c1, c2, c3, c4, c5, c6, c7⟩ := hC
  have hKn := hE.2.2.2.1.1 ci _ c1
  refine W.newcK ha.1 ha.2.1 ha.2.2.2.2.1 (hE.1 _ hcl args) (hE.1 _ hin args) (hE.1 _ hini args) rfl d (by omega) (by omega) hKn.2.1 hw.1 fun H1 kC hkC e1 z1 o1 => ?_
  rw [← hw.1] at o1 z1
  have hW1 : Wd g (nw m (gz g + mC m) (ci + 1) 0 N) H1 := by
    refine Wd.push hw (by omega) z1 o1 ?_
    rw [entK_obj g _ _ c6]
    refine ⟨_, c1, (u_born ty (fun w hw => hE.1 w hw args) c2 hKn hkC e1 c4).to ?_⟩
    intro j hj
    show defaultValue (ty j) = vp_V _ j
    rw [c7 j hj]
    show _ = (flds _ _ ci).getD j .null
    rw [List.getD_eq_getElem?_getD, flds_get _ _ (by omega)]
    show _ = fv _ _ j (ft ci j)
    rcases hft : ft ci j with _ | _ | t <;> simp [fv, mI, mL, mR, nw, va_up, va_rf]
  exact Rn.new ⟨h1, h2, k⟩ ha hr hc hs hW1 hz (S_push hS z1 o1) hl
theorem at_newaB {n : Int32} (pc' : Nat) (hp : pc + 2 = pc') (h0 : mK m (gz g + mC m) = 0) (d : decode M.2.1 pc = .ok (.newarray .byte, 2)) (hac : Cond.arrayClass .byte ∈ tG) (hn : ¬ n < 0) (hb : n.toNatClampNeg ≤ 10000) (k : ∀ qq mm, qq = gz g + mC m → mm = nw m qq 14 n.toNatClampNeg n.toNatClampNeg → At g M lv pc' lc (va_rf (some qq) :: st) mm Q) : At g M lv pc lc (.int n :: st) m Q := by
  subst hp
  have k := k _ _ rfl rfl
  obtain ⟨r, m', hq, h1, h2, k⟩ := k
  have hC1 : mC (nw m (gz g + mC m) 14 n.toNatClampNeg n.toNatClampNeg) = mC m + 1 := rfl
  have hS1 : mS (nw m (gz g + mC m) 14 n.toNatClampNeg n.toNatClampNeg) = mS m + n.toNatClampNeg := rfl
  refine ⟨r, m', hq, by omega, ⟨by have := h2.1; omega, (Ext.nw h0 _ _ _).trans h2.2⟩, fun p e s mid args below meth c R c0 s0 H locs ls ha hr hc hs hw hS hl hz => ?_⟩
  have hE := ha.2.2.2.2.2.2.2
  have hbt : n.toNatClampNeg * componentBytes (newarray.typeOf .byte) ≤ 536870912 := by
    rw [show componentBytes (newarray.typeOf .byte) = 1 from rfl]
    omega
  have hfc2 : s.vm.findClass ("[" ++ (newarray.typeOf .byte).toString) = some (gy g 0) := (hE.2.2.2.1.2 0 (gy g 0, .byte) rfl).2
  have hac2 : (Cond.arrayClass (newarray.typeOf .byte)).before args s = true := hE.1 _ hac args
  have hcc : mC m - c0 + 1 ≤ R.cells := by omega
  have hss : mS m - s0 + n.toNatClampNeg ≤ R.slots := by omega
  refine va_newaK (N := n.toNatClampNeg) (n := n) (h := gz g + mC m) (g := F0 mid pc ls (.int n :: st)) (rest := st) ha.1 ha.2.1 hac2 rfl d rfl hn rfl hbt hcc hss hw.1 ?_
  intro H1 cA e1 z1 o1 hAr hfc
  rw [← hw.1] at o1 z1
  have hcA : cA = gy g 0 := Option.some.inj (hfc.symm.trans hfc2)
  subst hcA
  have hW1 : Wd g (nw m (gz g + mC m) 14 n.toNatClampNeg n.toNatClampNeg) H1 := by
    refine Wd.push hw (by decide) z1 o1 ?_
    show H1[gz g + mC m]? = some (vp_cell _ _)
    rw [e1]
    simp [entK, mN, mI, mL, nw, va_up, vp_cell_i, vp_cell_l, newarray.typeOf, defaultValue]
  exact Rn.new ⟨h1, h2, k⟩ ha hr hc hs hW1 hz (S_push hS z1 o1) hl
theorem at_newaI {n : Int32} (pc' : Nat) (hp : pc + 2 = pc') (h0 : mK m (gz g + mC m) = 0) (d : decode M.2.1 pc = .ok (.newarray .int, 2)) (hac : Cond.arrayClass .int ∈ tG) (hn : ¬ n < 0) (hb : n.toNatClampNeg ≤ 10000) (k : ∀ qq mm, qq = gz g + mC m → mm = nw m qq 15 n.toNatClampNeg n.toNatClampNeg → At g M lv pc' lc (va_rf (some qq) :: st) mm Q) : At g M lv pc lc (.int n :: st) m Q := by
  subst hp
  have k := k _ _ rfl rfl
  obtain ⟨r, m', hq, h1, h2, k⟩ := k
  have hC1 : mC (nw m (gz g + mC m) 15 n.toNatClampNeg n.toNatClampNeg) = mC m + 1 := rfl
  have hS1 : mS (nw m (gz g + mC m) 15 n.toNatClampNeg n.toNatClampNeg) = mS m + n.toNatClampNeg := rfl
  refine ⟨r, m', hq, by omega, ⟨by have := h2.1; omega, (Ext.nw h0 _ _ _).trans h2.2⟩, fun p e s mid args below meth c R c0 s0 H locs ls ha hr hc hs hw hS hl hz => ?_⟩
  have hE := ha.2.2.2.2.2.2.2
  have hbt : n.toNatClampNeg * componentBytes (newarray.typeOf .int) ≤ 536870912 := by
    rw [show componentBytes (newarray.typeOf .int) = 4 from rfl]
    omega
  have hfc2 : s.vm.findClass ("[" ++ (newarray.typeOf .int).toString) = some (gy g 1) := (hE.2.2.2.1.2 1 (gy g 1, .int) rfl).2
  have hac2 : (Cond.arrayClass (newarray.typeOf .int)).before args s = true := hE.1 _ hac args
  have hcc : mC m - c0 + 1 ≤ R.cells := by omega
  have hss : mS m - s0 + n.toNatClampNeg ≤ R.slots := by omega
  refine va_newaK (N := n.toNatClampNeg) (n := n) (h := gz g + mC m) (g := F0 mid pc ls (.int n :: st)) (rest := st) ha.1 ha.2.1 hac2 rfl d rfl hn rfl hbt hcc hss hw.1 ?_
  intro H1 cA e1 z1 o1 hAr hfc
  rw [← hw.1] at o1 z1
  have hcA : cA = gy g 1 := Option.some.inj (hfc.symm.trans hfc2)
  subst hcA
  have hW1 : Wd g (nw m (gz g + mC m) 15 n.toNatClampNeg n.toNatClampNeg) H1 := by
    refine Wd.push hw (by decide) z1 o1 ?_
    show H1[gz g + mC m]? = some (vp_cell _ _)
    rw [e1]
    simp [entK, mN, mI, mL, nw, va_up, vp_cell_i, vp_cell_l, newarray.typeOf, defaultValue]
  exact Rn.new ⟨h1, h2, k⟩ ha hr hc hs hW1 hz (S_push hS z1 o1) hl
theorem at_newaJ {n : Int32} (pc' : Nat) (hp : pc + 2 = pc') (h0 : mK m (gz g + mC m) = 0) (d : decode M.2.1 pc = .ok (.newarray .long, 2)) (hac : Cond.arrayClass .long ∈ tG) (hn : ¬ n < 0) (hb : n.toNatClampNeg ≤ 10000) (k : ∀ qq mm, qq = gz g + mC m → mm = nw m qq 16 n.toNatClampNeg n.toNatClampNeg → At g M lv pc' lc (va_rf (some qq) :: st) mm Q) : At g M lv pc lc (.int n :: st) m Q := by
  subst hp
  have k := k _ _ rfl rfl
  obtain ⟨r, m', hq, h1, h2, k⟩ := k
  have hC1 : mC (nw m (gz g + mC m) 16 n.toNatClampNeg n.toNatClampNeg) = mC m + 1 := rfl
  have hS1 : mS (nw m (gz g + mC m) 16 n.toNatClampNeg n.toNatClampNeg) = mS m + n.toNatClampNeg := rfl
  refine ⟨r, m', hq, by omega, ⟨by have := h2.1; omega, (Ext.nw h0 _ _ _).trans h2.2⟩, fun p e s mid args below meth c R c0 s0 H locs ls ha hr hc hs hw hS hl hz => ?_⟩
  have hE := ha.2.2.2.2.2.2.2
  have hbt : n.toNatClampNeg * componentBytes (newarray.typeOf .long) ≤ 536870912 := by
    rw [show componentBytes (newarray.typeOf .long) = 8 from rfl]
    omega
  have hfc2 : s.vm.findClass ("[" ++ (newarray.typeOf .long).toString) = some (gy g 2) := (hE.2.2.2.1.2 2 (gy g 2, .long) rfl).2
  have hac2 : (Cond.arrayClass (newarray.typeOf .long)).before args s = true := hE.1 _ hac args
  have hcc : mC m - c0 + 1 ≤ R.cells := by omega
  have hss : mS m - s0 + n.toNatClampNeg ≤ R.slots := by omega
  refine va_newaK (N := n.toNatClampNeg) (n := n) (h := gz g + mC m) (g := F0 mid pc ls (.int n :: st)) (rest := st) ha.1 ha.2.1 hac2 rfl d rfl hn rfl hbt hcc hss hw.1 ?_
  intro H1 cA e1 z1 o1 hAr hfc
  rw [← hw.1] at o1 z1
  have hcA : cA = gy g 2 := Option.some.inj (hfc.symm.trans hfc2)
  subst hcA
  have hW1 : Wd g (nw m (gz g + mC m) 16 n.toNatClampNeg n.toNatClampNeg) H1 := by
    refine Wd.push hw (by decide) z1 o1 ?_
    show H1[gz g + mC m]? = some (vp_cell _ _)
    rw [e1]
    simp [entK, mN, mI, mL, nw, va_up, vp_cell_i, vp_cell_l, newarray.typeOf, defaultValue]
  exact Rn.new ⟨h1, h2, k⟩ ha hr hc hs hW1 hz (S_push hS z1 o1) hl
theorem at_newaZ {n : Int32} (pc' : Nat) (hp : pc + 2 = pc') (h0 : mK m (gz g + mC m) = 0) (d : decode M.2.1 pc = .ok (.newarray .boolean, 2)) (hac : Cond.arrayClass .boolean ∈ tG) (hn : ¬ n < 0) (hb : n.toNatClampNeg ≤ 10000) (k : ∀ qq mm, qq = gz g + mC m → mm = nw m qq 17 n.toNatClampNeg n.toNatClampNeg → At g M lv pc' lc (va_rf (some qq) :: st) mm Q) : At g M lv pc lc (.int n :: st) m Q := by
  subst hp
  have k := k _ _ rfl rfl
  obtain ⟨r, m', hq, h1, h2, k⟩ := k
  have hC1 : mC (nw m (gz g + mC m) 17 n.toNatClampNeg n.toNatClampNeg) = mC m + 1 := rfl
  have hS1 : mS (nw m (gz g + mC m) 17 n.toNatClampNeg n.toNatClampNeg) = mS m + n.toNatClampNeg := rfl
  refine ⟨r, m', hq, by omega, ⟨by have := h2.1; omega, (Ext.nw h0 _ _ _).trans h2.2⟩, fun p e s mid args below meth c R c0 s0 H locs ls ha hr hc hs hw hS hl hz => ?_⟩
  have hE := ha.2.2.2.2.2.2.2
  have hbt : n.toNatClampNeg * componentBytes (newarray.typeOf .boolean) ≤ 536870912 := by
    rw [show componentBytes (newarray.typeOf .boolean) = 1 from rfl]
    omega
  have hfc2 : s.vm.findClass ("[" ++ (newarray.typeOf .boolean).toString) = some (gy g 3) := (hE.2.2.2.1.2 3 (gy g 3, .boolean) rfl).2
  have hac2 : (Cond.arrayClass (newarray.typeOf .boolean)).before args s = true := hE.1 _ hac args
  have hcc : mC m - c0 + 1 ≤ R.cells := by omega
  have hss : mS m - s0 + n.toNatClampNeg ≤ R.slots := by omega
  refine va_newaK (N := n.toNatClampNeg) (n := n) (h := gz g + mC m) (g := F0 mid pc ls (.int n :: st)) (rest := st) ha.1 ha.2.1 hac2 rfl d rfl hn rfl hbt hcc hss hw.1 ?_
  intro H1 cA e1 z1 o1 hAr hfc
  rw [← hw.1] at o1 z1
  have hcA : cA = gy g 3 := Option.some.inj (hfc.symm.trans hfc2)
  subst hcA
  have hW1 : Wd g (nw m (gz g + mC m) 17 n.toNatClampNeg n.toNatClampNeg) H1 := by
    refine Wd.push hw (by decide) z1 o1 ?_
    show H1[gz g + mC m]? = some (vp_cell _ _)
    rw [e1]
    simp [entK, mN, mI, mL, nw, va_up, vp_cell_i, vp_cell_l, newarray.typeOf, defaultValue]
  exact Rn.new ⟨h1, h2, k⟩ ha hr hc hs hW1 hz (S_push hS z1 o1) hl
theorem at_anewBank {n : Int32} {index : Nat} (pc' : Nat) (hp : pc + 3 = pc') (h0 : mK m (gz g + mC m) = 0) (d : decode M.2.1 pc = .ok (.anewarray index, 3)) (hcl : Cond.classLink M.1.cls index "SurplusLand$Bank" ∈ tG) (hn : ¬ n < 0) (hb : n.toNatClampNeg ≤ 10000) (k : ∀ qq mm, qq = gz g + mC m → mm = nw m qq 18 n.toNatClampNeg n.toNatClampNeg → At g M lv pc' lc (va_rf (some qq) :: st) mm Q) : At g M lv pc lc (.int n :: st) m Q := by
  subst hp
  have k := k _ _ rfl rfl
  obtain ⟨r, m', hq, h1, h2, k⟩ := k
  have hC1 : mC (nw m (gz g + mC m) 18 n.toNatClampNeg n.toNatClampNeg) = mC m + 1 := rfl
  have hS1 : mS (nw m (gz g + mC m) 18 n.toNatClampNeg n.toNatClampNeg) = mS m + n.toNatClampNeg := rfl
  refine ⟨r, m', hq, by omega, ⟨by have := h2.1; omega, (Ext.nw h0 _ _ _).trans h2.2⟩, fun p e s mid args below meth c R c0 s0 H locs ls ha hr hc hs hw hS hl hz => ?_⟩
  have hE := ha.2.2.2.2.2.2.2
  refine W.anew (C := "SurplusLand$Bank") ha.1 ha.2.1 ha.2.2.2.2.1 (hE.1 _ hcl args) (va_AO.use (hE.2.2.1 _ (by decide))) rfl d rfl hn (by omega) (by omega) (by omega) (fun cA kA comp f1 f2 f3 f4 => ?_)
  generalize hH1 : H.push ({ cls := cA, slots := Array.replicate n.toNatClampNeg .null, vm := .none } : Cell) = H1
  have z1 : H1.size = H.size + 1 := by rw [← hH1, Array.size_push]
  have e1 : H1[H.size]? = some (arrV cA n.toNatClampNeg (fun _ => .null)) := by rw [← hH1, Array.getElem?_push_size, ← arrV_new]
  have o1 : ∀ q : Nat, q < H.size → H1[q]? = H[q]? := fun q hq => by rw [← hH1, Array.getElem?_push, if_neg (Nat.ne_of_lt hq)]
  obtain ⟨-, -, -, -, -, hfc⟩ := (hE.2.2.2.1.2 4 (gy g 4, .object "SurplusLand$Bank") rfl).2
  have hcA : cA = gy g 4 := Option.some.inj (f1.symm.trans hfc)
  subst hcA
  have hW1 : Wd g (nw m (gz g + mC m) 18 n.toNatClampNeg n.toNatClampNeg) H1 := by
    refine Wd.push hw (by decide) z1 o1 ?_
    show H1[gz g + mC m]? = some (vp_cell _ _)
    rw [← hw.1, e1]
    simp [entK, mN, mR, nw, va_up, vp_cell_q, va_rf]
  rw [hw.1]
  exact Rn.new ⟨h1, h2, k⟩ ha hr hc hs hW1 hz (S_push hS z1 o1) hl
theorem at_anewGrower {n : Int32} {index : Nat} (pc' : Nat) (hp : pc + 3 = pc') (h0 : mK m (gz g + mC m) = 0) (d : decode M.2.1 pc = .ok (.anewarray index, 3)) (hcl : Cond.classLink M.1.cls index "SurplusLand$Grower" ∈ tG) (hn : ¬ n < 0) (hb : n.toNatClampNeg ≤ 10000) (k : ∀ qq mm, qq = gz g + mC m → mm = nw m qq 19 n.toNatClampNeg n.toNatClampNeg → At g M lv pc' lc (va_rf (some qq) :: st) mm Q) : At g M lv pc lc (.int n :: st) m Q := by
  subst hp
  have k := k _ _ rfl rfl
  obtain ⟨r, m', hq, h1, h2, k⟩ := k
  have hC1 : mC (nw m (gz g + mC m) 19 n.toNatClampNeg n.toNatClampNeg) = mC m + 1 := rfl
  have hS1 : mS (nw m (gz g + mC m) 19 n.toNatClampNeg n.toNatClampNeg) = mS m + n.toNatClampNeg := rfl
  refine ⟨r, m', hq, by omega, ⟨by have := h2.1; omega, (Ext.nw h0 _ _ _).trans h2.2⟩, fun p e s mid args below meth c R c0 s0 H locs ls ha hr hc hs hw hS hl hz => ?_⟩
  have hE := ha.2.2.2.2.2.2.2
  refine W.anew (C := "SurplusLand$Grower") ha.1 ha.2.1 ha.2.2.2.2.1 (hE.1 _ hcl args) (va_AO.use (hE.2.2.1 _ (by decide))) rfl d rfl hn (by omega) (by omega) (by omega) (fun cA kA comp f1 f2 f3 f4 => ?_)
  generalize hH1 : H.push ({ cls := cA, slots := Array.replicate n.toNatClampNeg .null, vm := .none } : Cell) = H1
  have z1 : H1.size = H.size + 1 := by rw [← hH1, Array.size_push]
  have e1 : H1[H.size]? = some (arrV cA n.toNatClampNeg (fun _ => .null)) := by rw [← hH1, Array.getElem?_push_size, ← arrV_new]
  have o1 : ∀ q : Nat, q < H.size → H1[q]? = H[q]? := fun q hq => by rw [← hH1, Array.getElem?_push, if_neg (Nat.ne_of_lt hq)]
  obtain ⟨-, -, -, -, -, hfc⟩ := (hE.2.2.2.1.2 5 (gy g 5, .object "SurplusLand$Grower") rfl).2
  have hcA : cA = gy g 5 := Option.some.inj (f1.symm.trans hfc)
  subst hcA
  have hW1 : Wd g (nw m (gz g + mC m) 19 n.toNatClampNeg n.toNatClampNeg) H1 := by
    refine Wd.push hw (by decide) z1 o1 ?_
    show H1[gz g + mC m]? = some (vp_cell _ _)
    rw [← hw.1, e1]
    simp [entK, mN, mR, nw, va_up, vp_cell_q, va_rf]
  rw [hw.1]
  exact Rn.new ⟨h1, h2, k⟩ ha hr hc hs hW1 hz (S_push hS z1 o1) hl
theorem at_anewLaw {n : Int32} {index : Nat} (pc' : Nat) (hp : pc + 3 = pc') (h0 : mK m (gz g + mC m) = 0) (d : decode M.2.1 pc = .ok (.anewarray index, 3)) (hcl : Cond.classLink M.1.cls index "SurplusLand$Law" ∈ tG) (hn : ¬ n < 0) (hb : n.toNatClampNeg ≤ 10000) (k : ∀ qq mm, qq = gz g + mC m → mm = nw m qq 20 n.toNatClampNeg n.toNatClampNeg → At g M lv pc' lc (va_rf (some qq) :: st) mm Q) : At g M lv pc lc (.int n :: st) m Q := by
  subst hp
  have k := k _ _ rfl rfl
  obtain ⟨r, m', hq, h1, h2, k⟩ := k
  have hC1 : mC (nw m (gz g + mC m) 20 n.toNatClampNeg n.toNatClampNeg) = mC m + 1 := rfl
  have hS1 : mS (nw m (gz g + mC m) 20 n.toNatClampNeg n.toNatClampNeg) = mS m + n.toNatClampNeg := rfl
  refine ⟨r, m', hq, by omega, ⟨by have := h2.1; omega, (Ext.nw h0 _ _ _).trans h2.2⟩, fun p e s mid args below meth c R c0 s0 H locs ls ha hr hc hs hw hS hl hz => ?_⟩
  have hE := ha.2.2.2.2.2.2.2
  refine W.anew (C := "SurplusLand$Law") ha.1 ha.2.1 ha.2.2.2.2.1 (hE.1 _ hcl args) (va_AO.use (hE.2.2.1 _ (by decide))) rfl d rfl hn (by omega) (by omega) (by omega) (fun cA kA comp f1 f2 f3 f4 => ?_)
  generalize hH1 : H.push ({ cls := cA, slots := Array.replicate n.toNatClampNeg .null, vm := .none } : Cell) = H1
  have z1 : H1.size = H.size + 1 := by rw [← hH1, Array.size_push]
  have e1 : H1[H.size]? = some (arrV cA n.toNatClampNeg (fun _ => .null)) := by rw [← hH1, Array.getElem?_push_size, ← arrV_new]
  have o1 : ∀ q : Nat, q < H.size → H1[q]? = H[q]? := fun q hq => by rw [← hH1, Array.getElem?_push, if_neg (Nat.ne_of_lt hq)]
  obtain ⟨-, -, -, -, -, hfc⟩ := (hE.2.2.2.1.2 6 (gy g 6, .object "SurplusLand$Law") rfl).2
  have hcA : cA = gy g 6 := Option.some.inj (f1.symm.trans hfc)
  subst hcA
  have hW1 : Wd g (nw m (gz g + mC m) 20 n.toNatClampNeg n.toNatClampNeg) H1 := by
    refine Wd.push hw (by decide) z1 o1 ?_
    show H1[gz g + mC m]? = some (vp_cell _ _)
    rw [← hw.1, e1]
    simp [entK, mN, mR, nw, va_up, vp_cell_q, va_rf]
  rw [hw.1]
  exact Rn.new ⟨h1, h2, k⟩ ha hr hc hs hW1 hz (S_push hS z1 o1) hl
theorem at_anewReceipt {n : Int32} {index : Nat} (pc' : Nat) (hp : pc + 3 = pc') (h0 : mK m (gz g + mC m) = 0) (d : decode M.2.1 pc = .ok (.anewarray index, 3)) (hcl : Cond.classLink M.1.cls index "SurplusLand$Receipt" ∈ tG) (hn : ¬ n < 0) (hb : n.toNatClampNeg ≤ 10000) (k : ∀ qq mm, qq = gz g + mC m → mm = nw m qq 21 n.toNatClampNeg n.toNatClampNeg → At g M lv pc' lc (va_rf (some qq) :: st) mm Q) : At g M lv pc lc (.int n :: st) m Q := by
  subst hp
  have k := k _ _ rfl rfl
  obtain ⟨r, m', hq, h1, h2, k⟩ := k
  have hC1 : mC (nw m (gz g + mC m) 21 n.toNatClampNeg n.toNatClampNeg) = mC m + 1 := rfl
  have hS1 : mS (nw m (gz g + mC m) 21 n.toNatClampNeg n.toNatClampNeg) = mS m + n.toNatClampNeg := rfl
  refine ⟨r, m', hq, by omega, ⟨by have := h2.1; omega, (Ext.nw h0 _ _ _).trans h2.2⟩, fun p e s mid args below meth c R c0 s0 H locs ls ha hr hc hs hw hS hl hz => ?_⟩
  have hE := ha.2.2.2.2.2.2.2
  refine W.anew (C := "SurplusLand$Receipt") ha.1 ha.2.1 ha.2.2.2.2.1 (hE.1 _ hcl args) (va_AO.use (hE.2.2.1 _ (by decide))) rfl d rfl hn (by omega) (by omega) (by omega) (fun cA kA comp f1 f2 f3 f4 => ?_)
  generalize hH1 : H.push ({ cls := cA, slots := Array.replicate n.toNatClampNeg .null, vm := .none } : Cell) = H1
  have z1 : H1.size = H.size + 1 := by rw [← hH1, Array.size_push]
  have e1 : H1[H.size]? = some (arrV cA n.toNatClampNeg (fun _ => .null)) := by rw [← hH1, Array.getElem?_push_size, ← arrV_new]
  have o1 : ∀ q : Nat, q < H.size → H1[q]? = H[q]? := fun q hq => by rw [← hH1, Array.getElem?_push, if_neg (Nat.ne_of_lt hq)]
  obtain ⟨-, -, -, -, -, hfc⟩ := (hE.2.2.2.1.2 7 (gy g 7, .object "SurplusLand$Receipt") rfl).2
  have hcA : cA = gy g 7 := Option.some.inj (f1.symm.trans hfc)
  subst hcA
  have hW1 : Wd g (nw m (gz g + mC m) 21 n.toNatClampNeg n.toNatClampNeg) H1 := by
    refine Wd.push hw (by decide) z1 o1 ?_
    show H1[gz g + mC m]? = some (vp_cell _ _)
    rw [← hw.1, e1]
    simp [entK, mN, mR, nw, va_up, vp_cell_q, va_rf]
  rw [hw.1]
  exact Rn.new ⟨h1, h2, k⟩ ha hr hc hs hW1 hz (S_push hS z1 o1) hl
end HEAP2
