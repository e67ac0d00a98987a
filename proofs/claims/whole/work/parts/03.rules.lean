/-! ===== the rules ===== -/
theorem at_iconst {g : Gc} {M : Md} {lv pc : Nat} {lc : List (Nat × Value)} {st : List Value} {m : Mm} {Q : Option Value → Mm → Prop} {n : Int} (v : Int32) (pc' : Nat) (hp : pc + 1 = pc') (d : decode M.2.1 pc = .ok (.iconst n, 1)) (hv : Int32.ofInt n = v) (k : At g M lv pc' lc (.int v :: st) m Q) : At g M lv pc lc (st) m Q := by
  subst hp
  exact At.lift (fun _ _ _ _ _ _ _ _ _ _ _ _ _ _ _ ls hx hb hl kk => lv_iconst hx hb d hv kk) k
theorem at_bipush {g : Gc} {M : Md} {lv pc : Nat} {lc : List (Nat × Value)} {st : List Value} {m : Mm} {Q : Option Value → Mm → Prop} {n : Int} (v : Int32) (pc' : Nat) (hp : pc + 2 = pc') (d : decode M.2.1 pc = .ok (.bipush n, 2)) (hv : (Int8.ofInt n).toInt32 = v) (k : At g M lv pc' lc (.int v :: st) m Q) : At g M lv pc lc (st) m Q := by
  subst hp
  exact At.lift (fun _ _ _ _ _ _ _ _ _ _ _ _ _ _ _ ls hx hb hl kk => lv_bipush hx hb d hv kk) k
theorem at_sipush {g : Gc} {M : Md} {lv pc : Nat} {lc : List (Nat × Value)} {st : List Value} {m : Mm} {Q : Option Value → Mm → Prop} {n : Int} (v : Int32) (pc' : Nat) (hp : pc + 3 = pc') (d : decode M.2.1 pc = .ok (.sipush n, 3)) (hv : (Int16.ofInt n).toInt32 = v) (k : At g M lv pc' lc (.int v :: st) m Q) : At g M lv pc lc (st) m Q := by
  subst hp
  exact At.lift (fun _ _ _ _ _ _ _ _ _ _ _ _ _ _ _ ls hx hb hl kk => lv_sipush hx hb d hv kk) k
theorem at_lconst {g : Gc} {M : Md} {lv pc : Nat} {lc : List (Nat × Value)} {st : List Value} {m : Mm} {Q : Option Value → Mm → Prop} {n : Fin 2} (v : Int64) (pc' : Nat) (hp : pc + 1 = pc') (d : decode M.2.1 pc = .ok (.lconst n, 1)) (hv : Int64.ofNat (n : Nat) = v) (k : At g M lv pc' lc (.long v :: st) m Q) : At g M lv pc lc (st) m Q := by
  subst hp
  exact At.lift (fun _ _ _ _ _ _ _ _ _ _ _ _ _ _ _ ls hx hb hl kk => lv_lconst hx hb d hv kk) k
theorem at_iload_n {g : Gc} {M : Md} {lv pc : Nat} {lc : List (Nat × Value)} {st : List Value} {m : Mm} {Q : Option Value → Mm → Prop} {i : Fin 4} {x : Int32} (j : Nat) (pc' : Nat) (hp : pc + 1 = pc') (d : decode M.2.1 pc = .ok (.iload_n i, 1)) (hj : lc[j]? = some ((i : Nat), .int x)) (k : At g M lv pc' lc (.int x :: st) m Q) : At g M lv pc lc (st) m Q := by
  subst hp
  exact At.lift (fun _ _ _ _ _ _ _ _ _ _ _ _ _ _ _ ls hx hb hl kk => lv_iload_n hx hb d rfl (lv_at hl j hj) kk) k
theorem at_iload {g : Gc} {M : Md} {lv pc : Nat} {lc : List (Nat × Value)} {st : List Value} {m : Mm} {Q : Option Value → Mm → Prop} {i : Nat} {x : Int32} (j : Nat) (pc' : Nat) (hp : pc + 2 = pc') (d : decode M.2.1 pc = .ok (.iload i, 2)) (hj : lc[j]? = some (i, .int x)) (k : At g M lv pc' lc (.int x :: st) m Q) : At g M lv pc lc (st) m Q := by
  subst hp
  exact At.lift (fun _ _ _ _ _ _ _ _ _ _ _ _ _ _ _ ls hx hb hl kk => lv_iload hx hb d (lv_at hl j hj) kk) k
theorem at_lload_n {g : Gc} {M : Md} {lv pc : Nat} {lc : List (Nat × Value)} {st : List Value} {m : Mm} {Q : Option Value → Mm → Prop} {i : Fin 4} {x : Int64} (j : Nat) (pc' : Nat) (hp : pc + 1 = pc') (d : decode M.2.1 pc = .ok (.lload_n i, 1)) (hj : lc[j]? = some ((i : Nat), .long x)) (k : At g M lv pc' lc (.long x :: st) m Q) : At g M lv pc lc (st) m Q := by
  subst hp
  exact At.lift (fun _ _ _ _ _ _ _ _ _ _ _ _ _ _ _ ls hx hb hl kk => lv_lload_n hx hb d rfl (lv_at hl j hj) kk) k
theorem at_lload {g : Gc} {M : Md} {lv pc : Nat} {lc : List (Nat × Value)} {st : List Value} {m : Mm} {Q : Option Value → Mm → Prop} {i : Nat} {x : Int64} (j : Nat) (pc' : Nat) (hp : pc + 2 = pc') (d : decode M.2.1 pc = .ok (.lload i, 2)) (hj : lc[j]? = some (i, .long x)) (k : At g M lv pc' lc (.long x :: st) m Q) : At g M lv pc lc (st) m Q := by
  subst hp
  exact At.lift (fun _ _ _ _ _ _ _ _ _ _ _ _ _ _ _ ls hx hb hl kk => lv_lload hx hb d (lv_at hl j hj) kk) k
theorem at_aload_n {g : Gc} {M : Md} {lv pc : Nat} {lc : List (Nat × Value)} {st : List Value} {m : Mm} {Q : Option Value → Mm → Prop} {i : Fin 4} {x : Option Nat} (j : Nat) (pc' : Nat) (hp : pc + 1 = pc') (d : decode M.2.1 pc = .ok (.aload_n i, 1)) (hj : lc[j]? = some ((i : Nat), va_rf x)) (k : At g M lv pc' lc (va_rf x :: st) m Q) : At g M lv pc lc st m Q := by
  subst hp
  cases x with
  | none => exact At.lift (fun _ _ _ _ _ _ _ _ _ _ _ _ _ _ _ ls hx hb hl kk => lv_aload_nN hx hb d rfl (lv_at hl j hj) kk) k
  | some a => exact At.lift (fun _ _ _ _ _ _ _ _ _ _ _ _ _ _ _ ls hx hb hl kk => lv_aload_n hx hb d rfl (lv_at hl j hj) kk) k
theorem at_aload {g : Gc} {M : Md} {lv pc : Nat} {lc : List (Nat × Value)} {st : List Value} {m : Mm} {Q : Option Value → Mm → Prop} {i : Nat} {x : Option Nat} (j : Nat) (pc' : Nat) (hp : pc + 2 = pc') (d : decode M.2.1 pc = .ok (.aload i, 2)) (hj : lc[j]? = some (i, va_rf x)) (k : At g M lv pc' lc (va_rf x :: st) m Q) : At g M lv pc lc st m Q := by
  subst hp
  cases x with
  | none => exact At.lift (fun _ _ _ _ _ _ _ _ _ _ _ _ _ _ _ ls hx hb hl kk => lv_aloadN hx hb d (lv_at hl j hj) kk) k
  | some a => exact At.lift (fun _ _ _ _ _ _ _ _ _ _ _ _ _ _ _ ls hx hb hl kk => lv_aload hx hb d (lv_at hl j hj) kk) k
theorem at_istore_n {g : Gc} {M : Md} {lv pc : Nat} {lc : List (Nat × Value)} {st : List Value} {m : Mm} {Q : Option Value → Mm → Prop} {i : Fin 4} {x : Int32} {lc' : List (Nat × Value)} (ps : List Nat) (pc' : Nat) (hp : pc + 1 = pc') (d : decode M.2.1 pc = .ok (.istore_n i, 1)) (hn : (i : Nat) < M.2.2.1) (hl : ps.filterMap (fun j => (((i : Nat), .int x) :: lc.filter (fun q => !(q.1 == (i : Nat)) && !(q.1 + 1 == (i : Nat) && q.2.category == 2)))[j]?) = lc') (k : At g M lv pc' lc' st m Q) : At g M lv pc lc (.int x :: st) m Q := by
  subst hp
  obtain ⟨r, m', hq, h1, h2, k⟩ := k
  refine ⟨r, m', hq, h1, h2, fun p e s mid args below meth c R c0 s0 H locs ls ha hr hc hs hw hS hlv hz => ?_⟩
  exact lv_istore_n ha.1 ha.2.1 d rfl hlv hn rfl (fun ls' hl' => k p e s mid args below meth c R c0 s0 H locs ls' ha hr hc hs hw hS (lv_sub hl' ps hl) hz)
theorem at_lstore_n {g : Gc} {M : Md} {lv pc : Nat} {lc : List (Nat × Value)} {st : List Value} {m : Mm} {Q : Option Value → Mm → Prop} {i : Fin 4} {x : Int64} {lc' : List (Nat × Value)} (ps : List Nat) (pc' : Nat) (hp : pc + 1 = pc') (d : decode M.2.1 pc = .ok (.lstore_n i, 1)) (hn : (i : Nat) + 1 < M.2.2.1) (hl : ps.filterMap (fun j => (((i : Nat), .long x) :: lc.filter (fun q => !(q.1 == (i : Nat)) && (!(q.1 == (i : Nat) + 1) && !(q.1 + 1 == (i : Nat) && q.2.category == 2))))[j]?) = lc') (k : At g M lv pc' lc' st m Q) : At g M lv pc lc (.long x :: st) m Q := by
  subst hp
  obtain ⟨r, m', hq, h1, h2, k⟩ := k
  refine ⟨r, m', hq, h1, h2, fun p e s mid args below meth c R c0 s0 H locs ls ha hr hc hs hw hS hlv hz => ?_⟩
  exact lv_lstore_n ha.1 ha.2.1 d rfl hlv hn rfl (fun ls' hl' => k p e s mid args below meth c R c0 s0 H locs ls' ha hr hc hs hw hS (lv_sub hl' ps hl) hz)
theorem at_astore_n {g : Gc} {M : Md} {lv pc : Nat} {lc : List (Nat × Value)} {st : List Value} {m : Mm} {Q : Option Value → Mm → Prop} {i : Fin 4} {x : Option Nat} {lc' : List (Nat × Value)} (ps : List Nat) (pc' : Nat) (hp : pc + 1 = pc') (d : decode M.2.1 pc = .ok (.astore_n i, 1)) (hn : (i : Nat) < M.2.2.1) (hl : ps.filterMap (fun j => (((i : Nat), va_rf x) :: lc.filter (fun q => !(q.1 == (i : Nat)) && !(q.1 + 1 == (i : Nat) && q.2.category == 2)))[j]?) = lc') (k : At g M lv pc' lc' st m Q) : At g M lv pc lc (va_rf x :: st) m Q := by
  subst hp
  obtain ⟨r, m', hq, h1, h2, k⟩ := k
  refine ⟨r, m', hq, h1, h2, fun p e s mid args below meth c R c0 s0 H locs ls ha hr hc hs hw hS hlv hz => ?_⟩
  cases x with
  | none => exact lv_astore_nN ha.1 ha.2.1 d rfl hlv hn rfl (fun ls' hl' => k p e s mid args below meth c R c0 s0 H locs ls' ha hr hc hs hw hS (lv_sub hl' ps hl) hz)
  | some a => exact lv_astore_n ha.1 ha.2.1 d rfl hlv hn rfl (fun ls' hl' => k p e s mid args below meth c R c0 s0 H locs ls' ha hr hc hs hw hS (lv_sub hl' ps hl) hz)
theorem at_istore {g : Gc} {M : Md} {lv pc : Nat} {lc : List (Nat × Value)} {st : List Value} {m : Mm} {Q : Option Value → Mm → Prop} {i : Nat} {x : Int32} {lc' : List (Nat × Value)} (ps : List Nat) (pc' : Nat) (hp : pc + 2 = pc') (d : decode M.2.1 pc = .ok (.istore i, 2)) (hn : i < M.2.2.1) (hl : ps.filterMap (fun j => ((i, .int x) :: lc.filter (fun q => !(q.1 == i) && !(q.1 + 1 == i && q.2.category == 2)))[j]?) = lc') (k : At g M lv pc' lc' st m Q) : At g M lv pc lc (.int x :: st) m Q := by
  subst hp
  obtain ⟨r, m', hq, h1, h2, k⟩ := k
  refine ⟨r, m', hq, h1, h2, fun p e s mid args below meth c R c0 s0 H locs ls ha hr hc hs hw hS hlv hz => ?_⟩
  exact lv_istore ha.1 ha.2.1 d hlv hn rfl (fun ls' hl' => k p e s mid args below meth c R c0 s0 H locs ls' ha hr hc hs hw hS (lv_sub hl' ps hl) hz)
theorem at_lstore {g : Gc} {M : Md} {lv pc : Nat} {lc : List (Nat × Value)} {st : List Value} {m : Mm} {Q : Option Value → Mm → Prop} {i : Nat} {x : Int64} {lc' : List (Nat × Value)} (ps : List Nat) (pc' : Nat) (hp : pc + 2 = pc') (d : decode M.2.1 pc = .ok (.lstore i, 2)) (hn : i + 1 < M.2.2.1) (hl : ps.filterMap (fun j => ((i, .long x) :: lc.filter (fun q => !(q.1 == i) && (!(q.1 == i + 1) && !(q.1 + 1 == i && q.2.category == 2))))[j]?) = lc') (k : At g M lv pc' lc' st m Q) : At g M lv pc lc (.long x :: st) m Q := by
  subst hp
  obtain ⟨r, m', hq, h1, h2, k⟩ := k
  refine ⟨r, m', hq, h1, h2, fun p e s mid args below meth c R c0 s0 H locs ls ha hr hc hs hw hS hlv hz => ?_⟩
  exact lv_lstore ha.1 ha.2.1 d hlv hn rfl (fun ls' hl' => k p e s mid args below meth c R c0 s0 H locs ls' ha hr hc hs hw hS (lv_sub hl' ps hl) hz)
theorem at_astore {g : Gc} {M : Md} {lv pc : Nat} {lc : List (Nat × Value)} {st : List Value} {m : Mm} {Q : Option Value → Mm → Prop} {i : Nat} {x : Option Nat} {lc' : List (Nat × Value)} (ps : List Nat) (pc' : Nat) (hp : pc + 2 = pc') (d : decode M.2.1 pc = .ok (.astore i, 2)) (hn : i < M.2.2.1) (hl : ps.filterMap (fun j => ((i, va_rf x) :: lc.filter (fun q => !(q.1 == i) && !(q.1 + 1 == i && q.2.category == 2)))[j]?) = lc') (k : At g M lv pc' lc' st m Q) : At g M lv pc lc (va_rf x :: st) m Q := by
  subst hp
  obtain ⟨r, m', hq, h1, h2, k⟩ := k
  refine ⟨r, m', hq, h1, h2, fun p e s mid args below meth c R c0 s0 H locs ls ha hr hc hs hw hS hlv hz => ?_⟩
  cases x with
  | none => exact lv_astoreN ha.1 ha.2.1 d hlv hn rfl (fun ls' hl' => k p e s mid args below meth c R c0 s0 H locs ls' ha hr hc hs hw hS (lv_sub hl' ps hl) hz)
  | some a => exact lv_astore ha.1 ha.2.1 d hlv hn rfl (fun ls' hl' => k p e s mid args below meth c R c0 s0 H locs ls' ha hr hc hs hw hS (lv_sub hl' ps hl) hz)
theorem at_iinc {g : Gc} {M : Md} {lv pc : Nat} {lc : List (Nat × Value)} {st : List Value} {m : Mm} {Q : Option Value → Mm → Prop} {i : Nat} {n : Int} {x : Int32} {lc' : List (Nat × Value)} (v : Int32) (j : Nat) (ps : List Nat) (pc' : Nat) (hp : pc + 3 = pc') (d : decode M.2.1 pc = .ok (.iinc i n, 3)) (hj : lc[j]? = some (i, .int x)) (hv : x + Int32.ofInt n = v) (hn : i < M.2.2.1) (hl : ps.filterMap (fun j => ((i, Value.int v) :: lc.filter (fun q => !(q.1 == i) && !(q.1 + 1 == i && q.2.category == 2)))[j]?) = lc') (k : At g M lv pc' lc' st m Q) : At g M lv pc lc st m Q := by
  subst hp
  obtain ⟨r, m', hq, h1, h2, k⟩ := k
  refine ⟨r, m', hq, h1, h2, fun p e s mid args below meth c R c0 s0 H locs ls ha hr hc hs hw hS hlv hz => ?_⟩
  exact lv_iinc ha.1 ha.2.1 d hlv hj hv hn rfl (fun ls' hl' => k p e s mid args below meth c R c0 s0 H locs ls' ha hr hc hs hw hS (lv_sub hl' ps hl) hz)
theorem at_iadd {g : Gc} {M : Md} {lv pc : Nat} {lc : List (Nat × Value)} {st : List Value} {m : Mm} {Q : Option Value → Mm → Prop} {x y : Int32} (pc' : Nat) (hp : pc + 1 = pc') (d : decode M.2.1 pc = .ok (.iadd, 1))  (k : At g M lv pc' lc (.int (x + y) :: st) m Q) : At g M lv pc lc (.int y :: .int x :: st) m Q := by
  subst hp
  exact At.lift (fun _ _ _ _ _ _ _ _ _ _ _ _ _ _ _ ls hx hb hl kk => lv_iadd hx hb d kk) k
theorem at_isub {g : Gc} {M : Md} {lv pc : Nat} {lc : List (Nat × Value)} {st : List Value} {m : Mm} {Q : Option Value → Mm → Prop} {x y : Int32} (pc' : Nat) (hp : pc + 1 = pc') (d : decode M.2.1 pc = .ok (.isub, 1))  (k : At g M lv pc' lc (.int (x - y) :: st) m Q) : At g M lv pc lc (.int y :: .int x :: st) m Q := by
  subst hp
  exact At.lift (fun _ _ _ _ _ _ _ _ _ _ _ _ _ _ _ ls hx hb hl kk => lv_isub hx hb d kk) k
theorem at_imul {g : Gc} {M : Md} {lv pc : Nat} {lc : List (Nat × Value)} {st : List Value} {m : Mm} {Q : Option Value → Mm → Prop} {x y : Int32} (pc' : Nat) (hp : pc + 1 = pc') (d : decode M.2.1 pc = .ok (.imul, 1))  (k : At g M lv pc' lc (.int (x * y) :: st) m Q) : At g M lv pc lc (.int y :: .int x :: st) m Q := by
  subst hp
  exact At.lift (fun _ _ _ _ _ _ _ _ _ _ _ _ _ _ _ ls hx hb hl kk => lv_imul hx hb d kk) k
theorem at_iand {g : Gc} {M : Md} {lv pc : Nat} {lc : List (Nat × Value)} {st : List Value} {m : Mm} {Q : Option Value → Mm → Prop} {x y : Int32} (pc' : Nat) (hp : pc + 1 = pc') (d : decode M.2.1 pc = .ok (.iand, 1))  (k : At g M lv pc' lc (.int (x &&& y) :: st) m Q) : At g M lv pc lc (.int y :: .int x :: st) m Q := by
  subst hp
  exact At.lift (fun _ _ _ _ _ _ _ _ _ _ _ _ _ _ _ ls hx hb hl kk => lv_iand hx hb d kk) k
theorem at_ior {g : Gc} {M : Md} {lv pc : Nat} {lc : List (Nat × Value)} {st : List Value} {m : Mm} {Q : Option Value → Mm → Prop} {x y : Int32} (pc' : Nat) (hp : pc + 1 = pc') (d : decode M.2.1 pc = .ok (.ior, 1))  (k : At g M lv pc' lc (.int (x ||| y) :: st) m Q) : At g M lv pc lc (.int y :: .int x :: st) m Q := by
  subst hp
  exact At.lift (fun _ _ _ _ _ _ _ _ _ _ _ _ _ _ _ ls hx hb hl kk => lv_ior hx hb d kk) k
theorem at_ishl {g : Gc} {M : Md} {lv pc : Nat} {lc : List (Nat × Value)} {st : List Value} {m : Mm} {Q : Option Value → Mm → Prop} {x y : Int32} (pc' : Nat) (hp : pc + 1 = pc') (d : decode M.2.1 pc = .ok (.ishl, 1))  (k : At g M lv pc' lc (.int (x <<< (y &&& 31)) :: st) m Q) : At g M lv pc lc (.int y :: .int x :: st) m Q := by
  subst hp
  exact At.lift (fun _ _ _ _ _ _ _ _ _ _ _ _ _ _ _ ls hx hb hl kk => lv_ishl hx hb d kk) k
theorem at_ishr {g : Gc} {M : Md} {lv pc : Nat} {lc : List (Nat × Value)} {st : List Value} {m : Mm} {Q : Option Value → Mm → Prop} {x y : Int32} (pc' : Nat) (hp : pc + 1 = pc') (d : decode M.2.1 pc = .ok (.ishr, 1))  (k : At g M lv pc' lc (.int (x >>> (y &&& 31)) :: st) m Q) : At g M lv pc lc (.int y :: .int x :: st) m Q := by
  subst hp
  exact At.lift (fun _ _ _ _ _ _ _ _ _ _ _ _ _ _ _ ls hx hb hl kk => lv_ishr hx hb d kk) k
theorem at_ladd {g : Gc} {M : Md} {lv pc : Nat} {lc : List (Nat × Value)} {st : List Value} {m : Mm} {Q : Option Value → Mm → Prop} {x y : Int64} (pc' : Nat) (hp : pc + 1 = pc') (d : decode M.2.1 pc = .ok (.ladd, 1))  (k : At g M lv pc' lc (.long (x + y) :: st) m Q) : At g M lv pc lc (.long y :: .long x :: st) m Q := by
  subst hp
  exact At.lift (fun _ _ _ _ _ _ _ _ _ _ _ _ _ _ _ ls hx hb hl kk => lv_ladd hx hb d kk) k
theorem at_lsub {g : Gc} {M : Md} {lv pc : Nat} {lc : List (Nat × Value)} {st : List Value} {m : Mm} {Q : Option Value → Mm → Prop} {x y : Int64} (pc' : Nat) (hp : pc + 1 = pc') (d : decode M.2.1 pc = .ok (.lsub, 1))  (k : At g M lv pc' lc (.long (x - y) :: st) m Q) : At g M lv pc lc (.long y :: .long x :: st) m Q := by
  subst hp
  exact At.lift (fun _ _ _ _ _ _ _ _ _ _ _ _ _ _ _ ls hx hb hl kk => lv_lsub hx hb d kk) k
theorem at_lmul {g : Gc} {M : Md} {lv pc : Nat} {lc : List (Nat × Value)} {st : List Value} {m : Mm} {Q : Option Value → Mm → Prop} {x y : Int64} (pc' : Nat) (hp : pc + 1 = pc') (d : decode M.2.1 pc = .ok (.lmul, 1))  (k : At g M lv pc' lc (.long (x * y) :: st) m Q) : At g M lv pc lc (.long y :: .long x :: st) m Q := by
  subst hp
  exact At.lift (fun _ _ _ _ _ _ _ _ _ _ _ _ _ _ _ ls hx hb hl kk => lv_lmul hx hb d kk) k
theorem at_land {g : Gc} {M : Md} {lv pc : Nat} {lc : List (Nat × Value)} {st : List Value} {m : Mm} {Q : Option Value → Mm → Prop} {x y : Int64} (pc' : Nat) (hp : pc + 1 = pc') (d : decode M.2.1 pc = .ok (.land, 1))  (k : At g M lv pc' lc (.long (x &&& y) :: st) m Q) : At g M lv pc lc (.long y :: .long x :: st) m Q := by
  subst hp
  exact At.lift (fun _ _ _ _ _ _ _ _ _ _ _ _ _ _ _ ls hx hb hl kk => lv_land hx hb d kk) k
theorem at_lor {g : Gc} {M : Md} {lv pc : Nat} {lc : List (Nat × Value)} {st : List Value} {m : Mm} {Q : Option Value → Mm → Prop} {x y : Int64} (pc' : Nat) (hp : pc + 1 = pc') (d : decode M.2.1 pc = .ok (.lor, 1))  (k : At g M lv pc' lc (.long (x ||| y) :: st) m Q) : At g M lv pc lc (.long y :: .long x :: st) m Q := by
  subst hp
  exact At.lift (fun _ _ _ _ _ _ _ _ _ _ _ _ _ _ _ ls hx hb hl kk => lv_lor hx hb d kk) k
theorem at_idiv {g : Gc} {M : Md} {lv pc : Nat} {lc : List (Nat × Value)} {st : List Value} {m : Mm} {Q : Option Value → Mm → Prop} {x y : Int32} (pc' : Nat) (hp : pc + 1 = pc') (d : decode M.2.1 pc = .ok (.idiv, 1)) (hne : ¬ y = 0) (k : At g M lv pc' lc (.int (x / y) :: st) m Q) : At g M lv pc lc (.int y :: .int x :: st) m Q := by
  subst hp
  exact At.lift (fun _ _ _ _ _ _ _ _ _ _ _ _ _ _ _ ls hx hb hl kk => lv_idiv hx hb d hne kk) k
theorem at_irem {g : Gc} {M : Md} {lv pc : Nat} {lc : List (Nat × Value)} {st : List Value} {m : Mm} {Q : Option Value → Mm → Prop} {x y : Int32} (pc' : Nat) (hp : pc + 1 = pc') (d : decode M.2.1 pc = .ok (.irem, 1)) (hne : ¬ y = 0) (k : At g M lv pc' lc (.int (x - x / y * y) :: st) m Q) : At g M lv pc lc (.int y :: .int x :: st) m Q := by
  subst hp
  exact At.lift (fun _ _ _ _ _ _ _ _ _ _ _ _ _ _ _ ls hx hb hl kk => lv_irem hx hb d hne kk) k
theorem at_ldiv {g : Gc} {M : Md} {lv pc : Nat} {lc : List (Nat × Value)} {st : List Value} {m : Mm} {Q : Option Value → Mm → Prop} {x y : Int64} (pc' : Nat) (hp : pc + 1 = pc') (d : decode M.2.1 pc = .ok (.ldiv, 1)) (hne : ¬ y = 0) (k : At g M lv pc' lc (.long (x / y) :: st) m Q) : At g M lv pc lc (.long y :: .long x :: st) m Q := by
  subst hp
  exact At.lift (fun _ _ _ _ _ _ _ _ _ _ _ _ _ _ _ ls hx hb hl kk => lv_ldiv hx hb d hne kk) k
theorem at_ineg {g : Gc} {M : Md} {lv pc : Nat} {lc : List (Nat × Value)} {st : List Value} {m : Mm} {Q : Option Value → Mm → Prop} {x : Int32} (pc' : Nat) (hp : pc + 1 = pc') (d : decode M.2.1 pc = .ok (.ineg, 1))  (k : At g M lv pc' lc (.int (-x) :: st) m Q) : At g M lv pc lc (.int x :: st) m Q := by
  subst hp
  exact At.lift (fun _ _ _ _ _ _ _ _ _ _ _ _ _ _ _ ls hx hb hl kk => lv_ineg hx hb d kk) k
theorem at_lneg {g : Gc} {M : Md} {lv pc : Nat} {lc : List (Nat × Value)} {st : List Value} {m : Mm} {Q : Option Value → Mm → Prop} {x : Int64} (pc' : Nat) (hp : pc + 1 = pc') (d : decode M.2.1 pc = .ok (.lneg, 1))  (k : At g M lv pc' lc (.long (-x) :: st) m Q) : At g M lv pc lc (.long x :: st) m Q := by
  subst hp
  exact At.lift (fun _ _ _ _ _ _ _ _ _ _ _ _ _ _ _ ls hx hb hl kk => lv_lneg hx hb d kk) k
theorem at_lshl {g : Gc} {M : Md} {lv pc : Nat} {lc : List (Nat × Value)} {st : List Value} {m : Mm} {Q : Option Value → Mm → Prop} {x : Int64} {y : Int32} (pc' : Nat) (hp : pc + 1 = pc') (d : decode M.2.1 pc = .ok (.lshl, 1))  (k : At g M lv pc' lc (.long (x <<< (y.toInt64 &&& 63)) :: st) m Q) : At g M lv pc lc (.int y :: .long x :: st) m Q := by
  subst hp
  exact At.lift (fun _ _ _ _ _ _ _ _ _ _ _ _ _ _ _ ls hx hb hl kk => lv_lshl hx hb d rfl kk) k
theorem at_i2l {g : Gc} {M : Md} {lv pc : Nat} {lc : List (Nat × Value)} {st : List Value} {m : Mm} {Q : Option Value → Mm → Prop} {x : Int32} (pc' : Nat) (hp : pc + 1 = pc') (d : decode M.2.1 pc = .ok (.i2l, 1))  (k : At g M lv pc' lc (.long x.toInt64 :: st) m Q) : At g M lv pc lc (.int x :: st) m Q := by
  subst hp
  exact At.lift (fun _ _ _ _ _ _ _ _ _ _ _ _ _ _ _ ls hx hb hl kk => lv_i2l hx hb d rfl kk) k
theorem at_l2i {g : Gc} {M : Md} {lv pc : Nat} {lc : List (Nat × Value)} {st : List Value} {m : Mm} {Q : Option Value → Mm → Prop} {x : Int64} (pc' : Nat) (hp : pc + 1 = pc') (d : decode M.2.1 pc = .ok (.l2i, 1))  (k : At g M lv pc' lc (.int x.toInt32 :: st) m Q) : At g M lv pc lc (.long x :: st) m Q := by
  subst hp
  exact At.lift (fun _ _ _ _ _ _ _ _ _ _ _ _ _ _ _ ls hx hb hl kk => lv_l2i hx hb d rfl kk) k
theorem at_i2b {g : Gc} {M : Md} {lv pc : Nat} {lc : List (Nat × Value)} {st : List Value} {m : Mm} {Q : Option Value → Mm → Prop} {x : Int32} (pc' : Nat) (hp : pc + 1 = pc') (d : decode M.2.1 pc = .ok (.i2b, 1))  (k : At g M lv pc' lc (.int x.toInt8.toInt32 :: st) m Q) : At g M lv pc lc (.int x :: st) m Q := by
  subst hp
  exact At.lift (fun _ _ _ _ _ _ _ _ _ _ _ _ _ _ _ ls hx hb hl kk => lv_i2b hx hb d rfl kk) k
theorem at_i2s {g : Gc} {M : Md} {lv pc : Nat} {lc : List (Nat × Value)} {st : List Value} {m : Mm} {Q : Option Value → Mm → Prop} {x : Int32} (pc' : Nat) (hp : pc + 1 = pc') (d : decode M.2.1 pc = .ok (.i2s, 1))  (k : At g M lv pc' lc (.int x.toInt16.toInt32 :: st) m Q) : At g M lv pc lc (.int x :: st) m Q := by
  subst hp
  exact At.lift (fun _ _ _ _ _ _ _ _ _ _ _ _ _ _ _ ls hx hb hl kk => lv_i2s hx hb d rfl kk) k
theorem va_rf_cat (r : Option Nat) : (va_rf r).category = 1 := by cases r <;> rfl
theorem at_dup {g : Gc} {M : Md} {lv pc : Nat} {lc : List (Nat × Value)} {st : List Value} {m : Mm} {Q : Option Value → Mm → Prop} {a : Value} (pc' : Nat) (hp : pc + 1 = pc') (d : decode M.2.1 pc = .ok (.dup, 1)) (hc : a.category = 1) (k : At g M lv pc' lc (a :: a :: st) m Q) : At g M lv pc lc (a :: st) m Q := by
  subst hp
  exact At.lift (fun _ _ _ _ _ _ _ _ _ _ _ _ _ _ _ ls hx hb hl kk => lv_dup hx hb d hc kk) k
theorem at_pop {g : Gc} {M : Md} {lv pc : Nat} {lc : List (Nat × Value)} {st : List Value} {m : Mm} {Q : Option Value → Mm → Prop} {a : Value} (pc' : Nat) (hp : pc + 1 = pc') (d : decode M.2.1 pc = .ok (.pop, 1)) (hc : a.category = 1) (k : At g M lv pc' lc (st) m Q) : At g M lv pc lc (a :: st) m Q := by
  subst hp
  exact At.lift (fun _ _ _ _ _ _ _ _ _ _ _ _ _ _ _ ls hx hb hl kk => lv_pop hx hb d hc kk) k
theorem at_dup_x1 {g : Gc} {M : Md} {lv pc : Nat} {lc : List (Nat × Value)} {st : List Value} {m : Mm} {Q : Option Value → Mm → Prop} {a b : Value} (pc' : Nat) (hp : pc + 1 = pc') (d : decode M.2.1 pc = .ok (.dup_x1, 1)) (hc : a.category = 1) (hc2 : b.category = 1) (k : At g M lv pc' lc (a :: b :: a :: st) m Q) : At g M lv pc lc (a :: b :: st) m Q := by
  subst hp
  exact At.lift (fun _ _ _ _ _ _ _ _ _ _ _ _ _ _ _ ls hx hb hl kk => lv_dup_x1 hx hb d hc hc2 kk) k
theorem at_dup_x2 {g : Gc} {M : Md} {lv pc : Nat} {lc : List (Nat × Value)} {st : List Value} {m : Mm} {Q : Option Value → Mm → Prop} {a b c : Value} (pc' : Nat) (hp : pc + 1 = pc') (d : decode M.2.1 pc = .ok (.dup_x2, 1)) (hc : a.category = 1) (hc2 : b.category = 1) (hc3 : c.category = 1) (k : At g M lv pc' lc (a :: b :: c :: a :: st) m Q) : At g M lv pc lc (a :: b :: c :: st) m Q := by
  subst hp
  exact At.lift (fun _ _ _ _ _ _ _ _ _ _ _ _ _ _ _ ls hx hb hl kk => lv_dup_x2 hx hb d hc hc2 hc3 kk) k
theorem at_dup2_11 {g : Gc} {M : Md} {lv pc : Nat} {lc : List (Nat × Value)} {st : List Value} {m : Mm} {Q : Option Value → Mm → Prop} {a b : Value} (pc' : Nat) (hp : pc + 1 = pc') (d : decode M.2.1 pc = .ok (.dup2, 1)) (hc : a.category = 1) (hc2 : b.category = 1) (k : At g M lv pc' lc (a :: b :: a :: b :: st) m Q) : At g M lv pc lc (a :: b :: st) m Q := by
  subst hp
  exact At.lift (fun _ _ _ _ _ _ _ _ _ _ _ _ _ _ _ ls hx hb hl kk => lv_dup2_11 hx hb d hc hc2 kk) k
theorem at_dup2_2 {g : Gc} {M : Md} {lv pc : Nat} {lc : List (Nat × Value)} {st : List Value} {m : Mm} {Q : Option Value → Mm → Prop} {a : Value} (pc' : Nat) (hp : pc + 1 = pc') (d : decode M.2.1 pc = .ok (.dup2, 1)) (hc : a.category = 2) (k : At g M lv pc' lc (a :: a :: st) m Q) : At g M lv pc lc (a :: st) m Q := by
  subst hp
  exact At.lift (fun _ _ _ _ _ _ _ _ _ _ _ _ _ _ _ ls hx hb hl kk => lv_dup2_2 hx hb d hc kk) k
theorem at_null {g : Gc} {M : Md} {lv pc : Nat} {lc : List (Nat × Value)} {st : List Value} {m : Mm} {Q : Option Value → Mm → Prop}  (pc' : Nat) (hp : pc + 1 = pc') (d : decode M.2.1 pc = .ok (.aconst_null, 1))  (k : At g M lv pc' lc (va_rf none :: st) m Q) : At g M lv pc lc (st) m Q := by
  subst hp
  exact At.lift (fun _ _ _ _ _ _ _ _ _ _ _ _ _ _ _ ls hx hb hl kk => lv_null hx hb d kk) k
theorem at_ldc {g : Gc} {M : Md} {lv pc : Nat} {lc : List (Nat × Value)} {st : List Value} {m : Mm} {Q : Option Value → Mm → Prop} {index : Nat} (v : Int32) (pc' : Nat) (hp : pc + 2 = pc') (d : decode M.2.1 pc = .ok (.ldc index, 2)) (hv : Cond.constant M.1.cls index v ∈ tG) (k : At g M lv pc' lc (.int v :: st) m Q) : At g M lv pc lc st m Q := by
  subst hp
  obtain ⟨r, m', hq, h1, h2, k⟩ := k
  refine ⟨r, m', hq, h1, h2, fun p e s mid args below meth c R c0 s0 H locs ls ha hr hc hs hw hS hl hz => ?_⟩
  exact lv_ldc ha.1 ha.2.1 ha.2.2.2.2.1 (ha.2.2.2.2.2.2.2.1 _ hv args) d (k p e s mid args below meth c R c0 s0 H locs ls ha hr hc hs hw hS hl hz)
theorem at_ldcw {g : Gc} {M : Md} {lv pc : Nat} {lc : List (Nat × Value)} {st : List Value} {m : Mm} {Q : Option Value → Mm → Prop} {index : Nat} (v : Int32) (pc' : Nat) (hp : pc + 3 = pc') (d : decode M.2.1 pc = .ok (.ldc_w index, 3)) (hv : Cond.constant M.1.cls index v ∈ tG) (k : At g M lv pc' lc (.int v :: st) m Q) : At g M lv pc lc st m Q := by
  subst hp
  obtain ⟨r, m', hq, h1, h2, k⟩ := k
  refine ⟨r, m', hq, h1, h2, fun p e s mid args below meth c R c0 s0 H locs ls ha hr hc hs hw hS hl hz => ?_⟩
  exact lv_ldcw ha.1 ha.2.1 ha.2.2.2.2.1 (ha.2.2.2.2.2.2.2.1 _ hv args) d (k p e s mid args below meth c R c0 s0 H locs ls ha hr hc hs hw hS hl hz)
theorem at_ldc2 {g : Gc} {M : Md} {lv pc : Nat} {lc : List (Nat × Value)} {st : List Value} {m : Mm} {Q : Option Value → Mm → Prop} {index : Nat} (v : Int64) (pc' : Nat) (hp : pc + 3 = pc') (d : decode M.2.1 pc = .ok (.ldc2_w index, 3)) (hv : Cond.constantLong M.1.cls index v ∈ tG) (k : At g M lv pc' lc (.long v :: st) m Q) : At g M lv pc lc st m Q := by
  subst hp
  obtain ⟨r, m', hq, h1, h2, k⟩ := k
  refine ⟨r, m', hq, h1, h2, fun p e s mid args below meth c R c0 s0 H locs ls ha hr hc hs hw hS hl hz => ?_⟩
  exact lv_ldc2 ha.1 ha.2.1 ha.2.2.2.2.1 (ha.2.2.2.2.2.2.2.1 _ hv args) d (k p e s mid args below meth c R c0 s0 H locs ls ha hr hc hs hw hS hl hz)
theorem at_ldcS {g : Gc} {M : Md} {lv pc : Nat} {lc : List (Nat × Value)} {st : List Value} {m : Mm} {Q : Option Value → Mm → Prop} {index : Nat} (tx : String) (i : Nat) (pc' : Nat) (hp : pc + 2 = pc') (d : decode M.2.1 pc = .ok (.ldc index, 2)) (hv : (M.1.cls, index, tx, i) ∈ strL) (k : At g M lv pc' lc (va_rf (some (gK g i)) :: st) m Q) : At g M lv pc lc st m Q := by
  subst hp
  obtain ⟨r, m', hq, h1, h2, k⟩ := k
  refine ⟨r, m', hq, h1, h2, fun p e s mid args below meth c R c0 s0 H locs ls ha hr hc hs hw hS hl hz => ?_⟩
  exact va_ldcS ha.1 ha.2.1 ha.2.2.2.2.1 (ha.2.2.2.2.2.2.2.2.2.2.2.2.1 _ hv) d (k p e s mid args below meth c R c0 s0 H locs ls ha hr hc hs hw hS hl hz)
theorem at_icmp_eq {g : Gc} {M : Md} {lv pc : Nat} {lc : List (Nat × Value)} {st : List Value} {m : Mm} {Q : Option Value → Mm → Prop} {x y : Int32} {off : Int} (tgt pc' : Nat) (hp : pc + 3 = pc') (d : decode M.2.1 pc = .ok (.if_icmp .eq off, 3)) (ht : (pc : Int) + off = (tgt : Int)) (kt : x = y → At g M lv tgt lc st m Q) (kf : ¬ (x = y) → At g M lv pc' lc st m Q) : At g M lv pc lc (.int y :: .int x :: st) m Q := by
  subst hp
  by_cases hc : x = y
  · exact At.lift (fun _ _ _ _ _ _ _ _ _ _ _ _ _ _ _ ls hx hb hl kk => lv_icmp_eq hx hb d ht (fun _ => kk) (fun h => absurd hc h)) (kt hc)
  · exact At.lift (fun _ _ _ _ _ _ _ _ _ _ _ _ _ _ _ ls hx hb hl kk => lv_icmp_eq hx hb d ht (fun h => absurd h hc) (fun _ => kk)) (kf hc)
theorem at_if_eq {g : Gc} {M : Md} {lv pc : Nat} {lc : List (Nat × Value)} {st : List Value} {m : Mm} {Q : Option Value → Mm → Prop} {x : Int32} {off : Int} (tgt pc' : Nat) (hp : pc + 3 = pc') (d : decode M.2.1 pc = .ok (.ifCond .eq off, 3)) (ht : (pc : Int) + off = (tgt : Int)) (kt : x = 0 → At g M lv tgt lc st m Q) (kf : ¬ (x = 0) → At g M lv pc' lc st m Q) : At g M lv pc lc (.int x :: st) m Q := by
  subst hp
  by_cases hc : x = 0
  · exact At.lift (fun _ _ _ _ _ _ _ _ _ _ _ _ _ _ _ ls hx hb hl kk => lv_if_eq hx hb d ht (fun _ => kk) (fun h => absurd hc h)) (kt hc)
  · exact At.lift (fun _ _ _ _ _ _ _ _ _ _ _ _ _ _ _ ls hx hb hl kk => lv_if_eq hx hb d ht (fun h => absurd h hc) (fun _ => kk)) (kf hc)
theorem at_icmp_ne {g : Gc} {M : Md} {lv pc : Nat} {lc : List (Nat × Value)} {st : List Value} {m : Mm} {Q : Option Value → Mm → Prop} {x y : Int32} {off : Int} (tgt pc' : Nat) (hp : pc + 3 = pc') (d : decode M.2.1 pc = .ok (.if_icmp .ne off, 3)) (ht : (pc : Int) + off = (tgt : Int)) (kt : ¬ (x = y) → At g M lv tgt lc st m Q) (kf : x = y → At g M lv pc' lc st m Q) : At g M lv pc lc (.int y :: .int x :: st) m Q := by
  subst hp
  by_cases hc : x = y
  · exact At.lift (fun _ _ _ _ _ _ _ _ _ _ _ _ _ _ _ ls hx hb hl kk => lv_icmp_ne hx hb d ht (fun h => absurd hc h) (fun _ => kk)) (kf hc)
  · exact At.lift (fun _ _ _ _ _ _ _ _ _ _ _ _ _ _ _ ls hx hb hl kk => lv_icmp_ne hx hb d ht (fun _ => kk) (fun h => absurd h hc)) (kt hc)
theorem at_if_ne {g : Gc} {M : Md} {lv pc : Nat} {lc : List (Nat × Value)} {st : List Value} {m : Mm} {Q : Option Value → Mm → Prop} {x : Int32} {off : Int} (tgt pc' : Nat) (hp : pc + 3 = pc') (d : decode M.2.1 pc = .ok (.ifCond .ne off, 3)) (ht : (pc : Int) + off = (tgt : Int)) (kt : ¬ (x = 0) → At g M lv tgt lc st m Q) (kf : x = 0 → At g M lv pc' lc st m Q) : At g M lv pc lc (.int x :: st) m Q := by
  subst hp
  by_cases hc : x = 0
  · exact At.lift (fun _ _ _ _ _ _ _ _ _ _ _ _ _ _ _ ls hx hb hl kk => lv_if_ne hx hb d ht (fun h => absurd hc h) (fun _ => kk)) (kf hc)
  · exact At.lift (fun _ _ _ _ _ _ _ _ _ _ _ _ _ _ _ ls hx hb hl kk => lv_if_ne hx hb d ht (fun _ => kk) (fun h => absurd h hc)) (kt hc)
theorem at_icmp_lt {g : Gc} {M : Md} {lv pc : Nat} {lc : List (Nat × Value)} {st : List Value} {m : Mm} {Q : Option Value → Mm → Prop} {x y : Int32} {off : Int} (tgt pc' : Nat) (hp : pc + 3 = pc') (d : decode M.2.1 pc = .ok (.if_icmp .lt off, 3)) (ht : (pc : Int) + off = (tgt : Int)) (kt : x < y → At g M lv tgt lc st m Q) (kf : ¬ (x < y) → At g M lv pc' lc st m Q) : At g M lv pc lc (.int y :: .int x :: st) m Q := by
  subst hp
  by_cases hc : x < y
  · exact At.lift (fun _ _ _ _ _ _ _ _ _ _ _ _ _ _ _ ls hx hb hl kk => lv_icmp_lt hx hb d ht (fun _ => kk) (fun h => absurd hc h)) (kt hc)
  · exact At.lift (fun _ _ _ _ _ _ _ _ _ _ _ _ _ _ _ ls hx hb hl kk => lv_icmp_lt hx hb d ht (fun h => absurd h hc) (fun _ => kk)) (kf hc)
theorem at_if_lt {g : Gc} {M : Md} {lv pc : Nat} {lc : List (Nat × Value)} {st : List Value} {m : Mm} {Q : Option Value → Mm → Prop} {x : Int32} {off : Int} (tgt pc' : Nat) (hp : pc + 3 = pc') (d : decode M.2.1 pc = .ok (.ifCond .lt off, 3)) (ht : (pc : Int) + off = (tgt : Int)) (kt : x < 0 → At g M lv tgt lc st m Q) (kf : ¬ (x < 0) → At g M lv pc' lc st m Q) : At g M lv pc lc (.int x :: st) m Q := by
  subst hp
  by_cases hc : x < 0
  · exact At.lift (fun _ _ _ _ _ _ _ _ _ _ _ _ _ _ _ ls hx hb hl kk => lv_if_lt hx hb d ht (fun _ => kk) (fun h => absurd hc h)) (kt hc)
  · exact At.lift (fun _ _ _ _ _ _ _ _ _ _ _ _ _ _ _ ls hx hb hl kk => lv_if_lt hx hb d ht (fun h => absurd h hc) (fun _ => kk)) (kf hc)
theorem at_icmp_ge {g : Gc} {M : Md} {lv pc : Nat} {lc : List (Nat × Value)} {st : List Value} {m : Mm} {Q : Option Value → Mm → Prop} {x y : Int32} {off : Int} (tgt pc' : Nat) (hp : pc + 3 = pc') (d : decode M.2.1 pc = .ok (.if_icmp .ge off, 3)) (ht : (pc : Int) + off = (tgt : Int)) (kt : y ≤ x → At g M lv tgt lc st m Q) (kf : ¬ (y ≤ x) → At g M lv pc' lc st m Q) : At g M lv pc lc (.int y :: .int x :: st) m Q := by
  subst hp
  by_cases hc : y ≤ x
  · exact At.lift (fun _ _ _ _ _ _ _ _ _ _ _ _ _ _ _ ls hx hb hl kk => lv_icmp_ge hx hb d ht (fun _ => kk) (fun h => absurd hc h)) (kt hc)
  · exact At.lift (fun _ _ _ _ _ _ _ _ _ _ _ _ _ _ _ ls hx hb hl kk => lv_icmp_ge hx hb d ht (fun h => absurd h hc) (fun _ => kk)) (kf hc)
theorem at_if_ge {g : Gc} {M : Md} {lv pc : Nat} {lc : List (Nat × Value)} {st : List Value} {m : Mm} {Q : Option Value → Mm → Prop} {x : Int32} {off : Int} (tgt pc' : Nat) (hp : pc + 3 = pc') (d : decode M.2.1 pc = .ok (.ifCond .ge off, 3)) (ht : (pc : Int) + off = (tgt : Int)) (kt : 0 ≤ x → At g M lv tgt lc st m Q) (kf : ¬ (0 ≤ x) → At g M lv pc' lc st m Q) : At g M lv pc lc (.int x :: st) m Q := by
  subst hp
  by_cases hc : 0 ≤ x
  · exact At.lift (fun _ _ _ _ _ _ _ _ _ _ _ _ _ _ _ ls hx hb hl kk => lv_if_ge hx hb d ht (fun _ => kk) (fun h => absurd hc h)) (kt hc)
  · exact At.lift (fun _ _ _ _ _ _ _ _ _ _ _ _ _ _ _ ls hx hb hl kk => lv_if_ge hx hb d ht (fun h => absurd h hc) (fun _ => kk)) (kf hc)
theorem at_icmp_gt {g : Gc} {M : Md} {lv pc : Nat} {lc : List (Nat × Value)} {st : List Value} {m : Mm} {Q : Option Value → Mm → Prop} {x y : Int32} {off : Int} (tgt pc' : Nat) (hp : pc + 3 = pc') (d : decode M.2.1 pc = .ok (.if_icmp .gt off, 3)) (ht : (pc : Int) + off = (tgt : Int)) (kt : y < x → At g M lv tgt lc st m Q) (kf : ¬ (y < x) → At g M lv pc' lc st m Q) : At g M lv pc lc (.int y :: .int x :: st) m Q := by
  subst hp
  by_cases hc : y < x
  · exact At.lift (fun _ _ _ _ _ _ _ _ _ _ _ _ _ _ _ ls hx hb hl kk => lv_icmp_gt hx hb d ht (fun _ => kk) (fun h => absurd hc h)) (kt hc)
  · exact At.lift (fun _ _ _ _ _ _ _ _ _ _ _ _ _ _ _ ls hx hb hl kk => lv_icmp_gt hx hb d ht (fun h => absurd h hc) (fun _ => kk)) (kf hc)
theorem at_if_gt {g : Gc} {M : Md} {lv pc : Nat} {lc : List (Nat × Value)} {st : List Value} {m : Mm} {Q : Option Value → Mm → Prop} {x : Int32} {off : Int} (tgt pc' : Nat) (hp : pc + 3 = pc') (d : decode M.2.1 pc = .ok (.ifCond .gt off, 3)) (ht : (pc : Int) + off = (tgt : Int)) (kt : 0 < x → At g M lv tgt lc st m Q) (kf : ¬ (0 < x) → At g M lv pc' lc st m Q) : At g M lv pc lc (.int x :: st) m Q := by
  subst hp
  by_cases hc : 0 < x
  · exact At.lift (fun _ _ _ _ _ _ _ _ _ _ _ _ _ _ _ ls hx hb hl kk => lv_if_gt hx hb d ht (fun _ => kk) (fun h => absurd hc h)) (kt hc)
  · exact At.lift (fun _ _ _ _ _ _ _ _ _ _ _ _ _ _ _ ls hx hb hl kk => lv_if_gt hx hb d ht (fun h => absurd h hc) (fun _ => kk)) (kf hc)
theorem at_icmp_le {g : Gc} {M : Md} {lv pc : Nat} {lc : List (Nat × Value)} {st : List Value} {m : Mm} {Q : Option Value → Mm → Prop} {x y : Int32} {off : Int} (tgt pc' : Nat) (hp : pc + 3 = pc') (d : decode M.2.1 pc = .ok (.if_icmp .le off, 3)) (ht : (pc : Int) + off = (tgt : Int)) (kt : x ≤ y → At g M lv tgt lc st m Q) (kf : ¬ (x ≤ y) → At g M lv pc' lc st m Q) : At g M lv pc lc (.int y :: .int x :: st) m Q := by
  subst hp
  by_cases hc : x ≤ y
  · exact At.lift (fun _ _ _ _ _ _ _ _ _ _ _ _ _ _ _ ls hx hb hl kk => lv_icmp_le hx hb d ht (fun _ => kk) (fun h => absurd hc h)) (kt hc)
  · exact At.lift (fun _ _ _ _ _ _ _ _ _ _ _ _ _ _ _ ls hx hb hl kk => lv_icmp_le hx hb d ht (fun h => absurd h hc) (fun _ => kk)) (kf hc)
theorem at_if_le {g : Gc} {M : Md} {lv pc : Nat} {lc : List (Nat × Value)} {st : List Value} {m : Mm} {Q : Option Value → Mm → Prop} {x : Int32} {off : Int} (tgt pc' : Nat) (hp : pc + 3 = pc') (d : decode M.2.1 pc = .ok (.ifCond .le off, 3)) (ht : (pc : Int) + off = (tgt : Int)) (kt : x ≤ 0 → At g M lv tgt lc st m Q) (kf : ¬ (x ≤ 0) → At g M lv pc' lc st m Q) : At g M lv pc lc (.int x :: st) m Q := by
  subst hp
  by_cases hc : x ≤ 0
  · exact At.lift (fun _ _ _ _ _ _ _ _ _ _ _ _ _ _ _ ls hx hb hl kk => lv_if_le hx hb d ht (fun _ => kk) (fun h => absurd hc h)) (kt hc)
  · exact At.lift (fun _ _ _ _ _ _ _ _ _ _ _ _ _ _ _ ls hx hb hl kk => lv_if_le hx hb d ht (fun h => absurd h hc) (fun _ => kk)) (kf hc)
theorem at_goto {g : Gc} {M : Md} {lv pc : Nat} {lc : List (Nat × Value)} {st : List Value} {m : Mm} {Q : Option Value → Mm → Prop} {off : Int} (tgt : Nat) (d : decode M.2.1 pc = .ok (.goto off, 3)) (ht : (pc : Int) + off = (tgt : Int)) (k : At g M lv tgt lc st m Q) : At g M lv pc lc st m Q := At.lift (fun _ _ _ _ _ _ _ _ _ _ _ _ _ _ _ ls hx hb hl kk => lv_goto hx hb d ht kk) k
theorem at_acmp_eq {g : Gc} {M : Md} {lv pc : Nat} {lc : List (Nat × Value)} {st : List Value} {m : Mm} {Q : Option Value → Mm → Prop} {x y : Option Nat} {off : Int} (tgt pc' : Nat) (hp : pc + 3 = pc') (d : decode M.2.1 pc = .ok (.if_acmp .eq off, 3)) (ht : (pc : Int) + off = (tgt : Int)) (kt : x = y → At g M lv tgt lc st m Q) (kf : ¬ (x = y) → At g M lv pc' lc st m Q) : At g M lv pc lc (va_rf y :: va_rf x :: st) m Q := by
  subst hp
  by_cases hc : x = y
  · exact At.lift (fun _ _ _ _ _ _ _ _ _ _ _ _ _ _ _ ls hx hb hl kk => lv_acmp_eq hx hb d ht (fun _ => kk) (fun h => absurd hc h)) (kt hc)
  · exact At.lift (fun _ _ _ _ _ _ _ _ _ _ _ _ _ _ _ ls hx hb hl kk => lv_acmp_eq hx hb d ht (fun h => absurd h hc) (fun _ => kk)) (kf hc)
theorem at_acmp_ne {g : Gc} {M : Md} {lv pc : Nat} {lc : List (Nat × Value)} {st : List Value} {m : Mm} {Q : Option Value → Mm → Prop} {x y : Option Nat} {off : Int} (tgt pc' : Nat) (hp : pc + 3 = pc') (d : decode M.2.1 pc = .ok (.if_acmp .ne off, 3)) (ht : (pc : Int) + off = (tgt : Int)) (kt : ¬ (x = y) → At g M lv tgt lc st m Q) (kf : x = y → At g M lv pc' lc st m Q) : At g M lv pc lc (va_rf y :: va_rf x :: st) m Q := by
  subst hp
  by_cases hc : x = y
  · exact At.lift (fun _ _ _ _ _ _ _ _ _ _ _ _ _ _ _ ls hx hb hl kk => lv_acmp_ne hx hb d ht (fun h => absurd hc h) (fun _ => kk)) (kf hc)
  · exact At.lift (fun _ _ _ _ _ _ _ _ _ _ _ _ _ _ _ ls hx hb hl kk => lv_acmp_ne hx hb d ht (fun _ => kk) (fun h => absurd h hc)) (kt hc)
theorem at_ifnull {g : Gc} {M : Md} {lv pc : Nat} {lc : List (Nat × Value)} {st : List Value} {m : Mm} {Q : Option Value → Mm → Prop} {x : Option Nat} {off : Int} (tgt pc' : Nat) (hp : pc + 3 = pc') (d : decode M.2.1 pc = .ok (.ifnull off, 3)) (ht : (pc : Int) + off = (tgt : Int)) (kt : x = none → At g M lv tgt lc st m Q) (kf : ¬ (x = none) → At g M lv pc' lc st m Q) : At g M lv pc lc (va_rf x :: st) m Q := by
  subst hp
  cases x with
  | none => exact At.lift (fun _ _ _ _ _ _ _ _ _ _ _ _ _ _ _ ls hx hb hl kk => lv_ifnullN hx hb d ht kk) (kt rfl)
  | some a => exact At.lift (fun _ _ _ _ _ _ _ _ _ _ _ _ _ _ _ ls hx hb hl kk => lv_ifnull hx hb d kk) (kf (fun h => by cases h))
theorem at_ifnonnull {g : Gc} {M : Md} {lv pc : Nat} {lc : List (Nat × Value)} {st : List Value} {m : Mm} {Q : Option Value → Mm → Prop} {x : Option Nat} {off : Int} (tgt pc' : Nat) (hp : pc + 3 = pc') (d : decode M.2.1 pc = .ok (.ifnonnull off, 3)) (ht : (pc : Int) + off = (tgt : Int)) (kt : ¬ (x = none) → At g M lv tgt lc st m Q) (kf : x = none → At g M lv pc' lc st m Q) : At g M lv pc lc (va_rf x :: st) m Q := by
  subst hp
  cases x with
  | none => exact At.lift (fun _ _ _ _ _ _ _ _ _ _ _ _ _ _ _ ls hx hb hl kk => lv_ifnonnullN hx hb d kk) (kf rfl)
  | some a => exact At.lift (fun _ _ _ _ _ _ _ _ _ _ _ _ _ _ _ ls hx hb hl kk => lv_ifnonnull hx hb d ht kk) (kt (fun h => by cases h))
theorem at_lcmp {g : Gc} {M : Md} {lv pc : Nat} {lc : List (Nat × Value)} {st : List Value} {m : Mm} {Q : Option Value → Mm → Prop} {x y : Int64} (pc' : Nat) (hp : pc + 1 = pc') (d : decode M.2.1 pc = .ok (.lcmp, 1))  (k : At g M lv pc' lc (.int (lg_cmp x y) :: st) m Q) : At g M lv pc lc (.long y :: .long x :: st) m Q := by
  subst hp
  exact At.lift (fun _ _ _ _ _ _ _ _ _ _ _ _ _ _ _ ls hx hb hl kk => W.lcmp hx hb d kk) k
theorem at_lif_eq {g : Gc} {M : Md} {lv pc : Nat} {lc : List (Nat × Value)} {st : List Value} {m : Mm} {Q : Option Value → Mm → Prop} {x y : Int64} {off : Int} (pc1 tgt pc2 : Nat) (hp1 : pc + 1 = pc1) (hp2 : pc1 + 3 = pc2) (d1 : decode M.2.1 pc = .ok (.lcmp, 1)) (d2 : decode M.2.1 pc1 = .ok (.ifCond .eq off, 3)) (ht : (pc1 : Int) + off = (tgt : Int)) (kt : x = y → At g M lv tgt lc st m Q) (kf : ¬ (x = y) → At g M lv pc2 lc st m Q) : At g M lv pc lc (.long y :: .long x :: st) m Q := at_lcmp pc1 hp1 d1 (at_if_eq tgt pc2 hp2 d2 ht (fun h => kt ((lg_cmp_eq x y).mp h)) (fun h => kf (fun h2 => h ((lg_cmp_eq x y).mpr h2))))
theorem at_lif_ne {g : Gc} {M : Md} {lv pc : Nat} {lc : List (Nat × Value)} {st : List Value} {m : Mm} {Q : Option Value → Mm → Prop} {x y : Int64} {off : Int} (pc1 tgt pc2 : Nat) (hp1 : pc + 1 = pc1) (hp2 : pc1 + 3 = pc2) (d1 : decode M.2.1 pc = .ok (.lcmp, 1)) (d2 : decode M.2.1 pc1 = .ok (.ifCond .ne off, 3)) (ht : (pc1 : Int) + off = (tgt : Int)) (kt : ¬ (x = y) → At g M lv tgt lc st m Q) (kf : x = y → At g M lv pc2 lc st m Q) : At g M lv pc lc (.long y :: .long x :: st) m Q := at_lcmp pc1 hp1 d1 (at_if_ne tgt pc2 hp2 d2 ht (fun h => kt (fun h2 => h ((lg_cmp_eq x y).mpr h2))) (fun h => kf ((lg_cmp_eq x y).mp h)))
theorem at_lif_lt {g : Gc} {M : Md} {lv pc : Nat} {lc : List (Nat × Value)} {st : List Value} {m : Mm} {Q : Option Value → Mm → Prop} {x y : Int64} {off : Int} (pc1 tgt pc2 : Nat) (hp1 : pc + 1 = pc1) (hp2 : pc1 + 3 = pc2) (d1 : decode M.2.1 pc = .ok (.lcmp, 1)) (d2 : decode M.2.1 pc1 = .ok (.ifCond .lt off, 3)) (ht : (pc1 : Int) + off = (tgt : Int)) (kt : x < y → At g M lv tgt lc st m Q) (kf : ¬ (x < y) → At g M lv pc2 lc st m Q) : At g M lv pc lc (.long y :: .long x :: st) m Q := at_lcmp pc1 hp1 d1 (at_if_lt tgt pc2 hp2 d2 ht (fun h => kt ((lg_cmp_lt x y).mp h)) (fun h => kf (fun h2 => h ((lg_cmp_lt x y).mpr h2))))
theorem at_lif_ge {g : Gc} {M : Md} {lv pc : Nat} {lc : List (Nat × Value)} {st : List Value} {m : Mm} {Q : Option Value → Mm → Prop} {x y : Int64} {off : Int} (pc1 tgt pc2 : Nat) (hp1 : pc + 1 = pc1) (hp2 : pc1 + 3 = pc2) (d1 : decode M.2.1 pc = .ok (.lcmp, 1)) (d2 : decode M.2.1 pc1 = .ok (.ifCond .ge off, 3)) (ht : (pc1 : Int) + off = (tgt : Int)) (kt : y ≤ x → At g M lv tgt lc st m Q) (kf : ¬ (y ≤ x) → At g M lv pc2 lc st m Q) : At g M lv pc lc (.long y :: .long x :: st) m Q := at_lcmp pc1 hp1 d1 (at_if_ge tgt pc2 hp2 d2 ht (fun h => kt ((lg_cmp_ge x y).mp h)) (fun h => kf (fun h2 => h ((lg_cmp_ge x y).mpr h2))))
theorem at_lif_gt {g : Gc} {M : Md} {lv pc : Nat} {lc : List (Nat × Value)} {st : List Value} {m : Mm} {Q : Option Value → Mm → Prop} {x y : Int64} {off : Int} (pc1 tgt pc2 : Nat) (hp1 : pc + 1 = pc1) (hp2 : pc1 + 3 = pc2) (d1 : decode M.2.1 pc = .ok (.lcmp, 1)) (d2 : decode M.2.1 pc1 = .ok (.ifCond .gt off, 3)) (ht : (pc1 : Int) + off = (tgt : Int)) (kt : y < x → At g M lv tgt lc st m Q) (kf : ¬ (y < x) → At g M lv pc2 lc st m Q) : At g M lv pc lc (.long y :: .long x :: st) m Q := at_lcmp pc1 hp1 d1 (at_if_gt tgt pc2 hp2 d2 ht (fun h => kt ((lg_cmp_gt x y).mp h)) (fun h => kf (fun h2 => h ((lg_cmp_gt x y).mpr h2))))
theorem at_lif_le {g : Gc} {M : Md} {lv pc : Nat} {lc : List (Nat × Value)} {st : List Value} {m : Mm} {Q : Option Value → Mm → Prop} {x y : Int64} {off : Int} (pc1 tgt pc2 : Nat) (hp1 : pc + 1 = pc1) (hp2 : pc1 + 3 = pc2) (d1 : decode M.2.1 pc = .ok (.lcmp, 1)) (d2 : decode M.2.1 pc1 = .ok (.ifCond .le off, 3)) (ht : (pc1 : Int) + off = (tgt : Int)) (kt : x ≤ y → At g M lv tgt lc st m Q) (kf : ¬ (x ≤ y) → At g M lv pc2 lc st m Q) : At g M lv pc lc (.long y :: .long x :: st) m Q := at_lcmp pc1 hp1 d1 (at_if_le tgt pc2 hp2 d2 ht (fun h => kt ((lg_cmp_le x y).mp h)) (fun h => kf (fun h2 => h ((lg_cmp_le x y).mpr h2))))
theorem ne_toInt {x k : Int32} (h : ¬ x = k) : x.toInt ≠ k.toInt := fun e => h (Int32.toInt_inj.mp e)
theorem at_tabOut {g : Gc} {M : Md} {lv pc : Nat} {lc : List (Nat × Value)} {st : List Value} {m : Mm} {Q : Option Value → Mm → Prop} {dflt lo hi : Int} {offs : Array Int} {len : Nat} {x : Int32} (tgt : Nat) (d : decode M.2.1 pc = .ok (.tableswitch dflt lo hi offs, len)) (h : x.toInt < lo ∨ hi < x.toInt) (ht : (pc : Int) + dflt = (tgt : Int)) (k : At g M lv tgt lc st m Q) : At g M lv pc lc (.int x :: st) m Q := At.lift (fun _ _ _ _ _ _ _ _ _ _ _ _ _ _ _ ls hx hb hl kk => lv_tableOut hx hb d h ht kk) k
theorem at_tabIn {g : Gc} {M : Md} {lv pc : Nat} {lc : List (Nat × Value)} {st : List Value} {m : Mm} {Q : Option Value → Mm → Prop} {dflt lo hi : Int} {offs : Array Int} {len : Nat} {x : Int32} {off : Int} (tgt : Nat) (d : decode M.2.1 pc = .ok (.tableswitch dflt lo hi offs, len)) (h1 : ¬ x.toInt < lo) (h2 : ¬ hi < x.toInt) (ho : offs[(x.toInt - lo).toNat]? = some off) (ht : (pc : Int) + off = (tgt : Int)) (k : At g M lv tgt lc st m Q) : At g M lv pc lc (.int x :: st) m Q := At.lift (fun _ _ _ _ _ _ _ _ _ _ _ _ _ _ _ ls hx hb hl kk => lv_tableIn hx hb d h1 h2 ho ht kk) k
theorem at_look {g : Gc} {M : Md} {lv pc : Nat} {lc : List (Nat × Value)} {st : List Value} {m : Mm} {Q : Option Value → Mm → Prop} {dflt : Int} {ps : Array (Int × Int)} {len : Nat} {x : Int32} {off : Int} (tgt : Nat) (d : decode M.2.1 pc = .ok (.lookupswitch dflt ps, len)) (hp : (ps.toList.zip (ps.toList.drop 1)).all (fun (a, next) => a.1 < next.1) = true) (ho : Op.lookupswitch.offset ps.toList dflt x.toInt = off) (ht : (pc : Int) + off = (tgt : Int)) (k : At g M lv tgt lc st m Q) : At g M lv pc lc (.int x :: st) m Q := At.lift (fun _ _ _ _ _ _ _ _ _ _ _ _ _ _ _ ls hx hb hl kk => lv_lookup hx hb d hp ho ht kk) k
def QI (Q : Int32 → Mm → Prop) : Option Value → Mm → Prop := fun r m => ∃ x, r = some (.int x) ∧ Q x m
def QJ (Q : Int64 → Mm → Prop) : Option Value → Mm → Prop := fun r m => ∃ x, r = some (.long x) ∧ Q x m
def QR (Q : Option Nat → Mm → Prop) : Option Value → Mm → Prop := fun r m => ∃ x, r = some (va_rf x) ∧ Q x m
def QV (Q : Mm → Prop) : Option Value → Mm → Prop := fun r m => r = none ∧ Q m
def b01 (x : Int32) : Prop := x = 0 ∨ x = 1
theorem nar_z {x : Int32} (h : b01 x) : narrow .boolean (.int x) = .int x := by rcases h with rfl | rfl <;> rfl
theorem fit_z {x : Int32} (h : b01 x) : fits .boolean (.int x) = true := by rcases h with rfl | rfl <;> rfl
theorem at_iret {g : Gc} {M : Md} {lv pc : Nat} {lc : List (Nat × Value)} {m : Mm} {x : Int32} {Q : Int32 → Mm → Prop} (hM : M.2.2.2 = some .int) (d : decode M.2.1 pc = .ok (.ireturn, 1))  (k : Q x m) : At g M lv pc lc [.int x] m (QI Q) := by
  refine ⟨some (.int x), m, ⟨_, rfl, k⟩, Nat.le_refl _, ⟨Nat.le_refl _, Ext.refl m⟩, fun p e s mid args below meth c R c0 s0 H locs ls ha hr hc hs hw hS hl hz => ?_⟩
  obtain ⟨hx, hb, hr, -, -, hlk, -, -⟩ := ha
  have hret : meth.sig.returnType = _ := hr.trans hM
  exact W.iret hx hb hret (fun t ht _ => ⟨rfl, by rw [ht]; exact hw, hS.F ht⟩) hS.2.2 d hlk
theorem at_zret {g : Gc} {M : Md} {lv pc : Nat} {lc : List (Nat × Value)} {m : Mm} {x : Int32} {Q : Int32 → Mm → Prop} (hM : M.2.2.2 = some .boolean) (d : decode M.2.1 pc = .ok (.ireturn, 1)) (h01 : b01 x) (k : Q x m) : At g M lv pc lc [.int x] m (QI Q) := by
  refine ⟨some (.int x), m, ⟨_, rfl, k⟩, Nat.le_refl _, ⟨Nat.le_refl _, Ext.refl m⟩, fun p e s mid args below meth c R c0 s0 H locs ls ha hr hc hs hw hS hl hz => ?_⟩
  obtain ⟨hx, hb, hr, -, -, hlk, -, -⟩ := ha
  have hret : meth.sig.returnType = _ := hr.trans hM
  exact W.zret hx hb hret (nar_z h01) (fun t ht _ => ⟨rfl, by rw [ht]; exact hw, hS.F ht⟩) hS.2.2 d hlk
theorem at_lret {g : Gc} {M : Md} {lv pc : Nat} {lc : List (Nat × Value)} {m : Mm} {x : Int64} {Q : Int64 → Mm → Prop} (hM : M.2.2.2 = some .long) (d : decode M.2.1 pc = .ok (.lreturn, 1))  (k : Q x m) : At g M lv pc lc [.long x] m (QJ Q) := by
  refine ⟨some (.long x), m, ⟨_, rfl, k⟩, Nat.le_refl _, ⟨Nat.le_refl _, Ext.refl m⟩, fun p e s mid args below meth c R c0 s0 H locs ls ha hr hc hs hw hS hl hz => ?_⟩
  obtain ⟨hx, hb, hr, -, -, hlk, -, -⟩ := ha
  have hret : meth.sig.returnType = _ := hr.trans hM
  exact W.lret hx hb hret (fun t ht _ => ⟨rfl, by rw [ht]; exact hw, hS.F ht⟩) hS.2.2 d hlk
theorem at_vret {g : Gc} {M : Md} {lv pc : Nat} {lc : List (Nat × Value)} {m : Mm} {Q : Mm → Prop} (hM : M.2.2.2 = none) (d : decode M.2.1 pc = .ok (.return_, 1))  (k : Q m) : At g M lv pc lc [] m (QV Q) := by
  refine ⟨none, m, ⟨rfl, k⟩, Nat.le_refl _, ⟨Nat.le_refl _, Ext.refl m⟩, fun p e s mid args below meth c R c0 s0 H locs ls ha hr hc hs hw hS hl hz => ?_⟩
  obtain ⟨hx, hb, hr, -, -, hlk, -, -⟩ := ha
  have hret : meth.sig.returnType = _ := hr.trans hM
  exact W.vret hx hb hret (fun t ht _ => ⟨rfl, by rw [ht]; exact hw, hS.F ht⟩) hS.2.2 d hlk
theorem at_aret {g : Gc} {M : Md} {lv pc : Nat} {lc : List (Nat × Value)} {m : Mm} {x : Option Nat} {Q : Option Nat → Mm → Prop} {rt : FieldType} (hM : M.2.2.2 = some rt) (hrt : (∃ n, rt = .object n) ∨ ∃ t, rt = .array t) (d : decode M.2.1 pc = .ok (.areturn, 1)) (k : Q x m) : At g M lv pc lc [va_rf x] m (QR Q) := by
  refine ⟨some (va_rf x), m, ⟨_, rfl, k⟩, Nat.le_refl _, ⟨Nat.le_refl _, Ext.refl m⟩, fun p e s mid args below meth c R c0 s0 H locs ls ha hr hc hs hw hS hl hz => ?_⟩
  obtain ⟨hx, hb, hr, -, -, hlk, -, -⟩ := ha
  have hret : meth.sig.returnType = _ := hr.trans hM
  exact W.aret hx hb hret hrt (by cases x with | none => exact Or.inl rfl | some a => exact Or.inr ⟨a, rfl⟩) (fun t ht _ => ⟨rfl, by rw [ht]; exact hw, hS.F ht⟩) hS.2.2 d hlk
