/-! ===== the rules of the heap ===== -/
/-- a class of the world, its fields, its words -/
def Cok (ci : Nat) (C : String) (T : u_T) (ty : Nat → FieldType) (N : Nat) : Prop := vwCl[ci]? = some (C, T, N) ∧ (∀ w ∈ u_ws C T N, w ∈ tG) ∧ N = nf ci ∧ (∀ k, k < N → parseFieldDescriptor (T k).2.2.1 = some (ty k)) ∧ (∀ a, a < N → ∀ b, b < N → a ≠ b → (T a).2.1 ≠ (T b).2.1) ∧ ci < 13 ∧ ∀ k, k < N → defaultValue (ty k) = (match ft ci k with | 0 => .int 0 | 1 => .long 0 | _ => .null)
theorem entK_obj (g : Gc) (m : Mm) (a : Nat) {ci : Nat} (h : ci < 13) : entK g m a (ci + 1) = .inr (ci, flds m a ci) := by
  rcases (show ci = 0 ∨ ci = 1 ∨ ci = 2 ∨ ci = 3 ∨ ci = 4 ∨ ci = 5 ∨ ci = 6 ∨ ci = 7 ∨ ci = 8 ∨ ci = 9 ∨ ci = 10 ∨ ci = 11 ∨ ci = 12 by omega) with rfl | rfl | rfl | rfl | rfl | rfl | rfl | rfl | rfl | rfl | rfl | rfl | rfl <;> rfl
theorem flds_get (m : Mm) (a : Nat) {ci j : Nat} (h : j < nf ci) : (flds m a ci)[j]? = some (fv m a j (ft ci j)) := by simp [flds, h]
theorem flds_len (m : Mm) (a ci : Nat) : (flds m a ci).length = nf ci := by simp [flds]
theorem flds_set {m m' : Mm} {a ci j : Nat} {v : Value} (hj : fv m' a j (ft ci j) = v) (ho : ∀ i, i ≠ j → ∀ t, fv m' a i t = fv m a i t) : (flds m a ci).set j v = flds m' a ci := by
  refine List.ext_getElem? (fun i => ?_)
  by_cases hi : i < nf ci
  · rw [flds_get m' a hi]
    by_cases hij : i = j
    · subst hij
      rw [List.getElem?_set_self (by rw [flds_len]; exact hi), hj]
    · rw [List.getElem?_set_ne (fun h => hij h.symm), flds_get m a hi, ho i hij]
  · rw [List.getElem?_eq_none (by rw [List.length_set, flds_len]; omega), List.getElem?_eq_none (by rw [flds_len]; omega)]
theorem obj_get {g : Gc} {m : Mm} {H : Heap} (hw : Wd g m H) {a ci : Nat} (hci : ci < 13) (hk : mK m a = ci + 1) : (wld g m)[a - gz g]? = some (a, .inr (ci, flds m a ci)) := by
  rw [wld_get hw hk (by omega), entK_obj g m a hci]
theorem Wd.z {g : Gc} {m : Mm} {H : Heap} (hw : Wd g m H) {a k : Nat} (hk : mK m a = k) (h0 : k ≠ 0) : gz g ≤ a := (hw.2.1 a (by rw [hk]; exact h0)).1
section HEAP
variable {g : Gc} {M : Md} {lv pc : Nat} {lc : List (Nat × Value)} {st : List Value} {m : Mm} {Q : Option Value → Mm → Prop}
theorem at_get {ci : Nat} {C : String} {T : u_T} {ty : Nat → FieldType} {N : Nat} (hC : Cok ci C T ty N) (j : Nat) {index a : Nat} {v : Value} (pc' : Nat) (hp : pc + 3 = pc') (d : decode M.2.1 pc = .ok (.getfield index, 3)) (hk : mK m a = ci + 1) (hj : j < N) (hlink : Cond.fieldLink M.1.cls index (T j).1 (T j).2.1 (T j).2.2.1 ∈ tG) (hv : fv m a j (ft ci j) = v) (k : At g M lv pc' lc (v :: st) m Q) : At g M lv pc lc (va_rf (some a) :: st) m Q := by
  subst hp
  obtain ⟨r, m', hq, h1, h2, k⟩ := k
  refine ⟨r, m', hq, h1, h2, fun p e s mid args below meth c R c0 s0 H locs ls ha hr hc hs hw hS hl hz => ?_⟩
  have hE := ha.2.2.2.2.2.2.2
  obtain ⟨c1, c2, c3, c4, c5, c6, c7⟩ := hC
  exact va_get (D := gD g) (cl := vwCl) (tys := gT g) (ws := wld g m) (ci := ci) (C := C) (T := T) (N := N) ha.1 ha.2.1 (fun w hw => hE.1 w hw args) c2 ha.2.2.2.2.1 hE.2.2.2.1 hw.2.2 (a - gz g) (obj_get hw c6 hk) c1 j hj (hE.1 _ hlink args) (fun _ h => h) (by rw [flds_get m a (by omega), hv]) d (k p e s mid args below meth c R c0 s0 H locs ls ha hr hc hs hw hS hl hz)
/-- behind a store: the world m', cells and slots as they were -/
theorem Rn.put {r : Option Value} {m1 m' : Mm} {pc2 : Nat} {lc' : List (Nat × Value)} {st' : List Value} (k : Rn g M lv r m' pc2 lc' st' m1) {p : Program} {e : Env} {s : State} {mid : MethodId} {args : Array Value} {below : List Frame} {meth : Method} {c : Code} {R : Room} {c0 s0 : Nat} {H H1 : Heap} {locs : List Loc} {ls : Array Slot}
    (ha : Act g M p s mid meth c) (hr : lv ≤ R.frames ∧ 64 * lv ≤ R.locals ∧ mC m' - c0 ≤ R.cells ∧ mS m' - s0 ≤ R.slots) (hc : c0 ≤ mC m) (hs : s0 ≤ mS m) (hw : Wd g m H) (hz : s.heap.size = gz g + c0) (hcm : mC m1 = mC m) (hsm : mS m1 = mS m) (hkm : mK m1 = mK m) (hP : va_P (gD g) vwCl (wld g m1) H1) (hS : va_S (gA g) s.heap H1 locs) (hl : lv_has ls M.2.2.1 lc') :
    W p (gl g) e R s mid args below meth c H1 locs (mC m - c0) (mS m - s0) (MQ below (QX g r m') args s (mC m' - c0) (mS m' - s0) (gA g)) (F0 mid pc2 ls st') := by
  have hlo : gz g + mC m1 ≤ H1.size := wld_lo hP (Nat.le_trans (by omega) hS.1)
  refine W.sz (n := gz g + mC m1) hlo (by omega) (fun hsz => ?_)
  have := k.2.2 p e s mid args below meth c R c0 s0 H1 locs ls ha hr (by omega) (by omega) ⟨hsz, by rw [hkm, hcm]; exact hw.2.1, hP⟩ hS hl hz
  rw [hcm, hsm] at this
  exact this
theorem at_putI {ci : Nat} {C : String} {T : u_T} {ty : Nat → FieldType} {N : Nat} (hC : Cok ci C T ty N) (j : Nat) {index a : Nat} {x : Int32} (pc' : Nat) (hp : pc + 3 = pc') (d : decode M.2.1 pc = .ok (.putfield index, 3)) (hk : mK m a = ci + 1) (hj : j < N) (hlink : Cond.fieldLink M.1.cls index (T j).1 (T j).2.1 (T j).2.2.1 ∈ tG) (hfin : (T j).2.2.2 = false) (hft : ft ci j = 0) (hty : ty j = .int)  (k : ∀ mm, mm = sI m a j x → At g M lv pc' lc st mm Q) : At g M lv pc lc (.int x :: va_rf (some a) :: st) m Q := by
  subst hp
  have k := k _ rfl
  obtain ⟨r, m', hq, h1, h2, k⟩ := k
  refine ⟨r, m', hq, h1, h2, fun p e s mid args below meth c R c0 s0 H locs ls ha hr hc hs hw hS hl hz => ?_⟩
  have hE := ha.2.2.2.2.2.2.2
  obtain ⟨c1, c2, c3, c4, c5, c6, c7⟩ := hC
  have hset : (wld g m).set (a - gz g) (a, .inr (ci, (flds m a ci).set j (.int x))) = wld g (sI m a j x) := by
    refine wld_set (hw.z hk (by omega)) rfl rfl (fun b hb => ⟨by show up2 _ _ _ _ _ = _; exact up2_ne hb, rfl, rfl, rfl⟩) ?_
    rw [hk, entK_obj g _ a c6]
    refine congrArg (fun l => Sum.inr (ci, l)) (flds_set ?_ ?_).symm
    · rw [hft]; simp [fv, mI, mL, mR, sI, sL, sR, up2]
    · intro i hi t
      unfold fv
      split <;> simp [mI, mL, mR, sI, sL, sR, up2, hi]
  refine va_put (D := gD g) (cl := vwCl) (tys := gT g) (ws := wld g m) (A := gA g) (H0 := s.heap) (ci := ci) (C := C) (T := T) (N := N) ha.1 ha.2.1 (fun w hw => hE.1 w hw args) c2 ty c4 c5 ha.2.2.2.2.1 hE.2.2.2.1 hw.2.2 (wld_D g m) hS (a - gz g) (obj_get hw c6 hk) c1 j hj (hE.1 _ hlink args) (fun _ h => h) hfin (c4 j hj) (by rw [hty]; rfl) (by rw [hty]; rfl) (by rw [flds_len]; omega) d (fun H1 locs1 hP1 hD1 hS1 => ?_)
  rw [hset] at hP1
  exact Rn.put (m := m) ⟨h1, h2, k⟩ ha hr hc hs hw hz rfl rfl rfl hP1 hS1 hl
theorem at_putZ {ci : Nat} {C : String} {T : u_T} {ty : Nat → FieldType} {N : Nat} (hC : Cok ci C T ty N) (j : Nat) {index a : Nat} {x : Int32} (pc' : Nat) (hp : pc + 3 = pc') (d : decode M.2.1 pc = .ok (.putfield index, 3)) (hk : mK m a = ci + 1) (hj : j < N) (hlink : Cond.fieldLink M.1.cls index (T j).1 (T j).2.1 (T j).2.2.1 ∈ tG) (hfin : (T j).2.2.2 = false) (hft : ft ci j = 0) (hty : ty j = .boolean) (h01 : b01 x) (k : ∀ mm, mm = sI m a j x → At g M lv pc' lc st mm Q) : At g M lv pc lc (.int x :: va_rf (some a) :: st) m Q := by
  subst hp
  have k := k _ rfl
  obtain ⟨r, m', hq, h1, h2, k⟩ := k
  refine ⟨r, m', hq, h1, h2, fun p e s mid args below meth c R c0 s0 H locs ls ha hr hc hs hw hS hl hz => ?_⟩
  have hE := ha.2.2.2.2.2.2.2
  obtain ⟨c1, c2, c3, c4, c5, c6, c7⟩ := hC
  have hset : (wld g m).set (a - gz g) (a, .inr (ci, (flds m a ci).set j (.int x))) = wld g (sI m a j x) := by
    refine wld_set (hw.z hk (by omega)) rfl rfl (fun b hb => ⟨by show up2 _ _ _ _ _ = _; exact up2_ne hb, rfl, rfl, rfl⟩) ?_
    rw [hk, entK_obj g _ a c6]
    refine congrArg (fun l => Sum.inr (ci, l)) (flds_set ?_ ?_).symm
    · rw [hft]; simp [fv, mI, mL, mR, sI, sL, sR, up2]
    · intro i hi t
      unfold fv
      split <;> simp [mI, mL, mR, sI, sL, sR, up2, hi]
  refine va_put (D := gD g) (cl := vwCl) (tys := gT g) (ws := wld g m) (A := gA g) (H0 := s.heap) (ci := ci) (C := C) (T := T) (N := N) ha.1 ha.2.1 (fun w hw => hE.1 w hw args) c2 ty c4 c5 ha.2.2.2.2.1 hE.2.2.2.1 hw.2.2 (wld_D g m) hS (a - gz g) (obj_get hw c6 hk) c1 j hj (hE.1 _ hlink args) (fun _ h => h) hfin (c4 j hj) (by rw [hty]; exact nar_z h01) (by rw [hty]; exact fit_z h01) (by rw [flds_len]; omega) d (fun H1 locs1 hP1 hD1 hS1 => ?_)
  rw [hset] at hP1
  exact Rn.put (m := m) ⟨h1, h2, k⟩ ha hr hc hs hw hz rfl rfl rfl hP1 hS1 hl
theorem at_putJ {ci : Nat} {C : String} {T : u_T} {ty : Nat → FieldType} {N : Nat} (hC : Cok ci C T ty N) (j : Nat) {index a : Nat} {x : Int64} (pc' : Nat) (hp : pc + 3 = pc') (d : decode M.2.1 pc = .ok (.putfield index, 3)) (hk : mK m a = ci + 1) (hj : j < N) (hlink : Cond.fieldLink M.1.cls index (T j).1 (T j).2.1 (T j).2.2.1 ∈ tG) (hfin : (T j).2.2.2 = false) (hft : ft ci j = 1) (hty : ty j = .long)  (k : ∀ mm, mm = sL m a j x → At g M lv pc' lc st mm Q) : At g M lv pc lc (.long x :: va_rf (some a) :: st) m Q := by
  subst hp
  have k := k _ rfl
  obtain ⟨r, m', hq, h1, h2, k⟩ := k
  refine ⟨r, m', hq, h1, h2, fun p e s mid args below meth c R c0 s0 H locs ls ha hr hc hs hw hS hl hz => ?_⟩
  have hE := ha.2.2.2.2.2.2.2
  obtain ⟨c1, c2, c3, c4, c5, c6, c7⟩ := hC
  have hset : (wld g m).set (a - gz g) (a, .inr (ci, (flds m a ci).set j (.long x))) = wld g (sL m a j x) := by
    refine wld_set (hw.z hk (by omega)) rfl rfl (fun b hb => ⟨rfl, by show up2 _ _ _ _ _ = _; exact up2_ne hb, rfl, rfl⟩) ?_
    rw [hk, entK_obj g _ a c6]
    refine congrArg (fun l => Sum.inr (ci, l)) (flds_set ?_ ?_).symm
    · rw [hft]; simp [fv, mI, mL, mR, sI, sL, sR, up2]
    · intro i hi t
      unfold fv
      split <;> simp [mI, mL, mR, sI, sL, sR, up2, hi]
  refine va_put (D := gD g) (cl := vwCl) (tys := gT g) (ws := wld g m) (A := gA g) (H0 := s.heap) (ci := ci) (C := C) (T := T) (N := N) ha.1 ha.2.1 (fun w hw => hE.1 w hw args) c2 ty c4 c5 ha.2.2.2.2.1 hE.2.2.2.1 hw.2.2 (wld_D g m) hS (a - gz g) (obj_get hw c6 hk) c1 j hj (hE.1 _ hlink args) (fun _ h => h) hfin (c4 j hj) (by rw [hty]; rfl) (by rw [hty]; rfl) (by rw [flds_len]; omega) d (fun H1 locs1 hP1 hD1 hS1 => ?_)
  rw [hset] at hP1
  exact Rn.put (m := m) ⟨h1, h2, k⟩ ha hr hc hs hw hz rfl rfl rfl hP1 hS1 hl
theorem at_putR {ci : Nat} {C : String} {T : u_T} {ty : Nat → FieldType} {N : Nat} (hC : Cok ci C T ty N) (j : Nat) {index a : Nat} {x : Option Nat} (pc' : Nat) (hp : pc + 3 = pc') (d : decode M.2.1 pc = .ok (.putfield index, 3)) (hk : mK m a = ci + 1) (hnf : finR (ci + 1) j = false) (hj : j < N) (hlink : Cond.fieldLink M.1.cls index (T j).1 (T j).2.1 (T j).2.2.1 ∈ tG) (hfin : (T j).2.2.2 = false) (hft : ft ci j = 2) (hty : (∃ n, ty j = .object n) ∨ ∃ n, ty j = .array n)  (k : ∀ mm, mm = sR m a j x → At g M lv pc' lc st mm Q) : At g M lv pc lc (va_rf x :: va_rf (some a) :: st) m Q := by
  subst hp
  have k := k _ rfl
  obtain ⟨r, m', hq, h1, h2, k⟩ := k
  refine ⟨r, m', hq, h1, ⟨h2.1, (Ext.sR (m := m) _ (Or.inl (by rw [hk]; exact hnf))).trans h2.2⟩, fun p e s mid args below meth c R c0 s0 H locs ls ha hr hc hs hw hS hl hz => ?_⟩
  have hE := ha.2.2.2.2.2.2.2
  obtain ⟨c1, c2, c3, c4, c5, c6, c7⟩ := hC
  have hset : (wld g m).set (a - gz g) (a, .inr (ci, (flds m a ci).set j (va_rf x))) = wld g (sR m a j x) := by
    refine wld_set (hw.z hk (by omega)) rfl rfl (fun b hb => ⟨rfl, rfl, by show up2 _ _ _ _ _ = _; exact up2_ne hb, rfl⟩) ?_
    rw [hk, entK_obj g _ a c6]
    refine congrArg (fun l => Sum.inr (ci, l)) (flds_set ?_ ?_).symm
    · rw [hft]; simp [fv, mI, mL, mR, sI, sL, sR, up2]
    · intro i hi t
      unfold fv
      split <;> simp [mI, mL, mR, sI, sL, sR, up2, hi]
  refine va_put (D := gD g) (cl := vwCl) (tys := gT g) (ws := wld g m) (A := gA g) (H0 := s.heap) (ci := ci) (C := C) (T := T) (N := N) ha.1 ha.2.1 (fun w hw => hE.1 w hw args) c2 ty c4 c5 ha.2.2.2.2.1 hE.2.2.2.1 hw.2.2 (wld_D g m) hS (a - gz g) (obj_get hw c6 hk) c1 j hj (hE.1 _ hlink args) (fun _ h => h) hfin (c4 j hj) (by rcases hty with ⟨n, e⟩ | ⟨n, e⟩ <;> rw [e] <;> cases x <;> rfl) (by rcases hty with ⟨n, e⟩ | ⟨n, e⟩ <;> rw [e] <;> cases x <;> rfl) (by rw [flds_len]; omega) d (fun H1 locs1 hP1 hD1 hS1 => ?_)
  rw [hset] at hP1
  exact Rn.put (m := m) ⟨h1, h2, k⟩ ha hr hc hs hw hz rfl rfl rfl hP1 hS1 hl
theorem at_putIF {ci : Nat} {C : String} {T : u_T} {ty : Nat → FieldType} {N : Nat} (hC : Cok ci C T ty N) (j : Nat) {index a : Nat} {x : Int32} (pc' : Nat) (hp : pc + 3 = pc') (d : decode M.2.1 pc = .ok (.putfield index, 3)) (hk : mK m a = ci + 1) (hj : j < N) (hlink : Cond.fieldLink M.1.cls index (T j).1 (T j).2.1 (T j).2.2.1 ∈ tG) (hfin : (T j).2.2.2 = true) (hin2 : M.1.name = "<init>") (hdecl : (T j).1 = M.1.cls) (hft : ft ci j = 0) (hty : ty j = .int)  (k : ∀ mm, mm = sI m a j x → At g M lv pc' lc st mm Q) : At g M lv pc lc (.int x :: va_rf (some a) :: st) m Q := by
  subst hp
  have k := k _ rfl
  obtain ⟨r, m', hq, h1, h2, k⟩ := k
  refine ⟨r, m', hq, h1, h2, fun p e s mid args below meth c R c0 s0 H locs ls ha hr hc hs hw hS hl hz => ?_⟩
  have hE := ha.2.2.2.2.2.2.2
  obtain ⟨c1, c2, c3, c4, c5, c6, c7⟩ := hC
  have hset : (wld g m).set (a - gz g) (a, .inr (ci, (flds m a ci).set j (.int x))) = wld g (sI m a j x) := by
    refine wld_set (hw.z hk (by omega)) rfl rfl (fun b hb => ⟨by show up2 _ _ _ _ _ = _; exact up2_ne hb, rfl, rfl, rfl⟩) ?_
    rw [hk, entK_obj g _ a c6]
    refine congrArg (fun l => Sum.inr (ci, l)) (flds_set ?_ ?_).symm
    · rw [hft]; simp [fv, mI, mL, mR, sI, sL, sR, up2]
    · intro i hi t
      unfold fv
      split <;> simp [mI, mL, mR, sI, sL, sR, up2, hi]
  refine va_putF (D := gD g) (cl := vwCl) (tys := gT g) (ws := wld g m) (A := gA g) (H0 := s.heap) (ci := ci) (C := C) (T := T) (N := N) ha.1 ha.2.1 (fun w hw => hE.1 w hw args) c2 ty c4 c5 ha.2.2.2.2.1 hE.2.2.2.1 hw.2.2 (wld_D g m) hS (a - gz g) (obj_get hw c6 hk) c1 j hj (hE.1 _ hlink args) (fun _ h => h) hfin (ha.2.2.2.2.2.2.1.trans hin2) hdecl (c4 j hj) (by rw [hty]; rfl) (by rw [hty]; rfl) (by rw [flds_len]; omega) d (fun H1 locs1 hP1 hD1 hS1 => ?_)
  rw [hset] at hP1
  exact Rn.put (m := m) ⟨h1, h2, k⟩ ha hr hc hs hw hz rfl rfl rfl hP1 hS1 hl
theorem at_putZF {ci : Nat} {C : String} {T : u_T} {ty : Nat → FieldType} {N : Nat} (hC : Cok ci C T ty N) (j : Nat) {index a : Nat} {x : Int32} (pc' : Nat) (hp : pc + 3 = pc') (d : decode M.2.1 pc = .ok (.putfield index, 3)) (hk : mK m a = ci + 1) (hj : j < N) (hlink : Cond.fieldLink M.1.cls index (T j).1 (T j).2.1 (T j).2.2.1 ∈ tG) (hfin : (T j).2.2.2 = true) (hin2 : M.1.name = "<init>") (hdecl : (T j).1 = M.1.cls) (hft : ft ci j = 0) (hty : ty j = .boolean) (h01 : b01 x) (k : ∀ mm, mm = sI m a j x → At g M lv pc' lc st mm Q) : At g M lv pc lc (.int x :: va_rf (some a) :: st) m Q := by
  subst hp
  have k := k _ rfl
  obtain ⟨r, m', hq, h1, h2, k⟩ := k
  refine ⟨r, m', hq, h1, h2, fun p e s mid args below meth c R c0 s0 H locs ls ha hr hc hs hw hS hl hz => ?_⟩
  have hE := ha.2.2.2.2.2.2.2
  obtain ⟨c1, c2, c3, c4, c5, c6, c7⟩ := hC
  have hset : (wld g m).set (a - gz g) (a, .inr (ci, (flds m a ci).set j (.int x))) = wld g (sI m a j x) := by
    refine wld_set (hw.z hk (by omega)) rfl rfl (fun b hb => ⟨by show up2 _ _ _ _ _ = _; exact up2_ne hb, rfl, rfl, rfl⟩) ?_
    rw [hk, entK_obj g _ a c6]
    refine congrArg (fun l => Sum.inr (ci, l)) (flds_set ?_ ?_).symm
    · rw [hft]; simp [fv, mI, mL, mR, sI, sL, sR, up2]
    · intro i hi t
      unfold fv
      split <;> simp [mI, mL, mR, sI, sL, sR, up2, hi]
  refine va_putF (D := gD g) (cl := vwCl) (tys := gT g) (ws := wld g m) (A := gA g) (H0 := s.heap) (ci := ci) (C := C) (T := T) (N := N) ha.1 ha.2.1 (fun w hw => hE.1 w hw args) c2 ty c4 c5 ha.2.2.2.2.1 hE.2.2.2.1 hw.2.2 (wld_D g m) hS (a - gz g) (obj_get hw c6 hk) c1 j hj (hE.1 _ hlink args) (fun _ h => h) hfin (ha.2.2.2.2.2.2.1.trans hin2) hdecl (c4 j hj) (by rw [hty]; exact nar_z h01) (by rw [hty]; exact fit_z h01) (by rw [flds_len]; omega) d (fun H1 locs1 hP1 hD1 hS1 => ?_)
  rw [hset] at hP1
  exact Rn.put (m := m) ⟨h1, h2, k⟩ ha hr hc hs hw hz rfl rfl rfl hP1 hS1 hl
theorem at_putJF {ci : Nat} {C : String} {T : u_T} {ty : Nat → FieldType} {N : Nat} (hC : Cok ci C T ty N) (j : Nat) {index a : Nat} {x : Int64} (pc' : Nat) (hp : pc + 3 = pc') (d : decode M.2.1 pc = .ok (.putfield index, 3)) (hk : mK m a = ci + 1) (hj : j < N) (hlink : Cond.fieldLink M.1.cls index (T j).1 (T j).2.1 (T j).2.2.1 ∈ tG) (hfin : (T j).2.2.2 = true) (hin2 : M.1.name = "<init>") (hdecl : (T j).1 = M.1.cls) (hft : ft ci j = 1) (hty : ty j = .long)  (k : ∀ mm, mm = sL m a j x → At g M lv pc' lc st mm Q) : At g M lv pc lc (.long x :: va_rf (some a) :: st) m Q := by
  subst hp
  have k := k _ rfl
  obtain ⟨r, m', hq, h1, h2, k⟩ := k
  refine ⟨r, m', hq, h1, h2, fun p e s mid args below meth c R c0 s0 H locs ls ha hr hc hs hw hS hl hz => ?_⟩
  have hE := ha.2.2.2.2.2.2.2
  obtain ⟨c1, c2, c3, c4, c5, c6, c7⟩ := hC
  have hset : (wld g m).set (a - gz g) (a, .inr (ci, (flds m a ci).set j (.long x))) = wld g (sL m a j x) := by
    refine wld_set (hw.z hk (by omega)) rfl rfl (fun b hb => ⟨rfl, by show up2 _ _ _ _ _ = _; exact up2_ne hb, rfl, rfl⟩) ?_
    rw [hk, entK_obj g _ a c6]
    refine congrArg (fun l => Sum.inr (ci, l)) (flds_set ?_ ?_).symm
    · rw [hft]; simp [fv, mI, mL, mR, sI, sL, sR, up2]
    · intro i hi t
      unfold fv
      split <;> simp [mI, mL, mR, sI, sL, sR, up2, hi]
  refine va_putF (D := gD g) (cl := vwCl) (tys := gT g) (ws := wld g m) (A := gA g) (H0 := s.heap) (ci := ci) (C := C) (T := T) (N := N) ha.1 ha.2.1 (fun w hw => hE.1 w hw args) c2 ty c4 c5 ha.2.2.2.2.1 hE.2.2.2.1 hw.2.2 (wld_D g m) hS (a - gz g) (obj_get hw c6 hk) c1 j hj (hE.1 _ hlink args) (fun _ h => h) hfin (ha.2.2.2.2.2.2.1.trans hin2) hdecl (c4 j hj) (by rw [hty]; rfl) (by rw [hty]; rfl) (by rw [flds_len]; omega) d (fun H1 locs1 hP1 hD1 hS1 => ?_)
  rw [hset] at hP1
  exact Rn.put (m := m) ⟨h1, h2, k⟩ ha hr hc hs hw hz rfl rfl rfl hP1 hS1 hl
theorem at_putRF {ci : Nat} {C : String} {T : u_T} {ty : Nat → FieldType} {N : Nat} (hC : Cok ci C T ty N) (j : Nat) {index a : Nat} {x : Option Nat} (pc' : Nat) (hp : pc + 3 = pc') (d : decode M.2.1 pc = .ok (.putfield index, 3)) (hk : mK m a = ci + 1) (hold : mR m a j = none) (hj : j < N) (hlink : Cond.fieldLink M.1.cls index (T j).1 (T j).2.1 (T j).2.2.1 ∈ tG) (hfin : (T j).2.2.2 = true) (hin2 : M.1.name = "<init>") (hdecl : (T j).1 = M.1.cls) (hft : ft ci j = 2) (hty : (∃ n, ty j = .object n) ∨ ∃ n, ty j = .array n)  (k : ∀ mm, mm = sR m a j x → At g M lv pc' lc st mm Q) : At g M lv pc lc (va_rf x :: va_rf (some a) :: st) m Q := by
  subst hp
  have k := k _ rfl
  obtain ⟨r, m', hq, h1, h2, k⟩ := k
  refine ⟨r, m', hq, h1, ⟨h2.1, (Ext.sR (m := m) _ (Or.inr hold)).trans h2.2⟩, fun p e s mid args below meth c R c0 s0 H locs ls ha hr hc hs hw hS hl hz => ?_⟩
  have hE := ha.2.2.2.2.2.2.2
  obtain ⟨c1, c2, c3, c4, c5, c6, c7⟩ := hC
  have hset : (wld g m).set (a - gz g) (a, .inr (ci, (flds m a ci).set j (va_rf x))) = wld g (sR m a j x) := by
    refine wld_set (hw.z hk (by omega)) rfl rfl (fun b hb => ⟨rfl, rfl, by show up2 _ _ _ _ _ = _; exact up2_ne hb, rfl⟩) ?_
    rw [hk, entK_obj g _ a c6]
    refine congrArg (fun l => Sum.inr (ci, l)) (flds_set ?_ ?_).symm
    · rw [hft]; simp [fv, mI, mL, mR, sI, sL, sR, up2]
    · intro i hi t
      unfold fv
      split <;> simp [mI, mL, mR, sI, sL, sR, up2, hi]
  refine va_putF (D := gD g) (cl := vwCl) (tys := gT g) (ws := wld g m) (A := gA g) (H0 := s.heap) (ci := ci) (C := C) (T := T) (N := N) ha.1 ha.2.1 (fun w hw => hE.1 w hw args) c2 ty c4 c5 ha.2.2.2.2.1 hE.2.2.2.1 hw.2.2 (wld_D g m) hS (a - gz g) (obj_get hw c6 hk) c1 j hj (hE.1 _ hlink args) (fun _ h => h) hfin (ha.2.2.2.2.2.2.1.trans hin2) hdecl (c4 j hj) (by rcases hty with ⟨n, e⟩ | ⟨n, e⟩ <;> rw [e] <;> cases x <;> rfl) (by rcases hty with ⟨n, e⟩ | ⟨n, e⟩ <;> rw [e] <;> cases x <;> rfl) (by rw [flds_len]; omega) d (fun H1 locs1 hP1 hD1 hS1 => ?_)
  rw [hset] at hP1
  exact Rn.put (m := m) ⟨h1, h2, k⟩ ha hr hc hs hw hz rfl rfl rfl hP1 hS1 hl
theorem at_iald {a : Nat} {i : Int32} (pc' : Nat) (hp : pc + 1 = pc') (d : decode M.2.1 pc = .ok (.iaload, 1)) (hk : mK m a = 15) (hi : vp_in i (mN m a)) (k : At g M lv pc' lc (.int (mI m a i.toNatClampNeg) :: st) m Q) : At g M lv pc lc (.int i :: va_rf (some a) :: st) m Q := by
  subst hp
  obtain ⟨r, m', hq, h1, h2, k⟩ := k
  refine ⟨r, m', hq, h1, h2, fun p e s mid args below meth c R c0 s0 H locs ls ha hr hc hs hw hS hl hz => ?_⟩
  have hE := ha.2.2.2.2.2.2.2
  exact va_iald (D := gD g) (cl := vwCl) (tys := gT g) (ws := wld g m) ha.1 ha.2.1 hE.2.2.2.1 hw.2.2 (a - gz g) 1 (wld_get hw hk (by decide)) rfl hi d (k p e s mid args below meth c R c0 s0 H locs ls ha hr hc hs hw hS hl hz)
theorem at_bald {a : Nat} {i : Int32} (pc' : Nat) (hp : pc + 1 = pc') (d : decode M.2.1 pc = .ok (.baload, 1)) (hk : mK m a = 14) (hi : vp_in i (mN m a)) (k : At g M lv pc' lc (.int (mI m a i.toNatClampNeg) :: st) m Q) : At g M lv pc lc (.int i :: va_rf (some a) :: st) m Q := by
  subst hp
  obtain ⟨r, m', hq, h1, h2, k⟩ := k
  refine ⟨r, m', hq, h1, h2, fun p e s mid args below meth c R c0 s0 H locs ls ha hr hc hs hw hS hl hz => ?_⟩
  have hE := ha.2.2.2.2.2.2.2
  exact va_bald (D := gD g) (cl := vwCl) (tys := gT g) (ws := wld g m) ha.1 ha.2.1 hE.2.2.2.1 hw.2.2 (a - gz g) 0 (wld_get hw hk (by decide)) rfl hi d (k p e s mid args below meth c R c0 s0 H locs ls ha hr hc hs hw hS hl hz)
theorem at_zald {a : Nat} {i : Int32} (pc' : Nat) (hp : pc + 1 = pc') (d : decode M.2.1 pc = .ok (.baload, 1)) (hk : mK m a = 17) (hi : vp_in i (mN m a)) (k : At g M lv pc' lc (.int (mI m a i.toNatClampNeg) :: st) m Q) : At g M lv pc lc (.int i :: va_rf (some a) :: st) m Q := by
  subst hp
  obtain ⟨r, m', hq, h1, h2, k⟩ := k
  refine ⟨r, m', hq, h1, h2, fun p e s mid args below meth c R c0 s0 H locs ls ha hr hc hs hw hS hl hz => ?_⟩
  have hE := ha.2.2.2.2.2.2.2
  exact va_zald (D := gD g) (cl := vwCl) (tys := gT g) (ws := wld g m) ha.1 ha.2.1 hE.2.2.2.1 hw.2.2 (a - gz g) 3 (wld_get hw hk (by decide)) rfl hi d (k p e s mid args below meth c R c0 s0 H locs ls ha hr hc hs hw hS hl hz)
theorem at_lald {a : Nat} {i : Int32} (pc' : Nat) (hp : pc + 1 = pc') (d : decode M.2.1 pc = .ok (.laload, 1)) (hk : mK m a = 16) (hi : vp_in i (mN m a)) (k : At g M lv pc' lc (.long (mL m a i.toNatClampNeg) :: st) m Q) : At g M lv pc lc (.int i :: va_rf (some a) :: st) m Q := by
  subst hp
  obtain ⟨r, m', hq, h1, h2, k⟩ := k
  refine ⟨r, m', hq, h1, h2, fun p e s mid args below meth c R c0 s0 H locs ls ha hr hc hs hw hS hl hz => ?_⟩
  have hE := ha.2.2.2.2.2.2.2
  exact va_lald (D := gD g) (cl := vwCl) (tys := gT g) (ws := wld g m) ha.1 ha.2.1 hE.2.2.2.1 hw.2.2 (a - gz g) 2 (wld_get hw hk (by decide)) rfl hi d (k p e s mid args below meth c R c0 s0 H locs ls ha hr hc hs hw hS hl hz)
theorem at_aaldBank {a : Nat} {i : Int32} (pc' : Nat) (hp : pc + 1 = pc') (d : decode M.2.1 pc = .ok (.aaload, 1)) (hk : mK m a = 18) (hi : vp_in i (mN m a)) (k : At g M lv pc' lc (va_rf (mR m a i.toNatClampNeg) :: st) m Q) : At g M lv pc lc (.int i :: va_rf (some a) :: st) m Q := by
  subst hp
  obtain ⟨r, m', hq, h1, h2, k⟩ := k
  refine ⟨r, m', hq, h1, h2, fun p e s mid args below meth c R c0 s0 H locs ls ha hr hc hs hw hS hl hz => ?_⟩
  have hE := ha.2.2.2.2.2.2.2
  exact va_aldq (D := gD g) (cl := vwCl) (tys := gT g) (ws := wld g m) ha.1 ha.2.1 hE.2.2.2.1 hw.2.2 (a - gz g) 4 (wld_get hw hk (by decide)) rfl hi d (k p e s mid args below meth c R c0 s0 H locs ls ha hr hc hs hw hS hl hz)
theorem at_aaldGrower {a : Nat} {i : Int32} (pc' : Nat) (hp : pc + 1 = pc') (d : decode M.2.1 pc = .ok (.aaload, 1)) (hk : mK m a = 19) (hi : vp_in i (mN m a)) (k : At g M lv pc' lc (va_rf (mR m a i.toNatClampNeg) :: st) m Q) : At g M lv pc lc (.int i :: va_rf (some a) :: st) m Q := by
  subst hp
  obtain ⟨r, m', hq, h1, h2, k⟩ := k
  refine ⟨r, m', hq, h1, h2, fun p e s mid args below meth c R c0 s0 H locs ls ha hr hc hs hw hS hl hz => ?_⟩
  have hE := ha.2.2.2.2.2.2.2
  exact va_aldq (D := gD g) (cl := vwCl) (tys := gT g) (ws := wld g m) ha.1 ha.2.1 hE.2.2.2.1 hw.2.2 (a - gz g) 5 (wld_get hw hk (by decide)) rfl hi d (k p e s mid args below meth c R c0 s0 H locs ls ha hr hc hs hw hS hl hz)
theorem at_aaldLaw {a : Nat} {i : Int32} (pc' : Nat) (hp : pc + 1 = pc') (d : decode M.2.1 pc = .ok (.aaload, 1)) (hk : mK m a = 20) (hi : vp_in i (mN m a)) (k : At g M lv pc' lc (va_rf (mR m a i.toNatClampNeg) :: st) m Q) : At g M lv pc lc (.int i :: va_rf (some a) :: st) m Q := by
  subst hp
  obtain ⟨r, m', hq, h1, h2, k⟩ := k
  refine ⟨r, m', hq, h1, h2, fun p e s mid args below meth c R c0 s0 H locs ls ha hr hc hs hw hS hl hz => ?_⟩
  have hE := ha.2.2.2.2.2.2.2
  exact va_aldq (D := gD g) (cl := vwCl) (tys := gT g) (ws := wld g m) ha.1 ha.2.1 hE.2.2.2.1 hw.2.2 (a - gz g) 6 (wld_get hw hk (by decide)) rfl hi d (k p e s mid args below meth c R c0 s0 H locs ls ha hr hc hs hw hS hl hz)
theorem at_aaldReceipt {a : Nat} {i : Int32} (pc' : Nat) (hp : pc + 1 = pc') (d : decode M.2.1 pc = .ok (.aaload, 1)) (hk : mK m a = 21) (hi : vp_in i (mN m a)) (k : At g M lv pc' lc (va_rf (mR m a i.toNatClampNeg) :: st) m Q) : At g M lv pc lc (.int i :: va_rf (some a) :: st) m Q := by
  subst hp
  obtain ⟨r, m', hq, h1, h2, k⟩ := k
  refine ⟨r, m', hq, h1, h2, fun p e s mid args below meth c R c0 s0 H locs ls ha hr hc hs hw hS hl hz => ?_⟩
  have hE := ha.2.2.2.2.2.2.2
  exact va_aldq (D := gD g) (cl := vwCl) (tys := gT g) (ws := wld g m) ha.1 ha.2.1 hE.2.2.2.1 hw.2.2 (a - gz g) 7 (wld_get hw hk (by decide)) rfl hi d (k p e s mid args below meth c R c0 s0 H locs ls ha hr hc hs hw hS hl hz)
theorem at_iast {a : Nat} {i : Int32} {x : Int32} (pc' : Nat) (hp : pc + 1 = pc') (d : decode M.2.1 pc = .ok (.iastore, 1)) (hk : mK m a = 15) (hi : vp_in i (mN m a))  (k : ∀ mm, mm = sI m a i.toNatClampNeg x → At g M lv pc' lc st mm Q) : At g M lv pc lc (.int x :: .int i :: va_rf (some a) :: st) m Q := by
  subst hp
  have k := k _ rfl
  obtain ⟨r, m', hq, h1, h2, k⟩ := k
  refine ⟨r, m', hq, h1, h2, fun p e s mid args below meth c R c0 s0 H locs ls ha hr hc hs hw hS hl hz => ?_⟩
  have hE := ha.2.2.2.2.2.2.2
  have hset : (wld g m).set (a - gz g) (a, .inl (gy g 1, mN m a, .inl (upd (mI m a) i.toNatClampNeg x))) = wld g (sI m a i.toNatClampNeg x) := by
    refine wld_set (m := m) (m' := sI m a i.toNatClampNeg x) (hw.z hk (by decide)) rfl rfl (fun b hb => ⟨by show up2 _ _ _ _ _ = _; exact up2_ne hb, rfl, rfl, rfl⟩) ?_
    rw [hk]
    refine congrArg (fun f => (Sum.inl (gy g 1, mN m a, .inl (f)) : va_E)) (?_ : up2 (mI m) a i.toNatClampNeg x a = _)
    rw [up2_eq]
    funext q
    simp [va_up, upd, vp_updL]
  refine va_iast (D := gD g) (cl := vwCl) (tys := gT g) (ws := wld g m) (A := gA g) (H0 := s.heap) ha.1 ha.2.1 hE.2.2.2.1 hw.2.2 (wld_D g m) hS (a - gz g) 1 (wld_get hw hk (by decide)) rfl hi d (fun H1 locs1 hP1 hD1 hS1 => ?_)
  rw [hset] at hP1
  exact Rn.put (m := m) ⟨h1, h2, k⟩ ha hr hc hs hw hz rfl rfl rfl hP1 hS1 hl
theorem at_bast {a : Nat} {i : Int32} {x : Int32} (pc' : Nat) (hp : pc + 1 = pc') (d : decode M.2.1 pc = .ok (.bastore, 1)) (hk : mK m a = 14) (hi : vp_in i (mN m a))  (k : ∀ mm, mm = sI m a i.toNatClampNeg x.toInt8.toInt32 → At g M lv pc' lc st mm Q) : At g M lv pc lc (.int x :: .int i :: va_rf (some a) :: st) m Q := by
  subst hp
  have k := k _ rfl
  obtain ⟨r, m', hq, h1, h2, k⟩ := k
  refine ⟨r, m', hq, h1, h2, fun p e s mid args below meth c R c0 s0 H locs ls ha hr hc hs hw hS hl hz => ?_⟩
  have hE := ha.2.2.2.2.2.2.2
  have hset : (wld g m).set (a - gz g) (a, .inl (gy g 0, mN m a, .inl (upd (mI m a) i.toNatClampNeg (vp_nar .byte x)))) = wld g (sI m a i.toNatClampNeg x.toInt8.toInt32) := by
    refine wld_set (m := m) (m' := sI m a i.toNatClampNeg x.toInt8.toInt32) (hw.z hk (by decide)) rfl rfl (fun b hb => ⟨by show up2 _ _ _ _ _ = _; exact up2_ne hb, rfl, rfl, rfl⟩) ?_
    rw [hk]
    refine congrArg (fun f => (Sum.inl (gy g 0, mN m a, .inl (f)) : va_E)) (?_ : up2 (mI m) a i.toNatClampNeg x.toInt8.toInt32 a = _)
    rw [up2_eq]
    funext q
    simp [va_up, upd, vp_nar_byte]
  refine va_bast (D := gD g) (cl := vwCl) (tys := gT g) (ws := wld g m) (A := gA g) (H0 := s.heap) ha.1 ha.2.1 hE.2.2.2.1 hw.2.2 (wld_D g m) hS (a - gz g) 0 (wld_get hw hk (by decide)) rfl hi d (fun H1 locs1 hP1 hD1 hS1 => ?_)
  rw [hset] at hP1
  exact Rn.put (m := m) ⟨h1, h2, k⟩ ha hr hc hs hw hz rfl rfl rfl hP1 hS1 hl
theorem at_zast {a : Nat} {i : Int32} {x : Int32} (pc' : Nat) (hp : pc + 1 = pc') (d : decode M.2.1 pc = .ok (.bastore, 1)) (hk : mK m a = 17) (hi : vp_in i (mN m a)) (h01 : b01 x) (k : ∀ mm, mm = sI m a i.toNatClampNeg x → At g M lv pc' lc st mm Q) : At g M lv pc lc (.int x :: .int i :: va_rf (some a) :: st) m Q := by
  subst hp
  have k := k _ rfl
  obtain ⟨r, m', hq, h1, h2, k⟩ := k
  refine ⟨r, m', hq, h1, h2, fun p e s mid args below meth c R c0 s0 H locs ls ha hr hc hs hw hS hl hz => ?_⟩
  have hE := ha.2.2.2.2.2.2.2
  have hset : (wld g m).set (a - gz g) (a, .inl (gy g 3, mN m a, .inl (upd (mI m a) i.toNatClampNeg (vp_nar .boolean x)))) = wld g (sI m a i.toNatClampNeg x) := by
    refine wld_set (m := m) (m' := sI m a i.toNatClampNeg x) (hw.z hk (by decide)) rfl rfl (fun b hb => ⟨by show up2 _ _ _ _ _ = _; exact up2_ne hb, rfl, rfl, rfl⟩) ?_
    rw [hk]
    refine congrArg (fun f => (Sum.inl (gy g 3, mN m a, .inl (f)) : va_E)) (?_ : up2 (mI m) a i.toNatClampNeg x a = _)
    rw [up2_eq]
    funext q
    simp [va_up, upd, show vp_nar .boolean x = x by rcases h01 with rfl | rfl <;> rfl]
  refine va_zast (D := gD g) (cl := vwCl) (tys := gT g) (ws := wld g m) (A := gA g) (H0 := s.heap) ha.1 ha.2.1 hE.2.2.2.1 hw.2.2 (wld_D g m) hS (a - gz g) 3 (wld_get hw hk (by decide)) rfl hi d (fun H1 locs1 hP1 hD1 hS1 => ?_)
  rw [hset] at hP1
  exact Rn.put (m := m) ⟨h1, h2, k⟩ ha hr hc hs hw hz rfl rfl rfl hP1 hS1 hl
theorem at_last {a : Nat} {i : Int32} {x : Int64} (pc' : Nat) (hp : pc + 1 = pc') (d : decode M.2.1 pc = .ok (.lastore, 1)) (hk : mK m a = 16) (hi : vp_in i (mN m a))  (k : ∀ mm, mm = sL m a i.toNatClampNeg x → At g M lv pc' lc st mm Q) : At g M lv pc lc (.long x :: .int i :: va_rf (some a) :: st) m Q := by
  subst hp
  have k := k _ rfl
  obtain ⟨r, m', hq, h1, h2, k⟩ := k
  refine ⟨r, m', hq, h1, h2, fun p e s mid args below meth c R c0 s0 H locs ls ha hr hc hs hw hS hl hz => ?_⟩
  have hE := ha.2.2.2.2.2.2.2
  have hset : (wld g m).set (a - gz g) (a, .inl (gy g 2, mN m a, .inr (.inl (vp_updL (mL m a) i.toNatClampNeg x)))) = wld g (sL m a i.toNatClampNeg x) := by
    refine wld_set (m := m) (m' := sL m a i.toNatClampNeg x) (hw.z hk (by decide)) rfl rfl (fun b hb => ⟨rfl, by show up2 _ _ _ _ _ = _; exact up2_ne hb, rfl, rfl⟩) ?_
    rw [hk]
    refine congrArg (fun f => (Sum.inl (gy g 2, mN m a, .inr (.inl (f))) : va_E)) (?_ : up2 (mL m) a i.toNatClampNeg x a = _)
    rw [up2_eq]
    funext q
    simp [va_up, upd, vp_updL]
  refine va_last (D := gD g) (cl := vwCl) (tys := gT g) (ws := wld g m) (A := gA g) (H0 := s.heap) ha.1 ha.2.1 hE.2.2.2.1 hw.2.2 (wld_D g m) hS (a - gz g) 2 (wld_get hw hk (by decide)) rfl hi d (fun H1 locs1 hP1 hD1 hS1 => ?_)
  rw [hset] at hP1
  exact Rn.put (m := m) ⟨h1, h2, k⟩ ha hr hc hs hw hz rfl rfl rfl hP1 hS1 hl
end HEAP
