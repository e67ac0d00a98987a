/-! ===== a string constant by the wide instruction ===== -/
theorem st_ldcwS {p : Program} {l : Launch} {e : Env} {R : Room} {s : State} {m : MethodId} {args : Array Value} {below : List Frame} {meth : Method} {c : Code} {T : State} {locs : List Loc} {cells slots : Nat}
    (X : Stand p l e R s m args below meth c T locs cells slots) (hexec : p.tables.exec = Jvm.exec) {own text : String} {index : Nat} {a : Addr} (hown : s.vm.findClass own = some m.cls)
    (hconst : (Cond.stringRef own index text).before args s = true) (hev : (Term.string own index).eval args s none [] s = some (.ref a)) {g : JFrame} (hg : g.method = m) (hdg : decode c.code g.pc = .ok (.ldc_w index, 3)) :
    ∀ target, Steps p.tables e below (T.setTop { g with pc := g.pc + 3, stack := .ref a :: g.stack }) target → Steps p.tables e below (T.setTop g) target := by
  obtain ⟨k, cf, i, a', hk, hcf, hcp, -, hr, hev'⟩ := Cond.stringRef_spec hown hconst
  cases hev.symm.trans hev'
  obtain ⟨k', hk', he⟩ := X.warmed.alike.2.2 _ _ hk
  have hr' : k'.resolved[index]? = some (some (.string a)) := by
    rcases X.warmed.entry hk hk' index with h | ⟨h, -⟩
    · rw [h]; exact hr
    · rw [hr] at h; cases h
  intro target hrest
  subst hg
  jvm_step X.here [hexec, hdg, ldc_w.wp_string (e := e) (s := T) (f := g) X.here.top hk' (by rw [he]; exact hcf) hcp hr']
  exact hrest
theorem at_ldcwS {g : Gc} {M : Md} {lv pc : Nat} {lc : List (Nat × Value)} {st : List Value} {m : Mm} {Q : Option Value → Mm → Prop} {index : Nat} (tx : String) (i : Nat) (pc' : Nat) (hp : pc + 3 = pc') (d : decode M.2.1 pc = .ok (.ldc_w index, 3)) (hv : (M.1.cls, index, tx, i) ∈ strL) (k : At g M lv pc' lc (va_rf (some (gK g i)) :: st) m Q) : At g M lv pc lc st m Q := by
  subst hp
  obtain ⟨r, m', hq, h1, h2, k⟩ := k
  refine ⟨r, m', hq, h1, h2, fun p e s mid args below meth c R c0 s0 H locs ls ha hr hc hs hw hS hl hz => ?_⟩
  have kk := k p e s mid args below meth c R c0 s0 H locs ls ha hr hc hs hw hS hl hz
  have hZ := ha.2.2.2.2.2.2.2.2.2.2.2.2.1 _ hv
  intro T hT X
  obtain ⟨t, a1, b1⟩ := kk T hT X
  exact ⟨t, st_ldcwS X ha.1 ha.2.2.2.2.1 (text := tx) (a := gK g i) hZ.1 hZ.2 (g := F0 mid pc ls st) rfl (by rw [ha.2.1]; exact d) t a1, b1⟩
