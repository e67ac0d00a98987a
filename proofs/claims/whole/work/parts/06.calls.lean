/-! ===== calls ===== -/
def MB (M' : Md) (n : Nat) : Prop := Cond.code M'.1 M'.2.1 M'.2.2.1 M'.2.2.2 ∈ tG ∧ Cond.initialized M'.1.cls ∈ tG ∧ (M'.1.cls ≠ "java/lang/invoke/MethodHandle" ∧ M'.1.cls ≠ "java/lang/invoke/VarHandle") ∧ (parseMethodDescriptor M'.1.desc).map (fun d => d.parameters.length) = some n ∧ M'.2.2.1 ≤ 45
theorem MB.par {M' : Md} {n : Nat} (h : MB M' n) : ∀ sig, parseMethodDescriptor M'.1.desc = some sig → n = sig.parameters.length := fun sig e => by
  have h2 := h.2.2.2.1
  rw [e] at h2
  exact (Option.some.inj h2).symm
def CI (g : Gc) (M : Md) (lv : Nat) (av : List Value) (m : Mm) (Q : Int32 → Mm → Prop) : Prop := Call g M lv av m (QI Q)
def CJ (g : Gc) (M : Md) (lv : Nat) (av : List Value) (m : Mm) (Q : Int64 → Mm → Prop) : Prop := Call g M lv av m (QJ Q)
def CR (g : Gc) (M : Md) (lv : Nat) (av : List Value) (m : Mm) (Q : Option Nat → Mm → Prop) : Prop := Call g M lv av m (QR Q)
def CV (g : Gc) (M : Md) (lv : Nat) (av : List Value) (m : Mm) (Q : Mm → Prop) : Prop := Call g M lv av m (QV Q)
theorem CI.monoE {g : Gc} {M : Md} {lv : Nat} {av : List Value} {m : Mm} {Q Q' : Int32 → Mm → Prop} (h : CI g M lv av m Q) (hq : ∀ x m', Q x m' → Ext m m' → Q' x m') : CI g M lv av m Q' := Call.monoE h (fun r m' ⟨x, e, hx⟩ hE => ⟨x, e, hq x m' hx hE⟩)
theorem CI.mono {g : Gc} {M : Md} {lv : Nat} {av : List Value} {m : Mm} {Q Q' : Int32 → Mm → Prop} (h : CI g M lv av m Q) (hq : ∀ x m', Q x m' → Q' x m') : CI g M lv av m Q' := Call.mono h (fun r m' ⟨x, e, hx⟩ => ⟨x, e, hq x m' hx⟩)
theorem CJ.monoE {g : Gc} {M : Md} {lv : Nat} {av : List Value} {m : Mm} {Q Q' : Int64 → Mm → Prop} (h : CJ g M lv av m Q) (hq : ∀ x m', Q x m' → Ext m m' → Q' x m') : CJ g M lv av m Q' := Call.monoE h (fun r m' ⟨x, e, hx⟩ hE => ⟨x, e, hq x m' hx hE⟩)
theorem CJ.mono {g : Gc} {M : Md} {lv : Nat} {av : List Value} {m : Mm} {Q Q' : Int64 → Mm → Prop} (h : CJ g M lv av m Q) (hq : ∀ x m', Q x m' → Q' x m') : CJ g M lv av m Q' := Call.mono h (fun r m' ⟨x, e, hx⟩ => ⟨x, e, hq x m' hx⟩)
theorem CR.monoE {g : Gc} {M : Md} {lv : Nat} {av : List Value} {m : Mm} {Q Q' : Option Nat → Mm → Prop} (h : CR g M lv av m Q) (hq : ∀ x m', Q x m' → Ext m m' → Q' x m') : CR g M lv av m Q' := Call.monoE h (fun r m' ⟨x, e, hx⟩ hE => ⟨x, e, hq x m' hx hE⟩)
theorem CR.mono {g : Gc} {M : Md} {lv : Nat} {av : List Value} {m : Mm} {Q Q' : Option Nat → Mm → Prop} (h : CR g M lv av m Q) (hq : ∀ x m', Q x m' → Q' x m') : CR g M lv av m Q' := Call.mono h (fun r m' ⟨x, e, hx⟩ => ⟨x, e, hq x m' hx⟩)
theorem CV.monoE {g : Gc} {M : Md} {lv : Nat} {av : List Value} {m : Mm} {Q Q' : Mm → Prop} (h : CV g M lv av m Q) (hq : ∀ m', Q m' → Ext m m' → Q' m') : CV g M lv av m Q' := Call.monoE h (fun r m' ⟨e, hx⟩ hE => ⟨e, hq m' hx hE⟩)
theorem CV.mono {g : Gc} {M : Md} {lv : Nat} {av : List Value} {m : Mm} {Q Q' : Mm → Prop} (h : CV g M lv av m Q) (hq : ∀ m', Q m' → Q' m') : CV g M lv av m Q' := Call.mono h (fun r m' ⟨e, hx⟩ => ⟨e, hq m' hx⟩)
theorem PX_blind (g : Gc) (av : List Value) (m : Mm) : FrameBlind (PX g av m) := fun a U fr mk h => ⟨h.1, h.2.1, EV.warm (U := U.calling fr mk a) h.2.2 (State.WarmedH.refl U) (fun _ _ _ => rfl)⟩
theorem PX_at {g : Gc} {M : Md} {p : Program} {s : State} {mid : MethodId} {meth : Method} {c : Code} {H : Heap} {locs : List Loc} {m : Mm} {av : List Value} (ha : Act g M p s mid meth c) (hw : Wd g m H) (hS : va_S (gA g) s.heap H locs) : ∀ U : State, U.heap = H → s.WarmedH U.vm → PX g av m av.toArray U := fun U hU hW => ⟨rfl, by rw [hU]; exact hw, by rw [hU]; exact EV.warm ha.2.2.2.2.2.2.2 hW hS.2.1⟩
section CALLS
variable {g : Gc} {M M' : Md} {lv pc : Nat} {lc : List (Nat × Value)} {st : List Value} {m : Mm} {Q : Option Value → Mm → Prop} {n : Nat}
theorem CallB_mk {p : Program} {s : State} {mid : MethodId} {meth : Method} {c : Code} {R : Room} {args : Array Value} {index mc ms : Nat} (ha : Act g M p s mid meth c) (hf : lv + 1 ≤ R.frames) (hlo : 64 * (lv + 1) ≤ R.locals) (hM : MB M' n) (hl : Cond.methodLink M.1.cls index M'.1 ∈ tG) :
    CallB R s args M.1.cls index M'.1 M'.2.1 M'.2.2.1 M'.2.2.2 [Cond.code M'.1 M'.2.1 M'.2.2.1 M'.2.2.2] { frames := lv, cells := mc, slots := ms, locals := 64 * lv } mc ms n := by
  have hE := ha.2.2.2.2.2.2.2
  refine ⟨rfl, rfl, hf, ?_, fun w hw a' U hW => ?_, List.mem_cons_self, hE.1 _ hM.1 args, hE.1 _ hM.2.1 args, hM.2.2.1, hM.par, hE.1 _ hl args⟩
  · have := hM.2.2.2.2
    show 8 + (M'.2.2.1 + 11) + 64 * lv ≤ R.locals
    omega
  · rw [List.mem_singleton] at hw
    subst hw
    exact word_at hW (tG_good hM.1) (hE.1 _ hM.1 args)
theorem CallN_mk {p : Program} {s : State} {mid : MethodId} {meth : Method} {c : Code} {R : Room} {args : Array Value} {index mc ms : Nat} {host : String} (ha : Act g M p s mid meth c) (hf : lv + 1 ≤ R.frames) (hlo : 64 * (lv + 1) ≤ R.locals) (hM : MB M' n) (hl : (M.1.cls, index, M'.1, host) ∈ nestL) :
    va_CN R s args M.1.cls index M'.1 host M'.2.1 M'.2.2.1 M'.2.2.2 [Cond.code M'.1 M'.2.1 M'.2.2.1 M'.2.2.2] { frames := lv, cells := mc, slots := ms, locals := 64 * lv } mc ms n := by
  have hE := ha.2.2.2.2.2.2.2
  refine ⟨⟨rfl, rfl, hf, ?_, fun w hw a' U hW => ?_, List.mem_cons_self⟩, hE.1 _ hM.1 args, hE.1 _ hM.2.1 args, hM.2.2.1, hM.par, va_Nw.use rfl (hE.2.1 _ hl)⟩
  · have := hM.2.2.2.2
    show 8 + (M'.2.2.1 + 11) + 64 * lv ≤ R.locals
    omega
  · rw [List.mem_singleton] at hw
    subst hw
    exact word_at hW (tG_good hM.1) (hE.1 _ hM.1 args)
/-- behind a call -/
theorem W.ofRun {p : Program} {e : Env} {R : Room} {s : State} {mid : MethodId} {args a : Array Value} {below : List Frame} {meth : Method} {c : Code} {H : Heap} {locs : List Loc} {cells slots mc ms pc2 : Nat} {Z : State → Prop} {ls : Array Slot} {st0 rest : List Value} {r : Option Value} {m1 : Mm}
    (hr : va_Run p (gl g) e R s mid args below meth c H locs cells slots mc ms (F0 mid pc2 ls st0) rest (QX g r m1 a) (gA g)) (hS : va_S (gA g) s.heap H locs)
    (k : ∀ (H1 : Heap) (locs1 : List Loc), Wd g m1 H1 → va_S (gA g) s.heap H1 locs1 → W p (gl g) e R s mid args below meth c H1 locs1 (cells + mc) (slots + ms) Z (F0 mid (pc2 + 3) ls (r.toList ++ rest))) : W p (gl g) e R s mid args below meth c H locs cells slots Z (F0 mid pc2 ls st0) := by
  intro T hT X
  obtain ⟨v, st₀, t, T', L, e1, X', hL, e2, e3, ⟨hrv, hwd, hF⟩, hgo⟩ := hr T hT X
  cases hrv
  have hS1 : va_S (gA g) s.heap t.heap (locs ++ L) := by
    obtain ⟨f1, f2⟩ := hF
    rw [e1] at f1 f2
    refine ⟨Nat.le_trans hS.1 f1, fun q q1 q2 => (f2 q (Nat.lt_of_lt_of_le q1 hS.1) q2).trans (hS.2.1 q q1 q2), fun q hq => ?_⟩
    rcases List.mem_append.mp hq with h | h
    · exact hS.2.2 q h
    · exact hL q h
  obtain ⟨t', a1, b1⟩ := k t.heap (locs ++ L) hwd hS1 T' e2 X'
  exact ⟨t', hgo t' a1, b1⟩
/-- the common end of the calls -/
theorem Rn.call {r1 r : Option Value} {m1 m' : Mm} {pc' : Nat} {rest : List Value} (k : Rn g M (lv + 1) r m' pc' lc (r1.toList ++ rest) m1) {p : Program} {e : Env} {s : State} {mid : MethodId} {args : Array Value} {below : List Frame} {meth : Method} {c : Code} {R : Room} {c0 s0 : Nat} {ls : Array Slot}
    (ha : Act g M p s mid meth c) (hr : lv + 1 ≤ R.frames ∧ 64 * (lv + 1) ≤ R.locals ∧ mC m' - c0 ≤ R.cells ∧ mS m' - s0 ≤ R.slots) (hc : c0 ≤ mC m) (hs : s0 ≤ mS m) (h1 : mC m ≤ mC m1) (h2 : mS m ≤ mS m1) (hz : s.heap.size = gz g + c0) (hl : lv_has ls M.2.2.1 lc) :
    ∀ (H1 : Heap) (locs1 : List Loc), Wd g m1 H1 → va_S (gA g) s.heap H1 locs1 → W p (gl g) e R s mid args below meth c H1 locs1 (mC m - c0 + (mC m1 - mC m)) (mS m - s0 + (mS m1 - mS m)) (MQ below (QX g r m') args s (mC m' - c0) (mS m' - s0) (gA g)) (F0 mid pc' ls (r1.toList ++ rest)) := by
  intro H1 locs1 hw1 hS1
  have := k.2.2 p e s mid args below meth c R c0 s0 H1 locs1 ls ha hr (by omega) (by omega) hw1 hS1 hl hz
  rw [show mC m - c0 + (mC m1 - mC m) = mC m1 - c0 by omega, show mS m - s0 + (mS m1 - mS m) = mS m1 - s0 by omega]
  exact this
theorem at_callV (hM : MB M' n) (hin : Cond.instanceMethod M'.1 ∈ tG) (hsel : Cond.selects M'.1.cls M'.1 M'.1 ∈ tG) {ci b : Nat} {T : u_T} {ty : Nat → FieldType} {N : Nat} (hC : Cok ci M'.1.cls T ty N) (hk : mK m b = ci + 1) {index : Nat} (hl : Cond.methodLink M.1.cls index M'.1 ∈ tG) (As rest : List Value) (hst : st = As.reverse ++ va_rf (some b) :: rest) (hn : As.length = n) (hrest : (rest.map fun v => v.category).sum ≤ 8) (pc' : Nat) (hp : pc + 3 = pc') (d : decode M.2.1 pc = .ok (.invokevirtual index, 3)) (k : Call g M' lv (va_rf (some b) :: As) m (fun r m1 => At g M (lv + 1) pc' lc (r.toList ++ rest) m1 Q)) : At g M (lv + 1) pc lc st m Q := by
  subst hp
  obtain ⟨r1, m1, ⟨r, m', hq, h1, h2, k⟩, c1, c2, hMet⟩ := k
  refine ⟨r, m', hq, Nat.le_trans c1 h1, ⟨Nat.le_trans c2.1 h2.1, c2.2.trans h2.2⟩, fun p e s mid args below meth c R c0 s0 H locs ls ha hr hc hs hw hS hlv hz => ?_⟩
  have hE := ha.2.2.2.2.2.2.2
  obtain ⟨cellB, g1, g2, g3⟩ := va_recv (D := gD g) (cl := vwCl) (tys := gT g) hE.2.2.2.1 hw.2.2 hC.1 (obj_get hw hC.2.2.2.2.2.1 hk)
  refine W.ofRun (va_runV (b := b) (g := F0 mid pc ls st) (As := As) (rest := rest) (Ts := tG) (nL := M.2.2.1) ⟨ha.1, ha.2.1, ha.2.2.2.1, ha.2.2.2.2.1, fun w hw => hE.1 w hw args⟩ hMet ⟨CallB_mk ha hr.1 hr.2.1 hM hl, hE.1 _ hin args, hE.1 _ hsel args⟩ ⟨PX_blind _ _ _, ⟨cellB, g1, g2, g3⟩, PX_at ha hw hS⟩ rfl hn hlv.1 hst (lv_room (rest := st) hrest) d ⟨by omega, by omega⟩) hS (Rn.call ⟨h1, h2, k⟩ ha hr hc hs c1 c2.1 hz hlv)
theorem at_callS (hM : MB M' n) (hstt : Cond.static M'.1 ∈ tG) {index : Nat} (hl : Cond.methodLink M.1.cls index M'.1 ∈ tG) (As rest : List Value) (hst : st = As.reverse ++ rest) (hn : As.length = n) (hrest : (rest.map fun v => v.category).sum ≤ 8) (pc' : Nat) (hp : pc + 3 = pc') (d : decode M.2.1 pc = .ok (.invokestatic index, 3)) (k : Call g M' lv (As) m (fun r m1 => At g M (lv + 1) pc' lc (r.toList ++ rest) m1 Q)) : At g M (lv + 1) pc lc st m Q := by
  subst hp
  obtain ⟨r1, m1, ⟨r, m', hq, h1, h2, k⟩, c1, c2, hMet⟩ := k
  refine ⟨r, m', hq, Nat.le_trans c1 h1, ⟨Nat.le_trans c2.1 h2.1, c2.2.trans h2.2⟩, fun p e s mid args below meth c R c0 s0 H locs ls ha hr hc hs hw hS hlv hz => ?_⟩
  have hE := ha.2.2.2.2.2.2.2
  refine W.ofRun (va_runS (g := F0 mid pc ls st) (As := As) (rest := rest) (Ts := tG) (nL := M.2.2.1) ⟨ha.1, ha.2.1, ha.2.2.2.1, ha.2.2.2.2.1, fun w hw => hE.1 w hw args⟩ hMet ⟨CallB_mk ha hr.1 hr.2.1 hM hl, hE.1 _ hstt args⟩ ⟨PX_blind _ _ _, PX_at ha hw hS⟩ rfl hn hlv.1 hst (lv_room (rest := st) hrest) d ⟨by omega, by omega⟩) hS (Rn.call ⟨h1, h2, k⟩ ha hr hc hs c1 c2.1 hz hlv)
theorem at_callSN (hM : MB M' n) (hstt : Cond.static M'.1 ∈ tG) {index : Nat} {host : String} (hl : (M.1.cls, index, M'.1, host) ∈ nestL) (As rest : List Value) (hst : st = As.reverse ++ rest) (hn : As.length = n) (hrest : (rest.map fun v => v.category).sum ≤ 8) (pc' : Nat) (hp : pc + 3 = pc') (d : decode M.2.1 pc = .ok (.invokestatic index, 3)) (k : Call g M' lv (As) m (fun r m1 => At g M (lv + 1) pc' lc (r.toList ++ rest) m1 Q)) : At g M (lv + 1) pc lc st m Q := by
  subst hp
  obtain ⟨r1, m1, ⟨r, m', hq, h1, h2, k⟩, c1, c2, hMet⟩ := k
  refine ⟨r, m', hq, Nat.le_trans c1 h1, ⟨Nat.le_trans c2.1 h2.1, c2.2.trans h2.2⟩, fun p e s mid args below meth c R c0 s0 H locs ls ha hr hc hs hw hS hlv hz => ?_⟩
  have hE := ha.2.2.2.2.2.2.2
  refine W.ofRun (va_runSN (g := F0 mid pc ls st) (As := As) (rest := rest) (Ts := tG) (nL := M.2.2.1) ⟨ha.1, ha.2.1, ha.2.2.2.1, ha.2.2.2.2.1, fun w hw => hE.1 w hw args⟩ hMet ⟨CallN_mk ha hr.1 hr.2.1 hM hl, hE.1 _ hstt args, trivial⟩ ⟨PX_blind _ _ _, PX_at ha hw hS⟩ rfl hn hlv.1 hst (lv_room (rest := st) hrest) d ⟨by omega, by omega⟩) hS (Rn.call ⟨h1, h2, k⟩ ha hr hc hs c1 c2.1 hz hlv)
theorem at_callI (hM : MB M' n) (hin : Cond.instanceMethod M'.1 ∈ tG) (hret : M'.2.2.2 = none) (hnm : M'.1.name = "<init>") {b : Nat} {index : Nat} (hl : Cond.methodLink M.1.cls index M'.1 ∈ tG) (As rest : List Value) (hst : st = As.reverse ++ va_rf (some b) :: rest) (hn : As.length = n) (hrest : (rest.map fun v => v.category).sum ≤ 8) (pc' : Nat) (hp : pc + 3 = pc') (d : decode M.2.1 pc = .ok (.invokespecial index, 3)) (k : Call g M' lv (va_rf (some b) :: As) m (fun r m1 => At g M (lv + 1) pc' lc (r.toList ++ rest) m1 Q)) : At g M (lv + 1) pc lc st m Q := by
  subst hp
  obtain ⟨r1, m1, ⟨r, m', hq, h1, h2, k⟩, c1, c2, hMet⟩ := k
  refine ⟨r, m', hq, Nat.le_trans c1 h1, ⟨Nat.le_trans c2.1 h2.1, c2.2.trans h2.2⟩, fun p e s mid args below meth c R c0 s0 H locs ls ha hr hc hs hw hS hlv hz => ?_⟩
  have hE := ha.2.2.2.2.2.2.2
  refine W.ofRun (va_runI (b := b) (g := F0 mid pc ls st) (As := As) (rest := rest) (Ts := tG) (nL := M.2.2.1) ⟨ha.1, ha.2.1, ha.2.2.2.1, ha.2.2.2.2.1, fun w hw => hE.1 w hw args⟩ (by rw [hret] at hMet; exact hMet) ⟨by have := CallB_mk (mc := mC m1 - mC m) (ms := mS m1 - mS m) (args := args) ha hr.1 hr.2.1 hM hl; rw [hret] at this; exact this, hnm, hE.1 _ hin args⟩ ⟨PX_blind _ _ _, PX_at ha hw hS⟩ rfl hn hlv.1 hst (lv_room (rest := st) hrest) d ⟨by omega, by omega⟩) hS (Rn.call ⟨h1, h2, k⟩ ha hr hc hs c1 c2.1 hz hlv)
theorem at_callIN (hM : MB M' n) (hin : Cond.instanceMethod M'.1 ∈ tG) (hret : M'.2.2.2 = none) (hnm : M'.1.name = "<init>") {b : Nat} {index : Nat} {host : String} (hl : (M.1.cls, index, M'.1, host) ∈ nestL) (As rest : List Value) (hst : st = As.reverse ++ va_rf (some b) :: rest) (hn : As.length = n) (hrest : (rest.map fun v => v.category).sum ≤ 8) (pc' : Nat) (hp : pc + 3 = pc') (d : decode M.2.1 pc = .ok (.invokespecial index, 3)) (k : Call g M' lv (va_rf (some b) :: As) m (fun r m1 => At g M (lv + 1) pc' lc (r.toList ++ rest) m1 Q)) : At g M (lv + 1) pc lc st m Q := by
  subst hp
  obtain ⟨r1, m1, ⟨r, m', hq, h1, h2, k⟩, c1, c2, hMet⟩ := k
  refine ⟨r, m', hq, Nat.le_trans c1 h1, ⟨Nat.le_trans c2.1 h2.1, c2.2.trans h2.2⟩, fun p e s mid args below meth c R c0 s0 H locs ls ha hr hc hs hw hS hlv hz => ?_⟩
  have hE := ha.2.2.2.2.2.2.2
  refine W.ofRun (va_runIN (b := b) (g := F0 mid pc ls st) (As := As) (rest := rest) (Ts := tG) (nL := M.2.2.1) ⟨ha.1, ha.2.1, ha.2.2.2.1, ha.2.2.2.2.1, fun w hw => hE.1 w hw args⟩ (by rw [hret] at hMet; exact hMet) ⟨by have := CallN_mk (mc := mC m1 - mC m) (ms := mS m1 - mS m) (args := args) ha hr.1 hr.2.1 hM hl; rw [hret] at this; exact this, hnm, hE.1 _ hin args⟩ ⟨PX_blind _ _ _, PX_at ha hw hS⟩ rfl hn hlv.1 hst (lv_room (rest := st) hrest) d ⟨by omega, by omega⟩) hS (Rn.call ⟨h1, h2, k⟩ ha hr hc hs c1 c2.1 hz hlv)
theorem Call.toI {av rest : List Value} {pc' : Nat} (h : CI g M' lv av m (fun x m1 => At g M (lv + 1) pc' lc (.int x :: rest) m1 Q)) : Call g M' lv av m (fun r m1 => At g M (lv + 1) pc' lc (r.toList ++ rest) m1 Q) := Call.mono h (fun r m' ⟨x, e, hx⟩ => by subst e; exact hx)
theorem Call.toJ {av rest : List Value} {pc' : Nat} (h : CJ g M' lv av m (fun x m1 => At g M (lv + 1) pc' lc (.long x :: rest) m1 Q)) : Call g M' lv av m (fun r m1 => At g M (lv + 1) pc' lc (r.toList ++ rest) m1 Q) := Call.mono h (fun r m' ⟨x, e, hx⟩ => by subst e; exact hx)
theorem Call.toR {av rest : List Value} {pc' : Nat} (h : CR g M' lv av m (fun x m1 => At g M (lv + 1) pc' lc (va_rf x :: rest) m1 Q)) : Call g M' lv av m (fun r m1 => At g M (lv + 1) pc' lc (r.toList ++ rest) m1 Q) := Call.mono h (fun r m' ⟨x, e, hx⟩ => by subst e; exact hx)
theorem Call.toV {av rest : List Value} {pc' : Nat} (h : CV g M' lv av m (fun m1 => At g M (lv + 1) pc' lc rest m1 Q)) : Call g M' lv av m (fun r m1 => At g M (lv + 1) pc' lc (r.toList ++ rest) m1 Q) := Call.mono h (fun r m' ⟨e, hx⟩ => by subst e; exact hx)
/-- Object's own constructor -/
theorem at_objInit {a index : Nat} (pc' : Nat) (hp : pc + 3 = pc') (d : decode M.2.1 pc = .ok (.invokespecial index, 3)) (hl : Cond.methodLink M.1.cls index Lib.objectInit ∈ tG) (hi : Cond.instanceMethod Lib.objectInit ∈ tG) (hcd : Cond.code Lib.objectInit ⟨#[0xb1]⟩ 1 none ∈ tG) (hrest : (st.map fun v => v.category).sum ≤ 8) (k : At g M (lv + 1) pc' lc st m Q) : At g M (lv + 1) pc lc (va_rf (some a) :: st) m Q := by
  subst hp
  obtain ⟨r, m', hq, h1, h2, k⟩ := k
  refine ⟨r, m', hq, h1, h2, fun p e s mid args below meth c R c0 s0 H locs ls ha hr hc hs hw hS hlv hz => ?_⟩
  have hE := ha.2.2.2.2.2.2.2
  exact W.objInit (g := F0 mid pc ls (va_rf (some a) :: st)) (rest := st) ha.1 ha.2.1 ha.2.2.2.2.1 (hE.1 _ hl args) (hE.1 _ hi args) (hE.1 _ hcd args) rfl (by rw [ha.2.2.2.1]; exact hlv.1) rfl d (by omega) (by show 2 * 0 + _ + 12 ≤ _; omega) (k p e s mid args below meth c R c0 s0 H locs ls ha hr hc hs hw hS hlv hz)
theorem at_max {x y : Int32} {index : Nat} (pc' : Nat) (hp : pc + 3 = pc') (d : decode M.2.1 pc = .ok (.invokestatic index, 3)) (hl : Cond.methodLink M.1.cls index Lib.Math.max.name ∈ tG) (hs1 : Cond.static Lib.Math.max.name ∈ tG) (hi : Cond.initialized "java/lang/Math" ∈ tG) (hcd : Cond.code Lib.Math.max.name Lib.Math.max.code 2 (some .int) ∈ tG) (hrest : (st.map fun v => v.category).sum ≤ 8) (k : At g M (lv + 1) pc' lc (.int (if x < y then y else x) :: st) m Q) : At g M (lv + 1) pc lc (.int y :: .int x :: st) m Q := by
  subst hp
  obtain ⟨r, m', hq, h1, h2, k⟩ := k
  refine ⟨r, m', hq, h1, h2, fun p e s mid args below meth c R c0 s0 H locs ls ha hr hc hs hw hS hlv hz => ?_⟩
  have hE := ha.2.2.2.2.2.2.2
  exact va_mmax ha.1 ha.2.1 (by rw [ha.2.2.2.1]; exact hlv.1.symm) ha.2.2.2.2.1 (hE.1 _ hl args) (hE.1 _ hs1 args) (hE.1 _ hi args) (hE.1 _ hcd args) (by omega) (by omega) (by omega) (by omega) d (k p e s mid args below meth c R c0 s0 H locs ls ha hr hc hs hw hS hlv hz)
theorem at_min {x y : Int32} {index : Nat} (pc' : Nat) (hp : pc + 3 = pc') (d : decode M.2.1 pc = .ok (.invokestatic index, 3)) (hl : Cond.methodLink M.1.cls index Lib.Math.min.name ∈ tG) (hs1 : Cond.static Lib.Math.min.name ∈ tG) (hi : Cond.initialized "java/lang/Math" ∈ tG) (hcd : Cond.code Lib.Math.min.name Lib.Math.min.code 2 (some .int) ∈ tG) (hrest : (st.map fun v => v.category).sum ≤ 8) (k : At g M (lv + 1) pc' lc (.int (if y < x then y else x) :: st) m Q) : At g M (lv + 1) pc lc (.int y :: .int x :: st) m Q := by
  subst hp
  obtain ⟨r, m', hq, h1, h2, k⟩ := k
  refine ⟨r, m', hq, h1, h2, fun p e s mid args below meth c R c0 s0 H locs ls ha hr hc hs hw hS hlv hz => ?_⟩
  have hE := ha.2.2.2.2.2.2.2
  exact va_mmin ha.1 ha.2.1 (by rw [ha.2.2.2.1]; exact hlv.1.symm) ha.2.2.2.2.1 (hE.1 _ hl args) (hE.1 _ hs1 args) (hE.1 _ hi args) (hE.1 _ hcd args) (by omega) (by omega) (by omega) (by omega) d (k p e s mid args below meth c R c0 s0 H locs ls ha hr hc hs hw hS hlv hz)
end CALLS
