/-! ===== the machine layer: a memory keyed by addresses, and what a method does to it ===== -/
def tG : List Cond := lw_tbl.filter goodWord
theorem tG_of {w : Cond} (h : w ∈ lw_tbl) (hg : goodWord w = true) : w ∈ tG := List.mem_filter.mpr ⟨h, hg⟩
theorem tG_good {w : Cond} (h : w ∈ tG) : (w.onTables && w.keeps) = true ∨ ∃ ty, w = .arrayClass ty := good_of_word (List.mem_filter.mp h).2
def ftL : List (List Nat) := [[0, 0, 1], [2, 2, 2, 0, 0, 0, 0, 0, 0, 0, 0, 1, 1], [2, 2, 2, 0, 0, 0, 0, 1, 1], [2, 2, 2, 2, 2, 2, 2, 2, 0, 0, 0, 0, 0, 0], [2, 2, 2, 2, 2, 0, 0], [0, 0, 1], [0, 0, 0, 2, 2], [2, 2, 2], [2, 0], [2, 2, 2, 2, 0, 0, 0, 0, 2], [0, 0, 0, 0, 0, 0, 0], [2, 2, 2, 2, 2, 2, 2, 2], [0, 2, 2, 2, 2, 0, 0, 0, 0, 0, 0, 0, 2, 2, 2, 0, 0, 2, 2, 0, 2, 2, 2, 2, 2, 2, 2, 2, 2, 2, 2, 2, 2, 2, 2, 2, 2, 2, 2, 2, 2, 2, 2, 2, 2, 2, 2, 0, 0, 0, 0, 0, 0, 0, 1, 0, 2, 1, 1, 0, 0, 0, 0, 0, 0, 2]]
def nestL : List (String × Nat × MethodName × String) := [("SurplusLand", 9, ⟨"SurplusLand$Terms", "<init>", "()V"⟩, "SurplusLand"), ("SurplusLand$Land", 25, ⟨"SurplusLand$Store", "<init>", "()V"⟩, "SurplusLand"), ("SurplusLand$Land", 32, ⟨"SurplusLand$Judge", "<init>", "()V"⟩, "SurplusLand"), ("SurplusLand$Land", 56, ⟨"SurplusLand$Grower", "<init>", "()V"⟩, "SurplusLand"), ("SurplusLand$Land", 57, ⟨"SurplusLand$Bank", "<init>", "()V"⟩, "SurplusLand"), ("SurplusLand", 30, ⟨"SurplusLand$Tape", "<init>", "()V"⟩, "SurplusLand"), ("SurplusLand$Tape", 133, ⟨"SurplusLand", "isWithin", "(III)Z"⟩, "SurplusLand"), ("SurplusLand$Rows", 28, ⟨"SurplusLand", "isWithin", "(III)Z"⟩, "SurplusLand"), ("SurplusLand$Land", 79, ⟨"SurplusLand", "isWithin", "(III)Z"⟩, "SurplusLand"), ("SurplusLand$Judge", 26, ⟨"SurplusLand", "isWithin", "(III)Z"⟩, "SurplusLand"), ("SurplusLand$Judge", 75, ⟨"SurplusLand", "cutTo", "(JJJ)J"⟩, "SurplusLand"), ("SurplusLand$Land", 201, ⟨"SurplusLand", "cutTo", "(JJJ)J"⟩, "SurplusLand"), ("SurplusLand$Store", 29, ⟨"SurplusLand$Receipt", "<init>", "()V"⟩, "SurplusLand"), ("SurplusLand$Store", 21, ⟨"SurplusLand", "isWithin", "(III)Z"⟩, "SurplusLand"), ("SurplusLand$Grower", 60, ⟨"SurplusLand", "isWithin", "(III)Z"⟩, "SurplusLand")]
def strL : List (String × Nat × String × Nat) := [("SurplusLand$Tape", 94, "keep", 0), ("SurplusLand$Tape", 100, "sell", 1), ("SurplusLand$Tape", 102, "free", 2), ("SurplusLand$Tape", 104, "least", 3), ("SurplusLand$Tape", 106, "still", 4), ("SurplusLand$Tape", 108, "if", 5), ("SurplusLand$Tape", 110, "and", 6), ("SurplusLand$Tape", 112, "crop", 7), ("SurplusLand$Tape", 114, "store", 8), ("SurplusLand$Tape", 116, "old", 9), ("SurplusLand$Tape", 118, "price", 10), ("SurplusLand$Tape", 120, "want", 11), ("SurplusLand$Tape", 122, "year", 12), ("SurplusLandModel", 280, "keep", 0), ("SurplusLandModel", 282, "free", 2), ("SurplusLandModel", 283, "least", 3), ("SurplusLandModel", 285, "still", 4), ("SurplusLandModel", 290, "sell", 1), ("SurplusLandModel", 247, "crop", 7), ("SurplusLandModel", 252, "store", 8), ("SurplusLandModel", 254, "old", 9), ("SurplusLandModel", 256, "price", 10), ("SurplusLandModel", 257, "want", 11), ("SurplusLandModel", 259, "year", 12), ("SurplusLandModel", 308, "if", 5), ("SurplusLandModel", 278, "and", 6)]
def stLen : List Nat := [4, 4, 4, 5, 5, 2, 3, 4, 5, 3, 5, 4, 4]
def stByt : List (List Int32) := [[107, 101, 101, 112], [115, 101, 108, 108], [102, 114, 101, 101], [108, 101, 97, 115, 116], [115, 116, 105, 108, 108], [105, 102], [97, 110, 100], [99, 114, 111, 112], [115, 116, 111, 114, 101], [111, 108, 100], [112, 114, 105, 99, 101], [119, 97, 110, 116], [121, 101, 97, 114]]
def aoL : List String := ["SurplusLand$Bank", "SurplusLand$Grower", "SurplusLand$Law", "SurplusLand$Receipt"]
abbrev Mm : Type := (Nat → Nat → Int32) × (Nat → Nat → Int64) × (Nat → Nat → Option Nat) × (Nat → Nat) × (Nat → Nat) × Nat × Nat
def mI (m : Mm) : Nat → Nat → Int32 := m.1
def mL (m : Mm) : Nat → Nat → Int64 := m.2.1
def mR (m : Mm) : Nat → Nat → Option Nat := m.2.2.1
def mK (m : Mm) : Nat → Nat := m.2.2.2.1
def mN (m : Mm) : Nat → Nat := m.2.2.2.2.1
def mC (m : Mm) : Nat := m.2.2.2.2.2.1
def mS (m : Mm) : Nat := m.2.2.2.2.2.2
def up2 {α : Type} (f : Nat → Nat → α) (a j : Nat) (v : α) : Nat → Nat → α := fun b i => if b = a then (if i = j then v else f b i) else f b i
def sI (m : Mm) (a j : Nat) (v : Int32) : Mm := (up2 (mI m) a j v, m.2)
def sL (m : Mm) (a j : Nat) (v : Int64) : Mm := (m.1, up2 (mL m) a j v, m.2.2)
def sR (m : Mm) (a j : Nat) (v : Option Nat) : Mm := (m.1, m.2.1, up2 (mR m) a j v, m.2.2.2)
/-- a whole row of an array -/
def rI (m : Mm) (a : Nat) (f : Nat → Int32) : Mm := (va_up (mI m) a f, m.2)
def rL (m : Mm) (a : Nat) (f : Nat → Int64) : Mm := (m.1, va_up (mL m) a f, m.2.2)
/-- a new cell at q, of kind k and length n, with sz slots -/
def nw (m : Mm) (q k n sz : Nat) : Mm := (va_up (mI m) q (fun _ => 0), va_up (mL m) q (fun _ => 0), va_up (mR m) q (fun _ => none), va_up (mK m) q k, va_up (mN m) q n, mC m + 1, mS m + sz)
def finL : List (List Bool) := [[false, false, false], [true, true, true, false, false, false, false, false, false, false, false, false, false], [true, true, true, false, false, false, false, false, false], [true, true, true, true, true, true, true, true, false, false, false, false, false, false], [true, true, true, true, true, false, false], [false, false, false], [false, false, false, false, false], [true, true, true], [true, false], [true, true, true, true, false, false, false, false, false], [false, false, false, false, false, false, false], [true, true, true, true, true, true, true, true], [false, true, true, true, true, false, false, false, false, false, false, false, true, true, true, false, false, true, true, false, true, true, true, true, true, true, true, true, true, true, true, true, true, true, true, true, true, true, true, true, true, true, true, true, true, true, true, false, false, false, false, false, false, false, false, false, true, false, false, false, false, false, false, false, false, true]]
def finR (k j : Nat) : Bool := if k = 18 then true else if k = 19 then true else (finL.getD (k - 1) []).getD j false
/-- what is there keeps its kind, its length, and the final references that it holds -/
def Ext (m m' : Mm) : Prop := ∀ a, mK m a ≠ 0 → mK m' a = mK m a ∧ mN m' a = mN m a ∧ ∀ j b, finR (mK m a) j = true → mR m a j = some b → mR m' a j = some b
theorem Ext.refl (m : Mm) : Ext m m := fun _ _ => ⟨rfl, rfl, fun _ _ _ h => h⟩
theorem Ext.trans {a b c : Mm} (h1 : Ext a b) (h2 : Ext b c) : Ext a c := fun x hx => by
  obtain ⟨p, q, r⟩ := h1 x hx
  obtain ⟨p2, q2, r2⟩ := h2 x (by rw [p]; exact hx)
  exact ⟨p2.trans p, q2.trans q, fun j y hf h => r2 j y (by rw [p]; exact hf) (r j y hf h)⟩
theorem Ext.k {m m' : Mm} (h : Ext m m') {a k : Nat} (hk : mK m a = k) (h0 : k ≠ 0) : mK m' a = k := (h a (by rw [hk]; exact h0)).1.trans hk
theorem Ext.n {m m' : Mm} (h : Ext m m') {a k n : Nat} (hk : mK m a = k) (h0 : k ≠ 0) (hn : mN m a = n) : mN m' a = n := (h a (by rw [hk]; exact h0)).2.1.trans hn
theorem Ext.r {m m' : Mm} (h : Ext m m') {a k j b : Nat} (hk : mK m a = k) (h0 : k ≠ 0) (hf : finR k j = true) (hr : mR m a j = some b) : mR m' a j = some b := (h a (by rw [hk]; exact h0)).2.2 j b (by rw [hk]; exact hf) hr
abbrev Gc : Type := Launch × va_G × (Nat → ClassId) × Nat × (Nat → Nat) × (Nat → Nat) × Nat × Nat × (Nat → Int32)
def gl (g : Gc) : Launch := g.1
def gD (g : Gc) : va_G := g.2.1
def gy (g : Gc) : Nat → ClassId := g.2.2.1
def gz (g : Gc) : Nat := g.2.2.2.1
def gK (g : Gc) : Nat → Nat := g.2.2.2.2.1
def gV (g : Gc) : Nat → Nat := g.2.2.2.2.2.1
def gb (g : Gc) : Nat := g.2.2.2.2.2.2.1
def gn (g : Gc) : Nat := g.2.2.2.2.2.2.2.1
def gx (g : Gc) : Nat → Int32 := g.2.2.2.2.2.2.2.2
def gA (g : Gc) : Nat → Prop := fun q => gz g ≤ q
def gT (g : Gc) : List (ClassId × FieldType) := [(gy g 0, .byte), (gy g 1, .int), (gy g 2, .long), (gy g 3, .boolean), (gy g 4, .object "SurplusLand$Bank"), (gy g 5, .object "SurplusLand$Grower"), (gy g 6, .object "SurplusLand$Law"), (gy g 7, .object "SurplusLand$Receipt")]
def ft (ci j : Nat) : Nat := (ftL.getD ci []).getD j 0
def nf (ci : Nat) : Nat := (ftL.getD ci []).length
def fv (m : Mm) (a j : Nat) : Nat → Value
  | 0 => .int (mI m a j)
  | 1 => .long (mL m a j)
  | _ => va_rf (mR m a j)
def flds (m : Mm) (a ci : Nat) : List Value := (List.range (nf ci)).map (fun j => fv m a j (ft ci j))
def entK (g : Gc) (m : Mm) (a : Nat) : Nat → va_E
  | 14 => .inl (gy g 0, mN m a, .inl (mI m a))
  | 15 => .inl (gy g 1, mN m a, .inl (mI m a))
  | 16 => .inl (gy g 2, mN m a, .inr (.inl (mL m a)))
  | 17 => .inl (gy g 3, mN m a, .inl (mI m a))
  | 18 => .inl (gy g 4, mN m a, .inr (.inr (.inr (.inr (mR m a)))))
  | 19 => .inl (gy g 5, mN m a, .inr (.inr (.inr (.inr (mR m a)))))
  | 20 => .inl (gy g 6, mN m a, .inr (.inr (.inr (.inr (mR m a)))))
  | 21 => .inl (gy g 7, mN m a, .inr (.inr (.inr (.inr (mR m a)))))
  | k => .inr (k - 1, flds m a (k - 1))
def wld (g : Gc) (m : Mm) : va_W := (List.range (mC m)).map (fun i => (gz g + i, entK g m (gz g + i) (mK m (gz g + i))))
def Wd (g : Gc) (m : Mm) (H : Heap) : Prop := H.size = gz g + mC m ∧ (∀ a, mK m a ≠ 0 → gz g ≤ a ∧ a < gz g + mC m) ∧ va_P (gD g) vwCl (wld g m) H
theorem wld_len (g : Gc) (m : Mm) : (wld g m).length = mC m := by simp [wld]
theorem wld_at (g : Gc) (m : Mm) {i : Nat} (h : i < mC m) : (wld g m)[i]? = some (gz g + i, entK g m (gz g + i) (mK m (gz g + i))) := by
  simp [wld, h]
theorem wld_get {g : Gc} {m : Mm} {H : Heap} (hw : Wd g m H) {a k : Nat} (hk : mK m a = k) (h0 : k ≠ 0) : (wld g m)[a - gz g]? = some (a, entK g m a k) := by
  obtain ⟨h1, h2⟩ := hw.2.1 a (by rw [hk]; exact h0)
  rw [wld_at g m (by omega), show gz g + (a - gz g) = a by omega, hk]
theorem wld_D (g : Gc) (m : Mm) : va_D (gA g) (wld g m) := by
  refine ⟨fun i j p q hi hj e => ?_, fun k q hq => ?_⟩
  · have h1 : i < mC m := by have := (List.getElem?_eq_some_iff.mp hi).1; rwa [wld_len] at this
    have h2 : j < mC m := by have := (List.getElem?_eq_some_iff.mp hj).1; rwa [wld_len] at this
    rw [wld_at g m h1] at hi
    rw [wld_at g m h2] at hj
    cases hi; cases hj
    simp only at e
    omega
  · have h1 : k < mC m := by have := (List.getElem?_eq_some_iff.mp hq).1; rwa [wld_len] at this
    rw [wld_at g m h1] at hq
    cases hq
    exact Nat.le_add_right _ _
theorem ent_congr (g : Gc) {m m' : Mm} {b : Nat} (k : Nat) (h1 : mI m' b = mI m b) (h2 : mL m' b = mL m b) (h3 : mR m' b = mR m b) (h4 : mN m' b = mN m b) : entK g m' b k = entK g m b k := by
  have hf : ∀ ci, flds m' b ci = flds m b ci := by
    intro ci
    unfold flds
    refine List.map_congr_left (fun j _ => ?_)
    unfold fv
    rw [h1, h2, h3]
  unfold entK
  rw [h1, h2, h3, h4]
  split <;> simp only [hf]
theorem wld_set {g : Gc} {m m' : Mm} {a : Nat} {e : va_E} (hz : gz g ≤ a) (hc : mC m' = mC m) (hk : mK m' = mK m) (ho : ∀ b, b ≠ a → mI m' b = mI m b ∧ mL m' b = mL m b ∧ mR m' b = mR m b ∧ mN m' b = mN m b) (he : entK g m' a (mK m a) = e) : (wld g m).set (a - gz g) (a, e) = wld g m' := by
  refine List.ext_getElem? (fun i => ?_)
  by_cases hi : i < mC m
  · rw [wld_at g m' (by rw [hc]; exact hi), hk]
    by_cases hia : i = a - gz g
    · subst hia
      rw [List.getElem?_set_self (by rw [wld_len]; exact hi), show gz g + (a - gz g) = a by omega, he]
    · rw [List.getElem?_set_ne (fun h => hia h.symm), wld_at g m hi]
      obtain ⟨h1, h2, h3, h4⟩ := ho (gz g + i) (by omega)
      rw [ent_congr g _ h1 h2 h3 h4]
  · rw [List.getElem?_eq_none (by rw [List.length_set, wld_len]; omega), List.getElem?_eq_none (by rw [wld_len, hc]; omega)]
theorem up2_ne {α : Type} {f : Nat → Nat → α} {a j b : Nat} {v : α} (h : b ≠ a) : up2 f a j v b = f b := by
  funext i; simp [up2, h]
theorem up2_eq {α : Type} (f : Nat → Nat → α) (a j : Nat) (v : α) : up2 f a j v a = va_up (f a) j v := by
  funext i; simp [up2, va_up]
theorem Ext.sI (m : Mm) (a j : Nat) (v : Int32) : Ext m (sI m a j v) := fun _ _ => ⟨rfl, rfl, fun _ _ _ h => h⟩
theorem Ext.sL (m : Mm) (a j : Nat) (v : Int64) : Ext m (sL m a j v) := fun _ _ => ⟨rfl, rfl, fun _ _ _ h => h⟩
theorem Ext.rI (m : Mm) (a : Nat) (f : Nat → Int32) : Ext m (rI m a f) := fun _ _ => ⟨rfl, rfl, fun _ _ _ h => h⟩
theorem Ext.rL (m : Mm) (a : Nat) (f : Nat → Int64) : Ext m (rL m a f) := fun _ _ => ⟨rfl, rfl, fun _ _ _ h => h⟩
theorem Ext.sR {m : Mm} {a j : Nat} (v : Option Nat) (h : finR (mK m a) j = false ∨ mR m a j = none) : Ext m (sR m a j v) := fun b _ => ⟨rfl, rfl, fun i y hf hr => by
  show up2 (mR m) a j v b i = some y
  by_cases hb : b = a
  · by_cases hi : i = j
    · subst hb; subst hi
      rcases h with h | h
      · rw [hf] at h; cases h
      · rw [hr] at h; cases h
    · simp [up2, hb, hi]; rw [← hb]; exact hr
  · simp [up2, hb]; exact hr⟩
/-- what the tables and the old cells say at a state -/
def EV (g : Gc) (U : State) (H : Heap) : Prop := (∀ w ∈ tG, ∀ x : Array Value, w.before x U = true) ∧ (∀ q ∈ nestL, va_Nw (.methodLinkNest q.1 q.2.1 q.2.2.1 q.2.2.2) U) ∧ (∀ C ∈ aoL, va_AO C U) ∧ va_K (gD g) vwCl (gT g) U
  ∧ (∀ i, i < 13 → va_O "java/lang/String" (gK g i) (gA g) U H ∧ va_OF "java/lang/String" "coder" "B" (.int 0) (gK g i) (gA g) U H ∧ va_OF "java/lang/String" "value" "[B" (.ref (gV g i)) (gK g i) (gA g) U H ∧ va_T .byte (gV g i) (stLen.getD i 0) (fun j => .int ((stByt.getD i []).getD j 0)) (gA g) U H)
  ∧ (∀ q ∈ strL, vk_R q.1 q.2.1 q.2.2.1 (gK g q.2.2.2) U) ∧ (va_Z "java/lang/String" "COMPACT_STRINGS" "Z" (.int 1) (gA g) U H ∧ va_Zq "jdk/internal/util/Preconditions" "SIOOBE_FORMATTER" "Ljava/util/function/BiFunction;" (gA g) U H) ∧ va_T .int (gb g) (gn g) (fun j => .int (gx g j)) (gA g) U H
theorem EV.warm {g : Gc} {s U : State} {H H1 : Heap} (h : EV g s H) (hW : s.WarmedH U.vm) (hk : ∀ a : Nat, a < H.size → ¬ gA g a → H1[a]? = H[a]?) : EV g U H1 := by
  obtain ⟨h1, h2, h3, h4, h5, h6, h7, h8⟩ := h
  refine ⟨fun w hw x => word_at hW (tG_good hw) (h1 w hw x), fun q hq => va_Nw.warmM hW (h2 q hq), fun C hC => va_AO.moved hW.alike (h3 C hC), va_K.moved hW.alike h4, fun i hi => ?_, fun q hq => vk_R.warm hW (h6 q hq), ⟨(va_Z.moved hW.alike h7.1).kept hk, (va_Zq.moved hW.alike h7.2).kept hk⟩, (va_T.moved hW.alike h8).kept hk⟩
  obtain ⟨a1, a2, a3, a4⟩ := h5 i hi
  exact ⟨(va_O.moved hW.alike a1).kept hk, (va_OF.moved hW.alike a2).kept hk, (va_OF.moved hW.alike a3).kept hk, (va_T.moved hW.alike a4).kept hk⟩
abbrev Md : Type := MethodName × ByteArray × Nat × Option FieldType
/-- an activation of the method M -/
def Act (g : Gc) (M : Md) (p : Program) (s : State) (mid : MethodId) (meth : Method) (c : Code) : Prop :=
  p.tables.exec = Jvm.exec ∧ c.code = M.2.1 ∧ meth.sig.returnType = M.2.2.2 ∧ c.maxLocals = M.2.2.1 ∧ s.vm.findClass M.1.cls = some mid.cls ∧ meth.locks = false ∧ meth.name = M.1.name ∧ EV g s s.heap
def PX (g : Gc) (av : List Value) (m : Mm) : Array Value → State → Prop := fun v U => v = av.toArray ∧ Wd g m U.heap ∧ EV g U U.heap
def QX (g : Gc) (r : Option Value) (m' : Mm) : Array Value → State → Outcome → State → Prop := fun _ st o t => o = .returned r ∧ Wd g m' t.heap ∧ va_F (gA g) st t
/-- the method M at these arguments, over the memory m, comes back with r, the memory m' behind it -/
def CallX (g : Gc) (M : Md) (lv : Nat) (av : List Value) (m : Mm) (r : Option Value) (m' : Mm) : Prop :=
  mC m ≤ mC m' ∧ (mS m ≤ mS m' ∧ Ext m m') ∧ Met (gl g) M.1 [Cond.code M.1 M.2.1 M.2.2.1 M.2.2.2] { frames := lv, cells := mC m' - mC m, slots := mS m' - mS m, locals := 64 * lv } (PX g av m) (QX g r m') (mC m' - mC m) (mS m' - mS m) (gA g)
def Call (g : Gc) (M : Md) (lv : Nat) (av : List Value) (m : Mm) (Q : Option Value → Mm → Prop) : Prop := ∃ r m', Q r m' ∧ CallX g M lv av m r m'
theorem Call.mono {g : Gc} {M : Md} {lv : Nat} {av : List Value} {m : Mm} {Q Q' : Option Value → Mm → Prop} (h : Call g M lv av m Q) (hq : ∀ r m', Q r m' → Q' r m') : Call g M lv av m Q' := by
  obtain ⟨r, m', h1, h2⟩ := h
  exact ⟨r, m', hq r m' h1, h2⟩
theorem Call.monoE {g : Gc} {M : Md} {lv : Nat} {av : List Value} {m : Mm} {Q Q' : Option Value → Mm → Prop} (h : Call g M lv av m Q) (hq : ∀ r m', Q r m' → Ext m m' → Q' r m') : Call g M lv av m Q' := by
  obtain ⟨r, m', h1, h2⟩ := h
  exact ⟨r, m', hq r m' h1 h2.2.1.2, h2⟩
/-- from pc on, with the locals lc and the stack st, the method comes back with r, the memory m' behind it -/
def Rn (g : Gc) (M : Md) (lv : Nat) (r : Option Value) (m' : Mm) (pc : Nat) (lc : List (Nat × Value)) (st : List Value) (m : Mm) : Prop :=
  mC m ≤ mC m' ∧ (mS m ≤ mS m' ∧ Ext m m') ∧ ∀ (p : Program) (e : Env) (s : State) (mid : MethodId) (args : Array Value) (below : List Frame) (meth : Method) (c : Code) (R : Room) (c0 s0 : Nat) (H : Heap) (locs : List Loc) (ls : Array Slot),
    Act g M p s mid meth c → (lv ≤ R.frames ∧ 64 * lv ≤ R.locals ∧ mC m' - c0 ≤ R.cells ∧ mS m' - s0 ≤ R.slots) → c0 ≤ mC m → s0 ≤ mS m → Wd g m H → va_S (gA g) s.heap H locs → lv_has ls M.2.2.1 lc → s.heap.size = gz g + c0 →
    W p (gl g) e R s mid args below meth c H locs (mC m - c0) (mS m - s0) (MQ below (QX g r m') args s (mC m' - c0) (mS m' - s0) (gA g)) (F0 mid pc ls st)
def At (g : Gc) (M : Md) (lv pc : Nat) (lc : List (Nat × Value)) (st : List Value) (m : Mm) (Q : Option Value → Mm → Prop) : Prop := ∃ r m', Q r m' ∧ Rn g M lv r m' pc lc st m
/-- an instruction that touches the stack alone -/
theorem At.lift {g : Gc} {M : Md} {lv pc pc' : Nat} {lc : List (Nat × Value)} {st st' : List Value} {m : Mm} {Q : Option Value → Mm → Prop}
    (h : ∀ (p : Program) (l : Launch) (e : Env) (R : Room) (s : State) (mid : MethodId) (args : Array Value) (below : List Frame) (meth : Method) (c : Code) (H : Heap) (locs : List Loc) (cells slots : Nat) (Z : State → Prop) (ls : Array Slot), p.tables.exec = Jvm.exec → c.code = M.2.1 → lv_has ls M.2.2.1 lc → W p l e R s mid args below meth c H locs cells slots Z (F0 mid pc' ls st') → W p l e R s mid args below meth c H locs cells slots Z (F0 mid pc ls st))
    (k : At g M lv pc' lc st' m Q) : At g M lv pc lc st m Q := by
  obtain ⟨r, m', hq, h1, h2, k⟩ := k
  refine ⟨r, m', hq, h1, h2, fun p e s mid args below meth c R c0 s0 H locs ls ha hr hc hs hw hS hl hz => ?_⟩
  exact h p (gl g) e R s mid args below meth c H locs _ _ _ ls ha.1 ha.2.1 hl (k p e s mid args below meth c R c0 s0 H locs ls ha hr hc hs hw hS hl hz)
/-- fewer locals, in another order -/
theorem At.sub {g : Gc} {M : Md} {lv pc : Nat} {lc lc' : List (Nat × Value)} {st : List Value} {m : Mm} {Q : Option Value → Mm → Prop} (ps : List Nat) (hp : ps.filterMap (fun i => lc[i]?) = lc') (k : At g M lv pc lc' st m Q) : At g M lv pc lc st m Q := by
  obtain ⟨r, m', hq, h1, h2, k⟩ := k
  exact ⟨r, m', hq, h1, h2, fun p e s mid args below meth c R c0 s0 H locs ls ha hr hc hs hw hS hl hz => k p e s mid args below meth c R c0 s0 H locs ls ha hr hc hs hw hS (lv_sub hl ps hp) hz⟩
theorem At.mono {g : Gc} {M : Md} {lv pc : Nat} {lc : List (Nat × Value)} {st : List Value} {m : Mm} {Q Q' : Option Value → Mm → Prop} (k : At g M lv pc lc st m Q) (h : ∀ r m', Q r m' → Q' r m') : At g M lv pc lc st m Q' := by
  obtain ⟨r, m', hq, k⟩ := k
  exact ⟨r, m', h r m' hq, k⟩
/-- a method's body gives its contract -/
theorem Call.of {g : Gc} {M : Md} {lv : Nat} {av : List Value} {m : Mm} {Q : Option Value → Mm → Prop} (hn : plainName M.1.cls = true) (hl : (lg_sl av).length ≤ M.2.2.1) (k : At g M lv 0 (lv_args 0 av) [] m Q) : Call g M lv av m Q := by
  obtain ⟨r, m', hq, h1, h2, k⟩ := k
  refine ⟨r, m', hq, h1, h2, ?_⟩
  refine Met.ofW (cc := M.2.1) (maxL := M.2.2.1) (ret := M.2.2.2) hn rfl ?_
  intro p e s mid args below meth c s₁ B hml hv
  obtain ⟨rfl, hw, hE⟩ := hv
  have hnm := (name_of_methodNamed B.named B.method).1
  have ha : Act g M p s mid meth c := ⟨B.exec, B.bytes, B.returns, hml, findClass_of_methodNamed B.named, B.notSynchronized, hnm, hE⟩
  rw [lg_entry_eq]
  have hlv := lv_entry av (n := M.2.2.1) hl
  have hW := k p e s mid av.toArray below meth c { frames := lv, cells := mC m' - mC m, slots := mS m' - mS m, locals := 64 * lv } (mC m) (mS m) s.heap [] _ ha ⟨Nat.le_refl _, Nat.le_refl _, Nat.le_refl _, Nat.le_refl _⟩ (Nat.le_refl _) (Nat.le_refl _) hw va_S.rf hlv hw.1
  rw [Nat.sub_self, Nat.sub_self] at hW
  exact hW
theorem W.sz {p : Program} {l : Launch} {e : Env} {R : Room} {s : State} {m : MethodId} {args : Array Value} {below : List Frame} {meth : Method} {c : Code} {H : Heap} {locs : List Loc} {cells slots : Nat} {Q : State → Prop} {fr : JFrame} {n : Nat} (hlo : n ≤ H.size) (hs : s.heap.size + cells = n) (k : H.size = n → W p l e R s m args below meth c H locs cells slots Q fr) : W p l e R s m args below meth c H locs cells slots Q fr := fun T hT X => k (by have h := X.heapSize; rw [hT] at h; omega) T hT X
theorem wld_lo {g : Gc} {m : Mm} {H : Heap} (hP : va_P (gD g) vwCl (wld g m) H) (h0 : gz g ≤ H.size) : gz g + mC m ≤ H.size := by
  rcases Nat.eq_zero_or_pos (mC m) with h | h
  · omega
  · have h1 : gz g + (mC m - 1) < H.size := (hP _ _ (wld_at g m (show mC m - 1 < mC m by omega))).lt
    omega
