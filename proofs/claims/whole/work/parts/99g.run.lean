/-! ===== building the objects: a list of steps and what it leaves ===== -/
def m00 : Mm := (fun _ _ => 0, fun _ _ => 0, fun _ _ => none, fun _ => 0, fun _ => 0, 0, 0)
abbrev Op : Type := Nat × Nat × Nat × Nat × Nat
/-- (0, i, k, n, z): the cell i of kind k, length n; (1, a, j, b, 0): a reference; (2, a, j, v, 0): an int; (3, a, j, 0, 0): the int -1 -/
def ost (g : Gc) (m : Mm) (o : Op) : Mm := if o.1 = 0 then nw m (gz g + o.2.1) o.2.2.1 o.2.2.2.1 o.2.2.2.2 else if o.1 = 1 then sR m (gz g + o.2.1) o.2.2.1 (some (gz g + o.2.2.2.1)) else if o.1 = 2 then sI m (gz g + o.2.1) o.2.2.1 (nI o.2.2.2.1) else sI m (gz g + o.2.1) o.2.2.1 (-1)
def run (g : Gc) (b : Mm) : List Op → Mm
  | [] => b
  | o :: l => ost g (run g b l) o
def cnt : List Op → Nat
  | [] => 0
  | o :: l => (if o.1 = 0 then 1 else 0) + cnt l
def szs : List Op → Nat
  | [] => 0
  | o :: l => (if o.1 = 0 then o.2.2.2.2 else 0) + szs l
def cK : List Op → Nat → Option (Nat × Nat)
  | [], _ => none
  | o :: l, a => if o.1 = 0 ∧ o.2.1 = a then some (o.2.2.1, o.2.2.2.1) else cK l a
def cR : List Op → Nat → Nat → Option (Option Nat)
  | [], _, _ => none
  | o :: l, a, j => if o.1 = 0 ∧ o.2.1 = a then some none else if o.1 = 1 ∧ o.2.1 = a ∧ o.2.2.1 = j then some (some o.2.2.2.1) else cR l a j
def cV : List Op → Nat → Nat → Option Int32
  | [], _, _ => none
  | o :: l, a, j => if o.1 = 0 ∧ o.2.1 = a then some 0 else if o.1 = 2 ∧ o.2.1 = a ∧ o.2.2.1 = j then some (nI o.2.2.2.1) else if o.1 ≠ 0 ∧ o.1 ≠ 1 ∧ o.1 ≠ 2 ∧ o.2.1 = a ∧ o.2.2.1 = j then some (-1) else cV l a j
theorem run_C {g : Gc} {b : Mm} : ∀ l, mC (run g b l) = mC b + cnt l ∧ mS (run g b l) = mS b + szs l
  | [] => ⟨rfl, rfl⟩
  | o :: l => by
    obtain ⟨h1, h2⟩ := run_C (g := g) (b := b) l
    show mC (ost g (run g b l) o) = _ ∧ mS (ost g (run g b l) o) = _
    unfold ost cnt szs
    by_cases h0 : o.1 = 0
    · rw [if_pos h0, if_pos h0, if_pos h0]
      exact ⟨by show mC (run g b l) + 1 = _; omega, by show mS (run g b l) + _ = _; omega⟩
    · rw [if_neg h0, if_neg h0, if_neg h0]
      have e : mC (if o.1 = 1 then sR (run g b l) (gz g + o.2.1) o.2.2.1 (some (gz g + o.2.2.2.1)) else if o.1 = 2 then sI (run g b l) (gz g + o.2.1) o.2.2.1 (nI o.2.2.2.1) else sI (run g b l) (gz g + o.2.1) o.2.2.1 (-1)) = mC (run g b l) ∧ mS (if o.1 = 1 then sR (run g b l) (gz g + o.2.1) o.2.2.1 (some (gz g + o.2.2.2.1)) else if o.1 = 2 then sI (run g b l) (gz g + o.2.1) o.2.2.1 (nI o.2.2.2.1) else sI (run g b l) (gz g + o.2.1) o.2.2.1 (-1)) = mS (run g b l) := by
        split
        · exact ⟨rfl, rfl⟩
        · split
          · exact ⟨rfl, rfl⟩
          · exact ⟨rfl, rfl⟩
      rw [e.1, e.2]
      omega
theorem nw_at {m : Mm} {q k n sz : Nat} : mK (nw m q k n sz) q = k ∧ mN (nw m q k n sz) q = n ∧ mR (nw m q k n sz) q = (fun _ => none) ∧ mI (nw m q k n sz) q = (fun _ => 0) ∧ mL (nw m q k n sz) q = (fun _ => 0) := by
  refine ⟨nw_new.1, nw_new.2, nw_r, ?_, ?_⟩
  · show va_up (mI m) q (fun _ => 0) q = _
    simp [va_up]
  · show va_up (mL m) q (fun _ => 0) q = _
    simp [va_up]
/-- what a cell is after the steps -/
theorem run_ok {g : Gc} {b : Mm} : ∀ (l : List Op) (a : Nat), (mK (run g b l) (gz g + a) = ((cK l a).getD (mK b (gz g + a), mN b (gz g + a))).1 ∧ mN (run g b l) (gz g + a) = ((cK l a).getD (mK b (gz g + a), mN b (gz g + a))).2) ∧ (∀ j, mR (run g b l) (gz g + a) j = ((cR l a j).map (fun o => o.map (fun x => gz g + x))).getD (mR b (gz g + a) j)) ∧ (∀ j, mI (run g b l) (gz g + a) j = (cV l a j).getD (mI b (gz g + a) j)) ∧ mL (run g b l) (gz g + a) = if (cK l a).isSome = true then (fun _ => 0) else mL b (gz g + a)
  | [], a => ⟨⟨rfl, rfl⟩, fun _ => rfl, fun _ => rfl, rfl⟩
  | o :: l, a => by
    obtain ⟨⟨h1, h2⟩, h3, h4, h5⟩ := run_ok (g := g) (b := b) l a
    show (mK (ost g (run g b l) o) _ = _ ∧ mN (ost g (run g b l) o) _ = _) ∧ (∀ j, mR (ost g (run g b l) o) _ j = _) ∧ (∀ j, mI (ost g (run g b l) o) _ j = _) ∧ mL (ost g (run g b l) o) _ = _
    generalize run g b l = m at h1 h2 h3 h4 h5
    unfold ost cK cR cV
    by_cases h0 : o.1 = 0
    · rw [if_pos h0]
      by_cases ha : o.2.1 = a
      · subst ha
        obtain ⟨n1, n2, n3, n4, n5⟩ := nw_at (m := m) (q := gz g + o.2.1) (k := o.2.2.1) (n := o.2.2.2.1) (sz := o.2.2.2.2)
        rw [n1, n2, n5]
        refine ⟨?_, fun j => ?_, fun j => ?_, ?_⟩
        · rw [if_pos ⟨h0, rfl⟩]; exact ⟨rfl, rfl⟩
        · rw [n3, if_pos ⟨h0, rfl⟩]; rfl
        · rw [n4, if_pos ⟨h0, rfl⟩]; rfl
        · rw [if_pos (show o.1 = 0 ∧ o.2.1 = o.2.1 from ⟨h0, rfl⟩)]; rfl
      · obtain ⟨n1, n2, n3, n4⟩ := nw_old (m := m) (q := gz g + o.2.1) (k := o.2.2.1) (n := o.2.2.2.1) (sz := o.2.2.2.2) (a := gz g + a) (by omega)
        rw [n1, n2, n3, n4, nw_N (by omega)]
        refine ⟨?_, fun j => ?_, fun j => ?_, ?_⟩
        · rw [if_neg (fun z => ha z.2)]; exact ⟨h1, h2⟩
        · rw [if_neg (fun z => ha z.2), if_neg (by omega)]; exact h3 j
        · rw [if_neg (fun z => ha z.2), if_neg (by omega), if_neg (by omega)]; exact h4 j
        · rw [if_neg (show ¬ (o.1 = 0 ∧ o.2.1 = a) from fun z => ha z.2)]; exact h5
    · rw [if_neg h0]
      by_cases o1 : o.1 = 1
      · rw [if_pos o1]
        refine ⟨?_, fun j => ?_, fun j => ?_, ?_⟩
        · rw [if_neg (fun z => h0 z.1)]; exact ⟨h1, h2⟩
        · rw [if_neg (fun z => h0 z.1), mR_sR]
          by_cases hj : o.2.1 = a ∧ o.2.2.1 = j
          · rw [if_pos ⟨o1, hj⟩, ← hj.1, ← hj.2, up2_at]; rfl
          · rw [if_neg (fun z => hj z.2), up2_not (by omega)]; exact h3 j
        · rw [if_neg (fun z => h0 z.1), if_neg (by omega), if_neg (by omega)]; exact h4 j
        · rw [if_neg (show ¬ (o.1 = 0 ∧ o.2.1 = a) from fun z => h0 z.1)]; exact h5
      · rw [if_neg o1]
        by_cases o2 : o.1 = 2
        · rw [if_pos o2]
          refine ⟨?_, fun j => ?_, fun j => ?_, ?_⟩
          · rw [if_neg (fun z => h0 z.1)]; exact ⟨h1, h2⟩
          · rw [if_neg (fun z => h0 z.1), if_neg (by omega)]; exact h3 j
          · rw [if_neg (fun z => h0 z.1), mI_sI]
            by_cases hj : o.2.1 = a ∧ o.2.2.1 = j
            · rw [if_pos ⟨o2, hj⟩, ← hj.1, ← hj.2, up2_at]; rfl
            · rw [if_neg (fun z => hj z.2), if_neg (by omega), up2_not (by omega)]; exact h4 j
          · rw [if_neg (show ¬ (o.1 = 0 ∧ o.2.1 = a) from fun z => h0 z.1)]; exact h5
        · rw [if_neg o2]
          refine ⟨?_, fun j => ?_, fun j => ?_, ?_⟩
          · rw [if_neg (fun z => h0 z.1)]; exact ⟨h1, h2⟩
          · rw [if_neg (fun z => h0 z.1), if_neg (by omega)]; exact h3 j
          · rw [if_neg (fun z => h0 z.1), if_neg (by omega), mI_sI]
            by_cases hj : o.2.1 = a ∧ o.2.2.1 = j
            · rw [if_pos ⟨h0, o1, o2, hj⟩, ← hj.1, ← hj.2, up2_at]; rfl
            · rw [if_neg (fun z => hj z.2.2.2), up2_not (by omega)]; exact h4 j
          · rw [if_neg (show ¬ (o.1 = 0 ∧ o.2.1 = a) from fun z => h0 z.1)]; exact h5
def Frb (g : Gc) (b : Mm) : Prop := ∀ a, mC b ≤ a → mK b (gz g + a) = 0
theorem rK {g : Gc} {b : Mm} {l : List Op} {a k n : Nat} (h : cK l a = some (k, n)) : mK (run g b l) (gz g + a) = k ∧ mN (run g b l) (gz g + a) = n := by
  have := (run_ok (g := g) (b := b) l a).1
  rw [h] at this
  exact this
theorem stN {g : Gc} {b : Mm} {l : List Op} {P : Nat → Mm → Prop} {kd n' z' : Nat} (i n z k0 : Nat) (hf : Frb g b) (hb : mC b = k0) (hi : k0 + cnt l = i) (hk : cK l i = none) (hn : n' = n) (hz : z' = z) (h : P (gz g + i) (run g b ((0, i, kd, n, z) :: l))) : mK (run g b l) (gz g + mC (run g b l)) = 0 ∧ ∀ q m', q = gz g + mC (run g b l) → m' = nw (run g b l) q kd n' z' → P q m' := by
  have c := (run_C (g := g) (b := b) l).1
  rw [hb, hi] at c
  rw [c]
  have := (run_ok (g := g) (b := b) l i).1.1
  rw [hk] at this
  refine ⟨this.trans (hf i (by omega)), fun q m' eq em => ?_⟩
  subst eq em hn hz
  exact h
theorem stR {g : Gc} {b : Mm} {l : List Op} {P : Mm → Prop} {a j x : Nat} (hr : cR l a j = some none) (h : P (run g b ((1, a, j, x, 0) :: l))) : mR (run g b l) (gz g + a) j = none ∧ ∀ m', m' = sR (run g b l) (gz g + a) j (some (gz g + x)) → P m' := by
  have := (run_ok (g := g) (b := b) l a).2.1 j
  rw [hr] at this
  refine ⟨this, fun m' e => ?_⟩
  subst e
  exact h
theorem stI {g : Gc} {b : Mm} {l : List Op} {P : Mm → Prop} {a j' : Nat} {v' : Int32} (j v : Nat) (hj : j' = j) (hv : v' = nI v) (h : P (run g b ((2, a, j, v, 0) :: l))) : ∀ m', m' = sI (run g b l) (gz g + a) j' v' → P m' := by
  intro m' e
  subst e hj hv
  exact h
theorem stM {g : Gc} {b : Mm} {l : List Op} {P : Mm → Prop} {a j' : Nat} {v' : Int32} (j : Nat) (hj : j' = j) (hv : v' = -1) (h : P (run g b ((3, a, j, 0, 0) :: l))) : ∀ m', m' = sI (run g b l) (gz g + a) j' v' → P m' := by
  intro m' e
  subst e hj hv
  exact h
theorem stK {g : Gc} {b : Mm} {l : List Op} {a k n : Nat} {P : Prop} (hk : cK l a = some (k, n)) (h : P) : mK (run g b l) (gz g + a) = k ∧ P := ⟨(rK hk).1, h⟩
theorem stV {g : Gc} {b : Mm} {l : List Op} {a k n : Nat} {c : Int32} {P : Prop} (i : Nat) (hc : c = nI i) (hk : cK l a = some (k, n)) (hi : i < n) (hn : n < 2 ^ 31) (h : P) : vp_in c (mN (run g b l) (gz g + a)) ∧ P := by
  rw [hc, (rK hk).2]
  exact ⟨vp_in_nI hi hn, h⟩
theorem rR {g : Gc} {b : Mm} {l : List Op} {a j x : Nat} (h : cR l a j = some (some x)) : mR (run g b l) (gz g + a) j = some (gz g + x) := by
  have := (run_ok (g := g) (b := b) l a).2.1 j
  rw [h] at this
  exact this
theorem frb0 (g : Gc) : Frb g m00 := fun _ _ => rfl
