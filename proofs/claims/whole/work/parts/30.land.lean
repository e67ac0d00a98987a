/-! ===== a land: its abstract state, and the cells that hold it ===== -/
/-- the class's cell of an int: code c, place i; t: the Land; pa: the addresses of the receipts -/
def cI (t : Nat) (pa : Nat → Nat) : Nat → Nat → Nat × Nat
  | 0, 0 => (t, 8)
  | 0, 1 => (t, 9)
  | 0, 2 => (t, 10)
  | 0, 3 => (t + 3, 1)
  | 0, 4 => (t, 11)
  | 0, 5 => (t, 12)
  | 0, _ => (t, 13)
  | 9, i => (pa i, 0)
  | 10, i => (pa i, 1)
  | 11, i => (pa i, 2)
  | 16, i => (t + 13 + 4 * (i % 12), i / 12)
  | 17, i => (t + 14 + 4 * (i % 12), i / 12)
  | 18, i => (t + 15 + 4 * (i % 12), i / 12)
  | 19, i => (t + 9, i)
  | 20, i => (t + 10, i)
  | 21, i => (t + 60 + i, 0)
  | 22, i => (t + 60 + i, 1)
  | c, i => (t + 12 + 4 * i, c + 2)
/-- the class's cell of a long -/
def cJ (t : Nat) : Nat → Nat → Nat × Nat
  | 0, i => if i < 12 then (t + 12 + 4 * i, 11) else (t + 60 + (i - 12), 2)
  | 1, i => (t + 12 + 4 * i, 12)
  | _, i => (t + 11, i)
/-- which ints there are: n growers, the year y, r receipts -/
def vI (n y r : Nat) : Nat → Nat → Prop
  | 0, i => i < 7
  | 9, i => i < r
  | 10, i => i < r
  | 11, i => i < r
  | 16, i => i % 12 < n ∧ i < 360
  | 17, i => i % 12 < n ∧ i / 12 < y
  | 18, i => i % 12 < n ∧ i / 12 < y
  | 19, i => i < y
  | 20, i => i < y
  | 21, i => i < 3
  | 22, i => i < 3
  | c, i => 1 ≤ c ∧ c ≤ 8 ∧ i < n
def vJ (n : Nat) : Nat → Nat → Prop
  | 0, i => i < n ∨ (12 ≤ i ∧ i < 15)
  | 1, i => i < n
  | 2, i => i < 8
  | _, _ => False
/-- the reference's cell of an int, in the land l -/
def rI' (M l : Nat) : Nat → Nat → Nat × Nat
  | 0, 0 => (M, 19)
  | 0, 1 => (M + 21, l)
  | 0, 2 => (M + 22, l)
  | 0, 3 => (M + 23, l)
  | 0, 4 => (M + 24, l)
  | 0, _ => (M, 47)
  | 1, i => (M + 10, i)
  | 2, i => (M + 11, i)
  | 3, i => (M + 25, 12 * l + i)
  | 4, i => (M + 26, 3 * (12 * l + i))
  | 5, i => (M + 26, 3 * (12 * l + i) + 1)
  | 6, i => (M + 26, 3 * (12 * l + i) + 2)
  | 7, i => (M + 27, 12 * l + i)
  | 8, i => (M + 20, i)
  | 9, i => (M + 30, 400 * l + i)
  | 10, i => (M + 31, 400 * l + i)
  | 11, i => (M + 32, 400 * l + i)
  | 17, i => (M + 14, i)
  | 18, i => (M + 17, i)
  | 19, i => (M + 15, i)
  | 20, i => (M + 16, i)
  | 21, i => (M + 5, i)
  | _, i => (M + 6, i)
def rJ (M l : Nat) : Nat → Nat → Nat × Nat
  | 0, i => (M + 29, 15 * l + i)
  | 1, i => (M + 28, 12 * l + i)
  | _, i => (M + 33, 8 * l + i)
/-- a cell map holds what the abstract state says -/
def HoldI (V : Nat → Nat → Prop) (k : Nat → Nat → Nat × Nat) (A m : Mm) : Prop := ∀ c i, V c i → mI m (k c i).1 (k c i).2 = mI A c i
def HoldJ (V : Nat → Nat → Prop) (k : Nat → Nat → Nat × Nat) (A m : Mm) : Prop := ∀ c i, V c i → mL m (k c i).1 (k c i).2 = mL A c i
def InjK (V : Nat → Nat → Prop) (k : Nat → Nat → Nat × Nat) : Prop := ∀ c i c' i', V c i → V c' i' → k c i = k c' i' → c = c' ∧ i = i'
theorem HoldI.put {V : Nat → Nat → Prop} {k : Nat → Nat → Nat × Nat} {A m : Mm} (h : HoldI V k A m) (hi : InjK V k) {c i : Nat} (hv : V c i) (v : Int32) : HoldI V k (sI A c i v) (sI m (k c i).1 (k c i).2 v) := by
  intro c' i' hv'
  rw [mI_sI, mI_sI]
  by_cases he : c' = c ∧ i' = i
  · obtain ⟨rfl, rfl⟩ := he
    rw [up2_at, up2_at]
  · have h1 : ¬ (k c' i' = k c i) := fun e => he (hi c' i' c i hv' hv e)
    have h2 : up2 (mI A) c i v c' i' = mI A c' i' := by
      unfold up2
      by_cases hc : c' = c
      · rw [if_pos hc, if_neg (fun e => he ⟨hc, e⟩)]
      · rw [if_neg hc]
    have h3 : up2 (mI m) (k c i).1 (k c i).2 v (k c' i').1 (k c' i').2 = mI m (k c' i').1 (k c' i').2 := by
      unfold up2
      by_cases hc : (k c' i').1 = (k c i).1
      · rw [if_pos hc, if_neg (fun e => h1 (Prod.ext hc e))]
      · rw [if_neg hc]
    rw [h2, h3]
    exact h c' i' hv'
theorem HoldJ.put {V : Nat → Nat → Prop} {k : Nat → Nat → Nat × Nat} {A m : Mm} (h : HoldJ V k A m) (hi : InjK V k) {c i : Nat} (hv : V c i) (v : Int64) : HoldJ V k (sL A c i v) (sL m (k c i).1 (k c i).2 v) := by
  intro c' i' hv'
  rw [mL_sL, mL_sL]
  by_cases he : c' = c ∧ i' = i
  · obtain ⟨rfl, rfl⟩ := he
    rw [up2_at, up2_at]
  · have h1 : ¬ (k c' i' = k c i) := fun e => he (hi c' i' c i hv' hv e)
    have h2 : up2 (mL A) c i v c' i' = mL A c' i' := by
      unfold up2
      by_cases hc : c' = c
      · rw [if_pos hc, if_neg (fun e => he ⟨hc, e⟩)]
      · rw [if_neg hc]
    have h3 : up2 (mL m) (k c i).1 (k c i).2 v (k c' i').1 (k c' i').2 = mL m (k c' i').1 (k c' i').2 := by
      unfold up2
      by_cases hc : (k c' i').1 = (k c i).1
      · rw [if_pos hc, if_neg (fun e => h1 (Prod.ext hc e))]
      · rw [if_neg hc]
    rw [h2, h3]
    exact h c' i' hv'
/-- a store elsewhere -/
theorem HoldI.off {V : Nat → Nat → Prop} {k : Nat → Nat → Nat × Nat} {A m m' : Mm} (h : HoldI V k A m) (ho : ∀ c i, V c i → mI m' (k c i).1 (k c i).2 = mI m (k c i).1 (k c i).2) : HoldI V k A m' := fun c i hv => (ho c i hv).trans (h c i hv)
theorem HoldJ.off {V : Nat → Nat → Prop} {k : Nat → Nat → Nat × Nat} {A m m' : Mm} (h : HoldJ V k A m) (ho : ∀ c i, V c i → mL m' (k c i).1 (k c i).2 = mL m (k c i).1 (k c i).2) : HoldJ V k A m' := fun c i hv => (ho c i hv).trans (h c i hv)
/-- from a cell back to code and place -/
def cInv (t : Nat) (q : Nat × Nat) : Nat × Nat :=
  let d := q.1 - t
  if d = 0 then (0, if q.2 = 8 then 0 else if q.2 = 9 then 1 else if q.2 = 10 then 2 else if q.2 = 11 then 4 else if q.2 = 12 then 5 else 6)
  else if d = 3 then (0, 3)
  else if d = 9 then (19, q.2)
  else if d = 10 then (20, q.2)
  else if d < 60 then (if (d - 12) % 4 = 0 then (q.2 - 2, (d - 12) / 4) else if (d - 12) % 4 = 1 then (16, 12 * q.2 + (d - 12) / 4) else if (d - 12) % 4 = 2 then (17, 12 * q.2 + (d - 12) / 4) else (18, 12 * q.2 + (d - 12) / 4))
  else (if q.2 = 0 then (21, d - 60) else (22, d - 60))
theorem cInv_ok {t n y r c i : Nat} {pa : Nat → Nat} (hn : n ≤ 12) (hv : vI n y r c i) (hc : c ≠ 9 ∧ c ≠ 10 ∧ c ≠ 11) : cInv t (cI t pa c i) = (c, i) ∧ t ≤ (cI t pa c i).1 ∧ (cI t pa c i).1 < t + 63 := by
  unfold vI at hv
  split at hv
  · rcases (show i = 0 ∨ i = 1 ∨ i = 2 ∨ i = 3 ∨ i = 4 ∨ i = 5 ∨ i = 6 by omega) with rfl | rfl | rfl | rfl | rfl | rfl | rfl <;> refine ⟨?_, ?_, ?_⟩ <;> simp [cI, cInv]
  · exact absurd rfl hc.1
  · exact absurd rfl hc.2.1
  · exact absurd rfl hc.2.2
  · refine ⟨?_, ?_, ?_⟩
    · show cInv t (t + 13 + 4 * (i % 12), i / 12) = (16, i)
      unfold cInv
      simp only
      rw [if_neg (by omega), if_neg (by omega), if_neg (by omega), if_neg (by omega), if_pos (by omega), if_neg (by omega), if_pos (by omega)]
      exact Prod.ext rfl (by show 12 * (i / 12) + _ = i; omega)
    · show t ≤ t + 13 + 4 * (i % 12); omega
    · show t + 13 + 4 * (i % 12) < t + 63; omega
  · refine ⟨?_, ?_, ?_⟩
    · show cInv t (t + 14 + 4 * (i % 12), i / 12) = (17, i)
      unfold cInv
      simp only
      rw [if_neg (by omega), if_neg (by omega), if_neg (by omega), if_neg (by omega), if_pos (by omega), if_neg (by omega), if_neg (by omega), if_pos (by omega)]
      exact Prod.ext rfl (by show 12 * (i / 12) + _ = i; omega)
    · show t ≤ t + 14 + 4 * (i % 12); omega
    · show t + 14 + 4 * (i % 12) < t + 63; omega
  · refine ⟨?_, ?_, ?_⟩
    · show cInv t (t + 15 + 4 * (i % 12), i / 12) = (18, i)
      unfold cInv
      simp only
      rw [if_neg (by omega), if_neg (by omega), if_neg (by omega), if_neg (by omega), if_pos (by omega), if_neg (by omega), if_neg (by omega), if_neg (by omega)]
      exact Prod.ext rfl (by show 12 * (i / 12) + _ = i; omega)
    · show t ≤ t + 15 + 4 * (i % 12); omega
    · show t + 15 + 4 * (i % 12) < t + 63; omega
  · refine ⟨?_, ?_, ?_⟩
    · show cInv t (t + 9, i) = (19, i)
      unfold cInv
      simp only
      rw [if_neg (by omega), if_neg (by omega), if_pos (by omega)]
    · show t ≤ t + 9; omega
    · show t + 9 < t + 63; omega
  · refine ⟨?_, ?_, ?_⟩
    · show cInv t (t + 10, i) = (20, i)
      unfold cInv
      simp only
      rw [if_neg (by omega), if_neg (by omega), if_neg (by omega), if_pos (by omega)]
    · show t ≤ t + 10; omega
    · show t + 10 < t + 63; omega
  · refine ⟨?_, ?_, ?_⟩
    · show cInv t (t + 60 + i, 0) = (21, i)
      unfold cInv
      simp only
      rw [if_neg (by omega), if_neg (by omega), if_neg (by omega), if_neg (by omega), if_neg (by omega), if_pos trivial]
      exact Prod.ext rfl (by show t + 60 + i - t - 60 = i; omega)
    · show t ≤ t + 60 + i; omega
    · show t + 60 + i < t + 63; omega
  · refine ⟨?_, ?_, ?_⟩
    · show cInv t (t + 60 + i, 1) = (22, i)
      unfold cInv
      simp only
      rw [if_neg (by omega), if_neg (by omega), if_neg (by omega), if_neg (by omega), if_neg (by omega), if_neg (by omega)]
      exact Prod.ext rfl (by show t + 60 + i - t - 60 = i; omega)
    · show t ≤ t + 60 + i; omega
    · show t + 60 + i < t + 63; omega
  · obtain ⟨h1, h2, h3⟩ := hv
    have he : cI t pa c i = (t + 12 + 4 * i, c + 2) := by
      rcases (show c = 1 ∨ c = 2 ∨ c = 3 ∨ c = 4 ∨ c = 5 ∨ c = 6 ∨ c = 7 ∨ c = 8 by omega) with rfl | rfl | rfl | rfl | rfl | rfl | rfl | rfl <;> rfl
    rw [he]
    refine ⟨?_, ?_, ?_⟩
    · unfold cInv
      simp only
      rw [if_neg (by omega), if_neg (by omega), if_neg (by omega), if_neg (by omega), if_pos (by omega), if_pos (by omega)]
      exact Prod.ext (by show c + 2 - 2 = c; omega) (by show (t + 12 + 4 * i - t - 12) / 4 = i; omega)
    · show t ≤ t + 12 + 4 * i; omega
    · show t + 12 + 4 * i < t + 63; omega
theorem cI_inj {t n y r : Nat} {pa : Nat → Nat} (hn : n ≤ 12) (hp : ∀ i j, i < r → j < r → pa i = pa j → i = j) (hq : ∀ i, i < r → ¬ (t ≤ pa i ∧ pa i < t + 63)) : InjK (vI n y r) (cI t pa) := by
  intro c i c' i' hv hv' he
  have rec9 : ∀ {c i : Nat}, vI n y r c i → (c = 9 ∨ c = 10 ∨ c = 11) → cI t pa c i = (pa i, c - 9) ∧ i < r := by
    intro c i hv hc
    rcases hc with rfl | rfl | rfl
    · exact ⟨rfl, hv⟩
    · exact ⟨rfl, hv⟩
    · exact ⟨rfl, hv⟩
  by_cases h1 : c = 9 ∨ c = 10 ∨ c = 11
  · obtain ⟨e1, l1⟩ := rec9 hv h1
    by_cases h2 : c' = 9 ∨ c' = 10 ∨ c' = 11
    · obtain ⟨e2, l2⟩ := rec9 hv' h2
      rw [e1, e2] at he
      have a1 := congrArg Prod.fst he
      have a2 := congrArg Prod.snd he
      simp only at a1 a2
      exact ⟨by omega, hp i i' l1 l2 a1⟩
    · have := cInv_ok (t := t) (pa := pa) hn hv' (by omega)
      rw [← he, e1] at this
      exact absurd this.2 (hq i l1)
  · have k1 := cInv_ok (t := t) (pa := pa) hn hv (by omega)
    by_cases h2 : c' = 9 ∨ c' = 10 ∨ c' = 11
    · obtain ⟨e2, l2⟩ := rec9 hv' h2
      rw [he, e2] at k1
      exact absurd k1.2 (hq i' l2)
    · have k2 := cInv_ok (t := t) (pa := pa) hn hv' (by omega)
      rw [he] at k1
      have := k1.1.symm.trans k2.1
      exact ⟨congrArg Prod.fst this, congrArg Prod.snd this⟩
