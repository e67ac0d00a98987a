/-! ===== from the law's start to the claim ===== -/
theorem str_one {args : Array Value} {s : State} {t : Term} {n : Nat} {bs : List Int32} {A : Nat → Prop} (hN : n < 2 ^ 31) (hex : (Cond.exactly t "java/lang/String").before args s = true) (hco : (Cond.eq (.field t "java/lang/String" "coder" "B") (.int 0)).before args s = true) (har : (Cond.arrayOf (.field t "java/lang/String" "value" "[B") .byte).before args s = true)
    (hle : (Cond.eq (.length (.field t "java/lang/String" "value" "[B")) (.int (Int32.ofNat n))).before args s = true) (hel : ∀ j : Nat, j < n → (Cond.eq (.elem (.field t "java/lang/String" "value" "[B") (.int (Int32.ofNat j))) (.int (bs.getD j 0))).before args s = true) (hA : ∀ a : Nat, a < s.heap.size → ¬ A a) :
    ∃ q : Nat × Nat, t.eval args s none [] s = some (.ref q.1) ∧ va_O "java/lang/String" q.1 A s s.heap ∧ va_OF "java/lang/String" "coder" "B" (.int 0) q.1 A s s.heap ∧ va_OF "java/lang/String" "value" "[B" (.ref q.2) q.1 A s s.heap ∧ va_T .byte q.2 n (fun j => .int (bs.getD j 0)) A s s.heap := by
  obtain ⟨a, c, cA, kA, q1, q2, q3, q4, q5, q6, -⟩ := Cond.exactly_spec (args := args) (first := s) (o := none) (s := s) (idx := []) (t := t) (cls := "java/lang/String") hex
  obtain ⟨t2, ht, hT⟩ := va_Tof (f := fun j => .int (bs.getD j 0)) (A := A) hN har (va_eqt hle) (fun j hj => va_eqt (hel j hj)) hA
  exact ⟨(a, t2), q1, ⟨cA, q3, q5, by rw [q6]; exact q2, hA a (Array.getElem?_eq_some_iff.mp q3).1⟩, vk_OFof q1 (va_eqt hco) hA, vk_OFof q1 ht hA, hT⟩
def stT : Nat → Nat
  | 0 => 94
  | 1 => 100
  | 2 => 102
  | 3 => 104
  | 4 => 106
  | 5 => 108
  | 6 => 110
  | 7 => 112
  | 8 => 114
  | 9 => 116
  | 10 => 118
  | 11 => 120
  | 12 => 122
  | _ => 0
theorem str_0 {args : Array Value} {s : State} {A : Nat → Prop} (hs : ∀ c ∈ flatC (Jvm.Cond.and given_1 narrow_1), c.before args s = true) (hA : ∀ a : Nat, a < s.heap.size → ¬ A a) : ∃ q : Nat × Nat, (Term.string "SurplusLand$Tape" (stT 0)).eval args s none [] s = some (.ref q.1) ∧ va_O "java/lang/String" q.1 A s s.heap ∧ va_OF "java/lang/String" "coder" "B" (.int 0) q.1 A s s.heap ∧ va_OF "java/lang/String" "value" "[B" (.ref q.2) q.1 A s s.heap ∧ va_T .byte q.2 (stLen.getD 0 0) (fun j => .int ((stByt.getD 0 []).getD j 0)) A s s.heap := by
  refine str_one (n := stLen.getD 0 0) (bs := stByt.getD 0 []) (by decide) (hs _ (by decide +kernel)) (hs _ (by decide +kernel)) (hs _ (by decide +kernel)) (hs _ (by decide +kernel)) ?_ hA
  intro j hj
  have hj : j < 4 := hj
  rcases (show j = 0 ∨ j = 1 ∨ j = 2 ∨ j = 3 by omega) with rfl | rfl | rfl | rfl <;> exact hs _ (by decide +kernel)
theorem str_1 {args : Array Value} {s : State} {A : Nat → Prop} (hs : ∀ c ∈ flatC (Jvm.Cond.and given_1 narrow_1), c.before args s = true) (hA : ∀ a : Nat, a < s.heap.size → ¬ A a) : ∃ q : Nat × Nat, (Term.string "SurplusLand$Tape" (stT 1)).eval args s none [] s = some (.ref q.1) ∧ va_O "java/lang/String" q.1 A s s.heap ∧ va_OF "java/lang/String" "coder" "B" (.int 0) q.1 A s s.heap ∧ va_OF "java/lang/String" "value" "[B" (.ref q.2) q.1 A s s.heap ∧ va_T .byte q.2 (stLen.getD 1 0) (fun j => .int ((stByt.getD 1 []).getD j 0)) A s s.heap := by
  refine str_one (n := stLen.getD 1 0) (bs := stByt.getD 1 []) (by decide) (hs _ (by decide +kernel)) (hs _ (by decide +kernel)) (hs _ (by decide +kernel)) (hs _ (by decide +kernel)) ?_ hA
  intro j hj
  have hj : j < 4 := hj
  rcases (show j = 0 ∨ j = 1 ∨ j = 2 ∨ j = 3 by omega) with rfl | rfl | rfl | rfl <;> exact hs _ (by decide +kernel)
theorem str_2 {args : Array Value} {s : State} {A : Nat → Prop} (hs : ∀ c ∈ flatC (Jvm.Cond.and given_1 narrow_1), c.before args s = true) (hA : ∀ a : Nat, a < s.heap.size → ¬ A a) : ∃ q : Nat × Nat, (Term.string "SurplusLand$Tape" (stT 2)).eval args s none [] s = some (.ref q.1) ∧ va_O "java/lang/String" q.1 A s s.heap ∧ va_OF "java/lang/String" "coder" "B" (.int 0) q.1 A s s.heap ∧ va_OF "java/lang/String" "value" "[B" (.ref q.2) q.1 A s s.heap ∧ va_T .byte q.2 (stLen.getD 2 0) (fun j => .int ((stByt.getD 2 []).getD j 0)) A s s.heap := by
  refine str_one (n := stLen.getD 2 0) (bs := stByt.getD 2 []) (by decide) (hs _ (by decide +kernel)) (hs _ (by decide +kernel)) (hs _ (by decide +kernel)) (hs _ (by decide +kernel)) ?_ hA
  intro j hj
  have hj : j < 4 := hj
  rcases (show j = 0 ∨ j = 1 ∨ j = 2 ∨ j = 3 by omega) with rfl | rfl | rfl | rfl <;> exact hs _ (by decide +kernel)
theorem str_3 {args : Array Value} {s : State} {A : Nat → Prop} (hs : ∀ c ∈ flatC (Jvm.Cond.and given_1 narrow_1), c.before args s = true) (hA : ∀ a : Nat, a < s.heap.size → ¬ A a) : ∃ q : Nat × Nat, (Term.string "SurplusLand$Tape" (stT 3)).eval args s none [] s = some (.ref q.1) ∧ va_O "java/lang/String" q.1 A s s.heap ∧ va_OF "java/lang/String" "coder" "B" (.int 0) q.1 A s s.heap ∧ va_OF "java/lang/String" "value" "[B" (.ref q.2) q.1 A s s.heap ∧ va_T .byte q.2 (stLen.getD 3 0) (fun j => .int ((stByt.getD 3 []).getD j 0)) A s s.heap := by
  refine str_one (n := stLen.getD 3 0) (bs := stByt.getD 3 []) (by decide) (hs _ (by decide +kernel)) (hs _ (by decide +kernel)) (hs _ (by decide +kernel)) (hs _ (by decide +kernel)) ?_ hA
  intro j hj
  have hj : j < 5 := hj
  rcases (show j = 0 ∨ j = 1 ∨ j = 2 ∨ j = 3 ∨ j = 4 by omega) with rfl | rfl | rfl | rfl | rfl <;> exact hs _ (by decide +kernel)
theorem str_4 {args : Array Value} {s : State} {A : Nat → Prop} (hs : ∀ c ∈ flatC (Jvm.Cond.and given_1 narrow_1), c.before args s = true) (hA : ∀ a : Nat, a < s.heap.size → ¬ A a) : ∃ q : Nat × Nat, (Term.string "SurplusLand$Tape" (stT 4)).eval args s none [] s = some (.ref q.1) ∧ va_O "java/lang/String" q.1 A s s.heap ∧ va_OF "java/lang/String" "coder" "B" (.int 0) q.1 A s s.heap ∧ va_OF "java/lang/String" "value" "[B" (.ref q.2) q.1 A s s.heap ∧ va_T .byte q.2 (stLen.getD 4 0) (fun j => .int ((stByt.getD 4 []).getD j 0)) A s s.heap := by
  refine str_one (n := stLen.getD 4 0) (bs := stByt.getD 4 []) (by decide) (hs _ (by decide +kernel)) (hs _ (by decide +kernel)) (hs _ (by decide +kernel)) (hs _ (by decide +kernel)) ?_ hA
  intro j hj
  have hj : j < 5 := hj
  rcases (show j = 0 ∨ j = 1 ∨ j = 2 ∨ j = 3 ∨ j = 4 by omega) with rfl | rfl | rfl | rfl | rfl <;> exact hs _ (by decide +kernel)
theorem str_5 {args : Array Value} {s : State} {A : Nat → Prop} (hs : ∀ c ∈ flatC (Jvm.Cond.and given_1 narrow_1), c.before args s = true) (hA : ∀ a : Nat, a < s.heap.size → ¬ A a) : ∃ q : Nat × Nat, (Term.string "SurplusLand$Tape" (stT 5)).eval args s none [] s = some (.ref q.1) ∧ va_O "java/lang/String" q.1 A s s.heap ∧ va_OF "java/lang/String" "coder" "B" (.int 0) q.1 A s s.heap ∧ va_OF "java/lang/String" "value" "[B" (.ref q.2) q.1 A s s.heap ∧ va_T .byte q.2 (stLen.getD 5 0) (fun j => .int ((stByt.getD 5 []).getD j 0)) A s s.heap := by
  refine str_one (n := stLen.getD 5 0) (bs := stByt.getD 5 []) (by decide) (hs _ (by decide +kernel)) (hs _ (by decide +kernel)) (hs _ (by decide +kernel)) (hs _ (by decide +kernel)) ?_ hA
  intro j hj
  have hj : j < 2 := hj
  rcases (show j = 0 ∨ j = 1 by omega) with rfl | rfl <;> exact hs _ (by decide +kernel)
theorem str_6 {args : Array Value} {s : State} {A : Nat → Prop} (hs : ∀ c ∈ flatC (Jvm.Cond.and given_1 narrow_1), c.before args s = true) (hA : ∀ a : Nat, a < s.heap.size → ¬ A a) : ∃ q : Nat × Nat, (Term.string "SurplusLand$Tape" (stT 6)).eval args s none [] s = some (.ref q.1) ∧ va_O "java/lang/String" q.1 A s s.heap ∧ va_OF "java/lang/String" "coder" "B" (.int 0) q.1 A s s.heap ∧ va_OF "java/lang/String" "value" "[B" (.ref q.2) q.1 A s s.heap ∧ va_T .byte q.2 (stLen.getD 6 0) (fun j => .int ((stByt.getD 6 []).getD j 0)) A s s.heap := by
  refine str_one (n := stLen.getD 6 0) (bs := stByt.getD 6 []) (by decide) (hs _ (by decide +kernel)) (hs _ (by decide +kernel)) (hs _ (by decide +kernel)) (hs _ (by decide +kernel)) ?_ hA
  intro j hj
  have hj : j < 3 := hj
  rcases (show j = 0 ∨ j = 1 ∨ j = 2 by omega) with rfl | rfl | rfl <;> exact hs _ (by decide +kernel)
theorem str_7 {args : Array Value} {s : State} {A : Nat → Prop} (hs : ∀ c ∈ flatC (Jvm.Cond.and given_1 narrow_1), c.before args s = true) (hA : ∀ a : Nat, a < s.heap.size → ¬ A a) : ∃ q : Nat × Nat, (Term.string "SurplusLand$Tape" (stT 7)).eval args s none [] s = some (.ref q.1) ∧ va_O "java/lang/String" q.1 A s s.heap ∧ va_OF "java/lang/String" "coder" "B" (.int 0) q.1 A s s.heap ∧ va_OF "java/lang/String" "value" "[B" (.ref q.2) q.1 A s s.heap ∧ va_T .byte q.2 (stLen.getD 7 0) (fun j => .int ((stByt.getD 7 []).getD j 0)) A s s.heap := by
  refine str_one (n := stLen.getD 7 0) (bs := stByt.getD 7 []) (by decide) (hs _ (by decide +kernel)) (hs _ (by decide +kernel)) (hs _ (by decide +kernel)) (hs _ (by decide +kernel)) ?_ hA
  intro j hj
  have hj : j < 4 := hj
  rcases (show j = 0 ∨ j = 1 ∨ j = 2 ∨ j = 3 by omega) with rfl | rfl | rfl | rfl <;> exact hs _ (by decide +kernel)
theorem str_8 {args : Array Value} {s : State} {A : Nat → Prop} (hs : ∀ c ∈ flatC (Jvm.Cond.and given_1 narrow_1), c.before args s = true) (hA : ∀ a : Nat, a < s.heap.size → ¬ A a) : ∃ q : Nat × Nat, (Term.string "SurplusLand$Tape" (stT 8)).eval args s none [] s = some (.ref q.1) ∧ va_O "java/lang/String" q.1 A s s.heap ∧ va_OF "java/lang/String" "coder" "B" (.int 0) q.1 A s s.heap ∧ va_OF "java/lang/String" "value" "[B" (.ref q.2) q.1 A s s.heap ∧ va_T .byte q.2 (stLen.getD 8 0) (fun j => .int ((stByt.getD 8 []).getD j 0)) A s s.heap := by
  refine str_one (n := stLen.getD 8 0) (bs := stByt.getD 8 []) (by decide) (hs _ (by decide +kernel)) (hs _ (by decide +kernel)) (hs _ (by decide +kernel)) (hs _ (by decide +kernel)) ?_ hA
  intro j hj
  have hj : j < 5 := hj
  rcases (show j = 0 ∨ j = 1 ∨ j = 2 ∨ j = 3 ∨ j = 4 by omega) with rfl | rfl | rfl | rfl | rfl <;> exact hs _ (by decide +kernel)
theorem str_9 {args : Array Value} {s : State} {A : Nat → Prop} (hs : ∀ c ∈ flatC (Jvm.Cond.and given_1 narrow_1), c.before args s = true) (hA : ∀ a : Nat, a < s.heap.size → ¬ A a) : ∃ q : Nat × Nat, (Term.string "SurplusLand$Tape" (stT 9)).eval args s none [] s = some (.ref q.1) ∧ va_O "java/lang/String" q.1 A s s.heap ∧ va_OF "java/lang/String" "coder" "B" (.int 0) q.1 A s s.heap ∧ va_OF "java/lang/String" "value" "[B" (.ref q.2) q.1 A s s.heap ∧ va_T .byte q.2 (stLen.getD 9 0) (fun j => .int ((stByt.getD 9 []).getD j 0)) A s s.heap := by
  refine str_one (n := stLen.getD 9 0) (bs := stByt.getD 9 []) (by decide) (hs _ (by decide +kernel)) (hs _ (by decide +kernel)) (hs _ (by decide +kernel)) (hs _ (by decide +kernel)) ?_ hA
  intro j hj
  have hj : j < 3 := hj
  rcases (show j = 0 ∨ j = 1 ∨ j = 2 by omega) with rfl | rfl | rfl <;> exact hs _ (by decide +kernel)
theorem str_10 {args : Array Value} {s : State} {A : Nat → Prop} (hs : ∀ c ∈ flatC (Jvm.Cond.and given_1 narrow_1), c.before args s = true) (hA : ∀ a : Nat, a < s.heap.size → ¬ A a) : ∃ q : Nat × Nat, (Term.string "SurplusLand$Tape" (stT 10)).eval args s none [] s = some (.ref q.1) ∧ va_O "java/lang/String" q.1 A s s.heap ∧ va_OF "java/lang/String" "coder" "B" (.int 0) q.1 A s s.heap ∧ va_OF "java/lang/String" "value" "[B" (.ref q.2) q.1 A s s.heap ∧ va_T .byte q.2 (stLen.getD 10 0) (fun j => .int ((stByt.getD 10 []).getD j 0)) A s s.heap := by
  refine str_one (n := stLen.getD 10 0) (bs := stByt.getD 10 []) (by decide) (hs _ (by decide +kernel)) (hs _ (by decide +kernel)) (hs _ (by decide +kernel)) (hs _ (by decide +kernel)) ?_ hA
  intro j hj
  have hj : j < 5 := hj
  rcases (show j = 0 ∨ j = 1 ∨ j = 2 ∨ j = 3 ∨ j = 4 by omega) with rfl | rfl | rfl | rfl | rfl <;> exact hs _ (by decide +kernel)
theorem str_11 {args : Array Value} {s : State} {A : Nat → Prop} (hs : ∀ c ∈ flatC (Jvm.Cond.and given_1 narrow_1), c.before args s = true) (hA : ∀ a : Nat, a < s.heap.size → ¬ A a) : ∃ q : Nat × Nat, (Term.string "SurplusLand$Tape" (stT 11)).eval args s none [] s = some (.ref q.1) ∧ va_O "java/lang/String" q.1 A s s.heap ∧ va_OF "java/lang/String" "coder" "B" (.int 0) q.1 A s s.heap ∧ va_OF "java/lang/String" "value" "[B" (.ref q.2) q.1 A s s.heap ∧ va_T .byte q.2 (stLen.getD 11 0) (fun j => .int ((stByt.getD 11 []).getD j 0)) A s s.heap := by
  refine str_one (n := stLen.getD 11 0) (bs := stByt.getD 11 []) (by decide) (hs _ (by decide +kernel)) (hs _ (by decide +kernel)) (hs _ (by decide +kernel)) (hs _ (by decide +kernel)) ?_ hA
  intro j hj
  have hj : j < 4 := hj
  rcases (show j = 0 ∨ j = 1 ∨ j = 2 ∨ j = 3 by omega) with rfl | rfl | rfl | rfl <;> exact hs _ (by decide +kernel)
theorem str_12 {args : Array Value} {s : State} {A : Nat → Prop} (hs : ∀ c ∈ flatC (Jvm.Cond.and given_1 narrow_1), c.before args s = true) (hA : ∀ a : Nat, a < s.heap.size → ¬ A a) : ∃ q : Nat × Nat, (Term.string "SurplusLand$Tape" (stT 12)).eval args s none [] s = some (.ref q.1) ∧ va_O "java/lang/String" q.1 A s s.heap ∧ va_OF "java/lang/String" "coder" "B" (.int 0) q.1 A s s.heap ∧ va_OF "java/lang/String" "value" "[B" (.ref q.2) q.1 A s s.heap ∧ va_T .byte q.2 (stLen.getD 12 0) (fun j => .int ((stByt.getD 12 []).getD j 0)) A s s.heap := by
  refine str_one (n := stLen.getD 12 0) (bs := stByt.getD 12 []) (by decide) (hs _ (by decide +kernel)) (hs _ (by decide +kernel)) (hs _ (by decide +kernel)) (hs _ (by decide +kernel)) ?_ hA
  intro j hj
  have hj : j < 4 := hj
  rcases (show j = 0 ∨ j = 1 ∨ j = 2 ∨ j = 3 by omega) with rfl | rfl | rfl | rfl <;> exact hs _ (by decide +kernel)
theorem str_all {args : Array Value} {s : State} {A : Nat → Prop} (hs : ∀ c ∈ flatC (Jvm.Cond.and given_1 narrow_1), c.before args s = true) (hA : ∀ a : Nat, a < s.heap.size → ¬ A a) : ∃ adK adV : Nat → Nat, ∀ i, i < 13 → (Term.string "SurplusLand$Tape" (stT i)).eval args s none [] s = some (.ref (adK i)) ∧ va_O "java/lang/String" (adK i) A s s.heap ∧ va_OF "java/lang/String" "coder" "B" (.int 0) (adK i) A s s.heap ∧ va_OF "java/lang/String" "value" "[B" (.ref (adV i)) (adK i) A s s.heap ∧ va_T .byte (adV i) (stLen.getD i 0) (fun j => .int ((stByt.getD i []).getD j 0)) A s s.heap := by
  have h0 : ∀ i : Nat, ∃ q : Nat × Nat, i < 13 → (Term.string "SurplusLand$Tape" (stT i)).eval args s none [] s = some (.ref q.1) ∧ va_O "java/lang/String" q.1 A s s.heap ∧ va_OF "java/lang/String" "coder" "B" (.int 0) q.1 A s s.heap ∧ va_OF "java/lang/String" "value" "[B" (.ref q.2) q.1 A s s.heap ∧ va_T .byte q.2 (stLen.getD i 0) (fun j => .int ((stByt.getD i []).getD j 0)) A s s.heap := by
    intro i
    by_cases hi : i < 13
    · rcases (show i = 0 ∨ i = 1 ∨ i = 2 ∨ i = 3 ∨ i = 4 ∨ i = 5 ∨ i = 6 ∨ i = 7 ∨ i = 8 ∨ i = 9 ∨ i = 10 ∨ i = 11 ∨ i = 12 by omega) with rfl | rfl | rfl | rfl | rfl | rfl | rfl | rfl | rfl | rfl | rfl | rfl | rfl
      · obtain ⟨q, h⟩ := str_0 hs hA; exact ⟨q, fun _ => h⟩
      · obtain ⟨q, h⟩ := str_1 hs hA; exact ⟨q, fun _ => h⟩
      · obtain ⟨q, h⟩ := str_2 hs hA; exact ⟨q, fun _ => h⟩
      · obtain ⟨q, h⟩ := str_3 hs hA; exact ⟨q, fun _ => h⟩
      · obtain ⟨q, h⟩ := str_4 hs hA; exact ⟨q, fun _ => h⟩
      · obtain ⟨q, h⟩ := str_5 hs hA; exact ⟨q, fun _ => h⟩
      · obtain ⟨q, h⟩ := str_6 hs hA; exact ⟨q, fun _ => h⟩
      · obtain ⟨q, h⟩ := str_7 hs hA; exact ⟨q, fun _ => h⟩
      · obtain ⟨q, h⟩ := str_8 hs hA; exact ⟨q, fun _ => h⟩
      · obtain ⟨q, h⟩ := str_9 hs hA; exact ⟨q, fun _ => h⟩
      · obtain ⟨q, h⟩ := str_10 hs hA; exact ⟨q, fun _ => h⟩
      · obtain ⟨q, h⟩ := str_11 hs hA; exact ⟨q, fun _ => h⟩
      · obtain ⟨q, h⟩ := str_12 hs hA; exact ⟨q, fun _ => h⟩
    · exact ⟨(0, 0), fun h => absurd h hi⟩
  obtain ⟨ad, had⟩ := Classical.axiomOfChoice h0
  exact ⟨fun i => (ad i).1, fun i => (ad i).2, fun i hi => had i hi⟩
theorem str_R {args : Array Value} {s : State} {adK : Nat → Nat} (hts : ∀ w ∈ lw_tbl, w.before args s = true) (hs : ∀ c ∈ flatC (Jvm.Cond.and given_1 narrow_1), c.before args s = true) (h : ∀ i, i < 13 → (Term.string "SurplusLand$Tape" (stT i)).eval args s none [] s = some (.ref (adK i))) : ∀ q ∈ strL, vk_R q.1 q.2.1 q.2.2.1 (adK q.2.2.2) s := by
  intro q hq
  simp only [strL, List.mem_cons, List.not_mem_nil, or_false] at hq
  rcases hq with rfl | rfl | rfl | rfl | rfl | rfl | rfl | rfl | rfl | rfl | rfl | rfl | rfl | rfl | rfl | rfl | rfl | rfl | rfl | rfl | rfl | rfl | rfl | rfl | rfl | rfl
  · exact vk_R.of (hts (.stringRef "SurplusLand$Tape" 94 "keep") (inT2 (List.mem_of_getElem? (i := 231) rfl))) (h 0 (by decide))
  · exact vk_R.of (hts (.stringRef "SurplusLand$Tape" 100 "sell") (inT3 (List.mem_of_getElem? (i := 44) rfl))) (h 1 (by decide))
  · exact vk_R.of (hts (.stringRef "SurplusLand$Tape" 102 "free") (inT3 (List.mem_of_getElem? (i := 45) rfl))) (h 2 (by decide))
  · exact vk_R.of (hts (.stringRef "SurplusLand$Tape" 104 "least") (inT3 (List.mem_of_getElem? (i := 46) rfl))) (h 3 (by decide))
  · exact vk_R.of (hts (.stringRef "SurplusLand$Tape" 106 "still") (inT3 (List.mem_of_getElem? (i := 47) rfl))) (h 4 (by decide))
  · exact vk_R.of (hts (.stringRef "SurplusLand$Tape" 108 "if") (inT3 (List.mem_of_getElem? (i := 48) rfl))) (h 5 (by decide))
  · exact vk_R.of (hts (.stringRef "SurplusLand$Tape" 110 "and") (inT3 (List.mem_of_getElem? (i := 49) rfl))) (h 6 (by decide))
  · exact vk_R.of (hts (.stringRef "SurplusLand$Tape" 112 "crop") (inT3 (List.mem_of_getElem? (i := 50) rfl))) (h 7 (by decide))
  · exact vk_R.of (hts (.stringRef "SurplusLand$Tape" 114 "store") (inT3 (List.mem_of_getElem? (i := 51) rfl))) (h 8 (by decide))
  · exact vk_R.of (hts (.stringRef "SurplusLand$Tape" 116 "old") (inT3 (List.mem_of_getElem? (i := 52) rfl))) (h 9 (by decide))
  · exact vk_R.of (hts (.stringRef "SurplusLand$Tape" 118 "price") (inT3 (List.mem_of_getElem? (i := 53) rfl))) (h 10 (by decide))
  · exact vk_R.of (hts (.stringRef "SurplusLand$Tape" 120 "want") (inT3 (List.mem_of_getElem? (i := 54) rfl))) (h 11 (by decide))
  · exact vk_R.of (hts (.stringRef "SurplusLand$Tape" 122 "year") (inT3 (List.mem_of_getElem? (i := 55) rfl))) (h 12 (by decide))
  · exact vk_R.of (hts (.stringRef "SurplusLandModel" 280 "keep") (inT6 (List.mem_of_getElem? (i := 106) rfl))) (va_eqR (hs (.eq (.string "SurplusLand$Tape" 94) (.string "SurplusLandModel" 280)) (by decide +kernel)) (h 0 (by decide)))
  · exact vk_R.of (hts (.stringRef "SurplusLandModel" 282 "free") (inT6 (List.mem_of_getElem? (i := 113) rfl))) (va_eqR (hs (.eq (.string "SurplusLand$Tape" 102) (.string "SurplusLandModel" 282)) (by decide +kernel)) (h 2 (by decide)))
  · exact vk_R.of (hts (.stringRef "SurplusLandModel" 283 "least") (inT6 (List.mem_of_getElem? (i := 114) rfl))) (va_eqR (hs (.eq (.string "SurplusLand$Tape" 104) (.string "SurplusLandModel" 283)) (by decide +kernel)) (h 3 (by decide)))
  · exact vk_R.of (hts (.stringRef "SurplusLandModel" 285 "still") (inT6 (List.mem_of_getElem? (i := 115) rfl))) (va_eqR (hs (.eq (.string "SurplusLand$Tape" 106) (.string "SurplusLandModel" 285)) (by decide +kernel)) (h 4 (by decide)))
  · exact vk_R.of (hts (.stringRef "SurplusLandModel" 290 "sell") (inT6 (List.mem_of_getElem? (i := 116) rfl))) (va_eqR (hs (.eq (.string "SurplusLand$Tape" 100) (.string "SurplusLandModel" 290)) (by decide +kernel)) (h 1 (by decide)))
  · exact vk_R.of (hts (.stringRef "SurplusLandModel" 247 "crop") (inT6 (List.mem_of_getElem? (i := 139) rfl))) (va_eqR (hs (.eq (.string "SurplusLand$Tape" 112) (.string "SurplusLandModel" 247)) (by decide +kernel)) (h 7 (by decide)))
  · exact vk_R.of (hts (.stringRef "SurplusLandModel" 252 "store") (inT6 (List.mem_of_getElem? (i := 140) rfl))) (va_eqR (hs (.eq (.string "SurplusLand$Tape" 114) (.string "SurplusLandModel" 252)) (by decide +kernel)) (h 8 (by decide)))
  · exact vk_R.of (hts (.stringRef "SurplusLandModel" 254 "old") (inT6 (List.mem_of_getElem? (i := 141) rfl))) (va_eqR (hs (.eq (.string "SurplusLand$Tape" 116) (.string "SurplusLandModel" 254)) (by decide +kernel)) (h 9 (by decide)))
  · exact vk_R.of (hts (.stringRef "SurplusLandModel" 256 "price") (inT6 (List.mem_of_getElem? (i := 142) rfl))) (va_eqR (hs (.eq (.string "SurplusLand$Tape" 118) (.string "SurplusLandModel" 256)) (by decide +kernel)) (h 10 (by decide)))
  · exact vk_R.of (hts (.stringRef "SurplusLandModel" 257 "want") (inT6 (List.mem_of_getElem? (i := 143) rfl))) (va_eqR (hs (.eq (.string "SurplusLand$Tape" 120) (.string "SurplusLandModel" 257)) (by decide +kernel)) (h 11 (by decide)))
  · exact vk_R.of (hts (.stringRef "SurplusLandModel" 259 "year") (inT6 (List.mem_of_getElem? (i := 144) rfl))) (va_eqR (hs (.eq (.string "SurplusLand$Tape" 122) (.string "SurplusLandModel" 259)) (by decide +kernel)) (h 12 (by decide)))
  · exact vk_R.of (hts (.stringRef "SurplusLandModel" 308 "if") (inT6 (List.mem_of_getElem? (i := 150) rfl))) (va_eqR (hs (.eq (.string "SurplusLand$Tape" 108) (.string "SurplusLandModel" 308)) (by decide +kernel)) (h 5 (by decide)))
  · exact vk_R.of (hts (.stringRef "SurplusLandModel" 278 "and") (inT6 (List.mem_of_getElem? (i := 155) rfl))) (va_eqR (hs (.eq (.string "SurplusLand$Tape" 110) (.string "SurplusLandModel" 278)) (by decide +kernel)) (h 6 (by decide)))
theorem nest_in : ∀ q ∈ nestL, Cond.methodLinkNest q.1 q.2.1 q.2.2.1 q.2.2.2 ∈ lw_tbl := by
  intro q hq
  simp only [nestL, List.mem_cons, List.not_mem_nil, or_false] at hq
  rcases hq with rfl | rfl | rfl | rfl | rfl | rfl | rfl | rfl | rfl | rfl | rfl | rfl | rfl | rfl | rfl
  · exact inT1 (List.mem_of_getElem? (i := 31) rfl)
  · exact inT1 (List.mem_of_getElem? (i := 81) rfl)
  · exact inT1 (List.mem_of_getElem? (i := 99) rfl)
  · exact inT1 (List.mem_of_getElem? (i := 138) rfl)
  · exact inT1 (List.mem_of_getElem? (i := 203) rfl)
  · exact inT2 (List.mem_of_getElem? (i := 36) rfl)
  · exact inT3 (List.mem_of_getElem? (i := 70) rfl)
  · exact inT3 (List.mem_of_getElem? (i := 139) rfl)
  · exact inT3 (List.mem_of_getElem? (i := 153) rfl)
  · exact inT3 (List.mem_of_getElem? (i := 187) rfl)
  · exact inT3 (List.mem_of_getElem? (i := 196) rfl)
  · exact inT3 (List.mem_of_getElem? (i := 215) rfl)
  · exact inT3 (List.mem_of_getElem? (i := 225) rfl)
  · exact inT4 (List.mem_of_getElem? (i := 123) rfl)
  · exact inT4 (List.mem_of_getElem? (i := 206) rfl)
theorem arr_prim {args : Array Value} {s : State} {ty : FieldType} (h : (Cond.arrayClass ty).before args s = true) (hty : ∀ C, ty ≠ .object C) : ∃ cA : ClassId, ArrOfT s cA ty ∧ va_RA s cA ty := by
  obtain ⟨c, k, comp, h1, h2, h3⟩ := Cond.arrayClass_spec (first := s) (o := none) (idx := []) h
  refine ⟨c, fun N z => ⟨(fun k h => by cases h), k, h2, comp, h3⟩, ?_⟩
  cases ty with
  | object C => exact absurd rfl (hty C)
  | _ => exact h1
theorem arr_obj {args : Array Value} {s : State} {C : String} (h : (Cond.arrayOver (.object C)).before args s = true) : ∃ cA : ClassId, ArrOfT s cA (.object C) ∧ va_RA s cA (.object C) := by
  obtain ⟨comp, c, k, h1, h2, h3, h4, h5⟩ := Cond.arrayOver_spec (first := s) (o := none) (idx := []) h
  exact ⟨c, fun N z => ⟨(fun k h => by cases h), k, h3, comp, h4⟩, k, comp, h3, h4, h1, h5⟩
theorem ev_start {s : State} {b L : Nat} {xs : Nat → Int32} (l : Launch) (hts : ∀ w ∈ lw_tbl, w.before #[Value.ref b] s = true) (hX : va_X b L xs s s.heap) (hbl : b < s.heap.size) (hgv : (Jvm.Cond.and given_1 narrow_1).before #[Value.ref b] s = true) : ∃ (D : va_G) (cy : Nat → ClassId) (adK adV : Nat → Nat), EV (l, D, cy, s.heap.size, adK, adV, b, L, xs) s s.heap := by
  have hs := flat_of_before _ hgv
  obtain ⟨c0, i0, hK0⟩ := u_known (C := RX0) (T := TX0) (N := 3) (n := 3) hts (fun w hw => (List.mem_filter.mp (cok0.2.1 w hw)).1) (hts (.instantiable "SurplusLand$Bank" 3) (inT1 (List.mem_of_getElem? (i := 202) rfl)))
  obtain ⟨c1, i1, hK1⟩ := u_known (C := RX1) (T := TX1) (N := 13) (n := 13) hts (fun w hw => (List.mem_filter.mp (cok1.2.1 w hw)).1) (hts (.instantiable "SurplusLand$Grower" 13) (inT1 (List.mem_of_getElem? (i := 137) rfl)))
  obtain ⟨c2, i2, hK2⟩ := u_known (C := RX2) (T := TX2) (N := 9) (n := 9) hts (fun w hw => (List.mem_filter.mp (cok2.2.1 w hw)).1) (hts (.instantiable "SurplusLand$Judge" 9) (inT1 (List.mem_of_getElem? (i := 98) rfl)))
  obtain ⟨c3, i3, hK3⟩ := u_known (C := RX3) (T := TX3) (N := 14) (n := 14) hts (fun w hw => (List.mem_filter.mp (cok3.2.1 w hw)).1) (hts (.instantiable "SurplusLand$Land" 14) (inT1 (List.mem_of_getElem? (i := 70) rfl)))
  obtain ⟨c4, i4, hK4⟩ := u_known (C := RX4) (T := TX4) (N := 7) (n := 7) hts (fun w hw => (List.mem_filter.mp (cok4.2.1 w hw)).1) (hts (.instantiable "SurplusLand$Law" 7) (inT2 (List.mem_of_getElem? (i := 72) rfl)))
  obtain ⟨c5, i5, hK5⟩ := u_known (C := RX5) (T := TX5) (N := 3) (n := 3) hts (fun w hw => (List.mem_filter.mp (cok5.2.1 w hw)).1) (hts (.instantiable "SurplusLand$Loan" 3) (inT4 (List.mem_of_getElem? (i := 151) rfl)))
  obtain ⟨c6, i6, hK6⟩ := u_known (C := RX6) (T := TX6) (N := 5) (n := 5) hts (fun w hw => (List.mem_filter.mp (cok6.2.1 w hw)).1) (hts (.instantiable "SurplusLand$Receipt" 5) (inT3 (List.mem_of_getElem? (i := 224) rfl)))
  obtain ⟨c7, i7, hK7⟩ := u_known (C := RX7) (T := TX7) (N := 3) (n := 3) hts (fun w hw => (List.mem_filter.mp (cok7.2.1 w hw)).1) (hts (.instantiable "SurplusLand$Rows" 3) (inT2 (List.mem_of_getElem? (i := 113) rfl)))
  obtain ⟨c8, i8, hK8⟩ := u_known (C := RX8) (T := TX8) (N := 2) (n := 2) hts (fun w hw => (List.mem_filter.mp (cok8.2.1 w hw)).1) (hts (.instantiable "SurplusLand$Store" 2) (inT1 (List.mem_of_getElem? (i := 80) rfl)))
  obtain ⟨c9, i9, hK9⟩ := u_known (C := RX9) (T := TX9) (N := 9) (n := 9) hts (fun w hw => (List.mem_filter.mp (cok9.2.1 w hw)).1) (hts (.instantiable "SurplusLand$Tape" 9) (inT2 (List.mem_of_getElem? (i := 35) rfl)))
  obtain ⟨c10, i10, hK10⟩ := u_known (C := RX10) (T := TX10) (N := 7) (n := 7) hts (fun w hw => (List.mem_filter.mp (cok10.2.1 w hw)).1) (hts (.instantiable "SurplusLand$Terms" 7) (inT1 (List.mem_of_getElem? (i := 30) rfl)))
  obtain ⟨c11, i11, hK11⟩ := u_known (C := RX11) (T := TX11) (N := 8) (n := 8) hts (fun w hw => (List.mem_filter.mp (cok11.2.1 w hw)).1) (hts (.instantiable "SurplusLand" 8) (inT1 (List.mem_of_getElem? (i := 22) rfl)))
  obtain ⟨c12, i12, hK12⟩ := u_known (C := RX12) (T := TX12) (N := 66) (n := 66) hts (fun w hw => (List.mem_filter.mp (cok12.2.1 w hw)).1) (hts (.instantiable "SurplusLandModel" 66) (inT5 (List.mem_of_getElem? (i := 56) rfl)))
  obtain ⟨y0, ha0⟩ := arr_prim (ty := .byte) (hts (.arrayClass .byte) (inT2 (List.mem_of_getElem? (i := 70) rfl))) (fun C h => by cases h)
  obtain ⟨y1, ha1⟩ := arr_prim (ty := .int) (hts (.arrayClass .int) (inT1 (List.mem_of_getElem? (i := 201) rfl))) (fun C h => by cases h)
  obtain ⟨y2, ha2⟩ := arr_prim (ty := .long) (hts (.arrayClass .long) (inT1 (List.mem_of_getElem? (i := 135) rfl))) (fun C h => by cases h)
  obtain ⟨y3, ha3⟩ := arr_prim (ty := .boolean) (hts (.arrayClass .boolean) (inT1 (List.mem_of_getElem? (i := 136) rfl))) (fun C h => by cases h)
  obtain ⟨y4, ha4⟩ := arr_obj (C := "SurplusLand$Bank") (hts (.arrayOver (.object "SurplusLand$Bank")) (inT1 (List.mem_of_getElem? (i := 78) rfl)))
  obtain ⟨y5, ha5⟩ := arr_obj (C := "SurplusLand$Grower") (hts (.arrayOver (.object "SurplusLand$Grower")) (inT1 (List.mem_of_getElem? (i := 76) rfl)))
  obtain ⟨y6, ha6⟩ := arr_obj (C := "SurplusLand$Law") (hts (.arrayOver (.object "SurplusLand$Law")) (inT2 (List.mem_of_getElem? (i := 111) rfl)))
  obtain ⟨y7, ha7⟩ := arr_obj (C := "SurplusLand$Receipt") (hts (.arrayOver (.object "SurplusLand$Receipt")) (inT1 (List.mem_of_getElem? (i := 86) rfl)))
  have hA : ∀ a : Nat, a < s.heap.size → ¬ (fun q : Nat => s.heap.size ≤ q) a := fun a h => Nat.not_le.mpr h
  obtain ⟨adK, adV, hst⟩ := str_all hs hA
  refine ⟨(fun k => if k = 0 then c0 else if k = 1 then c1 else if k = 2 then c2 else if k = 3 then c3 else if k = 4 then c4 else if k = 5 then c5 else if k = 6 then c6 else if k = 7 then c7 else if k = 8 then c8 else if k = 9 then c9 else if k = 10 then c10 else if k = 11 then c11 else c12, fun k => if k = 0 then i0 else if k = 1 then i1 else if k = 2 then i2 else if k = 3 then i3 else if k = 4 then i4 else if k = 5 then i5 else if k = 6 then i6 else if k = 7 then i7 else if k = 8 then i8 else if k = 9 then i9 else if k = 10 then i10 else if k = 11 then i11 else i12), fun k => if k = 0 then y0 else if k = 1 then y1 else if k = 2 then y2 else if k = 3 then y3 else if k = 4 then y4 else if k = 5 then y5 else if k = 6 then y6 else y7, adK, adV, ?_⟩
  refine ⟨fun w hw x => word_at (State.WarmedH.refl s) (tG_good hw) (hts w (List.mem_filter.mp hw).1), fun q hq => va_Nw.of rfl (hts _ (nest_in q hq)), fun C hC => ?_, ⟨fun k q hq => ?_, fun k q hq => ?_⟩, fun i hi => (hst i hi).2, str_R hts hs (fun i hi => (hst i hi).1), ?_, ?_⟩
  · simp only [aoL, List.mem_cons, List.not_mem_nil, or_false] at hC
    rcases hC with rfl | rfl | rfl | rfl
    · exact va_AO.of (hts (.arrayOver (.object "SurplusLand$Bank")) (inT1 (List.mem_of_getElem? (i := 78) rfl)))
    · exact va_AO.of (hts (.arrayOver (.object "SurplusLand$Grower")) (inT1 (List.mem_of_getElem? (i := 76) rfl)))
    · exact va_AO.of (hts (.arrayOver (.object "SurplusLand$Law")) (inT2 (List.mem_of_getElem? (i := 111) rfl)))
    · exact va_AO.of (hts (.arrayOver (.object "SurplusLand$Receipt")) (inT1 (List.mem_of_getElem? (i := 86) rfl)))
  · match k, hq with
    | 0, hq => cases hq; exact hK0
    | 1, hq => cases hq; exact hK1
    | 2, hq => cases hq; exact hK2
    | 3, hq => cases hq; exact hK3
    | 4, hq => cases hq; exact hK4
    | 5, hq => cases hq; exact hK5
    | 6, hq => cases hq; exact hK6
    | 7, hq => cases hq; exact hK7
    | 8, hq => cases hq; exact hK8
    | 9, hq => cases hq; exact hK9
    | 10, hq => cases hq; exact hK10
    | 11, hq => cases hq; exact hK11
    | 12, hq => cases hq; exact hK12
    | k + 13, hq => simp [vwCl] at hq
  · match k, hq with
    | 0, hq => cases hq; exact ha0
    | 1, hq => cases hq; exact ha1
    | 2, hq => cases hq; exact ha2
    | 3, hq => cases hq; exact ha3
    | 4, hq => cases hq; exact ha4
    | 5, hq => cases hq; exact ha5
    | 6, hq => cases hq; exact ha6
    | 7, hq => cases hq; exact ha7
    | k + 8, hq => simp [gT] at hq
  · exact ⟨va_Zof (hts (.laysStatic "java/lang/String" "COMPACT_STRINGS" "Z") (inT3 (List.mem_of_getElem? (i := 5) rfl))) (hts (.initialized "java/lang/String") (inT1 (List.mem_of_getElem? (i := 14) rfl))) (va_eqi (hs _ (by decide +kernel))) hA, va_Zqof (hts (.laysStatic "jdk/internal/util/Preconditions" "SIOOBE_FORMATTER" "Ljava/util/function/BiFunction;") (inT3 (List.mem_of_getElem? (i := 21) rfl))) (hts (.initialized "jdk/internal/util/Preconditions") (inT1 (List.mem_of_getElem? (i := 16) rfl))) (hs _ (by decide +kernel)) hA⟩
  · obtain ⟨scr, x1, x2, x3, x4, x5⟩ := hX
    exact ⟨scr, x1, x2, x3, Nat.le_of_eq x4.symm, by rw [x4]; rfl, fun j hj => x5 j hj, Nat.not_le.mpr hbl⟩
