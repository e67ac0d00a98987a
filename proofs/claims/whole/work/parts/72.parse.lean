/-! ===== reading a law: the common meaning; the class's sums ===== -/
def opA (k : Int32) (a b : Int64) : Int64 := if k = 4 then a + b else if k = 5 then a - b else if k = 6 then a * b else if b = 0 then 0 else a / b
abbrev Den : Type := (Nat → Int64) → Int64
abbrev Res : Type := (Nat × List Int32 × Den) ⊕ Nat
def nxt (o : Option Res) (k : Nat × List Int32 × Den → Option Res) : Option Res :=
  match o with
  | none => none
  | some (Sum.inr e) => some (Sum.inr e)
  | some (Sum.inl r) => k r
theorem nxt_some {o : Option Res} {k : Nat × List Int32 × Den → Option Res} {res : Res} (h : nxt o k = some res) : (∃ e, o = some (Sum.inr e) ∧ res = Sum.inr e) ∨ ∃ r, o = some (Sum.inl r) ∧ k r = some res := by
  cases o with
  | none => exact absurd h (by simp [nxt])
  | some q =>
    cases q with
    | inr e =>
      have : some (Sum.inr e) = some res := h
      exact Or.inl ⟨e, rfl, (Option.some.inj this).symm⟩
    | inl r => exact Or.inr ⟨r, rfl, h⟩
/-- modes: 0 factor, 1 term, 2 the rest of a term, 3 sum, 4 the rest of a sum -/
def pp (kd vl : Nat → Int32) : Nat → Nat → Nat → Nat → List Int32 → Den → Option Res
  | 0 => fun _ _ _ _ _ => none
  | n + 1 => fun mode dp i c d =>
    if mode = 0 then
      (if kd i = 3 then some (Sum.inl (i + 1, [vl i], fun _ => (vl i).toInt64))
      else if ¬ wi (kd i) 21 26 = 0 then some (Sum.inl (i + 1, [-(kd i)], fun f => f ((kd i).toNatClampNeg - 21)))
      else if kd i = 8 ∧ dp < 8 then nxt (pp kd vl n 3 (dp + 1) (i + 1) [] d) (fun r => if kd r.1 = 9 then some (Sum.inl (r.1 + 1, r.2.1, r.2.2)) else some (Sum.inr r.1))
      else some (Sum.inr i))
    else if mode = 1 then nxt (pp kd vl n 0 dp i [] d) (fun r => pp kd vl n 2 dp r.1 r.2.1 r.2.2)
    else if mode = 2 then
      (if ¬ wi (kd i) 6 7 = 0 then nxt (pp kd vl n 0 dp (i + 1) [] d) (fun r => pp kd vl n 2 dp r.1 (c ++ (r.2.1 ++ [-(kd i)])) (fun f => opA (kd i) (d f) (r.2.2 f)))
      else some (Sum.inl (i, c, d)))
    else if mode = 3 then nxt (pp kd vl n 1 dp i [] d) (fun r => pp kd vl n 4 dp r.1 r.2.1 r.2.2)
    else
      (if ¬ wi (kd i) 4 5 = 0 then nxt (pp kd vl n 1 dp (i + 1) [] d) (fun r => pp kd vl n 4 dp r.1 (c ++ (r.2.1 ++ [-(kd i)])) (fun f => opA (kd i) (d f) (r.2.2 f)))
      else some (Sum.inl (i, c, d)))
theorem pp_0 (kd vl : Nat → Int32) (n dp i : Nat) (c : List Int32) (d : Den) : pp kd vl (n + 1) 0 dp i c d = (if kd i = 3 then some (Sum.inl (i + 1, [vl i], fun _ => (vl i).toInt64)) else if ¬ wi (kd i) 21 26 = 0 then some (Sum.inl (i + 1, [-(kd i)], fun f => f ((kd i).toNatClampNeg - 21))) else if kd i = 8 ∧ dp < 8 then nxt (pp kd vl n 3 (dp + 1) (i + 1) [] d) (fun r => if kd r.1 = 9 then some (Sum.inl (r.1 + 1, r.2.1, r.2.2)) else some (Sum.inr r.1)) else some (Sum.inr i)) := rfl
theorem pp_1 (kd vl : Nat → Int32) (n dp i : Nat) (c : List Int32) (d : Den) : pp kd vl (n + 1) 1 dp i c d = nxt (pp kd vl n 0 dp i [] d) (fun r => pp kd vl n 2 dp r.1 r.2.1 r.2.2) := rfl
theorem pp_2 (kd vl : Nat → Int32) (n dp i : Nat) (c : List Int32) (d : Den) : pp kd vl (n + 1) 2 dp i c d = (if ¬ wi (kd i) 6 7 = 0 then nxt (pp kd vl n 0 dp (i + 1) [] d) (fun r => pp kd vl n 2 dp r.1 (c ++ (r.2.1 ++ [-(kd i)])) (fun f => opA (kd i) (d f) (r.2.2 f))) else some (Sum.inl (i, c, d))) := rfl
theorem pp_3 (kd vl : Nat → Int32) (n dp i : Nat) (c : List Int32) (d : Den) : pp kd vl (n + 1) 3 dp i c d = nxt (pp kd vl n 1 dp i [] d) (fun r => pp kd vl n 4 dp r.1 r.2.1 r.2.2) := rfl
theorem pp_4 (kd vl : Nat → Int32) (n dp i : Nat) (c : List Int32) (d : Den) : pp kd vl (n + 1) 4 dp i c d = (if ¬ wi (kd i) 4 5 = 0 then nxt (pp kd vl n 1 dp (i + 1) [] d) (fun r => pp kd vl n 4 dp r.1 (c ++ (r.2.1 ++ [-(kd i)])) (fun f => opA (kd i) (d f) (r.2.2 f))) else some (Sum.inl (i, c, d))) := rfl
/-- a row of tokens: T of them, the last is the end -/
def Toks (T : Nat) (kd : Nat → Int32) : Prop := 1 ≤ T ∧ T ≤ 301 ∧ kd (T - 1) = 2
theorem Toks.lt {T i : Nat} {kd : Nat → Int32} (h : Toks T kd) (hi : i < T) (hk : ¬ kd i = 2) : i + 1 < T := by
  rcases Nat.lt_or_ge (i + 1) T with q | q
  · exact q
  · have : i = T - 1 := by omega
    rw [this] at hk
    exact absurd h.2.2 hk
theorem wi_ne {x a c : Int32} (h : ¬ wi x a c = 0) : ¬ x < a ∧ ¬ c < x := by
  rw [wi_eq0] at h
  exact ⟨fun q => h (Or.inl q), fun q => h (Or.inr q)⟩
theorem wi_2 {x : Int32} {a c : Int32} (h : ¬ wi x a c = 0) (ha : (2 : Int32) < a) : ¬ x = 2 := fun e => by
  have := (wi_ne h).1
  rw [e] at this
  exact this ha
/-- the results lie where they should -/
theorem pp_rng {T : Nat} {kd vl : Nat → Int32} (hT : Toks T kd) : ∀ n mode dp i c d res, mode ≤ 4 → i < T → pp kd vl n mode dp i c d = some res → (∀ e, res = Sum.inr e → e < T) ∧ ∀ r, res = Sum.inl r → r.1 < T ∧ i ≤ r.1 ∧ ((mode = 0 ∨ mode = 1 ∨ mode = 3) → i < r.1 ∧ r.2.1.length ≤ r.1 - i) ∧ (¬ (mode = 0 ∨ mode = 1 ∨ mode = 3) → r.2.1.length ≤ c.length + (r.1 - i)) := by
  intro n
  induction n with
  | zero => intro mode dp i c d res hm hi h; exact absurd h (by simp [pp])
  | succ n ih =>
    intro mode dp i c d res hm hi h
    have seq : ∀ (m1 m2 j : Nat) (k : Nat × List Int32 × Den → Option Res), (m1 = 0 ∨ m1 = 1) → (m2 = 2 ∨ m2 = 4) → j < T → i ≤ j → (∀ r, ∃ cc dd, k r = pp kd vl n m2 dp r.1 cc dd ∧ cc.length ≤ c.length + r.2.1.length + (j - i) ∧ (mode = 1 ∨ mode = 3 → cc = r.2.1)) → (mode = 1 ∨ mode = 3 → j = i) → nxt (pp kd vl n m1 dp j [] d) k = some res → (∀ e, res = Sum.inr e → e < T) ∧ ∀ r, res = Sum.inl r → r.1 < T ∧ i ≤ r.1 ∧ ((mode = 1 ∨ mode = 3) → i < r.1 ∧ r.2.1.length ≤ r.1 - i) ∧ (r.2.1.length ≤ c.length + (r.1 - i)) := by
      intro m1 m2 j k h1 h2 hj hij hk hmo hh
      rcases nxt_some hh with ⟨e1, he1, rfl⟩ | ⟨r1, he1, hk1⟩
      · have := (ih m1 dp j [] d _ (by omega) hj he1).1 _ rfl
        exact ⟨fun e he => by cases he; exact this, fun r hr => by cases hr⟩
      · obtain ⟨a1, a2, a3, -⟩ := (ih m1 dp j [] d _ (by omega) hj he1).2 _ rfl
        obtain ⟨a4, a5⟩ := a3 (by omega)
        obtain ⟨cc, dd, e2, e3, e4⟩ := hk r1
        rw [e2] at hk1
        obtain ⟨b1, b2⟩ := ih m2 dp r1.1 cc dd _ (by omega) a1 hk1
        refine ⟨b1, fun r hr => ?_⟩
        obtain ⟨c1, c2, -, c4⟩ := b2 r hr
        have c5 := c4 (by omega)
        refine ⟨c1, by omega, fun q => ⟨by omega, ?_⟩, by omega⟩
        have := e4 q
        have := hmo q
        subst this
        rw [e4 q] at c5
        omega
    rcases (show mode = 0 ∨ mode = 1 ∨ mode = 2 ∨ mode = 3 ∨ mode = 4 by omega) with rfl | rfl | rfl | rfl | rfl
    · rw [pp_0] at h
      split at h
      · rename_i hk
        have h3 := hT.lt hi (by rw [hk]; decide)
        have := Option.some.inj h
        subst this
        refine ⟨fun e he => (by cases he), fun r hr => ?_⟩
        cases hr
        exact ⟨by show i + 1 < T; omega, by show i ≤ i + 1; omega, fun _ => ⟨by show i < i + 1; omega, by show 1 ≤ i + 1 - i; omega⟩, fun q => absurd (Or.inl rfl) q⟩
      · split at h
        · rename_i hk
          have h3 := hT.lt hi (wi_2 hk (by decide))
          have := Option.some.inj h
          subst this
          refine ⟨fun e he => (by cases he), fun r hr => ?_⟩
          cases hr
          exact ⟨by show i + 1 < T; omega, by show i ≤ i + 1; omega, fun _ => ⟨by show i < i + 1; omega, by show 1 ≤ i + 1 - i; omega⟩, fun q => absurd (Or.inl rfl) q⟩
        · by_cases hk : kd i = 8 ∧ dp < 8
          · rw [if_pos hk] at h
            have h3 := hT.lt hi (by rw [hk.1]; decide)
            rcases nxt_some h with ⟨e1, he1, rfl⟩ | ⟨r1, he1, hk1⟩
            · have := (ih 3 _ _ _ _ _ (by omega) h3 he1).1 _ rfl
              exact ⟨fun e he => by cases he; exact this, fun r hr => by cases hr⟩
            · obtain ⟨a1, a2, a3, -⟩ := (ih 3 _ _ _ _ _ (by omega) h3 he1).2 _ rfl
              obtain ⟨a4, a5⟩ := a3 (by omega)
              by_cases hk9 : kd r1.1 = 9
              · rw [if_pos hk9] at hk1
                have := Option.some.inj hk1
                subst this
                have h4 := hT.lt a1 (by rw [hk9]; decide)
                refine ⟨fun e he => (by cases he), fun r hr => ?_⟩
                cases hr
                exact ⟨h4, by show i ≤ r1.1 + 1; omega, fun _ => ⟨by show i < r1.1 + 1; omega, by show r1.2.1.length ≤ r1.1 + 1 - i; omega⟩, fun q => absurd (Or.inl rfl) q⟩
              · rw [if_neg hk9] at hk1
                have := Option.some.inj hk1
                subst this
                exact ⟨fun e he => by cases he; exact a1, fun r hr => by cases hr⟩
          · rw [if_neg hk] at h
            have := Option.some.inj h
            subst this
            exact ⟨fun e he => by cases he; exact hi, fun r hr => by cases hr⟩
    · rw [pp_1] at h
      obtain ⟨x1, x2⟩ := seq 0 2 i _ (Or.inl rfl) (Or.inl rfl) hi (Nat.le_refl _) (fun r => ⟨r.2.1, r.2.2, rfl, by omega, fun _ => rfl⟩) (fun _ => rfl) h
      exact ⟨x1, fun r hr => by obtain ⟨y1, y2, y3, y4⟩ := x2 r hr; exact ⟨y1, y2, fun _ => y3 (Or.inl rfl), fun _ => y4⟩⟩
    · rw [pp_2] at h
      split at h
      · rename_i hk
        have h3 := hT.lt hi (wi_2 hk (by decide))
        obtain ⟨x1, x2⟩ := seq 0 2 (i + 1) _ (Or.inl rfl) (Or.inl rfl) h3 (by omega) (fun r => ⟨c ++ (r.2.1 ++ [-(kd i)]), _, rfl, by simp only [List.length_append, List.length_cons, List.length_nil]; omega, fun q => absurd q (by omega)⟩) (fun q => absurd q (by omega)) h
        exact ⟨x1, fun r hr => by obtain ⟨y1, y2, y3, y4⟩ := x2 r hr; exact ⟨y1, y2, fun q => absurd q (by omega), fun _ => y4⟩⟩
      · have := Option.some.inj h
        subst this
        refine ⟨fun e he => (by cases he), fun r hr => ?_⟩
        cases hr
        exact ⟨hi, Nat.le_refl _, fun q => absurd q (by omega), fun _ => by show c.length ≤ c.length + (i - i); omega⟩
    · rw [pp_3] at h
      obtain ⟨x1, x2⟩ := seq 1 4 i _ (Or.inr rfl) (Or.inr rfl) hi (Nat.le_refl _) (fun r => ⟨r.2.1, r.2.2, rfl, by omega, fun _ => rfl⟩) (fun _ => rfl) h
      exact ⟨x1, fun r hr => by obtain ⟨y1, y2, y3, y4⟩ := x2 r hr; exact ⟨y1, y2, fun _ => y3 (Or.inr rfl), fun _ => y4⟩⟩
    · rw [pp_4] at h
      split at h
      · rename_i hk
        have h3 := hT.lt hi (wi_2 hk (by decide))
        obtain ⟨x1, x2⟩ := seq 1 4 (i + 1) _ (Or.inr rfl) (Or.inr rfl) h3 (by omega) (fun r => ⟨c ++ (r.2.1 ++ [-(kd i)]), _, rfl, by simp only [List.length_append, List.length_cons, List.length_nil]; omega, fun q => absurd q (by omega)⟩) (fun q => absurd q (by omega)) h
        exact ⟨x1, fun r hr => by obtain ⟨y1, y2, y3, y4⟩ := x2 r hr; exact ⟨y1, y2, fun q => absurd q (by omega), fun _ => y4⟩⟩
      · have := Option.some.inj h
        subst this
        refine ⟨fun e he => (by cases he), fun r hr => ?_⟩
        cases hr
        exact ⟨hi, Nat.le_refl _, fun q => absurd q (by omega), fun _ => by show c.length ≤ c.length + (i - i); omega⟩
/-- there is fuel enough -/
theorem pp_tot {T : Nat} {kd vl : Nat → Int32} (hT : Toks T kd) : ∀ n mode dp i c d, mode ≤ 4 → i < T → 3 * (T - i) + (if mode = 0 then 1 else if mode = 1 then 2 else 3) ≤ n → ∃ res, pp kd vl n mode dp i c d = some res := by
  intro n
  induction n with
  | zero => intro mode dp i c d hm hi h; exact absurd h (by split <;> omega)
  | succ n ih =>
    intro mode dp i c d hm hi h
    have seq : ∀ (m1 m2 j : Nat) (k : Nat × List Int32 × Den → Option Res), (m1 = 0 ∨ m1 = 1) → (m2 = 2 ∨ m2 = 4) → j < T → i ≤ j → (∀ r, ∃ cc dd, k r = pp kd vl n m2 dp r.1 cc dd) → 3 * (T - j) + (if m1 = 0 then 1 else 2) ≤ n → ∃ res, nxt (pp kd vl n m1 dp j [] d) k = some res := by
      intro m1 m2 j k h1 h2 hj hij hk hn
      obtain ⟨r1, e1⟩ := ih m1 dp j [] d (by omega) hj (by rcases h1 with rfl | rfl <;> simpa using hn)
      cases r1 with
      | inr e => exact ⟨Sum.inr e, by rw [e1]; rfl⟩
      | inl r1 =>
        obtain ⟨a1, a2, a3, -⟩ := (pp_rng hT n m1 dp j [] d _ (by omega) hj e1).2 _ rfl
        obtain ⟨a4, -⟩ := a3 (by omega)
        obtain ⟨cc, dd, e2⟩ := hk r1
        obtain ⟨r2, e3⟩ := ih m2 dp r1.1 cc dd (by omega) a1 (by
          have : 3 * (T - r1.1) + 3 ≤ n := by
            rcases h1 with rfl | rfl <;> simp at hn <;> omega
          rcases h2 with rfl | rfl <;> simpa using this)
        refine ⟨r2, ?_⟩
        rw [e1]
        show k r1 = _
        rw [e2, e3]
    rcases (show mode = 0 ∨ mode = 1 ∨ mode = 2 ∨ mode = 3 ∨ mode = 4 by omega) with rfl | rfl | rfl | rfl | rfl
    · rw [pp_0]
      simp only [if_true] at h
      split
      · exact ⟨_, rfl⟩
      · split
        · exact ⟨_, rfl⟩
        · by_cases hk : kd i = 8 ∧ dp < 8
          · rw [if_pos hk]
            have h3 := hT.lt hi (by rw [hk.1]; decide)
            obtain ⟨r1, e1⟩ := ih 3 (dp + 1) (i + 1) [] d (by omega) h3 (by simp; omega)
            cases r1 with
            | inr e => exact ⟨Sum.inr e, by rw [e1]; rfl⟩
            | inl r1 =>
              rw [e1]
              show ∃ res, (if kd r1.1 = 9 then _ else _) = some res
              split
              · exact ⟨_, rfl⟩
              · exact ⟨_, rfl⟩
          · rw [if_neg hk]; exact ⟨_, rfl⟩
    · rw [pp_1]
      simp at h
      exact seq 0 2 i _ (Or.inl rfl) (Or.inl rfl) hi (Nat.le_refl _) (fun r => ⟨r.2.1, r.2.2, rfl⟩) (by simp; omega)
    · rw [pp_2]
      simp at h
      split
      · rename_i hk
        have h3 := hT.lt hi (wi_2 hk (by decide))
        exact seq 0 2 (i + 1) _ (Or.inl rfl) (Or.inl rfl) h3 (by omega) (fun r => ⟨_, _, rfl⟩) (by simp; omega)
      · exact ⟨_, rfl⟩
    · rw [pp_3]
      simp at h
      exact seq 1 4 i _ (Or.inr rfl) (Or.inr rfl) hi (Nat.le_refl _) (fun r => ⟨r.2.1, r.2.2, rfl⟩) (by simp; omega)
    · rw [pp_4]
      simp at h
      split
      · rename_i hk
        have h3 := hT.lt hi (wi_2 hk (by decide))
        exact seq 1 4 (i + 1) _ (Or.inr rfl) (Or.inr rfl) h3 (by omega) (fun r => ⟨_, _, rfl⟩) (by simp; omega)
      · exact ⟨_, rfl⟩
