/-! ===== light: the two sides together; terms ===== -/
theorem wi_rng {x : Int32} {a c : Nat} {a32 c32 : Int32} (hA : a32 = nI a) (hC : c32 = nI c) (hc : c < 2 ^ 31) (ha : a ≤ c) (h : ¬ wi x a32 c32 = 0) : ∃ j : Nat, a ≤ j ∧ j ≤ c ∧ x = nI j := by
  subst hA; subst hC
  rw [wi_eq0] at h
  have h1 : ¬ x < 0 := fun h1 => h (Or.inl (by
    rw [i32_lt] at h1 ⊢
    have : (nI a).toInt = (a : Int) := nI_toInt (by omega)
    have h0 : (0 : Int32).toInt = 0 := rfl
    omega))
  obtain ⟨j, hj, rfl⟩ := nat_of h1 (fun h2 => h (Or.inr h2)) hc
  refine ⟨j, ?_, hj, rfl⟩
  rcases Nat.lt_or_ge j a with h3 | h3
  · exact absurd (Or.inl (nI_lt h3 (by omega))) h
  · exact h3
theorem sim_light (g : Gc) {lv : Nat} {m : Mm} (hS : Sg g m) (hT : SetsAt m (gz g) (gz g + 144)) (x n k w : Int32) : SimI g M_SL_light M_RF_light (lv + 4) [.int x, .int n, .int k, .int w] m (fun m2 => Only g [183] [0] m m2) := by
  have on0 : Only g [183] [0] m (sI m (gz g + 145) 0 0) := Only_sM m (by decide) 0
  have hCh : ChAt (sI m (gz g + 145) 0 0) (gz g + 145) (gz g + 183) := ⟨hS.k 145 rfl, hS.r 145 65 rfl, hS.k 183 rfl, hS.n 183 rfl⟩
  unfold SimI
  -- the class's refusal
  have bad : ∀ {Q : Int32 → Mm → Prop}, Q (-2) m → At g M_SL_light (lv + 4) 32 [(0, va_rf (some (gz g))), (1, .int x), (2, .int n), (3, .int k), (4, .int w)] [] m (QI Q) := fun h => bk_SL_light_32 g (bk_SL_light_33 g (by rw [if_pos rfl]; exact h))
  -- the reference's refusals
  refine en_SL_light g (c_isWithin g ?_)
  by_cases h1 : wi x 1 60 = 0
  · rw [if_pos h1]
    refine bad (en_RF_light g ⟨hS.k 145 rfl, fun m2 e2 => ?_⟩)
    subst e2
    refine c_in g ?_
    rw [show wj x.toInt64 (1 : Int64) (60 : Int64) = wi x 1 60 from wj_wide x 1 60, if_pos h1]
    exact ⟨rfl, on0⟩
  rw [if_neg h1]
  refine c_isWithin g ?_
  by_cases h2 : wi n 0 x = 0
  · rw [if_pos h2]
    refine bad (en_RF_light g ⟨hS.k 145 rfl, fun m2 e2 => ?_⟩)
    subst e2
    refine c_in g ?_
    rw [show wj x.toInt64 (1 : Int64) (60 : Int64) = wi x 1 60 from wj_wide x 1 60, if_neg h1]
    refine c_in g ?_
    rw [wj_i0, if_pos h2]
    exact ⟨rfl, on0⟩
  rw [if_neg h2]
  refine c_isWithin g ?_
  by_cases h3 : wi k 0 n = 0
  · rw [if_pos h3]
    refine bad (en_RF_light g ⟨hS.k 145 rfl, fun m2 e2 => ?_⟩)
    subst e2
    refine c_in g ?_
    rw [show wj x.toInt64 (1 : Int64) (60 : Int64) = wi x 1 60 from wj_wide x 1 60, if_neg h1]
    refine c_in g ?_
    rw [wj_i0, if_neg h2]
    refine c_in g ?_
    rw [wj_i0, if_pos h3]
    exact ⟨rfl, on0⟩
  rw [if_neg h3]
  refine bk_SL_light_33 g ?_
  rw [if_neg (by decide)]
  refine c_isWithin g ?_
  by_cases h4 : wi w 0 1 = 0
  · rw [if_pos h4]
    refine en_RF_light g ⟨hS.k 145 rfl, fun m2 e2 => ?_⟩
    subst e2
    refine c_in g ?_
    rw [show wj x.toInt64 (1 : Int64) (60 : Int64) = wi x 1 60 from wj_wide x 1 60, if_neg h1]
    refine c_in g ?_
    rw [wj_i0, if_neg h2]
    refine c_in g ?_
    rw [wj_i0, if_neg h3]
    refine c_in g ?_
    rw [show wj w.toInt64 (0 : Int64) (1 : Int64) = wi w 0 1 from wj_wide w 0 1, if_pos h4]
    exact ⟨rfl, on0⟩
  rw [if_neg h4]
  obtain ⟨A, hA1, hA, rfl⟩ := wi_rng (a := 1) (c := 60) rfl rfl (by omega) (by omega) h1
  obtain ⟨N, -, hN, rfl⟩ := wi_rng (a := 0) (c := A) rfl rfl (by omega) (by omega) h2
  obtain ⟨K, -, hK, rfl⟩ := wi_rng (a := 0) (c := N) rfl rfl (by omega) (by omega) h3
  obtain ⟨V, -, hV, rfl⟩ := wi_rng (a := 0) (c := 1) rfl rfl (by omega) (by omega) h4
  refine l_light g hT hA hN hK hV A 0 (by omega) (fun j _ hj hno hyes => ?_)
  refine en_RF_light g ⟨hS.k 145 rfl, fun m2 e2 => ?_⟩
  subst e2
  refine c_in g ?_
  rw [show wj (nI A).toInt64 (1 : Int64) (60 : Int64) = wi (nI A) 1 60 from wj_wide (nI A) 1 60, if_neg h1]
  refine c_in g ?_
  rw [wj_i0, if_neg h2]
  refine c_in g ?_
  rw [wj_i0, if_neg h3]
  refine c_in g ?_
  rw [show wj (nI V).toInt64 (0 : Int64) (1 : Int64) = wi (nI V) 0 1 from wj_wide (nI V) 0 1, if_neg h4]
  have hyes2 : near A N K V (lightAt A V j) := by
    rcases hyes with rfl | h
    · exact near_end hA hN hK
    · exact h
  have loop := l_rflight (lv := lv + 1) g hCh hA hN hK hV (Q := fun r2 m2 => nI (lightAt A V j) = r2 ∧ Only g [183] [0] m m2) A 0 (mL (sI m (gz g + 145) 0 0) (gz g + 183)) (by omega) (fun j2 _ hj2 hno2 hy2 f => by
    have hjj : j = j2 := by
      rcases Nat.lt_trichotomy j j2 with h | h | h
      · exact absurd hyes2 (hno2 j (by omega) h)
      · exact h
      · exact absurd hy2 (hno j2 (by omega) h)
    subst hjj
    exact ⟨rfl, on0.trans (Only_rL _ (w := 183) (by decide) (by decide) f)⟩)
  rw [rL_self] at loop
  rcases (show V = 0 ∨ V = 1 by omega) with rfl | rfl
  · rw [if_pos nI_0]
    exact loop
  · rw [if_neg (by decide)]
    exact loop
/-- the TERMS on both sides, as they may be -/
def TermsOK (g : Gc) (m : Mm) : Prop := (∀ j, j < 7 → mI m (gz g + 1) j = mI m (gz g + 145) (5 + j)) ∧ ∃ b s p q h l d : Nat, b ≤ 10000000 ∧ s ≤ 1000000 ∧ p ≤ 1000 ∧ q ≤ 10000000 ∧ 1 ≤ h ∧ h ≤ 10000 ∧ l ≤ 100 ∧ d ≤ 200 ∧ mI m (gz g + 1) 0 = nI b ∧ mI m (gz g + 1) 1 = nI s ∧ mI m (gz g + 1) 2 = nI p ∧ mI m (gz g + 1) 3 = nI q ∧ mI m (gz g + 1) 4 = nI h ∧ mI m (gz g + 1) 5 = nI l ∧ mI m (gz g + 1) 6 = nI d
theorem TermsOK.same {g : Gc} {m m' : Mm} (h : TermsOK g m) (h1 : mI m' (gz g + 1) = mI m (gz g + 1)) (h2 : ∀ j, j < 7 → mI m' (gz g + 145) (5 + j) = mI m (gz g + 145) (5 + j)) : TermsOK g m' := by
  obtain ⟨a, b⟩ := h
  refine ⟨fun j hj => by rw [h1, h2 j hj]; exact a j hj, ?_⟩
  rw [h1]
  exact b
def WT : List Nat := [0, 5, 6, 7, 8, 9, 10, 11]
theorem sim_terms (g : Gc) {lv : Nat} {m : Mm} (hS : Sg g m) (hT : TermsOK g m) (a b c d e f l : Int32) : SimI g M_SL_terms M_RF_terms (lv + 2) [.int a, .int b, .int c, .int d, .int e, .int f, .int l] m (fun m2 => TermsOK g m2 ∧ Only g [1] WT m m2) := by
  have on0 : Only g [1] WT m (sI m (gz g + 145) 0 0) := Only_sM m (by decide) 0
  have ok0 : TermsOK g (sI m (gz g + 145) 0 0) := hT.same (up2_ne (by omega)) (fun j hj => up2_sl (by omega))
  have e1 : wj a.toInt64 (0 : Int64) (10000000 : Int64) = wi a 0 10000000 := wj_wide a 0 10000000
  have e2 : wj b.toInt64 (0 : Int64) (1000000 : Int64) = wi b 0 1000000 := wj_wide b 0 1000000
  have e3 : wj c.toInt64 (0 : Int64) (1000 : Int64) = wi c 0 1000 := wj_wide c 0 1000
  have e4 : wj d.toInt64 (0 : Int64) (10000000 : Int64) = wi d 0 10000000 := wj_wide d 0 10000000
  have e5 : wj e.toInt64 (1 : Int64) (10000 : Int64) = wi e 1 10000 := wj_wide e 1 10000
  have e6 : wj f.toInt64 (0 : Int64) (100 : Int64) = wi f 0 100 := wj_wide f 0 100
  have e7 : wj l.toInt64 (0 : Int64) (200 : Int64) = wi l 0 200 := wj_wide l 0 200
  -- the reference, refusing
  have refBad : ∀ {Q : Int32 → Mm → Prop}, (wi a 0 10000000 = 0 ∨ wi b 0 1000000 = 0 ∨ wi c 0 1000 = 0 ∨ wi d 0 10000000 = 0 ∨ wi e 1 10000 = 0 ∨ wi f 0 100 = 0 ∨ wi l 0 200 = 0) → Q (-2) (sI m (gz g + 145) 0 0) → CI g M_RF_terms (lv + 2) (va_rf (some (gz g + 145)) :: [.int a, .int b, .int c, .int d, .int e, .int f, .int l]) m Q := by
    intro Q hb hq
    refine en_RF_terms g ⟨hS.k 145 rfl, fun m2 e0 => ?_⟩
    subst e0
    refine c_in g ?_
    rw [e1]
    by_cases q1 : wi a 0 10000000 = 0
    · rw [if_pos q1]; exact hq
    rw [if_neg q1]
    refine c_in g ?_
    rw [e2]
    by_cases q2 : wi b 0 1000000 = 0
    · rw [if_pos q2]; exact hq
    rw [if_neg q2]
    refine c_in g ?_
    rw [e3]
    by_cases q3 : wi c 0 1000 = 0
    · rw [if_pos q3]; exact hq
    rw [if_neg q3]
    refine c_in g ?_
    rw [e4]
    by_cases q4 : wi d 0 10000000 = 0
    · rw [if_pos q4]; exact hq
    rw [if_neg q4]
    refine c_in g ?_
    rw [e5]
    by_cases q5 : wi e 1 10000 = 0
    · rw [if_pos q5]; exact hq
    rw [if_neg q5]
    refine c_in g ?_
    rw [e6]
    by_cases q6 : wi f 0 100 = 0
    · rw [if_pos q6]; exact hq
    rw [if_neg q6]
    refine c_in g ?_
    rw [e7]
    by_cases q7 : wi l 0 200 = 0
    · rw [if_pos q7]; exact hq
    exact absurd hb (by simp [q1, q2, q3, q4, q5, q6, q7])
  -- the class, from its second half on
  have half : ∀ (s0 : Int32) {Q : Int32 → Mm → Prop}, ((s0 = 0 ∨ wi d 0 10000000 = 0 ∨ wi e 1 10000 = 0 ∨ wi f 0 100 = 0 ∨ wi l 0 200 = 0) → Q (-2) m) → (¬ s0 = 0 → ¬ wi d 0 10000000 = 0 → ¬ wi e 1 10000 = 0 → ¬ wi f 0 100 = 0 → ¬ wi l 0 200 = 0 → Q 0 (sI (sI (sI (sI (sI (sI (sI m (gz g + 1) 0 a) (gz g + 1) 1 b) (gz g + 1) 2 c) (gz g + 1) 3 d) (gz g + 1) 4 e) (gz g + 1) 5 f) (gz g + 1) 6 l)) → At g M_SL_terms (lv + 2) 36 [(0, va_rf (some (gz g))), (1, .int a), (2, .int b), (3, .int c), (4, .int d), (5, .int e), (6, .int f), (7, .int l)] [.int s0] m (QI Q) := by
    intro s0 Q hbad hgood
    have l88 : (wi d 0 10000000 = 0 ∨ wi e 1 10000 = 0 ∨ wi f 0 100 = 0 ∨ wi l 0 200 = 0) → At g M_SL_terms (lv + 2) 88 [(0, va_rf (some (gz g))), (1, .int a), (2, .int b), (3, .int c), (4, .int d), (5, .int e), (6, .int f), (7, .int l), (8, .int s0)] [] m (QI Q) := by
      intro hx
      refine bk_SL_terms_88 g (bk_SL_terms_89 g ?_)
      by_cases hs : s0 = 0
      · rw [if_pos hs]; exact hbad (Or.inl hs)
      · rw [if_neg hs, if_pos rfl]; exact hbad (Or.inr hx)
    refine bk_SL_terms_36 g (c_isWithin g ?_)
    by_cases q4 : wi d 0 10000000 = 0
    · rw [if_pos q4]; exact l88 (Or.inl q4)
    rw [if_neg q4]
    refine c_isWithin g ?_
    by_cases q5 : wi e 1 10000 = 0
    · rw [if_pos q5]; exact l88 (Or.inr (Or.inl q5))
    rw [if_neg q5]
    refine c_isWithin g ?_
    by_cases q6 : wi f 0 100 = 0
    · rw [if_pos q6]; exact l88 (Or.inr (Or.inr (Or.inl q6)))
    rw [if_neg q6]
    refine c_isWithin g ?_
    by_cases q7 : wi l 0 200 = 0
    · rw [if_pos q7]; exact l88 (Or.inr (Or.inr (Or.inr q7)))
    rw [if_neg q7]
    refine bk_SL_terms_89 g ?_
    by_cases hs : s0 = 0
    · rw [if_pos hs]; exact hbad (Or.inl hs)
    rw [if_neg hs, if_neg (by decide)]
    refine ⟨hS.k 0 rfl, gz g + 1, hS.r 0 0 rfl, hS.k 1 rfl, fun m1 g1 m2 g2 m3 g3 m4 g4 m5 g5 m6 g6 m7 g7 => ?_⟩
    subst g1 g2 g3 g4 g5 g6 g7
    exact hgood hs q4 q5 q6 q7
  unfold SimI
  refine en_SL_terms g (c_isWithin g ?_)
  by_cases q1 : wi a 0 10000000 = 0
  · rw [if_pos q1]
    exact bk_SL_terms_35 g (half 0 (fun _ => refBad (Or.inl q1) ⟨rfl, ok0, on0⟩) (fun h => absurd rfl h))
  rw [if_neg q1]
  refine c_isWithin g ?_
  by_cases q2 : wi b 0 1000000 = 0
  · rw [if_pos q2]
    exact bk_SL_terms_35 g (half 0 (fun _ => refBad (Or.inr (Or.inl q2)) ⟨rfl, ok0, on0⟩) (fun h => absurd rfl h))
  rw [if_neg q2]
  refine c_isWithin g ?_
  by_cases q3 : wi c 0 1000 = 0
  · rw [if_pos q3]
    exact bk_SL_terms_35 g (half 0 (fun _ => refBad (Or.inr (Or.inr (Or.inl q3))) ⟨rfl, ok0, on0⟩) (fun h => absurd rfl h))
  rw [if_neg q3]
  refine half 1 (fun hb => refBad (by
    rcases hb with h | h
    · exact absurd h (by decide)
    · exact Or.inr (Or.inr (Or.inr h))) ⟨rfl, ok0, on0⟩) (fun _ q4 q5 q6 q7 => ?_)
  refine en_RF_terms g ⟨hS.k 145 rfl, fun m2 e0 => ?_⟩
  subst e0
  refine c_in g ?_
  rw [e1, if_neg q1]
  refine c_in g ?_
  rw [e2, if_neg q2]
  refine c_in g ?_
  rw [e3, if_neg q3]
  refine c_in g ?_
  rw [e4, if_neg q4]
  refine c_in g ?_
  rw [e5, if_neg q5]
  refine c_in g ?_
  rw [e6, if_neg q6]
  refine c_in g ?_
  rw [e7, if_neg q7]
  intro m1 g1 m2 g2 m3 g3 m4 g4 m5 g5 m6 g6 m7 g7
  obtain ⟨B, -, hB, rfl⟩ := wi_rng (a := 0) (c := 10000000) rfl rfl (by omega) (by omega) q1
  obtain ⟨S, -, hS1, rfl⟩ := wi_rng (a := 0) (c := 1000000) rfl rfl (by omega) (by omega) q2
  obtain ⟨P1, -, hP, rfl⟩ := wi_rng (a := 0) (c := 1000) rfl rfl (by omega) (by omega) q3
  obtain ⟨Q1, -, hQ, rfl⟩ := wi_rng (a := 0) (c := 10000000) rfl rfl (by omega) (by omega) q4
  obtain ⟨H, hH0, hH, rfl⟩ := wi_rng (a := 1) (c := 10000) rfl rfl (by omega) (by omega) q5
  obtain ⟨L, -, hL, rfl⟩ := wi_rng (a := 0) (c := 100) rfl rfl (by omega) (by omega) q6
  obtain ⟨D, -, hD, rfl⟩ := wi_rng (a := 0) (c := 200) rfl rfl (by omega) (by omega) q7
  refine ⟨rfl, ⟨fun j hj => ?_, B, S, P1, Q1, H, L, D, hB, hS1, hP, hQ, hH0, hH, hL, hD, ?_⟩, ?_⟩
  · subst g1 g2 g3 g4 g5 g6 g7
    rcases (show j = 0 ∨ j = 1 ∨ j = 2 ∨ j = 3 ∨ j = 4 ∨ j = 5 ∨ j = 6 by omega) with rfl | rfl | rfl | rfl | rfl | rfl | rfl <;> simp [mI, sI, up2]
  · subst g1 g2 g3 g4 g5 g6 g7
    refine ⟨?_, ?_, ?_, ?_, ?_, ?_, ?_⟩ <;> simp [mI, sI, up2]
  · subst g1 g2 g3 g4 g5 g6 g7
    refine Only.trans ?_ (Only_sM _ (by decide) _)
    refine Only.trans ?_ (Only_sM _ (by decide) _)
    refine Only.trans ?_ (Only_sM _ (by decide) _)
    refine Only.trans ?_ (Only_sM _ (by decide) _)
    refine Only.trans ?_ (Only_sM _ (by decide) _)
    refine Only.trans ?_ (Only_sM _ (by decide) _)
    refine Only.trans ?_ (Only_sM _ (by decide) _)
    refine Only.trans ?_ (Only_sM _ (by decide) _)
    refine Only.trans ?_ (Only_sI _ (w := 1) (by decide) (by decide) _ _)
    refine Only.trans ?_ (Only_sI _ (w := 1) (by decide) (by decide) _ _)
    refine Only.trans ?_ (Only_sI _ (w := 1) (by decide) (by decide) _ _)
    refine Only.trans ?_ (Only_sI _ (w := 1) (by decide) (by decide) _ _)
    refine Only.trans ?_ (Only_sI _ (w := 1) (by decide) (by decide) _ _)
    refine Only.trans ?_ (Only_sI _ (w := 1) (by decide) (by decide) _ _)
    exact Only_sI _ (w := 1) (by decide) (by decide) _ _
