/-! ===== law: a text is read and kept on both sides ===== -/
theorem numV_ok {tx : Nat → Int32} {s : Nat} : ∀ c, (∀ j, j < c → ¬ pD (tx (s + j)) = 0) → ∃ x, NmR (numV tx s c) x
  | 0, _ => ⟨0, 0, by omega, rfl, Or.inl ⟨by omega, rfl⟩⟩
  | c + 1, h => by
    obtain ⟨x, hx⟩ := numV_ok c (fun j hj => h j (by omega))
    obtain ⟨st1, st2⟩ := nm_step hx (h c (by omega))
    by_cases hh : (1000000 : Int64) ≤ x
    · exact ⟨_, st1 hh⟩
    · exact ⟨_, st2 hh⟩
theorem vlT_nn {tx : Nat → Int32} {L : Nat} (hL : L ≤ 300) (i : Nat) (h : kdT tx L i = 3) : 0 ≤ vlT tx L i := by
  by_cases hs : sTk tx L i < L
  · have e2 : kdT tx L i = kdP tx (sTk tx L i) (stp tx L (sTk tx L i)) := if_pos hs
    have e3 : vlT tx L i = numV tx (sTk tx L i) (stp tx L (sTk tx L i) - sTk tx L i) := rfl
    rw [e3]
    rw [h] at e2
    generalize sTk tx L i = s at hs e2
    by_cases hl : pL (tx s) = 0
    · have nl : ¬ ¬ pL (tx s) = 0 := fun q => q hl
      by_cases hd : pD (tx s) = 0
      · have nd : ¬ ¬ pD (tx s) = 0 := fun q => q hd
        unfold kdP at e2
        rw [if_neg nl, if_neg nd] at e2
        rcases sgn_rng (tx s) with q | ⟨j, j1, j2, q⟩
        · rw [q] at e2; exact absurd e2 (by decide)
        · rw [q] at e2
          exact absurd e2.symm (nI_neq (b := 3) (by omega) (by omega) (by omega))
      · have es : stp tx L s = rn pD tx L (s + 1) := by unfold stp; rw [if_neg nl, if_pos hd]
        have r := rn_le (p := pD) (tx := tx) hL (show s + 1 ≤ L by omega)
        have dg : ∀ j, j < stp tx L s - s → ¬ pD (tx (s + j)) = 0 := fun j hj => by
          rw [es] at hj
          by_cases hj0 : j = 0
          · rw [hj0]; exact hd
          · exact rn_all hL L (s + 1) (s + j) (by omega) (by omega) (by omega)
        obtain ⟨x, a, ha, hv, -⟩ := numV_ok _ dg
        rw [hv]
        exact nI_pos' (by omega)
    · unfold kdP at e2
      rw [if_pos hl] at e2
      rcases wrd_rng tx s (stp tx L s) 13 (by omega) with q | ⟨w, hw, q⟩
      · rw [q] at e2; exact absurd e2 (by decide)
      · rw [q] at e2
        exact absurd e2.symm (nI_neq (b := 3) (by omega) (by omega) (by omega))
  · have e2 : kdT tx L i = 2 := if_neg hs
    rw [h] at e2
    exact absurd e2 (by decide)
theorem pcd_len {kd vl : Nat → Int32} : ∀ n q i c d r, (q = 0 → c = []) → pcd kd vl n q i c d = some (Sum.inl r) → 1 ≤ r.2.1.length := by
  intro n
  induction n with
  | zero => intro q i c d r hq h; exact absurd h (by simp [pcd])
  | succ n ih =>
    intro q i c d r hq h
    rw [pcd_s] at h
    rcases nx_some h with ⟨e, he, q'⟩ | ⟨r1, hr1, hk⟩
    · cases q'
    by_cases hw : wi (kd r1.1) 10 12 = 0
    · rw [if_pos hw] at hk
      exact absurd (Option.some.inj hk) (by simp)
    rw [if_neg hw] at hk
    rcases nx_some hk with ⟨e, he, q'⟩ | ⟨s, hs, hk2⟩
    · cases q'
    by_cases h20 : kd s.1 = 20
    · rw [if_pos h20] at hk2
      exact ih (q + 1) s.1 _ _ r (fun q' => by omega) hk2
    · rw [if_neg h20] at hk2
      have := Sum.inl.inj (Option.some.inj hk2)
      subst this
      show 1 ≤ (cdC q c r1.2.1 s.2.1 (kd r1.1)).length
      rw [cdC_len hq]
      split <;> omega
theorem pcl_V {kd vl : Nat → Int32} (hv : ∀ i, kd i = 3 → 0 ≤ vl i) (i k : Nat) (r : Nat × Cls) (h : pcl kd vl i k = some (Sum.inl r)) : ClsV r.2 := by
  unfold pcl at h
  by_cases h1 : wi (kd i) 14 18 = 0 ∨ 12 ≤ k
  · rw [if_pos h1] at h
    exact absurd (Option.some.inj h) (by simp)
  rw [if_neg h1] at h
  have hw : ¬ wi (kd i) 14 18 = 0 := fun q => h1 (Or.inl q)
  by_cases h2 : kd i = 16 ∨ kd i = 17 ∨ kd i = 18
  · rw [if_pos h2] at h
    by_cases h3 : kd (i + 1) = 3
    · rw [if_pos h3] at h
      have := Sum.inl.inj (Option.some.inj h)
      subst this
      exact Or.inr (Or.inr ⟨h2, vl (i + 1), hv _ h3, fun _ => rfl⟩)
    · rw [if_neg h3] at h
      exact absurd (Option.some.inj h) (by simp)
  · rw [if_neg h2] at h
    have hk : kd i = 14 ∨ kd i = 15 := by
      obtain ⟨j, j1, j2, hj⟩ := wi_cases (a := 14) (c := 18) (by omega) (by omega) hw
      rcases (show j = 14 ∨ j = 15 ∨ j = 16 ∨ j = 17 ∨ j = 18 by omega) with rfl | rfl | rfl | rfl | rfl
      · exact Or.inl hj
      · exact Or.inr hj
      · exact absurd (Or.inl hj) h2
      · exact absurd (Or.inr (Or.inl hj)) h2
      · exact absurd (Or.inr (Or.inr hj)) h2
    have fin : r.2.1 = kd i → ClsV r.2 := fun q => by
      unfold ClsV
      rw [q]
      exact hk.elim Or.inl (fun q => Or.inr (Or.inl q))
    rcases nx_some h with ⟨e, he, q'⟩ | ⟨r1, hr1, hk1⟩
    · cases q'
    by_cases h19 : kd r1.1 = 19
    · rw [if_pos h19] at hk1
      rcases nx_some hk1 with ⟨e, he, q'⟩ | ⟨s, hs, hk2⟩
      · cases q'
      have := Sum.inl.inj (Option.some.inj hk2)
      subst this
      exact fin rfl
    · rw [if_neg h19] at hk1
      have := Sum.inl.inj (Option.some.inj hk1)
      subst this
      exact fin rfl
theorem lawOf_ok {tx : Nat → Int32} {L : Nat} {cs : List Cls} (hL : L ≤ 300) (h : lawOf tx L = some (Sum.inl cs)) : LwOK cs := by
  obtain ⟨T, hT⟩ := txT_ex tx hL
  have hTk := hT.toks hL
  obtain ⟨-, b⟩ := plw_rng hTk 400 0 [] _ hT.1 (Nat.le_refl _) h
  obtain ⟨b1, b2⟩ := b cs rfl
  refine ⟨b2, b1, plw_all (P := fun c => ClsOK c ∧ ClsV c) (fun i k r hr => ⟨pcl_ok (vlT_nn hL) pcd_len i k r hr, pcl_V (vlT_nn hL) i k r hr⟩) 400 0 [] cs (fun c hc => by cases hc) h⟩
/-- a year's law on both sides -/
def LwY (g : Gc) (y : Nat) (m : Mm) : Prop := (mR m (gz g + 139) y = none ∧ mI m (gz g + 154) y = -1) ∨ ∃ (la : Nat) (cs : List Cls) (tx : Nat → Int32) (L : Nat), mR m (gz g + 139) y = some la ∧ LawQ g la cs m ∧ L ≤ 300 ∧ Txt g y L tx m ∧ lawOf tx L = some (Sum.inl cs)
def LawsOK (g : Gc) (m : Mm) : Prop := ∀ y, y < 30 → LwY g y m
theorem LawQ.keep {g : Gc} {la d : Nat} {cs : List Cls} {P : Nat → Nat → Prop} {m m' : Mm} (h : LawQ g la cs m) (f : Fs g P d m m') (hP : ∀ a j, a < gz g + mC m → P a j → a < gz g + 184 ∨ (mK m a ≠ 5 ∧ mK m a ≠ 15)) : LawQ g la cs m' := by
  obtain ⟨⟨a1, a2⟩, ⟨b1, b2⟩, c, d', e, p, q⟩ := h
  obtain ⟨E, ⟨f1, f2, f3⟩, fr⟩ := f
  have sm : ∀ k, k < 5 → ∀ j, mI m' (la + 1 + k) j = mI m (la + 1 + k) j := fun k hk j => (fr _ j (by omega) (fun z => by
    rcases hP _ j (by omega) z with z1 | z1
    · omega
    · exact z1.2 (c k hk).2)).1
  have sl : ∀ j, mI m' la j = mI m la j ∧ mL m' la j = mL m la j ∧ mR m' la j = mR m la j := fun j => fr _ j (by omega) (fun z => by
    rcases hP _ j (by omega) z with z1 | z1
    · omega
    · exact z1.1 b1)
  have kn : ∀ k, k < 5 → mN m' (la + 1 + k) = mN m (la + 1 + k) := fun k hk => E.n (c k hk).2 (by omega) rfl
  refine ⟨⟨a1, by omega⟩, ⟨E.k b1 (by omega), (sl 5).1.trans b2⟩, fun k hk => ⟨(sl k).2.2.trans (c k hk).1, E.k (c k hk).2 (by omega)⟩, fun k hk => by rw [kn k (by omega)]; exact d' k hk, ?_, fun k c' hc => ?_, fun k hk => ?_⟩
  · have := kn 4 (by omega)
    rw [show la + 5 = la + 1 + 4 by omega, this]
    exact e
  · obtain ⟨x1, x2, x3, x4⟩ := p k c' hc
    exact ⟨(sm 0 (by omega) k).trans x1, (sm 1 (by omega) k).trans x2, (sm 2 (by omega) k).trans x3, (sm 3 (by omega) k).trans x4⟩
  · exact (sm 4 (by omega) (0 + k)).trans (q k hk)
theorem LwY.keep {g : Gc} {y d : Nat} {P : Nat → Nat → Prop} {m m' : Mm} (h : LwY g y m) (hF : Fr g m) (f : Fs g P d m m') (hP : ∀ a j, a < gz g + mC m → P a j → a < gz g + 184 ∨ (mK m a ≠ 5 ∧ mK m a ≠ 15)) (h1 : ¬ P (gz g + 139) y) (h2 : ¬ P (gz g + 154) y) (h3 : ∀ j, j < 300 → ¬ P (gz g + 153) (300 * y + j)) : LwY g y m' := by
  have h184 := hF.1
  have e1 := (f.2.2 (gz g + 139) y (by omega) h1).2.2
  have e2 := (f.2.2 (gz g + 154) y (by omega) h2).1
  rcases h with ⟨a, b⟩ | ⟨la, cs, tx, L, a, b, c, ⟨d1, d2⟩, e⟩
  · exact Or.inl ⟨e1.trans a, e2.trans b⟩
  · exact Or.inr ⟨la, cs, tx, L, e1.trans a, b.keep f hP, c, ⟨e2.trans d1, fun j hj => (f.2.2 (gz g + 153) _ (by omega) (h3 j (by omega))).1.trans (d2 j hj)⟩, e⟩
/-- what law may change -/
def PLw (g : Gc) (a j : Nat) : Prop := a = gz g + 128 ∨ (gz g + 130 ≤ a ∧ a ≤ gz g + 139) ∨ (a = gz g + 145 ∧ (j = 0 ∨ j = 15 ∨ j = 16 ∨ (48 ≤ j ∧ j ≤ 64))) ∨ a = gz g + 153 ∨ a = gz g + 154
/-- the part of it that is no year's law -/
def PLt (g : Gc) (a j : Nat) : Prop := a = gz g + 128 ∨ (gz g + 130 ≤ a ∧ a ≤ gz g + 138) ∨ (a = gz g + 145 ∧ (j = 0 ∨ j = 15 ∨ j = 16 ∨ (48 ≤ j ∧ j ≤ 64))) ∨ (a = gz g + 153 ∧ 9000 ≤ j) ∨ (a = gz g + 154 ∧ j = 30)
theorem PLt.w {g : Gc} {a j : Nat} (h : PLt g a j) : PLw g a j := by unfold PLt at h; unfold PLw; omega
theorem LawsOK.t {g : Gc} {d : Nat} {m m' : Mm} (h : LawsOK g m) (hF : Fr g m) (f : Fs g (PLt g) d m m') : LawsOK g m' := fun y hy =>
  (h y hy).keep hF f (fun a j _ q => by unfold PLt at q; omega) (by unfold PLt; omega) (by unfold PLt; omega) (fun j hj => by unfold PLt; omega)
theorem fin20 (j : Nat) : finR 20 j = false := rfl
theorem l_lawC57 (g : Gc) {lv A B q : Nat} {v : Int32} (hb : B < 30) {Q : Int32 → Mm → Prop} : ∀ n y m, B + 1 ≤ y + n → y ≤ B + 1 → A ≤ y → Sg g m → Fr g m → mK m q = 5 → mI m q 5 = v → (∀ z, A ≤ z → z < y → mR m (gz g + 139) z = some q) → (∀ m', Fs g (fun a j => a = gz g + 139 ∧ A ≤ j ∧ j ≤ B) 0 m m' → Fr g m' → (∀ z, A ≤ z → z ≤ B → mR m' (gz g + 139) z = some q) → Q v m') → At g M_SL_law (lv + 1) 57 [(0, va_rf (some (gz g))), (2, .int (nI B)), (3, va_rf (some q)), (4, .int (nI y))] [] m (QI Q) := by
  intro n
  induction n with
  | zero =>
    intro y m h1 h2 h3 S F k5 v5 hZ hQ
    refine bk_SL_law_57 g ?_
    rw [if_pos (nI_lt (by omega) (by omega))]
    refine ⟨q, rfl, k5, ?_⟩
    rw [v5]
    exact hQ m (Fs.refl _ _ _ _) F (fun z z1 z2 => hZ z z1 (by omega))
  | succ n ih =>
    intro y m h1 h2 h3 S F k5 v5 hZ hQ
    refine bk_SL_law_57 g ?_
    by_cases hy : B < y
    · rw [if_pos (nI_lt (by omega) (by omega))]
      refine ⟨q, rfl, k5, ?_⟩
      rw [v5]
      exact hQ m (Fs.refl _ _ _ _) F (fun z z1 z2 => hZ z z1 (by omega))
    · rw [if_neg (nI_nlt (by omega) (by omega))]
      refine ⟨S.k 0 rfl, gz g + 139, S.r 0 5 rfl, S.k 139 rfl, ?_⟩
      rw [S.n 139 (n := 30) rfl, if_neg (nI_ge (b := 30) (by omega) (by omega)), nI_clamp (show y < 2 ^ 31 by omega), nI_s]
      refine ⟨q, rfl, k5, vp_in_nI (N := 30) (by omega) (by omega), fun m1 e1 => ?_⟩
      have f1 : Fs g (fun a j => a = gz g + 139 ∧ A ≤ j ∧ j ≤ B) 0 m m1 := by rw [e1]; exact Fs_sR m ⟨rfl, by omega, by omega⟩ _ (Or.inl (by rw [S.k 139 rfl]; rfl))
      have F1 : Fr g m1 := by rw [e1]; exact ⟨F.1, F.2⟩
      refine ih (y + 1) m1 (by omega) (by omega) (by omega) (S.ext f1.1) F1 (by rw [e1]; exact k5) (by rw [e1, mI_sR]; exact v5) (fun z z1 z2 => ?_) (fun m2 f2 => hQ m2 ((f1.trans f2 (fun _ _ _ z => z)).weak (fun _ _ _ z => z) (by omega)))
      rw [e1, mR_sR]
      by_cases hzy : z = y
      · rw [hzy, up2_at]
      · rw [up2_sl hzy]; exact hZ z z1 (by omega)
theorem imx_r {a : Nat} (h : a < 2 ^ 31) : imx (nI a) (0 : Int32) = nI a := by
  unfold imx
  rw [if_neg (nI_pos h)]
theorem sim_law (g : Gc) {lv y : Nat} {m : Mm} (S : Sg g m) (F : Fr g m) (T : TapeOK g m) (W : LawsOK g m) (hyC : mI m (gz g + 2) 9 = nI y) (hyR : mI m (gz g + 166) 0 = nI y) (h30 : y ≤ 30) (a b : Int32) : SimI g M_SL_law M_RF_law (lv + 37) [.int a, .int b] m (fun m2 => (LawsOK g m2 ∧ TapeOK g m2) ∧ Fr g m2 ∧ Fs g (PLw g) 71 m m2) := by
  have z0 : (0 : Int32).toNatClampNeg = 0 := rfl
  have h184 := F.1
  obtain ⟨hf, L, hL, l1, l2, hb⟩ := id T
  obtain ⟨tx, htx⟩ : ∃ tx : Nat → Int32, tx = fun k => mI m (gz g + 152) k := ⟨_, rfl⟩
  have hX : ∀ k, k < L → mI m (gz g + 152) k = tx k := fun k _ => by rw [htx]
  have hB : Byt L tx := fun k hk => by rw [htx]; exact (hb k hk).2
  have XC : TxC g tx L m := ⟨hL, fun k hk => by rw [(hb k hk).1, htx], l1⟩
  obtain ⟨res, hres⟩ := lawOf_ex tx hL
  -- the reference
  have ref : ∀ (m1 : Mm) (Q : Int32 → Mm → Prop), Sg g m1 → mI m1 (gz g + 166) 0 = nI y → ((a < nI y ∨ b < a ∨ ¬ b < 30) → Q (-2) (sI m1 (gz g + 145) 0 0)) → (¬ a < nI y → ¬ b < a → b < 30 → CI g M_RF_isLaw (lv + 36) [va_rf (some (gz g + 145))] (sI m1 (gz g + 145) 0 0) (fun x m2 => if x = 0 then Q (-4) m2 else At g M_RF_law (lv + 37) 41 [(0, va_rf (some (gz g + 145))), (2, .int b), (3, .int a)] [] m2 (QI Q))) → CI g M_RF_law (lv + 37) [va_rf (some (gz g + 145)), .int a, .int b] m1 Q := by
    intro m1 Q S1 y1 qa qb
    refine en_RF_law g ⟨S1.k 145 rfl, fun m2 e2 => ?_⟩
    have S2 : Sg g m2 := by rw [e2]; exact S1
    refine ⟨gz g + 166, S2.r 145 31 rfl, S2.k 166 rfl, by rw [S2.n 166 rfl]; exact vp_in_nI (n := 0) (N := 2) (by omega) (by omega), ?_⟩
    have y2 : mI m2 (gz g + 166) 0 = nI y := by rw [e2, mI_sI, up2_oth (by omega)]; exact y1
    rw [z0, y2]
    by_cases c1 : a < nI y
    · rw [if_pos c1, e2]; exact qa (Or.inl c1)
    rw [if_neg c1]
    by_cases c2 : (30 : Int32) ≤ b
    · rw [if_pos c2, e2]
      refine qa (Or.inr (Or.inr (fun q => ?_)))
      rw [Int32.le_iff_toInt_le] at c2
      rw [Int32.lt_iff_toInt_lt] at q
      omega
    rw [if_neg c2]
    have c2' : b < 30 := by
      rw [Int32.le_iff_toInt_le] at c2
      rw [Int32.lt_iff_toInt_lt]
      omega
    by_cases c3 : a ≤ b
    · rw [if_pos c3, e2]
      refine qb c1 (fun q => ?_) c2'
      rw [Int32.le_iff_toInt_le] at c3
      rw [Int32.lt_iff_toInt_lt] at q
      omega
    · rw [if_neg c3, e2]
      refine qa (Or.inr (Or.inl ?_))
      rw [Int32.le_iff_toInt_le] at c3
      rw [Int32.lt_iff_toInt_lt]
      omega
  -- nothing happens
  have none2 : (a < nI y ∨ b < a ∨ ¬ b < 30) → CI g M_RF_law (lv + 37) [va_rf (some (gz g + 145)), .int a, .int b] m (fun r2 m2 => (-2 : Int32) = r2 ∧ (LawsOK g m2 ∧ TapeOK g m2) ∧ Fr g m2 ∧ Fs g (PLw g) 71 m m2) := fun q => by
    have f0 : Fs g (PLt g) 0 m (sI m (gz g + 145) 0 0) := Fs_sI m (by unfold PLt; omega) _
    refine ref m _ S hyR (fun _ => ⟨rfl, ⟨W.t F f0, ?_⟩, ⟨F.1, F.2⟩, f0.weak (fun _ _ _ z => z.w) (by omega)⟩) (fun c1 c2 c3 => ?_)
    · refine T.same ?_ ?_ ?_ ?_ ?_
      · rw [mI_sI, up2_ne (by omega)]
      · rw [mI_sI, up2_ne (by omega)]
      · rw [mI_sI, up2_ne (by omega)]
      · rw [mI_sI, up2_sl (by omega)]
      · rw [mI_sI, up2_sl (by omega)]
    · exact absurd q (fun q => q.elim c1 (fun q => q.elim c2 (fun q => q c3)))
  refine en_SL_law g ⟨S.k 0 rfl, gz g + 2, S.r 0 1 rfl, S.k 2 rfl, ?_⟩
  rw [hyC]
  by_cases c1 : a < nI y
  · rw [if_pos c1]; exact none2 (Or.inl c1)
  rw [if_neg c1]
  by_cases c2 : b < a
  · rw [if_pos c2]; exact none2 (Or.inr (Or.inl c2))
  rw [if_neg c2]
  by_cases c3 : b < (30 : Int32)
  rotate_left
  · rw [if_neg c3]; exact none2 (Or.inr (Or.inr c3))
  rw [if_pos c3]
  obtain ⟨A, B, hAB, hB30, ea, eb⟩ : ∃ A B : Nat, A ≤ B ∧ B < 30 ∧ a = nI A ∧ b = nI B := by
    have ty : (nI y).toInt = y := nI_toInt (by omega)
    have t30 : (30 : Int32).toInt = 30 := rfl
    rw [Int32.lt_iff_toInt_lt] at c1 c2 c3
    rw [ty] at c1
    rw [t30] at c3
    have wz : ∀ x : Int32, 0 ≤ x.toInt → x.toInt < 30 → ¬ wi x (nI 0) (nI 29) = 0 := fun x h1 h2 => by
      rw [wi_eq0]
      have t0 : (nI 0).toInt = 0 := rfl
      have t29 : (nI 29).toInt = 29 := rfl
      rw [Int32.lt_iff_toInt_lt, Int32.lt_iff_toInt_lt, t0, t29]
      omega
    obtain ⟨A, -, hA, ea⟩ := wi_cases (a := 0) (c := 29) (by omega) (by omega) (wz a (by omega) (by omega))
    obtain ⟨B, -, hB, eb⟩ := wi_cases (a := 0) (c := 29) (by omega) (by omega) (wz b (by omega) (by omega))
    have tA : (nI A).toInt = A := nI_toInt (by omega)
    have tB : (nI B).toInt = B := nI_toInt (by omega)
    rw [ea, eb, tA, tB] at c2
    exact ⟨A, B, by omega, by omega, ea, eb⟩
  subst ea
  subst eb
  refine ⟨gz g + 128, S.r 0 3 rfl, gz g + 133, S.r 0 4 rfl, S.k 128 rfl, ?_⟩
  have f0 : Fs g (PLt g) 0 m (sR m (gz g + 128) 8 (some (gz g + 133))) := Fs_sR m (Or.inl rfl) _ (Or.inl (by rw [S.k 128 rfl]; rfl))
  have wk : ∀ {ma mb : Mm}, St (PPr g) ma mb → Fs g (PLt g) 0 ma mb := fun s => (s.weak (fun a j q => by unfold PPr at q; unfold PLt; omega)).fs
  have wr : ∀ {ma mb : Mm}, St (PIL g) ma mb → Fs g (PLt g) 0 ma mb := fun s => (s.weak (fun a j q => by unfold PIL at q; unfold PLt; omega)).fs
  have f0c : ∀ mm : Mm, Fs g (PLt g) 0 mm (sI mm (gz g + 145) 0 0) := fun mm => Fs_sI mm (by unfold PLt; omega) _
  have stc : ∀ m1, St (PPr g) (sR m (gz g + 128) 8 (some (gz g + 133))) m1 → Fr g m1 := fun m1 s => s.fr ⟨F.1, F.2⟩
  refine c_readLaw g (b := lv + 1) S XC hres (fun cs hc m1 s1 a1 D1 g1 => ?_) (fun e he m1 s1 a1 g1 => ?_)
  · -- a law
    subst hc
    have ok := lawOf_ok hL hres
    have f1 : Fs g (PLt g) 0 m m1 := f0.trans (wk s1) (fun _ _ _ z => z)
    have S1 := S.ext f1.1
    have F1 := stc m1 s1
    rw [if_neg (by decide)]
    refine ⟨S1.k 133 rfl, c_copy g (lv := lv + 34) S1 F1 D1 ok.1 ok.2.1 (fun m2 Q2 U2 => ?_)⟩
    obtain ⟨u1, u2, ⟨u3, u4⟩, F2⟩ := U2
    have c12 : mC m1 = mC m := by rw [s1.1.2.2.2.1]; rfl
    have f2 : Fs g (PLt g) 71 m1 m2 := ⟨u2, ⟨by omega, by omega, by omega⟩, fun a j ha _ => ⟨by rw [(u1 a ha).1], by rw [(u1 a ha).2.1], by rw [(u1 a ha).2.2]⟩⟩
    have f12 : Fs g (PLt g) 71 m m2 := (f1.trans f2 (fun _ _ _ z => z)).weak (fun _ _ _ z => z) (by omega)
    have S2 := S1.ext u2
    rw [imx_r (show A < 2 ^ 31 by omega)]
    refine l_lawC57 g (A := A) hB30 (B + 1) A m2 (by omega) (by omega) (Nat.le_refl _) S2 F2 Q2.2.1.1 Q2.2.1.2 (fun z z1 z2 => by omega) (fun m3 f3 F3 Z3 => ?_)
    have S3 := S2.ext f3.1
    have Q3 : LawQ g (gz g + mC m1) cs m3 := Q2.keep f3 (fun a j _ q => Or.inl (by omega))
    have f13 : Fs g (PLw g) 71 m m3 := ((f12.weak (fun _ _ _ z => z.w) (Nat.le_refl _)).trans f3 (fun a j _ q => by unfold PLw; omega)).weak (fun _ _ _ z => z) (by omega)
    have low : ∀ w, w < 184 → w ≠ 139 → ∀ j, mI m3 (gz g + w) j = mI m1 (gz g + w) j := fun w hw h139 j => by
      rw [(f3.2.2 (gz g + w) j (by omega) (by omega)).1, (u1 (gz g + w) (by omega)).1]
    have l3 : mI m3 (gz g + 145) 15 = nI L := by
      rw [low 145 (by omega) (by omega)]
      refine Eq.trans ?_ l2
      have := (f1.2.2 (gz g + 145) 15 (by omega))
      rw [(s1.2 (gz g + 145) 15 (by unfold PPr; omega)).1, mI_sR]
    have x3 : ∀ j, j < L → mI m3 (gz g + 152) j = tx j := fun j hj => by
      rw [low 152 (by omega) (by omega), (s1.2 (gz g + 152) j (by unfold PPr; omega)).1, mI_sR]; exact hX j hj
    have y3 : mI m3 (gz g + 166) 0 = nI y := by
      rw [low 166 (by omega) (by omega), (s1.2 (gz g + 166) 0 (by unfold PPr; omega)).1, mI_sR]; exact hyR
    refine ref m3 _ S3 y3 (fun q => absurd q (fun q => q.elim c1 (fun q => q.elim c2 (fun q => q c3)))) (fun _ _ _ => ?_)
    have l4 : mI (sI m3 (gz g + 145) 0 0) (gz g + 145) 15 = nI L := by rw [mI_sI, up2_sl (by omega)]; exact l3
    have x4 : ∀ j, j < L → mI (sI m3 (gz g + 145) 0 0) (gz g + 152) j = tx j := fun j hj => by rw [mI_sI, up2_oth (by omega)]; exact x3 j hj
    refine c_isLawR g (b := lv) hL hB hres (show Sg g (sI m3 (gz g + 145) 0 0) from S3) l4 x4 (fun cs' hc' m5 s5 T5 a5 b5 z5 => ?_) (fun e' he' => by cases he')
    have hcc : cs = cs' := Sum.inl.inj hc'
    subst hcc
    rw [if_neg (by decide)]
    have f5 : Fs g (PLt g) 0 m3 m5 := (f0c m3).trans (wr s5) (fun _ _ _ z => z)
    have S5 := S3.ext f5.1
    refine l_law41 g (lv := lv + 36) (A := A) hL hB hB30 (B + 1) A m5 (by omega) (by omega) (Nat.le_refl _) S5 T5 (fun z z1 z2 => by omega) (fun m6 s6 T6 => ?_)
    have f6 : Fs g (PYs g A B) 0 m5 m6 := s6.fs
    have F5 : Fr g m5 := s5.fr ⟨F3.1, F3.2⟩
    have e64 : mI m6 (gz g + 145) 64 = nI cs.length := (s6.2 _ _ (by unfold PYs; omega)).1.trans z5
    refine ⟨e64.symm, ⟨fun yy hyy => ?_, ?_⟩, s6.fr F5, ?_⟩
    · by_cases hin : A ≤ yy ∧ yy ≤ B
      · have Q6 : LawQ g (gz g + mC m1) cs m6 := (Q3.keep f5 (fun a j _ q => by unfold PLt at q; omega)).keep f6 (fun a j _ q => by unfold PYs at q; omega)
        refine Or.inr ⟨gz g + mC m1, cs, tx, L, ?_, Q6, hL, T6 yy hin.1 hin.2, hres⟩
        rw [s6.1.1, s5.1.1]
        show mR m3 (gz g + 139) yy = _
        exact Z3 yy hin.1 hin.2
      · have k2 := (W.t F f12) yy hyy
        have k3 := k2.keep F2 f3 (fun a j _ q => Or.inl (by omega)) (by omega) (by omega) (fun j hj => by omega)
        have k5 := k3.keep F3 f5 (fun a j _ q => by unfold PLt at q; omega) (by unfold PLt; omega) (by unfold PLt; omega) (fun j hj => by unfold PLt; omega)
        exact k5.keep F5 f6 (fun a j _ q => by unfold PYs at q; omega) (by unfold PYs; omega) (by unfold PYs; omega) (fun j hj => by unfold PYs; omega)
    · have t6 : ∀ w j, w < 184 → w ≠ 145 → w ≠ 153 → w ≠ 154 → w ≠ 139 → mI m6 (gz g + w) j = mI m1 (gz g + w) j := fun w j h1 h2 h3 h4 h5 => by
        rw [(s6.2 _ _ (by unfold PYs; omega)).1, (s5.2 _ _ (by unfold PIL; omega)).1, mI_sI, up2_oth (by omega), low w h1 h5]
      refine ⟨?_, 0, by omega, ?_, ?_, fun k hk => absurd hk (Nat.not_lt_zero _)⟩
      · rw [t6 128 5 (by omega) (by omega) (by omega) (by omega) (by omega), g1, (s6.2 _ _ (by unfold PYs; omega)).1, b5]
      · rw [t6 128 4 (by omega) (by omega) (by omega) (by omega) (by omega), a1]; rfl
      · rw [(s6.2 _ _ (by unfold PYs; omega)).1, a5]; rfl
    · exact (((f13.trans (f5.weak (fun _ _ _ z => z.w) (Nat.le_refl _)) (fun _ _ _ z => z)).trans f6 (fun a j _ q => by unfold PYs at q; unfold PLw; omega))).weak (fun _ _ _ z => z) (by omega)
  · -- a fault
    subst he
    have f1 : Fs g (PLt g) 0 m m1 := f0.trans (wk s1) (fun _ _ _ z => z)
    have S1 := S.ext f1.1
    have F1 := stc m1 s1
    rw [if_pos rfl]
    have l3 : mI m1 (gz g + 145) 15 = nI L := by
      rw [(s1.2 (gz g + 145) 15 (by unfold PPr; omega)).1, mI_sR]; exact l2
    have x3 : ∀ j, j < L → mI m1 (gz g + 152) j = tx j := fun j hj => by
      rw [(s1.2 (gz g + 152) j (by unfold PPr; omega)).1, mI_sR]; exact hX j hj
    have y3 : mI m1 (gz g + 166) 0 = nI y := by
      rw [(s1.2 (gz g + 166) 0 (by unfold PPr; omega)).1, mI_sR]; exact hyR
    refine ref m1 _ S1 y3 (fun q => absurd q (fun q => q.elim c1 (fun q => q.elim c2 (fun q => q c3)))) (fun _ _ _ => ?_)
    have l4 : mI (sI m1 (gz g + 145) 0 0) (gz g + 145) 15 = nI L := by rw [mI_sI, up2_sl (by omega)]; exact l3
    have x4 : ∀ j, j < L → mI (sI m1 (gz g + 145) 0 0) (gz g + 152) j = tx j := fun j hj => by rw [mI_sI, up2_oth (by omega)]; exact x3 j hj
    refine c_isLawR g (b := lv) hL hB hres (show Sg g (sI m1 (gz g + 145) 0 0) from S1) l4 x4 (fun cs' hc' => by cases hc') (fun e' he' m5 s5 a5 b5 => ?_)
    have hee : e = e' := Sum.inr.inj he'
    subst hee
    rw [if_pos rfl]
    have f5 : Fs g (PLt g) 0 m1 m5 := (f0c m1).trans (wr s5) (fun _ _ _ z => z)
    have f15 := f1.trans f5 (fun _ _ _ z => z)
    refine ⟨rfl, ⟨W.t F f15, ?_⟩, s5.fr ⟨F1.1, F1.2⟩, f15.weak (fun _ _ _ z => z.w) (by omega)⟩
    have t6 : ∀ j, mI m5 (gz g + 128) j = mI m1 (gz g + 128) j := fun j => by
      rw [(s5.2 _ _ (by unfold PIL; omega)).1, mI_sI, up2_oth (by omega)]
    refine ⟨?_, 0, by omega, ?_, ?_, fun k hk => absurd hk (Nat.not_lt_zero _)⟩
    · rw [t6 5, g1, b5]
    · rw [t6 4, a1]; rfl
    · rw [a5]; rfl
