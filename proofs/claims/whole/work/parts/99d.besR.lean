/-! ===== beside: what is asked for, on both sides; the reference's years ===== -/
def besV (A : Mm) (n r : Nat) (x : Int32) : Int64 := if x = 0 then (mI A 0 2).toInt64 else if x = 1 then sacB A 30 r else if x = 2 then sumM A n else if x = 3 then sumL A 3 n else sumL A 7 n
theorem c_moneyL (g : Gc) {lv t N n y r : Nat} {A m : Mm} {pa : Nat → Nat} (hS : Sg g m) (ht : t = 2 ∨ t = 65) (hC : LandC g t pa N y r A m) (hn : mI A 0 0 = nI n) (hnN : n ≤ N) (hN : N ≤ 12) {Q : Int64 → Mm → Prop} (hQ : Q (sumM A n) m) : CJ g M_Land_moneyInAll (lv + 1) [va_rf (some (gz g + t))] m Q := by
  obtain ⟨⟨t1, -⟩, t7, t8, t9, t10, -⟩ := sh_t ht
  have loop : ∀ (d k : Nat), k + d = n → At g M_Land_moneyInAll (lv + 1) 4 [(0, va_rf (some (gz g + t))), (1, .long (sumM A k)), (3, .int (nI k))] [] m (QJ Q) := by
    intro d
    induction d with
    | zero =>
      intro k hk
      obtain rfl : k = n := by omega
      refine bk_Land_moneyInAll_4 g ⟨hS.k t t1 (by omega), ?_⟩
      rw [hC.n, hn, if_pos (nI_le (by omega) (by omega))]
      exact hQ
    | succ d ih =>
      intro k hk
      obtain ⟨⟨g1, g2⟩, -⟩ := sh_tg ht k (by omega)
      refine bk_Land_moneyInAll_4 g ⟨hS.k t t1 (by omega), ?_⟩
      rw [hC.n, hn, if_neg (nI_ge (by omega) (by omega)), nI_clamp (by omega), nI_s]
      refine ⟨gz g + (t + 1), hS.r t 1 t10, hS.k (t + 1) t8 (by omega), by rw [hS.n (t + 1) t9 (by omega)]; exact vp_in_nI (N := 12) (by omega) (by omega), gz g + (t + 12 + 4 * k), hS.r (t + 1) k g1, hS.k (t + 12 + 4 * k) g2 (by omega), ?_⟩
      rw [hC.mo (by omega) hN]
      exact ih (k + 1) (by omega)
  exact en_Land_moneyInAll g (loop n 0 (by omega))
theorem c_bearL (g : Gc) {lv t N n y r : Nat} {A m : Mm} {pa : Nat → Nat} (hS : Sg g m) (ht : t = 2 ∨ t = 65) (hC : LandC g t pa N y r A m) (hn : mI A 0 0 = nI n) (hnN : n ≤ N) (hN : N ≤ 12) {Q : Int64 → Mm → Prop} (hQ : Q (sumL A 3 n) m) : CJ g M_Land_bearingInAll (lv + 1) [va_rf (some (gz g + t))] m Q := by
  obtain ⟨⟨t1, -⟩, t7, t8, t9, t10, -⟩ := sh_t ht
  have loop : ∀ (d k : Nat), k + d = n → At g M_Land_bearingInAll (lv + 1) 4 [(0, va_rf (some (gz g + t))), (1, .long (sumL A 3 k)), (3, .int (nI k))] [] m (QJ Q) := by
    intro d
    induction d with
    | zero =>
      intro k hk
      obtain rfl : k = n := by omega
      refine bk_Land_bearingInAll_4 g ⟨hS.k t t1 (by omega), ?_⟩
      rw [hC.n, hn, if_pos (nI_le (by omega) (by omega))]
      exact hQ
    | succ d ih =>
      intro k hk
      obtain ⟨⟨g1, g2⟩, -⟩ := sh_tg ht k (by omega)
      refine bk_Land_bearingInAll_4 g ⟨hS.k t t1 (by omega), ?_⟩
      rw [hC.n, hn, if_neg (nI_ge (by omega) (by omega)), nI_clamp (by omega), nI_s]
      refine ⟨gz g + (t + 1), hS.r t 1 t10, hS.k (t + 1) t8 (by omega), by rw [hS.n (t + 1) t9 (by omega)]; exact vp_in_nI (N := 12) (by omega) (by omega), gz g + (t + 12 + 4 * k), hS.r (t + 1) k g1, hS.k (t + 12 + 4 * k) g2 (by omega), ?_⟩
      rw [show mI m (gz g + (t + 12 + 4 * k)) 5 = mI A 3 k from hC.gr (c := 3) (by omega) (by omega) (by omega)]
      exact ih (k + 1) (by omega)
  exact en_Land_bearingInAll g (loop n 0 (by omega))
theorem vL_y {n y y' r c i : Nat} (h : vL 1 n y r c i) : vL 1 n y' r c i := by
  obtain ⟨⟨h1, h2, h3⟩, h4⟩ := h
  refine ⟨⟨?_, h2, h3⟩, h4⟩
  rcases h4 with h4 | ⟨rfl, h4⟩ | h4 | h4
  · omega
  · exact h1
  · rcases (show c = 1 ∨ c = 2 ∨ c = 3 ∨ c = 4 ∨ c = 5 ∨ c = 6 ∨ c = 7 by omega) with rfl | rfl | rfl | rfl | rfl | rfl | rfl <;> exact h1
  · rcases (show c = 9 ∨ c = 10 ∨ c = 11 by omega) with rfl | rfl | rfl <;> exact h1
theorem LandQ.y {g : Gc} {n y y' r : Nat} {A m : Mm} (h : LandQ g 1 n y r A m) : LandQ g 1 n y' r A m := ⟨fun c i hv => h.1 c i (vL_y hv), h.2⟩
def PBw (g : Gc) (a j : Nat) : Prop := PQ g 1 a j ∨ PRs g a j ∨ a = gz g + 164
theorem l_besE (g : Gc) {lv n y r : Nat} {A m : Mm} {x : Int32} {tl : Nat → Int32} (S : Sg g m) (hR : LandQ g 1 n y r A m) (B : BP n y tl A r) (h12 : n ≤ 12) (h30 : y ≤ 30) (h66 : mI m (gz g + 166) 0 = nI y) {Q : Int64 → Mm → Prop} (hQ : Q (besV A n r x) m) : At g M_RF_beside (lv + 2) 136 [(0, va_rf (some (gz g + 145))), (1, .int x)] [] m (QJ Q) := by
  obtain ⟨b1, b2, -, b4, b5, b6, b7, ⟨v, u, hv, hu, hs⟩, b8, -⟩ := B
  have ty : 6000000 * y ≤ 6000000 * 30 := Nat.mul_le_mul_left _ h30
  have c1 : (1 : Int32).toNatClampNeg = 1 := rfl
  have c0 : (0 : Int32).toNatClampNeg = 0 := rfl
  have v2 : ∀ (a i : Nat), i < 2 → shN a = 2 → a < 184 → vp_in (nI i) (mN m (gz g + a)) := fun a i hi h1 h2 => by rw [S.n a h1 h2]; exact vp_in_nI (N := 2) hi (by omega)
  have sb := sacB_N r hu b7
  have s7 := sumL_N (A := A) (c := 7) n hv
  refine bk_RF_beside_136 g ⟨S.k 145 rfl, gz g + 166, S.r 145 31 rfl, S.k 166 rfl, v2 166 1 (by omega) rfl (by omega), v2 166 0 (by omega) rfl (by omega), ?_⟩
  rw [c0, c1, h66, hR.sc.1, b2, if_pos (nI_le (Nat.le_refl _) (by omega))]
  unfold besV at hQ
  by_cases x0 : x = 0
  · rw [if_pos x0] at hQ ⊢
    refine ⟨gz g + 167, S.r 145 32 rfl, S.k 167 rfl, v2 167 1 (by omega) rfl (by omega), ?_⟩
    rw [hR.sc.2.1]; exact hQ
  rw [if_neg x0] at hQ ⊢
  by_cases x1 : x = 1
  · rw [if_pos x1] at hQ ⊢
    refine c_storeR g (l := 1) rfl (by omega) S hR (by omega) b4 ?_
    rw [sb.2, nI_l (by omega), ← sb.1]; exact hQ
  rw [if_neg x1] at hQ ⊢
  by_cases x2 : x = 2
  · rw [if_pos x2] at hQ ⊢
    have loop : ∀ (d k : Nat), k + d = n → At g M_RF_beside (lv + 2) 302 [(0, va_rf (some (gz g + 145))), (2, .long (sumM A k)), (4, .int (nI k))] [] m (QJ Q) := by
      intro d
      induction d with
      | zero =>
        intro k hk
        obtain rfl : k = n := by omega
        refine bk_RF_beside_302 g ⟨S.k 145 rfl, ?_⟩
        rw [hR.n, b1, if_pos (nI_le (by omega) (by omega))]
        exact hQ
      | succ d ih =>
        intro k hk
        refine bk_RF_beside_302 g ⟨S.k 145 rfl, ?_⟩
        rw [hR.n, b1, if_neg (nI_ge (by omega) (by omega)), show (15 : Int32) + nI k = nI (15 + k) by rw [show (15 : Int32) = nI 15 from rfl, nI_add], nI_clamp (show 15 + k < 2 ^ 31 by omega), nI_s]
        refine ⟨gz g + 174, S.r 145 39 rfl, S.k 174 rfl, by rw [S.n 174 rfl]; exact vp_in_nI (N := 30) (by omega) (by omega), ?_⟩
        rw [show mL m (gz g + 174) (15 + k) = mL A 0 k from (hR.mo (j := k) (by omega)).1]
        exact ih (k + 1) (by omega)
    exact loop n 0 (by omega)
  rw [if_neg x2] at hQ ⊢
  by_cases x3 : x = 3
  · rw [if_pos x3] at hQ ⊢
    have loop : ∀ (d k : Nat), k + d = n → At g M_RF_beside (lv + 2) 335 [(0, va_rf (some (gz g + 145))), (2, .long (sumL A 3 k)), (4, .int (nI k))] [] m (QJ Q) := by
      intro d
      induction d with
      | zero =>
        intro k hk
        obtain rfl : k = n := by omega
        refine bk_RF_beside_335 g ⟨S.k 145 rfl, ?_⟩
        rw [hR.n, b1, if_pos (nI_le (by omega) (by omega))]
        exact hQ
      | succ d ih =>
        intro k hk
        refine bk_RF_beside_335 g ⟨S.k 145 rfl, ?_⟩
        rw [hR.n, b1, if_neg (nI_ge (by omega) (by omega)), show (12 : Int32) + nI k = nI (12 + k) by rw [show (12 : Int32) = nI 12 from rfl, nI_add], nI_clamp (show 12 + k < 2 ^ 31 by omega), nI_s]
        refine ⟨gz g + 170, S.r 145 35 rfl, S.k 170 rfl, by rw [S.n 170 rfl]; exact vp_in_nI (N := 24) (by omega) (by omega), ?_⟩
        rw [show mI m (gz g + 170) (12 + k) = mI A 3 k from (hR.gr (j := k) (by omega)).2.1]
        exact ih (k + 1) (by omega)
    exact loop n 0 (by omega)
  rw [if_neg x3] at hQ ⊢
  refine c_freesR g (l := 1) rfl (by omega) S hR b1 (Nat.le_refl _) h12 ?_
  rw [s7.2, nI_l (by omega), ← s7.1]; exact hQ
/-- the crops of a year, as the reference sets them -/
theorem l_bes153 (g : Gc) {lv n k : Nat} {A m0 : Mm} {x yk : Int32} (S0 : Sg g m0) (hn : mI m0 (gz g + 145) 19 = nI n) (h12 : n ≤ 12) (h30 : k < 30) (hk1 : mI m0 (gz g + 166) 1 = nI k) (hW : ∀ j, j < n → mI m0 (gz g + 163) (12 * k + j) = (if mI A 16 (12 * k + j) = -1 then 0 else 1) ∧ (¬ mI A 16 (12 * k + j) = -1 → mI m0 (gz g + 158) (12 * k + j) = mI A 16 (12 * k + j))) (hb : ∀ j, j < n → mI m0 (gz g + 170) (12 + j) = mI A 3 j) (hy : mI m0 (gz g + 160) k = yk) {Q : Int64 → Mm → Prop} (hQ : ∀ m, St (fun a _ => a = gz g + 164) m0 m → (∀ j, j < n → mI m (gz g + 164) j = cropV A k yk j) → At g M_RF_beside (lv + 1) 153 [(0, va_rf (some (gz g + 145))), (1, .int x), (2, .int (nI n))] [] m (QJ Q)) : ∀ (d j : Nat) (m : Mm), j + d = n → St (fun a _ => a = gz g + 164) m0 m → (∀ q, q < j → mI m (gz g + 164) q = cropV A k yk q) → At g M_RF_beside (lv + 1) 153 [(0, va_rf (some (gz g + 145))), (1, .int x), (2, .int (nI j))] [] m (QJ Q) := by
  intro d
  induction d with
  | zero =>
    intro j m hj s hc
    obtain rfl : j = n := by omega
    exact hQ m s hc
  | succ d ih =>
    intro j m hj s hc
    have S := s.sg S0
    have c1 : (1 : Int32).toNatClampNeg = 1 := rfl
    have x0 : ∀ a i, a ≠ gz g + 164 → mI m a i = mI m0 a i := fun a i h => (s.2 a i h).1
    refine bk_RF_beside_153 g ⟨S.k 145 rfl, ?_⟩
    rw [x0 _ _ (by omega), hn, if_neg (nI_ge (by omega) (by omega))]
    refine ⟨gz g + 166, S.r 145 31 rfl, S.k 166 rfl, by rw [S.n 166 rfl]; exact vp_in_nI (n := 1) (N := 2) (by omega) (by omega), gz g + 164, S.r 145 29 rfl, gz g + 163, S.r 145 28 rfl, S.k 163 rfl, ?_⟩
    rw [c1, x0 (gz g + 166) 1 (by omega), hk1, ix12, nI_clamp (show 12 * k + j < 2 ^ 31 by omega), x0 (gz g + 163) _ (by omega), (hW j (by omega)).1, nI_clamp (show j < 2 ^ 31 by omega), show (12 : Int32) + nI j = nI (12 + j) by rw [show (12 : Int32) = nI 12 from rfl, nI_add], nI_clamp (show 12 + j < 2 ^ 31 by omega), nI_clamp (show k < 2 ^ 31 by omega), nI_s]
    refine ⟨by rw [S.n 163 rfl]; exact vp_in_nI (N := 360) (by omega) (by omega), ?_⟩
    have fin : ∀ (w : Int32) (m1 : Mm), w = cropV A k yk j → m1 = sI m (gz g + 164) j w → At g M_RF_beside (lv + 1) 153 [(0, va_rf (some (gz g + 145))), (1, .int x), (2, .int (nI (j + 1)))] [] m1 (QJ Q) := by
      intro w m1 ew e1
      refine ih (j + 1) m1 (by omega) (s.trans (by rw [e1]; exact St_sI (P := fun a _ => a = gz g + 164) m rfl _)) (fun q hq => ?_)
      rw [e1, mI_sI]
      by_cases hqj : q = j
      · subst hqj; rw [up2_at]; exact ew
      · rw [up2_sl hqj]; exact hc q (by omega)
    by_cases ht : mI A 16 (12 * k + j) = -1
    · rw [if_pos ht, if_pos rfl]
      refine ⟨gz g + 170, S.r 145 35 rfl, S.k 170 rfl, by rw [S.n 170 rfl]; exact vp_in_nI (N := 24) (by omega) (by omega), gz g + 160, S.r 145 25 rfl, by rw [S.n 166 rfl]; exact vp_in_nI (n := 1) (N := 2) (by omega) (by omega), S.k 160 rfl, by rw [S.n 160 rfl]; exact vp_in_nI (N := 30) (by omega) (by omega), S.k 164 rfl, by rw [S.n 164 rfl]; exact vp_in_nI (N := 12) (by omega) (by omega), fun m1 e1 => ?_⟩
      rw [x0 (gz g + 170) _ (by omega), hb j (by omega), x0 (gz g + 160) _ (by omega), hy] at e1
      exact fin _ m1 (by unfold cropV; rw [if_pos ht]) e1
    · rw [if_neg ht, if_neg (by decide)]
      refine ⟨gz g + 158, S.r 145 23 rfl, S.k 158 rfl, by rw [S.n 158 rfl]; exact vp_in_nI (N := 360) (by omega) (by omega), S.k 164 rfl, by rw [S.n 164 rfl]; exact vp_in_nI (N := 12) (by omega) (by omega), fun m1 e1 => ?_⟩
      rw [x0 (gz g + 158) _ (by omega), (hW j (by omega)).2 ht] at e1
      exact fin _ m1 (by unfold cropV; rw [if_neg ht]) e1
