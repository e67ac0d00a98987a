/-! ===== right, count ===== -/
def moreA (A : Mm) (j k : Nat) (s : Int32) : Int32 := if mI A 18 (12 * k + j) = 0 then (mI A 20 k * (s - mI A 17 (12 * k + j))) / 100 else 0
def rightA (A : Mm) (j k : Nat) (s : Int32) : Mm := sI (sL A 1 j (mL A 1 j + 100 * (moreA A j k s).toInt64)) 17 (12 * k + j) s
theorem LandB.frd {g : Gc} {pa : Nat → Nat} {y r : Nat} {A m : Mm} (h : LandB g pa y r A m) {j k : Nat} (hj : j < 12) (hk : k < y) : mI m (gz g + (17 + 4 * j)) k = mI A 18 (12 * k + j) ∧ mI m (gz g + 162) (12 * k + j) = mI A 18 (12 * k + j) := by
  have hv : vI 12 y r 18 (12 * k + j) := ⟨by omega, by omega⟩
  have h1 : mI m (gz g + 2 + 15 + 4 * ((12 * k + j) % 12)) ((12 * k + j) / 12) = mI A 18 (12 * k + j) := h.1.1 18 _ hv
  rw [show gz g + 2 + 15 + 4 * ((12 * k + j) % 12) = gz g + (17 + 4 * j) by omega, show (12 * k + j) / 12 = k by omega] at h1
  exact ⟨h1, h.2.1 18 _ ⟨hv, by omega, by omega⟩⟩
theorem LandB.prt {g : Gc} {pa : Nat → Nat} {y r : Nat} {A m : Mm} (h : LandB g pa y r A m) {k : Nat} (hk : k < y) : mI m (gz g + 12) k = mI A 20 k ∧ mI m (gz g + 161) k = mI A 20 k :=
  ⟨h.1.1 20 k hk, h.2.1 20 k ⟨hk, by omega, by omega⟩⟩
theorem sh_frd : ∀ j, j < 12 → shR (14 + 4 * j) 2 = some (17 + 4 * j) ∧ shK (17 + 4 * j) = 17 ∧ shN (17 + 4 * j) = 30 := by decide +kernel
def WRt : List Nat := [14, 16, 18, 20, 22, 24, 26, 28, 30, 32, 34, 36, 38, 40, 42, 44, 46, 48, 50, 52, 54, 56, 58, 60, 159, 173]
theorem WRt_g : ∀ n, n < 12 → (14 + 4 * n) ∈ WRt ∧ (16 + 4 * n) ∈ WRt := by decide +kernel
def PRt (g : Gc) (y a j : Nat) : Prop := (∃ q, q < 12 ∧ a = gz g + (14 + 4 * q)) ∨ (∃ q, q < 12 ∧ a = gz g + (16 + 4 * q) ∧ j < y) ∨ (a = gz g + 159 ∧ j < 12 * y) ∨ a = gz g + 173 ∨ (a = gz g + 145 ∧ j = 0)
theorem sim_right (g : Gc) {lv : Nat} {m A : Mm} {pa : Nat → Nat} {n y r : Nat} (hS : Sg g m) (hB : LandB g pa y r A m) (hp : PaOK g pa r) (hn : mI A 0 0 = nI n) (h12 : n ≤ 12) (hy : mI A 0 1 = nI y) (h30 : y ≤ 30) (i z s : Int32) : SimI g M_SL_right M_RF_right (lv + 3) [.int i, .int z, .int s] m (fun m2 => St (PRt g y) m m2 ∧ (LandB g pa y r A m2 ∨ ∃ j k s' : Nat, j < n ∧ k < y ∧ s' ≤ 500000 ∧ LandB g pa y r (rightA A j k (nI s')) m2)) := by
  have z0 : (0 : Int32).toNatClampNeg = 0 := rfl
  have e2 : wj s.toInt64 (0 : Int64) (500000 : Int64) = wi s 0 500000 := wj_wide s 0 500000
  have on0 : ∀ m1 : Mm, St (PRt g y) m1 (sI m1 (gz g + 145) 0 0) := fun m1 => St_sI m1 (Or.inr (Or.inr (Or.inr (Or.inr ⟨rfl, rfl⟩)))) 0
  have ok0 : LandB g pa y r A (sI m (gz g + 145) 0 0) := hB.off0 hp (by omega) 0
  have hS0 : Sg g (sI m (gz g + 145) 0 0) := hS
  -- the reference up to its reckoning
  have ref : ∀ (m1 : Mm) (Q : Int32 → Mm → Prop), Sg g m1 → mI m1 (gz g + 145) 19 = nI n → mI m1 (gz g + 166) 0 = nI y → ((wi i 0 (nI n - 1) = 0 ∨ wi z 0 (nI y - 1) = 0 ∨ wi s 0 500000 = 0) → Q (-1000000) (sI m1 (gz g + 145) 0 0)) → (∀ j k s' : Nat, j < n → k < y → s' ≤ 500000 → i = nI j → z = nI k → s = nI s' → (mI m1 (gz g + 162) (12 * k + j) = mI A 18 (12 * k + j) ∧ mI m1 (gz g + 161) k = mI A 20 k ∧ mI m1 (gz g + 159) (12 * k + j) = mI A 17 (12 * k + j) ∧ mL m1 (gz g + 173) j = mL A 1 j) ∧ Q (moreA A j k s) (sL (sI (sI m1 (gz g + 145) 0 0) (gz g + 159) (12 * k + j) s) (gz g + 173) j (mL A 1 j + 100 * (moreA A j k s).toInt64))) → CI g M_RF_right (lv + 3) [va_rf (some (gz g + 145)), .int i, .int z, .int s] m1 Q := by
    intro m1 Q s1 n1 y1 qa qb
    refine en_RF_right g ⟨s1.k 145 rfl, fun m2 em => ?_⟩
    have s2 : Sg g m2 := by rw [em]; exact s1
    have n2 : mI m2 (gz g + 145) 19 = nI n := by rw [em, mI_sI, up2_sl (by omega)]; exact n1
    have y2 : mI m2 (gz g + 166) 0 = nI y := by rw [em, mI_sI, up2_oth (by omega)]; exact y1
    refine c_isGrower g (s2.k 145 rfl) n2 ?_
    by_cases h1 : wi i 0 (nI n - 1) = 0
    · rw [if_pos h1, em]; exact qa (Or.inl h1)
    rw [if_neg h1]
    refine ⟨gz g + 166, s2.r 145 31 rfl, s2.k 166 rfl, by rw [s2.n 166 rfl]; exact vp_in_nI (n := 0) (N := 2) (by omega) (by omega), c_in g ?_⟩
    rw [z0, y2, wj_i0]
    by_cases h2 : wi z 0 (nI y - 1) = 0
    · rw [if_pos h2, em]; exact qa (Or.inr (Or.inl h2))
    rw [if_neg h2]
    refine c_in g ?_
    rw [e2]
    by_cases h3 : wi s 0 500000 = 0
    · rw [if_pos h3, em]; exact qa (Or.inr (Or.inr h3))
    rw [if_neg h3]
    obtain ⟨j, hj, rfl⟩ := gr_of h12 h1
    obtain ⟨k, hk, rfl⟩ := gr_ofN (by omega) h2
    obtain ⟨s', -, hs', rfl⟩ := wi_rng (a := 0) (c := 500000) rfl rfl (by omega) (by omega) h3
    obtain ⟨⟨f1, f2, f3, f4⟩, hq⟩ := qb j k s' hj hk hs' rfl rfl rfl
    rw [ix12, nI_clamp (show 12 * k + j < 2 ^ 31 by omega), nI_clamp (show k < 2 ^ 31 by omega)]
    have g1 : mI m2 (gz g + 162) (12 * k + j) = mI A 18 (12 * k + j) := by rw [em, mI_sI, up2_oth (by omega)]; exact f1
    have g2 : mI m2 (gz g + 161) k = mI A 20 k := by rw [em, mI_sI, up2_oth (by omega)]; exact f2
    have g3 : mI m2 (gz g + 159) (12 * k + j) = mI A 17 (12 * k + j) := by rw [em, mI_sI, up2_oth (by omega)]; exact f3
    have fin : ∀ v, v = moreA A j k (nI s') → At g M_RF_right (lv + 3) 88 [(0, va_rf (some (gz g + 145))), (1, .int (nI j)), (3, .int (nI s')), (4, .int (nI (12 * k + j)))] [.int v] m2 (QI Q) := by
      intro v ev
      subst ev
      refine bk_RF_right_88 g ⟨s2.k 145 rfl, gz g + 159, s2.r 145 24 rfl, s2.k 159 rfl, by rw [s2.n 159 rfl]; exact vp_in_nI (N := 360) (by omega) (by omega), fun m3 e3 => ?_⟩
      rw [nI_clamp (by omega)] at e3
      have s3 : Sg g m3 := by rw [e3]; exact s2
      refine ⟨gz g + 173, s3.r 145 38 rfl, s3.k 173 rfl, by rw [s3.n 173 rfl]; exact vp_in_nI (N := 24) (by omega) (by omega), by rw [s3.n 173 rfl]; exact vp_in_nI (N := 24) (by omega) (by omega), fun m4 e4 => ?_⟩
      rw [nI_clamp (by omega), e3, mL_sI, em, mL_sI, f4] at e4
      rw [e4]
      exact hq
    refine ⟨gz g + 162, s2.r 145 27 rfl, s2.k 162 rfl, by rw [s2.n 162 rfl]; exact vp_in_nI (N := 360) (by omega) (by omega), ?_⟩
    rw [g1]
    by_cases h4 : mI A 18 (12 * k + j) = 0
    · rw [if_pos h4]
      refine ⟨gz g + 161, s2.r 145 26 rfl, s2.k 161 rfl, by rw [s2.n 161 rfl]; exact vp_in_nI (N := 30) (by omega) (by omega), gz g + 159, s2.r 145 24 rfl, s2.k 159 rfl, by rw [s2.n 159 rfl]; exact vp_in_nI (N := 360) (by omega) (by omega), ?_⟩
      rw [g2, g3]
      exact fin _ (by unfold moreA; rw [if_pos h4])
    · rw [if_neg h4]
      exact fin _ (by unfold moreA; rw [if_neg h4])
  unfold SimI
  refine en_SL_right g ⟨hS.k 0 rfl, gz g + 2, hS.r 0 1 rfl, hS.k 2 rfl, c_hasGrower g (hS.k 2 rfl) (hB.n.1.trans hn) h12 ?_⟩
  by_cases h1 : wi i 0 (nI n - 1) = 0
  · rw [if_pos h1]
    exact ref m _ hS (hB.n.2.trans hn) (hB.yr.2.trans hy) (fun _ => ⟨rfl, on0 m, Or.inl ok0⟩) (fun j k s' hj _ _ e => absurd (by rw [e] at h1; exact h1) (by rw [wi_in hj (by omega)]; decide))
  rw [if_neg h1, hB.yr.1, hy]
  refine c_isWithin g ?_
  by_cases h2 : wi z 0 (nI y - 1) = 0
  · rw [if_pos h2]
    exact ref m _ hS (hB.n.2.trans hn) (hB.yr.2.trans hy) (fun _ => ⟨rfl, on0 m, Or.inl ok0⟩) (fun j k s' _ hk _ _ e => absurd (by rw [e] at h2; exact h2) (by rw [wi_in hk (by omega)]; decide))
  rw [if_neg h2]
  refine c_isWithin g ?_
  by_cases h3 : wi s 0 500000 = 0
  · rw [if_pos h3]
    refine ref m _ hS (hB.n.2.trans hn) (hB.yr.2.trans hy) (fun _ => ⟨rfl, on0 m, Or.inl ok0⟩) (fun j k s' _ _ hs' _ _ e => absurd h3 ?_)
    rw [e, wi_eq0]
    rintro (q | q)
    · exact nI_pos (by omega) q
    · rw [show (500000 : Int32) = nI 500000 from rfl, nI_ltI (by omega) (by omega)] at q; omega
  rw [if_neg h3]
  obtain ⟨j, hj, rfl⟩ := gr_of h12 h1
  obtain ⟨k, hk, rfl⟩ := gr_ofN (by omega) h2
  obtain ⟨s', -, hs', rfl⟩ := wi_rng (a := 0) (c := 500000) rfl rfl (by omega) (by omega) h3
  have hj2 : j < 12 := by omega
  have hcr := hB.crp hj2 hk
  have hfr := hB.frd hj2 hk
  have hpr := hB.prt hk
  have hrs := hB.rst hj2
  refine en_Land_putRight g ⟨hS.k 2 rfl, gz g + 3, hS.r 2 1 rfl, hS.k 3 rfl, by rw [hS.n 3 rfl]; exact vp_in_nI (N := 12) (by omega) (by omega), gz g + (14 + 4 * j), by rw [nI_clamp (by omega)]; exact hS.r 3 j (sh_gr j hj2).1, hS.k (14 + 4 * j) (sh_gr j hj2).2 (by omega), gz g + (17 + 4 * j), hS.r (14 + 4 * j) 2 (sh_frd j hj2).1, hS.k (17 + 4 * j) (sh_frd j hj2).2.1 (by omega), by rw [hS.n (17 + 4 * j) (sh_frd j hj2).2.2 (by omega)]; exact vp_in_nI (N := 30) (by omega) (by omega), ?_⟩
  rw [nI_clamp (show k < 2 ^ 31 by omega), hfr.1]
  have fin : ∀ v, v = moreA A j k (nI s') → At g M_Land_putRight (lv + 2) 41 [(2, .int (nI k)), (3, .int (nI s')), (4, va_rf (some (gz g + (14 + 4 * j))))] [.int v] m (QI (fun x26 m27 => CI g M_RF_right (lv + 3) (va_rf (some (gz g + 145)) :: [.int (nI j), .int (nI k), .int (nI s')]) m27 (fun r2 m2 => x26 = r2 ∧ St (PRt g y) m m2 ∧ (LandB g pa y r A m2 ∨ ∃ j k s' : Nat, j < n ∧ k < y ∧ s' ≤ 500000 ∧ LandB g pa y r (rightA A j k (nI s')) m2)))) := by
    intro v ev
    subst ev
    refine bk_Land_putRight_41 g ⟨gz g + (14 + 4 * j), rfl, hS.k (14 + 4 * j) (sh_gr j hj2).2 (by omega), fun m1 e1 => ?_⟩
    rw [hrs.1] at e1
    have s1 : Sg g m1 := by rw [e1]; exact hS
    refine ⟨gz g + (16 + 4 * j), s1.r (14 + 4 * j) 1 (sh_crp j hj2).1, s1.k (16 + 4 * j) (sh_crp j hj2).2.1 (by omega), by rw [s1.n (16 + 4 * j) (sh_crp j hj2).2.2 (by omega)]; exact vp_in_nI (N := 30) (by omega) (by omega), fun m2 e2 => ?_⟩
    rw [nI_clamp (by omega)] at e2
    have s2 : Sg g m2 := by rw [e2]; exact s1
    have c2 : LandC g 2 pa 12 y r (rightA A j k (nI s')) m2 := by
      rw [e2, e1]
      unfold rightA
      refine LandC.putI (hB.1.putJ (by omega) (c := 1) (i := j) (a := gz g + (14 + 4 * j)) (j := 12) hj2 (Prod.ext (by show gz g + 2 + 12 + 4 * j = gz g + (14 + 4 * j); omega) rfl) _) (by omega) (by omega) hp (c := 17) (i := 12 * k + j) (a := gz g + (16 + 4 * j)) (j := k) ⟨by omega, by omega⟩ (Prod.ext (by show gz g + 2 + 14 + 4 * ((12 * k + j) % 12) = gz g + (16 + 4 * j); omega) (by show (12 * k + j) / 12 = k; omega)) _
    have st2 : St (PRt g y) m m2 := by
      rw [e2, e1]
      exact (St_sL m (Or.inl ⟨j, hj2, rfl⟩) _).trans (St_sI _ (Or.inr (Or.inl ⟨j, hj2, rfl, hk⟩)) _)
    have ne : ∀ e, 145 ≤ e → mI m2 (gz g + e) = mI m (gz g + e) ∧ mL m2 (gz g + e) = mL m (gz g + e) := fun e he => by
      rw [e2, e1, mI_sI, up2_ne (by omega), mI_sL, mL_sI, mL_sL, up2_ne (by omega)]
      exact ⟨rfl, rfl⟩
    have r2 : LandR g 0 12 y r A m2 := hB.2.same (fun d hd => by rw [show gz g + 145 + d = gz g + (145 + d) by omega]; exact ne (145 + d) (by omega)) (by rw [(ne 145 (by omega)).1]) (by rw [(ne 145 (by omega)).1])
    clear e1 e2
    refine ref m2 _ s2 (by rw [(ne 145 (by omega)).1]; exact hB.n.2.trans hn) (by rw [(ne 166 (by omega)).1]; exact hB.yr.2.trans hy) (fun q => ?_) (fun j' k' s'' _ _ _ ej ek es => ?_)
    · exfalso
      rcases q with q | q | q
      · exact h1 q
      · exact h2 q
      · exact h3 q
    · obtain rfl := (nI_eq (by omega) (by omega)).1 ej
      obtain rfl := (nI_eq (by omega) (by omega)).1 ek
      refine ⟨⟨by rw [(ne 162 (by omega)).1]; exact hfr.2, by rw [(ne 161 (by omega)).1]; exact hpr.2, by rw [(ne 159 (by omega)).1]; exact hcr.2, by rw [(ne 173 (by omega)).2]; exact hrs.2⟩, rfl, ?_, Or.inr ⟨j, k, s', hj, hk, hs', ?_, ?_⟩⟩
      · exact ((st2.trans (on0 m2)).trans (St_sI _ (Or.inr (Or.inr (Or.inl ⟨rfl, by omega⟩))) _)).trans (St_sL _ (Or.inr (Or.inr (Or.inr (Or.inl rfl)))) _)
      · exact ((c2.offI (by omega) hp (d := 145) (by omega) (by omega) _ _).offI (by omega) hp (d := 159) (by omega) (by omega) _ _).offJ (by omega) hp (d := 173) (by omega) (by omega) _ _
      · have p1 := (r2.offM (j := 0) (by omega) 0).putI (c := 17) (i := 12 * k + j) (a := gz g + 159) (j := 12 * k + j) ⟨⟨by omega, by omega⟩, by omega, by omega⟩ rfl (nI s')
        exact p1.putJ (by omega) (c := 1) (i := j) (a := gz g + 173) (j := j) hj2 (Prod.ext rfl (by show 12 * 0 + j = j; omega)) _
  by_cases h4 : mI A 18 (12 * k + j) = 0
  · rw [if_pos h4]
    refine ⟨gz g + 12, hS.r 2 6 rfl, hS.k 12 rfl, by rw [hS.n 12 rfl]; exact vp_in_nI (N := 30) (by omega) (by omega), gz g + (16 + 4 * j), hS.r (14 + 4 * j) 1 (sh_crp j hj2).1, hS.k (16 + 4 * j) (sh_crp j hj2).2.1 (by omega), by rw [hS.n (16 + 4 * j) (sh_crp j hj2).2.2 (by omega)]; exact vp_in_nI (N := 30) (by omega) (by omega), ?_⟩
    rw [hpr.1, hcr.1]
    exact fin _ (by unfold moreA; rw [if_pos h4])
  · rw [if_neg h4]
    exact fin _ (by unfold moreA; rw [if_neg h4])
