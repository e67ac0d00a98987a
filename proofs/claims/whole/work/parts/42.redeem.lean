/-! ===== redeem, right ===== -/
theorem LC.putF {g : Gc} {pa : Nat → Nat} {y r j : Nat} {A m : Mm} (h : LC g pa y r A m) (hj : j < 12) (v : Int32) : LC g pa y r (sI A 7 j v) (sI m (gz g + (14 + 4 * j)) 9 v) := by
  obtain ⟨hc, hp, hpap, hl⟩ := h
  refine ⟨hc.putG hp hj (c := 7) (by omega) (by omega) v, hp, hpap, fun k hk e he => ?_⟩
  rw [mI_sI, up2_oth (by omega), up2_oth (by omega), mR_sI, mL_sI]
  exact (hl k hk e he).same (Nat.le_refl _) (fun q hq h184 _ => ⟨hq, up2_ne (by omega), rfl⟩)
theorem LC.putS {g : Gc} {pa : Nat → Nat} {y r j : Nat} {A m : Mm} (h : LC g pa y r A m) (hj : j < 8) (v : Int64) : LC g pa y r (sL A 2 j v) (sL m (gz g + 13) j v) := by
  obtain ⟨hc, hp, hpap, hl⟩ := h
  refine ⟨hc.putJ (by omega) (c := 2) (i := j) (a := gz g + 13) (j := j) hj rfl v, hp, hpap, fun k hk e he => ?_⟩
  rw [mL_sL, up2_oth (by omega), mR_sL, mI_sL]
  exact (hl k hk e he).same (Nat.le_refl _) (fun q hq h184 _ => ⟨hq, rfl, up2_ne (by omega)⟩)
theorem LR.putF {g : Gc} {y r j : Nat} {A m : Mm} (h : LR g y r A m) (hj : j < 12) (v : Int32) : LR g y r (sI A 7 j v) (sI m (gz g + 172) j v) := by
  refine ⟨h.1.putI (c := 7) (i := j) (a := gz g + 172) (j := j) ⟨⟨by omega, by omega, hj⟩, by omega, by omega⟩ (Prod.ext rfl (by show 12 * 0 + j = j; omega)) v, fun k hk => ?_⟩
  rw [mI_sI, mI_sI, up2_oth (by omega), up2_oth (by omega), up2_oth (by omega), up2_oth (by omega)]
  exact h.2 k hk
theorem LR.putS {g : Gc} {y r j : Nat} {A m : Mm} (h : LR g y r A m) (hj : j < 8) (v : Int64) : LR g y r (sL A 2 j v) (sL m (gz g + 178) j v) := by
  refine ⟨h.1.putJ (by omega) (c := 2) (i := j) (a := gz g + 178) (j := j) hj (Prod.ext rfl (by show 8 * 0 + j = j; omega)) v, fun k hk => ?_⟩
  rw [mL_sL, mL_sL, up2_oth (by omega), up2_oth (by omega)]
  exact h.2 k hk
theorem LC.fr {g : Gc} {pa : Nat → Nat} {y r j : Nat} {A m : Mm} (h : LC g pa y r A m) (hj : j < 12) : mI m (gz g + (14 + 4 * j)) 9 = mI A 7 j := by
  rw [show gz g + (14 + 4 * j) = gz g + 2 + 12 + 4 * j by omega]
  exact h.1.1 7 j ⟨by omega, by omega, hj⟩
theorem LR.fr {g : Gc} {y r j : Nat} {A m : Mm} (h : LR g y r A m) (hj : j < 12) : mI m (gz g + 172) j = mI A 7 j := by
  have h3 : mI m (gz g + 172) (12 * 0 + j) = mI A 7 j := h.1.1 7 j ⟨⟨by omega, by omega, hj⟩, by omega, by omega⟩
  rw [show 12 * 0 + j = j by omega] at h3
  exact h3
theorem LC.su {g : Gc} {pa : Nat → Nat} {y r j : Nat} {A m : Mm} (h : LC g pa y r A m) (hj : j < 8) : mL m (gz g + 13) j = mL A 2 j := h.1.2 2 j hj
theorem LR.su {g : Gc} {y r j : Nat} {A m : Mm} (h : LR g y r A m) (hj : j < 8) : mL m (gz g + 178) j = mL A 2 j := by
  have := h.1.2 2 j hj
  rw [show rJ (gz g + 145) 0 2 j = (gz g + 178, j) from Prod.ext rfl (by show 8 * 0 + j = j; omega)] at this
  exact this
def HoldOK (n r : Nat) (A : Mm) : Prop := ∀ i, i < r → ∃ h : Nat, mI A 9 i = nI h ∧ (h < n ∨ (12 ≤ h ∧ h < 15))
theorem h_12 {h n : Nat} (h15 : h < n ∨ (12 ≤ h ∧ h < 15)) (h12 : n ≤ 12) : (wi (nI h) 0 (nI n - 1) = 0 ↔ 12 ≤ h) ∧ (nI h < (12 : Int32) ↔ h < 12) := by
  refine ⟨⟨fun q => ?_, fun q => ?_⟩, ?_⟩
  · rcases h15 with a | a
    · rw [wi_in a (by omega)] at q; exact absurd q (by decide)
    · exact a.1
  · rcases h15 with a | a
    · omega
    · by_cases z : wi (nI h) 0 (nI n - 1) = 0
      · exact z
      · obtain ⟨j, hj, e⟩ := gr_of h12 z
        have := (nI_eq (by omega) (by omega)).1 e
        omega
  · rw [show (12 : Int32) = nI 12 from rfl, nI_ltI (by omega) (by omega)]
/-- what redeeming the receipt i of the grower h does -/
def redeemA (A : Mm) (i h : Nat) : Mm := sL (sI (sI A 10 i 0) 7 h (mI A 7 h + mI A 10 i)) 2 7 (mL A 2 7 + (mI A 10 i).toInt64)
theorem redeem_comm (A : Mm) (i h : Nat) (v w : Int32) : sI (sI A 7 h v) 10 i w = sI (sI A 10 i w) 7 h v := by
  obtain ⟨a, b⟩ := A
  refine congrArg (fun f => (f, b)) ?_
  funext q k
  show up2 (up2 a 7 h v) 10 i w q k = up2 (up2 a 10 i w) 7 h v q k
  by_cases h1 : q = 7
  · subst h1; rw [up2_oth (by omega)]; by_cases h2 : k = h
    · subst h2; rw [up2_at, up2_at]
    · rw [up2_sl h2, up2_sl h2, up2_oth (by omega)]
  · rw [up2_oth (f := up2 a 10 i w) h1]
    by_cases h2 : q = 10
    · subst h2
      by_cases h3 : k = i
      · subst h3; rw [up2_at, up2_at]
      · rw [up2_sl h3, up2_sl h3, up2_oth (by omega)]
    · rw [up2_oth h2, up2_oth h2, up2_oth h1]
def WRd : List Nat := [13, 14, 18, 22, 26, 30, 34, 38, 42, 46, 50, 54, 58, 172, 176, 178]
theorem WRd_g : ∀ n, n < 12 → (14 + 4 * n) ∈ WRd := by decide +kernel
theorem sim_redeem (g : Gc) {lv n y r : Nat} {A m : Mm} {pa : Nat → Nat} (hS : Sg g m) (hF : Fr g m) (hC : LC g pa y r A m) (hR : LR g y r A m) (hn : mI A 0 0 = nI n) (h12 : n ≤ 12) (hr : mI A 0 3 = nI r) (h4 : r ≤ 400) (hs : ∀ i, i < r → ∃ s : Nat, s < 2 ^ 31 ∧ mI A 10 i = nI s) (hh : HoldOK n r A) (x : Int32) : SimI g M_SL_redeem M_RF_redeem (lv + 3) [.int x] m (fun m2 => (Fm g (PRc g pa r WRd) [0] 0 m m2 ∧ Fr g m2 ∧ ∀ j, j ≠ 7 → mL m2 (gz g + 178) j = mL m (gz g + 178) j) ∧ ((LC g pa y r A m2 ∧ LR g y r A m2) ∨ ∃ i h, i < r ∧ h < n ∧ mI A 9 i = nI h ∧ mI A 12 (2 * i) = -1 ∧ LC g pa y r (redeemA A i h) m2 ∧ LR g y r (redeemA A i h) m2)) := by
  have z0 : (0 : Int32).toNatClampNeg = 0 := rfl
  have z7 : (7 : Int32).toNatClampNeg = 7 := rfl
  have on0 : Fm g (PRc g pa r WRd) [0] 0 m (sI m (gz g + 145) 0 0) ∧ Fr g (sI m (gz g + 145) 0 0) ∧ ∀ j, j ≠ 7 → mL (sI m (gz g + 145) 0 0) (gz g + 178) j = mL m (gz g + 178) j := ⟨Fm_sM m (by decide) 0, hF, fun _ _ => rfl⟩
  have hR0 : LR g y r A (sI m (gz g + 145) 0 0) := hR.t0 hF (by omega) 0
  have hC0 : LC g pa y r A (sI m (gz g + 145) 0 0) := hC.t0 hF 0 0
  have hS0 : Sg g (sI m (gz g + 145) 0 0) := hS
  unfold SimI
  refine en_SL_redeem g ⟨hS.k 0 rfl, gz g + 2, hS.r 0 1 rfl, hS.k 2 rfl, gz g + 5, hS.r 2 3 rfl, hS.k 5 rfl, c_find g hS hC hr h4 (fun hw => ?_) (fun i hi e => ?_)⟩
  · rw [if_pos rfl]
    refine en_RF_redeem g ⟨hS.k 145 rfl, fun m2 e2 => ?_⟩
    subst e2
    refine c_isFullR g hS0 hR0 hr h4 (fun _ => ?_) (fun i hi e => absurd (by rw [e] at hw; exact hw) (by rw [wi_in hi (by omega)]; decide)) (fun i hi e => absurd (by rw [e] at hw; exact hw) (by rw [wi_in hi (by omega)]; decide))
    rw [if_pos rfl]; exact ⟨rfl, on0, Or.inl ⟨hC0, hR0⟩⟩
  subst e
  have nw : ¬ wi (nI i) 0 (nI r - 1) = 0 := by rw [wi_in hi (by omega)]; decide
  have same : ∀ {i' : Nat}, i' < r → nI i = nI i' → i = i' := fun h e => (nI_eq (by omega) (by omega)).1 e
  obtain ⟨s, hs1, hs2⟩ := hs i hi
  obtain ⟨h, hh1, hh2⟩ := hh i hi
  obtain ⟨w1, w2⟩ := h_12 hh2 h12
  rw [if_neg (by simp)]
  refine ⟨pa i, rfl, (hC.2.2.1.1 i hi).2.1, ?_⟩
  rw [(hC.rc hi).2.1, (hC.rc hi).1, hs2, hh1]
  by_cases h1 : s = 0
  · rw [if_pos ((sk_0 hs1).2.2 h1)]
    refine en_RF_redeem g ⟨hS.k 145 rfl, fun m2 e2 => ?_⟩
    subst e2
    refine c_isFullR g hS0 hR0 hr h4 (fun hw => absurd hw nw) (fun i' hi' e _ => ?_) (fun i' hi' e q => ?_)
    · rw [if_pos rfl]; exact ⟨rfl, on0, Or.inl ⟨hC0, hR0⟩⟩
    · obtain rfl := same hi' e
      exact absurd ((sk_0 hs1).1.2 h1) (by rw [← hs2]; exact q)
  rw [if_neg (fun q => h1 ((sk_0 hs1).2.1 q))]
  have full : ∀ (m1 : Mm) (Q : Int32 → Mm → Prop), Sg g m1 → LR g y r A m1 → Q 1 m1 → CI g M_RF_isFull (lv + 2) [va_rf (some (gz g + 145)), .int (nI i)] m1 Q := fun m1 Q a b c =>
    c_isFullR g a b hr h4 (fun hw => absurd hw nw) (fun i' hi' e q => by obtain rfl := same hi' e; exact absurd ((sk_0 hs1).1.1 (by rw [← hs2]; exact q)) h1) (fun i' hi' e q => c)
  -- the reference up to the holder
  have ref : ∀ (m1 : Mm) (Q : Int32 → Mm → Prop), Sg g m1 → Fr g m1 → LR g y r A m1 → (12 ≤ h → Q (-2) (sI m1 (gz g + 145) 0 0)) → (h < 12 → ¬ mI A 12 (2 * i) = -1 → Q (-7) (sI m1 (gz g + 145) 0 0)) → (h < 12 → mI A 12 (2 * i) = -1 → ¬ (3 : Int32) ≤ mI A 0 1 - mI A 11 i → Q (-9) (sI m1 (gz g + 145) 0 0)) → (h < 12 → mI A 12 (2 * i) = -1 → (3 : Int32) ≤ mI A 0 1 - mI A 11 i → Q (nI s) (sL (sI (sI (sI m1 (gz g + 145) 0 0) (gz g + 172) h (mI A 7 h + nI s)) (gz g + 176) i 0) (gz g + 178) 7 (mL A 2 7 + (nI s).toInt64))) → CI g M_RF_redeem (lv + 3) [va_rf (some (gz g + 145)), .int (nI i)] m1 Q := by
    intro m1 Q s1 F1 r1 q1 q2 q3 q4
    refine en_RF_redeem g ⟨s1.k 145 rfl, fun m2 e2 => ?_⟩
    have r2 : LR g y r A m2 := by rw [e2]; exact r1.t0 F1 (by omega) 0
    have s2 : Sg g m2 := by rw [e2]; exact s1
    rw [← e2] at q1 q2 q3 q4
    clear e2
    refine full _ _ s2 r2 ?_
    rw [if_neg (by decide)]
    refine ⟨gz g + 175, s2.r 145 40 rfl, s2.k 175 rfl, by rw [s2.n 175 rfl]; exact vp_in_nI (N := 800) (by omega) (by omega), ?_⟩
    rw [nI_clamp (show i < 2 ^ 31 by omega), (r2.rc hi).1, hh1]
    by_cases hx : h < 12
    · rw [if_pos (w2.2 hx)]
      refine c_isPledgedR g s2 r2 h4 hi (fun hb => ?_) (fun hb => ?_)
      · rw [if_pos rfl]
        refine ⟨gz g + 166, s2.r 145 31 rfl, s2.k 166 rfl, by rw [s2.n 166 rfl]; exact vp_in_nI (n := 0) (N := 2) (by omega) (by omega), gz g + 177, s2.r 145 42 rfl, s2.k 177 rfl, by rw [s2.n 177 rfl]; exact vp_in_nI (N := 800) (by omega) (by omega), ?_⟩
        rw [z0, r2.yr, (r2.rc hi).2.2, (r2.rc hi).1, hh1]
        by_cases hy : (3 : Int32) ≤ mI A 0 1 - mI A 11 i
        · rw [if_pos hy]
          refine ⟨gz g + 176, s2.r 145 41 rfl, s2.k 176 rfl, by rw [s2.n 176 rfl]; exact vp_in_nI (N := 800) (by omega) (by omega), gz g + 172, s2.r 145 37 rfl, by rw [s2.n 175 rfl]; exact vp_in_nI (N := 800) (by omega) (by omega), s2.k 172 rfl, by rw [s2.n 172 rfl]; exact vp_in_nI (N := 24) (by omega) (by omega), by rw [s2.n 172 rfl]; exact vp_in_nI (N := 24) (by omega) (by omega), fun m3 e3 => ?_⟩
          rw [nI_clamp (show h < 2 ^ 31 by omega), r2.fr hx, (r2.rc hi).2.1, hs2] at e3
          rw [(r2.rc hi).2.1, hs2]
          have su2 := r2.su (j := 7) (by omega)
          refine ⟨by rw [e3, mN_sI, s2.n 176 rfl]; exact vp_in_nI (N := 800) (by omega) (by omega), fun m4 e4 => ⟨gz g + 178, by rw [e4, e3]; exact s2.r 145 43 rfl, by rw [e4, e3]; exact s2.k 178 rfl, by rw [e4, e3, mN_sI, mN_sI, s2.n 178 rfl]; exact vp_in_nI (n := 7) (N := 16) (by omega) (by omega), by rw [e4, e3, mN_sI, mN_sI, s2.n 178 rfl]; exact vp_in_nI (n := 7) (N := 16) (by omega) (by omega), fun m5 e5 => ?_⟩⟩
          rw [e4, e3, z7, mL_sI, mL_sI, su2] at e5
          rw [e5]
          exact q4 hx hb hy
        · rw [if_neg hy]; exact q3 hx hb hy
      · rw [if_neg (by decide)]; exact q2 hx hb
    · rw [if_neg (fun q => hx (w2.1 q))]; exact q1 (by omega)
  refine c_hasGrower g (hS.k 2 rfl) (hC.n.trans hn) h12 ?_
  by_cases h2 : 12 ≤ h
  · rw [if_pos (w1.2 h2)]
    exact ref m _ hS hF hR (fun _ => ⟨rfl, on0, Or.inl ⟨hC0, hR0⟩⟩) (fun q => absurd q (by omega)) (fun q => absurd q (by omega)) (fun q => absurd q (by omega))
  rw [if_neg (fun q => h2 (w1.1 q))]
  have hx : h < n := by omega
  have hx2 : h < 12 := by omega
  refine c_isPledged g hC hi (fun hb => ?_) (fun hb => ?_)
  · rw [if_pos rfl, hC.yr, (hC.rc hi).2.2]
    by_cases hy : (3 : Int32) ≤ mI A 0 1 - mI A 11 i
    · rw [if_pos hy]
      intro m1 e1
      have pg := hC.2.1.2 i hi
      have c1 : LC g pa y r (sI A 10 i 0) m1 := by rw [e1]; exact hC.putRc (c := 10) hi (by omega) (by omega) 0
      have f1 : Fm g (PRc g pa r WRd) [0] 0 m m1 := by rw [e1]; exact Fm_sI m (Or.inr ⟨i, hi, rfl⟩) (by omega) 1 0
      have r1 : LR g y r A m1 := by rw [e1]; exact hR.clI hF (Or.inr pg) 1 0
      have s1 : Sg g m1 := by rw [e1]; exact hS
      have F1 : Fr g m1 := by rw [e1]; exact hF
      have a1 : mI m1 (pa i) 0 = nI h := by rw [(c1.rc hi).1, mI_sI, up2_oth (by omega)]; exact hh1
      have v1 : mL m1 = mL m := by rw [e1]; rfl
      clear e1
      rw [a1, nI_clamp (by omega)]
      refine ⟨gz g + 3, s1.r 2 1 rfl, s1.k 3 rfl, by rw [s1.n 3 rfl]; exact vp_in_nI (N := 12) (by omega) (by omega), gz g + (14 + 4 * h), s1.r 3 h (sh_gr h hx2).1, s1.k (14 + 4 * h) (sh_gr h hx2).2 (by omega), fun m2 e2 => ?_⟩
      rw [c1.fr hx2, mI_sI, up2_oth (by omega), (hC.rc hi).2.1, hs2] at e2
      have c2 : LC g pa y r (sI (sI A 10 i 0) 7 h (mI A 7 h + nI s)) m2 := by rw [e2]; exact c1.putF hx2 _
      have f2 : Fm g (PRc g pa r WRd) [0] (0 + 0) m m2 := by rw [e2]; exact f1.trans (Fm_sI (P := PRc g pa r WRd) m1 (Or.inl ⟨14 + 4 * h, WRd_g h hx2, rfl⟩) (by omega) _ _) (fun a _ q => q)
      have r2 : LR g y r A m2 := by rw [e2]; exact r1.clI F1 (Or.inl (by omega)) _ _
      have s2 : Sg g m2 := by rw [e2]; exact s1
      have F2 : Fr g m2 := by rw [e2]; exact F1
      have v2 : mL m2 = mL m := by rw [e2]; exact v1
      clear e2
      refine ⟨gz g + 13, s2.r 2 7 rfl, s2.k 13 rfl, by rw [s2.n 13 rfl]; exact vp_in_nI (n := 7) (N := 8) (by omega) (by omega), by rw [s2.n 13 rfl]; exact vp_in_nI (n := 7) (N := 8) (by omega) (by omega), fun m3 e3 => ?_⟩
      rw [z7, c2.su (by omega), mL_sI, mL_sI, (hC.rc hi).2.1, hs2] at e3
      have c3 : LC g pa y r (redeemA A i h) m3 := by
        rw [e3]
        unfold redeemA
        rw [hs2]
        exact c2.putS (by omega) _
      have f3 : Fm g (PRc g pa r WRd) [0] (0 + 0 + 0) m m3 := by rw [e3]; exact f2.trans (Fm_sL (P := PRc g pa r WRd) m2 (a := gz g + 13) (Or.inl ⟨13, by decide, rfl⟩) (by omega) _ _) (fun a _ q => q)
      have r3 : LR g y r A m3 := by rw [e3]; exact r2.clL F2 (Or.inl (by omega)) _ _
      have s3 : Sg g m3 := by rw [e3]; exact s2
      have F3 : Fr g m3 := by rw [e3]; exact F2
      have v3 : mL m3 (gz g + 178) = mL m (gz g + 178) := by rw [e3, mL_sL, up2_ne (by omega), v2]
      clear e3
      rw [(hC.rc hi).2.1, hs2]
      refine ref m3 _ s3 F3 r3 (fun q => absurd q (by omega)) (fun _ q => absurd hb q) (fun _ _ q => absurd hy q) (fun _ _ _ => ⟨rfl, ⟨?_, F3, fun j hj => ?_⟩, Or.inr ⟨i, h, hi, hx, hh1, hb, ?_, ?_⟩⟩)
      · refine ((((f3.trans (Fm_sM (P := PRc g pa r WRd) m3 (by decide) 0) (fun a _ q => q)).trans (Fm_sI (P := PRc g pa r WRd) _ (a := gz g + 172) (Or.inl ⟨172, by decide, rfl⟩) (by omega) _ _) (fun a _ q => q)).trans (Fm_sI (P := PRc g pa r WRd) _ (a := gz g + 176) (Or.inl ⟨176, by decide, rfl⟩) (by omega) _ _) (fun a _ q => q)).trans (Fm_sL (P := PRc g pa r WRd) _ (a := gz g + 178) (Or.inl ⟨178, by decide, rfl⟩) (by omega) _ _) (fun a _ q => q))
      · rw [mL_sL, up2_sl hj, mL_sI, mL_sI, mL_sI, v3]
      · exact (((c3.t0 F3 0 0).rfI (m := sI m3 (gz g + 145) 0 0) F3 (by omega) (by omega) _ _).rfI (m := sI (sI m3 (gz g + 145) 0 0) (gz g + 172) h (mI A 7 h + nI s)) F3 (by omega) (by omega) _ _).rfL (m := sI (sI (sI m3 (gz g + 145) 0 0) (gz g + 172) h (mI A 7 h + nI s)) (gz g + 176) i 0) F3 (by omega) (by omega) _ _
      · have p1 := (r3.t0 F3 (j := 0) (by omega) 0).putF hx2 (mI A 7 h + nI s)
        have p2 := p1.putRc (c := 10) hi (by omega) (by omega) 0
        have p3 := p2.putS (j := 7) (by omega) (mL A 2 7 + (nI s).toInt64)
        rw [redeem_comm] at p3
        unfold redeemA
        rw [hs2]
        exact p3
    · rw [if_neg hy]
      exact ref m _ hS hF hR (fun q => absurd q (by omega)) (fun _ q => absurd hb q) (fun _ _ _ => ⟨rfl, on0, Or.inl ⟨hC0, hR0⟩⟩) (fun _ _ q => absurd q hy)
  · rw [if_neg (by decide)]
    exact ref m _ hS hF hR (fun q => absurd q (by omega)) (fun _ _ => ⟨rfl, on0, Or.inl ⟨hC0, hR0⟩⟩) (fun _ q => absurd q hb) (fun _ q => absurd q hb)
