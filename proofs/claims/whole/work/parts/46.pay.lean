/-! ===== pay ===== -/
def payB (A : Mm) (i k h b : Nat) : Mm := sL (sL A 0 h (mL A 0 h - mL A 3 (2 * i + k))) 0 (12 + b) (mL A 0 (12 + b) + mL A 3 (2 * i + k))
def payA (A : Mm) (i k h b : Nat) : Mm := endsA (payB A i k h b) i k
theorem payB_3 {A : Mm} {i k h b j : Nat} : mL (payB A i k h b) 3 j = mL A 3 j := by
  unfold payB
  rw [mL_sL, up2_oth (by omega), mL_sL, up2_oth (by omega)]
theorem payB_I {A : Mm} {i k h b : Nat} : mI (payB A i k h b) = mI A := rfl
theorem LC.one {g : Gc} {pa : Nat → Nat} {y r i k q : Nat} {A m : Mm} (h : LC g pa y r A m) (hi : i < r) (hk : k < 2) (hq : mR m (pa i) (3 + k) = some q) : mK m q = 6 ∧ gz g + 184 ≤ q ∧ q < gz g + mC m ∧ mI m q 0 = mI A 12 (2 * i + k) ∧ mI m q 1 = mI A 13 (2 * i + k) ∧ mL m q 2 = mL A 3 (2 * i + k) ∧ ¬ mI A 12 (2 * i + k) = -1 ∧ ∃ b : Nat, b < 3 ∧ mI A 12 (2 * i + k) = nI b := by
  rcases h.2.2.2 i hi k hk with ⟨e, -⟩ | ⟨q2, b2, e2, k2, l2, u2, c2, d2, f2, g2, h2⟩
  · rw [hq] at e; exact absurd e (by simp)
  · rw [hq] at e2
    have x2 : q = q2 := by simpa using e2
    subst x2
    exact ⟨k2, l2, u2, f2, g2, h2, by rw [d2]; exact nI_ne_m1 (by omega), b2, c2, d2⟩
theorem c_payBack (g : Gc) {lv n y r i k q h b : Nat} {A m : Mm} {pa : Nat → Nat} (hS : Sg g m) (hF : Fr g m) (hC : LC g pa y r A m) (hX : LnX r A) (hn : mI A 0 0 = nI n) (h12 : n ≤ 12) (hi : i < r) (hk : k < 2) (hq : mR m (pa i) (3 + k) = some q) (hh : mI A 9 i = nI h) (hhn : h < n) (hb : mI A 12 (2 * i + k) = nI b) (hb3 : b < 3) {Q : Mm → Prop} (hQ : ∀ m', LC g pa y r (payA A i k h b) m' → Fs g (PC g 2 pa r) 0 m m' → Fr g m' → Sg g m' → mL m' q 2 = mL A 3 (2 * i + k) → (k = 0 → mR m' (pa i) 3 = mR m (pa i) 4) → Q m') : CV g M_Land_payBack (lv + 3) [va_rf (some (gz g + 2)), va_rf (some (pa i)), va_rf (some q)] m Q := by
  obtain ⟨k6, q184, qu, q0, q1, q2, -, -⟩ := hC.one hi hk hq
  have neg : ∀ a b : Int64, a + -b = a - b := fun a b => (Int64.sub_eq_add_neg a b).symm
  refine en_Land_payBack g ⟨pa i, rfl, (hC.2.2.1.1 i hi).2.1, q, rfl, k6, hS.k 2 rfl, ?_⟩
  rw [(hC.rc hi).1, hh, q2]
  refine c_credit g hS (Or.inl rfl) hC.1 hn h12 (by omega) (Or.inl hhn) _ (fun m1 c1 s1 => ?_)
  rw [neg] at c1
  have C1 : LC g pa y r (sL A 0 h (mL A 0 h - mL A 3 (2 * i + k))) m1 := hC.st s1 c1 rfl rfl (by funext j; rw [mL_sL, up2_oth (by omega)])
  have S1 := s1.sg hS
  have F1 := s1.fr hF
  have a0 : mI m1 q 0 = nI b := by
    have hz : mR m1 (pa i) (3 + k) = some q := by rw [s1.1.1]; exact hq
    obtain ⟨-, -, -, z0, -⟩ := C1.one hi hk hz
    rw [z0, mI_sL]; exact hb
  have a2 : mL m1 q 2 = mL A 3 (2 * i + k) := by
    have hz : mR m1 (pa i) (3 + k) = some q := by rw [s1.1.1]; exact hq
    obtain ⟨-, -, -, -, -, z0, -⟩ := C1.one hi hk hz
    rw [z0, mL_sL, up2_oth (by omega)]
  obtain ⟨b4, b5⟩ := (sh_tb (t := 2) (Or.inl rfl)).2 b hb3
  rw [a0, a2, nI_clamp (by omega)]
  refine ⟨gz g + 4, S1.r 2 2 rfl, S1.k 4 rfl, by rw [S1.n 4 rfl]; exact vp_in_nI (N := 3) (by omega) (by omega), gz g + (2 + 60 + b), S1.r 4 b b4, S1.k (2 + 60 + b) b5 (by omega), fun m2 e2 => ?_⟩
  rw [C1.1.bmo hb3, mL_sL, up2_sl (by omega)] at e2
  have s2 : St (PC g 2 pa r) m1 m2 := by rw [e2]; exact St_sL m1 (Or.inl ⟨by omega, by omega, by omega⟩) _
  have C2 : LC g pa y r (payB A i k h b) m2 := by
    refine C1.st s2 ?_ rfl rfl (by funext j; unfold payB; rw [mL_sL, up2_oth (by omega)])
    rw [e2]
    unfold payB
    refine C1.1.putJ (by omega) (c := 0) (i := 12 + b) (Or.inr (by omega)) ?_ _
    simp only [cJ]
    rw [if_neg (by omega)]
    exact Prod.ext (by simp only; omega) rfl
  have hz2 : mR m2 (pa i) (3 + k) = some q := by rw [s2.1.1, s1.1.1]; exact hq
  have q2L : mL m2 q 2 = mL A 3 (2 * i + k) := by
    obtain ⟨-, -, -, -, -, z0, -⟩ := C2.one hi hk hz2
    rw [z0, payB_3]
  refine c_drop g C2 (fun j hj => by rw [payB_I]; exact hX j hj) hi hk hz2 (fun m3 c3 f3 eI eL F3 r3 => ?_)
  exact hQ m3 c3 ((s1.trans s2).fs.trans f3 (fun _ _ _ z => z)) (F3 (s2.fr F1)) ((s2.sg S1).ext f3.1) (by rw [eL]; exact q2L) (fun h => by rw [r3 h, s2.1.1, s1.1.1])
/-- of the reference: a loan ends -/
theorem c_endsR (g : Gc) {lv y r i k : Nat} {A m : Mm} (hS : Sg g m) (hR : LR g y r A m) (h4 : r ≤ 400) (hi : i < r) (hk : k < 2) {Q : Mm → Prop} (hQ : ∀ m', LR g y r (endsA A i k) m' → St (PW g [179, 180, 181]) m m' → Q m') : CV g M_RF_ends (lv + 1) [va_rf (some (gz g + 145)), .int (nI i), .int (nI (k + 1))] m Q := by
  have u0 : ∀ mm : Mm, Sg g mm → vp_in (nI (2 * i)) (mN mm (gz g + 179)) ∧ vp_in (nI (2 * i)) (mN mm (gz g + 180)) ∧ vp_in (nI (2 * i)) (mN mm (gz g + 181)) := fun mm s => ⟨by rw [s.n 179 rfl]; exact vp_in_nI (N := 800) (by omega) (by omega), by rw [s.n 180 rfl]; exact vp_in_nI (N := 800) (by omega) (by omega), by rw [s.n 181 rfl]; exact vp_in_nI (N := 800) (by omega) (by omega)⟩
  have u1 : ∀ mm : Mm, Sg g mm → vp_in (nI (2 * i + 1)) (mN mm (gz g + 179)) ∧ vp_in (nI (2 * i + 1)) (mN mm (gz g + 180)) ∧ vp_in (nI (2 * i + 1)) (mN mm (gz g + 181)) := fun mm s => ⟨by rw [s.n 179 rfl]; exact vp_in_nI (N := 800) (by omega) (by omega), by rw [s.n 180 rfl]; exact vp_in_nI (N := 800) (by omega) (by omega), by rw [s.n 181 rfl]; exact vp_in_nI (N := 800) (by omega) (by omega)⟩
  have keep : ∀ m' : Mm, (∀ a, a ≠ gz g + 179 → a ≠ gz g + 180 → a ≠ gz g + 181 → mI m' a = mI m a ∧ mL m' a = mL m a) → LandR g 0 12 y r (endsA A i k) m' := fun m' hm => by
    refine LandR.congr (A := A) (hR.1.same (fun d hd => hm _ (by unfold rCell at hd; omega) (by unfold rCell at hd; omega) (by unfold rCell at hd; omega)) (by rw [(hm _ (by omega) (by omega) (by omega)).1]) (by rw [(hm _ (by omega) (by omega) (by omega)).1])) (fun c j hv => endsA_I ⟨(vI_12 hv).1, (vI_12 hv).2.1⟩) (fun c j hv => endsA_L (vJ_3 hv))
  have w179 : ∀ j, PW g [179, 180, 181] (gz g + 179) j := fun _ => ⟨179, by decide, rfl⟩
  have w180 : ∀ j, PW g [179, 180, 181] (gz g + 180) j := fun _ => ⟨180, by decide, rfl⟩
  have w181 : ∀ j, PW g [179, 180, 181] (gz g + 181) j := fun _ => ⟨181, by decide, rfl⟩
  refine en_RF_ends g ?_
  rw [ix2s, ix2, nI_clamp (show 2 * i < 2 ^ 31 by omega), nI_clamp (show 2 * i + 1 < 2 ^ 31 by omega)]
  rcases (show k = 0 ∨ k = 1 by omega) with rfl | rfl
  · rw [if_pos (show nI (0 + 1) = 1 from rfl)]
    refine ⟨hS.k 145 rfl, gz g + 179, hS.r 145 44 rfl, hS.k 179 rfl, (u1 m hS).1, (u0 m hS).1, fun m1 e1 => ?_⟩
    have S1 : Sg g m1 := by rw [e1]; exact hS
    refine ⟨gz g + 181, S1.r 145 46 rfl, S1.k 181 rfl, (u1 m1 S1).2.2, (u0 m1 S1).2.2, fun m2 e2 => ?_⟩
    have S2 : Sg g m2 := by rw [e2]; exact S1
    refine ⟨gz g + 180, S2.r 145 45 rfl, S2.k 180 rfl, (u1 m2 S2).2.1, (u0 m2 S2).2.1, fun m3 e3 => ?_⟩
    have S3 : Sg g m3 := by rw [e3]; exact S2
    refine ⟨(u1 m3 S3).1, fun m4 e4 => ?_⟩
    subst e1
    rw [mL_sI] at e2
    subst e2
    rw [mI_sL, mI_sI, up2_oth (by omega)] at e3
    subst e3
    refine hQ m4 ⟨keep m4 (fun a h1 h2 h3 => ?_), fun j hj => ?_⟩ ?_
    · rw [e4, mI_sI, up2_ne h1, mI_sI, up2_ne h2, mI_sL, mI_sI, up2_ne h1, mL_sI, mL_sI, mL_sL, up2_ne h3, mL_sI]
      exact ⟨rfl, rfl⟩
    · rw [endsA_12 (by omega), (endsA_13 (by omega)).1, (endsA_13 (by omega)).2, e4]
      obtain ⟨z1, z2⟩ := hR.2 j hj
      obtain ⟨z3, z4⟩ := hR.2 (2 * i + 1) (by omega)
      refine ⟨?_, ?_⟩
      · rw [mI_sI]
        by_cases q1 : j = 2 * i + 1
        · subst q1; rw [up2_at, if_pos rfl]
        · rw [up2_sl q1, if_neg q1, mI_sI, up2_oth (by omega), mI_sL, mI_sI]
          by_cases q2 : j = 2 * i
          · subst q2; rw [up2_at, if_pos ⟨rfl, rfl⟩]; exact z3
          · rw [up2_sl q2, if_neg (fun q => q2 q.1)]; exact z1
      · intro hb
        by_cases q1 : j = 2 * i + 1
        · rw [if_pos q1] at hb; exact absurd rfl hb
        · rw [if_neg q1] at hb
          rw [mI_sI, up2_oth (by omega), mI_sI, mL_sI, mL_sI, mL_sL]
          by_cases q2 : j = 2 * i
          · subst q2
            rw [if_pos ⟨rfl, rfl⟩] at hb
            rw [up2_at, up2_at, if_pos ⟨rfl, rfl⟩, if_pos ⟨rfl, rfl⟩]
            exact z4 hb
          · rw [if_neg (fun q => q2 q.1)] at hb
            rw [up2_sl q2, up2_sl q2, if_neg (fun q => q2 q.1), if_neg (fun q => q2 q.1), mI_sL, mI_sI, up2_oth (by omega), mL_sI]
            exact z2 hb
    · rw [e4]
      exact ((St_sI m (w179 _) _).trans (St_sL _ (w181 _) _)).trans ((St_sI _ (w180 _) _).trans (St_sI _ (w179 _) _))
  · rw [if_neg (by decide)]
    refine ⟨hS.k 145 rfl, gz g + 179, hS.r 145 44 rfl, hS.k 179 rfl, (u1 m hS).1, fun m1 e1 => ?_⟩
    refine hQ m1 ⟨keep m1 (fun a h1 h2 h3 => ?_), fun j hj => ?_⟩ ?_
    · rw [e1, mI_sI, up2_ne h1]; exact ⟨rfl, rfl⟩
    · have hno : ¬ (j = 2 * i ∧ 1 = 0) := by omega
      rw [endsA_12 (by omega), (endsA_13 (by omega)).1, (endsA_13 (by omega)).2, if_neg hno, if_neg hno, if_neg hno, e1]
      obtain ⟨z1, z2⟩ := hR.2 j hj
      refine ⟨?_, fun hb => ?_⟩
      · rw [mI_sI]
        by_cases q1 : j = 2 * i + 1
        · subst q1; rw [up2_at, if_pos rfl]
        · rw [up2_sl q1, if_neg q1]; exact z1
      · by_cases q1 : j = 2 * i + 1
        · rw [if_pos q1] at hb; exact absurd rfl hb
        · rw [if_neg q1] at hb
          rw [mI_sI, up2_oth (by omega), mL_sI]
          exact z2 hb
    · rw [e1]; exact St_sI m (w179 _) _
theorem LR.mo {g : Gc} {y r j : Nat} {A m : Mm} (h : LR g y r A m) (hj : j < 15) : mL m (gz g + 174) j = mL A 0 j := by
  have := h.1.2 0 j (by show j < 12 ∨ (12 ≤ j ∧ j < 15); omega)
  rw [show rJ (gz g + 145) 0 0 j = (gz g + 174, j) from Prod.ext rfl (by show 15 * 0 + j = j; omega)] at this
  exact this
theorem LR.putM {g : Gc} {y r j : Nat} {A m : Mm} (h : LR g y r A m) (hj : j < 15) (v : Int64) : LR g y r (sL A 0 j v) (sL m (gz g + 174) j v) := by
  refine ⟨h.1.putJ (by omega) (c := 0) (i := j) (a := gz g + 174) (j := j) (by show j < 12 ∨ (12 ≤ j ∧ j < 15); omega) (Prod.ext rfl (by show 15 * 0 + j = j; omega)) v, fun k hk => ?_⟩
  rw [mL_sL, mL_sL, up2_oth (by omega), up2_oth (by omega)]
  exact h.2 k hk
def WPy : List Nat := [174, 179, 180, 181]
theorem c_paysR (g : Gc) {lv n y r i k h b : Nat} {A m : Mm} (hS : Sg g m) (hR : LR g y r A m) (h12 : n ≤ 12) (h4 : r ≤ 400) (hi : i < r) (hk : k < 2) (hh : mI A 9 i = nI h) (hhn : h < n) (hb : mI A 12 (2 * i + k) = nI b) (hb3 : b < 3) {Q : Int32 → Mm → Prop} (h0 : ¬ mL A 3 (2 * i + k) ≤ mL A 0 h → Q 0 m) (h1 : mL A 3 (2 * i + k) ≤ mL A 0 h → ∀ m', LR g y r (payA A i k h b) m' → St (PW g WPy) m m' → Q 1 m') : CI g M_RF_pays (lv + 2) [va_rf (some (gz g + 145)), .int (nI i), .int (nI (k + 1))] m Q := by
  have nb : ¬ mI A 12 (2 * i + k) = -1 := by rw [hb]; exact nI_ne_m1 (by omega)
  have uh : ∀ mm : Mm, Sg g mm → vp_in (nI h) (mN mm (gz g + 174)) ∧ vp_in (nI (12 + b)) (mN mm (gz g + 174)) ∧ vp_in (nI (2 * i + k)) (mN mm (gz g + 181)) ∧ vp_in (nI (2 * i + k)) (mN mm (gz g + 179)) ∧ vp_in (nI i) (mN mm (gz g + 175)) := fun mm s => ⟨by rw [s.n 174 rfl]; exact vp_in_nI (N := 30) (by omega) (by omega), by rw [s.n 174 rfl]; exact vp_in_nI (N := 30) (by omega) (by omega), by rw [s.n 181 rfl]; exact vp_in_nI (N := 800) (by omega) (by omega), by rw [s.n 179 rfl]; exact vp_in_nI (N := 800) (by omega) (by omega), by rw [s.n 175 rfl]; exact vp_in_nI (N := 800) (by omega) (by omega)⟩
  obtain ⟨v1, v2, v3, v4, v5⟩ := uh m hS
  have lo := (hR.2 (2 * i + k) (by omega)).2 nb
  refine en_RF_pays g ⟨hS.k 145 rfl, gz g + 174, hS.r 145 39 rfl, gz g + 175, hS.r 145 40 rfl, hS.k 175 rfl, v5, hS.k 174 rfl, ?_⟩
  rw [ixr, nI_clamp (show i < 2 ^ 31 by omega), nI_clamp (show 2 * i + k < 2 ^ 31 by omega), (hR.rc hi).1, hh, nI_clamp (show h < 2 ^ 31 by omega)]
  refine ⟨v1, gz g + 181, hS.r 145 46 rfl, hS.k 181 rfl, v3, ?_⟩
  rw [lo.2, hR.mo (by omega)]
  by_cases hc : mL A 3 (2 * i + k) ≤ mL A 0 h
  · rw [if_pos hc]
    refine ⟨v5, v1, v3, v1, fun m1 e1 => ?_⟩
    have R1 : LR g y r (sL A 0 h (mL A 0 h - mL A 3 (2 * i + k))) m1 := by rw [e1]; exact hR.putM (by omega) _
    have S1 : Sg g m1 := by rw [e1]; exact hS
    have s1 : St (PW g WPy) m m1 := by rw [e1]; exact St_sL m ⟨174, by decide, rfl⟩ _
    clear e1
    obtain ⟨x1, x2, x3, x4, x5⟩ := uh m1 S1
    have lo1 := (R1.2 (2 * i + k) (by omega)).2 nb
    have b1 : mI m1 (gz g + 179) (2 * i + k) = nI b := ((R1.2 (2 * i + k) (by omega)).1).trans hb
    have e12 : (12 : Int32) + nI b = nI (12 + b) := by rw [show (12 : Int32) = nI 12 from rfl, nI_add]
    refine ⟨gz g + 179, S1.r 145 44 rfl, S1.k 179 rfl, x4, ?_⟩
    rw [b1, e12, nI_clamp (show 12 + b < 2 ^ 31 by omega)]
    refine ⟨x2, x3, x2, fun m2 e2 => ?_⟩
    rw [R1.mo (by omega), lo1.2, mL_sL, up2_sl (by omega), up2_oth (by omega)] at e2
    have R2 : LR g y r (payB A i k h b) m2 := by rw [e2]; exact R1.putM (by omega) _
    have S2 : Sg g m2 := by rw [e2]; exact S1
    have s2 : St (PW g WPy) m1 m2 := by rw [e2]; exact St_sL m1 ⟨174, by decide, rfl⟩ _
    clear e2
    refine c_endsR g S2 R2 h4 hi hk (fun m3 R3 s3 => ?_)
    exact h1 hc m3 R3 ((s1.trans s2).trans (s3.weak (fun a j q => by
      obtain ⟨w, hw, e⟩ := q
      exact ⟨w, (by decide : ∀ w, w ∈ [179, 180, 181] → w ∈ WPy) w hw, e⟩)))
  · rw [if_neg hc]; exact h0 hc
def PPy (g : Gc) (pa : Nat → Nat) (r : Nat) (W : List Nat) (a j : Nat) : Prop := PC g 2 pa r a j ∨ PW g W a j ∨ (a = gz g + 145 ∧ j = 0)
theorem sim_pay (g : Gc) {lv n y r : Nat} {A m : Mm} {pa : Nat → Nat} (hS : Sg g m) (hF : Fr g m) (hC : LC g pa y r A m) (hR : LR g y r A m) (hn : mI A 0 0 = nI n) (h12 : n ≤ 12) (hr : mI A 0 3 = nI r) (h4 : r ≤ 400) (hX : LnX r A) (hh : ∀ i, i < r → ¬ mI A 12 (2 * i) = -1 → ∃ h : Nat, h < n ∧ mI A 9 i = nI h) (x z : Int32) : SimJ g M_SL_pay M_RF_pay (lv + 4) [.int x, .int z] m (fun m2 => Fs g (PPy g pa r WPy) 0 m m2 ∧ Fr g m2 ∧ ((LC g pa y r A m2 ∧ LR g y r A m2) ∨ ∃ i k h b : Nat, i < r ∧ k < 2 ∧ h < n ∧ b < 3 ∧ mI A 9 i = nI h ∧ mI A 12 (2 * i + k) = nI b ∧ LC g pa y r (payA A i k h b) m2 ∧ LR g y r (payA A i k h b) m2)) := by
  have t0 : ∀ m1 : Mm, Fs g (PPy g pa r WPy) 0 m1 (sI m1 (gz g + 145) 0 0) := fun m1 => Fs_sI m1 (Or.inr (Or.inr ⟨rfl, rfl⟩)) 0
  have hR0 : LR g y r A (sI m (gz g + 145) 0 0) := hR.t0 hF (by omega) 0
  have hC0 : LC g pa y r A (sI m (gz g + 145) 0 0) := hC.t0 hF 0 0
  have hS0 : Sg g (sI m (gz g + 145) 0 0) := hS
  have F0 : Fr g (sI m (gz g + 145) 0 0) := hF
  unfold SimJ
  refine en_SL_pay g ⟨hS.k 0 rfl, gz g + 2, hS.r 0 1 rfl, hS.k 2 rfl, gz g + 5, hS.r 2 3 rfl, hS.k 5 rfl, c_find g hS hC hr h4 (fun hw => ?_) (fun i hi e => ?_)⟩
  · rw [if_pos rfl]
    refine bk_SL_pay_25 g ?_
    rw [if_pos rfl]
    refine en_RF_pay g ⟨hS.k 145 rfl, fun m2 e2 => ?_⟩
    subst e2
    refine c_isLoanR g hS0 hR0 hr h4 (fun _ => ?_) (fun _ => ?_) (fun i k hi e _ _ => absurd (by rw [e] at hw; exact hw) (by rw [wi_in hi (by omega)]; decide))
    · rw [if_pos rfl]; exact ⟨rfl, t0 m, F0, Or.inl ⟨hC0, hR0⟩⟩
    · rw [if_pos rfl]; exact ⟨rfl, t0 m, F0, Or.inl ⟨hC0, hR0⟩⟩
  subst e
  rw [if_neg (by simp)]
  refine ⟨pa i, rfl, (hC.2.2.1.1 i hi).2.1, c_loanOf g hC hi (fun hz => ?_) (fun k hk e => ?_)⟩
  · refine bk_SL_pay_25 g ?_
    rw [if_pos rfl]
    refine en_RF_pay g ⟨hS.k 145 rfl, fun m2 e2 => ?_⟩
    subst e2
    refine c_isLoanR g hS0 hR0 hr h4 (fun hw => ?_) (fun _ => ?_) (fun i' k _ _ hk e => ?_)
    · rw [if_pos rfl]; exact ⟨rfl, t0 m, F0, Or.inl ⟨hC0, hR0⟩⟩
    · rw [if_pos rfl]; exact ⟨rfl, t0 m, F0, Or.inl ⟨hC0, hR0⟩⟩
    · refine absurd hz ?_
      rcases (show k = 0 ∨ k = 1 by omega) with rfl | rfl
      · rw [e]; decide
      · rw [e]; decide
  subst e
  have isl : ∀ (m1 : Mm) (Q : Int32 → Mm → Prop), Sg g m1 → LR g y r A m1 → (mI A 12 (2 * i + k) = -1 → Q 0 m1) → (¬ mI A 12 (2 * i + k) = -1 → Q 1 m1) → CI g M_RF_isLoan (lv + 3) [va_rf (some (gz g + 145)), .int (nI i), .int (nI (k + 1))] m1 Q := fun m1 Q s1 r1 a b => by
    refine c_isLoanR g s1 r1 hr h4 (fun hw => absurd hw (by rw [wi_in hi (by omega)]; decide)) (fun hw => absurd hw ?_) (fun i' k' hi' ei hk' ek => ?_)
    · rcases (show k = 0 ∨ k = 1 by omega) with rfl | rfl <;> decide
    · have q1 := (nI_eq (by omega) (by omega)).1 ei
      have q2 := (nI_eq (by omega) (by omega)).1 ek
      obtain rfl : i = i' := q1
      obtain rfl : k = k' := by omega
      exact ⟨a, b⟩
  refine bk_SL_pay_25 g ?_
  rcases hC.2.2.2 i hi k hk with ⟨e, eb⟩ | ⟨q, b, e, k6, q184, qu, b3, hb, q0, q1, q2⟩
  · rw [if_pos e]
    refine en_RF_pay g ⟨hS.k 145 rfl, fun m2 e2 => ?_⟩
    subst e2
    refine isl _ _ hS0 hR0 (fun _ => ?_) (fun z => absurd eb z)
    rw [if_pos rfl]; exact ⟨rfl, t0 m, F0, Or.inl ⟨hC0, hR0⟩⟩
  have nb : ¬ mI A 12 (2 * i + k) = -1 := by rw [hb]; exact nI_ne_m1 (by omega)
  have nb0 : ¬ mI A 12 (2 * i) = -1 := by
    rcases (show k = 0 ∨ k = 1 by omega) with rfl | rfl
    · exact nb
    · exact (hX i hi nb).1
  obtain ⟨h, hhn, hh9⟩ := hh i hi nb0
  rw [if_neg (by rw [e]; simp)]
  refine ⟨hS.k 0 rfl, gz g + 2, hS.r 0 1 rfl, pa i, rfl, (hC.2.2.1.1 i hi).2.1, hS.k 2 rfl, ?_⟩
  rw [(hC.rc hi).1, hh9]
  refine c_moneyOf g hS (Or.inl rfl) hC.1 hn h12 (by omega) hhn ⟨q, e, k6, ?_⟩
  rw [q2]
  -- the reference up to its paying
  have ref : ∀ (m1 : Mm) (Q : Int64 → Mm → Prop), Sg g m1 → Fr g m1 → LR g y r A m1 → (¬ mL A 3 (2 * i + k) ≤ mL A 0 h → Q (-7) (sI m1 (gz g + 145) 0 0)) → (mL A 3 (2 * i + k) ≤ mL A 0 h → ∀ m', LR g y r (payA A i k h b) m' → St (PW g WPy) (sI m1 (gz g + 145) 0 0) m' → Q (mL A 3 (2 * i + k)) m') → CJ g M_RF_pay (lv + 4) [va_rf (some (gz g + 145)), .int (nI i), .int (nI (k + 1))] m1 Q := fun m1 Q s1 F1 r1 a c => by
    refine en_RF_pay g ⟨s1.k 145 rfl, fun m2 e2 => ?_⟩
    have r2 : LR g y r A m2 := by rw [e2]; exact r1.t0 F1 (by omega) 0
    have s2 : Sg g m2 := by rw [e2]; exact s1
    rw [← e2] at a c
    clear e2
    refine isl _ _ s2 r2 (fun z => absurd z nb) (fun _ => ?_)
    rw [if_neg (by decide), ixr, nI_clamp (by omega)]
    refine ⟨gz g + 181, s2.r 145 46 rfl, s2.k 181 rfl, by rw [s2.n 181 rfl]; exact vp_in_nI (N := 800) (by omega) (by omega), ?_⟩
    rw [((r2.2 (2 * i + k) (by omega)).2 nb).2]
    refine c_paysR g s2 r2 h12 h4 hi hk hh9 hhn hb b3 (fun hc => ?_) (fun hc m' R' S' => ?_)
    · rw [if_pos rfl]; exact a hc
    · rw [if_neg (by decide)]; exact c hc m' R' S'
  by_cases hc : mL A 3 (2 * i + k) ≤ mL A 0 h
  · rw [if_pos hc]
    refine c_payBack g hS hF hC hX hn h12 hi hk e hh9 hhn hb b3 (fun m1 c1 f1 F1 S1 w1 _ => ?_)
    rw [w1]
    have r1 : LR g y r A m1 := hR.keepS hF f1 (fun a j _ z => by
      rcases z with z | ⟨k', hk', rfl⟩
      · omega
      · exact Or.inr (hC.2.1.2 k' hk'))
    refine ref m1 _ S1 F1 r1 (fun z => absurd hc z) (fun _ m' R' S' => ⟨rfl, ?_, S'.fr (show Fr g (sI m1 (gz g + 145) 0 0) from F1), Or.inr ⟨i, k, h, b, hi, hk, hhn, b3, hh9, hb, ?_, R'⟩⟩)
    · exact ((f1.weak (P2 := PPy g pa r WPy) (fun a j _ z => Or.inl z) (Nat.le_refl _)).trans (t0 m1) (fun _ _ _ z => z)).trans S'.fs (fun a j _ z => Or.inr (Or.inl z))
    · exact (c1.t0 F1 0 0).keepS (m := sI m1 (gz g + 145) 0 0) F1 S'.fs (fun a j _ z => by
        obtain ⟨w, hw, rfl⟩ := z
        have : 145 ≤ w ∧ w < 184 := (by decide : ∀ w, w ∈ WPy → 145 ≤ w ∧ w < 184) w hw
        omega)
  · rw [if_neg hc]
    exact ref m _ hS hF hR (fun _ => ⟨rfl, t0 m, F0, Or.inl ⟨hC0, hR0⟩⟩) (fun z => absurd z hc)
