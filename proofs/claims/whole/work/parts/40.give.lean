/-! ===== owed, give, redeem ===== -/
theorem ixr (i k : Nat) : ((2 : Int32) * nI i + nI (k + 1)) - 1 = nI (2 * i + k) := by rw [ix2, nI_add, nI_m1 (by omega), show 2 * i + (k + 1) - 1 = 2 * i + k by omega]
theorem rank_of {z : Int32} : (wi z 1 2 = 0 ∧ ¬ z = 1 ∧ ¬ z = 2) ∨ (wi z 1 2 = 1 ∧ ∃ k, k < 2 ∧ z = nI (k + 1)) := by
  by_cases h : wi z 1 2 = 0
  · refine Or.inl ⟨h, fun e => ?_, fun e => ?_⟩
    · rw [e] at h; exact absurd h (by decide)
    · rw [e] at h; exact absurd h (by decide)
  · refine Or.inr ⟨(wi_01 z 1 2).resolve_left h, ?_⟩
    obtain ⟨j, h1, h2, e⟩ := wi_rng (a := 1) (c := 2) rfl rfl (by omega) (by omega) h
    exact ⟨j - 1, by omega, by rw [e, show j - 1 + 1 = j by omega]⟩
theorem c_isLoanR (g : Gc) {lv y r : Nat} {A m : Mm} {x z : Int32} (hS : Sg g m) (hR : LR g y r A m) (hr : mI A 0 3 = nI r) (h4 : r ≤ 400) {Q : Int32 → Mm → Prop} (h0 : wi x 0 (nI r - 1) = 0 → Q 0 m) (hz : wi z 1 2 = 0 → Q 0 m) (h1 : ∀ i k, i < r → x = nI i → k < 2 → z = nI (k + 1) → (mI A 12 (2 * i + k) = -1 → Q 0 m) ∧ (¬ mI A 12 (2 * i + k) = -1 → Q 1 m)) : CI g M_RF_isLoan (lv + 2) [va_rf (some (gz g + 145)), .int x, .int z] m Q := by
  have z0 : (0 : Int32).toNatClampNeg = 0 := rfl
  refine en_RF_isLoan g ⟨hS.k 145 rfl, gz g + 168, hS.r 145 33 rfl, hS.k 168 rfl, by rw [hS.n 168 rfl]; exact vp_in_nI (n := 0) (N := 2) (by omega) (by omega), c_in g ?_⟩
  rw [z0, hR.rn, hr, wj_i0]
  by_cases hw : wi x 0 (nI r - 1) = 0
  · rw [if_pos hw]; exact h0 hw
  rw [if_neg hw]
  obtain ⟨i, hi, rfl⟩ := gr_ofN (by omega) hw
  refine c_in g ?_
  rw [show wj z.toInt64 (1 : Int64) (2 : Int64) = wi z 1 2 from wj_wide z 1 2]
  rcases rank_of (z := z) with ⟨hw2, -⟩ | ⟨hw2, k, hk, rfl⟩
  · rw [if_pos hw2]; exact hz hw2
  rw [hw2, if_neg (by decide), ixr]
  refine ⟨gz g + 179, hS.r 145 44 rfl, hS.k 179 rfl, by rw [hS.n 179 rfl]; exact vp_in_nI (N := 800) (by omega) (by omega), ?_⟩
  rw [nI_clamp (by omega), (hR.2 (2 * i + k) (by omega)).1]
  obtain ⟨a, b⟩ := h1 i k hi rfl hk rfl
  by_cases hb : mI A 12 (2 * i + k) = -1
  · rw [if_pos hb]; exact a hb
  · rw [if_neg hb]; exact b hb
theorem c_loanOf (g : Gc) {lv y r i : Nat} {A m : Mm} {pa : Nat → Nat} {z : Int32} (hC : LC g pa y r A m) (hi : i < r) {Q : Option Nat → Mm → Prop} (hz : wi z 1 2 = 0 → Q none m) (h1 : ∀ k, k < 2 → z = nI (k + 1) → Q (mR m (pa i) (3 + k)) m) : CR g M_Receipt_loanOf (lv + 1) [va_rf (some (pa i)), .int z] m Q := by
  have hk := (hC.2.2.1.1 i hi).2.1
  refine en_Receipt_loanOf g ?_
  rcases rank_of (z := z) with ⟨hw2, n1, n2⟩ | ⟨hw2, k, hk2, e⟩
  · rw [if_neg n1, if_neg n2]; exact hz hw2
  rcases (show k = 0 ∨ k = 1 by omega) with rfl | rfl
  · rw [if_pos (show z = 1 from e)]; exact ⟨hk, h1 0 (by omega) e⟩
  · rw [if_neg (by rw [e]; decide), if_pos (show z = 2 from e)]; exact ⟨hk, h1 1 (by omega) e⟩
theorem sim_owed (g : Gc) {lv y r : Nat} {A m : Mm} {pa : Nat → Nat} (hS : Sg g m) (hF : Fr g m) (hC : LC g pa y r A m) (hR : LR g y r A m) (hr : mI A 0 3 = nI r) (h4 : r ≤ 400) (x z : Int32) : SimJ g M_SL_owed M_RF_owed (lv + 3) [.int x, .int z] m (fun m2 => Only g [] [0] m m2) := by
  have on0 : Only g [] [0] m (sI m (gz g + 145) 0 0) := Only_sM m (by decide) 0
  have hR0 : LR g y r A (sI m (gz g + 145) 0 0) := hR.t0 hF (by omega) 0
  have hS0 : Sg g (sI m (gz g + 145) 0 0) := hS
  unfold SimJ
  refine en_SL_owed g ⟨hS.k 0 rfl, gz g + 2, hS.r 0 1 rfl, hS.k 2 rfl, gz g + 5, hS.r 2 3 rfl, hS.k 5 rfl, c_find g hS hC hr h4 (fun hw => ?_) (fun i hi e => ?_)⟩
  · rw [if_pos rfl, if_pos rfl]
    refine en_RF_owed g ⟨hS.k 145 rfl, fun m2 e2 => ?_⟩
    subst e2
    refine c_isLoanR g hS0 hR0 hr h4 (fun _ => ?_) (fun _ => ?_) (fun i k hi e _ _ => absurd (by rw [e] at hw; exact hw) (by rw [wi_in hi (by omega)]; decide))
    · rw [if_pos rfl]; exact ⟨rfl, on0⟩
    · rw [if_pos rfl]; exact ⟨rfl, on0⟩
  rw [if_neg (by simp)]
  subst e
  refine ⟨pa i, rfl, (hC.2.2.1.1 i hi).2.1, c_loanOf g hC hi (fun hz => ?_) (fun k hk e => ?_)⟩
  · rw [if_pos rfl]
    refine en_RF_owed g ⟨hS.k 145 rfl, fun m2 e2 => ?_⟩
    subst e2
    refine c_isLoanR g hS0 hR0 hr h4 (fun hw => ?_) (fun _ => ?_) (fun i' k _ _ hk e => ?_)
    · rw [if_pos rfl]; exact ⟨rfl, on0⟩
    · rw [if_pos rfl]; exact ⟨rfl, on0⟩
    · refine absurd hz ?_
      rcases (show k = 0 ∨ k = 1 by omega) with rfl | rfl
      · rw [e]; decide
      · rw [e]; decide
  · subst e
    refine (hC.2.2.2 i hi k hk).owed (Q := fun v => CJ g M_RF_owed (lv + 3) (va_rf (some (gz g + 145)) :: [.int (nI i), .int (nI (k + 1))]) m (fun r2 m2 => v = r2 ∧ Only g [] [0] m m2)) ?_
    refine en_RF_owed g ⟨hS.k 145 rfl, fun m2 e2 => ?_⟩
    subst e2
    refine c_isLoanR g hS0 hR0 hr h4 (fun hw => absurd hw (by rw [wi_in hi (by omega)]; decide)) (fun hw => absurd hw ?_) (fun i' k' hi' ei hk' ek => ?_)
    · rcases (show k = 0 ∨ k = 1 by omega) with rfl | rfl <;> decide
    · have q1 := (nI_eq (by omega) (by omega)).1 ei
      have q2 := (nI_eq (by omega) (by omega)).1 ek
      obtain rfl : i = i' := q1
      obtain rfl : k = k' := by omega
      refine ⟨fun hb => ?_, fun hb => ?_⟩
      · rw [if_pos rfl, if_pos hb]; exact ⟨rfl, on0⟩
      · rw [if_neg (by decide), if_neg hb, ixr]
        refine ⟨gz g + 181, hS0.r 145 46 rfl, hS0.k 181 rfl, by rw [hS0.n 181 rfl]; exact vp_in_nI (N := 800) (by omega) (by omega), ?_⟩
        rw [nI_clamp (by omega), ((hR0.2 (2 * i + k) (by omega)).2 hb).2]
        exact ⟨rfl, on0⟩
/-- a number of a receipt is changed -/
theorem LC.putRc {g : Gc} {pa : Nat → Nat} {y r i c : Nat} {A m : Mm} (h : LC g pa y r A m) (hi : i < r) (h9 : 9 ≤ c) (h11 : c ≤ 11) (v : Int32) : LC g pa y r (sI A c i v) (sI m (pa i) (c - 9) v) := by
  obtain ⟨hc, hp, hpap, hl⟩ := h
  refine ⟨?_, hp, hpap, fun k hk e he => ?_⟩
  · rcases (show c = 9 ∨ c = 10 ∨ c = 11 by omega) with rfl | rfl | rfl
    · exact hc.putI (by omega) (by omega) hp (c := 9) (i := i) (a := pa i) (j := 0) hi rfl v
    · exact hc.putI (by omega) (by omega) hp (c := 10) (i := i) (a := pa i) (j := 1) hi rfl v
    · exact hc.putI (by omega) (by omega) hp (c := 11) (i := i) (a := pa i) (j := 2) hi rfl v
  · have := hl k hk e he
    rw [mI_sI, up2_oth (by omega), up2_oth (by omega), mR_sI, mL_sI]
    refine this.same (Nat.le_refl _) (fun q hq _ _ => ⟨hq, up2_ne (fun e => ?_), rfl⟩)
    rw [e, (hpap.1 i hi).2.1] at hq
    exact absurd hq (by decide)
theorem LR.putRc {g : Gc} {y r i c : Nat} {A m : Mm} (h : LR g y r A m) (hi : i < r) (h9 : 9 ≤ c) (h11 : c ≤ 11) (v : Int32) : LR g y r (sI A c i v) (sI m (gz g + (166 + c)) i v) := by
  have e : 400 * 0 + i = i := by omega
  refine ⟨?_, fun k hk => ?_⟩
  · rcases (show c = 9 ∨ c = 10 ∨ c = 11 by omega) with rfl | rfl | rfl
    · exact h.1.putI (c := 9) (i := i) (a := gz g + 175) (j := i) ⟨hi, by omega, by omega⟩ (Prod.ext rfl e) v
    · exact h.1.putI (c := 10) (i := i) (a := gz g + 176) (j := i) ⟨hi, by omega, by omega⟩ (Prod.ext rfl e) v
    · exact h.1.putI (c := 11) (i := i) (a := gz g + 177) (j := i) ⟨hi, by omega, by omega⟩ (Prod.ext rfl e) v
  · rw [mI_sI, mI_sI, up2_oth (by omega), up2_oth (by omega), up2_oth (by omega), up2_oth (by omega)]
    exact h.2 k hk
theorem sk_0 {s : Nat} (h : s < 2 ^ 31) : (nI s ≤ 0 ↔ s = 0) ∧ (nI s = 0 ↔ s = 0) := by
  refine ⟨?_, ?_⟩
  · rw [show (0 : Int32) = nI 0 from rfl, nI_leI h (by omega)]; omega
  · rw [show (0 : Int32) = nI 0 from rfl, nI_eq h (by omega)]
/-- which cells a receipt's change may touch -/
def PRc (g : Gc) (pa : Nat → Nat) (r : Nat) (W : List Nat) (a : Nat) : Prop := (∃ w, w ∈ W ∧ a = gz g + w) ∨ ∃ k, k < r ∧ a = pa k
def WGi : List Nat := [175]
theorem sim_give (g : Gc) {lv n y r : Nat} {A m : Mm} {pa : Nat → Nat} (hS : Sg g m) (hF : Fr g m) (hC : LC g pa y r A m) (hR : LR g y r A m) (hn : mI A 0 0 = nI n) (h12 : n ≤ 12) (hr : mI A 0 3 = nI r) (h4 : r ≤ 400) (hs : ∀ i, i < r → ∃ s : Nat, s < 2 ^ 31 ∧ mI A 10 i = nI s) (x z : Int32) : SimI g M_SL_give M_RF_give (lv + 3) [.int x, .int z] m (fun m2 => (Fm g (PRc g pa r WGi) [0] 0 m m2 ∧ Fr g m2) ∧ ((LC g pa y r A m2 ∧ LR g y r A m2) ∨ ∃ i j, i < r ∧ j < n ∧ mI A 12 (2 * i) = -1 ∧ LC g pa y r (sI A 9 i (nI j)) m2 ∧ LR g y r (sI A 9 i (nI j)) m2)) := by
  have on0 : Fm g (PRc g pa r WGi) [0] 0 m (sI m (gz g + 145) 0 0) ∧ Fr g (sI m (gz g + 145) 0 0) := ⟨Fm_sM m (by decide) 0, hF⟩
  have hR0 : LR g y r A (sI m (gz g + 145) 0 0) := hR.t0 hF (by omega) 0
  have hC0 : LC g pa y r A (sI m (gz g + 145) 0 0) := hC.t0 hF 0 0
  have hS0 : Sg g (sI m (gz g + 145) 0 0) := hS
  unfold SimI
  refine en_SL_give g ⟨hS.k 0 rfl, gz g + 2, hS.r 0 1 rfl, hS.k 2 rfl, gz g + 5, hS.r 2 3 rfl, hS.k 5 rfl, c_find g hS hC hr h4 (fun hw => ?_) (fun i hi e => ?_)⟩
  · rw [if_pos rfl]
    refine en_RF_give g ⟨hS.k 145 rfl, fun m2 e2 => ?_⟩
    subst e2
    refine c_isFullR g hS0 hR0 hr h4 (fun _ => ?_) (fun i hi e => absurd (by rw [e] at hw; exact hw) (by rw [wi_in hi (by omega)]; decide)) (fun i hi e => absurd (by rw [e] at hw; exact hw) (by rw [wi_in hi (by omega)]; decide))
    rw [if_pos rfl]; exact ⟨rfl, on0, Or.inl ⟨hC0, hR0⟩⟩
  subst e
  have nw : ¬ wi (nI i) 0 (nI r - 1) = 0 := by rw [wi_in hi (by omega)]; decide
  have same : ∀ {i' : Nat}, i' < r → nI i = nI i' → i = i' := fun h e => (nI_eq (by omega) (by omega)).1 e
  obtain ⟨s, hs1, hs2⟩ := hs i hi
  rw [if_neg (by simp)]
  refine ⟨pa i, rfl, (hC.2.2.1.1 i hi).2.1, ?_⟩
  rw [(hC.rc hi).2.1, hs2]
  by_cases h1 : s = 0
  · rw [if_pos ((sk_0 hs1).2.2 h1)]
    refine en_RF_give g ⟨hS.k 145 rfl, fun m2 e2 => ?_⟩
    subst e2
    refine c_isFullR g hS0 hR0 hr h4 (fun hw => absurd hw nw) (fun i' hi' e _ => ?_) (fun i' hi' e q => ?_)
    · rw [if_pos rfl]; exact ⟨rfl, on0, Or.inl ⟨hC0, hR0⟩⟩
    · obtain rfl := same hi' e
      exact absurd ((sk_0 hs1).1.2 h1) (by rw [← hs2]; exact q)
  rw [if_neg (fun q => h1 ((sk_0 hs1).2.1 q))]
  have full : ∀ (m1 : Mm) (Q : Int32 → Mm → Prop), Sg g m1 → LR g y r A m1 → Q 1 m1 → CI g M_RF_isFull (lv + 2) [va_rf (some (gz g + 145)), .int (nI i)] m1 Q := fun m1 Q a b c =>
    c_isFullR g a b hr h4 (fun hw => absurd hw nw) (fun i' hi' e q => by obtain rfl := same hi' e; exact absurd ((sk_0 hs1).1.1 (by rw [← hs2]; exact q)) h1) (fun i' hi' e q => c)
  refine c_hasGrower g (hS.k 2 rfl) (hC.n.trans hn) h12 ?_
  by_cases h2 : wi z 0 (nI n - 1) = 0
  · rw [if_pos h2]
    refine en_RF_give g ⟨hS.k 145 rfl, fun m2 e2 => ?_⟩
    subst e2
    refine full _ _ hS0 hR0 ?_
    rw [if_neg (by decide)]
    refine c_isGrower g (hS0.k 145 rfl) (hR0.n.trans hn) ?_
    rw [if_pos h2]; exact ⟨rfl, on0, Or.inl ⟨hC0, hR0⟩⟩
  rw [if_neg h2]
  refine c_isPledged g hC hi (fun hb => ?_) (fun hb => ?_)
  · rw [if_pos rfl]
    intro m1 e1
    obtain ⟨j, hj, rfl⟩ := gr_of h12 h2
    have c1 : LC g pa y r (sI A 9 i (nI j)) m1 := by rw [e1]; exact hC.putRc (c := 9) hi (by omega) (by omega) (nI j)
    have r1 : LR g y r A m1 := by rw [e1]; exact hR.clI hF (Or.inr (hC.2.1.2 i hi)) 0 (nI j)
    have f1 : Fm g (PRc g pa r WGi) [0] 0 m m1 := by rw [e1]; exact Fm_sI m (Or.inr ⟨i, hi, rfl⟩) (by have := hC.2.1.2 i hi; omega) 0 (nI j)
    have s1 : Sg g m1 := by rw [e1]; exact hS
    have F1 : Fr g m1 := by rw [e1]; exact hF
    clear e1
    refine en_RF_give g ⟨s1.k 145 rfl, fun m2 e2 => ?_⟩
    have s2 : Sg g m2 := by rw [e2]; exact s1
    have F2 : Fr g m2 := by rw [e2]; exact F1
    have r2 : LR g y r A m2 := by rw [e2]; exact r1.t0 F1 (by omega) 0
    have c2 : LC g pa y r (sI A 9 i (nI j)) m2 := by rw [e2]; exact c1.t0 F1 0 0
    have f2 : Fm g (PRc g pa r WGi) [0] (0 + 0) m m2 := by rw [e2]; exact f1.trans (Fm_sM (P := PRc g pa r WGi) m1 (by decide) 0) (fun a _ q => q)
    clear e2
    refine full _ _ s2 r2 ?_
    rw [if_neg (by decide)]
    refine c_isGrower g (s2.k 145 rfl) (r2.n.trans hn) ?_
    rw [if_neg h2]
    refine c_isPledgedR g s2 r2 h4 hi (fun _ => ?_) (fun q => absurd hb q)
    rw [if_pos rfl]
    refine ⟨gz g + 175, s2.r 145 40 rfl, s2.k 175 rfl, by rw [s2.n 175 rfl]; exact vp_in_nI (N := 800) (by omega) (by omega), fun m3 e3 => ?_⟩
    rw [nI_clamp (by omega)] at e3
    refine ⟨rfl, ⟨?_, by rw [e3]; exact F2⟩, Or.inr ⟨i, j, hi, hj, hb, ?_, ?_⟩⟩
    · rw [e3]
      exact f2.trans (Fm_sI (P := PRc g pa r WGi) m2 (a := gz g + 175) (Or.inl ⟨175, by decide, rfl⟩) (by omega) i (nI j)) (fun a _ q => q)
    · rw [e3]; exact c2.rfI F2 (by omega) (by omega) i (nI j)
    · rw [e3]; exact r2.putRc (c := 9) hi (by omega) (by omega) (nI j)
  · rw [if_neg (by decide)]
    refine en_RF_give g ⟨hS.k 145 rfl, fun m2 e2 => ?_⟩
    subst e2
    refine full _ _ hS0 hR0 ?_
    rw [if_neg (by decide)]
    refine c_isGrower g (hS0.k 145 rfl) (hR0.n.trans hn) ?_
    rw [if_neg h2]
    refine c_isPledgedR g hS0 hR0 h4 hi (fun q => absurd q hb) (fun _ => ?_)
    rw [if_neg (by decide)]; exact ⟨rfl, on0, Or.inl ⟨hC0, hR0⟩⟩
