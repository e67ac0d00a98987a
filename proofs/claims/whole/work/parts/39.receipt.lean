/-! ===== receipt, owed, give, redeem ===== -/
theorem LC.ln {g : Gc} {pa : Nat → Nat} {y r i : Nat} {A m : Mm} (h : LC g pa y r A m) (hi : i < r) : LnOne g m (mR m (pa i) 3) (mI A 12 (2 * i)) (mI A 13 (2 * i)) (mL A 3 (2 * i)) ∧ LnOne g m (mR m (pa i) 4) (mI A 12 (2 * i + 1)) (mI A 13 (2 * i + 1)) (mL A 3 (2 * i + 1)) := ⟨h.2.2.2 i hi 0 (by omega), h.2.2.2 i hi 1 (by omega)⟩
theorem LC.t0 {g : Gc} {pa : Nat → Nat} {y r : Nat} {A m : Mm} (h : LC g pa y r A m) (hF : Fr g m) (j : Nat) (v : Int32) : LC g pa y r A (sI m (gz g + 145) j v) := h.keep hF (Fm_sM (P := fun _ => False) (ss := [j]) m (by simp) v) (fun _ _ q => q.elim)
theorem LR.t0 {g : Gc} {y r : Nat} {A m : Mm} (h : LR g y r A m) (hF : Fr g m) {j : Nat} (hj : j ≠ 19 ∧ j ≠ 47) (v : Int32) : LR g y r A (sI m (gz g + 145) j v) := h.keep hF (Fm_sM (P := fun _ => False) (ss := [j]) m (by simp) v) (fun _ _ q => q.elim) (by simp; omega) (by simp; omega)
theorem LC.rfI {g : Gc} {pa : Nat → Nat} {y r : Nat} {A m : Mm} (h : LC g pa y r A m) (hF : Fr g m) {e : Nat} (h1 : 145 < e) (h2 : e < 184) (j : Nat) (v : Int32) : LC g pa y r A (sI m (gz g + e) j v) := h.keep hF (Fm_sI (P := fun a => a = gz g + e) (ss := []) m rfl (by omega) j v) (fun a _ q => by omega)
theorem LC.rfL {g : Gc} {pa : Nat → Nat} {y r : Nat} {A m : Mm} (h : LC g pa y r A m) (hF : Fr g m) {e : Nat} (h1 : 145 < e) (h2 : e < 184) (j : Nat) (v : Int64) : LC g pa y r A (sL m (gz g + e) j v) := h.keep hF (Fm_sL (P := fun a => a = gz g + e) (ss := []) m rfl (by omega) j v) (fun a _ q => by omega)
theorem LR.clI {g : Gc} {y r : Nat} {A m : Mm} (h : LR g y r A m) (hF : Fr g m) {a : Nat} (ha : a < gz g + 145 ∨ gz g + 184 ≤ a) (j : Nat) (v : Int32) : LR g y r A (sI m a j v) := h.keep hF (Fm_sI (P := fun b => b = a) (ss := []) m rfl (by omega) j v) (fun b _ q => by omega) (by simp) (by simp)
theorem LR.clL {g : Gc} {y r : Nat} {A m : Mm} (h : LR g y r A m) (hF : Fr g m) {a : Nat} (ha : a < gz g + 145 ∨ gz g + 184 ≤ a) (j : Nat) (v : Int64) : LR g y r A (sL m a j v) := h.keep hF (Fm_sL (P := fun b => b = a) (ss := []) m rfl (by omega) j v) (fun b _ q => by omega) (by simp) (by simp)
theorem LnOne.bank {g : Gc} {m : Mm} {o : Option Nat} {b d : Int32} {w : Int64} {Q : Int32 → Prop} (h : LnOne g m o b d w) (hq : Q b) : if o = none then Q (-1) else ∃ q, o = some q ∧ mK m q = 6 ∧ Q (mI m q 0) := by
  rcases h with ⟨e, hb⟩ | ⟨q, bb, e, k, -, -, -, hb, h0, -⟩
  · rw [if_pos e, ← hb]; exact hq
  · rw [if_neg (by rw [e]; simp)]; exact ⟨q, e, k, by rw [h0]; exact hq⟩
theorem LnOne.due {g : Gc} {m : Mm} {o : Option Nat} {b d : Int32} {w : Int64} {Q : Int32 → Prop} (h : LnOne g m o b d w) (hq : Q (if b = -1 then -1 else d)) : if o = none then Q (-1) else ∃ q, o = some q ∧ mK m q = 6 ∧ Q (mI m q 1) := by
  rcases h with ⟨e, hb⟩ | ⟨q, bb, e, k, -, -, h3, hb, h0, h1, -⟩
  · rw [if_pos hb] at hq; rw [if_pos e]; exact hq
  · rw [if_neg (by rw [hb]; exact nI_ne_m1 (by omega))] at hq
    rw [if_neg (by rw [e]; simp)]; exact ⟨q, e, k, by rw [h1]; exact hq⟩
theorem LnOne.owed {g : Gc} {m : Mm} {o : Option Nat} {b d : Int32} {w : Int64} {Q : Int64 → Prop} (h : LnOne g m o b d w) (hq : Q (if b = -1 then 0 else w)) : if o = none then Q 0 else ∃ q, o = some q ∧ mK m q = 6 ∧ Q (mL m q 2) := by
  rcases h with ⟨e, hb⟩ | ⟨q, bb, e, k, -, -, h3, hb, h0, h1, h2⟩
  · rw [if_pos hb] at hq; rw [if_pos e]; exact hq
  · rw [if_neg (by rw [hb]; exact nI_ne_m1 (by omega))] at hq
    rw [if_neg (by rw [e]; simp)]; exact ⟨q, e, k, by rw [h2]; exact hq⟩
def recV (A : Mm) (i : Nat) (z : Int32) : Int32 :=
  if z = 0 then mI A 9 i else if z = 1 then mI A 10 i else if z = 2 then mI A 11 i else if z = 3 then mI A 12 (2 * i) else if z = 4 then mI A 12 (2 * i + 1) else if z = 5 then (if mI A 12 (2 * i) = -1 then -1 else mI A 13 (2 * i)) else if z = 6 then (if mI A 12 (2 * i + 1) = -1 then -1 else mI A 13 (2 * i + 1)) else -2
theorem c_SLreceipt (g : Gc) {lv y r : Nat} {A m : Mm} {pa : Nat → Nat} {x z : Int32} (hS : Sg g m) (hC : LC g pa y r A m) (hr : mI A 0 3 = nI r) (h4 : r ≤ 400) {Q : Int32 → Mm → Prop} (h0 : wi x 0 (nI r - 1) = 0 → Q (-2) m) (h1 : ∀ i, i < r → x = nI i → Q (recV A i z) m) : CI g M_SL_receipt (lv + 3) [va_rf (some (gz g)), .int x, .int z] m Q := by
  refine en_SL_receipt g ⟨hS.k 0 rfl, gz g + 2, hS.r 0 1 rfl, hS.k 2 rfl, gz g + 5, hS.r 2 3 rfl, hS.k 5 rfl, c_find g hS hC hr h4 (fun hw => ?_) (fun i hi e => ?_)⟩
  · rw [if_pos rfl]; exact h0 hw
  rw [if_neg (by simp)]
  have hk := (hC.2.2.1.1 i hi).2.1
  have hv := h1 i hi e
  have hc := hC.rc hi
  have hl := hC.ln hi
  unfold recV at hv
  by_cases q0 : z = 0
  · rw [if_pos q0] at hv ⊢; exact ⟨pa i, rfl, hk, by rw [hc.1]; exact hv⟩
  rw [if_neg q0] at hv ⊢
  by_cases q1 : z = 1
  · rw [if_pos q1] at hv ⊢; exact ⟨pa i, rfl, hk, by rw [hc.2.1]; exact hv⟩
  rw [if_neg q1] at hv ⊢
  by_cases q2 : z = 2
  · rw [if_pos q2] at hv ⊢; exact ⟨pa i, rfl, hk, by rw [hc.2.2]; exact hv⟩
  rw [if_neg q2] at hv ⊢
  by_cases q3 : z = 3
  · rw [if_pos q3] at hv ⊢; exact ⟨pa i, rfl, hk, hl.1.bank (Q := fun v => Q v m) hv⟩
  rw [if_neg q3] at hv ⊢
  by_cases q4 : z = 4
  · rw [if_pos q4] at hv ⊢; exact ⟨pa i, rfl, hk, hl.2.bank (Q := fun v => Q v m) hv⟩
  rw [if_neg q4] at hv ⊢
  by_cases q5 : z = 5
  · rw [if_pos q5] at hv ⊢; exact ⟨pa i, rfl, hk, hl.1.due (Q := fun v => Q v m) hv⟩
  rw [if_neg q5] at hv ⊢
  by_cases q6 : z = 6
  · rw [if_pos q6] at hv ⊢; exact ⟨pa i, rfl, hk, hl.2.due (Q := fun v => Q v m) hv⟩
  rw [if_neg q6] at hv ⊢
  exact hv
theorem ix2s (i : Nat) : (2 : Int32) * nI i + 1 = nI (2 * i + 1) := by rw [ix2, nI_s]
theorem c_RFreceipt (g : Gc) {lv y r : Nat} {A m : Mm} {x z : Int32} (hS : Sg g m) (hF : Fr g m) (hR : LR g y r A m) (hr : mI A 0 3 = nI r) (h4 : r ≤ 400) {Q : Int32 → Mm → Prop} (h0 : wi x 0 (nI r - 1) = 0 → Q (-2) (sI m (gz g + 145) 0 0)) (h1 : ∀ i, i < r → x = nI i → Q (recV A i z) (sI m (gz g + 145) 0 0)) : CI g M_RF_receipt_II (lv + 2) [va_rf (some (gz g + 145)), .int x, .int z] m Q := by
  have z0 : (0 : Int32).toNatClampNeg = 0 := rfl
  refine en_RF_receipt_II g ⟨hS.k 145 rfl, fun m2 e2 => ?_⟩
  replace hR : LR g y r A m2 := by rw [e2]; exact hR.t0 hF (by omega) 0
  replace hS : Sg g m2 := by rw [e2]; exact hS
  rw [← e2] at h0 h1
  clear e2
  refine ⟨gz g + 168, hS.r 145 33 rfl, hS.k 168 rfl, by rw [hS.n 168 rfl]; exact vp_in_nI (n := 0) (N := 2) (by omega) (by omega), c_in g ?_⟩
  rw [z0, hR.rn, hr, wj_i0]
  by_cases hw : wi x 0 (nI r - 1) = 0
  · rw [if_pos hw]; exact h0 hw
  rw [if_neg hw]
  obtain ⟨i, hi, rfl⟩ := gr_ofN (by omega) hw
  have hv := h1 i hi rfl
  have hc := hR.rc hi
  have hl1 := hR.2 (2 * i) (by omega)
  have hl2 := hR.2 (2 * i + 1) (by omega)
  rw [ix2s, ix2, nI_clamp (show i < 2 ^ 31 by omega), nI_clamp (show 2 * i < 2 ^ 31 by omega), nI_clamp (show 2 * i + 1 < 2 ^ 31 by omega)]
  have u1 : vp_in (nI i) (mN m2 (gz g + 175)) := by rw [hS.n 175 rfl]; exact vp_in_nI (N := 800) (by omega) (by omega)
  have u2 : vp_in (nI i) (mN m2 (gz g + 176)) := by rw [hS.n 176 rfl]; exact vp_in_nI (N := 800) (by omega) (by omega)
  have u3 : vp_in (nI i) (mN m2 (gz g + 177)) := by rw [hS.n 177 rfl]; exact vp_in_nI (N := 800) (by omega) (by omega)
  have u4 : vp_in (nI (2 * i)) (mN m2 (gz g + 179)) := by rw [hS.n 179 rfl]; exact vp_in_nI (N := 800) (by omega) (by omega)
  have u5 : vp_in (nI (2 * i + 1)) (mN m2 (gz g + 179)) := by rw [hS.n 179 rfl]; exact vp_in_nI (N := 800) (by omega) (by omega)
  have u6 : vp_in (nI (2 * i)) (mN m2 (gz g + 180)) := by rw [hS.n 180 rfl]; exact vp_in_nI (N := 800) (by omega) (by omega)
  have u7 : vp_in (nI (2 * i + 1)) (mN m2 (gz g + 180)) := by rw [hS.n 180 rfl]; exact vp_in_nI (N := 800) (by omega) (by omega)
  unfold recV at hv
  by_cases q0 : z = 0
  · rw [if_pos q0] at hv ⊢; exact ⟨gz g + 175, hS.r 145 40 rfl, hS.k 175 rfl, u1, by rw [hc.1]; exact hv⟩
  rw [if_neg q0] at hv ⊢
  by_cases q1 : z = 1
  · rw [if_pos q1] at hv ⊢; exact ⟨gz g + 176, hS.r 145 41 rfl, hS.k 176 rfl, u2, by rw [hc.2.1]; exact hv⟩
  rw [if_neg q1] at hv ⊢
  by_cases q2 : z = 2
  · rw [if_pos q2] at hv ⊢; exact ⟨gz g + 177, hS.r 145 42 rfl, hS.k 177 rfl, u3, by rw [hc.2.2]; exact hv⟩
  rw [if_neg q2] at hv ⊢
  by_cases q3 : z = 3
  · rw [if_pos q3] at hv ⊢; exact ⟨gz g + 179, hS.r 145 44 rfl, hS.k 179 rfl, u4, by rw [hl1.1]; exact hv⟩
  rw [if_neg q3] at hv ⊢
  by_cases q4 : z = 4
  · rw [if_pos q4] at hv ⊢; exact ⟨gz g + 179, hS.r 145 44 rfl, hS.k 179 rfl, u5, by rw [hl2.1]; exact hv⟩
  rw [if_neg q4] at hv ⊢
  by_cases q5 : z = 5
  · rw [if_pos q5] at hv ⊢
    refine ⟨gz g + 179, hS.r 145 44 rfl, hS.k 179 rfl, u4, ?_⟩
    rw [hl1.1]
    by_cases hb : mI A 12 (2 * i) = -1
    · rw [if_pos hb] at hv ⊢; exact hv
    · rw [if_neg hb] at hv ⊢; exact ⟨gz g + 180, hS.r 145 45 rfl, hS.k 180 rfl, u6, by rw [(hl1.2 hb).1]; exact hv⟩
  rw [if_neg q5] at hv ⊢
  by_cases q6 : z = 6
  · rw [if_pos q6] at hv ⊢
    refine ⟨gz g + 179, hS.r 145 44 rfl, hS.k 179 rfl, u5, ?_⟩
    rw [hl2.1]
    by_cases hb : mI A 12 (2 * i + 1) = -1
    · rw [if_pos hb] at hv ⊢; exact hv
    · rw [if_neg hb] at hv ⊢; exact ⟨gz g + 180, hS.r 145 45 rfl, hS.k 180 rfl, u7, by rw [(hl2.2 hb).1]; exact hv⟩
  rw [if_neg q6] at hv ⊢
  exact hv
theorem sim_receipt (g : Gc) {lv y r : Nat} {A m : Mm} {pa : Nat → Nat} (hS : Sg g m) (hF : Fr g m) (hC : LC g pa y r A m) (hR : LR g y r A m) (hr : mI A 0 3 = nI r) (h4 : r ≤ 400) (x z : Int32) : SimI g M_SL_receipt M_RF_receipt_II (lv + 3) [.int x, .int z] m (fun m2 => Only g [] [0] m m2) := by
  have on0 : Only g [] [0] m (sI m (gz g + 145) 0 0) := Only_sM m (by decide) 0
  unfold SimI
  refine c_SLreceipt g hS hC hr h4 (fun hw => ?_) (fun i hi e => ?_)
  · exact c_RFreceipt g hS hF hR hr h4 (fun _ => ⟨rfl, on0⟩) (fun i hi e => absurd (by rw [e] at hw; exact hw) (by rw [wi_in hi (by omega)]; decide))
  · exact c_RFreceipt g hS hF hR hr h4 (fun hw => absurd (by rw [e] at hw; exact hw) (by rw [wi_in hi (by omega)]; decide)) (fun i' hi' e' => by have q := (nI_eq (by omega) (by omega)).1 (e.symm.trans e'); subst q; exact ⟨rfl, on0⟩)
