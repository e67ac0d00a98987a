/-! ===== Pascal's triangle is laid out ===== -/
def tN : Nat → Nat
  | 0 => 0
  | n + 1 => tN n + n + 1
theorem tN_mono : ∀ {a b : Nat}, a ≤ b → tN a ≤ tN b
  | a, 0, h => by obtain rfl : a = 0 := by omega
                  exact Nat.le_refl _
  | a, b + 1, h => by
    by_cases e : a = b + 1
    · rw [e]; exact Nat.le_refl _
    · have := tN_mono (a := a) (b := b) (by omega)
      show tN a ≤ tN b + b + 1
      omega
theorem tN_inj {n k n' k' : Nat} (h : k ≤ n) (h' : k' ≤ n') (e : tN n + k = tN n' + k') : n = n' ∧ k = k' := by
  by_cases h1 : n < n'
  · have := tN_mono (a := n + 1) (b := n') h1
    have e2 : tN (n + 1) = tN n + n + 1 := rfl
    omega
  · by_cases h2 : n' < n
    · have := tN_mono (a := n' + 1) (b := n) h2
      have e2 : tN (n' + 1) = tN n' + n' + 1 := rfl
      omega
    · obtain rfl : n = n' := by omega
      exact ⟨rfl, by omega⟩
theorem tN_div : ∀ n, n * (n + 1) / 2 = tN n
  | 0 => rfl
  | n + 1 => by
    have ih := tN_div n
    have e : (n + 1) * (n + 1 + 1) = n * (n + 1) + 2 * (n + 1) := by
      rw [Nat.mul_add (n + 1) (n + 1) 1, Nat.add_mul n 1 (n + 1)]
      omega
    show (n + 1) * (n + 1 + 1) / 2 = tN n + n + 1
    omega
theorem tN_60 : tN 60 = 1830 := rfl
def TriF (at' : Nat) (f : Nat → Int64) : Prop := ∀ n k, k ≤ n → tN n + k < at' → f (tN n + k) = ch n k
theorem TriF.step {n k : Nat} {f : Nat → Int64} (h : TriF (tN n + k) f) (hk : k ≤ n) : TriF (tN n + k + 1) (va_up f (tN n + k) (ch n k)) := fun n' k' hk' hl => by
  by_cases e : tN n' + k' = tN n + k
  · obtain ⟨rfl, rfl⟩ := tN_inj hk' hk e
    simp [va_up]
  · have : va_up f (tN n + k) (ch n k) (tN n' + k') = f (tN n' + k') := by
      simp [va_up, e]
    rw [this]
    exact h n' k' hk' (by omega)
theorem l_sets18 (g : Gc) {lv s : Nat} {m : Mm} (hk : mK m s = 16) (hN : mN m s = 1891) {n : Nat} (h60 : n ≤ 60) {Q : Option Nat → Mm → Prop} (kk : ∀ f, TriF (tN (n + 1)) f → At g M_SL_countSets (lv + 1) 10 [(0, va_rf (some s)), (1, .int (nI (tN (n + 1)))), (2, .int (nI (n + 1)))] [] (rL m s f) (QR Q)) : ∀ (d k : Nat) (f : Nat → Int64), k + d = n + 1 → TriF (tN n + k) f → At g M_SL_countSets (lv + 1) 18 [(0, va_rf (some s)), (1, .int (nI (tN n + k))), (2, .int (nI n)), (3, .int (nI k))] [] (rL m s f) (QR Q) := by
  have t60 : tN n ≤ 1830 := by have := tN_mono h60; rw [tN_60] at this; exact this
  intro d
  induction d with
  | zero =>
    intro k f hkd T
    obtain rfl : k = n + 1 := by omega
    refine bk_SL_countSets_18 g ?_
    rw [if_pos (nI_lt (by omega) (by omega)), nI_s]
    exact kk f T
  | succ d ih =>
    intro k f hkd T
    have st : ∀ (v : Int64) (m7 : Mm), v = ch n k → m7 = sL (rL m s f) s (tN n + k) v → At g M_SL_countSets (lv + 1) 18 [(0, va_rf (some s)), (1, .int (nI (tN n + k + 1))), (2, .int (nI n)), (3, .int (nI (k + 1)))] [] m7 (QR Q) := by
      intro v m7 ev e7
      rw [sL_rL, ev] at e7
      rw [e7]
      exact ih (k + 1) _ (by omega) (T.step (by omega))
    have vin : vp_in (nI (tN n + k)) (mN (rL m s f) s) := by
      show vp_in (nI (tN n + k)) (mN m s)
      rw [hN]; exact vp_in_nI (N := 1891) (by omega) (by omega)
    refine bk_SL_countSets_18 g ?_
    rw [if_neg (nI_nlt (by omega) (by omega)), nI_clamp (show tN n + k < 2 ^ 31 by omega), nI_s, nI_s]
    by_cases k0 : k = 0
    · rw [if_pos (by rw [k0]; rfl)]
      refine ⟨s, rfl, hk, vin, fun m7 e7 => st 1 m7 (by rw [k0, ch_0]) e7⟩
    · rw [if_neg (nI_ne0 (by omega) (by omega))]
      by_cases kn : k = n
      · rw [if_pos (by rw [kn])]
        refine ⟨s, rfl, hk, vin, fun m7 e7 => st 1 m7 (by rw [kn, ch_self]) e7⟩
      · rw [if_neg (fun z => kn ((nI_eq (by omega) (by omega)).mp z))]
        obtain ⟨n', rfl⟩ : ∃ n', n = n' + 1 := ⟨n - 1, by omega⟩
        obtain ⟨k', rfl⟩ : ∃ k', k = k' + 1 := ⟨k - 1, by omega⟩
        have e1 : tN (n' + 1) = tN n' + n' + 1 := rfl
        have i2 : nI (tN (n' + 1) + (k' + 1)) - nI (n' + 1) = nI (tN n' + (k' + 1)) := by rw [nI_sub (by omega) (by omega), show tN (n' + 1) + (k' + 1) - (n' + 1) = tN n' + (k' + 1) by omega]
        have i1 : nI (tN n' + (k' + 1)) - (1 : Int32) = nI (tN n' + k') := by rw [nI_m1 (by omega), show tN n' + (k' + 1) - 1 = tN n' + k' by omega]
        rw [i2, i1, nI_clamp (show tN n' + (k' + 1) < 2 ^ 31 by omega), nI_clamp (show tN n' + k' < 2 ^ 31 by omega)]
        refine ⟨s, rfl, hk, ?_, ?_, vin, fun m7 e7 => ?_⟩
        · show vp_in (nI (tN n' + k')) (mN m s)
          rw [hN]; exact vp_in_nI (N := 1891) (by omega) (by omega)
        · show vp_in (nI (tN n' + (k' + 1))) (mN m s)
          rw [hN]; exact vp_in_nI (N := 1891) (by omega) (by omega)
        · refine st _ m7 ?_ e7
          rw [mL_rL, T n' k' (by omega) (by omega), T n' (k' + 1) (by omega) (by omega)]
          exact (ch_s n' k').symm
theorem c_countSets (g : Gc) {lv : Nat} {m : Mm} (hf : mK m (gz g + mC m) = 0) {Q : Option Nat → Mm → Prop} (hQ : ∀ f : Nat → Int64, (∀ n k, n ≤ 60 → k ≤ n → f (n * (n + 1) / 2 + k) = ch n k) → Q (some (gz g + mC m)) (rL (nw m (gz g + mC m) 16 1891 1891) (gz g + mC m) f)) : CR g M_SL_countSets (lv + 1) [] m Q := by
  refine en_SL_countSets g ⟨hf, fun q m3 eq e3 => ?_⟩
  rw [show (1891 : Int32).toNatClampNeg = 1891 from rfl] at e3
  have k3 : mK m3 q = 16 ∧ mN m3 q = 1891 := by rw [e3]; exact nw_new
  have l3 : mL m3 q = fun _ => 0 := by rw [e3]; exact nw_at.2.2.2.2
  have loop : ∀ (d n : Nat) (f : Nat → Int64), n + d = 61 → TriF (tN n) f → At g M_SL_countSets (lv + 1) 10 [(0, va_rf (some q)), (1, .int (nI (tN n))), (2, .int (nI n))] [] (rL m3 q f) (QR Q) := by
    intro d
    induction d with
    | zero =>
      intro n f hn T
      obtain rfl : n = 61 := by omega
      refine bk_SL_countSets_10 g ?_
      rw [if_pos (by decide)]
      subst eq e3
      refine hQ f (fun n k h1 h2 => ?_)
      rw [tN_div]
      refine T n k h2 ?_
      have := tN_mono (a := n + 1) (b := 61) (by omega)
      have e2 : tN (n + 1) = tN n + n + 1 := rfl
      omega
    | succ d ih =>
      intro n f hn T
      refine bk_SL_countSets_10 g ?_
      rw [if_neg (show ¬ (60 : Int32) < nI n from nI_nlt (a := 60) (by omega) (by omega))]
      exact l_sets18 g k3.1 k3.2 (by omega) (fun f2 T2 => ih (n + 1) f2 (by omega) T2) (n + 1) 0 f (by omega) T
  have := loop 61 0 (mL m3 q) (by omega) (fun n k _ h => absurd h (by show ¬ tN n + k < tN 0; exact Nat.not_lt_zero _))
  rw [rL_self] at this
  exact this
