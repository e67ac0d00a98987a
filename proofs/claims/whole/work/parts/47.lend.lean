/-! ===== pledge ===== -/
theorem lN_big {n : Nat} (h : n < 2 ^ 63) : (lN n).toInt = (n : Int) := Int64.toInt_ofNat_of_lt h
theorem lN_div {n d : Nat} (hn : n < 2 ^ 63) (hd : d < 2 ^ 31) : lN n / lN d = lN (n / d) := by
  have hq : n / d ≤ n := Nat.div_le_self n d
  rw [← Int64.toInt_inj, Int64.toInt_div, lN_big hn, lN_toInt hd, lN_big (by omega)]
  show (((n / d : Nat) : Int)).bmod (2 ^ 64) = ((n / d : Nat) : Int)
  generalize n / d = x at hq ⊢
  exact Int.bmod_eq_of_le (by omega) (by omega)
theorem sL_comm {A : Mm} {c i c' j : Nat} {v w : Int64} (h : ¬ (c = c' ∧ i = j)) : sL (sL A c i v) c' j w = sL (sL A c' j w) c i v := by
  obtain ⟨a, l, b⟩ := A
  refine congrArg (fun f => (a, f, b)) ?_
  funext q k
  show up2 (up2 l c i v) c' j w q k = up2 (up2 l c' j w) c i v q k
  by_cases h1 : q = c' ∧ k = j
  · rw [h1.1, h1.2, up2_at, up2_not (fun z => h ⟨z.1.symm, z.2.symm⟩), up2_at]
  · rw [up2_not h1]
    by_cases h2 : q = c ∧ k = i
    · rw [h2.1, h2.2, up2_at, up2_at]
    · rw [up2_not h2, up2_not h2, up2_not h1]
def bearA (A : Mm) (e : Nat) (b due : Int32) (w : Int64) : Mm := sI (sL (sI A 12 e b) 3 e w) 13 e due
theorem bearA_I {A : Mm} {e c j : Nat} {b due : Int32} {w : Int64} : mI (bearA A e b due w) c j = if c = 12 ∧ j = e then b else if c = 13 ∧ j = e then due else mI A c j := by
  unfold bearA
  rw [mI_sI, mI_sL, mI_sI]
  by_cases h1 : c = 12 ∧ j = e
  · rw [h1.1, h1.2, if_pos ⟨rfl, rfl⟩, up2_oth (by omega), up2_at]
  · rw [if_neg h1]
    by_cases h2 : c = 13 ∧ j = e
    · rw [h2.1, h2.2, if_pos ⟨rfl, rfl⟩, up2_at]
    · rw [if_neg h2, up2_not h2, up2_not h1]
theorem bearA_L {A : Mm} {e c j : Nat} {b due : Int32} {w : Int64} : mL (bearA A e b due w) c j = if c = 3 ∧ j = e then w else mL A c j := by
  unfold bearA
  rw [mL_sI, mL_sL, mL_sI]
  by_cases h1 : c = 3 ∧ j = e
  · rw [h1.1, h1.2, if_pos ⟨rfl, rfl⟩, up2_at]
  · rw [if_neg h1, up2_not h1]
theorem LR.bear {g : Gc} {y r e : Nat} {A m : Mm} {b due : Int32} {w : Int64} (h : LR g y r A m) : LR g y r (bearA A e b due w) (sI (sL (sI m (gz g + 179) e b) (gz g + 181) e w) (gz g + 180) e due) := by
  refine ⟨?_, fun j hj => ?_⟩
  · refine LandR.congr (A := A) (h.1.same (fun d hd => ⟨?_, ?_⟩) ?_ ?_) (fun c j hv => by rw [bearA_I, if_neg (fun z => (vI_12 hv).1 z.1), if_neg (fun z => (vI_12 hv).2.1 z.1)]) (fun c j hv => by rw [bearA_L, if_neg (fun z => vJ_3 hv z.1)])
    · rw [mI_sI, up2_ne (by unfold rCell at hd; omega), mI_sL, mI_sI, up2_ne (by unfold rCell at hd; omega)]
    · rw [mL_sI, mL_sL, up2_ne (by unfold rCell at hd; omega), mL_sI]
    · rw [mI_sI, up2_oth (by omega), mI_sL, mI_sI, up2_oth (by omega)]
    · rw [mI_sI, up2_oth (by omega), mI_sL, mI_sI, up2_oth (by omega)]
  · obtain ⟨z1, z2⟩ := h.2 j hj
    have hI : ∀ a i, mI (sI (sL (sI m (gz g + 179) e b) (gz g + 181) e w) (gz g + 180) e due) a i = if a = gz g + 180 ∧ i = e then due else if a = gz g + 179 ∧ i = e then b else mI m a i := fun a i => by
      rw [mI_sI, mI_sL, mI_sI]
      by_cases q1 : a = gz g + 180 ∧ i = e
      · rw [if_pos q1, q1.1, q1.2, up2_at]
      · rw [if_neg q1, up2_not q1]
        by_cases q2 : a = gz g + 179 ∧ i = e
        · rw [if_pos q2, q2.1, q2.2, up2_at]
        · rw [if_neg q2, up2_not q2]
    have hL : ∀ i, mL (sI (sL (sI m (gz g + 179) e b) (gz g + 181) e w) (gz g + 180) e due) (gz g + 181) i = if i = e then w else mL m (gz g + 181) i := fun i => by
      rw [mL_sI, mL_sL, mL_sI]
      by_cases q1 : i = e
      · rw [if_pos q1, q1, up2_at]
      · rw [if_neg q1, up2_sl q1]
    rw [bearA_I, bearA_I, bearA_L, hI, hI, hL]
    by_cases he : j = e
    · rw [if_neg (by omega), if_pos ⟨rfl, he⟩, if_pos ⟨rfl, he⟩, if_pos ⟨rfl, he⟩, if_neg (by omega), if_pos ⟨rfl, he⟩, if_pos he, if_pos ⟨rfl, he⟩]
      exact ⟨rfl, fun _ => ⟨rfl, rfl⟩⟩
    · rw [if_neg (by omega), if_neg (by omega), if_neg (by omega), if_neg (by omega), if_neg (by omega), if_neg (by omega), if_neg (by omega), if_neg (by omega), if_neg he, if_neg (by omega)]
      exact ⟨z1, z2⟩
/-- what the bank b lends on the receipt i -/
def offL (A : Mm) (i b : Nat) : Int64 := ((mI A 10 i).toInt64 * (mI A 0 2).toInt64 * (mI A 21 b).toInt64) / 100
def offA (A : Mm) (i b : Nat) : Int64 := if mI A 12 (2 * i) = -1 then offL A i b else offL A i b / 2
theorem offA_nat {A : Mm} {i b s p q : Nat} (hs : mI A 10 i = nI s) (hs2 : s < 2 ^ 31) (hp : mI A 0 2 = nI p) (hp2 : p ≤ 10000) (hq : mI A 21 b = nI q) (hq2 : q ≤ 100) : ∃ v : Nat, v < 2 ^ 53 ∧ offA A i b = lN v := by
  have h1 : s * p ≤ 2 ^ 31 * 10000 := Nat.mul_le_mul (by omega) hp2
  have h2 : s * p * q ≤ 2 ^ 31 * 10000 * 100 := Nat.mul_le_mul h1 hq2
  have h3 : offL A i b = lN (s * p * q / 100) := by
    unfold offL
    rw [hs, hp, hq, nI_l hs2, nI_l (by omega), nI_l (by omega), lN_mul, lN_mul]
    exact lN_div (d := 100) (by omega) (by omega)
  unfold offA
  by_cases hb : mI A 12 (2 * i) = -1
  · rw [if_pos hb, h3]; exact ⟨_, by omega, rfl⟩
  · rw [if_neg hb, h3]
    exact ⟨s * p * q / 100 / 2, by omega, lN_div (d := 2) (by omega) (by omega)⟩
theorem lN_0 {v : Nat} (h : v < 2 ^ 53) : ((0 : Int64) < lN v ↔ v ≠ 0) ∧ (lN v = 0 ↔ v = 0) := by
  have z : (0 : Int64).toInt = 0 := rfl
  refine ⟨?_, ?_⟩
  · rw [i64_lt, lN_big (by omega), z]; omega
  · rw [← Int64.toInt_inj, lN_big (by omega), z]; omega
def owesA (A : Mm) (b : Nat) (v : Int64) : Int64 := (v * ((100 : Int32) + mI A 22 b).toInt64) / 100
def pledA (A : Mm) (i k b h : Nat) (due : Int32) (v : Int64) : Mm := sL (sL (bearA A (2 * i + k) (nI b) due (owesA A b v)) 0 h (mL A 0 h + v)) 0 (12 + b) (mL A 0 (12 + b) - v)
theorem LC.bk {g : Gc} {pa : Nat → Nat} {y r b : Nat} {A m : Mm} (h : LC g pa y r A m) (hb : b < 3) : mI m (gz g + (2 + 60 + b)) 0 = mI A 21 b ∧ mI m (gz g + (2 + 60 + b)) 1 = mI A 22 b := by
  have e : gz g + (2 + 60 + b) = gz g + 2 + 60 + b := by omega
  rw [e]
  exact ⟨h.1.1 21 b hb, h.1.1 22 b hb⟩
theorem LR.bk {g : Gc} {y r b : Nat} {A m : Mm} (h : LR g y r A m) (hb : b < 3) : mI m (gz g + 150) b = mI A 21 b ∧ mI m (gz g + 151) b = mI A 22 b := ⟨h.1.1 21 b ⟨hb, by omega, by omega⟩, h.1.1 22 b ⟨hb, by omega, by omega⟩⟩
theorem c_lend (g : Gc) {lv n y r i k b h : Nat} {A m : Mm} {pa : Nat → Nat} (hS : Sg g m) (hF : Fr g m) (hC : LC g pa y r A m) (hn : mI A 0 0 = nI n) (h12 : n ≤ 12) (hi : i < r) (hk : k < 2) (hk0 : k = 0 → mI A 12 (2 * i) = -1) (hk1 : k = 1 → ¬ mI A 12 (2 * i) = -1) (hb : b < 3) (hh : mI A 9 i = nI h) (hhn : h < n) (v : Int64) (due : Int32) {Q : Mm → Prop} (hQ : ∀ m', LC g pa y r (pledA A i k b h due v) m' → Fs g (PC g 2 pa r) 1 m m' → Fr g m' → Sg g m' → Q m') : CV g M_Land_lend (lv + 3) [va_rf (some (gz g + 2)), va_rf (some (pa i)), .int (nI b), .long v, .int due] m Q := by
  refine en_Land_lend g ⟨hF.2 _ (Nat.le_refl _), fun q m1 eq e1 => ?_⟩
  have f1 : Fs g (fun _ _ => False) 1 m m1 := by rw [e1, eq]; exact Fs_nw m hF 6 0 3 (by omega)
  have F1 : Fr g m1 := by rw [e1, eq]; exact Fr_nw hF 6 0 3
  have S1 : Sg g m1 := hS.ext f1.1
  have k1 : mK m1 q = 6 := by rw [e1]; exact nw_new.1
  have c1 : mC m1 = mC m + 1 := by rw [e1]; rfl
  have C1 : LC g pa y r A m1 := hC.keepS hF f1 (fun _ _ _ z => z.elim)
  clear e1
  have q184 : gz g + 184 ≤ q := by have := hF.1; omega
  obtain ⟨b4, b5⟩ := (sh_tb (t := 2) (Or.inl rfl)).2 b hb
  rw [nI_clamp (by omega)]
  refine ⟨S1.k 2 rfl, gz g + 4, S1.r 2 2 rfl, S1.k 4 rfl, by rw [S1.n 4 rfl]; exact vp_in_nI (N := 3) (by omega) (by omega), gz g + (2 + 60 + b), S1.r 4 b b4, S1.k (2 + 60 + b) b5 (by omega), ?_⟩
  rw [(C1.bk hb).2]
  refine en_Loan_init g ⟨k1, fun m2 e2 m3 e3 m4 e4 => ?_⟩
  have f4 : Fs g (fun _ _ => False) (1 + 0 + 0 + 0) m m4 := by
    have w1 := f1.trans (Fs_sI (P := fun a _ => a = q) m1 (a := q) (j := 0) rfl (nI b)) (fun a j h1 h2 => absurd h1 (by omega))
    rw [← e2] at w1
    have w2 := w1.trans (Fs_sI (P := fun a _ => a = q) m2 (a := q) (j := 1) rfl due) (fun a j h1 h2 => absurd h1 (by omega))
    rw [← e3] at w2
    have w3 := w2.trans (Fs_sL (P := fun a _ => a = q) m3 (a := q) (j := 2) rfl (v * ((100 : Int32) + mI A 22 b).toInt64 / 100)) (fun a j h1 h2 => absurd h1 (by omega))
    rw [← e4] at w3
    exact w3
  have C4 : LC g pa y r A m4 := hC.keepS hF f4 (fun _ _ _ z => z.elim)
  have F4 : Fr g m4 := by rw [e4, e3, e2]; exact F1
  have S4 : Sg g m4 := hS.ext f4.1
  have c4 : mC m4 = mC m + 1 := by rw [e4, e3, e2]; exact c1
  have k4 : mK m4 q = 6 := by rw [e4, e3, e2]; exact k1
  have x0 : mI m4 q 0 = nI b := by rw [e4, mI_sL, e3, mI_sI, up2_sl (by omega), e2, mI_sI, up2_at]
  have x1 : mI m4 q 1 = due := by rw [e4, mI_sL, e3, mI_sI, up2_at]
  have x2 : mL m4 q 2 = owesA A b v := by rw [e4, mL_sL, up2_at]; rfl
  clear e2 e3 e4
  have p7 := (C4.2.2.1.1 i hi).2.1
  have fin7 : ∀ j, finR (mK m4 (pa i)) j = false := fun j => by rw [p7]; exact finR7 j
  refine ⟨pa i, rfl, p7, en_Receipt_bear g ⟨p7, ?_⟩⟩
  have l0 := C4.ln hi
  have isn : mR m4 (pa i) 3 = none ↔ k = 0 := by
    rcases l0.1 with ⟨e, eb⟩ | ⟨q1, b1, e, -, -, -, c1', d1, -⟩
    · refine ⟨fun _ => ?_, fun _ => e⟩
      rcases (show k = 0 ∨ k = 1 by omega) with z | z
      · exact z
      · exact absurd eb (hk1 z)
    · refine ⟨fun z => by rw [e] at z; exact absurd z (by simp), fun z => ?_⟩
      have := hk0 z
      rw [d1] at this
      exact absurd this (nI_ne_m1 (by omega))
  have main : ∀ m5, m5 = sR m4 (pa i) (3 + k) (some q) → CV g M_Land_credit (lv + 2) [va_rf (some (gz g + 2)), .int (mI m5 (pa i) 0), .long v] m5 (fun m36 => vp_in (nI b) (mN m36 (gz g + 4)) ∧ ∀ m46, m46 = sL m36 (gz g + (2 + 60 + b)) 2 (mL m36 (gz g + (2 + 60 + b)) 2 - v) → Q m46) := by
    intro m5 e5
    have hR : ∀ a j, mR m5 a j = if a = pa i ∧ j = 3 + k then some q else mR m4 a j := fun a j => by
      rw [e5, mR_sR]
      by_cases h3 : a = pa i ∧ j = 3 + k
      · rw [h3.1, h3.2, up2_at, if_pos ⟨rfl, rfl⟩]
      · rw [up2_not h3, if_neg h3]
    have C5 : LC g pa y r (bearA A (2 * i + k) (nI b) due (owesA A b v)) m5 := by
      refine C4.refs hi (by rw [e5]; rfl) (by rw [e5]; rfl) (by rw [e5]; rfl) (by rw [e5]; rfl) (fun a j hn => by rw [hR, if_neg (by omega)]) (fun c j h1 h2 => by rw [bearA_I, if_neg (fun z => h1 z.1), if_neg (fun z => h2 z.1)]) (fun c j h => by rw [bearA_L, if_neg (fun z => h z.1)]) (fun j k' hj hne hk' => ?_) (fun k' hk' => ?_)
      · rw [bearA_I, bearA_I, bearA_L, if_neg (by omega), if_neg (by omega), if_neg (by omega), if_neg (by omega), if_neg (by omega)]
        exact ⟨rfl, rfl, rfl⟩
      · rw [bearA_I, bearA_I, bearA_L, hR]
        by_cases hkk : k' = k
        · subst hkk
          rw [if_pos ⟨rfl, rfl⟩, if_pos ⟨rfl, rfl⟩, if_neg (by omega), if_pos ⟨rfl, rfl⟩, if_pos ⟨rfl, rfl⟩]
          exact Or.inr ⟨q, b, rfl, k4, q184, by omega, hb, rfl, x0, x1, x2⟩
        · rw [if_neg (by omega), if_neg (by omega), if_neg (by omega), if_neg (by omega), if_neg (by omega), if_neg (by omega)]
          exact C4.2.2.2 i hi k' hk'
    have f5 : Fs g (PC g 2 pa r) (1 + 0 + 0 + 0 + 0) m m5 := by
      rw [e5]
      exact (f4.weak (P2 := PC g 2 pa r) (fun _ _ _ z => z.elim) (Nat.le_refl _)).trans (Fs_sR (P := PC g 2 pa r) m4 (a := pa i) (j := 3 + k) (Or.inr ⟨i, hi, rfl⟩) (some q) (Or.inl (fin7 _))) (fun _ _ _ z => z)
    have F5 : Fr g m5 := by rw [e5]; exact F4
    have S5 : Sg g m5 := hS.ext f5.1
    clear e5 hR
    rw [(C5.rc hi).1, bearA_I, if_neg (by omega), if_neg (by omega), hh]
    refine c_credit g S5 (Or.inl rfl) C5.1 (by rw [bearA_I, if_neg (by omega), if_neg (by omega)]; exact hn) h12 (by omega) (Or.inl hhn) v (fun m6 c6 s6 => ⟨by rw [(s6.sg S5).n 4 rfl]; exact vp_in_nI (N := 3) (by omega) (by omega), fun m7 e7 => ?_⟩)
    rw [bearA_L, if_neg (by omega)] at c6
    rw [c6.bmo hb, mL_sL, up2_sl (by omega), bearA_L, if_neg (by omega)] at e7
    have C6 : LC g pa y r (sL (bearA A (2 * i + k) (nI b) due (owesA A b v)) 0 h (mL A 0 h + v)) m6 := C5.st s6 c6 rfl rfl (by funext j; rw [mL_sL, up2_oth (by omega)])
    have s7 : St (PC g 2 pa r) m6 m7 := by rw [e7]; exact St_sL m6 (Or.inl ⟨by omega, by omega, by omega⟩) _
    refine hQ m7 ?_ (((f5.trans s6.fs (fun _ _ _ z => z)).trans s7.fs (fun _ _ _ z => z)).weak (fun _ _ _ z => z) (by omega)) (s7.fr (s6.fr F5)) (s7.sg (s6.sg S5))
    refine C6.st s7 ?_ rfl rfl (by funext j; unfold pledA; rw [mL_sL, up2_oth (by omega)])
    rw [e7]
    unfold pledA
    refine c6.putJ (by omega) (c := 0) (i := 12 + b) (Or.inr (by omega)) ?_ _
    simp only [cJ]
    rw [if_neg (by omega)]
    exact Prod.ext (by simp only; omega) rfl
  rcases (show k = 0 ∨ k = 1 by omega) with rfl | rfl
  · rw [if_pos (isn.2 rfl)]
    intro m5 e5
    exact main m5 e5
  · rw [if_neg (fun z => absurd (isn.1 z) (by omega))]
    intro m5 e5
    exact main m5 e5
