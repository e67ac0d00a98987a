/-! ===== stores alone; credit, moneyOf; loans end ===== -/
def Sm (m m' : Mm) : Prop := mR m' = mR m ∧ mK m' = mK m ∧ mN m' = mN m ∧ mC m' = mC m ∧ mS m' = mS m
/-- numbers were stored in these slots, and nothing else was done -/
def St (P : Nat → Nat → Prop) (m m' : Mm) : Prop := Sm m m' ∧ ∀ a j, ¬ P a j → mI m' a j = mI m a j ∧ mL m' a j = mL m a j
theorem St.refl (P : Nat → Nat → Prop) (m : Mm) : St P m m := ⟨⟨rfl, rfl, rfl, rfl, rfl⟩, fun _ _ _ => ⟨rfl, rfl⟩⟩
theorem St.trans {P : Nat → Nat → Prop} {m m1 m2 : Mm} (h : St P m m1) (h2 : St P m1 m2) : St P m m2 :=
  ⟨⟨h2.1.1.trans h.1.1, h2.1.2.1.trans h.1.2.1, h2.1.2.2.1.trans h.1.2.2.1, h2.1.2.2.2.1.trans h.1.2.2.2.1, h2.1.2.2.2.2.trans h.1.2.2.2.2⟩, fun a j hn => ⟨(h2.2 a j hn).1.trans (h.2 a j hn).1, (h2.2 a j hn).2.trans (h.2 a j hn).2⟩⟩
theorem St.weak {P P2 : Nat → Nat → Prop} {m m' : Mm} (h : St P m m') (hP : ∀ a j, P a j → P2 a j) : St P2 m m' := ⟨h.1, fun a j hn => h.2 a j (fun q => hn (hP a j q))⟩
theorem St_sI {P : Nat → Nat → Prop} (m : Mm) {a j : Nat} (hP : P a j) (v : Int32) : St P m (sI m a j v) := ⟨⟨rfl, rfl, rfl, rfl, rfl⟩, fun b i hn => ⟨up2_not (fun q => hn (by rw [q.1, q.2]; exact hP)), rfl⟩⟩
theorem St_sL {P : Nat → Nat → Prop} (m : Mm) {a j : Nat} (hP : P a j) (v : Int64) : St P m (sL m a j v) := ⟨⟨rfl, rfl, rfl, rfl, rfl⟩, fun b i hn => ⟨rfl, up2_not (fun q => hn (by rw [q.1, q.2]; exact hP))⟩⟩
theorem St.ext {P : Nat → Nat → Prop} {m m' : Mm} (h : St P m m') : Ext m m' := fun a _ => ⟨by rw [h.1.2.1], by rw [h.1.2.2.1], fun j b _ hr => by rw [h.1.1]; exact hr⟩
theorem St.fs {g : Gc} {P : Nat → Nat → Prop} {m m' : Mm} (h : St P m m') : Fs g P 0 m m' :=
  ⟨h.ext, ⟨by rw [h.1.2.2.2.1]; omega, by rw [h.1.2.2.2.1]; omega, by rw [h.1.2.2.2.2]; omega⟩, fun a j _ hn => ⟨(h.2 a j hn).1, (h.2 a j hn).2, by rw [h.1.1]⟩⟩
theorem St.sg {g : Gc} {P : Nat → Nat → Prop} {m m' : Mm} (h : St P m m') (hS : Sg g m) : Sg g m' := hS.ext h.ext
theorem St.fr {g : Gc} {P : Nat → Nat → Prop} {m m' : Mm} (h : St P m m') (hF : Fr g m) : Fr g m' := ⟨by rw [h.1.2.2.2.1]; exact hF.1, fun a ha => by rw [h.1.2.2.2.1] at ha; rw [h.1.2.1]; exact hF.2 a ha⟩
theorem St.pap {g : Gc} {P : Nat → Nat → Prop} {t R : Nat} {pa : Nat → Nat} {m m' : Mm} (h : St P m m') (hp : Pap g t pa R m) : Pap g t pa R m' :=
  ⟨fun i hi => by rw [h.1.1, h.1.2.1, h.1.2.2.2.1]; exact hp.1 i hi, fun i h1 h2 => by rw [h.1.1]; exact hp.2 i h1 h2⟩
theorem LC.st {g : Gc} {pa : Nat → Nat} {y r : Nat} {A A' m m' : Mm} (h : LC g pa y r A m) (s : St (PC g 2 pa r) m m') (c : LandC g 2 pa 12 y r A' m') (e12 : mI A' 12 = mI A 12) (e13 : mI A' 13 = mI A 13) (e3 : mL A' 3 = mL A 3) : LC g pa y r A' m' := by
  obtain ⟨hc, hp, hpap, hl⟩ := h
  refine ⟨c, hp, s.pap hpap, fun i hi k hk => ?_⟩
  rw [e12, e13, e3, s.1.1]
  refine (hl i hi k hk).same (by rw [s.1.2.2.2.1]; omega) (fun q hq h1 h2 => ?_)
  have := fun j => s.2 q j (fun z => by
    rcases z with z | ⟨k', hk', rfl⟩
    · omega
    · rw [(hpap.1 k' hk').2.1] at hq; exact absurd hq (by decide))
  exact ⟨by rw [s.1.2.1]; exact hq, funext fun j => (this j).1, funext fun j => (this j).2⟩
theorem sh_tg {t : Nat} (ht : t = 2 ∨ t = 65) : ∀ j, j < 12 → (shR (t + 1) j = some (t + 12 + 4 * j) ∧ shK (t + 12 + 4 * j) = 2) ∧ (shR (t + 12 + 4 * j) 0 = some (t + 13 + 4 * j) ∧ shK (t + 13 + 4 * j) = 15 ∧ shN (t + 13 + 4 * j) = 30) ∧ (shR (t + 12 + 4 * j) 1 = some (t + 14 + 4 * j) ∧ shK (t + 14 + 4 * j) = 15 ∧ shN (t + 14 + 4 * j) = 30) ∧ (shR (t + 12 + 4 * j) 2 = some (t + 15 + 4 * j) ∧ shK (t + 15 + 4 * j) = 17 ∧ shN (t + 15 + 4 * j) = 30) := by
  rcases ht with rfl | rfl
  · decide +kernel
  · decide +kernel
theorem sh_tb {t : Nat} (ht : t = 2 ∨ t = 65) : (shR t 2 = some (t + 2) ∧ shK (t + 2) = 18 ∧ shN (t + 2) = 3) ∧ ∀ j, j < 3 → shR (t + 2) j = some (t + 60 + j) ∧ shK (t + 60 + j) = 1 := by
  rcases ht with rfl | rfl
  · decide +kernel
  · decide +kernel
theorem LandC.n {g : Gc} {t : Nat} {pa : Nat → Nat} {N y r : Nat} {A m : Mm} (h : LandC g t pa N y r A m) : mI m (gz g + t) 8 = mI A 0 0 := h.1 0 0 (by show 0 < 7; omega)
theorem LandC.yr {g : Gc} {t : Nat} {pa : Nat → Nat} {N y r : Nat} {A m : Mm} (h : LandC g t pa N y r A m) : mI m (gz g + t) 9 = mI A 0 1 := h.1 0 1 (by show 1 < 7; omega)
theorem LandC.pr {g : Gc} {t : Nat} {pa : Nat → Nat} {N y r : Nat} {A m : Mm} (h : LandC g t pa N y r A m) : mI m (gz g + t) 10 = mI A 0 2 := h.1 0 2 (by show 2 < 7; omega)
theorem LandC.mo {g : Gc} {t : Nat} {pa : Nat → Nat} {N y r j : Nat} {A m : Mm} (h : LandC g t pa N y r A m) (hj : j < N) (hN : N ≤ 12) : mL m (gz g + (t + 12 + 4 * j)) 11 = mL A 0 j := by
  have := h.2 0 j (Or.inl hj)
  rw [show cJ (gz g + t) 0 j = (gz g + (t + 12 + 4 * j), 11) by simp only [cJ]; rw [if_pos (by omega)]; exact Prod.ext (by simp only; omega) rfl] at this
  exact this
theorem LandC.bmo {g : Gc} {t : Nat} {pa : Nat → Nat} {N y r j : Nat} {A m : Mm} (h : LandC g t pa N y r A m) (hj : j < 3) : mL m (gz g + (t + 60 + j)) 2 = mL A 0 (12 + j) := by
  have := h.2 0 (12 + j) (Or.inr (by omega))
  rw [show cJ (gz g + t) 0 (12 + j) = (gz g + (t + 60 + j), 2) by simp only [cJ]; rw [if_neg (by omega)]; exact Prod.ext (by simp only; omega) rfl] at this
  exact this
theorem h_bank {h : Nat} (h1 : 12 ≤ h) (h2 : h < 15) : wi (nI h) 12 14 = 1 ∧ nI h - (12 : Int32) = nI (h - 12) :=
  (by decide +kernel : ∀ j, j < 3 → wi (nI (12 + j)) 12 14 = 1 ∧ nI (12 + j) - (12 : Int32) = nI (12 + j - 12)) (h - 12) (by omega) |> fun q => by rw [show 12 + (h - 12) = h by omega] at q; exact q
theorem c_credit (g : Gc) {lv t N n y r h : Nat} {A m : Mm} {pa : Nat → Nat} (hS : Sg g m) (ht : t = 2 ∨ t = 65) (hC : LandC g t pa N y r A m) (hn : mI A 0 0 = nI n) (hnN : n ≤ N) (hN : N ≤ 12) (hh : h < n ∨ (12 ≤ h ∧ h < 15)) (v : Int64) {Q : Mm → Prop} (hQ : ∀ m', LandC g t pa N y r (sL A 0 h (mL A 0 h + v)) m' → St (PC g t pa r) m m' → Q m') : CV g M_Land_credit (lv + 2) [va_rf (some (gz g + t)), .int (nI h), .long v] m Q := by
  obtain ⟨⟨t1, -⟩, t7, t8, t9, t10, -⟩ := sh_t ht
  have w := h_12 hh (by omega)
  refine en_Land_credit g ⟨hS.k t t1 (by omega), c_hasGrower g (hS.k t t1 (by omega)) (hC.n.trans hn) (by omega) ?_⟩
  by_cases hx : 12 ≤ h
  · have hx2 : h < 15 := by omega
    obtain ⟨⟨b1, b2, b3⟩, bj⟩ := sh_tb ht
    obtain ⟨e1, e2⟩ := h_bank hx hx2
    obtain ⟨b4, b5⟩ := bj (h - 12) (by omega)
    rw [if_pos (w.1.2 hx)]
    refine c_isWithin g ?_
    rw [e1, if_neg (by decide), e2, nI_clamp (by omega)]
    refine ⟨gz g + (t + 2), hS.r t 2 b1, hS.k (t + 2) b2 (by omega), by rw [hS.n (t + 2) b3 (by omega)]; exact vp_in_nI (N := 3) (by omega) (by omega), gz g + (t + 60 + (h - 12)), hS.r (t + 2) (h - 12) b4, hS.k (t + 60 + (h - 12)) b5 (by omega), fun m1 e1 => ?_⟩
    rw [hC.bmo (by omega), show 12 + (h - 12) = h by omega] at e1
    subst e1
    refine hQ _ (hC.putJ hN (c := 0) (i := h) (Or.inr (by omega)) ?_ _) (St_sL m (Or.inl ⟨by omega, by omega, by omega⟩) _)
    simp only [cJ]
    rw [if_neg (by omega)]
    exact Prod.ext (by simp only; omega) rfl
  · have hx2 : h < n := by omega
    obtain ⟨⟨g1, g2⟩, -⟩ := sh_tg ht h (by omega)
    rw [if_neg (fun q => hx (w.1.1 q)), nI_clamp (by omega)]
    refine ⟨gz g + (t + 1), hS.r t 1 t10, hS.k (t + 1) t8 (by omega), by rw [hS.n (t + 1) t9 (by omega)]; exact vp_in_nI (N := 12) (by omega) (by omega), gz g + (t + 12 + 4 * h), hS.r (t + 1) h g1, hS.k (t + 12 + 4 * h) g2 (by omega), fun m1 e1 => ?_⟩
    rw [hC.mo (by omega) hN] at e1
    subst e1
    refine hQ _ (hC.putJ hN (c := 0) (i := h) (Or.inl (by omega)) ?_ _) (St_sL m (Or.inl ⟨by omega, by omega, by omega⟩) _)
    simp only [cJ]
    rw [if_pos (by omega)]
    exact Prod.ext (by simp only; omega) rfl
theorem c_moneyOf (g : Gc) {lv t N n y r h : Nat} {A m : Mm} {pa : Nat → Nat} (hS : Sg g m) (ht : t = 2 ∨ t = 65) (hC : LandC g t pa N y r A m) (hn : mI A 0 0 = nI n) (hnN : n ≤ N) (hN : N ≤ 12) (hh : h < n) {Q : Int64 → Mm → Prop} (hQ : Q (mL A 0 h) m) : CJ g M_Land_moneyOf (lv + 2) [va_rf (some (gz g + t)), .int (nI h)] m Q := by
  obtain ⟨⟨t1, -⟩, t7, t8, t9, t10, -⟩ := sh_t ht
  refine en_Land_moneyOf g ⟨hS.k t t1 (by omega), c_hasGrower g (hS.k t t1 (by omega)) (hC.n.trans hn) (by omega) ?_⟩
  obtain ⟨⟨g1, g2⟩, -⟩ := sh_tg ht h (by omega)
  rw [wi_in hh (by omega), if_neg (by decide), nI_clamp (by omega)]
  exact ⟨gz g + (t + 1), hS.r t 1 t10, hS.k (t + 1) t8 (by omega), by rw [hS.n (t + 1) t9 (by omega)]; exact vp_in_nI (N := 12) (by omega) (by omega), gz g + (t + 12 + 4 * h), hS.r (t + 1) h g1, hS.k (t + 12 + 4 * h) g2 (by omega), by rw [hC.mo (by omega) hN]; exact hQ⟩
/-- a loan of the receipt i ends -/
def endsA (A : Mm) (i k : Nat) : Mm := if k = 0 then sI (sI (sL (sI A 12 (2 * i) (mI A 12 (2 * i + 1))) 3 (2 * i) (mL A 3 (2 * i + 1))) 13 (2 * i) (mI A 13 (2 * i + 1))) 12 (2 * i + 1) (-1) else sI A 12 (2 * i + 1) (-1)
theorem endsA_I {A : Mm} {i k c j : Nat} (hc : c ≠ 12 ∧ c ≠ 13) : mI (endsA A i k) c j = mI A c j := by
  unfold endsA
  split
  · rw [mI_sI, up2_oth hc.1, mI_sI, up2_oth hc.2, mI_sL, mI_sI, up2_oth hc.1]
  · rw [mI_sI, up2_oth hc.1]
theorem endsA_L {A : Mm} {i k c j : Nat} (hc : c ≠ 3) : mL (endsA A i k) c j = mL A c j := by
  unfold endsA
  split
  · rw [mL_sI, mL_sI, mL_sL, up2_oth hc, mL_sI]
  · rfl
theorem vI_12 {n y r c i : Nat} (h : vI n y r c i) : c ≠ 12 ∧ c ≠ 13 ∧ c ≠ 14 ∧ c ≠ 15 := by
  refine ⟨?_, ?_, ?_, ?_⟩ <;> rintro rfl <;> exact absurd (show 1 ≤ _ ∧ _ ≤ 8 ∧ _ from h).2.1 (by omega)
theorem vJ_3 {n c i : Nat} (h : vJ n c i) : c ≠ 3 := by
  rintro rfl
  exact h
theorem LandC.congr {g : Gc} {t : Nat} {pa : Nat → Nat} {n y r : Nat} {A B m : Mm} (h : LandC g t pa n y r A m) (e : ∀ c i, vI n y r c i → mI B c i = mI A c i) (e2 : ∀ c i, vJ n c i → mL B c i = mL A c i) : LandC g t pa n y r B m := ⟨fun c i hv => (h.1 c i hv).trans (e c i hv).symm, fun c i hv => (h.2 c i hv).trans (e2 c i hv).symm⟩
theorem LandR.congr {g : Gc} {l n y r : Nat} {A B m : Mm} (h : LandR g l n y r A m) (e : ∀ c i, vI n y r c i → mI B c i = mI A c i) (e2 : ∀ c i, vJ n c i → mL B c i = mL A c i) : LandR g l n y r B m := ⟨fun c i hv => (h.1 c i hv).trans (e c i hv.1).symm, fun c i hv => (h.2 c i hv).trans (e2 c i hv).symm⟩
theorem endsA_12 {A : Mm} {i k j : Nat} (hk : k < 2) : mI (endsA A i k) 12 j = if j = 2 * i + 1 then -1 else if j = 2 * i ∧ k = 0 then mI A 12 (2 * i + 1) else mI A 12 j := by
  unfold endsA
  rcases (show k = 0 ∨ k = 1 by omega) with rfl | rfl
  · rw [if_pos rfl, mI_sI]
    by_cases h1 : j = 2 * i + 1
    · subst h1; rw [up2_at, if_pos rfl]
    · rw [up2_sl h1, if_neg h1, mI_sI, up2_oth (by omega), mI_sL, mI_sI]
      by_cases h2 : j = 2 * i
      · subst h2; rw [up2_at, if_pos ⟨rfl, rfl⟩]
      · rw [up2_sl h2, if_neg (fun q => h2 q.1)]
  · rw [if_neg (by omega), mI_sI]
    by_cases h1 : j = 2 * i + 1
    · subst h1; rw [up2_at, if_pos rfl]
    · rw [up2_sl h1, if_neg h1, if_neg (by omega)]
theorem endsA_13 {A : Mm} {i k j : Nat} (hk : k < 2) : mI (endsA A i k) 13 j = (if j = 2 * i ∧ k = 0 then mI A 13 (2 * i + 1) else mI A 13 j) ∧ mL (endsA A i k) 3 j = (if j = 2 * i ∧ k = 0 then mL A 3 (2 * i + 1) else mL A 3 j) := by
  unfold endsA
  rcases (show k = 0 ∨ k = 1 by omega) with rfl | rfl
  · rw [if_pos rfl, mI_sI, up2_oth (by omega), mI_sI, mL_sI, mL_sI, mL_sL, mL_sI, mI_sL]
    by_cases h2 : j = 2 * i
    · subst h2; rw [up2_at, up2_at, if_pos ⟨rfl, rfl⟩, if_pos ⟨rfl, rfl⟩]; exact ⟨rfl, rfl⟩
    · rw [up2_sl h2, up2_sl h2, if_neg (fun q => h2 q.1), if_neg (fun q => h2 q.1), mI_sI, up2_oth (by omega)]; exact ⟨rfl, rfl⟩
  · rw [if_neg (by omega), mI_sI, up2_oth (by omega), mL_sI, if_neg (by omega), if_neg (by omega)]; exact ⟨rfl, rfl⟩
/-- of two loans on one receipt the banks differ, and there is no second without a first -/
def LnX (r : Nat) (A : Mm) : Prop := ∀ i, i < r → ¬ mI A 12 (2 * i + 1) = -1 → ¬ mI A 12 (2 * i) = -1 ∧ ¬ mI A 12 (2 * i) = mI A 12 (2 * i + 1)
/-- the references of one receipt are changed -/
theorem LC.refs {g : Gc} {pa : Nat → Nat} {y r i : Nat} {A A' m m' : Mm} (h : LC g pa y r A m) (hi : i < r) (hI : mI m' = mI m) (hL : mL m' = mL m) (hK : mK m' = mK m) (hC : mC m' = mC m) (hR : ∀ a j, ¬ (a = pa i ∧ 3 ≤ j) → mR m' a j = mR m a j) (eI : ∀ c j, c ≠ 12 → c ≠ 13 → mI A' c j = mI A c j) (eL : ∀ c j, c ≠ 3 → mL A' c j = mL A c j) (eo : ∀ j k, j < r → j ≠ i → k < 2 → mI A' 12 (2 * j + k) = mI A 12 (2 * j + k) ∧ mI A' 13 (2 * j + k) = mI A 13 (2 * j + k) ∧ mL A' 3 (2 * j + k) = mL A 3 (2 * j + k)) (hl : ∀ k, k < 2 → LnOne g m (mR m' (pa i) (3 + k)) (mI A' 12 (2 * i + k)) (mI A' 13 (2 * i + k)) (mL A' 3 (2 * i + k))) : LC g pa y r A' m' := by
  obtain ⟨hc, hp, hpap, hl0⟩ := h
  have tr : ∀ {o : Option Nat} {b d : Int32} {w : Int64}, LnOne g m o b d w → LnOne g m' o b d w := fun z => z.same (by omega) (fun q hq _ _ => ⟨by rw [hK]; exact hq, by rw [hI], by rw [hL]⟩)
  refine ⟨?_, hp, ⟨fun j hj => ?_, fun j h1 h2 => ?_⟩, fun j hj k hk => ?_⟩
  · refine LandC.congr (A := A) (hc.same (by omega) (fun a _ => ⟨by rw [hI], by rw [hL]⟩)) (fun c j hv => eI c j (vI_12 hv).1 (vI_12 hv).2.1) (fun c j hv => eL c j (vJ_3 hv))
  · have := hp.2 i hi
    rw [hR _ _ (by omega), hK, hC]; exact hpap.1 j hj
  · have := hp.2 i hi
    rw [hR _ _ (by omega)]; exact hpap.2 j h1 h2
  · by_cases hji : j = i
    · subst hji; exact tr (hl k hk)
    · rw [hR _ _ (fun q => hji (hp.1 j i hj hi q.1)), (eo j k hj hji hk).1, (eo j k hj hji hk).2.1, (eo j k hj hji hk).2.2]
      exact tr (hl0 j hj k hk)
theorem c_drop (g : Gc) {lv y r i k q : Nat} {A m : Mm} {pa : Nat → Nat} (hC : LC g pa y r A m) (hX : LnX r A) (hi : i < r) (hk : k < 2) (hq : mR m (pa i) (3 + k) = some q) {Q : Mm → Prop} (hQ : ∀ m', LC g pa y r (endsA A i k) m' → Fs g (PC g 2 pa r) 0 m m' → mI m' = mI m → mL m' = mL m → (Fr g m → Fr g m') → (k = 0 → mR m' (pa i) 3 = mR m (pa i) 4) → Q m') : CV g M_Receipt_drop (lv + 1) [va_rf (some (pa i)), va_rf (some q)] m Q := by
  have hk7 := (hC.2.2.1.1 i hi).2.1
  have hin : PC g 2 pa r (pa i) 3 := Or.inr ⟨i, hi, rfl⟩
  have fin7 : ∀ j, finR (mK m (pa i)) j = false := fun j => by rw [hk7]; exact finR7 j
  have l0 := hC.ln hi
  refine en_Receipt_drop g ⟨hk7, ?_⟩
  rcases (show k = 0 ∨ k = 1 by omega) with rfl | rfl
  · rw [if_pos hq]
    intro m1 e1 m2 e2
    have hR : ∀ a j, mR m2 a j = if a = pa i ∧ j = 3 then mR m (pa i) 4 else if a = pa i ∧ j = 4 then none else mR m a j := fun a j => by
      rw [e2, e1, mR_sR]
      by_cases h4 : a = pa i ∧ j = 4
      · rw [h4.1, h4.2, up2_at, if_neg (by omega), if_pos ⟨rfl, rfl⟩]
      · rw [up2_not h4, if_neg h4, mR_sR]
        by_cases h3 : a = pa i ∧ j = 3
        · rw [h3.1, h3.2, up2_at, if_pos ⟨rfl, rfl⟩]
        · rw [up2_not h3, if_neg h3]
    have hI : mI m2 = mI m := by rw [e2, e1]; rfl
    have hL : mL m2 = mL m := by rw [e2, e1]; rfl
    refine hQ m2 (hC.refs hi hI hL (by rw [e2, e1]; rfl) (by rw [e2, e1]; rfl) (fun a j hn => by rw [hR, if_neg (by omega), if_neg (by omega)]) (fun c j h1 h2 => endsA_I ⟨h1, h2⟩) (fun c j h => endsA_L h) (fun j k hj hne hk => ?_) (fun k hk => ?_)) ?_ hI hL (fun hF => by rw [e2, e1]; exact hF) (fun _ => by rw [hR, if_pos ⟨rfl, rfl⟩])
    · rw [endsA_12 (by omega), (endsA_13 (by omega)).1, (endsA_13 (by omega)).2, if_neg (by omega), if_neg (by omega), if_neg (by omega), if_neg (by omega)]
      exact ⟨rfl, rfl, rfl⟩
    · rw [endsA_12 (by omega), (endsA_13 (by omega)).1, (endsA_13 (by omega)).2, hR]
      rcases (show k = 0 ∨ k = 1 by omega) with rfl | rfl
      · rw [if_pos ⟨rfl, rfl⟩, if_neg (by omega), if_pos ⟨rfl, rfl⟩, if_pos ⟨rfl, rfl⟩, if_pos ⟨rfl, rfl⟩]
        exact l0.2
      · rw [if_neg (by omega), if_pos ⟨rfl, rfl⟩, if_pos rfl]
        exact Or.inl ⟨rfl, rfl⟩
    · rw [e2, e1]
      exact (Fs_sR (P := PC g 2 pa r) m (a := pa i) (j := 3) hin _ (Or.inl (fin7 3))).trans (Fs_sR (P := PC g 2 pa r) _ (a := pa i) (j := 4) hin none (Or.inl (fin7 4))) (fun _ _ _ z => z)
  · have h4 : mR m (pa i) 4 = some q := hq
    have hne : ¬ mR m (pa i) 3 = some q := by
      intro h3
      rcases l0.2 with ⟨e, -⟩ | ⟨q2, b2, e2, -, -, -, c2, d2, f2, -⟩
      · rw [h4] at e; exact absurd e (by simp)
      · rcases l0.1 with ⟨e, -⟩ | ⟨q1, b1, e1, -, -, -, c1, d1, f1, -⟩
        · rw [h3] at e; exact absurd e (by simp)
        · rw [h3] at e1
          rw [h4] at e2
          have x1 : q = q1 := by simpa using e1
          have x2 : q = q2 := by simpa using e2
          subst x1
          subst x2
          have := (hX i hi (by rw [d2]; exact nI_ne_m1 (by omega))).2
          exact this (f1.symm.trans f2)
    rw [if_neg hne, if_pos h4]
    intro m1 e1
    have hR : ∀ a j, mR m1 a j = if a = pa i ∧ j = 4 then none else mR m a j := fun a j => by
      rw [e1, mR_sR]
      by_cases h4 : a = pa i ∧ j = 4
      · rw [h4.1, h4.2, up2_at, if_pos ⟨rfl, rfl⟩]
      · rw [up2_not h4, if_neg h4]
    have hI : mI m1 = mI m := by rw [e1]; rfl
    have hL : mL m1 = mL m := by rw [e1]; rfl
    refine hQ m1 (hC.refs hi hI hL (by rw [e1]; rfl) (by rw [e1]; rfl) (fun a j hn => by rw [hR, if_neg (by omega)]) (fun c j h1 h2 => endsA_I ⟨h1, h2⟩) (fun c j h => endsA_L h) (fun j k hj hne hk => ?_) (fun k hk => ?_)) ?_ hI hL (fun hF => by rw [e1]; exact hF) (fun h => absurd h (by omega))
    · rw [endsA_12 (by omega), (endsA_13 (by omega)).1, (endsA_13 (by omega)).2, if_neg (by omega), if_neg (by omega), if_neg (by omega), if_neg (by omega)]
      exact ⟨rfl, rfl, rfl⟩
    · rw [endsA_12 (by omega), (endsA_13 (by omega)).1, (endsA_13 (by omega)).2, hR]
      rcases (show k = 0 ∨ k = 1 by omega) with rfl | rfl
      · rw [if_neg (by omega), if_neg (by omega), if_neg (by omega), if_neg (by omega), if_neg (by omega)]
        exact l0.1
      · rw [if_pos ⟨rfl, rfl⟩, if_pos rfl]
        exact Or.inl ⟨rfl, rfl⟩
    · rw [e1]
      exact Fs_sR (P := PC g 2 pa r) m (a := pa i) (j := 4) hin _ (Or.inl (fin7 4))
