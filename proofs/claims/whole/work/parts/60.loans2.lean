/-! ===== the loans that are due: what is kept; the class's loop ===== -/
def LoanI (n y p r : Nat) (A : Mm) : Prop := LnX r A ∧ (∀ i k, i < r → k < 2 → mI A 12 (2 * i + k) = -1 ∨ ∃ b : Nat, b < 3 ∧ mI A 12 (2 * i + k) = nI b) ∧ (∀ i, i < r → ¬ mI A 12 (2 * i) = -1 → ∃ h : Nat, h < n ∧ mI A 9 i = nI h) ∧ (mI A 0 3 = nI r ∧ r ≤ 400) ∧ mI A 0 0 = nI n ∧ mI A 0 1 = nI y ∧ mI A 0 2 = nI p
theorem LoanI.ends {n y p r i k : Nat} {A B : Mm} (h : LoanI n y p r A) (hi : i < r) (hk : k < 2) (hk1 : ¬ mI A 12 (2 * i + k) = -1) (e : ∀ c j, c ≠ 10 → ¬ (c = 0 ∧ j = 6) → mI B c j = mI A c j) : LoanI n y p r (endsA B i k) := by
  obtain ⟨hX, hB, hH, ⟨h3, h4⟩, h0, h1, h2⟩ := h
  have x : ∀ j, mI B 12 j = mI A 12 j := fun j => e 12 j (by omega) (by omega)
  have f0 : ¬ mI A 12 (2 * i) = -1 := by
    rcases (show k = 0 ∨ k = 1 by omega) with rfl | rfl
    · exact hk1
    · exact (hX i hi hk1).1
  refine ⟨fun j hj => ?_, fun j k' hj hk' => ?_, fun j hj => ?_, ⟨?_, h4⟩, ?_, ?_, ?_⟩
  · rw [endsA_12 hk, endsA_12 hk, x, x, x]
    by_cases hji : j = i
    · subst hji
      rw [if_pos rfl]
      intro z
      exact absurd rfl z
    · rw [if_neg (by omega), if_neg (by omega), if_neg (by omega), if_neg (by omega)]
      exact hX j hj
  · rw [endsA_12 hk, x, x]
    by_cases q1 : 2 * j + k' = 2 * i + 1
    · rw [if_pos q1]; exact Or.inl rfl
    · rw [if_neg q1]
      by_cases q2 : 2 * j + k' = 2 * i ∧ k = 0
      · rw [if_pos q2]; exact hB i 1 hi (by omega)
      · rw [if_neg q2]; exact hB j k' hj hk'
  · rw [endsA_12 hk, x, x, endsA_I (by omega), e 9 j (by omega) (by omega), if_neg (by omega)]
    by_cases q2 : 2 * j = 2 * i ∧ k = 0
    · have : j = i := by omega
      subst this
      intro _
      exact hH j hj f0
    · rw [if_neg q2]; exact hH j hj
  · rw [endsA_I (by omega), e 0 3 (by omega) (by omega)]; exact h3
  · rw [endsA_I (by omega), e 0 0 (by omega) (by omega)]; exact h0
  · rw [endsA_I (by omega), e 0 1 (by omega) (by omega)]; exact h1
  · rw [endsA_I (by omega), e 0 2 (by omega) (by omega)]; exact h2
theorem LoanI.take {n y p r i b : Nat} {A : Mm} (h : LoanI n y p r A) (hi : i < r) : LoanI n y p r (takeA (unpA A) i b) := by
  obtain ⟨hX, hB, hH, ⟨h3, h4⟩, h0, h1, h2⟩ := h
  have u : ∀ c j, ¬ (c = 0 ∧ j = 6) → mI (unpA A) c j = mI A c j := fun c j hn => by unfold unpA; rw [mI_sI, up2_not hn]
  refine ⟨fun j hj => ?_, fun j k' hj hk' => ?_, fun j hj => ?_, ⟨?_, h4⟩, ?_, ?_, ?_⟩
  · rw [takeA_12, takeA_12, u 12 _ (by omega), u 12 _ (by omega)]
    by_cases hji : j = i
    · subst hji
      rw [if_pos (Or.inr rfl)]
      intro z
      exact absurd rfl z
    · rw [if_neg (by omega), if_neg (by omega)]
      exact hX j hj
  · rw [takeA_12, u 12 _ (by omega)]
    by_cases q1 : 2 * j + k' = 2 * i ∨ 2 * j + k' = 2 * i + 1
    · rw [if_pos q1]; exact Or.inl rfl
    · rw [if_neg q1]; exact hB j k' hj hk'
  · rw [takeA_12, u 12 _ (by omega)]
    by_cases hji : j = i
    · subst hji
      rw [if_pos (Or.inl rfl)]
      intro z
      exact absurd rfl z
    · rw [if_neg (by omega), takeA_I (by omega) (by omega), u 9 j (by omega)]
      exact hH j hj
  · rw [takeA_I (by omega) (by omega), u 0 3 (by omega)]; exact h3
  · rw [takeA_I (by omega) (by omega), u 0 0 (by omega)]; exact h0
  · rw [takeA_I (by omega) (by omega), u 0 1 (by omega)]; exact h1
  · rw [takeA_I (by omega) (by omega), u 0 2 (by omega)]; exact h2
theorem LoanI.iss {n y p r : Nat} {A : Mm} {h s yy : Int32} (H : LoanI n y p r A) (hr : r < 400) : LoanI n y p (r + 1) (issM A r h s yy) := by
  obtain ⟨hX, hB, hH, ⟨h3, h4⟩, h0, h1, h2⟩ := H
  have o : ∀ c j, c ≠ 12 → ¬ ((c = 9 ∨ c = 10 ∨ c = 11) ∧ j = r) → ¬ (c = 0 ∧ j = 3) → mI (issM A r h s yy) c j = mI A c j := fun c j a b d => by unfold issM; rw [issL_oth a, issA_oth b d]
  have o12 : ∀ j, mI (issM A r h s yy) 12 j = if j = 2 * r ∨ j = 2 * r + 1 then -1 else mI A 12 j := fun j => by unfold issM; rw [issL_12, issA_oth (by omega) (by omega)]
  refine ⟨fun j hj => ?_, fun j k' hj hk' => ?_, fun j hj => ?_, ⟨?_, by omega⟩, ?_, ?_, ?_⟩
  · rw [o12, o12]
    by_cases hjr : j = r
    · rw [if_pos (by omega)]; intro z; exact absurd rfl z
    · rw [if_neg (by omega), if_neg (by omega)]; exact hX j (by omega)
  · rw [o12]
    by_cases hjr : j = r
    · rw [if_pos (by omega)]; exact Or.inl rfl
    · rw [if_neg (by omega)]; exact hB j k' (by omega) hk'
  · rw [o12]
    by_cases hjr : j = r
    · rw [if_pos (by omega)]; intro z; exact absurd rfl z
    · rw [if_neg (by omega), o 9 j (by omega) (by omega) (by omega)]; exact hH j (by omega)
  · unfold issM
    rw [issL_oth (by omega)]
    unfold issA
    rw [mI_sI, up2_at]
  · rw [o 0 0 (by omega) (by omega) (by omega)]; exact h0
  · rw [o 0 1 (by omega) (by omega) (by omega)]; exact h1
  · rw [o 0 2 (by omega) (by omega) (by omega)]; exact h2
theorem LoanI.same {n y p r : Nat} {A B : Mm} (h : LoanI n y p r A) (e : ∀ c j, c ≠ 10 → ¬ (c = 0 ∧ j = 6) → mI B c j = mI A c j) : LoanI n y p r B := by
  obtain ⟨hX, hB, hH, ⟨h3, h4⟩, h0, h1, h2⟩ := h
  refine ⟨fun j hj => ?_, fun j k' hj hk' => ?_, fun j hj => ?_, ⟨?_, h4⟩, ?_, ?_, ?_⟩
  · rw [e 12 _ (by omega) (by omega), e 12 _ (by omega) (by omega)]; exact hX j hj
  · rw [e 12 _ (by omega) (by omega)]; exact hB j k' hj hk'
  · rw [e 12 _ (by omega) (by omega), e 9 _ (by omega) (by omega)]; exact hH j hj
  · rw [e 0 3 (by omega) (by omega)]; exact h3
  · rw [e 0 0 (by omega) (by omega)]; exact h0
  · rw [e 0 1 (by omega) (by omega)]; exact h1
  · rw [e 0 2 (by omega) (by omega)]; exact h2
theorem LoanI.close {n y p r i k h b : Nat} {A : Mm} (H : LoanI n y p r A) (hi : i < r) (hk : k < 2) (hk1 : ¬ mI A 12 (2 * i + k) = -1) : LoanI n y p (closeA A r i k h b).2 (closeA A r i k h b).1 ∧ (closeA A r i k h b).2 ≤ r + 1 ∧ r ≤ (closeA A r i k h b).2 ∧ mI (closeA A r i k h b).1 12 (2 * i + 1) = -1 := by
  unfold closeA
  have h4 := H.2.2.2.1.2
  split
  · refine ⟨H.ends hi hk hk1 (fun c j _ _ => rfl), by show r ≤ r + 1; omega, by show r ≤ r; omega, ?_⟩
    show mI (payA A i k h b) 12 (2 * i + 1) = -1
    unfold payA
    rw [endsA_12 hk, if_pos rfl]
  · split
    · refine ⟨H.take hi, by show r ≤ r + 1; omega, by show r ≤ r; omega, ?_⟩
      show mI (takeA _ _ _) 12 (2 * i + 1) = -1
      rw [takeA_12, if_pos (Or.inr rfl)]
    · rename_i hno
      have r4 : r < 400 := by
        rcases Nat.lt_or_ge r 400 with q | q
        · exact q
        · exact absurd (Or.inr (by omega)) hno
      refine ⟨?_, by show r + 1 ≤ r + 1; omega, by show r ≤ r + 1; omega, ?_⟩
      · show LoanI n y p (r + 1) (partA A r i k b)
        unfold partA
        have H1 : LoanI n y p r (sI (unpA A) 10 i (mI A 10 i - (needV A i k).toInt32)) := H.same (fun c j hc hn => by rw [mI_sI, up2_oth hc]; unfold unpA; rw [mI_sI, up2_not hn])
        have H2 := H1.iss (h := nI (12 + b)) (s := (needV A i k).toInt32) (yy := mI A 11 i) r4
        refine H2.ends (by omega) hk ?_ (fun c j _ _ => rfl)
        unfold issM
        rw [issL_12, if_neg (by omega), issA_oth (by omega) (by omega), mI_sI, up2_oth (by omega)]
        unfold unpA
        rw [mI_sI, up2_oth (by omega)]
        exact hk1
      · show mI (partA A r i k b) 12 (2 * i + 1) = -1
        unfold partA
        rw [endsA_12 hk, if_pos rfl]
def hO (A : Mm) (i : Nat) : Nat := (mI A 9 i).toNatClampNeg
def bO (A : Mm) (i k : Nat) : Nat := (mI A 12 (2 * i + k)).toNatClampNeg
def clsA (A : Mm) (r i k : Nat) : Mm × Nat := closeA A r i k (hO A i) (bO A i k)
def DueA (A : Mm) (i k y : Nat) : Prop := ¬ mI A 12 (2 * i + k) = -1 ∧ mI A 13 (2 * i + k) ≤ nI y
theorem dueA_dec (A : Mm) (i k y : Nat) : DueA A i k y ∨ ¬ DueA A i k y := Classical.em _
noncomputable def dueS (A : Mm) (r i y : Nat) : Mm × Nat := @ite _ (DueA A i 0 y) (Classical.propDecidable _) (@ite _ (DueA (clsA A r i 0).1 i 0 y) (Classical.propDecidable _) (clsA (clsA A r i 0).1 (clsA A r i 0).2 i 0) (clsA A r i 0)) (@ite _ (DueA A i 1 y) (Classical.propDecidable _) (clsA A r i 1) (A, r))
noncomputable def duesA (A : Mm) (r y : Nat) : Nat → Mm × Nat
  | 0 => (A, r)
  | k + 1 => dueS (duesA A r y k).1 (duesA A r y k).2 k y
theorem LoanI.hb {n y p r i k : Nat} {A : Mm} (H : LoanI n y p r A) (h12 : n ≤ 12) (hi : i < r) (hk : k < 2) (hk1 : ¬ mI A 12 (2 * i + k) = -1) : hO A i < n ∧ mI A 9 i = nI (hO A i) ∧ bO A i k < 3 ∧ mI A 12 (2 * i + k) = nI (bO A i k) := by
  obtain ⟨hX, hB, hH, -⟩ := H
  have f0 : ¬ mI A 12 (2 * i) = -1 := by
    rcases (show k = 0 ∨ k = 1 by omega) with rfl | rfl
    · exact hk1
    · exact (hX i hi hk1).1
  obtain ⟨h, hh, e⟩ := hH i hi f0
  rcases hB i k hi hk with q | ⟨b, hb, e2⟩
  · exact absurd q hk1
  · unfold hO bO
    rw [e, e2, nI_clamp (by omega), nI_clamp (by omega)]
    exact ⟨hh, rfl, hb, rfl⟩
theorem c_close (g : Gc) {lv n y p Y r i k q : Nat} {A m : Mm} {pa : Nat → Nat} (hS : Sg g m) (hF : Fr g m) (hC : LC g pa Y r A m) (H : LoanI n y p r A) (h12 : n ≤ 12) (hp1 : 1 ≤ p) (hp2 : p ≤ 10000) (hi : i < r) (hk : k < 2) (hq : mR m (pa i) (3 + k) = some q) {Q : Mm → Prop} (h0 : ¬ DueA A i k y → Q m) (hQ : DueA A i k y → ∀ pa' m', LC g pa' Y (clsA A r i k).2 (clsA A r i k).1 m' → (∀ j, j < r → pa' j = pa j) → (∀ j, r ≤ j → j < (clsA A r i k).2 → gz g + mC m ≤ pa' j) → Fs g (PC g 2 pa r) 1 m m' → Fr g m' → Sg g m' → (k = 0 → mR m' (pa i) 3 = none ∨ mR m' (pa i) 3 = mR m (pa i) 4) → Q m') : CV g M_Land_closeIfDue (lv + 5) [va_rf (some (gz g + 2)), va_rf (some (pa i)), va_rf (some q)] m Q := by
  obtain ⟨k6, q184, qu, q0, q1, q2, qn, -⟩ := hC.one hi hk hq
  obtain ⟨hh, h9, hb, hbb⟩ := H.hb h12 hi hk qn
  have p7 := (hC.2.2.1.1 i hi).2.1
  obtain ⟨hX, hB, hH, ⟨h3, h4⟩, z0, z1, z2⟩ := id H
  refine en_Land_closeIfDue g ⟨pa i, rfl, p7, en_Receipt_bears g ?_⟩
  rw [if_neg (by simp)]
  refine ⟨p7, ?_⟩
  have body : q = q → ((∃ b9, some q = some b9 ∧ mK m b9 = 6 ∧ mK m (gz g + 2) = 4 ∧ if mI m b9 1 ≤ mI m (gz g + 2) 9 then CJ g M_Land_moneyOf (lv + 4) [va_rf (some (gz g + 2)), .int (mI m (pa i) 0)] m (fun x14 m15 => if x14 < mL m15 b9 2 then CV g M_Land_seize (lv + 4) [va_rf (some (gz g + 2)), va_rf (some (pa i)), va_rf (some b9)] m15 (fun m21 => Q m21) else CV g M_Land_payBack (lv + 4) [va_rf (some (gz g + 2)), va_rf (some (pa i)), va_rf (some b9)] m15 (fun m26 => Q m26)) else Q m)) := by
    intro _
    refine ⟨q, rfl, k6, hS.k 2 rfl, ?_⟩
    rw [q1, hC.yr, z1]
    by_cases hd : mI A 13 (2 * i + k) ≤ nI y
    · rw [if_pos hd, (hC.rc hi).1, h9]
      have hQ1 := hQ ⟨qn, hd⟩
      refine c_moneyOf g hS (Or.inl rfl) hC.1 z0 h12 (by omega) hh ?_
      rw [q2]
      by_cases hm : mL A 0 (hO A i) < mL A 3 (2 * i + k)
      · rw [if_pos hm]
        exact c_seize g (n := n) hS hF hC hX h4 h3 hi hk hq hbb hb z2 hp1 hp2 (h := hO A i) (by rw [i64_le]; rw [i64_lt] at hm; omega) hQ1
      · rw [if_neg hm]
        have hle : mL A 3 (2 * i + k) ≤ mL A 0 (hO A i) := by rw [i64_le]; rw [i64_lt] at hm; omega
        refine c_payBack g hS hF hC hX z0 h12 hi hk hq h9 hh hbb hb (fun m1 c1 f1 F1 S1 w1 r1 => ?_)
        have ec : clsA A r i k = (payA A i k (hO A i) (bO A i k), r) := by unfold clsA closeA; rw [if_pos hle]
        rw [ec] at hQ1
        exact hQ1 pa m1 c1 (fun _ _ => rfl) (fun j a b => absurd b (by show ¬ j < r; omega)) (f1.weak (fun _ _ _ z => z) (by omega)) F1 S1 (fun hk0 => Or.inr (r1 hk0))
    · rw [if_neg hd]
      exact h0 (fun z => hd z.2)
  rcases (show k = 0 ∨ k = 1 by omega) with rfl | rfl
  · rw [if_pos hq, if_neg (by decide)]
    exact body rfl
  · by_cases h3' : mR m (pa i) 3 = some q
    · rw [if_pos h3', if_neg (by decide)]
      exact body rfl
    · rw [if_neg h3', if_pos hq, if_neg (by decide)]
      exact body rfl
