/-! ===== the bounds are kept by every call ===== -/
theorem Good.frz {n y p r r' : Nat} {A B : Mm} (G : Good n y p r A) (e : ∀ c j, ¬ (9 ≤ c ∧ c ≤ 13) → c ≠ 7 → ¬ (c = 0 ∧ (j = 3 ∨ j = 6)) → mI B c j = mI A c j) (e7 : ∀ j, n ≤ j → j < 12 → mI B 7 j = mI A 7 j) (H : LoanI n y p r' B) (hP : ∃ (v : Nat → Nat) (tot : Nat), frN n B v ∧ sumN v n + tot ≤ 6000000 * y ∧ Pp n r' tot B) (hL : ∀ j, n ≤ j → j < 12 → mL B 0 j = mL A 0 j ∧ mL B 1 j = mL A 1 j) : Good n y p r' B := by
  obtain ⟨-, b, -, ⟨gv, ga, gb, gt, gy⟩, hbk, h5, hbl⟩ := G
  refine ⟨H, b, hP, ⟨fun j hj => ?_, fun j hj => ?_, fun j hj => ?_, fun k j hk hj => ?_, fun k hk => ?_⟩, fun q hq => ?_, ?_, fun hy j h1 h2 => ?_⟩
  · rw [e 1 j (by omega) (by omega) (by omega)]; exact gv j hj
  · rw [e 2 j (by omega) (by omega) (by omega)]; exact ga j hj
  · rw [e 3 j (by omega) (by omega) (by omega), e 4 j (by omega) (by omega) (by omega), e 5 j (by omega) (by omega) (by omega), e 6 j (by omega) (by omega) (by omega)]; exact gb j hj
  · rw [e 16 _ (by omega) (by omega) (by omega)]; exact gt k j hk hj
  · rw [e 19 _ (by omega) (by omega) (by omega)]; exact gy k hk
  · rw [e 21 _ (by omega) (by omega) (by omega), e 22 _ (by omega) (by omega) (by omega)]; exact hbk q hq
  · rw [e 0 5 (by omega) (by omega) (by omega), e 20 _ (by omega) (by omega) (by omega)]; exact h5
  · rw [e 4 j (by omega) (by omega) (by omega), e 5 j (by omega) (by omega) (by omega), e 6 j (by omega) (by omega) (by omega), e7 j h1 h2, e 8 j (by omega) (by omega) (by omega), (hL j h1 h2).1, (hL j h1 h2).2]
    exact hbl hy j h1 h2
theorem Good.bank {n y p r j q s : Nat} {A : Mm} (G : Good n y p r A) (hq : q ≤ 100) (hs : s ≤ 100) : Good n y p r (sI (sI A 21 j (nI q)) 22 j (nI s)) := by
  obtain ⟨H, b, ⟨v, tot, hv, ht, hh, ⟨u, hu, hut⟩, hf, how⟩, ⟨gv, ga, gb, gt, gy⟩, hbk, h5, hbl⟩ := G
  have e : ∀ c i, c ≠ 21 → c ≠ 22 → mI (sI (sI A 21 j (nI q)) 22 j (nI s)) c i = mI A c i := fun c i h1 h2 => by rw [mI_sI, up2_oth h2, mI_sI, up2_oth h1]
  refine ⟨H.same2 (fun c i hc => e c i (by omega) (by omega)), b, ⟨v, tot, fun i hi => by rw [e 7 i (by omega) (by omega)]; exact hv i hi, ht, fun i hi => by rw [e 9 i (by omega) (by omega)]; exact hh i hi, ⟨u, fun i hi => by rw [e 10 i (by omega) (by omega)]; exact hu i hi, hut⟩, fun i hi => by rw [e 11 i (by omega) (by omega)]; exact hf i hi, fun i k hi hk hn => ?_⟩, ⟨fun i hi => ?_, fun i hi => ?_, fun i hi => ?_, fun k i hk hi => ?_, fun k hk => ?_⟩, fun x hx => ?_, ?_, fun hy i h1 h2 => ?_⟩
  · rw [e 12 _ (by omega) (by omega)] at hn; exact how i k hi hk hn
  · rw [e 1 i (by omega) (by omega)]; exact gv i hi
  · rw [e 2 i (by omega) (by omega)]; exact ga i hi
  · rw [e 3 i (by omega) (by omega), e 4 i (by omega) (by omega), e 5 i (by omega) (by omega), e 6 i (by omega) (by omega)]; exact gb i hi
  · rw [e 16 _ (by omega) (by omega)]; exact gt k i hk hi
  · rw [e 19 _ (by omega) (by omega)]; exact gy k hk
  · rw [mI_sI, up2_oth (by omega), mI_sI]
    by_cases hxj : x = j
    · subst hxj
      exact ⟨q, s, hq, hs, by rw [up2_at], by rw [up2_at]⟩
    · rw [up2_sl hxj, up2_sl hxj, up2_oth (by omega)]; exact hbk x hx
  · rw [e 0 5 (by omega) (by omega), e 20 _ (by omega) (by omega)]; exact h5
  · rw [e 4 i (by omega) (by omega), e 5 i (by omega) (by omega), e 6 i (by omega) (by omega), e 7 i (by omega) (by omega), e 8 i (by omega) (by omega)]
    exact hbl hy i h1 h2
theorem come_I {A : Mm} {n c i : Nat} {v a : Int32} (h : ¬ ((c = 1 ∨ c = 2 ∨ c = 3) ∧ i = n)) (h16 : ¬ (c = 16 ∧ i % 12 = n ∧ i < 360)) (h0 : ¬ (c = 0 ∧ i = 0)) : mI (come A n v a) c i = mI A c i := by
  unfold come fillT
  rw [mI_sI, up2_not (by omega)]
  by_cases hc : c = 16
  · subst hc
    rw [mI_rI, if_neg (by omega), mI_sI, up2_oth (by omega), mI_sI, up2_oth (by omega), mI_sI, up2_oth (by omega)]
  · rw [mI_rI_ne hc, mI_sI, up2_not (by omega), mI_sI, up2_not (by omega), mI_sI, up2_not (by omega)]
theorem come_at {A : Mm} {n : Nat} {v a : Int32} : mI (come A n v a) 1 n = v ∧ mI (come A n v a) 2 n = a ∧ mI (come A n v a) 3 n = a ∧ mI (come A n v a) 0 0 = nI (n + 1) ∧ ∀ i, i % 12 = n → i < 360 → mI (come A n v a) 16 i = -1 := by
  unfold come fillT
  refine ⟨?_, ?_, ?_, ?_, fun i h1 h2 => ?_⟩
  · rw [mI_sI, up2_oth (by omega), mI_rI_ne (by omega), mI_sI, up2_oth (by omega), mI_sI, up2_oth (by omega), mI_sI, up2_at]
  · rw [mI_sI, up2_oth (by omega), mI_rI_ne (by omega), mI_sI, up2_oth (by omega), mI_sI, up2_at]
  · rw [mI_sI, up2_oth (by omega), mI_rI_ne (by omega), mI_sI, up2_at]
  · rw [mI_sI, up2_at]
  · rw [mI_sI, up2_oth (by omega), mI_rI, if_pos ⟨h1, h2⟩]
theorem Good.grower {n p r v' a' : Nat} {A : Mm} (G : Good n 0 p r A) (hn : n < 12) (hv' : v' ≤ 7) (ha' : a' ≤ 1000) : Good (n + 1) 0 p r (come A n (nI v') (nI a')) := by
  obtain ⟨H, b, ⟨v, tot, hv, ht, hh, ⟨u, hu, hut⟩, hf, how⟩, ⟨gv, ga, gb, gt, gy⟩, hbk, h5, hbl⟩ := G
  obtain ⟨c1, c2, c3, c4, c5⟩ := come_at (A := A) (n := n) (v := nI v') (a := nI a')
  obtain ⟨z4, z5, z6, z7, z8, zm, zr⟩ := hbl rfl n (Nat.le_refl _) hn
  have e : ∀ c i, ¬ ((c = 1 ∨ c = 2 ∨ c = 3) ∧ i = n) → c ≠ 16 → ¬ (c = 0 ∧ i = 0) → mI (come A n (nI v') (nI a')) c i = mI A c i := fun c i h1 h2 h3 => come_I h1 (by omega) h3
  refine ⟨?_, ⟨by omega, b.2.1, b.2.2.1, b.2.2.2⟩, ⟨fun j => if j = n then 0 else v j, tot, fun j hj => ?_, ?_, fun i hi => ?_, ⟨u, fun i hi => by rw [e 10 i (by omega) (by omega) (by omega)]; exact hu i hi, hut⟩, fun i hi => by rw [e 11 i (by omega) (by omega) (by omega)]; exact hf i hi, fun i k hi hk hq => ?_⟩, ⟨fun j hj => ?_, fun j hj => ?_, fun j hj => ?_, fun k j hk hj => ?_, fun k hk => absurd hk (by omega)⟩, fun x hx => ?_, ?_, fun hy i h1 h2 => ?_⟩
  · obtain ⟨d1, d2, d3, d4, d5, d6, d7⟩ := H
    refine ⟨fun i hi => ?_, fun i k hi hk => ?_, fun i hi => ?_, ⟨?_, d4.2⟩, c4, ?_, ?_⟩
    · rw [e 12 _ (by omega) (by omega) (by omega), e 12 _ (by omega) (by omega) (by omega)]; exact d1 i hi
    · rw [e 12 _ (by omega) (by omega) (by omega)]; exact d2 i k hi hk
    · rw [e 12 _ (by omega) (by omega) (by omega), e 9 _ (by omega) (by omega) (by omega)]
      intro q
      obtain ⟨h, x1, x2⟩ := d3 i hi q
      exact ⟨h, by omega, x2⟩
    · rw [e 0 3 (by omega) (by omega) (by omega)]; exact d4.1
    · rw [e 0 1 (by omega) (by omega) (by omega)]; exact d6
    · rw [e 0 2 (by omega) (by omega) (by omega)]; exact d7
  · rw [e 7 j (by omega) (by omega) (by omega)]
    by_cases hjn : j = n
    · subst hjn; simp only [if_true]; exact ⟨z7, by omega⟩
    · simp only [if_neg hjn]; exact hv j (by omega)
  · show sumN (fun j => if j = n then 0 else v j) n + (if n = n then 0 else v n) + tot ≤ _
    rw [if_pos rfl, sumN_congr (v := v) n (fun j hj => by simp only [if_neg (show ¬ j = n by omega)])]
    omega
  · obtain ⟨h, x1, x2⟩ := hh i hi
    exact ⟨h, by rw [e 9 i (by omega) (by omega) (by omega)]; exact x1, by omega⟩
  · rw [e 12 _ (by omega) (by omega) (by omega)] at hq; exact how i k hi hk hq
  · by_cases hjn : j = n
    · subst hjn; exact ⟨v', by omega, c1⟩
    · rw [e 1 j (by omega) (by omega) (by omega)]; exact gv j (by omega)
  · by_cases hjn : j = n
    · subst hjn; exact ⟨a', ha', c2⟩
    · rw [e 2 j (by omega) (by omega) (by omega)]; exact ga j (by omega)
  · rw [e 4 j (by omega) (by omega) (by omega), e 5 j (by omega) (by omega) (by omega), e 6 j (by omega) (by omega) (by omega)]
    by_cases hjn : j = n
    · subst hjn; exact ⟨a', 0, 0, 0, c3, z4, z5, z6, by omega⟩
    · rw [e 3 j (by omega) (by omega) (by omega)]; exact gb j (by omega)
  · by_cases hjn : j = n
    · subst hjn
      have := c5 (12 * k + j) (by omega) (by omega)
      exact ⟨Or.inl this, fun _ => this⟩
    · rw [come_I (by omega) (by omega) (by omega)]; exact gt k j hk (by omega)
  · rw [e 21 _ (by omega) (by omega) (by omega), e 22 _ (by omega) (by omega) (by omega)]; exact hbk x hx
  · rw [if_pos rfl, e 0 5 (by omega) (by omega) (by omega)]
    rw [if_pos rfl] at h5
    exact h5
  · rw [e 4 i (by omega) (by omega) (by omega), e 5 i (by omega) (by omega) (by omega), e 6 i (by omega) (by omega) (by omega), e 7 i (by omega) (by omega) (by omega), e 8 i (by omega) (by omega) (by omega)]
    exact hbl rfl i (by omega) h2
/-- only what is told changes -/
theorem Good.told {n y p r : Nat} {A B : Mm} (G : Good n y p r A) (e : ∀ c i, c ≠ 16 → mI B c i = mI A c i) (eL : mL B = mL A) (ht : ToldOK n y B) : Good n y p r B := by
  obtain ⟨H, b, ⟨v, tot, hv, hs, hh, ⟨u, hu, hut⟩, hf, how⟩, ⟨gv, ga, gb, gt, gy⟩, hbk, h5, hbl⟩ := G
  refine ⟨H.same2 (fun c i hc => e c i (by omega)), b, ⟨v, tot, fun i hi => by rw [e 7 i (by omega)]; exact hv i hi, hs, fun i hi => by rw [e 9 i (by omega)]; exact hh i hi, ⟨u, fun i hi => by rw [e 10 i (by omega)]; exact hu i hi, hut⟩, fun i hi => by rw [e 11 i (by omega)]; exact hf i hi, fun i k hi hk hn => ?_⟩, ⟨fun i hi => ?_, fun i hi => ?_, fun i hi => ?_, ht, fun k hk => ?_⟩, fun x hx => ?_, ?_, fun hy i h1 h2 => ?_⟩
  · rw [e 12 _ (by omega)] at hn
    rw [eL]; exact how i k hi hk hn
  · rw [e 1 i (by omega)]; exact gv i hi
  · rw [e 2 i (by omega)]; exact ga i hi
  · rw [e 3 i (by omega), e 4 i (by omega), e 5 i (by omega), e 6 i (by omega)]; exact gb i hi
  · rw [e 19 _ (by omega)]; exact gy k hk
  · rw [e 21 _ (by omega), e 22 _ (by omega)]; exact hbk x hx
  · rw [e 0 5 (by omega), e 20 _ (by omega)]; exact h5
  · rw [e 4 i (by omega), e 5 i (by omega), e 6 i (by omega), e 7 i (by omega), e 8 i (by omega), eL]
    exact hbl hy i h1 h2
theorem tellA_16 {A : Mm} {y j i : Nat} {s : Int32} : mI (tellA A y j s) 16 i = if y < 30 ∧ i = 12 * y + j then s else mI A 16 i := by
  unfold tellA
  by_cases h : y < 30
  · rw [if_pos h, mI_sI]
    by_cases hi : i = 12 * y + j
    · rw [hi, up2_at, if_pos ⟨h, rfl⟩]
    · rw [up2_sl hi, if_neg (fun z => hi z.2)]
  · rw [if_neg h, if_neg (fun z => h z.1)]
theorem ToldOK.tell {n y j s : Nat} {A : Mm} (h : ToldOK n y A) (hj : j < 12) (hs : s ≤ 500000) : ToldOK n y (tellA A y j (nI s)) := fun k i hk hi => by
  rw [tellA_16]
  by_cases e : y < 30 ∧ 12 * k + i = 12 * y + j
  · rw [if_pos e]
    exact ⟨Or.inr ⟨s, hs, rfl⟩, fun q => absurd q (by
      have : k = y ∨ i ≥ 12 ∨ k < y := by omega
      omega)⟩
  · rw [if_neg e]; exact h k i hk hi
theorem tellNA_oth {A : Mm} {y c i : Nat} {f : Nat → Int32} (h : c ≠ 16) : ∀ k, mI (tellNA A y f k) c i = mI A c i
  | 0 => rfl
  | k + 1 => by
    show mI (tellA _ _ _ _) c i = _
    rw [tell_oth h, tellNA_oth h k]
theorem tellNA_L {A : Mm} {y : Nat} {f : Nat → Int32} : ∀ k, mL (tellNA A y f k) = mL A
  | 0 => rfl
  | k + 1 => by
    show mL (tellA _ _ _ _) = _
    rw [tell_L, tellNA_L k]
theorem tellNA_16 {A : Mm} {y i : Nat} {f : Nat → Int32} (h : i / 12 ≠ y) : ∀ k, k ≤ 12 → mI (tellNA A y f k) 16 i = mI A 16 i
  | 0, _ => rfl
  | k + 1, hk => by
    show mI (tellA _ _ _ _) 16 i = _
    rw [tellA_16, if_neg (by omega), tellNA_16 h k (by omega)]
theorem ToldOK.tellN {n y : Nat} {A : Mm} {f : Nat → Int32} (h : ToldOK n y A) (hn : n ≤ 12) (hf : ∀ j, j < n → ∃ s : Nat, s ≤ 500000 ∧ f j = nI s) : ∀ k, k ≤ n → ToldOK n y (tellNA A y f k)
  | 0, _ => h
  | k + 1, hk => by
    obtain ⟨s, hs, e⟩ := hf k (by omega)
    show ToldOK n y (tellA _ _ _ (f k))
    rw [e]
    exact (ToldOK.tellN h hn hf k (by omega)).tell (by omega) hs
theorem Good.right {n y p r j k : Nat} {A : Mm} {s : Int32} (G : Good n y p r A) (hk : k < y) : Good n y p r (rightA A j k s) := by
  have e : ∀ c i, c ≠ 17 → mI (rightA A j k s) c i = mI A c i := fun c i h => by
    unfold rightA
    rw [mI_sI, up2_oth h, mI_sL]
  obtain ⟨H, b, ⟨v, tot, hv, hs, hh, ⟨u, hu, hut⟩, hf, how⟩, ⟨gv, ga, gb, gt, gy⟩, hbk, h5, hbl⟩ := G
  refine ⟨H.same2 (fun c i hc => e c i (by omega)), b, ⟨v, tot, fun i hi => by rw [e 7 i (by omega)]; exact hv i hi, hs, fun i hi => by rw [e 9 i (by omega)]; exact hh i hi, ⟨u, fun i hi => by rw [e 10 i (by omega)]; exact hu i hi, hut⟩, fun i hi => by rw [e 11 i (by omega)]; exact hf i hi, fun i k' hi hk' hn => ?_⟩, ⟨fun i hi => ?_, fun i hi => ?_, fun i hi => ?_, fun k' i hk' hi => ?_, fun k' hk' => ?_⟩, fun x hx => ?_, ?_, fun hy => absurd hy (by omega)⟩
  · rw [e 12 _ (by omega)] at hn
    obtain ⟨w, w1, w2⟩ := how i k' hi hk' hn
    refine ⟨w, w1, ?_⟩
    unfold rightA
    rw [mL_sI, mL_sL, up2_oth (by omega)]; exact w2
  · rw [e 1 i (by omega)]; exact gv i hi
  · rw [e 2 i (by omega)]; exact ga i hi
  · rw [e 3 i (by omega), e 4 i (by omega), e 5 i (by omega), e 6 i (by omega)]; exact gb i hi
  · rw [e 16 _ (by omega)]; exact gt k' i hk' hi
  · rw [e 19 _ (by omega)]; exact gy k' hk'
  · rw [e 21 _ (by omega), e 22 _ (by omega)]; exact hbk x hx
  · rw [e 0 5 (by omega), e 20 _ (by omega)]; exact h5
theorem LoanI.same2' {n y p r : Nat} {A B : Mm} (h : LoanI n y p r A) (e : ∀ c j, c ≠ 10 → c ≠ 7 → mI B c j = mI A c j) : LoanI n y p r B := by
  obtain ⟨a, b, c, d, f, k, l⟩ := h
  refine ⟨fun i hi => ?_, fun i k hi hk => ?_, fun i hi => ?_, ⟨(e 0 3 (by omega) (by omega)).trans d.1, d.2⟩, (e 0 0 (by omega) (by omega)).trans f, (e 0 1 (by omega) (by omega)).trans k, (e 0 2 (by omega) (by omega)).trans l⟩
  · rw [e 12 _ (by omega) (by omega), e 12 _ (by omega) (by omega)]; exact a i hi
  · rw [e 12 _ (by omega) (by omega)]; exact b i k hi hk
  · rw [e 12 _ (by omega) (by omega), e 9 _ (by omega) (by omega)]; exact c i hi
theorem payA_L {n i k h b j : Nat} {A : Mm} (h1 : n ≤ j) (h2 : j < 12) (hh : h < n) (hb : b < 3) : mL (payA A i k h b) 0 j = mL A 0 j ∧ mL (payA A i k h b) 1 j = mL A 1 j := by
  unfold payA
  rw [endsA_L (by omega), endsA_L (by omega)]
  unfold payB
  rw [mL_sL, up2_sl (by omega), up2_oth (by omega), mL_sL, up2_sl (by omega), up2_oth (by omega)]
  exact ⟨rfl, rfl⟩
theorem Good.sk {n y p r : Nat} {A : Mm} (G : Good n y p r A) : ∀ i, i < r → ∃ s : Nat, s < 2 ^ 31 ∧ mI A 10 i = nI s := fun i hi => by
  obtain ⟨-, -, ⟨v, tot, hv, hs, hh, ⟨u, hu, hut⟩, hf, how⟩, -⟩ := G
  exact ⟨u i, (hu i hi).2, (hu i hi).1⟩
theorem Good.hold {n y p r : Nat} {A : Mm} (G : Good n y p r A) : HoldOK n r A := by
  obtain ⟨-, -, ⟨v, tot, hv, hs, hh, -⟩, -⟩ := G
  exact hh
theorem Good.f30 {n y p r : Nat} {A : Mm} (G : Good n y p r A) : F30 r A := by
  obtain ⟨-, -, ⟨v, tot, hv, hs, hh, -, hf, -⟩, -⟩ := G
  exact hf
theorem Good.split {n y p r i q s : Nat} {A : Mm} (G : Good n y p r A) (hi : i < r) (hr : r < 400) (hs : mI A 10 i = nI s) (hs2 : s < 2 ^ 31) (hq : q ≤ s) : Good n y p (r + 1) (issM (sI A 10 i (nI (s - q))) r (mI A 9 i) (nI q) (mI A 11 i)) := by
  obtain ⟨v, tot, hv, ht, hP⟩ := id G.2.2.1
  have e : ∀ c j, ¬ (9 ≤ c ∧ c ≤ 13) → ¬ (c = 0 ∧ j = 3) → mI (issM (sI A 10 i (nI (s - q))) r (mI A 9 i) (nI q) (mI A 11 i)) c j = mI A c j := fun c j h1 h2 => by
    rw [issM_oth (by omega) (by omega) (by omega), mI_sI, up2_oth (by omega)]
  refine G.frz (fun c j h1 _ h2 => e c j h1 (by omega)) (fun j _ _ => e 7 j (by omega) (by omega)) ?_ ⟨v, tot, fun j hj => by rw [e 7 j (by omega) (by omega)]; exact hv j hj, ht, hP.iss hi hs hs2 hq (hP.1 i hi) (hP.2.2.1 i hi)⟩ (fun j _ _ => ⟨rfl, rfl⟩)
  exact LoanI.iss (G.1.same (fun c j h1 h2 => by rw [mI_sI, up2_oth h1])) hr
theorem Good.give {n y p r i h : Nat} {A : Mm} (G : Good n y p r A) (hi : i < r) (hh : h < n) (h12 : mI A 12 (2 * i) = -1) : Good n y p r (sI A 9 i (nI h)) := by
  obtain ⟨v, tot, hv, ht, ⟨a1, a2, a3, a4⟩⟩ := id G.2.2.1
  have e : ∀ c j, c ≠ 9 → mI (sI A 9 i (nI h)) c j = mI A c j := fun c j h1 => by rw [mI_sI, up2_oth h1]
  obtain ⟨u, a2, a2'⟩ := a2
  refine G.frz (fun c j h1 _ h2 => e c j (by omega)) (fun j _ _ => e 7 j (by omega)) ?_ ⟨v, tot, fun j hj => by rw [e 7 j (by omega)]; exact hv j hj, ht, fun j hj => ?_, ⟨u, fun j hj => by rw [e 10 j (by omega)]; exact a2 j hj, a2'⟩, fun j hj => by rw [e 11 j (by omega)]; exact a3 j hj, fun j k hj hk hn => by rw [e 12 _ (by omega)] at hn; exact a4 j k hj hk hn⟩ (fun j _ _ => ⟨rfl, rfl⟩)
  · obtain ⟨d1, d2, d3, d4, d5, d6, d7⟩ := G.1
    refine ⟨fun j hj => ?_, fun j k hj hk => ?_, fun j hj => ?_, ⟨?_, d4.2⟩, ?_, ?_, ?_⟩
    · rw [e 12 _ (by omega), e 12 _ (by omega)]; exact d1 j hj
    · rw [e 12 _ (by omega)]; exact d2 j k hj hk
    · rw [e 12 _ (by omega)]
      intro q
      by_cases hji : j = i
      · subst hji; exact absurd h12 q
      · rw [mI_sI, up2_sl hji]; exact d3 j hj q
    · rw [e 0 _ (by omega)]; exact d4.1
    · rw [e 0 _ (by omega)]; exact d5
    · rw [e 0 _ (by omega)]; exact d6
    · rw [e 0 _ (by omega)]; exact d7
  · rw [mI_sI]
    by_cases hji : j = i
    · subst hji; rw [up2_at]; exact ⟨h, rfl, Or.inl hh⟩
    · rw [up2_sl hji]; exact a1 j hj
theorem Good.redeem {n y p r i h : Nat} {A : Mm} (G : Good n y p r A) (hi : i < r) (hh : h < n) : Good n y p r (redeemA A i h) := by
  obtain ⟨v, tot, hv, ht, ⟨a1, ⟨u, a2, a2'⟩, a3, a4⟩⟩ := id G.2.2.1
  have h12 := G.2.1.1
  have y30 := G.2.1.2.1
  have ty : 6000000 * y ≤ 6000000 * 30 := Nat.mul_le_mul_left _ y30
  have e : ∀ c j, c ≠ 10 → c ≠ 7 → mI (redeemA A i h) c j = mI A c j := fun c j h1 h2 => by
    unfold redeemA
    rw [mI_sL, mI_sI, up2_oth h2, mI_sI, up2_oth h1]
  have e7 : ∀ j, mI (redeemA A i h) 7 j = if j = h then mI A 7 h + mI A 10 i else mI A 7 j := fun j => by
    unfold redeemA
    rw [mI_sL, mI_sI]
    by_cases hj : j = h
    · rw [hj, up2_at, if_pos rfl]
    · rw [up2_sl hj, if_neg hj, mI_sI, up2_oth (by omega)]
  have e10 : ∀ j, mI (redeemA A i h) 10 j = if j = i then 0 else mI A 10 j := fun j => by
    unfold redeemA
    rw [mI_sL, mI_sI, up2_oth (by omega), mI_sI]
    by_cases hj : j = i
    · rw [hj, up2_at, if_pos rfl]
    · rw [up2_sl hj, if_neg hj]
  obtain ⟨u1, u2⟩ := a2 i hi
  obtain ⟨w1, w2⟩ := hv h hh
  have su := (sumN_upd (u := u) (j := i) (x := 0) r).1 hi
  have sv := (sumN_upd (u := v) (j := h) (x := v h + u i) n).1 hh
  have svl := sumN_le (u := v) n hh
  have sul := sumN_le (u := u) r hi
  refine G.frz (fun c j h1 h2 h3 => e c j (by omega) h2) (fun j h1 h2 => by rw [e7 j, if_neg (by omega)]) (G.1.same2' (fun c j h1 h2 => e c j h1 h2)) ⟨fun j => if j = h then v h + u i else v j, sumN (fun j => if j = i then 0 else u j) r, fun j hj => ?_, by omega, fun j hj => by rw [e 9 j (by omega) (by omega)]; exact a1 j hj, ⟨fun j => if j = i then 0 else u j, fun j hj => ?_, Nat.le_refl _⟩, fun j hj => by rw [e 11 j (by omega) (by omega)]; exact a3 j hj, fun j k hj hk hn => ?_⟩ (fun j _ _ => ?_)
  · rw [e7 j]
    by_cases hjh : j = h
    · subst hjh
      simp only [if_true]
      rw [w1, u1, nI_add]
      exact ⟨rfl, by omega⟩
    · simp only [if_neg hjh]; exact hv j hj
  · rw [e10 j]
    by_cases hji : j = i
    · simp only [if_pos hji]; exact ⟨rfl, by omega⟩
    · simp only [if_neg hji]; exact a2 j hj
  · rw [e 12 _ (by omega) (by omega)] at hn
    obtain ⟨w, x1, x2⟩ := a4 j k hj hk hn
    refine ⟨w, x1, ?_⟩
    unfold redeemA
    rw [mL_sL, up2_oth (by omega), mL_sI, mL_sI]; exact x2
  · unfold redeemA
    rw [mL_sL, up2_oth (by omega), up2_oth (by omega)]
    exact ⟨rfl, rfl⟩
theorem Good.pay {n y p r i k h b : Nat} {A : Mm} (G : Good n y p r A) (hi : i < r) (hk : k < 2) (hh : h < n) (hb : b < 3) (h12 : mI A 12 (2 * i + k) = nI b) : Good n y p r (payA A i k h b) := by
  obtain ⟨v, tot, hv, ht, hP⟩ := id G.2.2.1
  obtain ⟨P2, Z⟩ := hP.pay (h := h) (b := b) hi hk
  have n12 := G.2.1.1
  have hne : ¬ mI A 12 (2 * i + k) = -1 := by rw [h12]; exact nI_ne_m1 (by omega)
  refine G.frz (fun c j h1 h2 h3 => Z c j h1 h3) (fun j _ _ => Z 7 j (by omega) (by omega)) (G.1.ends hi hk hne (fun c j _ _ => by rw [payB_I])) ⟨v, tot, fun j hj => by rw [Z 7 j (by omega) (by omega)]; exact hv j hj, ht, P2⟩ (fun j h1 h2 => ?_)
  exact payA_L h1 h2 hh hb
theorem Good.pledge {n y p r i k b h d : Nat} {A : Mm} {w : Nat} (G : Good n y p r A) (hw : w < 2 ^ 53) (hi : i < r) (hk : k < 2) (hb : b < 3) (hh : h < n) (h9 : mI A 9 i = nI h) (hk0 : k = 0 → mI A 12 (2 * i) = -1) (hk1 : k = 1 → ¬ mI A 12 (2 * i) = -1 ∧ ¬ mI A 12 (2 * i) = nI b) (h2 : mI A 12 (2 * i + 1) = -1) {due : Int32} : Good n y p r (pledA A i k b h due (lN w)) := by
  obtain ⟨v, tot, hv, ht, ⟨a1, ⟨u, a2, a2'⟩, a3, a4⟩⟩ := id G.2.2.1
  have n12 := G.2.1.1
  have e : ∀ c j, c ≠ 12 → c ≠ 13 → mI (pledA A i k b h due (lN w)) c j = mI A c j := fun c j h1 h2 => by
    unfold pledA
    rw [mI_sL, mI_sL, bearA_I, if_neg (fun q => h1 q.1), if_neg (fun q => h2 q.1)]
  have e12 : ∀ j, mI (pledA A i k b h due (lN w)) 12 j = if j = 2 * i + k then nI b else mI A 12 j := fun j => by
    unfold pledA
    rw [mI_sL, mI_sL, bearA_I]
    by_cases hj : j = 2 * i + k
    · rw [if_pos ⟨rfl, hj⟩, if_pos hj]
    · rw [if_neg (fun q => hj q.2), if_neg (fun q => hj q.2), if_neg hj]
  have nb : ¬ nI b = (-1 : Int32) := nI_ne_m1 (by omega)
  obtain ⟨d1, d2, d3, d4, d5, d6, d7⟩ := G.1
  obtain ⟨qq, ss, hq1, hs1, hq2, hs2⟩ := G.2.2.2.2.1 b hb
  have mw : w * (100 + ss) ≤ w * 200 := Nat.mul_le_mul_left _ (by omega)
  have ow : owesA A b (lN w) = lN (w * (100 + ss) / 100) := by
    unfold owesA
    rw [hs2, show (100 : Int32) = nI 100 from rfl, nI_add, nI_l (by omega), lN_mul, show (100 : Int64) = lN 100 from rfl, lN_div (by omega) (by omega)]
  refine G.frz (fun c j h1 h2 h3 => e c j (by omega) (by omega)) (fun j _ _ => e 7 j (by omega) (by omega)) ⟨fun j hj => ?_, fun j k' hj hk' => ?_, fun j hj => ?_, ⟨?_, d4.2⟩, ?_, ?_, ?_⟩ ⟨v, tot, fun j hj => by rw [e 7 j (by omega) (by omega)]; exact hv j hj, ht, fun j hj => by rw [e 9 j (by omega) (by omega)]; exact a1 j hj, ⟨u, fun j hj => by rw [e 10 j (by omega) (by omega)]; exact a2 j hj, a2'⟩, fun j hj => by rw [e 11 j (by omega) (by omega)]; exact a3 j hj, fun j k' hj hk' hn => ?_⟩ (fun j h1 h2 => ?_)
  · rw [e12, e12]
    by_cases hji : j = i
    · subst hji
      rcases (show k = 0 ∨ k = 1 by omega) with rfl | rfl
      · rw [if_neg (by omega)]; exact fun q => absurd h2 q
      · rw [if_pos rfl, if_neg (by omega)]
        exact fun _ => hk1 rfl
    · rw [if_neg (by omega), if_neg (by omega)]; exact d1 j hj
  · rw [e12]
    by_cases hj2 : 2 * j + k' = 2 * i + k
    · rw [if_pos hj2]; exact Or.inr ⟨b, hb, rfl⟩
    · rw [if_neg hj2]; exact d2 j k' hj hk'
  · rw [e12, e 9 j (by omega) (by omega)]
    by_cases hji : j = i
    · subst hji; exact fun _ => ⟨h, hh, h9⟩
    · rw [if_neg (by omega)]; exact d3 j hj
  · rw [e 0 _ (by omega) (by omega)]; exact d4.1
  · rw [e 0 _ (by omega) (by omega)]; exact d5
  · rw [e 0 _ (by omega) (by omega)]; exact d6
  · rw [e 0 _ (by omega) (by omega)]; exact d7
  · have eL : mL (pledA A i k b h due (lN w)) 3 (2 * j + k') = if 2 * j + k' = 2 * i + k then owesA A b (lN w) else mL A 3 (2 * j + k') := by
      unfold pledA
      rw [mL_sL, up2_oth (by omega), mL_sL, up2_oth (by omega), bearA_L]
      by_cases hj2 : 2 * j + k' = 2 * i + k
      · rw [if_pos ⟨rfl, hj2⟩, if_pos hj2]
      · rw [if_neg (fun q => hj2 q.2), if_neg hj2]
    rw [eL]
    rw [e12] at hn
    by_cases hj2 : 2 * j + k' = 2 * i + k
    · rw [if_pos hj2, ow]
      exact ⟨w * (100 + ss) / 100, by have := Nat.div_le_self (w * (100 + ss)) 100; omega, rfl⟩
    · rw [if_neg hj2] at hn ⊢; exact a4 j k' hj hk' hn
  · unfold pledA
    rw [mL_sL, up2_sl (by omega), mL_sL, up2_sl (by omega), up2_oth (by omega), up2_oth (by omega), bearA_L, bearA_L, if_neg (by omega), if_neg (by omega)]
    exact ⟨rfl, rfl⟩
