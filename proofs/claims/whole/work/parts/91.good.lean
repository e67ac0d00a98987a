/-! ===== what stays within its bounds: papers and loans ===== -/
def OwOK (r : Nat) (A : Mm) : Prop := ∀ i k, i < r → k < 2 → ¬ mI A 12 (2 * i + k) = -1 → ∃ w : Nat, w < 2 ^ 60 ∧ mL A 3 (2 * i + k) = lN w
def F30 (r : Nat) (A : Mm) : Prop := ∀ i, i < r → ¬ (30 : Int32) ≤ mI A 11 i
def Pp (n r tot : Nat) (A : Mm) : Prop := HoldOK n r A ∧ (∃ u, skN r A u ∧ sumN u r ≤ tot) ∧ F30 r A ∧ OwOK r A
def FrZ (A B : Mm) : Prop := ∀ c j, ¬ (9 ≤ c ∧ c ≤ 13) → ¬ (c = 0 ∧ (j = 3 ∨ j = 6)) → mI B c j = mI A c j
theorem FrZ.refl (A : Mm) : FrZ A A := fun _ _ _ _ => rfl
theorem FrZ.trans {A B C : Mm} (h1 : FrZ A B) (h2 : FrZ B C) : FrZ A C := fun c j a b => (h2 c j a b).trans (h1 c j a b)
theorem OwOK.ends {r i k : Nat} {A : Mm} (h : OwOK r A) (hi : i < r) (hk : k < 2) : OwOK r (endsA A i k) := by
  intro i' k' hi' hk' hn
  rw [endsA_12 hk] at hn
  rw [(endsA_13 (A := A) (i := i) hk).2]
  by_cases h1 : 2 * i' + k' = 2 * i + 1
  · rw [if_pos h1] at hn; exact absurd rfl hn
  rw [if_neg h1] at hn
  by_cases h2 : 2 * i' + k' = 2 * i ∧ k = 0
  · rw [if_pos h2] at hn ⊢
    exact h i 1 hi (by omega) hn
  · rw [if_neg h2] at hn ⊢
    exact h i' k' hi' hk' hn
theorem Pp.congr {n r tot : Nat} {A B : Mm} (h : Pp n r tot A) (e9 : ∀ i, i < r → mI B 9 i = mI A 9 i) (e10 : ∀ i, i < r → mI B 10 i = mI A 10 i) (e11 : ∀ i, i < r → mI B 11 i = mI A 11 i) (o : OwOK r B) : Pp n r tot B := by
  obtain ⟨a, ⟨u, b1, b2⟩, c, -⟩ := h
  refine ⟨fun i hi => ?_, ⟨u, fun i hi => ?_, b2⟩, fun i hi => ?_, o⟩
  · obtain ⟨h, x, y⟩ := a i hi
    exact ⟨h, (e9 i hi).trans x, y⟩
  · exact ⟨(e10 i hi).trans (b1 i hi).1, (b1 i hi).2⟩
  · rw [e11 i hi]; exact c i hi
theorem Pp.pay {n r tot i k h b : Nat} {A : Mm} (G : Pp n r tot A) (hi : i < r) (hk : k < 2) : Pp n r tot (payA A i k h b) ∧ FrZ A (payA A i k h b) := by
  have e : ∀ c j, c ≠ 12 → c ≠ 13 → mI (payA A i k h b) c j = mI A c j := fun c j h1 h2 => by
    unfold payA
    rw [endsA_I ⟨h1, h2⟩, payB_I]
  refine ⟨G.congr (fun j _ => e 9 j (by omega) (by omega)) (fun j _ => e 10 j (by omega) (by omega)) (fun j _ => e 11 j (by omega) (by omega)) ?_, fun c j h1 _ => e c j (by omega) (by omega)⟩
  refine OwOK.ends (fun i' k' hi' hk' hn => ?_) hi hk
  rw [payB_3]
  rw [payB_I] at hn
  exact G.2.2.2 i' k' hi' hk' hn
theorem unpA_I {A : Mm} {c j : Nat} (h : ¬ (c = 0 ∧ j = 6)) : mI (unpA A) c j = mI A c j := by
  unfold unpA
  rw [mI_sI, up2_not h]
theorem Pp.take {n r tot i b : Nat} {A : Mm} (G : Pp n r tot A) (hi : i < r) (hb : b < 3) : Pp n r tot (takeA (unpA A) i b) ∧ FrZ A (takeA (unpA A) i b) := by
  have e : ∀ c j, ¬ (c = 9 ∧ j = i) → c ≠ 12 → ¬ (c = 0 ∧ j = 6) → mI (takeA (unpA A) i b) c j = mI A c j := fun c j h1 h2 h3 => by
    rw [takeA_I h1 h2, unpA_I h3]
  obtain ⟨a, ⟨u, b1, b2⟩, c, o⟩ := G
  refine ⟨⟨fun j hj => ?_, ⟨u, fun j hj => ?_, b2⟩, fun j hj => ?_, fun i' k' hi' hk' hn => ?_⟩, fun c j h1 h2 => e c j (by omega) (by omega) (by omega)⟩
  · by_cases hji : j = i
    · refine ⟨12 + b, ?_, Or.inr ⟨by omega, by omega⟩⟩
      rw [hji]
      unfold takeA
      rw [mI_sI, up2_oth (by omega), mI_sI, up2_oth (by omega), mI_sI, up2_at]
    · obtain ⟨h, x, y⟩ := a j hj
      exact ⟨h, (e 9 j (by omega) (by omega) (by omega)).trans x, y⟩
  · exact ⟨(e 10 j (by omega) (by omega) (by omega)).trans (b1 j hj).1, (b1 j hj).2⟩
  · rw [e 11 j (by omega) (by omega) (by omega)]; exact c j hj
  · rw [takeA_12] at hn
    by_cases h1 : 2 * i' + k' = 2 * i ∨ 2 * i' + k' = 2 * i + 1
    · rw [if_pos h1] at hn; exact absurd rfl hn
    · rw [if_neg h1, unpA_I (by omega)] at hn
      exact o i' k' hi' hk' hn
theorem issM_oth {A : Mm} {r c i : Nat} {h s yy : Int32} (hc : ¬ ((c = 9 ∨ c = 10 ∨ c = 11) ∧ i = r)) (h0 : ¬ (c = 0 ∧ i = 3)) (h12 : c ≠ 12) : mI (issM A r h s yy) c i = mI A c i := by
  unfold issM
  rw [issL_oth h12, issA_oth hc h0]
theorem issM_at {A : Mm} {r : Nat} {h s yy : Int32} : mI (issM A r h s yy) 9 r = h ∧ mI (issM A r h s yy) 10 r = s ∧ mI (issM A r h s yy) 11 r = yy := by
  obtain ⟨a, b, c⟩ := issB_at (A := A) (r := r) (h := h) (s := s) (yy := yy)
  unfold issM issA
  refine ⟨?_, ?_, ?_⟩
  · rw [issL_oth (by omega), mI_sI, up2_oth (by omega)]; exact a
  · rw [issL_oth (by omega), mI_sI, up2_oth (by omega)]; exact b
  · rw [issL_oth (by omega), mI_sI, up2_oth (by omega)]; exact c
theorem OwOK.iss {r : Nat} {A : Mm} {h s yy : Int32} (o : OwOK r A) : OwOK (r + 1) (issM A r h s yy) := by
  intro i k hi hk hn
  unfold issM at hn
  rw [issL_12] at hn
  by_cases h1 : 2 * i + k = 2 * r ∨ 2 * i + k = 2 * r + 1
  · rw [if_pos h1] at hn; exact absurd rfl hn
  · rw [if_neg h1, issA_oth (by omega) (by omega)] at hn
    exact o i k (by omega) hk hn
/-- a paper is split in two -/
theorem Pp.iss {n r tot i q s : Nat} {A : Mm} {h yy : Int32} (G : Pp n r tot A) (hi : i < r) (hs : mI A 10 i = nI s) (hs2 : s < 2 ^ 31) (hq : q ≤ s) (hh : ∃ h' : Nat, h = nI h' ∧ (h' < n ∨ (12 ≤ h' ∧ h' < 15))) (hy : ¬ (30 : Int32) ≤ yy) : Pp n (r + 1) tot (issM (sI A 10 i (nI (s - q))) r h (nI q) yy) := by
  obtain ⟨a, ⟨u, b1, b2⟩, c, o⟩ := G
  have us : u i = s := by
    have := (b1 i hi).1
    rw [hs] at this
    exact ((nI_eq hs2 (b1 i hi).2).mp this).symm
  refine ⟨fun j hj => ?_, ⟨fun j => if j = r then q else if j = i then s - q else u j, fun j hj => ?_, ?_⟩, fun j hj => ?_, ?_⟩
  · by_cases hjr : j = r
    · rw [hjr, issM_at.1]; exact hh
    · rw [issM_oth (by omega) (by omega) (by omega), mI_sI, up2_oth (by omega)]
      exact a j (by omega)
  · by_cases hjr : j = r
    · simp only [if_pos hjr]
      rw [hjr]
      exact ⟨issM_at.2.1, by omega⟩
    · simp only [if_neg hjr]
      rw [issM_oth (by omega) (by omega) (by omega), mI_sI]
      by_cases hji : j = i
      · simp only [if_pos hji]
        rw [hji, up2_at]; exact ⟨rfl, by omega⟩
      · simp only [if_neg hji]
        rw [up2_sl hji]; exact b1 j (by omega)
  · show sumN (fun j => if j = r then q else if j = i then s - q else u j) r + (if r = r then q else if r = i then s - q else u r) ≤ tot
    rw [if_pos rfl]
    have e := sumN_congr (u := fun j => if j = r then q else if j = i then s - q else u j) (v := fun j => if j = i then s - q else u j) r (fun j hj => by show (if j = r then _ else _) = _; rw [if_neg (by omega)])
    rw [e]
    have := (sumN_upd (u := u) (j := i) (x := s - q) r).1 hi
    omega
  · by_cases hjr : j = r
    · rw [hjr, issM_at.2.2]; exact hy
    · rw [issM_oth (by omega) (by omega) (by omega), mI_sI, up2_oth (by omega)]
      exact c j (by omega)
  · refine OwOK.iss (fun i' k' hi' hk' hn => ?_)
    rw [mI_sI, up2_oth (by omega)] at hn
    rw [mL_sI]
    exact o i' k' hi' hk' hn
theorem needV_nat {A : Mm} {i k w p : Nat} (hw : mL A 3 (2 * i + k) = lN w) (hw2 : w < 2 ^ 60) (hp : mI A 0 2 = nI p) (hp1 : 1 ≤ p) (hp2 : p ≤ 10000) : needV A i k = lN ((w + p - 1) / p) := by
  unfold needV
  rw [hw, hp, nI_l (by omega), lN_add, show (1 : Int64) = lN 1 from rfl, lN_sub (by omega), lN_div (by omega) (by omega)]
theorem closeA_P {n y p r tot i k h b : Nat} {A : Mm} (H : LoanI n y p r A) (G : Pp n r tot A) (hp1 : 1 ≤ p) (hp2 : p ≤ 10000) (hi : i < r) (hk : k < 2) (hk1 : ¬ mI A 12 (2 * i + k) = -1) (hb : b < 3) : Pp n (closeA A r i k h b).2 tot (closeA A r i k h b).1 ∧ FrZ A (closeA A r i k h b).1 := by
  unfold closeA
  by_cases c1 : mL A 3 (2 * i + k) ≤ mL A 0 h
  · rw [if_pos c1]; exact G.pay hi hk
  rw [if_neg c1]
  by_cases c2 : (mI A 10 i).toInt64 ≤ needV A i k ∨ r = 400
  · rw [if_pos c2]; exact G.take hi hb
  rw [if_neg c2]
  obtain ⟨w, hw2, hw⟩ := G.2.2.2 i k hi hk hk1
  obtain ⟨u, b1, -⟩ := G.2.1
  have nv := needV_nat hw hw2 H.2.2.2.2.2.2 hp1 hp2
  have c3 : ¬ (mI A 10 i).toInt64 ≤ needV A i k := fun q => c2 (Or.inl q)
  have qb : (w + p - 1) / p ≤ w + p - 1 := Nat.div_le_self _ _
  generalize (w + p - 1) / p = q at nv qb
  obtain ⟨us, ul⟩ := b1 i hi
  rw [us, nv, nI_l ul, pk_lLE (by omega) (by omega)] at c3
  have G2 : Pp n r tot (unpA A) := G.congr (fun j _ => unpA_I (by omega)) (fun j _ => unpA_I (by omega)) (fun j _ => unpA_I (by omega)) (fun i' k' hi' hk' hn => by
    rw [unpA_I (by omega)] at hn
    exact G.2.2.2 i' k' hi' hk' hn)
  have G3 := G2.iss (q := q) (h := nI (12 + b)) (yy := mI A 11 i) hi (by rw [unpA_I (by omega)]; exact us) ul (by omega) ⟨12 + b, rfl, Or.inr ⟨by omega, by omega⟩⟩ (G.2.2.1 i hi)
  have ep : partA A r i k b = endsA (issM (sI (unpA A) 10 i (nI (u i - q))) r (nI (12 + b)) (nI q) (mI A 11 i)) i k := by
    unfold partA
    rw [nv, us, lN_i, nI_sub (by omega) ul]
  show Pp n (r + 1) tot (partA A r i k b) ∧ FrZ A (partA A r i k b)
  rw [ep]
  refine ⟨G3.congr (fun j _ => endsA_I (by omega)) (fun j _ => endsA_I (by omega)) (fun j _ => endsA_I (by omega)) (G3.2.2.2.ends (by omega) hk), fun c j h1 h2 => ?_⟩
  rw [endsA_I (by omega), issM_oth (by omega) (by omega) (by omega), mI_sI, up2_oth (by omega), unpA_I (by omega)]
theorem clsA_P {n y p r tot i k : Nat} {A : Mm} (H : LoanI n y p r A) (G : Pp n r tot A) (h12 : n ≤ 12) (hp1 : 1 ≤ p) (hp2 : p ≤ 10000) (hi : i < r) (hk : k < 2) (hk1 : ¬ mI A 12 (2 * i + k) = -1) : Pp n (clsA A r i k).2 tot (clsA A r i k).1 ∧ FrZ A (clsA A r i k).1 :=
  closeA_P H G hp1 hp2 hi hk hk1 (H.hb h12 hi hk hk1).2.2.1
theorem dueS_P {n y p r tot i : Nat} {A : Mm} (H : LoanI n y p r A) (G : Pp n r tot A) (h12 : n ≤ 12) (hp1 : 1 ≤ p) (hp2 : p ≤ 10000) (hi : i < r) : Pp n (dueS A r i y).2 tot (dueS A r i y).1 ∧ FrZ A (dueS A r i y).1 := by
  unfold dueS
  by_cases d0 : DueA A i 0 y
  · rw [if_pos d0]
    obtain ⟨G1, f1⟩ := clsA_P H G h12 hp1 hp2 hi (k := 0) (by omega) d0.1
    obtain ⟨H1, l1, l2, -⟩ := H.close (h := hO A i) (b := bO A i 0) hi (k := 0) (by omega) d0.1
    by_cases d1 : DueA (clsA A r i 0).1 i 0 y
    · rw [if_pos d1]
      obtain ⟨G2, f2⟩ := clsA_P (A := (clsA A r i 0).1) H1 G1 h12 hp1 hp2 (i := i) (k := 0) (by have : r ≤ (clsA A r i 0).2 := l2; omega) (by omega) d1.1
      exact ⟨G2, f1.trans f2⟩
    · rw [if_neg d1]; exact ⟨G1, f1⟩
  · rw [if_neg d0]
    by_cases d1 : DueA A i 1 y
    · rw [if_pos d1]
      exact clsA_P H G h12 hp1 hp2 hi (k := 1) (by omega) d1.1
    · rw [if_neg d1]; exact ⟨G, FrZ.refl A⟩
theorem duesA_P {n y p r tot : Nat} {A : Mm} (H : LoanI n y p r A) (G : Pp n r tot A) (h12 : n ≤ 12) (hp1 : 1 ≤ p) (hp2 : p ≤ 10000) : ∀ k, k ≤ r → Pp n (duesA A r y k).2 tot (duesA A r y k).1 ∧ FrZ A (duesA A r y k).1
  | 0, _ => ⟨G, FrZ.refl A⟩
  | k + 1, hk => by
    obtain ⟨G1, f1⟩ := duesA_P H G h12 hp1 hp2 k (by omega)
    obtain ⟨H1, -, l2⟩ := duesA_I H k (by omega)
    obtain ⟨G2, f2⟩ := dueS_P (A := (duesA A r y k).1) (r := (duesA A r y k).2) (i := k) H1 G1 h12 hp1 hp2 (by omega)
    exact ⟨G2, f1.trans f2⟩
