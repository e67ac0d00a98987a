/-! ===== the loans that are due, the class's side ===== -/
def takeA (A : Mm) (i b : Nat) : Mm := sI (sI (sI A 9 i (nI (12 + b))) 12 (2 * i) (-1)) 12 (2 * i + 1) (-1)
def needV (A : Mm) (i k : Nat) : Int64 := (mL A 3 (2 * i + k) + (mI A 0 2).toInt64 - 1) / (mI A 0 2).toInt64
def unpA (A : Mm) : Mm := sI A 0 6 (mI A 0 6 + 1)
def partA (A : Mm) (r i k b : Nat) : Mm := endsA (issM (sI (unpA A) 10 i (mI A 10 i - (needV A i k).toInt32)) r (nI (12 + b)) (needV A i k).toInt32 (mI A 11 i)) i k
/-- a loan is closed: paid, or the receipt taken, or a part of it -/
def closeA (A : Mm) (r i k h b : Nat) : Mm × Nat := if mL A 3 (2 * i + k) ≤ mL A 0 h then (payA A i k h b, r) else if (mI A 10 i).toInt64 ≤ needV A i k ∨ r = 400 then (takeA (unpA A) i b, r) else (partA A r i k b, r + 1)
theorem takeA_I {A : Mm} {i b c j : Nat} (h9 : ¬ (c = 9 ∧ j = i)) (h12 : c ≠ 12) : mI (takeA A i b) c j = mI A c j := by
  unfold takeA
  rw [mI_sI, up2_oth h12, mI_sI, up2_oth h12, mI_sI, up2_not h9]
theorem takeA_12 {A : Mm} {i b j : Nat} : mI (takeA A i b) 12 j = if j = 2 * i ∨ j = 2 * i + 1 then -1 else mI A 12 j := by
  unfold takeA
  rw [mI_sI]
  by_cases h1 : j = 2 * i + 1
  · subst h1; rw [up2_at, if_pos (Or.inr rfl)]
  · rw [up2_sl h1, mI_sI]
    by_cases h2 : j = 2 * i
    · subst h2; rw [up2_at, if_pos (Or.inl rfl)]
    · rw [up2_sl h2, if_neg (by omega), mI_sI, up2_oth (by omega)]
theorem LC.unp {g : Gc} {pa : Nat → Nat} {y r : Nat} {A m : Mm} (h : LC g pa y r A m) (v : Int32) : LC g pa y r (sI A 0 6 v) (sI m (gz g + 2) 13 v) :=
  h.st (St_sI m (Or.inl (by omega)) v) (h.1.p0 (by omega) (by omega) h.2.1 v).2.2.2.2 (by funext j; rw [mI_sI, up2_oth (by omega)]) (by funext j; rw [mI_sI, up2_oth (by omega)]) rfl
theorem c_seize (g : Gc) {lv n y r i k q b p h : Nat} {A m : Mm} {pa : Nat → Nat} (hS : Sg g m) (hF : Fr g m) (hC : LC g pa y r A m) (hX : LnX r A) (h4 : r ≤ 400) (h03 : mI A 0 3 = nI r) (hi : i < r) (hk : k < 2) (hq : mR m (pa i) (3 + k) = some q) (hb : mI A 12 (2 * i + k) = nI b) (hb3 : b < 3) (hp : mI A 0 2 = nI p) (hp1 : 1 ≤ p) (hp2 : p ≤ 10000) (hw : ¬ mL A 3 (2 * i + k) ≤ mL A 0 h) {Q : Mm → Prop} (hQ : ∀ pa' m', LC g pa' y (closeA A r i k h b).2 (closeA A r i k h b).1 m' → (∀ j, j < r → pa' j = pa j) → (∀ j, r ≤ j → j < (closeA A r i k h b).2 → gz g + mC m ≤ pa' j) → Fs g (PC g 2 pa r) 1 m m' → Fr g m' → Sg g m' → (k = 0 → mR m' (pa i) 3 = none ∨ mR m' (pa i) 3 = mR m (pa i) 4) → Q m') : CV g M_Land_seize (lv + 4) [va_rf (some (gz g + 2)), va_rf (some (pa i)), va_rf (some q)] m Q := by
  obtain ⟨k6, q184, qu, q0, q1, q2, -, -⟩ := hC.one hi hk hq
  have pg := hC.2.1.2 i hi
  have imx1 : imx 1 (nI p) = nI p := by
    unfold imx
    by_cases h1 : p = 1
    · rw [h1]; rfl
    · rw [if_pos (show (1 : Int32) < nI p from nI_lt (a := 1) (b := p) (by omega) (by omega))]
  have e12 : (12 : Int32) + nI b = nI (12 + b) := by rw [show (12 : Int32) = nI 12 from rfl, nI_add]
  refine en_Land_seize g ⟨hS.k 2 rfl, fun m1 e1 => ?_⟩
  rw [show mI m (gz g + 2) 13 = mI A 0 6 from hC.1.1 0 6 (by show 6 < 7; omega)] at e1
  have C1 : LC g pa y r (unpA A) m1 := by rw [e1]; exact hC.unp _
  have s1 : St (PC g 2 pa r) m m1 := by rw [e1]; exact St_sI m (Or.inl (by omega)) _
  clear e1
  have S1 := s1.sg hS
  have F1 := s1.fr hF
  have hq1 : mR m1 (pa i) (3 + k) = some q := by rw [s1.1.1]; exact hq
  obtain ⟨k61, -, qu1, w0, w1, w2, -, -⟩ := C1.one hi hk hq1
  have u : ∀ c j, ¬ (c = 0 ∧ j = 6) → mI (unpA A) c j = mI A c j := fun c j hn => by unfold unpA; rw [mI_sI, up2_not hn]
  have pr1 : mI m1 (gz g + 2) 10 = nI p := by rw [C1.pr, u 0 2 (by omega)]; exact hp
  have p7 := (C1.2.2.1.1 i hi).2.1
  have pne : ¬ (nI p).toInt64 = 0 := by
    rw [nI_l (by omega)]
    intro e
    have := (lN_eq (a := p) (b := 0) (by omega) (by omega)).1 e
    omega
  refine ⟨q, rfl, k61, ?_⟩
  rw [pr1, imx1]
  refine ⟨pne, pa i, rfl, p7, ?_⟩
  have nv : (mL m1 q 2 + (nI p).toInt64 - 1) / (nI p).toInt64 = needV A i k := by
    unfold needV
    rw [w2, hp]
    rfl
  rw [nv, (C1.rc hi).2.1, u 10 i (by omega), w0, u 12 _ (by omega), hb, e12]
  have take : ∀ m2, m2 = sI m1 (pa i) 0 (nI (12 + b)) → ∀ m3, m3 = sR m2 (pa i) 3 none → ∀ m4, m4 = sR m3 (pa i) 4 none → (closeA A r i k h b) = (takeA (unpA A) i b, r) → Q m4 := by
    intro m2 e2 m3 e3 m4 e4 ec
    have C2 : LC g pa y r (sI (unpA A) 9 i (nI (12 + b))) m2 := by rw [e2]; exact C1.putRc (c := 9) hi (by omega) (by omega) _
    have hR : ∀ a j, mR m4 a j = if a = pa i ∧ (j = 3 ∨ j = 4) then none else mR m2 a j := fun a j => by
      rw [e4, mR_sR]
      by_cases h4 : a = pa i ∧ j = 4
      · rw [h4.1, h4.2, up2_at, if_pos ⟨rfl, Or.inr rfl⟩]
      · rw [up2_not h4, e3, mR_sR]
        by_cases h3 : a = pa i ∧ j = 3
        · rw [h3.1, h3.2, up2_at, if_pos ⟨rfl, Or.inl rfl⟩]
        · rw [up2_not h3, if_neg (by omega)]
    have C4 : LC g pa y r (takeA (unpA A) i b) m4 := by
      refine C2.refs hi (by rw [e4, e3]; rfl) (by rw [e4, e3]; rfl) (by rw [e4, e3]; rfl) (by rw [e4, e3]; rfl) (fun a j hn => by rw [hR, if_neg (by omega)]) (fun c j h1 h2 => ?_) (fun c j _ => rfl) (fun j k' hj hne hk' => ?_) (fun k' hk' => ?_)
      · unfold takeA
        rw [mI_sI, up2_oth h1, mI_sI, up2_oth h1]
      · refine ⟨?_, ?_, rfl⟩
        · rw [takeA_12, if_neg (by omega), mI_sI, up2_oth (by omega)]
        · unfold takeA
          rw [mI_sI, up2_oth (by omega), mI_sI, up2_oth (by omega)]
      · rw [takeA_12, if_pos (by omega), hR, if_pos ⟨rfl, by omega⟩]
        exact Or.inl ⟨rfl, rfl⟩
    have fin7 : ∀ j, finR (mK m2 (pa i)) j = false := fun j => by rw [(C2.2.2.1.1 i hi).2.1]; exact finR7 j
    have f4 : Fs g (PC g 2 pa r) 0 m m4 := by
      rw [e4, e3, e2]
      rw [e2] at fin7
      exact ((s1.trans (St_sI m1 (Or.inr ⟨i, hi, rfl⟩) _)).fs.trans (Fs_sR (P := PC g 2 pa r) _ (a := pa i) (j := 3) (Or.inr ⟨i, hi, rfl⟩) none (Or.inl (fin7 3))) (fun _ _ _ z => z)).trans (Fs_sR (P := PC g 2 pa r) _ (a := pa i) (j := 4) (Or.inr ⟨i, hi, rfl⟩) none (Or.inl (fin7 4))) (fun _ _ _ z => z)
    rw [ec] at hQ
    refine hQ pa m4 C4 (fun _ _ => rfl) (fun j h1 h2 => absurd h2 (by show ¬ j < r; omega)) (f4.weak (fun _ _ _ z => z) (by omega)) (by rw [e4, e3, e2]; exact F1) (hS.ext f4.1) (fun _ => Or.inl (by rw [hR, if_pos ⟨rfl, Or.inl rfl⟩]))
  have q1' : mI m1 q 0 = nI b := by rw [w0, u 12 _ (by omega)]; exact hb
  unfold closeA at hQ take
  rw [if_neg hw] at hQ take
  by_cases hs : (mI A 10 i).toInt64 ≤ needV A i k
  · rw [if_pos hs]
    rw [if_pos (Or.inl hs)] at hQ take
    intro m2 e2 m3 e3 m4 e4
    exact take m2 e2 m3 e3 m4 e4 rfl
  rw [if_neg hs]
  refine ⟨gz g + 5, S1.r 2 3 rfl, S1.k 5 rfl, en_Store_isFull g ⟨S1.k 5 rfl, ?_⟩⟩
  rw [C1.rn, u 0 3 (by omega), h03]
  by_cases h400 : r < 400
  · rw [if_pos (by rw [show (400 : Int32) = nI 400 from rfl, nI_ltI (by omega) (by omega)]; exact h400), if_pos rfl]
    rw [if_neg (show ¬ ((mI A 10 i).toInt64 ≤ needV A i k ∨ r = 400) from fun z => z.elim hs (by omega))] at hQ
    intro m2 e2
    have C2 : LC g pa y r (sI (unpA A) 10 i (mI A 10 i - (needV A i k).toInt32)) m2 := by
      rw [(C1.rc hi).2.1, u 10 i (by omega)] at e2
      rw [e2]; exact C1.putRc (c := 10) hi (by omega) (by omega) _
    have s2 : St (PC g 2 pa r) m1 m2 := by rw [e2]; exact St_sI m1 (Or.inr ⟨i, hi, rfl⟩) _
    clear e2
    have S2 := s2.sg S1
    have F2 := s2.fr F1
    have hq2 : mR m2 (pa i) (3 + k) = some q := by rw [s2.1.1]; exact hq1
    obtain ⟨k62, -, qu2, x0, -⟩ := C2.one hi hk hq2
    have y0 : mI m2 q 0 = nI b := by rw [x0, mI_sI, up2_oth (by omega), u 12 _ (by omega)]; exact hb
    have y11 : mI m2 (pa i) 2 = mI A 11 i := by rw [(C2.rc hi).2.2, mI_sI, up2_oth (by omega), u 11 i (by omega)]
    rw [y0, e12, y11]
    refine c_issueC g S2 F2 C2 (by rw [mI_sI, up2_oth (by omega), u 0 3 (by omega)]; exact h03) h400 _ _ _ (fun pa' m3 p1 p2 C3 F3 S3 f3 mr3 => ?_)
    have hp3 : pa' i = pa i := p1 i hi
    have cm2 : mC m2 = mC m := by rw [s2.1.2.2.2.1, s1.1.2.2.2.1]
    have hq3 : mR m3 (pa' i) (3 + k) = some q := by rw [hp3, mr3 i hi]; exact hq2
    have X3 : LnX (r + 1) (issM (sI (unpA A) 10 i (mI A 10 i - (needV A i k).toInt32)) r (nI (12 + b)) (needV A i k).toInt32 (mI A 11 i)) := by
      intro j hj
      unfold issM
      rw [issL_12, issL_12]
      by_cases hjr : j = r
      · rw [if_pos (by omega)]; intro z; exact absurd rfl z
      · rw [if_neg (by omega), if_neg (by omega), issA_oth (by omega) (by omega), issA_oth (by omega) (by omega), mI_sI, up2_oth (by omega), up2_oth (by omega), u 12 _ (by omega), u 12 _ (by omega)]
        exact hX j (by omega)
    rw [show va_rf (some (pa i)) = va_rf (some (pa' i)) by rw [hp3]]
    refine c_drop g C3 X3 (show i < r + 1 by omega) hk hq3 (fun m4 C4 f4 eI eL F4 r4 => ?_)
    have f24 : Fs g (PC g 2 pa r) (0 + 1 + 0) m m4 := ((s1.trans s2).fs.trans f3 (fun _ _ _ z => z)).trans f4 (fun a j ha z => by
      rcases z with z | ⟨j', hj', rfl⟩
      · exact Or.inl z
      · by_cases hjr : j' = r
        · subst hjr; omega
        · rw [p1 j' (by omega)]; exact Or.inr ⟨j', by omega, rfl⟩)
    refine hQ pa' m4 C4 p1 (fun j h1 h2 => ?_) (f24.weak (fun _ _ _ z => z) (by omega)) (F4 F3) (hS.ext f24.1) (fun hk0 => Or.inr ?_)
    · obtain rfl : j = r := by have : j < r + 1 := h2; omega
      omega
    · have := r4 hk0
      rw [hp3] at this
      rw [this, mr3 i hi, s2.1.1, s1.1.1]
  · rw [if_neg (by rw [show (400 : Int32) = nI 400 from rfl, nI_ltI (by omega) (by omega)]; exact h400), if_neg (by decide)]
    rw [if_pos (show (mI A 10 i).toInt64 ≤ needV A i k ∨ r = 400 from Or.inr (by omega))] at hQ take
    rw [q1', e12]
    intro m2 e2 m3 e3 m4 e4
    exact take m2 e2 m3 e3 m4 e4 rfl
