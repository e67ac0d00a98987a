/-! ===== the class's judge hears a law ===== -/
abbrev RS : Type := Int32 × Int32 × Int64 × Int64 × (Nat → Int32) × Int32 × Int32 × Int32
def RS0 : RS := (0, 0, 0, 0, (fun _ => 0), 0, 0, -1)
def rawF (V : RS) (k : Int32) (x : Int64) : RS :=
  if k = 14 then (1, V.2.1, (if V.1 = 0 then x else V.2.2.1), V.2.2.2.1, V.2.2.2.2.1, V.2.2.2.2.2.1, V.2.2.2.2.2.2.1, V.2.2.2.2.2.2.2)
  else if k = 15 then (V.1, 1, V.2.2.1, (if V.2.1 = 0 then x else V.2.2.2.1), V.2.2.2.2.1, V.2.2.2.2.2.1, V.2.2.2.2.2.2.1, V.2.2.2.2.2.2.2)
  else if k = 16 then (V.1, V.2.1, V.2.2.1, V.2.2.2.1, (if 8 ≤ x then V.2.2.2.2.1 else va_up V.2.2.2.2.1 x.toInt32.toNatClampNeg 1), (if 8 ≤ x then V.2.2.2.2.2.1 else V.2.2.2.2.2.1 ||| ((1 : Int32) <<< (x.toInt32 &&& 31))), V.2.2.2.2.2.2.1, V.2.2.2.2.2.2.2)
  else if k = 17 then (V.1, V.2.1, V.2.2.1, V.2.2.2.1, V.2.2.2.2.1, V.2.2.2.2.2.1, imx V.2.2.2.2.2.2.1 x.toInt32, V.2.2.2.2.2.2.2)
  else (V.1, V.2.1, V.2.2.1, V.2.2.2.1, V.2.2.2.2.1, V.2.2.2.2.2.1, V.2.2.2.2.2.2.1, if V.2.2.2.2.2.2.2 = -1 then x.toInt32 else imn V.2.2.2.2.2.2.2 x.toInt32)
def clF (f : Nat → Int64) (V : RS) (c : Cls) : RS := if c.2.2.2.2 f = 0 then V else rawF V c.1 (c.2.2.1 f)
def rawL (f : Nat → Int64) (cs : List Cls) : RS := cs.foldl (clF f) RS0
def ClsV (c : Cls) : Prop := c.1 = 14 ∨ c.1 = 15 ∨ ((c.1 = 16 ∨ c.1 = 17 ∨ c.1 = 18) ∧ ∃ v : Int32, 0 ≤ v ∧ ∀ f, c.2.2.1 f = v.toInt64)
def JV (g : Gc) (t : Nat) (st : Int64) (V : RS) (m : Mm) : Prop := mI m (gz g + (t + 5)) 3 = V.1 ∧ mI m (gz g + (t + 5)) 4 = V.2.1 ∧ mI m (gz g + (t + 5)) 5 = (if V.1 = 0 then 0 else (lmx 0 (lmn 100 V.2.2.1)).toInt32) ∧ mL m (gz g + (t + 5)) 8 = (if V.2.1 = 0 then 0 else lmx 0 (lmn st V.2.2.2.1)) ∧ mL m (gz g + (t + 5)) 7 = V.2.2.2.2.2.2.1.toInt64 ∧ mI m (gz g + (t + 5)) 6 = V.2.2.2.2.2.2.2 ∧ ∀ j, j < 8 → mI m (gz g + (t + 8)) j = V.2.2.2.2.1 j
def PJo (g : Gc) (t a _j : Nat) : Prop := a = gz g + (t + 5) ∨ a = gz g + (t + 7) ∨ a = gz g + (t + 8)
theorem JV.st {g : Gc} {t : Nat} {st : Int64} {V : RS} {m m' : Mm} (h : JV g t st V m) (s : St (PJk g t) m m') : JV g t st V m' := by
  obtain ⟨a, b, c, d, e, f, k⟩ := h
  exact ⟨(s.2 _ _ (by unfold PJk; omega)).1.trans a, (s.2 _ _ (by unfold PJk; omega)).1.trans b, (s.2 _ _ (by unfold PJk; omega)).1.trans c, (s.2 _ _ (by unfold PJk; omega)).2.trans d, (s.2 _ _ (by unfold PJk; omega)).2.trans e, (s.2 _ _ (by unfold PJk; omega)).1.trans f, fun j hj => (s.2 _ _ (by unfold PJk; omega)).1.trans (k j hj)⟩
theorem toI32_64 (v : Int32) : v.toInt64.toInt32 = v := Int32.toInt32_toInt64 v
theorem lmx_imx (a b : Int32) : lmx a.toInt64 b.toInt64 = (imx a b).toInt64 := by
  unfold lmx imx
  have e : (b.toInt64 < a.toInt64) ↔ b < a := by rw [Int64.lt_iff_toInt_lt, Int32.lt_iff_toInt_lt, Int32.toInt_toInt64, Int32.toInt_toInt64]
  have e2 : (a < b) ↔ a.toInt < b.toInt := Int32.lt_iff_toInt_lt
  have e3 : (b < a) ↔ b.toInt < a.toInt := Int32.lt_iff_toInt_lt
  by_cases h : b < a
  · rw [if_pos (e.mpr h), if_neg (by rw [e2]; rw [e3] at h; omega)]
  · rw [if_neg (fun q => h (e.mp q))]
    by_cases h2 : a < b
    · rw [if_pos h2]
    · rw [if_neg h2]
      have : a = b := Int32.toInt_inj.mp (by rw [e3] at h; rw [e2] at h2; omega)
      rw [this]
theorem c_obey (g : Gc) {lv t : Nat} {f : Nat → Int64} {V : RS} {c : Cls} {m : Mm} (ht : t = 2 ∨ t = 65) (hc : ClsV c) (S : Sg g m) (FC : FcAt g t f m) (J : JV g t (f 1) V m) {Q : Mm → Prop} (hQ : ∀ m', St (PJo g t) m m' → JV g t (f 1) (rawF V c.1 (c.2.2.1 f)) m' → Q m') : CV g M_Judge_obey (lv + 2) [va_rf (some (gz g + (t + 5))), .int c.1, .long (c.2.2.1 f)] m Q := by
  obtain ⟨k3, r0, r1, r2, n6, n7, n8, l6, l7, l8⟩ := judge_k ht S
  obtain ⟨j3, j4, j5, j8, j7, j6, jv⟩ := J
  generalize hx : c.2.2.1 f = x at hQ
  refine en_Judge_obey g ?_
  unfold rawF at hQ
  by_cases h14 : c.1 = 14
  · rw [if_pos h14] at hQ ⊢
    refine ⟨k3, ?_⟩
    by_cases h3 : mI m (gz g + (t + 5)) 3 = 0
    · rw [if_pos h3]
      refine en_SL_cutTo g (fun m1 e1 m2 e2 => ?_)
      rw [← j3, if_pos h3] at hQ
      refine hQ m2 ?_ ⟨?_, ?_, ?_, ?_, ?_, ?_, fun j hj => ?_⟩
      · rw [e2, e1]; exact (St_sI m (Or.inl rfl) _).trans (St_sI _ (Or.inl rfl) _)
      · rw [e2, mI_sI, up2_at]
      · rw [e2, mI_sI, up2_sl (by omega), e1, mI_sI, up2_sl (by omega)]; exact j4
      · rw [e2, mI_sI, up2_sl (by omega), e1, mI_sI, up2_at]; exact (if_neg (show ¬ (1 : Int32) = 0 by decide)).symm
      · rw [e2, mL_sI, e1, mL_sI]; exact j8
      · rw [e2, mL_sI, e1, mL_sI]; exact j7
      · rw [e2, mI_sI, up2_sl (by omega), e1, mI_sI, up2_sl (by omega)]; exact j6
      · rw [e2, mI_sI, up2_oth (by omega), e1, mI_sI, up2_oth (by omega)]; exact jv j hj
    · rw [if_neg h3]
      intro m1 e1 m2 e2
      have h3' := h3
      rw [j3] at h3'
      rw [if_neg h3'] at hQ
      refine hQ m2 ?_ ⟨?_, ?_, ?_, ?_, ?_, ?_, fun j hj => ?_⟩
      · rw [e2, e1]; exact (St_sI m (Or.inl rfl) _).trans (St_sI _ (Or.inl rfl) _)
      · rw [e2, mI_sI, up2_at]
      · rw [e2, mI_sI, up2_sl (by omega), e1, mI_sI, up2_sl (by omega)]; exact j4
      · rw [e2, mI_sI, up2_sl (by omega), e1, mI_sI, up2_at, j5, if_neg h3']; exact (if_neg (show ¬ (1 : Int32) = 0 by decide)).symm
      · rw [e2, mL_sI, e1, mL_sI]; exact j8
      · rw [e2, mL_sI, e1, mL_sI]; exact j7
      · rw [e2, mI_sI, up2_sl (by omega), e1, mI_sI, up2_sl (by omega)]; exact j6
      · rw [e2, mI_sI, up2_oth (by omega), e1, mI_sI, up2_oth (by omega)]; exact jv j hj
  rw [if_neg h14] at hQ ⊢
  by_cases h15 : c.1 = 15
  · rw [if_pos h15] at hQ ⊢
    refine ⟨k3, ?_⟩
    by_cases h3 : mI m (gz g + (t + 5)) 4 = 0
    · rw [if_pos h3]
      refine ⟨gz g + (t + 6), r0, n6, by rw [l6]; exact vp_in_nI (n := 1) (by omega) (by omega), ?_⟩
      rw [show (1 : Int32).toNatClampNeg = 1 from rfl, FC 1 (by omega)]
      refine en_SL_cutTo g (fun m1 e1 m2 e2 => ?_)
      rw [← j4, if_pos h3] at hQ
      refine hQ m2 ?_ ⟨?_, ?_, ?_, ?_, ?_, ?_, fun j hj => ?_⟩
      · rw [e2, e1]; exact (St_sL m (Or.inl rfl) _).trans (St_sI _ (Or.inl rfl) _)
      · rw [e2, mI_sI, up2_sl (by omega), e1, mI_sL]; exact j3
      · rw [e2, mI_sI, up2_at]
      · rw [e2, mI_sI, up2_sl (by omega), e1, mI_sL]; exact j5
      · rw [e2, mL_sI, e1, mL_sL, up2_at]; exact (if_neg (show ¬ (1 : Int32) = 0 by decide)).symm
      · rw [e2, mL_sI, e1, mL_sL, up2_sl (by omega)]; exact j7
      · rw [e2, mI_sI, up2_sl (by omega), e1, mI_sL]; exact j6
      · rw [e2, mI_sI, up2_oth (by omega), e1, mI_sL]; exact jv j hj
    · rw [if_neg h3]
      intro m1 e1 m2 e2
      have h3' := h3
      rw [j4] at h3'
      rw [if_neg h3'] at hQ
      refine hQ m2 ?_ ⟨?_, ?_, ?_, ?_, ?_, ?_, fun j hj => ?_⟩
      · rw [e2, e1]; exact (St_sL m (Or.inl rfl) _).trans (St_sI _ (Or.inl rfl) _)
      · rw [e2, mI_sI, up2_sl (by omega), e1, mI_sL]; exact j3
      · rw [e2, mI_sI, up2_at]
      · rw [e2, mI_sI, up2_sl (by omega), e1, mI_sL]; exact j5
      · rw [e2, mL_sI, e1, mL_sL, up2_at, j8, if_neg h3']; exact (if_neg (show ¬ (1 : Int32) = 0 by decide)).symm
      · rw [e2, mL_sI, e1, mL_sL, up2_sl (by omega)]; exact j7
      · rw [e2, mI_sI, up2_sl (by omega), e1, mI_sL]; exact j6
      · rw [e2, mI_sI, up2_oth (by omega), e1, mI_sL]; exact jv j hj
  rw [if_neg h15] at hQ ⊢
  obtain ⟨hk, v, hv0, hv⟩ := (hc.resolve_left h14).resolve_left h15
  have xv : x = v.toInt64 := by rw [← hx]; exact hv f
  have x32 : x.toInt32 = v := by rw [xv]; exact toI32_64 v
  by_cases h16 : c.1 = 16
  · rw [if_pos h16] at hQ ⊢
    have x0 : ¬ x < (0 : Int64) := by
      rw [xv, Int64.lt_iff_toInt_lt, Int32.toInt_toInt64]
      rw [Int32.le_iff_toInt_le] at hv0
      have z : (0 : Int32).toInt = 0 := rfl
      have z2 : (0 : Int64).toInt = 0 := rfl
      omega
    rw [if_neg x0]
    by_cases h8 : (8 : Int64) ≤ x
    · rw [if_pos h8]
      rw [if_pos h8, if_pos h8] at hQ
      exact hQ m (St.refl _ _) ⟨j3, j4, j5, j8, j7, j6, jv⟩
    · rw [if_neg h8]
      rw [if_neg h8, if_neg h8] at hQ
      rw [x32] at hQ ⊢
      have v8 : v.toInt < 8 := by
        rw [xv, Int64.le_iff_toInt_le, Int32.toInt_toInt64] at h8
        have z : (8 : Int64).toInt = 8 := rfl
        omega
      have v0 : 0 ≤ v.toInt := by
        rw [Int32.le_iff_toInt_le] at hv0
        exact hv0
      have hvn : v = nI v.toInt.toNat := by
        apply Int32.toInt_inj.mp
        rw [nI_toInt (by omega)]
        omega
      have hlt : v.toInt.toNat < 8 := by omega
      generalize v.toInt.toNat = u at hvn hlt
      subst hvn
      rw [nI_clamp (show u < 2 ^ 31 by omega)] at hQ ⊢
      refine ⟨k3, gz g + (t + 8), r2, n8, by rw [l8]; exact vp_in_nI hlt (by omega), fun m1 e1 => ?_⟩
      refine hQ m1 (by rw [e1]; exact St_sI m (Or.inr (Or.inr rfl)) _) ⟨?_, ?_, ?_, ?_, ?_, ?_, fun j hj => ?_⟩
      · rw [e1, mI_sI, up2_oth (by omega)]; exact j3
      · rw [e1, mI_sI, up2_oth (by omega)]; exact j4
      · rw [e1, mI_sI, up2_oth (by omega)]; exact j5
      · rw [e1, mL_sI]; exact j8
      · rw [e1, mL_sI]; exact j7
      · rw [e1, mI_sI, up2_oth (by omega)]; exact j6
      · rw [e1, mI_sI]
        show up2 _ _ _ _ _ _ = va_up V.2.2.2.2.1 u 1 j
        unfold va_up
        by_cases hju : j = u
        · rw [hju, up2_at, if_pos rfl]
        · rw [up2_sl hju, if_neg hju]; exact jv j hj
  rw [if_neg h16] at hQ ⊢
  by_cases h17 : c.1 = 17
  · rw [if_pos h17] at hQ ⊢
    refine ⟨k3, fun m1 e1 => ?_⟩
    rw [x32] at hQ
    refine hQ m1 (by rw [e1]; exact St_sL m (Or.inl rfl) _) ⟨?_, ?_, ?_, ?_, ?_, ?_, fun j hj => ?_⟩
    · rw [e1, mI_sL]; exact j3
    · rw [e1, mI_sL]; exact j4
    · rw [e1, mI_sL]; exact j5
    · rw [e1, mL_sL, up2_sl (by omega)]; exact j8
    · rw [e1, mL_sL, up2_at, j7, xv, lmx_imx]
    · rw [e1, mI_sL]; exact j6
    · rw [e1, mI_sL]; exact jv j hj
  rw [if_neg h17] at hQ ⊢
  refine ⟨k3, ?_⟩
  rw [x32, ← j6] at hQ
  rw [x32]
  have fin : ∀ m1 w, m1 = sI m (gz g + (t + 5)) 6 w → w = (if mI m (gz g + (t + 5)) 6 = -1 then v else imn (mI m (gz g + (t + 5)) 6) v) → Q m1 := by
    intro m1 w e1 hw
    refine hQ m1 (by rw [e1]; exact St_sI m (Or.inl rfl) _) ⟨?_, ?_, ?_, ?_, ?_, ?_, fun j hj => ?_⟩
    · rw [e1, mI_sI, up2_sl (by omega)]; exact j3
    · rw [e1, mI_sI, up2_sl (by omega)]; exact j4
    · rw [e1, mI_sI, up2_sl (by omega)]; exact j5
    · rw [e1, mL_sI]; exact j8
    · rw [e1, mL_sI]; exact j7
    · rw [e1, mI_sI, up2_at]; exact hw
    · rw [e1, mI_sI, up2_oth (by omega)]; exact jv j hj
  by_cases h6 : mI m (gz g + (t + 5)) 6 = -1
  · rw [if_pos h6]
    exact fun m1 e1 => fin m1 _ e1 (if_pos h6).symm
  · rw [if_neg h6]
    exact fun m1 e1 => fin m1 _ e1 (if_neg h6).symm
/-- a law's object holds the clauses -/
def LawH (la : Nat) (cs : List Cls) (m : Mm) : Prop := ∃ b0 b1 b2 b3 b4, (mK m la = 5 ∧ mI m la 5 = nI cs.length) ∧ (mR m la 0 = some b0 ∧ mR m la 1 = some b1 ∧ mR m la 2 = some b2 ∧ mR m la 3 = some b3) ∧ (mK m b0 = 15 ∧ mK m b1 = 15 ∧ mK m b2 = 15 ∧ mK m b3 = 15) ∧ (cs.length ≤ mN m b0 ∧ cs.length ≤ mN m b1 ∧ cs.length ≤ mN m b2 ∧ cs.length ≤ mN m b3) ∧ ClsAt b0 b1 b2 b3 cs m ∧ LcAt la b4 (codeOf cs).length m ∧ CdAt b4 0 (codeOf cs) m
def LwOK (cs : List Cls) : Prop := cs.length ≤ 12 ∧ (codeOf cs).length ≤ 300 ∧ ∀ c, c ∈ cs → ClsOK c ∧ ClsV c
theorem LawH.st {P : Nat → Nat → Prop} {la : Nat} {cs : List Cls} {m m' : Mm} (h : LawH la cs m) (s : St P m m') (hP : ∀ a j, P a j → mK m a ≠ 5 ∧ mK m a ≠ 15) : LawH la cs m' := by
  obtain ⟨b0, b1, b2, b3, b4, ⟨a1, a2⟩, ⟨c0, c1, c2, c3⟩, ⟨d0, d1, d2, d3⟩, ⟨e0, e1, e2, e3⟩, cl, lc, cd⟩ := h
  have q5 : ∀ j, mI m' la j = mI m la j := fun j => (s.2 la j (fun q => (hP _ _ q).1 a1)).1
  have q15 : ∀ b j, mK m b = 15 → mI m' b j = mI m b j := fun b j hb => (s.2 b j (fun q => (hP _ _ q).2 hb)).1
  refine ⟨b0, b1, b2, b3, b4, ⟨by rw [s.1.2.1]; exact a1, by rw [q5]; exact a2⟩, by rw [s.1.1]; exact ⟨c0, c1, c2, c3⟩, by rw [s.1.2.1]; exact ⟨d0, d1, d2, d3⟩, by rw [s.1.2.2.1]; exact ⟨e0, e1, e2, e3⟩, fun k c hk => ?_, lc.st s, fun k hk => ?_⟩
  · rw [q15 b0 k d0, q15 b1 k d1, q15 b2 k d2, q15 b3 k d3]; exact cl k c hk
  · rw [q15 b4 _ lc.2.2.1]; exact cd k hk
theorem codeOf_app2 (a b : List Cls) : codeOf (a ++ b) = codeOf a ++ codeOf b := by
  unfold codeOf
  rw [List.map_append, List.flatten_append]
theorem code_at {cs : List Cls} {k : Nat} {c : Cls} (h : cs[k]? = some c) : ∃ R, codeOf cs = codeOf (cs.take k) ++ (c.2.1 ++ (c.2.2.2.1 ++ R)) := by
  obtain ⟨hk, e⟩ := List.getElem?_eq_some_iff.mp h
  refine ⟨codeOf (cs.drop (k + 1)), ?_⟩
  have h1 : cs = cs.take k ++ (c :: cs.drop (k + 1)) := by
    rw [← e, ← List.drop_eq_getElem_cons hk, List.take_append_drop]
  have h2 : codeOf (c :: cs.drop (k + 1)) = (c.2.1 ++ c.2.2.2.1) ++ codeOf (cs.drop (k + 1)) := by
    unfold codeOf
    rw [List.map_cons, List.flatten_cons]
  rw [← List.append_assoc c.2.1, ← h2, ← codeOf_app2, ← h1]
theorem judge_P {g : Gc} {t : Nat} {m : Mm} (ht : t = 2 ∨ t = 65) (S : Sg g m) (a j : Nat) (h : PJo g t a j) : mK m a ≠ 5 ∧ mK m a ≠ 15 := by
  obtain ⟨k3, -, -, -, n6, n7, n8, -⟩ := judge_k ht S
  rcases h with rfl | rfl | rfl
  · rw [k3]; decide
  · rw [n7]; decide
  · rw [n8]; decide
theorem l_hear (g : Gc) {lv t la : Nat} {f : Nat → Int64} {cs : List Cls} (ht : t = 2 ∨ t = 65) (hL : LwOK cs) {Q : Mm → Prop} : ∀ n k m, cs.length ≤ k + n → k ≤ cs.length → Sg g m → LawH la cs m → FcAt g t f m → JV g t (f 1) (rawL f (cs.take k)) m → (∀ m', St (PJo g t) m m' → JV g t (f 1) (rawL f cs) m' → Q m') → At g M_Judge_hear (lv + 3) 58 [(0, va_rf (some (gz g + (t + 5)))), (1, va_rf (some la)), (2, .int (nI k))] [] m (QV Q) := by
  obtain ⟨h12, h300, hall⟩ := hL
  have fin : ∀ m, LawH la cs m → JV g t (f 1) (rawL f cs) m → (∀ m', St (PJo g t) m m' → JV g t (f 1) (rawL f cs) m' → Q m') → At g M_Judge_hear (lv + 3) 58 [(0, va_rf (some (gz g + (t + 5)))), (1, va_rf (some la)), (2, .int (nI cs.length))] [] m (QV Q) := by
    intro m hl hj hQ
    obtain ⟨b0, b1, b2, b3, b4, ⟨a1, a2⟩, -⟩ := hl
    refine bk_Judge_hear_58 g ⟨la, rfl, a1, ?_⟩
    rw [a2, if_pos (nI_le (Nat.le_refl _) (by omega))]
    exact hQ m (St.refl _ _) hj
  intro n
  induction n with
  | zero =>
    intro k m h1 h2 S LH FC J hQ
    have : k = cs.length := by omega
    subst this
    rw [List.take_length] at J
    exact fin m LH J hQ
  | succ n ih =>
    intro k m h1 h2 S LH FC J hQ
    by_cases hk : k = cs.length
    · subst hk
      rw [List.take_length] at J
      exact fin m LH J hQ
    have hk' : k < cs.length := by omega
    have hc : cs[k]? = some cs[k] := List.getElem?_eq_getElem hk'
    generalize cs[k] = c at hc
    obtain ⟨R, hR⟩ := code_at hc
    have hmem : c ∈ cs := List.mem_of_getElem? hc
    obtain ⟨ok, okv⟩ := hall c hmem
    have LH0 := LH
    obtain ⟨b0, b1, b2, b3, b4, ⟨a1, a2⟩, ⟨c0, c1, c2, c3⟩, ⟨d0, d1, d2, d3⟩, ⟨e0, e1, e2, e3⟩, cl, lc, cd⟩ := LH
    obtain ⟨w0, w1, w2, w3⟩ := cl k c hc
    obtain ⟨sm, scnd⟩ := ok g t la b4 f ht
    have lens : (codeOf (cs.take k)).length + c.2.1.length + c.2.2.2.1.length ≤ (codeOf cs).length := by
      rw [hR]; simp only [List.length_append]; omega
    rw [hR] at cd
    obtain ⟨-, cd1⟩ := cd.app
    obtain ⟨cdm, cd2⟩ := cd1.app
    obtain ⟨cdc, -⟩ := cd2.app
    rw [Nat.zero_add] at cdm cdc
    have tk : rawL f (cs.take (k + 1)) = clF f (rawL f (cs.take k)) c := by
      unfold rawL
      rw [List.take_succ, hc, List.foldl_append]
      rfl
    have vk : ∀ (mm : Mm) (b : Nat), cs.length ≤ mN mm b → vp_in (nI k) (mN mm b) := fun mm b hb => vp_lt (by omega) (by omega)
    refine bk_Judge_hear_58 g ⟨la, rfl, a1, ?_⟩
    rw [a2, if_neg (nI_ge (by omega) (by omega))]
    refine ⟨b2, c2, d2, vk m b2 e2, b3, c3, d3, vk m b3 e3, ?_⟩
    rw [nI_clamp (show k < 2 ^ 31 by omega), w2, w3]
    -- the clause is obeyed
    have ob : ∀ m1, St (PJk g t) m m1 → ¬ c.2.2.2.2 f = 0 → At g M_Judge_hear (lv + 3) 108 [(0, va_rf (some (gz g + (t + 5)))), (1, va_rf (some la)), (2, .int (nI k))] [.int (1 : Int32)] m1 (QV Q) := by
      intro m1 s1 hn
      have s1o : St (PJo g t) m m1 := s1.weak (fun a j q => Or.inr (Or.inl q))
      have S1 := s1.sg S
      have K1 : ∀ b j, mK m b = 15 → mI m1 b j = mI m b j := fun b j hb => (s1o.2 b j (fun q => (judge_P ht S _ _ q).2 hb)).1
      obtain ⟨k3, -⟩ := judge_k ht S1
      refine bk_Judge_hear_108 g ?_
      rw [if_neg (by decide)]
      refine ⟨la, rfl, by rw [s1.1.2.1]; exact a1, b0, by rw [s1.1.1]; exact c0, by rw [s1.1.2.1]; exact d0, by rw [s1.1.2.2.1]; exact vk m b0 e0, b1, by rw [s1.1.1]; exact c1, by rw [s1.1.2.1]; exact d1, by rw [s1.1.2.2.1]; exact vk m b1 e1, b2, by rw [s1.1.1]; exact c2, by rw [s1.1.2.1]; exact d2, by rw [s1.1.2.2.1]; exact vk m b2 e2, k3, ?_⟩
      rw [nI_clamp (show k < 2 ^ 31 by omega), K1 b0 k d0, K1 b1 k d1, K1 b2 k d2, w0, w1, w2]
      have hne : b4 ≠ gz g + (t + 7) := fun q => by
        have := lc.2.2.1
        obtain ⟨-, -, -, -, -, n7, -⟩ := judge_k ht S
        rw [q, n7] at this; exact absurd this (by decide)
      refine c_runJ g (lv := lv) ht sm (by omega) S1 ⟨(lc.st s1).1, (lc.st s1).2.1, (lc.st s1).2.2.1, by have := (lc.st s1).2.2.2; omega⟩ (cdm.st hne s1) (FC.st s1) (fun m2 s2 => ?_)
      refine c_obey g ht okv (s2.sg S1) ((FC.st s1).st s2) ((J.st s1).st s2) (fun m3 s3 J3 => ?_)
      have s2o : St (PJo g t) m1 m2 := s2.weak (fun a j q => Or.inr (Or.inl q))
      have s13 := (s1o.trans s2o).trans s3
      rw [nI_s]
      refine ih (k + 1) m3 (by omega) (by omega) (s13.sg S) (LH0.st s13 (judge_P ht S)) (fun j hj => (s13.2 _ _ (by unfold PJo; omega)).2.trans (FC j hj)) ?_ (fun m' s' J' => hQ m' (s13.trans s') J')
      rw [tk]
      unfold clF
      rw [if_neg hn]
      exact J3
    rcases scnd with ⟨q1, q2⟩ | ⟨q1, q2⟩
    · rw [q1]
      rw [if_pos (show nI ((codeOf (List.take k cs)).length + c.snd.fst.length) = nI ((codeOf (List.take k cs)).length + c.snd.fst.length + ([] : List Int32).length) from rfl)]
      refine bk_Judge_hear_103 g (ob m (St.refl _ _) (by rw [q2]; decide))
    · rw [if_neg (fun q => by have := (nI_eq (by omega) (by omega)).mp q; omega)]
      obtain ⟨k3, -⟩ := judge_k ht S
      refine ⟨vk m b2 e2, vk m b3 e3, k3, ?_⟩
      refine c_runJ g (lv := lv) ht q2 (by omega) S ⟨lc.1, lc.2.1, lc.2.2.1, by have := lc.2.2.2; omega⟩ cdc FC (fun m1 s1 => ?_)
      by_cases hz : c.2.2.2.2 f = 0
      · rw [if_pos hz]
        refine bk_Judge_hear_108 g ?_
        rw [if_pos rfl, nI_s]
        have s1o : St (PJo g t) m m1 := s1.weak (fun a j q => Or.inr (Or.inl q))
        refine ih (k + 1) m1 (by omega) (by omega) (s1.sg S) (LH0.st s1o (judge_P ht S)) (FC.st s1) ?_ (fun m' s' J' => hQ m' (s1o.trans s') J')
        rw [tk]
        unfold clF
        rw [if_pos hz]
        exact J.st s1
      · rw [if_neg hz]
        exact bk_Judge_hear_103 g (ob m1 s1 hz)
theorem l_clearJ (g : Gc) {lv t : Nat} {st : Int64} {o : Option Nat} (ht : t = 2 ∨ t = 65) {Q : Mm → Prop} : ∀ n k m, 8 ≤ k + n → k ≤ 8 → Sg g m → (∀ j, j < k → mI m (gz g + (t + 8)) j = 0) → mI m (gz g + (t + 5)) 3 = 0 ∧ mI m (gz g + (t + 5)) 4 = 0 ∧ mI m (gz g + (t + 5)) 5 = 0 ∧ mL m (gz g + (t + 5)) 8 = 0 ∧ mL m (gz g + (t + 5)) 7 = 0 ∧ mI m (gz g + (t + 5)) 6 = -1 → (∀ m', St (PJo g t) m m' → JV g t st RS0 m' → (o = none → Q m') ∧ ∀ la, o = some la → At g M_Judge_hear (lv + 3) 58 [(0, va_rf (some (gz g + (t + 5)))), (1, va_rf o), (2, .int (0 : Int32))] [] m' (QV Q)) → At g M_Judge_hear (lv + 3) 32 [(0, va_rf (some (gz g + (t + 5)))), (1, va_rf o), (2, .int (nI k))] [] m (QV Q) := by
  have fin : ∀ m, (∀ j, j < 8 → mI m (gz g + (t + 8)) j = 0) → mI m (gz g + (t + 5)) 3 = 0 ∧ mI m (gz g + (t + 5)) 4 = 0 ∧ mI m (gz g + (t + 5)) 5 = 0 ∧ mL m (gz g + (t + 5)) 8 = 0 ∧ mL m (gz g + (t + 5)) 7 = 0 ∧ mI m (gz g + (t + 5)) 6 = -1 → (∀ m', St (PJo g t) m m' → JV g t st RS0 m' → (o = none → Q m') ∧ ∀ la, o = some la → At g M_Judge_hear (lv + 3) 58 [(0, va_rf (some (gz g + (t + 5)))), (1, va_rf o), (2, .int (0 : Int32))] [] m' (QV Q)) → At g M_Judge_hear (lv + 3) 32 [(0, va_rf (some (gz g + (t + 5)))), (1, va_rf o), (2, .int (nI 8))] [] m (QV Q) := by
    intro m hv ⟨a, b, c, d, e, f⟩ hQ
    obtain ⟨q1, q2⟩ := hQ m (St.refl _ _) ⟨a, b, c, d, e, f, hv⟩
    refine bk_Judge_hear_32 g ?_
    rw [if_pos (by decide)]
    cases o with
    | none => rw [if_pos rfl]; exact q1 rfl
    | some la => rw [if_neg (by simp)]; exact q2 la rfl
  intro n
  induction n with
  | zero =>
    intro k m h1 h2 S hv hz hQ
    have : k = 8 := by omega
    subst this
    exact fin m hv hz hQ
  | succ n ih =>
    intro k m h1 h2 S hv hz hQ
    by_cases hk : k = 8
    · subst hk; exact fin m hv hz hQ
    obtain ⟨k3, -, -, r2, -, -, n8, -, -, l8⟩ := judge_k ht S
    refine bk_Judge_hear_32 g ?_
    rw [if_neg (show ¬ (8 : Int32) ≤ nI k from nI_ge (a := k) (b := 8) (by omega) (by omega)), nI_clamp (show k < 2 ^ 31 by omega), nI_s]
    refine ⟨k3, gz g + (t + 8), r2, n8, by rw [l8]; exact vp_in_nI (by omega) (by omega), fun m1 e1 => ?_⟩
    have s1 : St (PJo g t) m m1 := by rw [e1]; exact St_sI m (Or.inr (Or.inr rfl)) _
    have o5 : ∀ j, mI m1 (gz g + (t + 5)) j = mI m (gz g + (t + 5)) j := fun j => by rw [e1, mI_sI, up2_oth (by omega)]
    refine ih (k + 1) m1 (by omega) (by omega) (s1.sg S) (fun j hj => ?_) (by rw [o5, o5, o5, o5, e1, mL_sI]; exact hz) (fun m' s' J' => hQ m' (s1.trans s') J')
    rw [e1, mI_sI]
    by_cases hjk : j = k
    · rw [hjk, up2_at]
    · rw [up2_sl hjk]; exact hv j (by omega)
/-- the judge hears a law, or none -/
theorem c_hear (g : Gc) {lv t : Nat} {f : Nat → Int64} {o : Option Nat} {cs : List Cls} {m : Mm} (ht : t = 2 ∨ t = 65) (hL : LwOK cs) (S : Sg g m) (FC : FcAt g t f m) (hn : o = none → cs = []) (hs : ∀ la, o = some la → LawH la cs m) {Q : Mm → Prop} (hQ : ∀ m', St (PJo g t) m m' → JV g t (f 1) (rawL f cs) m' → Q m') : CV g M_Judge_hear (lv + 3) [va_rf (some (gz g + (t + 5))), va_rf o] m Q := by
  obtain ⟨k3, -⟩ := judge_k ht S
  refine en_Judge_hear g ⟨k3, fun m1 e1 m2 e2 m3 e3 m4 e4 m5 e5 m6 e6 => ?_⟩
  have s6 : St (PJo g t) m m6 := by
    rw [e6, e5, e4, e3, e2, e1]
    exact (((((St_sI m (Or.inl rfl) _).trans (St_sI _ (Or.inl rfl) _)).trans (St_sI _ (Or.inl rfl) _)).trans (St_sL _ (Or.inl rfl) _)).trans (St_sL _ (Or.inl rfl) _)).trans (St_sI _ (Or.inl rfl) _)
  refine l_clearJ g (st := f 1) ht 8 0 m6 (by omega) (by omega) (s6.sg S) (fun j hj => by omega) ?_ (fun m' s' J' => ⟨fun q => ?_, fun la q => ?_⟩)
  · rw [e6, e5, e4, e3, e2, e1]
    simp [mI, mL, sI, sL, up2]
  · rw [hn q] at hQ
    exact hQ m' (s6.trans s') J'
  · have s06 := s6.trans s'
    subst q
    refine l_hear g ht hL cs.length 0 m' (by omega) (by omega) (s06.sg S) ((hs la rfl).st s06 (judge_P ht S)) (fun j hj => (s06.2 _ _ (by unfold PJo; omega)).2.trans (FC j hj)) J' (fun m'' s'' J'' => hQ m'' (s06.trans s'') J'')
