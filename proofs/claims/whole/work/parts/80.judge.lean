/-! ===== the class's judge runs a code ===== -/
def jn (k : Int32) (a b : Int64) : Int64 := if k = 4 then a + b else if k = 5 then a - b else if k = 6 then a * b else if k = 7 then (if b = 0 then 0 else a / b) else if k = 10 then (if b ≤ a then 0 else 1) else if k = 11 then (if a ≤ b then 0 else 1) else if k = 12 then (if a = b then 1 else 0) else a &&& b
theorem c_jn (g : Gc) {lv : Nat} {k : Int32} {a b : Int64} {m : Mm} {Q : Int64 → Mm → Prop} (hQ : Q (jn k a b) m) : CJ g M_Judge_join (lv + 1) [.int k, .long a, .long b] m Q := by
  refine en_Judge_join g ?_
  unfold jn at hQ
  by_cases h4 : k = 4
  · rw [if_pos h4] at hQ ⊢; exact hQ
  rw [if_neg h4] at hQ ⊢
  by_cases h5 : k = 5
  · rw [if_pos h5] at hQ ⊢; exact hQ
  rw [if_neg h5] at hQ ⊢
  by_cases h6 : k = 6
  · rw [if_pos h6] at hQ ⊢; exact hQ
  rw [if_neg h6] at hQ ⊢
  by_cases h7 : k = 7
  · rw [if_pos h7] at hQ ⊢
    by_cases hb : b = 0
    · rw [if_pos hb] at hQ ⊢; exact hQ
    · rw [if_neg hb] at hQ ⊢; exact ⟨hb, hQ⟩
  rw [if_neg h7] at hQ ⊢
  by_cases h8 : k = 8
  · rw [if_pos h8]; subst h8; exact hQ
  rw [if_neg h8]
  by_cases h9 : k = 9
  · rw [if_pos h9]; subst h9; exact hQ
  rw [if_neg h9]
  by_cases h10 : k = 10
  · rw [if_pos h10] at hQ ⊢
    by_cases hb : b ≤ a
    · rw [if_pos hb] at hQ ⊢; exact hQ
    · rw [if_neg hb] at hQ ⊢; exact hQ
  rw [if_neg h10] at hQ ⊢
  by_cases h11 : k = 11
  · rw [if_pos h11] at hQ ⊢
    by_cases hb : a ≤ b
    · rw [if_pos hb] at hQ ⊢; exact hQ
    · rw [if_neg hb] at hQ ⊢; exact hQ
  rw [if_neg h11] at hQ ⊢
  by_cases h12 : k = 12
  · rw [if_pos h12] at hQ ⊢
    by_cases hb : a = b
    · rw [if_pos hb] at hQ ⊢; exact hQ
    · rw [if_neg hb] at hQ ⊢; exact hQ
  rw [if_neg h12] at hQ ⊢
  exact hQ
def PJk (g : Gc) (t a _j : Nat) : Prop := a = gz g + (t + 7)
def LcAt (la lc e : Nat) (m : Mm) : Prop := mK m la = 5 ∧ mR m la 4 = some lc ∧ mK m lc = 15 ∧ e ≤ mN m lc
theorem LcAt.st {P : Nat → Nat → Prop} {la lc e : Nat} {m m' : Mm} (h : LcAt la lc e m) (s : St P m m') : LcAt la lc e m' := ⟨by rw [s.1.2.1]; exact h.1, by rw [s.1.1]; exact h.2.1, by rw [s.1.2.1]; exact h.2.2.1, by rw [s.1.2.2.1]; exact h.2.2.2⟩
def CdAt (lc p : Nat) (code : List Int32) (m : Mm) : Prop := ∀ k, k < code.length → mI m lc (p + k) = code.getD k 0
def FcAt (g : Gc) (t : Nat) (f : Nat → Int64) (m : Mm) : Prop := ∀ j, j < 6 → mL m (gz g + (t + 6)) j = f j
abbrev lcR (g : Gc) (t la e h p : Nat) : List (Nat × Value) := [(0, va_rf (some (gz g + (t + 5)))), (1, va_rf (some la)), (3, .int (nI e)), (4, .int (nI h)), (5, .int (nI p))]
/-- a piece of code that leaves v on the stack and needs H places -/
def Seg (g : Gc) (t la lc : Nat) (f : Nat → Int64) (code : List Int32) (v : Int64) (H : Nat) : Prop :=
  ∀ (lv p h e : Nat) (m : Mm) (Q : Int64 → Mm → Prop), h + H ≤ 32 → p + code.length ≤ e → e ≤ 300 → Sg g m → LcAt la lc e m → CdAt lc p code m → FcAt g t f m → (∀ m', St (PJk g t) m m' → (∀ j, j < h → mL m' (gz g + (t + 7)) j = mL m (gz g + (t + 7)) j) → mL m' (gz g + (t + 7)) h = v → At g M_Judge_run (lv + 2) 6 (lcR g t la e (h + 1) (p + code.length)) [] m' (QJ Q)) → At g M_Judge_run (lv + 2) 6 (lcR g t la e h p) [] m (QJ Q)
theorem Seg.mono {g : Gc} {t la lc : Nat} {f : Nat → Int64} {code : List Int32} {v : Int64} {H H' : Nat} (s : Seg g t la lc f code v H) (h : H ≤ H') : Seg g t la lc f code v H' := fun lv p hh e m Q h1 => s lv p hh e m Q (by omega)
theorem CdAt.app {lc p : Nat} {a b : List Int32} {m : Mm} (h : CdAt lc p (a ++ b) m) : CdAt lc p a m ∧ CdAt lc (p + a.length) b m := by
  refine ⟨fun k hk => ?_, fun k hk => ?_⟩
  · rw [h k (by rw [List.length_append]; omega), List.getD_eq_getElem?_getD, List.getElem?_append_left hk, ← List.getD_eq_getElem?_getD]
  · rw [Nat.add_assoc, h (a.length + k) (by rw [List.length_append]; omega), List.getD_eq_getElem?_getD, List.getElem?_append_right (by omega), Nat.add_sub_cancel_left, ← List.getD_eq_getElem?_getD]
theorem judge_k {g : Gc} {t : Nat} {m : Mm} (ht : t = 2 ∨ t = 65) (S : Sg g m) : mK m (gz g + (t + 5)) = 3 ∧ mR m (gz g + (t + 5)) 0 = some (gz g + (t + 6)) ∧ mR m (gz g + (t + 5)) 1 = some (gz g + (t + 7)) ∧ mR m (gz g + (t + 5)) 2 = some (gz g + (t + 8)) ∧ mK m (gz g + (t + 6)) = 16 ∧ mK m (gz g + (t + 7)) = 16 ∧ mK m (gz g + (t + 8)) = 17 ∧ mN m (gz g + (t + 6)) = 6 ∧ mN m (gz g + (t + 7)) = 32 ∧ mN m (gz g + (t + 8)) = 8 := by
  rcases ht with rfl | rfl
  · exact ⟨S.k 7 rfl, S.r 7 0 rfl, S.r 7 1 rfl, S.r 7 2 rfl, S.k 8 rfl, S.k 9 rfl, S.k 10 rfl, S.n 8 rfl, S.n 9 rfl, S.n 10 rfl⟩
  · exact ⟨S.k 70 rfl, S.r 70 0 rfl, S.r 70 1 rfl, S.r 70 2 rfl, S.k 71 rfl, S.k 72 rfl, S.k 73 rfl, S.n 71 rfl, S.n 72 rfl, S.n 73 rfl⟩
theorem vp_lt {k N : Nat} (h : k < N) (hk : k < 2 ^ 31) : vp_in (nI k) N := fun q => q.elim (nI_pos hk) (fun q => by rw [nI_clamp hk] at q; omega)
theorem FcAt.st {g : Gc} {t : Nat} {f : Nat → Int64} {m m' : Mm} (h : FcAt g t f m) (s : St (PJk g t) m m') : FcAt g t f m' := fun j hj => (s.2 _ _ (by unfold PJk; omega)).2.trans (h j hj)
theorem CdAt.st {g : Gc} {t lc p : Nat} {code : List Int32} {m m' : Mm} (h : CdAt lc p code m) (hne : lc ≠ gz g + (t + 7)) (s : St (PJk g t) m m') : CdAt lc p code m' := fun k hk => (s.2 _ _ hne).1.trans (h k hk)
/-- a value is pushed -/
theorem seg_push {g : Gc} {t la lc : Nat} {f : Nat → Int64} {x : Int32} {v : Int64} (ht : t = 2 ∨ t = 65) (hx : (0 ≤ x ∧ wi (-x) 21 26 = 0 ∧ v = x.toInt64) ∨ (¬ 0 ≤ x ∧ ¬ wi (-x) 21 26 = 0 ∧ ∃ j, j < 6 ∧ (-x) - 21 = nI j ∧ v = f j)) : Seg g t la lc f [x] v 1 := by
  intro lv p h e m Q hH hp he S LC CD FC hQ
  obtain ⟨k3, r0, r1, -, n6, n7, -, l6, l7, -⟩ := judge_k ht S
  obtain ⟨c1, c2, c3, c4⟩ := LC
  have hp1 : p + 1 ≤ e := hp
  have cx : mI m lc p = x := CD 0 (Nat.zero_lt_one)
  refine bk_Judge_run_6 g ?_
  rw [if_neg (nI_ge (by omega) (by omega))]
  refine ⟨la, rfl, c1, lc, c2, c3, vp_lt (by omega) (by omega), c_isWithin g ?_⟩
  rw [nI_clamp (show p < 2 ^ 31 by omega), cx]
  have push : ∀ (w : Int64) (m1 : Mm), m1 = sL m (gz g + (t + 7)) h w → w = v → At g M_Judge_run (lv + 2) 6 [(0, va_rf (some (gz g + (t + 5)))), (1, va_rf (some la)), (3, .int (nI e)), (4, .int (nI h + 1)), (5, .int (nI p + 1))] [] m1 (QJ Q) := by
    intro w m1 e1 hw
    rw [nI_s, nI_s]
    refine hQ m1 (by rw [e1]; exact St_sL m (show PJk g t (gz g + (t + 7)) h from rfl) _) (fun j hj => by rw [e1, mL_sL, up2_sl (by omega)]) (by rw [e1, mL_sL, up2_at]; exact hw)
  have vh : vp_in (nI h) (mN m (gz g + (t + 7))) := by rw [l7]; exact vp_in_nI (by omega) (by omega)
  have go : At g M_Judge_run (lv + 2) 43 [(0, va_rf (some (gz g + (t + 5)))), (1, va_rf (some la)), (3, .int (nI e)), (4, .int (nI h)), (5, .int (nI p)), (6, .int x), (7, .int (wi (-x) 21 26))] [] m (QJ Q) := by
    refine bk_Judge_run_43 g ?_
    rw [if_neg (show ¬ (32 : Int32) ≤ nI h from nI_ge (a := h) (b := 32) (by omega) (by omega))]
    refine ⟨k3, gz g + (t + 7), r1, ?_⟩
    rcases hx with ⟨x1, x2, x3⟩ | ⟨x1, x2, j, x3, x4, x5⟩
    · rw [if_pos x2, nI_clamp (show h < 2 ^ 31 by omega)]
      exact ⟨n7, vh, fun m1 e1 => push _ m1 e1 x3.symm⟩
    · rw [if_neg x2, x4, nI_clamp (show h < 2 ^ 31 by omega), nI_clamp (show j < 2 ^ 31 by omega)]
      exact ⟨gz g + (t + 6), r0, n6, by rw [l6]; exact vp_in_nI (by omega) (by omega), n7, vh, fun m1 e1 => push _ m1 e1 (by rw [FC j x3]; exact x5.symm)⟩
  rcases hx with ⟨x1, x2, x3⟩ | ⟨x1, x2, j, x3, x4, x5⟩
  · rw [if_pos x1]; exact go
  · rw [if_neg x1, if_neg x2]; exact go
/-- two values are joined -/
theorem seg_join {g : Gc} {t la lc : Nat} {f : Nat → Int64} {c1 c2 : List Int32} {v1 v2 : Int64} {H1 H2 H : Nat} {k : Int32} (ht : t = 2 ∨ t = 65) (hk : ¬ 0 ≤ -k ∧ wi k 21 26 = 0 ∧ - -k = k) (s1 : Seg g t la lc f c1 v1 H1) (s2 : Seg g t la lc f c2 v2 H2) (h1 : H1 ≤ H) (h2 : H2 + 1 ≤ H) (h0 : 1 ≤ H2) : Seg g t la lc f (c1 ++ (c2 ++ [-k])) (jn k v1 v2) H := by
  intro lv p h e m Q hH hp he S LC CD FC hQ
  obtain ⟨k3, r0, r1, -, n6, n7, -, l6, l7, -⟩ := judge_k ht S
  simp only [List.length_append, List.length_cons, List.length_nil] at hp hQ
  obtain ⟨D1, D2⟩ := CD.app
  obtain ⟨D3, D4⟩ := D2.app
  have hne : lc ≠ gz g + (t + 7) := fun q => by have := LC.2.2.1; rw [q, n7] at this; exact absurd this (by decide)
  refine s1 lv p h e m Q (by omega) (by omega) he S LC D1 FC (fun m1 a1 b1 d1 => ?_)
  refine s2 lv (p + c1.length) (h + 1) e m1 Q (by omega) (by omega) he (a1.sg S) (LC.st a1) (D3.st hne a1) (FC.st a1) (fun m2 a2 b2 d2 => ?_)
  have S2 := a2.sg (a1.sg S)
  have LC2 := (LC.st a1).st a2
  obtain ⟨k3, r0, r1, -, n6, n7, -, l6, l7, -⟩ := judge_k ht S2
  obtain ⟨q1, q2, q3, q4⟩ := LC2
  have cx : mI m2 lc (p + c1.length + c2.length) = -k := (D4.st hne (a1.trans a2)) 0 (Nat.zero_lt_one)
  refine bk_Judge_run_6 g ?_
  rw [if_neg (nI_ge (by omega) (by omega))]
  refine ⟨la, rfl, q1, lc, q2, q3, vp_lt (by omega) (by omega), c_isWithin g ?_⟩
  rw [nI_clamp (show p + c1.length + c2.length < 2 ^ 31 by omega), cx, hk.2.2, if_neg hk.1, if_pos hk.2.1, if_neg (show ¬ nI (h + 1 + 1) < (2 : Int32) from nI_nlt (a := h + 1 + 1) (b := 2) (by omega) (by omega))]
  rw [show nI (h + 1 + 1) - (2 : Int32) = nI h from nI_sub (a := h + 1 + 1) (b := 2) (by omega) (by omega), show nI (h + 1 + 1) - (1 : Int32) = nI (h + 1) from nI_sub (a := h + 1 + 1) (b := 1) (by omega) (by omega), nI_clamp (show h < 2 ^ 31 by omega), nI_clamp (show h + 1 < 2 ^ 31 by omega)]
  have vh : vp_in (nI h) (mN m2 (gz g + (t + 7))) := by rw [l7]; exact vp_in_nI (by omega) (by omega)
  refine ⟨k3, gz g + (t + 7), r1, n7, vh, by rw [l7]; exact vp_in_nI (by omega) (by omega), ?_⟩
  rw [d2, b2 h (by omega), d1]
  refine c_jn g ⟨vh, fun m3 e3 => ?_⟩
  rw [nI_dec (by omega), nI_s, show p + c1.length + c2.length + 1 = p + (c1.length + (c2.length + 1)) by omega]
  refine hQ m3 ((a1.trans a2).trans (by rw [e3]; exact St_sL m2 (show PJk g t (gz g + (t + 7)) h from rfl) _)) (fun j hj => ?_) (by rw [e3, mL_sL, up2_at])
  rw [e3, mL_sL, up2_sl (by omega), b2 j (by omega), b1 j hj]
theorem kd_op {k : Int32} (h : k = 4 ∨ k = 5 ∨ k = 6 ∨ k = 7 ∨ k = 10 ∨ k = 11 ∨ k = 12 ∨ k = 20) : ¬ 0 ≤ -k ∧ wi k 21 26 = 0 ∧ - -k = k := by
  rcases h with rfl | rfl | rfl | rfl | rfl | rfl | rfl | rfl <;> decide
theorem wi_cases {x : Int32} {a c : Nat} (hc : c < 2 ^ 31) (ha : a ≤ c) (h : ¬ wi x (nI a) (nI c) = 0) : ∃ j, a ≤ j ∧ j ≤ c ∧ x = nI j := wi_rng (a := a) (c := c) rfl rfl hc ha h
theorem op67 {k : Int32} (h : ¬ wi k 6 7 = 0) : (k = 6 ∨ k = 7) := by
  obtain ⟨j, h1, h2, rfl⟩ := wi_cases (a := 6) (c := 7) (by omega) (by omega) h
  rcases (show j = 6 ∨ j = 7 by omega) with rfl | rfl
  · exact Or.inl rfl
  · exact Or.inr rfl
theorem op45 {k : Int32} (h : ¬ wi k 4 5 = 0) : (k = 4 ∨ k = 5) := by
  obtain ⟨j, h1, h2, rfl⟩ := wi_cases (a := 4) (c := 5) (by omega) (by omega) h
  rcases (show j = 4 ∨ j = 5 by omega) with rfl | rfl
  · exact Or.inl rfl
  · exact Or.inr rfl
theorem op1012 {k : Int32} (h : ¬ wi k 10 12 = 0) : k = 10 ∨ k = 11 ∨ k = 12 := by
  obtain ⟨j, h1, h2, rfl⟩ := wi_cases (a := 10) (c := 12) (by omega) (by omega) h
  rcases (show j = 10 ∨ j = 11 ∨ j = 12 by omega) with rfl | rfl | rfl
  · exact Or.inl rfl
  · exact Or.inr (Or.inl rfl)
  · exact Or.inr (Or.inr rfl)
theorem jn_opA {k : Int32} (h : k = 4 ∨ k = 5 ∨ k = 6 ∨ k = 7) (a b : Int64) : jn k a b = opA k a b := by
  rcases h with rfl | rfl | rfl | rfl <;> rfl
theorem jn_cmp {k : Int32} (h : k = 10 ∨ k = 11 ∨ k = 12) (a b : Int64) : jn k a b = cmpA k a b := by
  rcases h with rfl | rfl | rfl <;> rfl
theorem jn_and (a b : Int64) : jn 20 a b = a &&& b := rfl
theorem neg_nn {x : Int32} (h : 0 ≤ x) : wi (-x) 21 26 = 0 := by
  rw [wi_eq0]
  refine Or.inl ?_
  rw [Int32.lt_iff_toInt_lt]
  rw [Int32.le_iff_toInt_le] at h
  have z : (0 : Int32).toInt = 0 := rfl
  have z2 : (21 : Int32).toInt = 21 := rfl
  have b1 := x.toInt_lt
  have b2 := x.le_toInt
  rw [Int32.toInt_neg, z2]
  have hb : ((-x.toInt)).bmod (2 ^ 32) = -x.toInt := Int.bmod_eq_of_le (by omega) (by omega)
  rw [hb]
  omega
theorem pp_seg {g : Gc} {t la lc : Nat} {f : Nat → Int64} {kd vl : Nat → Int32} (ht : t = 2 ∨ t = 65) (hv : ∀ i, kd i = 3 → 0 ≤ vl i) : ∀ n mode dp i c d r, mode ≤ 4 → dp ≤ 8 → pp kd vl n mode dp i c d = some (Sum.inl r) → (mode = 2 → Seg g t la lc f c (d f) (18 - 2 * dp)) → (mode = 4 → Seg g t la lc f c (d f) (19 - 2 * dp)) → Seg g t la lc f r.2.1 (r.2.2 f) (if mode = 0 then 17 - 2 * dp else if mode = 1 ∨ mode = 2 then 18 - 2 * dp else 19 - 2 * dp) := by
  intro n
  induction n with
  | zero => intro mode dp i c d r hm hd h; exact absurd h (by simp [pp])
  | succ n ih =>
    intro mode dp i c d r hm hd h h2 h4
    rcases (show mode = 0 ∨ mode = 1 ∨ mode = 2 ∨ mode = 3 ∨ mode = 4 by omega) with rfl | rfl | rfl | rfl | rfl
    · rw [if_pos rfl]
      rw [pp_0] at h
      by_cases h3 : kd i = 3
      · rw [if_pos h3] at h
        have := Sum.inl.inj (Option.some.inj h)
        subst this
        have nn := hv i h3
        exact (seg_push ht (Or.inl ⟨nn, neg_nn nn, rfl⟩)).mono (by omega)
      rw [if_neg h3] at h
      by_cases hw : wi (kd i) 21 26 = 0
      · rw [if_neg (fun q => q hw)] at h
        by_cases h8 : kd i = 8 ∧ dp < 8
        · rw [if_pos h8] at h
          rcases nxt_some h with ⟨e, he, q⟩ | ⟨r1, he1, hk1⟩
          · cases q
          · by_cases h9 : kd r1.1 = 9
            · rw [if_pos h9] at hk1
              have := Sum.inl.inj (Option.some.inj hk1)
              subst this
              have := ih 3 (dp + 1) (i + 1) [] d r1 (by omega) (by omega) he1 (fun q => by omega) (fun q => by omega)
              rw [if_neg (by omega), if_neg (by omega)] at this
              exact this.mono (by omega)
            · rw [if_neg h9] at hk1
              exact absurd (Option.some.inj hk1) (by simp)
        · rw [if_neg h8] at h
          exact absurd (Option.some.inj h) (by simp)
      · rw [if_pos hw] at h
        have := Sum.inl.inj (Option.some.inj h)
        subst this
        obtain ⟨j, h1, h2, hj⟩ := wi_cases (a := 21) (c := 26) (by omega) (by omega) hw
        have nn : - -(kd i) = kd i := by rw [hj]; rcases (show j = 21 ∨ j = 22 ∨ j = 23 ∨ j = 24 ∨ j = 25 ∨ j = 26 by omega) with rfl | rfl | rfl | rfl | rfl | rfl <;> decide
        have ng : ¬ 0 ≤ -(kd i) := by rw [hj]; rcases (show j = 21 ∨ j = 22 ∨ j = 23 ∨ j = 24 ∨ j = 25 ∨ j = 26 by omega) with rfl | rfl | rfl | rfl | rfl | rfl <;> decide
        refine (seg_push ht (Or.inr ⟨ng, by rw [nn]; exact hw, j - 21, by omega, ?_, ?_⟩)).mono (by omega)
        · rw [nn, hj]; exact nI_sub (a := j) (b := 21) h1 (by omega)
        · show f ((kd i).toNatClampNeg - 21) = _
          rw [hj, nI_clamp (show j < 2 ^ 31 by omega)]
    · rw [if_neg (by omega), if_pos (by omega)]
      rw [pp_1] at h
      rcases nxt_some h with ⟨e, he, q⟩ | ⟨r1, he1, hk1⟩
      · cases q
      · have s1 := ih 0 dp i [] d r1 (by omega) hd he1 (fun q => by omega) (fun q => by omega)
        rw [if_pos rfl] at s1
        have := ih 2 dp r1.1 r1.2.1 r1.2.2 r (by omega) hd hk1 (fun _ => s1.mono (by omega)) (fun q => by omega)
        rw [if_neg (by omega), if_pos (by omega)] at this
        exact this
    · rw [if_neg (by omega), if_pos (by omega)]
      rw [pp_2] at h
      by_cases hw : wi (kd i) 6 7 = 0
      · rw [if_neg (fun q => q hw)] at h
        have := Sum.inl.inj (Option.some.inj h)
        subst this
        exact h2 rfl
      · rw [if_pos hw] at h
        rcases nxt_some h with ⟨e, he, q⟩ | ⟨r1, he1, hk1⟩
        · cases q
        · have s1 := ih 0 dp (i + 1) [] d r1 (by omega) hd he1 (fun q => by omega) (fun q => by omega)
          rw [if_pos rfl] at s1
          have o := op67 hw
          have sj := seg_join (k := kd i) (H := 18 - 2 * dp) ht (kd_op (o.elim (fun q => Or.inr (Or.inr (Or.inl q))) (fun q => Or.inr (Or.inr (Or.inr (Or.inl q)))))) (h2 rfl) s1 (by omega) (by omega) (by omega)
          rw [jn_opA (o.elim (fun q => Or.inr (Or.inr (Or.inl q))) (fun q => Or.inr (Or.inr (Or.inr q))))] at sj
          have := ih 2 dp r1.1 _ (fun f => opA (kd i) (d f) (r1.2.2 f)) r (by omega) hd hk1 (fun _ => sj) (fun q => by omega)
          rw [if_neg (by omega), if_pos (by omega)] at this
          exact this
    · rw [if_neg (by omega), if_neg (by omega)]
      rw [pp_3] at h
      rcases nxt_some h with ⟨e, he, q⟩ | ⟨r1, he1, hk1⟩
      · cases q
      · have s1 := ih 1 dp i [] d r1 (by omega) hd he1 (fun q => by omega) (fun q => by omega)
        rw [if_neg (by omega), if_pos (by omega)] at s1
        have := ih 4 dp r1.1 r1.2.1 r1.2.2 r (by omega) hd hk1 (fun q => by omega) (fun _ => s1.mono (by omega))
        rw [if_neg (by omega), if_neg (by omega)] at this
        exact this
    · rw [if_neg (by omega), if_neg (by omega)]
      rw [pp_4] at h
      by_cases hw : wi (kd i) 4 5 = 0
      · rw [if_neg (fun q => q hw)] at h
        have := Sum.inl.inj (Option.some.inj h)
        subst this
        exact h4 rfl
      · rw [if_pos hw] at h
        rcases nxt_some h with ⟨e, he, q⟩ | ⟨r1, he1, hk1⟩
        · cases q
        · have s1 := ih 1 dp (i + 1) [] d r1 (by omega) hd he1 (fun q => by omega) (fun q => by omega)
          rw [if_neg (by omega), if_pos (by omega)] at s1
          have o := op45 hw
          have sj := seg_join (k := kd i) (H := 19 - 2 * dp) ht (kd_op (o.elim Or.inl (fun q => Or.inr (Or.inl q)))) (h4 rfl) s1 (by omega) (by omega) (by omega)
          rw [jn_opA (o.elim Or.inl (fun q => Or.inr (Or.inl q)))] at sj
          have := ih 4 dp r1.1 _ (fun f => opA (kd i) (d f) (r1.2.2 f)) r (by omega) hd hk1 (fun q => by omega) (fun _ => sj)
          rw [if_neg (by omega), if_neg (by omega)] at this
          exact this
theorem ppS_seg {g : Gc} {t la lc i : Nat} {f : Nat → Int64} {kd vl : Nat → Int32} {r : Nat × List Int32 × Den} (ht : t = 2 ∨ t = 65) (hv : ∀ i, kd i = 3 → 0 ≤ vl i) (h : ppS kd vl i = some (Sum.inl r)) : Seg g t la lc f r.2.1 (r.2.2 f) 19 := by
  have := pp_seg (g := g) (t := t) (la := la) (lc := lc) (f := f) ht hv 1000 3 0 i [] d0 r (by omega) (by omega) h (fun q => by omega) (fun q => by omega)
  rw [if_neg (by omega), if_neg (by omega)] at this
  exact this
theorem pcd_seg {g : Gc} {t la lc : Nat} {f : Nat → Int64} {kd vl : Nat → Int32} (ht : t = 2 ∨ t = 65) (hv : ∀ i, kd i = 3 → 0 ≤ vl i) : ∀ n q i c d r, (¬ q = 0 → Seg g t la lc f c (d f) 21) → pcd kd vl n q i c d = some (Sum.inl r) → Seg g t la lc f r.2.1 (r.2.2 f) 21 := by
  intro n
  induction n with
  | zero => intro q i c d r h1 h; exact absurd h (by simp [pcd])
  | succ n ih =>
    intro q i c d r h1 h
    rw [pcd_s] at h
    rcases nx_some h with ⟨e, he, q'⟩ | ⟨r1, hr1, hk⟩
    · cases q'
    by_cases hw : wi (kd r1.1) 10 12 = 0
    · rw [if_pos hw] at hk
      exact absurd (Option.some.inj hk) (by simp)
    rw [if_neg hw] at hk
    rcases nx_some hk with ⟨e, he, q'⟩ | ⟨s, hs, hk2⟩
    · cases q'
    have o := op1012 hw
    have s1 := ppS_seg (g := g) (t := t) (la := la) (lc := lc) (f := f) ht hv hr1
    have s2 := ppS_seg (g := g) (t := t) (la := la) (lc := lc) (f := f) ht hv hs
    have sj := seg_join (k := kd r1.1) (H := 20) ht (kd_op (o.elim (fun q => Or.inr (Or.inr (Or.inr (Or.inr (Or.inl q))))) (fun q => q.elim (fun q => Or.inr (Or.inr (Or.inr (Or.inr (Or.inr (Or.inl q)))))) (fun q => Or.inr (Or.inr (Or.inr (Or.inr (Or.inr (Or.inr (Or.inl q)))))))))) s1 s2 (by omega) (by omega) (by omega)
    rw [jn_cmp o] at sj
    have sc : Seg g t la lc f (cdC q c r1.2.1 s.2.1 (kd r1.1)) (cdD q d r1.2.2 s.2.2 (kd r1.1) f) 21 := by
      unfold cdC cdD
      by_cases hq : q = 0
      · rw [if_pos hq, if_pos hq]; exact sj.mono (by omega)
      · rw [if_neg hq, if_neg hq]
        have sa := seg_join (k := 20) (H := 21) ht (kd_op (by decide)) (h1 hq) sj (by omega) (by omega) (by omega)
        rw [jn_and] at sa
        simp only [List.append_assoc] at sa ⊢
        exact sa
    by_cases h20 : kd s.1 = 20
    · rw [if_pos h20] at hk2
      exact ih (q + 1) s.1 _ _ r (fun _ => sc) hk2
    · rw [if_neg h20] at hk2
      have := Sum.inl.inj (Option.some.inj hk2)
      subst this
      exact sc
/-- a clause that the judge can run -/
def ClsOK (c : Cls) : Prop := ∀ (g : Gc) (t la lc : Nat) (f : Nat → Int64), t = 2 ∨ t = 65 → Seg g t la lc f c.2.1 (c.2.2.1 f) 21 ∧ ((c.2.2.2.1 = [] ∧ c.2.2.2.2 f = 1) ∨ (1 ≤ c.2.2.2.1.length ∧ Seg g t la lc f c.2.2.2.1 (c.2.2.2.2 f) 21))
theorem pcl_ok {kd vl : Nat → Int32} (hv : ∀ i, kd i = 3 → 0 ≤ vl i) (hl : ∀ n q i c d r, (q = 0 → c = []) → pcd kd vl n q i c d = some (Sum.inl r) → 1 ≤ r.2.1.length) (i k : Nat) (r : Nat × Cls) (h : pcl kd vl i k = some (Sum.inl r)) : ClsOK r.2 := by
  intro g t la lc f ht
  unfold pcl at h
  by_cases h1 : wi (kd i) 14 18 = 0 ∨ 12 ≤ k
  · rw [if_pos h1] at h
    exact absurd (Option.some.inj h) (by simp)
  rw [if_neg h1] at h
  by_cases h2 : kd i = 16 ∨ kd i = 17 ∨ kd i = 18
  · rw [if_pos h2] at h
    by_cases h3 : kd (i + 1) = 3
    · rw [if_pos h3] at h
      have := Sum.inl.inj (Option.some.inj h)
      subst this
      have nn := hv (i + 1) h3
      exact ⟨(seg_push ht (Or.inl ⟨nn, neg_nn nn, rfl⟩)).mono (by omega), Or.inl ⟨rfl, rfl⟩⟩
    · rw [if_neg h3] at h
      exact absurd (Option.some.inj h) (by simp)
  · rw [if_neg h2] at h
    rcases nx_some h with ⟨e, he, q'⟩ | ⟨r1, hr1, hk⟩
    · cases q'
    have s1 := ppS_seg (g := g) (t := t) (la := la) (lc := lc) (f := f) ht hv hr1
    by_cases h19 : kd r1.1 = 19
    · rw [if_pos h19] at hk
      rcases nx_some hk with ⟨e, he, q'⟩ | ⟨s, hs, hk2⟩
      · cases q'
      have := Sum.inl.inj (Option.some.inj hk2)
      subst this
      exact ⟨s1.mono (by omega), Or.inr ⟨hl 400 0 r1.1 [] d0 s (fun _ => rfl) hs, pcd_seg ht hv 400 0 r1.1 [] d0 s (fun q => absurd rfl q) hs⟩⟩
    · rw [if_neg h19] at hk
      have := Sum.inl.inj (Option.some.inj hk)
      subst this
      exact ⟨s1.mono (by omega), Or.inl ⟨rfl, rfl⟩⟩
theorem c_runJ (g : Gc) {lv t la lc a : Nat} {f : Nat → Int64} {code : List Int32} {v : Int64} {m : Mm} (ht : t = 2 ∨ t = 65) (s : Seg g t la lc f code v 21) (ha : a + code.length ≤ 300) (S : Sg g m) (LC : LcAt la lc (a + code.length) m) (CD : CdAt lc a code m) (FC : FcAt g t f m) {Q : Int64 → Mm → Prop} (hQ : ∀ m', St (PJk g t) m m' → Q v m') : CJ g M_Judge_run (lv + 2) [va_rf (some (gz g + (t + 5))), va_rf (some la), .int (nI a), .int (nI (a + code.length))] m Q := by
  refine en_Judge_run g ?_
  refine s lv a 0 (a + code.length) m Q (by omega) (Nat.le_refl _) ha S LC CD FC (fun m' s' _ h' => ?_)
  obtain ⟨k3, r0, r1, -, n6, n7, -, l6, l7, -⟩ := judge_k ht (s'.sg S)
  refine bk_Judge_run_6 g ?_
  rw [if_pos (nI_le (Nat.le_refl _) (by omega)), if_neg (by decide)]
  refine ⟨k3, gz g + (t + 7), r1, n7, by rw [l7]; exact vp_lt (k := 0) (by omega) (by omega), ?_⟩
  have := hQ m' s'
  rw [← h'] at this
  exact this
