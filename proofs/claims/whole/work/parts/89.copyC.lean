/-! ===== the class keeps a copy of a law ===== -/
theorem nw_N {m : Mm} {q k n sz a : Nat} (h : a ≠ q) : mN (nw m q k n sz) a = mN m a := by
  show va_up (mN m) _ _ a = _; simp [va_up, h]
theorem nw_r {m : Mm} {q k n sz : Nat} : mR (nw m q k n sz) q = fun _ => none := by
  show va_up (mR m) _ _ q = _; simp [va_up]
/-- an array is made and kept in a field -/
def StA (g : Gc) (q k n : Nat) (m m2 : Mm) : Prop := (Fr g m2 ∧ mC m2 = mC m + 1 ∧ mS m2 = mS m + n ∧ Ext m m2) ∧ (mR m2 q k = some (gz g + mC m) ∧ (∀ j, j ≠ k → mR m2 q j = mR m q j)) ∧ (mK m2 (gz g + mC m) = 15 ∧ mN m2 (gz g + mC m) = n) ∧ (∀ a, a ≠ gz g + mC m → mI m2 a = mI m a ∧ mL m2 a = mL m a ∧ mK m2 a = mK m a ∧ mN m2 a = mN m a) ∧ ∀ a, a ≠ gz g + mC m → a ≠ q → mR m2 a = mR m a
theorem stA (g : Gc) {q k n : Nat} {m m1 m2 : Mm} {b : Nat} (hF : Fr g m) (hq : q < gz g + mC m) (hr : mR m q k = none) (eb : b = gz g + mC m) (e1 : m1 = nw m b 15 n n) (e2 : m2 = sR m1 q k (some b)) : StA g q k n m m2 := by
  subst eb
  have hne : q ≠ gz g + mC m := by omega
  obtain ⟨o1, o2, o3, o4⟩ := nw_old (m := m) (k := 15) (n := n) (sz := n) hne
  have x1 : Ext m m1 := by rw [e1]; exact Ext.nw (hF.2 _ (Nat.le_refl _)) 15 n n
  have x2 : Ext m1 m2 := by rw [e2]; exact Ext.sR _ (Or.inr (by rw [e1, o3]; exact hr))
  refine ⟨⟨?_, ?_, ?_, x1.trans x2⟩, ⟨?_, fun j hj => ?_⟩, ⟨?_, ?_⟩, fun a ha => ?_, fun a ha haq => ?_⟩
  · have f1 := Fr_nw hF 15 n n
    rw [e2, e1]
    exact ⟨f1.1, fun a ha => f1.2 a ha⟩
  · rw [e2, mC_sR, e1]; rfl
  · rw [e2, mS_sR, e1]; rfl
  · rw [e2, mR_sR, up2_at]
  · rw [e2, mR_sR, up2_sl hj, e1, o3]
  · rw [e2, e1]; exact nw_new.1
  · rw [e2, e1]; exact nw_new.2
  · obtain ⟨p1, p2, p3, p4⟩ := nw_old (m := m) (k := 15) (n := n) (sz := n) ha
    refine ⟨?_, ?_, ?_, ?_⟩
    · rw [e2, mI_sR, e1]; exact p1
    · rw [e2, mL_sR, e1]; exact p2
    · rw [e2, e1]; exact p4
    · rw [e2, e1]; exact nw_N ha
  · rw [e2, mR_sR, up2_ne haq, e1]
    exact (nw_old ha).2.2.1
def LI (g : Gc) (q n c : Nat) (m m' : Mm) : Prop := (∀ k, k < 5 → mR m' q k = some (q + 1 + k) ∧ mK m' (q + 1 + k) = 15 ∧ mN m' (q + 1 + k) = if k = 4 then c else n) ∧ (∀ a, a ≤ q → mI m' a = mI m a ∧ mL m' a = mL m a ∧ mK m' a = mK m a ∧ mN m' a = mN m a) ∧ (∀ a, a < q → mR m' a = mR m a) ∧ Ext m m' ∧ (mC m' = mC m + 5 ∧ mS m' = mS m + 4 * n + c) ∧ Fr g m'
theorem imx0 {n : Nat} (h : n < 2 ^ 31) : imx (0 : Int32) (nI n) = nI n := imx_nI (a := 0) (Nat.zero_le _) h
theorem c_lawInit (g : Gc) {lv q n c : Nat} {m : Mm} (hF : Fr g m) (h5 : mK m q = 5) (hq : q + 1 = gz g + mC m) (hr : ∀ j, mR m q j = none) (hn : n ≤ 12) (hc : c ≤ 300) {Q : Mm → Prop} (hQ : ∀ m', LI g q n c m m' → Q m') : CV g M_Law_init (lv + 1) [va_rf (some q), .int (nI n), .int (nI c)] m Q := by
  refine en_Law_init g ⟨hF.2 _ (Nat.le_refl _), ?_⟩
  rw [imx0 (show n < 2 ^ 31 by omega), imx0 (show c < 2 ^ 31 by omega), nI_clamp (show n < 2 ^ 31 by omega), nI_clamp (show c < 2 ^ 31 by omega)]
  refine ⟨nI_pos (by omega), by omega, fun b0 m0' eb0 e0' => ⟨?_, ?_, fun m1 e1 => ?_⟩⟩
  · rw [e0']; exact (nw_old (by omega)).2.2.2.trans h5
  · rw [e0', (nw_old (by omega)).2.2.1]; exact hr 0
  have A1 := stA g hF (by omega) (hr 0) eb0 e0' e1
  obtain ⟨⟨f1, c1, s1, x1⟩, ⟨r1, r1'⟩, ⟨k1, n1⟩, o1, w1⟩ := A1
  have n1' : mN m1 b0 = n := by rw [eb0]; exact n1
  refine ⟨f1.2 _ (Nat.le_refl _), ?_⟩
  rw [n1', nI_clamp (show n < 2 ^ 31 by omega)]
  refine ⟨nI_pos (by omega), by omega, fun b1 m1' eb1 e1' => ⟨?_, fun m2 e2 => ?_⟩⟩
  · rw [e1', (nw_old (by omega)).2.2.1, r1' 1 (by omega)]; exact hr 1
  have A2 := stA g f1 (by omega) (by rw [r1' 1 (by omega)]; exact hr 1) eb1 e1' e2
  obtain ⟨⟨f2, c2, s2, x2⟩, ⟨r2, r2'⟩, ⟨k2, n2⟩, o2, w2⟩ := A2
  have n2' : mN m2 b0 = n := by rw [(o2 b0 (by omega)).2.2.2]; exact n1'
  refine ⟨f2.2 _ (Nat.le_refl _), ?_⟩
  rw [n2', nI_clamp (show n < 2 ^ 31 by omega)]
  refine ⟨nI_pos (by omega), by omega, fun b2 m2' eb2 e2' => ⟨?_, fun m3 e3 => ?_⟩⟩
  · rw [e2', (nw_old (by omega)).2.2.1, r2' 2 (by omega), r1' 2 (by omega)]; exact hr 2
  have A3 := stA g f2 (by omega) (by rw [r2' 2 (by omega), r1' 2 (by omega)]; exact hr 2) eb2 e2' e3
  obtain ⟨⟨f3, c3, s3, x3⟩, ⟨r3, r3'⟩, ⟨k3, n3⟩, o3, w3⟩ := A3
  have n3' : mN m3 b0 = n := by rw [(o3 b0 (by omega)).2.2.2]; exact n2'
  refine ⟨f3.2 _ (Nat.le_refl _), ?_⟩
  rw [n3', nI_clamp (show n < 2 ^ 31 by omega)]
  refine ⟨nI_pos (by omega), by omega, fun b3 m3' eb3 e3' => ⟨?_, fun m4 e4 => ?_⟩⟩
  · rw [e3', (nw_old (by omega)).2.2.1, r3' 3 (by omega), r2' 3 (by omega), r1' 3 (by omega)]; exact hr 3
  have A4 := stA g f3 (by omega) (by rw [r3' 3 (by omega), r2' 3 (by omega), r1' 3 (by omega)]; exact hr 3) eb3 e3' e4
  obtain ⟨⟨f4, c4, s4, x4⟩, ⟨r4, r4'⟩, ⟨k4, n4⟩, o4, w4⟩ := A4
  refine ⟨f4.2 _ (Nat.le_refl _), nI_pos (by omega), by omega, fun b4 m4' eb4 e4' => ⟨?_, fun m5 e5 => ?_⟩⟩
  · rw [e4', (nw_old (by omega)).2.2.1, r4' 4 (by omega), r3' 4 (by omega), r2' 4 (by omega), r1' 4 (by omega)]; exact hr 4
  have A5 := stA g f4 (by omega) (by rw [r4' 4 (by omega), r3' 4 (by omega), r2' 4 (by omega), r1' 4 (by omega)]; exact hr 4) eb4 e4' e5
  obtain ⟨⟨f5, c5, s5, x5⟩, ⟨r5, r5'⟩, ⟨k5, n5⟩, o5, w5⟩ := A5
  rw [show gz g + mC m = q + 1 + 0 by omega] at r1 k1 n1
  rw [show gz g + mC m1 = q + 1 + 1 by omega] at r2 k2 n2
  rw [show gz g + mC m2 = q + 1 + 2 by omega] at r3 k3 n3
  rw [show gz g + mC m3 = q + 1 + 3 by omega] at r4 k4 n4
  rw [show gz g + mC m4 = q + 1 + 4 by omega] at r5 k5 n5
  refine hQ m5 ⟨fun k hk => ?_, fun a ha => ?_, fun a ha => ?_, (((x1.trans x2).trans x3).trans x4).trans x5, ⟨by omega, by omega⟩, f5⟩
  · rcases (show k = 0 ∨ k = 1 ∨ k = 2 ∨ k = 3 ∨ k = 4 by omega) with rfl | rfl | rfl | rfl | rfl
    · refine ⟨?_, ?_, ?_⟩
      · rw [r5' 0 (by omega), r4' 0 (by omega), r3' 0 (by omega), r2' 0 (by omega)]; exact r1
      · rw [(o5 _ (by omega)).2.2.1, (o4 _ (by omega)).2.2.1, (o3 _ (by omega)).2.2.1, (o2 _ (by omega)).2.2.1]; exact k1
      · rw [if_neg (by omega), (o5 _ (by omega)).2.2.2, (o4 _ (by omega)).2.2.2, (o3 _ (by omega)).2.2.2, (o2 _ (by omega)).2.2.2]; exact n1
    · refine ⟨?_, ?_, ?_⟩
      · rw [r5' 1 (by omega), r4' 1 (by omega), r3' 1 (by omega)]; exact r2
      · rw [(o5 _ (by omega)).2.2.1, (o4 _ (by omega)).2.2.1, (o3 _ (by omega)).2.2.1]; exact k2
      · rw [if_neg (by omega), (o5 _ (by omega)).2.2.2, (o4 _ (by omega)).2.2.2, (o3 _ (by omega)).2.2.2]; exact n2
    · refine ⟨?_, ?_, ?_⟩
      · rw [r5' 2 (by omega), r4' 2 (by omega)]; exact r3
      · rw [(o5 _ (by omega)).2.2.1, (o4 _ (by omega)).2.2.1]; exact k3
      · rw [if_neg (by omega), (o5 _ (by omega)).2.2.2, (o4 _ (by omega)).2.2.2]; exact n3
    · refine ⟨?_, ?_, ?_⟩
      · rw [r5' 3 (by omega)]; exact r4
      · rw [(o5 _ (by omega)).2.2.1]; exact k4
      · rw [if_neg (by omega), (o5 _ (by omega)).2.2.2]; exact n4
    · exact ⟨r5, k5, by rw [if_pos rfl]; exact n5⟩
  · obtain ⟨p1, p2, p3, p4⟩ := o5 a (by omega)
    obtain ⟨q1, q2, q3, q4⟩ := o4 a (by omega)
    obtain ⟨u1, u2, u3, u4⟩ := o3 a (by omega)
    obtain ⟨v1, v2, v3, v4⟩ := o2 a (by omega)
    obtain ⟨t1, t2, t3, t4⟩ := o1 a (by omega)
    exact ⟨by rw [p1, q1, u1, v1, t1], by rw [p2, q2, u2, v2, t2], by rw [p3, q3, u3, v3, t3], by rw [p4, q4, u4, v4, t4]⟩
  · rw [w5 a (by omega) (by omega), w4 a (by omega) (by omega), w3 a (by omega) (by omega), w2 a (by omega) (by omega), w1 a (by omega) (by omega)]
/-- a law that is kept, with its arrays behind it -/
def LawQ (g : Gc) (la : Nat) (cs : List Cls) (m : Mm) : Prop := (gz g + 184 ≤ la ∧ la + 6 ≤ gz g + mC m) ∧ (mK m la = 5 ∧ mI m la 5 = nI cs.length) ∧ (∀ k, k < 5 → mR m la k = some (la + 1 + k) ∧ mK m (la + 1 + k) = 15) ∧ (∀ k, k < 4 → cs.length ≤ mN m (la + 1 + k)) ∧ (codeOf cs).length ≤ mN m (la + 5) ∧ ClsAt (la + 1) (la + 2) (la + 3) (la + 4) cs m ∧ CdAt (la + 5) 0 (codeOf cs) m
theorem LawQ.h {g : Gc} {la : Nat} {cs : List Cls} {m : Mm} (h : LawQ g la cs m) : LawH la cs m := by
  obtain ⟨-, h1, h2, h3, h4, h5, h6⟩ := h
  exact ⟨la + 1, la + 2, la + 3, la + 4, la + 5, h1, ⟨(h2 0 (by omega)).1, (h2 1 (by omega)).1, (h2 2 (by omega)).1, (h2 3 (by omega)).1⟩, ⟨(h2 0 (by omega)).2, (h2 1 (by omega)).2, (h2 2 (by omega)).2, (h2 3 (by omega)).2⟩, ⟨h3 0 (by omega), h3 1 (by omega), h3 2 (by omega), h3 3 (by omega)⟩, h5, ⟨h1.1, (h2 4 (by omega)).1, (h2 4 (by omega)).2, h4⟩, h6⟩
theorem cpy0 {α : Type} (f e : Nat → α) (n k : Nat) (hk : k < n) : va_cpy f e 0 0 n k = f k := by
  unfold va_cpy
  rw [if_pos ⟨Nat.zero_le _, by omega⟩]
  congr 1
  omega
def UpC (g : Gc) (m m' : Mm) : Prop := (∀ a, a < gz g + mC m → mI m' a = mI m a ∧ mL m' a = mL m a ∧ mR m' a = mR m a) ∧ Ext m m' ∧ (mC m' = mC m + 6 ∧ mS m' ≤ mS m + 355) ∧ Fr g m'
theorem c_copy (g : Gc) {lv : Nat} {cs : List Cls} {m : Mm} (S : Sg g m) (hF : Fr g m) (LD : LawD g cs m) (h12 : cs.length ≤ 12) (h300 : (codeOf cs).length ≤ 300) {Q : Option Nat → Mm → Prop} (hQ : ∀ m', LawQ g (gz g + mC m) cs m' → UpC g m m' → Q (some (gz g + mC m)) m') : CR g M_Law_copy (lv + 2) [va_rf (some (gz g + 133))] m Q := by
  have h184 := hF.1
  have z0 : (0 : Int32).toNatClampNeg = 0 := rfl
  have zn : ¬ (0 : Int32) < 0 := by decide
  refine en_Law_copy g ⟨hF.2 _ (Nat.le_refl _), fun q m3 eq e3 => ?_⟩
  have ne3 : gz g + 133 ≠ q := by omega
  obtain ⟨o1, o2, o3, o4⟩ := nw_old (m := m) (k := 5) (n := 0) (sz := 7) ne3
  rw [← e3] at o1 o2 o3 o4
  have F3 : Fr g m3 := by rw [e3, eq]; exact Fr_nw hF 5 0 7
  have C3 : mC m3 = mC m + 1 := by rw [e3]; rfl
  have M3 : mS m3 = mS m + 7 := by rw [e3]; rfl
  have x3 : Ext m m3 := by rw [e3]; exact Ext.nw (by rw [eq]; exact hF.2 _ (Nat.le_refl _)) 5 0 7
  have k3 : mK m3 q = 5 := by rw [e3]; exact nw_new.1
  have old3 : ∀ a, a < q → mI m3 a = mI m a ∧ mL m3 a = mL m a ∧ mR m3 a = mR m a := fun a ha => by
    rw [e3]
    exact ⟨(nw_old (by omega)).1, (nw_old (by omega)).2.1, (nw_old (by omega)).2.2.1⟩
  refine ⟨o4.trans (S.k 133 rfl), ?_⟩
  rw [o1, LD.1, LD.2.1.1]
  refine c_lawInit g F3 k3 (by omega) (fun j => by rw [e3, nw_r]) h12 h300 (fun m9 L9 => ?_)
  obtain ⟨a9, b9, d9, x9, ⟨C9, M9⟩, F9⟩ := L9
  have S9 : Sg g m9 := (S.ext x3).ext x9
  have i9 : mI m9 (gz g + 133) = mI m (gz g + 133) := (b9 _ (by omega)).1.trans o1
  intro m13 e13 m18 e18
  rw [i9, LD.1] at e13
  have i13 : mI m13 (gz g + 133) = mI m (gz g + 133) := by rw [e13, mI_sI, up2_ne ne3]; exact i9
  rw [i13, LD.2.1.1] at e18
  have r18 : mR m18 = mR m9 := by rw [e18, mR_sI, e13, mR_sI]
  have K18 : mK m18 = mK m9 := by rw [e18, e13]; rfl
  have N18 : mN m18 = mN m9 := by rw [e18, e13]; rfl
  have i18 : mI m18 (gz g + 133) = mI m (gz g + 133) := by rw [e18, mI_sI, up2_ne ne3]; exact i13
  have r133 : ∀ k, k < 5 → mR m9 (gz g + 133) k = some (gz g + 134 + k) := fun k hk => by
    rcases (show k = 0 ∨ k = 1 ∨ k = 2 ∨ k = 3 ∨ k = 4 by omega) with rfl | rfl | rfl | rfl | rfl
    · exact S9.r 133 0 rfl
    · exact S9.r 133 1 rfl
    · exact S9.r 133 2 rfl
    · exact S9.r 133 3 rfl
    · exact S9.r 133 4 rfl
  have kst : ∀ k, k < 5 → mK m9 (gz g + 134 + k) = 15 ∧ mN m9 (gz g + 134 + k) = if k = 4 then 300 else 12 := fun k hk => by
    rcases (show k = 0 ∨ k = 1 ∨ k = 2 ∨ k = 3 ∨ k = 4 by omega) with rfl | rfl | rfl | rfl | rfl
    · exact ⟨S9.k 134 rfl, S9.n 134 rfl⟩
    · exact ⟨S9.k 135 rfl, S9.n 135 rfl⟩
    · exact ⟨S9.k 136 rfl, S9.n 136 rfl⟩
    · exact ⟨S9.k 137 rfl, S9.n 137 rfl⟩
    · exact ⟨S9.k 138 rfl, S9.n 138 rfl⟩
  have c5 : mI m18 (gz g + 133) 5 = nI cs.length := by rw [i18]; exact LD.1
  have c6 : mI m18 (gz g + 133) 6 = nI (codeOf cs).length := by rw [i18]; exact LD.2.1.1
  have l31 : cs.length < 2 ^ 31 := by omega
  have l32 : (codeOf cs).length < 2 ^ 31 := by omega
  refine ⟨gz g + 134, by rw [r18]; exact r133 0 (by omega), q + 1, by rw [r18]; exact (a9 0 (by omega)).1, by rw [K18]; exact (kst 0 (by omega)).1, by rw [K18]; exact (a9 0 (by omega)).2.1, ?_⟩
  rw [c5, z0, nI_clamp l31]
  refine ⟨zn, zn, nI_pos l31, by rw [N18, (kst 0 (by omega)).2]; show 0 + cs.length ≤ 12; omega, by rw [N18, (a9 0 (by omega)).2.2]; show 0 + cs.length ≤ cs.length; omega, fun m34 e34 => ?_⟩
  have r34 : mR m34 = mR m9 := by rw [e34]; exact r18
  have K34 : mK m34 = mK m9 := by rw [e34]; exact K18
  have N34 : mN m34 = mN m9 := by rw [e34]; exact N18
  have c34 : mI m34 (gz g + 133) = mI m18 (gz g + 133) := by rw [e34, mI_rI_ne (by omega)]
  refine ⟨gz g + 135, by rw [r34]; exact r133 1 (by omega), q + 2, by rw [r34]; exact (a9 1 (by omega)).1, by rw [K34]; exact (kst 1 (by omega)).1, by rw [K34]; exact (a9 1 (by omega)).2.1, ?_⟩
  rw [c34, c5, nI_clamp l31]
  refine ⟨zn, zn, nI_pos l31, by rw [N34, (kst 1 (by omega)).2]; show 0 + cs.length ≤ 12; omega, by rw [N34, (a9 1 (by omega)).2.2]; show 0 + cs.length ≤ cs.length; omega, fun m54 e54 => ?_⟩
  have r54 : mR m54 = mR m9 := by rw [e54]; exact r34
  have K54 : mK m54 = mK m9 := by rw [e54]; exact K34
  have N54 : mN m54 = mN m9 := by rw [e54]; exact N34
  have c54 : mI m54 (gz g + 133) = mI m18 (gz g + 133) := by rw [e54, mI_rI_ne (by omega)]; exact c34
  refine ⟨gz g + 136, by rw [r54]; exact r133 2 (by omega), q + 3, by rw [r54]; exact (a9 2 (by omega)).1, by rw [K54]; exact (kst 2 (by omega)).1, by rw [K54]; exact (a9 2 (by omega)).2.1, ?_⟩
  rw [c54, c5, nI_clamp l31]
  refine ⟨zn, zn, nI_pos l31, by rw [N54, (kst 2 (by omega)).2]; show 0 + cs.length ≤ 12; omega, by rw [N54, (a9 2 (by omega)).2.2]; show 0 + cs.length ≤ cs.length; omega, fun m78 e78 => ?_⟩
  have r78 : mR m78 = mR m9 := by rw [e78]; exact r54
  have K78 : mK m78 = mK m9 := by rw [e78]; exact K54
  have N78 : mN m78 = mN m9 := by rw [e78]; exact N54
  have c78 : mI m78 (gz g + 133) = mI m18 (gz g + 133) := by rw [e78, mI_rI_ne (by omega)]; exact c54
  refine ⟨gz g + 137, by rw [r78]; exact r133 3 (by omega), q + 4, by rw [r78]; exact (a9 3 (by omega)).1, by rw [K78]; exact (kst 3 (by omega)).1, by rw [K78]; exact (a9 3 (by omega)).2.1, ?_⟩
  rw [c78, c5, nI_clamp l31]
  refine ⟨zn, zn, nI_pos l31, by rw [N78, (kst 3 (by omega)).2]; show 0 + cs.length ≤ 12; omega, by rw [N78, (a9 3 (by omega)).2.2]; show 0 + cs.length ≤ cs.length; omega, fun m106 e106 => ?_⟩
  have r106 : mR m106 = mR m9 := by rw [e106]; exact r78
  have K106 : mK m106 = mK m9 := by rw [e106]; exact K78
  have N106 : mN m106 = mN m9 := by rw [e106]; exact N78
  have c106 : mI m106 (gz g + 133) = mI m18 (gz g + 133) := by rw [e106, mI_rI_ne (by omega)]; exact c78
  refine ⟨gz g + 138, by rw [r106]; exact r133 4 (by omega), q + 5, by rw [r106]; exact (a9 4 (by omega)).1, by rw [K106]; exact (kst 4 (by omega)).1, by rw [K106]; exact (a9 4 (by omega)).2.1, ?_⟩
  rw [c106, c6, nI_clamp l32]
  refine ⟨zn, zn, nI_pos l32, by rw [N106, (kst 4 (by omega)).2]; show 0 + (codeOf cs).length ≤ 300; omega, by rw [N106, (a9 4 (by omega)).2.2]; show 0 + (codeOf cs).length ≤ (codeOf cs).length; omega, fun m138 e138 => ?_⟩
  have r138 : mR m138 = mR m9 := by rw [e138]; exact r106
  have K138 : mK m138 = mK m9 := by rw [e138]; exact K106
  have N138 : mN m138 = mN m9 := by rw [e138]; exact N106
  have L138 : mL m138 = mL m9 := by rw [e138, e106, e78, e54, e34, e18, e13]; rfl
  have C138 : mC m138 = mC m9 := by rw [e138, e106, e78, e54, e34, e18, e13]; rfl
  have M138 : mS m138 = mS m9 := by rw [e138, e106, e78, e54, e34, e18, e13]; rfl
  -- old cells of ints
  have s18 : ∀ a, a < q → mI m18 a = mI m a := fun a ha => by
    rw [e18, mI_sI, up2_ne (by omega), e13, mI_sI, up2_ne (by omega), (b9 a (by omega)).1]
    exact (old3 a ha).1
  have x18 : Ext m m138 := by
    have y1 : Ext m9 m18 := by rw [e18, e13]; exact (Ext.sI m9 _ _ _).trans (Ext.sI _ _ _ _)
    have y2 : Ext m18 m138 := by rw [e138, e106, e78, e54, e34]; exact ((((Ext.rI _ _ _).trans (Ext.rI _ _ _)).trans (Ext.rI _ _ _)).trans (Ext.rI _ _ _)).trans (Ext.rI _ _ _)
    exact ((x3.trans x9).trans y1).trans y2
  have v1 : mI m138 (q + 1) = va_cpy (mI m18 (gz g + 134)) (mI m18 (q + 1)) 0 0 cs.length := by
    rw [e138, mI_rI_ne (by omega), e106, mI_rI_ne (by omega), e78, mI_rI_ne (by omega), e54, mI_rI_ne (by omega), e34, mI_rI]
  have v2 : mI m138 (q + 2) = va_cpy (mI m34 (gz g + 135)) (mI m34 (q + 2)) 0 0 cs.length := by
    rw [e138, mI_rI_ne (by omega), e106, mI_rI_ne (by omega), e78, mI_rI_ne (by omega), e54, mI_rI]
  have v3 : mI m138 (q + 3) = va_cpy (mI m54 (gz g + 136)) (mI m54 (q + 3)) 0 0 cs.length := by
    rw [e138, mI_rI_ne (by omega), e106, mI_rI_ne (by omega), e78, mI_rI]
  have v4 : mI m138 (q + 4) = va_cpy (mI m78 (gz g + 137)) (mI m78 (q + 4)) 0 0 cs.length := by
    rw [e138, mI_rI_ne (by omega), e106, mI_rI]
  have v5 : mI m138 (q + 5) = va_cpy (mI m106 (gz g + 138)) (mI m106 (q + 5)) 0 0 (codeOf cs).length := by
    rw [e138, mI_rI]
  have t34 : ∀ a, a < q → mI m34 a = mI m a := fun a ha => by rw [e34, mI_rI_ne (by omega)]; exact s18 a ha
  have t54 : ∀ a, a < q → mI m54 a = mI m a := fun a ha => by rw [e54, mI_rI_ne (by omega)]; exact t34 a ha
  have t78 : ∀ a, a < q → mI m78 a = mI m a := fun a ha => by rw [e78, mI_rI_ne (by omega)]; exact t54 a ha
  have t106 : ∀ a, a < q → mI m106 a = mI m a := fun a ha => by rw [e106, mI_rI_ne (by omega)]; exact t78 a ha
  have t138 : ∀ a, a < q → mI m138 a = mI m a := fun a ha => by rw [e138, mI_rI_ne (by omega)]; exact t106 a ha
  have q5 : mI m138 q 5 = nI cs.length := by
    rw [e138, mI_rI_ne (by omega), e106, mI_rI_ne (by omega), e78, mI_rI_ne (by omega), e54, mI_rI_ne (by omega), e34, mI_rI_ne (by omega), e18, mI_sI, up2_sl (by omega), e13, mI_sI, up2_at]
  rw [eq] at *
  refine hQ m138 ⟨⟨by omega, by rw [C138, C9, C3]; omega⟩, ⟨by rw [K138, (b9 _ (Nat.le_refl _)).2.2.1]; exact k3, q5⟩, fun k hk => ⟨by rw [r138]; exact (a9 k hk).1, by rw [K138]; exact (a9 k hk).2.1⟩, fun k hk => by rw [N138, (a9 k (by omega)).2.2, if_neg (by omega)]; exact Nat.le_refl _, by rw [N138]; have := (a9 4 (by omega)).2.2; rw [if_pos rfl] at this; exact Nat.le_of_eq this.symm, fun k c hk => ?_, fun k hk => ?_⟩ ⟨fun a ha => ⟨t138 a ha, ?_, ?_⟩, x18, ⟨by rw [C138, C9, C3], by rw [M138, M9, M3]; omega⟩, ?_⟩
  · have hkl : k < cs.length := by
      rcases Nat.lt_or_ge k cs.length with z | z
      · exact z
      · rw [List.getElem?_eq_none z] at hk; cases hk
    obtain ⟨y1, y2, y3, y4⟩ := LD.2.2 k c hk
    refine ⟨?_, ?_, ?_, ?_⟩
    · rw [v1, cpy0 _ _ _ _ hkl, s18 _ (by omega)]; exact y1
    · rw [v2, cpy0 _ _ _ _ hkl, t34 _ (by omega)]; exact y2
    · rw [v3, cpy0 _ _ _ _ hkl, t54 _ (by omega)]; exact y3
    · rw [v4, cpy0 _ _ _ _ hkl, t78 _ (by omega)]; exact y4
  · rw [Nat.zero_add, v5, cpy0 _ _ _ _ hk, t106 _ (by omega)]; exact LD.2.1.2 k hk
  · rw [L138, (b9 a (by omega)).2.1]; exact (old3 a ha).2.1
  · rw [r138, d9 a ha]; exact (old3 a ha).2.2
  · refine ⟨by rw [C138]; exact F9.1, fun a ha => ?_⟩
    rw [C138] at ha
    rw [K138]
    exact F9.2 a ha
