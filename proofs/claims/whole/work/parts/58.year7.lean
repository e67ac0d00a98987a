/-! ===== the year, the class's side: all together, up to the loans ===== -/
def wantV (b s p : Int32) : Int32 := (lmx 0 (b.toInt64 - s.toInt64 * p.toInt64 / 100)).toInt32
def yr3 (A : Mm) (y n : Nat) (yl b s : Int32) : Mm := gathA (sI (sI A 0 4 (wantV b s (mI A 0 2))) 19 y yl) y yl n
def yr4 (A : Mm) (y : Nat) (P : Int32) : Mm := sI (sI A 0 5 P) 20 y P
def yr5 (A : Mm) (r y n : Nat) (P : Int32) (ls : Int64) (F : Nat → Int32) : Mm × Nat := kpA A r y P (fun k => frV ls F (mI A 1 k) (mI A 17 (12 * y + k))) n
def yr7 (A : Mm) (r r5 : Nat) (Sd : Int64) (T : Int32) : Mm := if T = -1 then (ssA A (mI A 0 2) Sd r).1 else slA (ssA A (mI A 0 2) Sd r).1 T (mI A 0 2 / 4) r5
def yr9 (A : Mm) (n : Nat) (Sd : Int64) (q : Int32) : Mm := (stfA (sfreeA A (sumL A 7 n) Sd n) q (mI A 0 2 / 4) n).1
def yr11 (A : Mm) (r5 : Nat) (dm : Int32) : Mm := sL (rotA A dm r5).1 2 6 (mL A 2 6 + (rotA A dm r5).2)
def yr13 (A : Mm) (n : Nat) (f Sd : Int64) (pull hi pl : Int32) : Mm := vineA (sI A 0 2 (priceV (mI A 0 2) (mI A 0 4) pull f Sd)) hi pl n
theorem sfreeA_I {A : Mm} {f sd : Int64} {n c i : Nat} (h : c ≠ 7) : mI (sfreeA A f sd n) c i = mI A c i := by
  unfold sfreeA
  split
  · rw [mI_sL, rdA_I h, sfA_I h]
  · rfl
theorem yr7_I {A : Mm} {r r5 c i : Nat} {Sd : Int64} {T : Int32} (h : c ≠ 10) : mI (yr7 A r r5 Sd T) c i = mI A c i := by
  unfold yr7
  split
  · exact ssA_I h r
  · rw [slA_I h, ssA_I h]
theorem yr9_I {A : Mm} {n c i : Nat} {Sd : Int64} {q : Int32} (h : c ≠ 7) : mI (yr9 A n Sd q) c i = mI A c i := by
  unfold yr9
  rw [stfA_I h, sfreeA_I h]
theorem yr11_I {A : Mm} {r5 c i : Nat} {dm : Int32} (h : c ≠ 10) : mI (yr11 A r5 dm) c i = mI A c i := by
  unfold yr11
  rw [mI_sL, rotA_I h]
theorem kpS_hold {B : Mm} {n r y k : Nat} {P fr : Int32} (h : HoldOK n r B) (hk : k < n) : HoldOK n (kpS B r y k P fr).2 (kpS B r y k P fr).1 := by
  unfold kpS
  split
  · split
    · intro i hi
      show ∃ h : Nat, mI (kp2 B y k P fr) 9 i = nI h ∧ _
      rw [kp2_I (by omega) (by omega)]
      exact h i hi
    · intro i hi
      show ∃ h : Nat, mI (kp3 B r y k P fr) 9 i = nI h ∧ _
      by_cases hir : i = r
      · subst hir
        refine ⟨k, ?_, Or.inl hk⟩
        unfold kp3 issA
        rw [mI_sL, mI_sI, up2_oth (by omega)]
        exact issB_at.1
      · rw [kp3_I (by omega) (by omega) (by omega) (by omega) (by omega)]
        exact h i (by have : i < r + 1 := hi; omega)
  · intro i hi
    show ∃ h : Nat, mI (kp1 B y k fr) 9 i = nI h ∧ _
    rw [kp1_I (by omega) (by omega)]
    exact h i hi
theorem kpA_hold {A : Mm} {n r y : Nat} {P : Int32} {fr : Nat → Int32} (h : HoldOK n r A) : ∀ k, k ≤ n → HoldOK n (kpA A r y P fr k).2 (kpA A r y P fr k).1
  | 0, _ => h
  | k + 1, hk => kpS_hold (kpA_hold h k (by omega)) (by omega)
/-- the end of a year of the class: B is what its land holds, r receipts, R papers made -/
def YrOK (g : Gc) (t N y r0 R0 : Nat) (pa0 : Nat → Nat) (m0 : Mm) (B : Mm) (r : Nat) (pa : Nat → Nat) (R : Nat) (m : Mm) : Prop :=
  LandC g t pa N 30 r B m ∧ PaOK g pa R ∧ Pap g t pa R m ∧ (r ≤ R ∧ R ≤ 400 ∧ r0 ≤ r ∧ R0 ≤ R ∧ (R = R0 ∨ R = r)) ∧ Sg g m ∧ Fr g m ∧ Fs g (fun a j => PC g t pa0 R0 a j ∨ PJ g t a j) 12 m0 m ∧ (∀ i, i < R0 → pa i = pa0 i) ∧ (∀ i, R0 ≤ i → i < R → gz g + mC m0 ≤ pa i) ∧ (∀ i, i < r0 → mR m (pa0 i) = mR m0 (pa0 i)) ∧ ∀ i, r0 ≤ i → i < r → mR m (pa i) 3 = none ∧ mR m (pa i) 4 = none
theorem c_pass (g : Gc) {lv t N n y r0 R0 : Nat} {A m0 : Mm} {pa0 : Nat → Nat} {o : Option Nat} {P : Int32} {Sd ls : Int64} {F : Nat → Int32} {T : Int32} {yl : Int32} (ht : t = 2 ∨ t = 65) (hp : PaOK g pa0 R0) (hn : mI A 0 0 = nI n) (hnN : n ≤ N) (hN : N ≤ 12) (hy : mI A 0 1 = nI y) (h30 : y < 30) (hrR : r0 ≤ R0) (hR4 : R0 ≤ 400) (hr4 : r0 + n ≤ 400) (h03 : mI A 0 3 = nI r0) (hh : HoldOK n r0 A) (hS : Sg g m0) (hF : Fr g m0) (hP : Pap g t pa0 R0 m0) (hC : LandC g t pa0 N 30 r0 A m0)
    (hH : ∀ m1, St (fun a j => PC g t pa0 r0 a j ∨ PJ g t a j) m0 m1 → (∀ j, j < 6 → mL m1 (gz g + (t + 6)) j = factA (yr3 A y n yl (mI m0 (gz g + 1) 0) (mI m0 (gz g + 1) 1)) y r0 n j) → CV g M_Judge_hear (lv + 2) [va_rf (some (gz g + (t + 5))), va_rf o] m1 (fun m2 => VerC g t P Sd ls F T m2 ∧ St (PJ g t) m1 m2))
    {Q : Mm → Prop} (hQ : ∀ A4 A5 A7 A9, A4 = yr4 (yr3 A y n yl (mI m0 (gz g + 1) 0) (mI m0 (gz g + 1) 1)) y P → A5 = yr5 A4 r0 y n P ls F → A7 = yr7 A5.1 r0 A5.2 Sd T → A9 = yr9 A7 n Sd (mI m0 (gz g + 1) 3) → ∀ pa R m', YrOK g t N y r0 R0 pa0 m0 (yr13 (yr11 A9 A5.2 (mI m0 (gz g + 1) 6)) n (sumL A7 7 n) Sd (mI m0 (gz g + 1) 2) (mI m0 (gz g + 1) 4) (mI m0 (gz g + 1) 5)) A5.2 pa R m' → CV g M_Land_settleLoans (lv + 3) [va_rf (some (gz g + t))] m' (fun m'' => ∀ m3, m3 = sI m'' (gz g + t) 9 (mI m'' (gz g + t) 9 + 1) → Q m3)) : CV g M_Land_passYear (lv + 4) [va_rf (some (gz g + t)), .int yl, va_rf o] m0 Q := by
  obtain ⟨⟨t1, t2, t3, t4, t5, t6⟩, t7, t8, t9, t10, t11, t12, t13⟩ := sh_t ht
  have t0r : shR t 0 = some 1 ∧ shR t 5 = some (t + 9) ∧ shK (t + 9) = 15 ∧ shN (t + 9) = 30 := by rcases ht with rfl | rfl <;> exact ⟨rfl, rfl, rfl, rfl⟩
  obtain ⟨k0, k1, k2, k3⟩ := t0r
  have z6 : (6 : Int32).toNatClampNeg = 6 := rfl
  have h184 := hF.1
  have hp0 : PaOK g pa0 r0 := hp.weak hrR
  have y9 : mI m0 (gz g + t) 9 = nI y := hC.yr.trans hy
  have wy : wi (nI y) 0 29 = 1 := by
    have := wi_in (j := y) (n := 30) h30 (by omega)
    exact this
  refine en_Land_passYear g ⟨hS.k t t1 (by omega), c_isWithin g ?_⟩
  rw [y9, wy, if_neg (by decide)]
  refine ⟨gz g + (t + 3), hS.r t 3 t5, hS.k (t + 3) t2 (by omega), gz g + 1, hS.r t 0 k0, hS.k 1 rfl, en_Terms_wantedAt g ⟨hS.k 1 rfl, fun m1 e1 => ?_⟩⟩
  rw [hC.pr] at e1
  have C1 := (hC.p0 hN (by omega) hp0 (wantV (mI m0 (gz g + 1) 0) (mI m0 (gz g + 1) 1) (mI A 0 2))).2.2.1
  have e1' : m1 = sI m0 (gz g + t) 11 (wantV (mI m0 (gz g + 1) 0) (mI m0 (gz g + 1) 1) (mI A 0 2)) := e1
  rw [← e1'] at C1
  have s1 : St (PC g t pa0 r0) m0 m1 := by rw [e1']; exact St_sI m0 (Or.inl (by omega)) _
  clear e1 e1'
  have S1 := s1.sg hS
  have y1 : mI m1 (gz g + t) 9 = nI y := by rw [C1.yr, mI_sI, up2_sl (by omega)]; exact hy
  refine ⟨gz g + (t + 9), S1.r t 5 k1, S1.k (t + 9) k2 (by omega), ?_⟩
  rw [y1, nI_clamp (by omega)]
  refine ⟨by rw [S1.n (t + 9) k3 (by omega)]; exact vp_in_nI (N := 30) (by omega) (by omega), fun m2 e2 => ?_⟩
  have C2 := (C1.py hN (by omega) hp0 (i := y) (by omega) yl).1
  rw [← e2] at C2
  have s2 : St (PC g t pa0 r0) m1 m2 := by rw [e2]; exact St_sI m1 (Or.inl (by omega)) _
  clear e2
  have x00 : ∀ i, i ≠ 4 → mI (sI (sI A 0 4 (wantV (mI m0 (gz g + 1) 0) (mI m0 (gz g + 1) 1) (mI A 0 2))) 19 y yl) 0 i = mI A 0 i := fun i hi => by rw [mI_sI, up2_oth (by omega), mI_sI, up2_sl hi]
  refine c_gather g ht hp0 ((x00 0 (by omega)).trans hn) hnN hN ((x00 1 (by omega)).trans hy) h30 (s2.sg S1) C2 (fun m3 C3 s3 => ?_)
  have s03 := (s1.trans s2).trans s3
  have S3 := s03.sg hS
  have C3' : LandC g t pa0 N 30 r0 (yr3 A y n yl (mI m0 (gz g + 1) 0) (mI m0 (gz g + 1) 1)) m3 := C3
  have q3 : ∀ c i, c ≠ 7 → c ≠ 17 → ¬ (c = 0 ∧ i = 4) → c ≠ 19 → mI (yr3 A y n yl (mI m0 (gz g + 1) 0) (mI m0 (gz g + 1) 1)) c i = mI A c i := fun c i h1 h2 h3 h4 => by
    unfold yr3
    rw [gathA_oth h1 h2, mI_sI, up2_oth h4, mI_sI, up2_not h3]
  generalize yr3 A y n yl (mI m0 (gz g + 1) 0) (mI m0 (gz g + 1) 1) = A3 at C3' q3 hH hQ
  refine c_apply g ht hp0 ((q3 0 0 (by omega) (by omega) (by omega) (by omega)).trans hn) hnN hN ((q3 0 1 (by omega) (by omega) (by omega) (by omega)).trans hy) h30 hrR hR4 ((q3 0 3 (by omega) (by omega) (by omega) (by omega)).trans h03) S3 (s03.pap hP) C3' (fun m4 s4 f4 => hH m4 ((s03.weak (fun a j q => Or.inl q)).trans (s4.weak (fun a j q => Or.inr q))) f4) (fun m4 C4 V4 s4 => ?_)
  have s04 := (s03.weak (P2 := fun a j => PC g t pa0 r0 a j ∨ PJ g t a j) (fun a j q => Or.inl q)).trans s4
  have S4 := s04.sg hS
  have F4 := s04.fr hF
  have C4' : LandC g t pa0 N 30 r0 (yr4 A3 y P) m4 := C4
  have q4 : ∀ c i, c ≠ 7 → c ≠ 17 → ¬ (c = 0 ∧ (i = 4 ∨ i = 5)) → c ≠ 19 → c ≠ 20 → mI (yr4 A3 y P) c i = mI A c i := fun c i h1 h2 h3 h4 h5 => by
    unfold yr4
    rw [mI_sI, up2_oth h5, mI_sI, up2_not (by omega), q3 c i h1 h2 (by omega) h4]
  have q45 : mI (yr4 A3 y P) 0 5 = P := by unfold yr4; rw [mI_sI, up2_oth (by omega), mI_sI, up2_at]
  have hQ4 := hQ (yr4 A3 y P)
  clear hQ
  generalize yr4 A3 y P = A4 at C4' q4 q45 hQ4
  have tm : ∀ (m : Mm) (pa : Nat → Nat) (R k : Nat) (j : Nat), PaOK g pa R → Fs g (PC g t pa R) k m4 m → mI m (gz g + 1) j = mI m0 (gz g + 1) j := fun m pa R k j PO f => by
    refine (f.2.2 _ _ (by have := F4.1; omega) (fun q => ?_)).1.trans (s04.2 _ _ (fun q => ?_)).1
    · rcases q with q | ⟨i, hi, e⟩
      · omega
      · have := PO.2 i hi; omega
    · rcases q with (q | ⟨i, hi, e⟩) | q
      · omega
      · have := hp0.2 i hi; omega
      · unfold PJ at q; omega
  have npj : ∀ a j, gz g + (t + 5) ≤ a → a ≤ gz g + (t + 8) → ¬ PC g t pa0 R0 a j := fun a j h1 h2 q => by
    rcases q with q | ⟨i, hi, e⟩
    · omega
    · have := hp.2 i hi; omega
  refine c_keep g ht hp ((q4 0 0 (by omega) (by omega) (by omega) (by omega) (by omega)).trans hn) hnN hN ((q4 0 1 (by omega) (by omega) (by omega) (by omega) (by omega)).trans hy) h30 hrR hR4 hr4 ((q4 0 3 (by omega) (by omega) (by omega) (by omega) (by omega)).trans h03) S4 F4 (s04.pap hP) C4' V4.2.2.1 V4.2.2.2.2 (fun pa R m5 K5 => ?_)
  rw [q45] at K5
  have h4h : HoldOK n r0 A4 := fun i hi => by rw [q4 9 i (by omega) (by omega) (by omega) (by omega) (by omega)]; exact hh i hi
  have hh5 := kpA_hold (y := y) (P := P) (fr := fun k => frV ls F (mI A4 1 k) (mI A4 17 (12 * y + k))) h4h n (Nat.le_refl _)
  have b5 : ∀ i, i ≠ 3 → mI (kpA A4 r0 y P (fun k => frV ls F (mI A4 1 k) (mI A4 17 (12 * y + k))) n).1 0 i = mI A4 0 i := fun i hi => kpA_I (by omega) (by omega) (by omega) (by omega) (by omega) n
  have b53 := kpA_3 (y := y) (P := P) (fr := fun k => frV ls F (mI A4 1 k) (mI A4 17 (12 * y + k))) ((q4 0 3 (by omega) (by omega) (by omega) (by omega) (by omega)).trans h03) n
  have hQ5 := hQ4 (yr5 A4 r0 y n P ls F)
  clear hQ4
  unfold yr5 at hQ5
  generalize kpA A4 r0 y P (fun k => frV ls F (mI A4 1 k) (mI A4 17 (12 * y + k))) n = A5 at K5 hh5 b5 b53 hQ5
  obtain ⟨A5, r5⟩ := A5
  simp only at K5 hh5 b5 b53
  have n5 : mI A5 0 0 = nI n := (b5 0 (by omega)).trans ((q4 0 0 (by omega) (by omega) (by omega) (by omega) (by omega)).trans hn)
  obtain ⟨C5, PO5, PP5, ⟨rR5, R45, r05, R05⟩, S5, F5, fs5, hpa5, hfr5, hold5, hnew5⟩ := id K5
  have POr := PO5.weak rR5
  have Sd5 : mL m5 (gz g + (t + 5)) 8 = Sd := (fs5.2.2 _ _ (by have := F4.1; omega) (npj _ _ (by omega) (by omega))).2.1.trans V4.2.1
  have T5 : mI m5 (gz g + (t + 5)) 6 = T := (fs5.2.2 _ _ (by have := F4.1; omega) (npj _ _ (by omega) (by omega))).1.trans V4.2.2.2.1
  rw [hC.rn, h03]
  refine c_sellStored g ht POr n5 hnN hN r05 rR5 R45 b53 hh5 S5 PP5 C5 Sd5 (fun m6 C6 s6 => ?_)
  have K6 := K5.st s6 C6 (Nat.le_refl _)
  have npr : ∀ a j, gz g + (t + 5) ≤ a → a ≤ gz g + (t + 8) → ¬ PC g t pa r5 a j := fun a j h1 h2 q => by
    rcases q with q | ⟨i, hi, e⟩
    · omega
    · have := POr.2 i hi; omega
  have np1 : ∀ j, ¬ PC g t pa r5 (gz g + 1) j := fun j q => by
    rcases q with q | ⟨i, hi, e⟩
    · omega
    · have := POr.2 i hi; omega
  have i6 : ∀ c i, c ≠ 10 → mI (ssA A5 (mI A5 0 2) Sd r0).1 c i = mI A5 c i := fun c i h => ssA_I h r0
  refine c_stillStored g ht POr ((i6 0 0 (by omega)).trans n5) hnN hN rR5 R45 ((i6 0 3 (by omega)).trans b53) (fun i hi => by rw [i6 9 i (by omega)]; exact hh5 i hi) (s6.sg S5) (s6.pap PP5) C6 ((s6.2 _ _ (npr _ _ (by omega) (by omega))).1.trans T5) (fun m7 C7 s7 => ?_)
  have C7' : LandC g t pa N 30 r5 (yr7 A5 r0 r5 Sd T) m7 := by
    unfold yr7
    rw [i6 0 2 (by omega)] at C7
    exact C7
  have s57 := s6.trans s7
  have hQ7 := hQ5 (yr7 A5 r0 r5 Sd T)
  clear hQ5
  have i7 : ∀ c i, c ≠ 10 → mI (yr7 A5 r0 r5 Sd T) c i = mI A5 c i := fun c i h => yr7_I h
  generalize yr7 A5 r0 r5 Sd T = A7 at C7' i7 hQ7
  have S7 := s57.sg S5
  refine c_freeL g S7 ht C7' ((i7 0 0 (by omega)).trans n5) hnN hN ?_
  refine c_sellFree g ht POr ((i7 0 0 (by omega)).trans n5) hnN hN S7 C7' ((s57.2 _ _ (npr _ _ (by omega) (by omega))).2.trans Sd5) (fun m8 C8 s8 => ?_)
  have s58 := s57.trans s8
  have i8 : ∀ c i, c ≠ 7 → mI (sfreeA A7 (sumL A7 7 n) Sd n) c i = mI A7 c i := fun c i h => sfreeA_I h
  refine c_stillFree g ht POr ((i8 0 0 (by omega)).trans ((i7 0 0 (by omega)).trans n5)) hnN hN (s58.sg S5) C8 (fun m9 C9 s9 => ?_)
  have tm5 : ∀ j, mI m5 (gz g + 1) j = mI m0 (gz g + 1) j := fun j => tm m5 pa0 R0 n j hp fs5
  have C9' : LandC g t pa N 30 r5 (yr9 A7 n Sd (mI m0 (gz g + 1) 3)) m9 := by
    unfold yr9
    rw [show mI m8 (gz g + 1) 3 = mI m0 (gz g + 1) 3 from (s58.2 _ _ (np1 _)).1.trans (tm5 3), i8 0 2 (by omega)] at C9
    exact C9
  have s59 := s58.trans s9
  have hQ9 := hQ7 (yr9 A7 n Sd (mI m0 (gz g + 1) 3))
  clear hQ7
  have i9 : ∀ c i, c ≠ 7 → mI (yr9 A7 n Sd (mI m0 (gz g + 1) 3)) c i = mI A7 c i := fun c i h => yr9_I h
  generalize yr9 A7 n Sd (mI m0 (gz g + 1) 3) = A9 at C9' i9 hQ9
  have S9 := s59.sg S5
  refine ⟨gz g + (t + 11), S9.r t 7 t11, S9.k (t + 11) t12 (by omega), by rw [S9.n (t + 11) t13 (by omega)]; exact vp_in_nI (n := 6) (N := 8) (by omega) (by omega), ?_⟩
  rw [show mI m9 (gz g + 1) 6 = mI m0 (gz g + 1) 6 from (s59.2 _ _ (np1 _)).1.trans (tm5 6), z6, C9'.su (by omega)]
  refine c_rot g ht POr hN rR5 R45 ((i9 0 3 (by omega)).trans ((i7 0 3 (by omega)).trans b53)) S9 (s59.pap PP5) C9' (fun m10 C10 s10 => ?_)
  have S10 := s10.sg S9
  refine ⟨by rw [S10.n (t + 11) t13 (by omega)]; exact vp_in_nI (n := 6) (N := 8) (by omega) (by omega), fun m11 e11 => ?_⟩
  have C11 : LandC g t pa N 30 r5 (yr11 A9 r5 (mI m0 (gz g + 1) 6)) m11 := by
    have := C10.ps hN (j := 6) (by omega) (mL A9 2 6 + (rotA A9 (mI m0 (gz g + 1) 6) r5).2)
    rw [← e11] at this
    exact this
  have s11 : St (PC g t pa r5) m10 m11 := by rw [e11]; exact St_sL m10 (Or.inl (by omega)) _
  clear e11
  have s5b := (s59.trans s10).trans s11
  have i11 : ∀ c i, c ≠ 10 → mI (yr11 A9 r5 (mI m0 (gz g + 1) 6)) c i = mI A9 c i := fun c i h => yr11_I h
  have hQ11 := hQ9 rfl rfl rfl rfl
  clear hQ9
  simp only at hQ11
  generalize yr11 A9 r5 (mI m0 (gz g + 1) 6) = A11 at C11 i11 hQ11
  refine c_movePrice g ht POr hN (s5b.sg S5) C11 ((s5b.2 _ _ (npr _ _ (by omega) (by omega))).2.trans Sd5) (fun m12 C12 s12 => ?_)
  rw [show mI m11 (gz g + 1) 2 = mI m0 (gz g + 1) 2 from (s5b.2 _ _ (np1 _)).1.trans (tm5 2)] at C12
  have s5c := s5b.trans s12
  have n11 : mI A11 0 0 = nI n := (i11 0 0 (by omega)).trans ((i9 0 0 (by omega)).trans ((i7 0 0 (by omega)).trans n5))
  refine c_tend g ht POr (by rw [mI_sI, up2_sl (by omega)]; exact n11) hnN hN (s5c.sg S5) C12 (fun m13 C13 s13 => ?_)
  rw [show mI m12 (gz g + 1) 4 = mI m0 (gz g + 1) 4 from (s5c.2 _ _ (np1 _)).1.trans (tm5 4), show mI m12 (gz g + 1) 5 = mI m0 (gz g + 1) 5 from (s5c.2 _ _ (np1 _)).1.trans (tm5 5)] at C13
  have K13 := K5.st (s5c.trans s13) C13 (Nat.le_refl _)
  obtain ⟨z1, z2, z3, z4, z5, z6', z7, z8, z9, z10, z11⟩ := K13
  refine hQ11 pa R m13 ⟨z1, z2, z3, z4, z5, z6', ?_, z8, ?_, fun i hi => ?_, z11⟩
  · refine (Fs.trans (d := 0) (s04.fs.weak (P2 := fun a j => PC g t pa0 R0 a j ∨ PJ g t a j) (fun a j _ q => ?_) (Nat.le_refl _)) z7 (fun a j _ q => Or.inl q)).weak (fun _ _ _ q => q) (by omega)
    rcases q with (q | ⟨i, hi, e⟩) | q
    · exact Or.inl (Or.inl q)
    · exact Or.inl (Or.inr ⟨i, by omega, e⟩)
    · exact Or.inr q
  · intro i h1 h2
    have := z9 i h1 h2
    rw [s04.1.2.2.2.1] at this
    exact this
  · rw [z10 i hi, s04.1.1]
