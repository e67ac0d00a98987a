/-! ===== the parts are kept, the reference's loop ===== -/
theorem cut_nat {c : Nat} (hc : c < 2 ^ 31) (x : Int64) : ∃ q : Nat, q ≤ c ∧ (lmx 0 (lmn (lN c) x)).toInt32 = nI q ∧ lmx 0 (lmn (lN c) x) = lN q := by
  have z : (0 : Int64).toInt = 0 := rfl
  have fin : ∀ y : Int64, 0 ≤ y.toInt → y.toInt ≤ c → ∃ q : Nat, q ≤ c ∧ y.toInt32 = nI q ∧ y = lN q := fun y h1 h2 => by
    have e : y = lN y.toInt.toNat := by
      rw [← Int64.toInt_inj, lN_toInt (by omega)]
      omega
    refine ⟨y.toInt.toNat, by omega, ?_, e⟩
    have := congrArg Int64.toInt32 e
    rw [lN_i] at this
    exact this
  unfold lmx lmn
  by_cases h1 : x < lN c
  · rw [if_pos h1]
    rw [i64_lt, lN_toInt hc] at h1
    by_cases h2 : x < 0
    · rw [if_pos h2]; exact ⟨0, by omega, rfl, rfl⟩
    · rw [if_neg h2]
      rw [i64_lt, z] at h2
      exact fin x (by omega) (by omega)
  · rw [if_neg h1]
    by_cases h2 : lN c < 0
    · rw [if_pos h2]; exact ⟨0, by omega, rfl, rfl⟩
    · rw [if_neg h2]
      exact fin (lN c) (by rw [lN_toInt hc]; omega) (by rw [lN_toInt hc]; omega)
theorem kpV_nat {B : Mm} {y k c : Nat} {P : Int32} (h : mI B 17 (12 * y + k) = nI c) (hc : c < 2 ^ 31) : ∃ q : Nat, q ≤ c ∧ kpV B y k P = nI q := by
  unfold kpV
  rw [h, nI_l hc]
  obtain ⟨q, a, b, -⟩ := cut_nat hc (dueV B y k P / 100)
  exact ⟨q, a, b⟩
theorem LandQ.st18 {g : Gc} {l N y r k : Nat} {A m : Mm} (h : LandQ g l N y r A m) (hk : k < 12) (v : Int32) : LandQ g l N y r A (sI m (gz g + 162) (12 * y + k) v) := by
  refine ⟨h.1.off (fun c i hv => ?_), h.2⟩
  rw [mI_sI]
  refine up2_not (fun q => ?_)
  have k1 := rInv_ok (M := gz g + 145) (l := l) hv.1
  have e2 : rI' (gz g + 145) l c i = (gz g + 145 + 17, 12 * y + k) := Prod.ext (by rw [q.1]) q.2
  rw [e2] at k1
  simp [rInv] at k1
  obtain ⟨rfl, rfl⟩ := k1
  exact vL_18 hk (Nat.le_refl _) hv
def kqA (A : Mm) (r y : Nat) (P : Int32) (fr : Nat → Int32) : Nat → Mm × Nat
  | 0 => (A, r)
  | k + 1 => kpS (sI (kqA A r y P fr k).1 7 k (mI (kqA A r y P fr k).1 7 k + mI A 17 (12 * y + k))) (kqA A r y P fr k).2 y k P (fr k)
theorem kqA_2 {A : Mm} {r y : Nat} {P : Int32} {fr : Nat → Int32} : ∀ k, r ≤ (kqA A r y P fr k).2 ∧ (kqA A r y P fr k).2 ≤ r + k
  | 0 => ⟨Nat.le_refl _, Nat.le_refl _⟩
  | k + 1 => by
    obtain ⟨a, b⟩ := kqA_2 (A := A) (r := r) (y := y) (P := P) (fr := fr) k
    show r ≤ (kpS _ _ _ _ _ _).2 ∧ (kpS _ _ _ _ _ _).2 ≤ _
    unfold kpS
    split
    · split
      · exact ⟨a, by omega⟩
      · exact ⟨by show r ≤ _ + 1; omega, by show _ + 1 ≤ _; omega⟩
    · exact ⟨a, by omega⟩
theorem kqA_I {A : Mm} {r y c i : Nat} {P : Int32} {fr : Nat → Int32} (h8 : c ≠ 8) (h18 : c ≠ 18) (h7 : c ≠ 7) (h9 : ¬ (9 ≤ c ∧ c ≤ 11 ∧ r ≤ i)) (h0 : ¬ (c = 0 ∧ i = 3)) : ∀ k, mI (kqA A r y P fr k).1 c i = mI A c i
  | 0 => rfl
  | k + 1 => by
    show mI (kpS _ _ _ _ _ _).1 c i = _
    have := (kqA_2 (A := A) (r := r) (y := y) (P := P) (fr := fr) k).1
    rw [kpS_I h8 h18 h7 (by omega) h0, mI_sI, up2_oth h7, kqA_I h8 h18 h7 h9 h0 k]
theorem kqA_3 {A : Mm} {r y : Nat} {P : Int32} {fr : Nat → Int32} (h : mI A 0 3 = nI r) : ∀ k, mI (kqA A r y P fr k).1 0 3 = nI (kqA A r y P fr k).2
  | 0 => h
  | k + 1 => kpS_3 (by rw [mI_sI, up2_oth (by omega)]; exact kqA_3 h k)
theorem l_keepR (g : Gc) {lv l N n y r0 e co : Nat} {A m0 : Mm} {P sd fd ls : Int32} {fr cN : Nat → Int32} {c : Nat → Nat} (hl : l < 2) (hN : N ≤ 12) (hnN : n ≤ N) (hn : mI A 0 0 = nI n) (hy : y < 30) (hr4 : r0 + n ≤ 400) (h03 : mI A 0 3 = nI r0) (he : e = 158 ∨ e = 164) (hco : (e = 158 ∧ co = 12 * y) ∨ (e = 164 ∧ co = 0)) (hc : ∀ k, k < n → mI A 17 (12 * y + k) = nI (c k) ∧ c k < 2 ^ 31) (hcm : ∀ k, k < n → mI m0 (gz g + e) (co + k) = mI A 17 (12 * y + k)) (h61 : mI m0 (gz g + 145) 61 = fd) (h62 : mI m0 (gz g + 145) 62 = ls) (hfr : ∀ k, k < n → fr k = if ((fd >>> (mI A 1 k &&& 31)) &&& 1) = 1 then 1 else if ls ≤ mI A 17 (12 * y + k) then 0 else 1) (hS : Sg g m0) (hR : LandQ g l N y r0 A m0) {Q : Int32 → Mm → Prop} (hQ : ∀ m', LandQ g l N y (kqA A r0 y P fr n).2 (kqA A r0 y P fr n).1 m' → St (PQ9 g l y n) m0 m' → (l = 0 → (∀ j, j < n → mI m' (gz g + 162) (12 * y + j) = fr j) ∧ ∀ i, mI m' (gz g + 179) i = if 2 * r0 ≤ i ∧ i < 2 * (kqA A r0 y P fr n).2 then -1 else mI m0 (gz g + 179) i) → At g M_RF_passes (lv + 2) 516 [(0, va_rf (some (gz g + 145))), (1, .int (nI l)), (5, .int (nI y)), (6, .int (nI r0)), (12, .int P), (13, .int sd), (14, .int sd), (15, .int 0)] [] m' (QI Q)) : At g M_RF_passes (lv + 2) 268 [(0, va_rf (some (gz g + 145))), (1, .int (nI l)), (3, va_rf (some (gz g + e))), (4, .int (nI co)), (5, .int (nI y)), (6, .int (nI r0)), (12, .int P), (13, .int sd), (14, .int 0)] [] m0 (QI Q) := by
  have ke : ∀ mm : Mm, Sg g mm → mK mm (gz g + e) = 15 ∧ ∀ k, k < n → vp_in (nI (co + k)) (mN mm (gz g + e)) := fun mm S => by
    rcases hco with ⟨rfl, rfl⟩ | ⟨rfl, rfl⟩
    · exact ⟨S.k 158 rfl, fun k hk => by rw [S.n 158 rfl]; exact vp_in_nI (N := 360) (by omega) (by omega)⟩
    · exact ⟨S.k 164 rfl, fun k hk => by rw [S.n 164 rfl]; exact vp_in_nI (N := 12) (by omega) (by omega)⟩
  have co2 : co < 2 ^ 30 := by omega
  have loop : ∀ (d k : Nat) (m : Mm), k + d = n → LandQ g l N y (kqA A r0 y P fr k).2 (kqA A r0 y P fr k).1 m → St (PQ9 g l y n) m0 m → (l = 0 → (∀ j, j < k → mI m (gz g + 162) (12 * y + j) = fr j) ∧ ∀ i, mI m (gz g + 179) i = if 2 * r0 ≤ i ∧ i < 2 * (kqA A r0 y P fr k).2 then -1 else mI m0 (gz g + 179) i) → At g M_RF_passes (lv + 2) 268 [(0, va_rf (some (gz g + 145))), (1, .int (nI l)), (3, va_rf (some (gz g + e))), (4, .int (nI co)), (5, .int (nI y)), (6, .int (nI r0)), (12, .int P), (13, .int sd), (14, .int (nI k))] [] m (QI Q) := by
    intro d
    induction d with
    | zero =>
      intro k m hk R s x
      obtain rfl : k = n := by omega
      refine bk_RF_passes_268 g ⟨(s.sg hS).k 145 rfl, ?_⟩
      rw [R.n, kqA_I (by omega) (by omega) (by omega) (by omega) (by omega), hn, if_pos (nI_le (by omega) (by omega))]
      exact hQ m R s x
    | succ d ih =>
      intro k m hk R s x
      have S := s.sg hS
      have hkN : k < N := by omega
      have hkn : k < n := by omega
      have ih1 := ih (k + 1)
      have ev : kqA A r0 y P fr (k + 1) = kpS (sI (kqA A r0 y P fr k).1 7 k (mI (kqA A r0 y P fr k).1 7 k + mI A 17 (12 * y + k))) (kqA A r0 y P fr k).2 y k P (fr k) := rfl
      rw [ev] at ih1
      have b00 : mI (kqA A r0 y P fr k).1 0 0 = nI n := (kqA_I (by omega) (by omega) (by omega) (by omega) (by omega) k).trans hn
      have b1 : mI (kqA A r0 y P fr k).1 1 k = mI A 1 k := kqA_I (by omega) (by omega) (by omega) (by omega) (by omega) k
      have b17 : mI (kqA A r0 y P fr k).1 17 (12 * y + k) = mI A 17 (12 * y + k) := kqA_I (by omega) (by omega) (by omega) (by omega) (by omega) k
      have b03 := kqA_3 (y := y) (P := P) (fr := fr) h03 k
      have br := kqA_2 (A := A) (r := r0) (y := y) (P := P) (fr := fr) k
      generalize (kqA A r0 y P fr k).1 = B at R ih1 b00 b1 b17 b03
      generalize (kqA A r0 y P fr k).2 = r at R ih1 b03 br x
      have crm : mI m (gz g + e) (co + k) = mI A 17 (12 * y + k) := (s.2 _ _ (by unfold PQ9 PQ; omega)).1.trans (hcm k hkn)
      refine bk_RF_passes_268 g ⟨S.k 145 rfl, ?_⟩
      rw [R.n, b00, if_neg (nI_ge (by omega) (by omega)), ix12l, nI_add, nI_clamp (show 12 * l + k < 2 ^ 31 by omega), nI_clamp (show co + k < 2 ^ 31 by omega), nI_clamp (show k < 2 ^ 31 by omega)]
      refine ⟨gz g + 172, S.r 145 37 rfl, S.k 172 rfl, by rw [S.n 172 rfl]; exact vp_in_nI (N := 24) (by omega) (by omega), gz g + e, rfl, (ke m S).1, (ke m S).2 k hkn, by rw [S.n 172 rfl]; exact vp_in_nI (N := 24) (by omega) (by omega), fun m1 e1 => ?_⟩
      rw [(R.gr hkN).2.2.2.2.2, crm] at e1
      have R1 := (R.pg hkN (mI B 7 k + mI A 17 (12 * y + k))).2.2.2.2
      rw [← e1] at R1
      have s1 : St (PQ9 g l y n) m m1 := by rw [e1]; exact St_sI m (by unfold PQ9 PQ; omega) _
      have x1 : ∀ a, a ≠ gz g + 172 → mI m1 a = mI m a := fun a ha => by rw [e1, mI_sI, up2_ne ha]
      clear e1
      have S1 := s1.sg S
      have b17' : mI (sI B 7 k (mI B 7 k + mI A 17 (12 * y + k))) 17 (12 * y + k) = mI A 17 (12 * y + k) := by rw [mI_sI, up2_oth (by omega)]; exact b17
      have b03' : mI (sI B 7 k (mI B 7 k + mI A 17 (12 * y + k))) 0 3 = nI r := by rw [mI_sI, up2_oth (by omega)]; exact b03
      have b1' : mI (sI B 7 k (mI B 7 k + mI A 17 (12 * y + k))) 1 k = mI A 1 k := by rw [mI_sI, up2_oth (by omega)]; exact b1
      generalize sI B 7 k (mI B 7 k + mI A 17 (12 * y + k)) = B' at R1 ih1 b17' b03' b1'
      have g1 : mI m1 (gz g + 145) 61 = fd := by rw [x1 _ (by omega)]; exact (s.2 _ _ (by unfold PQ9 PQ; omega)).1.trans h61
      have g2 : mI m1 (gz g + 145) 62 = ls := by rw [x1 _ (by omega)]; exact (s.2 _ _ (by unfold PQ9 PQ; omega)).1.trans h62
      have crm1 : mI m1 (gz g + e) (co + k) = mI A 17 (12 * y + k) := by rw [x1 _ (by omega)]; exact crm
      -- from the flag on
      have tail : ∀ f : Int32, f = fr k → At g M_RF_passes (lv + 2) 340 [(0, va_rf (some (gz g + 145))), (1, .int (nI l)), (3, va_rf (some (gz g + e))), (4, .int (nI co)), (5, .int (nI y)), (6, .int (nI r0)), (12, .int P), (13, .int sd), (14, .int (nI k)), (15, .int (nI (12 * l + k)))] [.int f] m1 (QI Q) := by
        intro f ef
        have f01 : f = 0 ∨ f = 1 := by
          rw [ef, hfr k hkn]
          split
          · exact Or.inr rfl
          · split
            · exact Or.inl rfl
            · exact Or.inr rfl
        rw [← ef] at ih1
        -- after what only the first land keeps
        have t369 : ∀ m2 : Mm, LandQ g l N y r (kp1 B' y k f) m2 → St (PQ9 g l y n) m1 m2 → (l = 0 → mI m2 (gz g + 162) (12 * y + k) = f ∧ (∀ j, j < k → mI m2 (gz g + 162) (12 * y + j) = mI m1 (gz g + 162) (12 * y + j)) ∧ mI m2 (gz g + 179) = mI m1 (gz g + 179)) → mI m2 (gz g + e) (co + k) = mI A 17 (12 * y + k) → At g M_RF_passes (lv + 2) 369 [(0, va_rf (some (gz g + 145))), (1, .int (nI l)), (3, va_rf (some (gz g + e))), (4, .int (nI co)), (5, .int (nI y)), (6, .int (nI r0)), (12, .int P), (13, .int sd), (14, .int (nI k)), (15, .int (nI (12 * l + k))), (16, .int f)] [] m2 (QI Q) := by
          intro m2 R2 s2 x2 crm2
          have S2 := s2.sg S1
          have s02 := (s.trans s1).trans s2
          have xs : ∀ (m3 : Mm) (r' : Nat), (l = 0 → mI m3 (gz g + 162) = mI m2 (gz g + 162) ∧ ∀ i, mI m3 (gz g + 179) i = if i = 2 * r ∨ i = 2 * r + 1 then (if r' = r then mI m2 (gz g + 179) i else -1) else mI m2 (gz g + 179) i) → (r' = r ∨ r' = r + 1) → (l = 0 → (∀ j, j < k + 1 → mI m3 (gz g + 162) (12 * y + j) = fr j) ∧ ∀ i, mI m3 (gz g + 179) i = if 2 * r0 ≤ i ∧ i < 2 * r' then -1 else mI m0 (gz g + 179) i) := by
            intro m3 r' h3 hr' h0
            obtain ⟨a1, a2⟩ := h3 h0
            obtain ⟨c1, c2, c3⟩ := x2 h0
            obtain ⟨d1, d2⟩ := x h0
            have m1a : mI m1 (gz g + 179) = mI m (gz g + 179) := x1 _ (by omega)
            have m1b : mI m1 (gz g + 162) = mI m (gz g + 162) := x1 _ (by omega)
            refine ⟨fun j hj => ?_, fun i => ?_⟩
            · rw [a1]
              by_cases hjk : j = k
              · subst hjk; rw [c1]; exact ef
              · rw [c2 j (by omega), m1b]; exact d1 j (by omega)
            · rw [a2 i, c3, m1a, d2 i]
              rcases hr' with rfl | rfl
              · rw [if_pos rfl]
                split <;> rfl
              · by_cases q : i = 2 * r ∨ i = 2 * r + 1
                · rw [if_pos q, if_neg (by omega), if_pos (by omega)]
                · rw [if_neg q]
                  by_cases q2 : 2 * r0 ≤ i ∧ i < 2 * r
                  · rw [if_pos q2, if_pos (by omega)]
                  · rw [if_neg q2, if_neg (by omega)]
          refine bk_RF_passes_369 g ?_
          rw [nI_add, nI_clamp (show 12 * l + k < 2 ^ 31 by omega), nI_clamp (show co + k < 2 ^ 31 by omega), nI_clamp (show k < 2 ^ 31 by omega), nI_s]
          unfold kpS at ih1
          by_cases hf0 : f = 0
          · rw [if_pos hf0] at ih1 ⊢
            obtain ⟨q, hq1, hq2⟩ := kpV_nat (P := P) (b17'.trans (hc k hkn).1) (hc k hkn).2
            have v23 : vp_in (nI (12 * l + k)) (mN m2 (gz g + 173)) := by rw [S2.n 173 rfl]; exact vp_in_nI (N := 24) (by omega) (by omega)
            refine ⟨gz g + e, rfl, (ke m2 S2).1, (ke m2 S2).2 k hkn, S2.k 145 rfl, gz g + 173, S2.r 145 38 rfl, S2.k 173 rfl, v23, (ke m2 S2).2 k hkn, v23, ?_⟩
            have rs2 : mL m2 (gz g + 173) (12 * l + k) = mL B' 1 k := (R2.mo hkN).2
            have dv : P.toInt64 * (mI A 17 (12 * y + k)).toInt64 + mL B' 1 k = dueV B' y k P := by unfold dueV; rw [b17']
            have kv : (lmx 0 (lmn (mI A 17 (12 * y + k)).toInt64 (dueV B' y k P / 100))).toInt32 = kpV B' y k P := by unfold kpV; rw [b17']
            rw [crm2, rs2, dv, kv]
            intro m3 e3
            have R3 := (R2.pm hN hkN (dueV B' y k P - 100 * (kpV B' y k P).toInt64)).2
            rw [← e3] at R3
            have s3 : St (PQ9 g l y n) m2 m3 := by rw [e3]; exact St_sL m2 (by unfold PQ9 PQ; omega) _
            have i3 : mI m3 = mI m2 := by rw [e3]; rfl
            clear e3
            have S3 := s3.sg S2
            by_cases hk0 : kpV B' y k P = 0
            · rw [if_pos hk0]
              rw [if_pos (by rw [hk0]; decide)] at ih1
              refine ih1 m3 (by omega) ?_ (s02.trans s3) (xs m3 r (fun _ => ⟨by rw [i3], fun i => by rw [i3, if_pos rfl]; split <;> rfl⟩) (Or.inl rfl))
              -- the kept number is nought: it stands already
              show LandQ g l N y r (kp2 B' y k P f) m3
              unfold kp2
              rw [hk0]
              rw [hk0] at R3
              have e8 : sI (kp1 B' y k f) 8 k 0 = kp1 B' y k f := by
                refine sI_self ?_
                unfold kp1
                rw [mI_sI, up2_oth (by omega), mI_sI, up2_at]
              rw [e8]
              exact R3
            · have hkn0 : ¬ kpV B' y k P ≤ 0 := by
                rw [hq2] at hk0 ⊢
                intro z
                exact hk0 ((sk_0 (by have := (hc k hkn).2; omega)).2.2 ((sk_0 (by have := (hc k hkn).2; omega)).1.1 z))
              rw [if_neg hk0]
              rw [if_neg hkn0] at ih1
              have v24 : vp_in (nI (12 * l + k)) (mN m3 (gz g + 172)) := by rw [S3.n 172 rfl]; exact vp_in_nI (N := 24) (by omega) (by omega)
              refine ⟨gz g + 172, S3.r 145 37 rfl, S3.k 172 rfl, v24, v24, fun m4 e4 => ?_⟩
              have f3 : mI m3 (gz g + 172) (12 * l + k) = mI B' 7 k := by rw [(R3.gr hkN).2.2.2.2.2, mI_sL, kp1_I (by omega) (by omega)]
              rw [f3] at e4
              have R4 := (R3.pg hkN (mI B' 7 k - kpV B' y k P)).2.2.2.2
              rw [← e4] at R4
              have s4 : St (PQ9 g l y n) m3 m4 := by rw [e4]; exact St_sI m3 (by unfold PQ9 PQ; omega) _
              have i4 : ∀ a, a ≠ gz g + 172 → mI m4 a = mI m3 a := fun a ha => by rw [e4, mI_sI, up2_ne ha]
              clear e4
              have S4 := s4.sg S3
              have e81 : (8 : Int32) * nI l + 1 = nI (8 * l + 1) := ix8 l 1
              rw [e81, nI_clamp (show 8 * l + 1 < 2 ^ 31 by omega)]
              have v25 : vp_in (nI (8 * l + 1)) (mN m4 (gz g + 178)) := by rw [S4.n 178 rfl]; exact vp_in_nI (N := 16) (by omega) (by omega)
              refine ⟨gz g + 178, S4.r 145 43 rfl, S4.k 178 rfl, v25, v25, fun m5 e5 => ?_⟩
              have su4 : mL m4 (gz g + 178) (8 * l + 1) = mL B' 2 1 := by
                rw [R4.su (by omega)]
                show mL (sL (kp1 B' y k f) 1 k _) 2 1 = _
                rw [mL_sL, up2_oth (by omega)]
                rfl
              rw [su4] at e5
              have R5 := R4.ps hN (j := 1) (by omega) (mL B' 2 1 + (kpV B' y k P).toInt64)
              rw [← e5] at R5
              have s5 : St (PQ9 g l y n) m4 m5 := by rw [e5]; exact St_sL m4 (by unfold PQ9 PQ; omega) _
              have i5 : mI m5 = mI m4 := by rw [e5]; rfl
              clear e5
              have S5 := s5.sg S4
              -- the new receipt
              have t490 : ∀ m6 : Mm, LandQ g l N y r (sL (sI (kp2 B' y k P f) 7 k (mI B' 7 k - kpV B' y k P)) 2 1 (mL B' 2 1 + (kpV B' y k P).toInt64)) m6 → St (PQ9 g l y n) m5 m6 → (l = 0 → mI m6 (gz g + 162) = mI m5 (gz g + 162) ∧ mI m6 (gz g + 179) = mI m5 (gz g + 179)) → At g M_RF_passes (lv + 2) 490 [(0, va_rf (some (gz g + 145))), (1, .int (nI l)), (3, va_rf (some (gz g + e))), (4, .int (nI co)), (5, .int (nI y)), (6, .int (nI r0)), (12, .int P), (13, .int sd), (14, .int (nI k)), (19, .int (kpV B' y k P))] [] m6 (QI Q) := by
                intro m6 R6 s6 x6
                have S6 := s6.sg S5
                refine bk_RF_passes_490 g ⟨S6.k 145 rfl, ?_⟩
                refine c_issueQ g (n := n) hl S6 R6 (by rw [mI_sL, mI_sI, up2_oth (by omega), kp2_I (by omega) (by omega)]; exact b03') (by omega) _ _ _ (fun m7 R7 s7 x7 q7 => ?_)
                rw [nI_s]
                refine ih1 m7 (by omega) R7 (((((s02.trans s3).trans s4).trans s5).trans s6).trans s7) (xs m7 (r + 1) (fun h0 => ⟨?_, fun i => ?_⟩) (Or.inr rfl))
                · rw [q7, (x6 h0).1, i5, i4 _ (by omega), i3]
                · rw [x7 h0 i, if_neg (show ¬ r + 1 = r by omega), (x6 h0).2, i5, i4 _ (by omega), i3]
              have cm : sI (sI (kp1 B' y k f) 7 k (mI B' 7 k - kpV B' y k P)) 8 k (kpV B' y k P) = sI (sI (kp1 B' y k f) 8 k (kpV B' y k P)) 7 k (mI B' 7 k - kpV B' y k P) := sI_comm (by omega)
              rcases (show l = 0 ∨ l = 1 by omega) with rfl | rfl
              · rw [if_pos (show nI 0 = 0 from rfl)]
                refine ⟨gz g + 165, S5.r 145 30 rfl, S5.k 165 rfl, by rw [S5.n 165 rfl]; exact vp_in_nI (N := 12) (by omega) (by omega), fun m6 e6 => ?_⟩
                have R6 := R5.putI (c := 8) (i := k) (a := gz g + 165) (j := k) ⟨⟨⟨by omega, by omega, hkN⟩, by omega, by omega⟩, Or.inl rfl⟩ rfl (kpV B' y k P)
                rw [← e6] at R6
                refine t490 m6 ?_ (by rw [e6]; exact St_sI m5 (by unfold PQ9 PQ; omega) _) (fun _ => ⟨by rw [e6, mI_sI, up2_ne (by omega)], by rw [e6, mI_sI, up2_ne (by omega)]⟩)
                have R6' : LandQ g 0 N y r (sL (sL (sI (sI (kp1 B' y k f) 7 k (mI B' 7 k - kpV B' y k P)) 8 k (kpV B' y k P)) 1 k (dueV B' y k P - 100 * (kpV B' y k P).toInt64)) 2 1 (mL B' 2 1 + (kpV B' y k P).toInt64)) m6 := R6
                rw [cm] at R6'
                exact R6'
              · rw [if_neg (show ¬ nI 1 = 0 by decide)]
                refine t490 m5 ?_ (St.refl _ _) (fun h0 => absurd h0 (by omega))
                have R6 := R5.inv (c := 8) (i := k) (vL_8 rfl) (kpV B' y k P)
                have R6' : LandQ g 1 N y r (sL (sL (sI (sI (kp1 B' y k f) 7 k (mI B' 7 k - kpV B' y k P)) 8 k (kpV B' y k P)) 1 k (dueV B' y k P - 100 * (kpV B' y k P).toInt64)) 2 1 (mL B' 2 1 + (kpV B' y k P).toInt64)) m5 := R6
                rw [cm] at R6'
                exact R6'
          · rw [if_neg hf0] at ih1 ⊢
            exact ih1 m2 (by omega) R2 s02 (xs m2 r (fun _ => ⟨rfl, fun i => by rw [if_pos rfl]; split <;> rfl⟩) (Or.inl rfl))
        refine bk_RF_passes_340 g ?_
        rcases (show l = 0 ∨ l = 1 by omega) with rfl | rfl
        · rw [if_pos (show nI 0 = 0 from rfl), ix12, nI_clamp (show 12 * y + k < 2 ^ 31 by omega), nI_clamp (show k < 2 ^ 31 by omega)]
          refine ⟨S1.k 145 rfl, gz g + 162, S1.r 145 27 rfl, S1.k 162 rfl, by rw [S1.n 162 rfl]; exact vp_in_nI (N := 360) (by omega) (by omega), f01, fun m2 e2 => ?_⟩
          have S2 : Sg g m2 := by rw [e2]; exact S1
          refine ⟨gz g + 165, S2.r 145 30 rfl, S2.k 165 rfl, by rw [S2.n 165 rfl]; exact vp_in_nI (N := 12) (by omega) (by omega), fun m3 e3 => ?_⟩
          have R2 : LandQ g 0 N y r B' m2 := by rw [e2]; exact R1.st18 (by omega) f
          have R3 := R2.putI (c := 8) (i := k) (a := gz g + 165) (j := k) ⟨⟨⟨by omega, by omega, hkN⟩, by omega, by omega⟩, Or.inl rfl⟩ rfl 0
          rw [← e3] at R3
          refine t369 m3 (R3.inv (c := 18) (i := 12 * y + k) (vL_18 (by omega) (Nat.le_refl _)) f) ?_ (fun _ => ⟨?_, fun j hj => ?_, ?_⟩) ?_
          · rw [e3, e2]; exact (St_sI m1 (by unfold PQ9 PQ; omega) _).trans (St_sI _ (by unfold PQ9 PQ; omega) _)
          · rw [e3, mI_sI, up2_oth (by omega), e2, mI_sI, up2_at]
          · rw [e3, mI_sI, up2_oth (by omega), e2, mI_sI, up2_sl (by omega)]
          · rw [e3, mI_sI, up2_ne (by omega), e2, mI_sI, up2_ne (by omega)]
          · rw [e3, mI_sI, up2_oth (by omega), e2, mI_sI, up2_oth (by omega)]; exact crm1
        · rw [if_neg (show ¬ nI 1 = 0 by decide)]
          refine t369 m1 ?_ (St.refl _ _) (fun h0 => absurd h0 (by omega)) crm1
          exact (R1.inv (c := 8) (i := k) (vL_8 rfl) 0).inv (c := 18) (i := 12 * y + k) (vL_18 (by omega) (Nat.le_refl _)) f
      refine ⟨gz g + 155, S1.r 145 20 rfl, S1.k 155 rfl, by rw [S1.n 155 rfl]; exact vp_in_nI (N := 12) (by omega) (by omega), ?_⟩
      rw [g1, (R1.gr hkN).1, b1', g2, crm1]
      have hf := hfr k hkn
      by_cases h1 : ((fd >>> (mI A 1 k &&& 31)) &&& 1) = 1
      · rw [if_pos h1] at hf ⊢
        exact bk_RF_passes_335 g (tail 1 hf.symm)
      rw [if_neg h1] at hf ⊢
      refine ⟨(ke m1 S1).2 k hkn, ?_⟩
      by_cases h2 : ls ≤ mI A 17 (12 * y + k)
      · rw [if_pos h2] at hf ⊢
        exact tail 0 hf.symm
      · rw [if_neg h2] at hf ⊢
        exact bk_RF_passes_335 g (tail 1 hf.symm)
  exact loop n 0 m0 (by omega) hR (St.refl _ _) (fun _ => ⟨fun j hj => absurd hj (by omega), fun i => by
    have : (kqA A r0 y P fr 0).2 = r0 := rfl
    rw [this, if_neg (by omega)]⟩)
