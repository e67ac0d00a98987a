/-! ===== the loans that are due, the reference's side ===== -/
theorem LR.unp {g : Gc} {y r : Nat} {A m : Mm} (h : LR g y r A m) (v : Int32) : LR g y r (sI A 0 6 v) (sI m (gz g + 145) 47 v) := by
  refine ⟨h.1.putI (c := 0) (i := 6) (a := gz g + 145) (j := 47) ⟨by show 6 < 7; omega, by omega, by omega⟩ rfl v, fun k hk => ?_⟩
  rw [mI_sI, mI_sI, up2_oth (by omega), up2_oth (by omega), up2_oth (by omega), up2_oth (by omega)]
  exact h.2 k hk
theorem LR.take {g : Gc} {y r i b : Nat} {A m : Mm} (h : LR g y r A m) (hi : i < r) : LR g y r (takeA A i b) (sI (sI (sI m (gz g + 175) i (nI (12 + b))) (gz g + 179) (2 * i) (-1)) (gz g + 179) (2 * i + 1) (-1)) := by
  have h9 := h.putRc (c := 9) hi (by omega) (by omega) (nI (12 + b))
  refine ⟨?_, fun j hj => ?_⟩
  · refine LandR.congr (A := sI A 9 i (nI (12 + b))) (h9.1.same (fun d hd => ⟨?_, rfl⟩) ?_ ?_) (fun c j hv => ?_) (fun c j _ => rfl)
    · rw [mI_sI, up2_ne (by unfold rCell at hd; omega), mI_sI, up2_ne (by unfold rCell at hd; omega)]
    · rw [mI_sI, up2_oth (by omega), mI_sI, up2_oth (by omega)]
    · rw [mI_sI, up2_oth (by omega), mI_sI, up2_oth (by omega)]
    · unfold takeA
      rw [mI_sI, up2_oth (vI_12 hv).1, mI_sI, up2_oth (vI_12 hv).1]
  · obtain ⟨z1, z2⟩ := h.2 j hj
    have e13 : mI (takeA A i b) 13 j = mI A 13 j := takeA_I (by omega) (by omega)
    have eL : mL (takeA A i b) 3 j = mL A 3 j := rfl
    rw [takeA_12, e13, eL]
    refine ⟨?_, fun hb => ?_⟩
    · rw [mI_sI]
      by_cases q1 : j = 2 * i + 1
      · subst q1; rw [up2_at, if_pos (Or.inr rfl)]
      · rw [up2_sl q1, mI_sI]
        by_cases q2 : j = 2 * i
        · subst q2; rw [up2_at, if_pos (Or.inl rfl)]
        · rw [up2_sl q2, if_neg (by omega), mI_sI, up2_oth (by omega)]
          exact z1
    · by_cases q : j = 2 * i ∨ j = 2 * i + 1
      · rw [if_pos q] at hb; exact absurd rfl hb
      · rw [if_neg q] at hb
        rw [mI_sI, up2_oth (by omega), mI_sI, up2_oth (by omega), mI_sI, up2_oth (by omega)]
        exact z2 hb
def WDu : List Nat := [168, 174, 175, 176, 177, 179, 180, 181]
def PDu (g : Gc) (a j : Nat) : Prop := PW g WDu a j ∨ (a = gz g + 145 ∧ j = 47)
theorem l_dues (g : Gc) {lv n y p Y r i k : Nat} {A m : Mm} (hS : Sg g m) (hF : Fr g m) (hR : LR g Y r A m) (H : LoanI n y p r A) (h12 : n ≤ 12) (hp1 : 1 ≤ p) (hp2 : p ≤ 10000) (hi : i < r) (hk : k < 2) {Q : Mm → Prop} (h0 : ¬ DueA A i k y → At g M_RF_dues (lv + 3) 2 [(0, va_rf (some (gz g + 145))), (1, .int (nI i)), (2, .int (nI y)), (3, .int (nI (k + 2)))] [] m (QV Q)) (h1 : DueA A i k y → ∀ m', LR g Y (clsA A r i k).2 (clsA A r i k).1 m' → Fs g (PDu g) 0 m m' → Sg g m' → Fr g m' → At g M_RF_dues (lv + 3) 2 [(0, va_rf (some (gz g + 145))), (1, .int (nI i)), (2, .int (nI y)), (3, .int (nI (k + 1)))] [] m' (QV Q)) : At g M_RF_dues (lv + 3) 2 [(0, va_rf (some (gz g + 145))), (1, .int (nI i)), (2, .int (nI y)), (3, .int (nI (k + 1)))] [] m (QV Q) := by
  have z0 : (0 : Int32).toNatClampNeg = 0 := rfl
  obtain ⟨hX, hB, hH, ⟨h3, h4⟩, w0, w1, w2⟩ := id H
  have hr3 : ¬ (3 : Int32) ≤ nI (k + 1) := nI_ge (a := k + 1) (b := 3) (by omega) (by omega)
  have v79 : ∀ (mm : Mm), Sg g mm → vp_in (nI (2 * i + k)) (mN mm (gz g + 179)) ∧ vp_in (nI (2 * i + k)) (mN mm (gz g + 180)) ∧ vp_in (nI (2 * i + k)) (mN mm (gz g + 181)) ∧ vp_in (nI i) (mN mm (gz g + 176)) ∧ vp_in (nI i) (mN mm (gz g + 177)) ∧ vp_in (nI i) (mN mm (gz g + 175)) ∧ vp_in (0 : Int32) (mN mm (gz g + 167)) ∧ vp_in (0 : Int32) (mN mm (gz g + 168)) := fun mm s => ⟨by rw [s.n 179 rfl]; exact vp_in_nI (N := 800) (by omega) (by omega), by rw [s.n 180 rfl]; exact vp_in_nI (N := 800) (by omega) (by omega), by rw [s.n 181 rfl]; exact vp_in_nI (N := 800) (by omega) (by omega), by rw [s.n 176 rfl]; exact vp_in_nI (N := 800) (by omega) (by omega), by rw [s.n 177 rfl]; exact vp_in_nI (N := 800) (by omega) (by omega), by rw [s.n 175 rfl]; exact vp_in_nI (N := 800) (by omega) (by omega), by rw [s.n 167 rfl]; exact vp_in_nI (n := 0) (N := 2) (by omega) (by omega), by rw [s.n 168 rfl]; exact vp_in_nI (n := 0) (N := 2) (by omega) (by omega)⟩
  obtain ⟨v1, v2, v3, v4, v5, v6, v7, v8⟩ := v79 m hS
  refine bk_RF_dues_2 g ?_
  rw [if_neg hr3, ixr, nI_clamp (show 2 * i + k < 2 ^ 31 by omega), nI_clamp (show i < 2 ^ 31 by omega), nI_s]
  refine ⟨hS.k 145 rfl, gz g + 179, hS.r 145 44 rfl, hS.k 179 rfl, v1, ?_⟩
  rw [(hR.2 (2 * i + k) (by omega)).1]
  by_cases hb1 : mI A 12 (2 * i + k) = -1
  · rw [if_pos hb1]
    exact h0 (fun z => z.1 hb1)
  rw [if_neg hb1]
  obtain ⟨lo1, lo2⟩ := (hR.2 (2 * i + k) (by omega)).2 hb1
  refine ⟨gz g + 180, hS.r 145 45 rfl, hS.k 180 rfl, v2, ?_⟩
  rw [lo1]
  by_cases hd : mI A 13 (2 * i + k) ≤ nI y
  · rw [if_pos hd]
    have D : DueA A i k y := ⟨hb1, hd⟩
    obtain ⟨hh, h9, hb, hbb⟩ := H.hb h12 hi hk hb1
    have h1' := h1 D
    unfold clsA closeA at h1'
    refine c_paysR g hS hR h12 h4 hi hk h9 hh hbb hb (fun hc => ?_) (fun hc m1 R1 s1 => ?_)
    · rw [if_pos rfl]
      rw [if_neg hc] at h1'
      intro m1 e1
      rw [show mI m (gz g + 145) 47 = mI A 0 6 from hR.1.1 0 6 ⟨by show 6 < 7; omega, by omega, by omega⟩] at e1
      have R1 : LR g Y r (unpA A) m1 := by rw [e1]; exact hR.unp _
      have s1 : St (PDu g) m m1 := by rw [e1]; exact St_sI m (Or.inr ⟨rfl, rfl⟩) _
      clear e1
      have S1 := s1.sg hS
      have F1 := s1.fr hF
      obtain ⟨x1, x2, x3, x4, x5, x6, x7, x8⟩ := v79 m1 S1
      have u : ∀ c j, ¬ (c = 0 ∧ j = 6) → mI (unpA A) c j = mI A c j := fun c j hn => by unfold unpA; rw [mI_sI, up2_not hn]
      have pne : ¬ (nI p).toInt64 = 0 := by
        rw [nI_l (by omega)]
        intro e
        have := (lN_eq (a := p) (b := 0) (by omega) (by omega)).1 e
        omega
      have pr1 : mI m1 (gz g + 167) 0 = nI p := by rw [R1.pr, u 0 2 (by omega)]; exact w2
      have lo1' := (R1.2 (2 * i + k) (by omega)).2 (by rw [u 12 _ (by omega)]; exact hb1)
      have b1 : mI m1 (gz g + 179) (2 * i + k) = nI (bO A i k) := by rw [(R1.2 (2 * i + k) (by omega)).1, u 12 _ (by omega)]; exact hbb
      have e12 : (12 : Int32) + nI (bO A i k) = nI (12 + bO A i k) := by rw [show (12 : Int32) = nI 12 from rfl, nI_add]
      have nv : (mL m1 (gz g + 181) (2 * i + k) + (nI p).toInt64 - 1) / (nI p).toInt64 = needV A i k := by
        unfold needV
        rw [lo1'.2, w2]
        rfl
      refine ⟨gz g + 181, S1.r 145 46 rfl, S1.k 181 rfl, x3, gz g + 167, S1.r 145 32 rfl, S1.k 167 rfl, x7, x7, ?_⟩
      rw [z0, pr1, nv, b1, e12]
      refine ⟨pne, x1, gz g + 176, S1.r 145 41 rfl, S1.k 176 rfl, x4, ?_⟩
      rw [(R1.rc hi).2.1, u 10 i (by omega)]
      have take : ((mI A 10 i).toInt64 ≤ needV A i k ∨ r = 400) → At g M_RF_dues (lv + 3) 127 [(0, va_rf (some (gz g + 145))), (1, .int (nI i)), (2, .int (nI y)), (3, .int (nI (k + 1))), (7, .int (nI (12 + bO A i k)))] [] m1 (QV Q) := by
        intro ht
        rw [if_pos ht] at h1'
        refine bk_RF_dues_127 g ⟨S1.k 145 rfl, gz g + 175, S1.r 145 40 rfl, S1.k 175 rfl, x6, fun m2 e2 => ?_⟩
        rw [nI_clamp (by omega)] at e2
        have S2 : Sg g m2 := by rw [e2]; exact S1
        rw [ix2s, ix2, nI_clamp (show 2 * i < 2 ^ 31 by omega), nI_clamp (show 2 * i + 1 < 2 ^ 31 by omega)]
        refine ⟨gz g + 179, S2.r 145 44 rfl, S2.k 179 rfl, by rw [S2.n 179 rfl]; exact vp_in_nI (N := 800) (by omega) (by omega), fun m3 e3 => ?_⟩
        have S3 : Sg g m3 := by rw [e3]; exact S2
        refine ⟨by rw [S3.n 179 rfl]; exact vp_in_nI (N := 800) (by omega) (by omega), fun m4 e4 => ?_⟩
        have s4 : St (PDu g) m m4 := by
          rw [e4, e3, e2]
          exact ((s1.trans (St_sI m1 (Or.inl ⟨175, by decide, rfl⟩) _)).trans (St_sI _ (Or.inl ⟨179, by decide, rfl⟩) _)).trans (St_sI _ (Or.inl ⟨179, by decide, rfl⟩) _)
        refine h1' m4 ?_ s4.fs (s4.sg hS) (s4.fr hF)
        rw [e4, e3, e2]
        exact R1.take hi
      by_cases hs : (mI A 10 i).toInt64 ≤ needV A i k
      · rw [if_pos hs]; exact take (Or.inl hs)
      rw [if_neg hs]
      refine ⟨gz g + 168, S1.r 145 33 rfl, S1.k 168 rfl, x8, ?_⟩
      rw [R1.rn, u 0 3 (by omega), h3]
      by_cases h400 : r = 400
      · rw [if_pos (by rw [h400]; rfl)]; exact take (Or.inr h400)
      rw [if_neg (by rw [show (400 : Int32) = nI 400 from rfl, nI_eq (by omega) (by omega)]; exact h400)]
      rw [if_neg (fun z => z.elim hs h400)] at h1'
      refine ⟨x4, x4, fun m2 e2 => ?_⟩
      have R2 : LR g Y r (sI (unpA A) 10 i (mI A 10 i - (needV A i k).toInt32)) m2 := by rw [e2]; exact R1.putRc (c := 10) hi (by omega) (by omega) _
      have s2 : St (PDu g) m1 m2 := by rw [e2]; exact St_sI m1 (Or.inl ⟨176, by decide, rfl⟩) _
      clear e2
      have S2 := s2.sg S1
      have y11 : mI m2 (gz g + 177) i = mI A 11 i := by rw [(R2.rc hi).2.2, mI_sI, up2_oth (by omega), u 11 i (by omega)]
      refine ⟨gz g + 177, S2.r 145 42 rfl, S2.k 177 rfl, (v79 m2 S2).2.2.2.2.1, ?_⟩
      rw [y11]
      refine c_issueR g S2 R2 (by rw [mI_sI, up2_oth (by omega), u 0 3 (by omega)]; exact h3) (by omega) _ _ _ (fun m3 R3 f3 F3 S3 => ?_)
      refine c_endsR g S3 R3 (by omega) (show i < r + 1 by omega) hk (fun m4 R4 s4 => ?_)
      refine h1' m4 R4 ?_ (s4.sg S3) (s4.fr (F3 (s2.fr F1)))
      exact ((s1.trans s2).fs.trans f3 (fun a j _ z => Or.inl (by obtain ⟨w, hw, e⟩ := z; exact ⟨w, (by decide : ∀ w, w ∈ WSp → w ∈ WDu) w hw, e⟩))).trans s4.fs (fun a j _ z => Or.inl (by obtain ⟨w, hw, e⟩ := z; exact ⟨w, (by decide : ∀ w, w ∈ [179, 180, 181] → w ∈ WDu) w hw, e⟩))
    · rw [if_neg (by decide)]
      rw [if_pos hc] at h1'
      exact h1' m1 R1 (s1.fs.weak (fun a j _ z => Or.inl (by obtain ⟨w, hw, e⟩ := z; exact ⟨w, (by decide : ∀ w, w ∈ WPy → w ∈ WDu) w hw, e⟩)) (Nat.le_refl _)) (s1.sg hS) (s1.fr hF)
  · rw [if_neg hd]
    exact h0 (fun z => hd z.2)
theorem c_duesR (g : Gc) {lv n y p Y r i : Nat} {A m : Mm} (hS : Sg g m) (hF : Fr g m) (hR : LR g Y r A m) (H : LoanI n y p r A) (h12 : n ≤ 12) (hp1 : 1 ≤ p) (hp2 : p ≤ 10000) (hi : i < r) {Q : Mm → Prop} (hQ : ∀ m', LR g Y (dueS A r i y).2 (dueS A r i y).1 m' → Fs g (PDu g) 0 m m' → Sg g m' → Fr g m' → Q m') : CV g M_RF_dues (lv + 3) [va_rf (some (gz g + 145)), .int (nI i), .int (nI y)] m Q := by
  have fin : ∀ m' : Mm, Q m' → At g M_RF_dues (lv + 3) 2 [(0, va_rf (some (gz g + 145))), (1, .int (nI i)), (2, .int (nI y)), (3, .int (nI (1 + 2)))] [] m' (QV Q) := fun m' h => by
    refine bk_RF_dues_2 g ?_
    rw [if_pos (show (3 : Int32) ≤ nI (1 + 2) from nI_le (a := 3) (b := 3) (by omega) (by omega))]
    exact h
  unfold dueS at hQ
  refine en_RF_dues g (l_dues g (k := 0) hS hF hR H h12 hp1 hp2 hi (by omega) (fun hd => ?_) (fun hd m1 R1 f1 S1 F1 => ?_))
  · rw [if_neg hd] at hQ
    refine l_dues g (k := 1) hS hF hR H h12 hp1 hp2 hi (by omega) (fun hd1 => ?_) (fun hd1 m1 R1 f1 S1 F1 => ?_)
    · rw [if_neg hd1] at hQ
      exact fin m (hQ m hR (Fs.refl _ _ _ _) hS hF)
    · rw [if_pos hd1] at hQ
      obtain ⟨H1, a1, b1, c1⟩ := H.close (h := hO A i) (b := bO A i 1) hi (k := 1) (by omega) hd1.1
      refine l_dues g (k := 1) S1 F1 R1 H1 h12 hp1 hp2 (show i < (clsA A r i 1).2 by have : r ≤ (clsA A r i 1).2 := b1; omega) (by omega) (fun _ => fin m1 (hQ m1 R1 f1 S1 F1)) (fun z => absurd c1 z.1)
  · rw [if_pos hd] at hQ
    obtain ⟨H1, a1, b1, c1⟩ := H.close (h := hO A i) (b := bO A i 0) hi (k := 0) (by omega) hd.1
    have hi1 : i < (clsA A r i 0).2 := by have : r ≤ (clsA A r i 0).2 := b1; omega
    refine l_dues g (k := 0) S1 F1 R1 H1 h12 hp1 hp2 hi1 (by omega) (fun hd1 => ?_) (fun hd1 m2 R2 f2 S2 F2 => ?_)
    · rw [if_neg hd1] at hQ
      exact l_dues g (k := 1) S1 F1 R1 H1 h12 hp1 hp2 hi1 (by omega) (fun _ => fin m1 (hQ m1 R1 f1 S1 F1)) (fun z => absurd c1 z.1)
    · rw [if_pos hd1] at hQ
      obtain ⟨H2, a2, b2, c2⟩ := H1.close (h := hO (clsA A r i 0).1 i) (b := bO (clsA A r i 0).1 i 0) hi1 (k := 0) (by omega) hd1.1
      have hi2 : i < (clsA (clsA A r i 0).1 (clsA A r i 0).2 i 0).2 := by have : (clsA A r i 0).2 ≤ (clsA (clsA A r i 0).1 (clsA A r i 0).2 i 0).2 := b2; omega
      have f12 : Fs g (PDu g) 0 m m2 := f1.trans f2 (fun _ _ _ z => z)
      -- the first rank is empty now
      have e0 : mI (clsA (clsA A r i 0).1 (clsA A r i 0).2 i 0).1 12 (2 * i) = -1 := by
        have c1' : mI (clsA A r i 0).1 12 (2 * i + 1) = -1 := c1
        generalize (clsA A r i 0).1 = B at c1' ⊢
        generalize (clsA A r i 0).2 = rr
        show mI (closeA B rr i 0 (hO B i) (bO B i 0)).1 12 (2 * i) = -1
        unfold closeA
        split
        · show mI (payA B i 0 _ _) 12 (2 * i) = -1
          unfold payA
          rw [endsA_12 (by omega), if_neg (by omega), if_pos ⟨rfl, rfl⟩, payB_I]; exact c1'
        · split
          · show mI (takeA _ _ _) 12 (2 * i) = -1
            rw [takeA_12, if_pos (Or.inl rfl)]
          · show mI (partA B rr i 0 _) 12 (2 * i) = -1
            unfold partA
            rw [endsA_12 (by omega), if_neg (by omega), if_pos ⟨rfl, rfl⟩]
            unfold issM
            rw [issL_12]
            split
            · rfl
            · rw [issA_oth (by omega) (by omega), mI_sI, up2_oth (by omega)]
              unfold unpA
              rw [mI_sI, up2_oth (by omega)]
              exact c1'
      refine l_dues g (k := 0) S2 F2 R2 H2 h12 hp1 hp2 hi2 (by omega) (fun _ => ?_) (fun z => absurd e0 z.1)
      exact l_dues g (k := 1) S2 F2 R2 H2 h12 hp1 hp2 hi2 (by omega) (fun _ => fin m2 (hQ m2 R2 f12 S2 F2)) (fun z => absurd c2 z.1)
