/-! ===== pledge, both sides ===== -/
def WPl : List Nat := [174, 179, 180, 181]
theorem l_RFpledge146 (g : Gc) {lv n y r i k b h : Nat} {A m : Mm} (hS : Sg g m) (hR : LR g y r A m) (h12 : n ≤ 12) (h4 : r ≤ 400) (hi : i < r) (hk : k < 2) (hb : b < 3) (hh : mI A 9 i = nI h) (hhn : h < n) (x : Int32) (v : Int64) {Q : Int64 → Mm → Prop} (h0 : v = 0 → Q (-8) m) (h1 : ¬ v = 0 → ∀ m', LR g y r (pledA A i k b h (mI A 0 1 + x) v) m' → St (PW g WPl) m m' → Q v m') : At g M_RF_pledge (lv + 1) 146 [(0, va_rf (some (gz g + 145))), (1, .int (nI i)), (2, .int (nI b)), (3, .int x), (4, .int (nI k)), (5, .long v)] [] m (QJ Q) := by
  have z0 : (0 : Int32).toNatClampNeg = 0 := rfl
  have e12 : (12 : Int32) + nI b = nI (12 + b) := by rw [show (12 : Int32) = nI 12 from rfl, nI_add]
  have eix : (2 : Int32) * nI i + nI k = nI (2 * i + k) := by rw [ix2, nI_add]
  refine bk_RF_pledge_146 g ?_
  by_cases hv : v = 0
  · rw [if_pos hv]; exact h0 hv
  rw [if_neg hv, e12, eix, nI_clamp (show i < 2 ^ 31 by omega), nI_clamp (show b < 2 ^ 31 by omega), nI_clamp (show 12 + b < 2 ^ 31 by omega), nI_clamp (show 2 * i + k < 2 ^ 31 by omega)]
  refine ⟨hS.k 145 rfl, gz g + 174, hS.r 145 39 rfl, gz g + 175, hS.r 145 40 rfl, hS.k 175 rfl, by rw [hS.n 175 rfl]; exact vp_in_nI (N := 800) (by omega) (by omega), hS.k 174 rfl, ?_⟩
  rw [(hR.rc hi).1, hh, nI_clamp (show h < 2 ^ 31 by omega)]
  refine ⟨by rw [hS.n 174 rfl]; exact vp_in_nI (N := 30) (by omega) (by omega), by rw [hS.n 174 rfl]; exact vp_in_nI (N := 30) (by omega) (by omega), fun m1 e1 => ?_⟩
  rw [hR.mo (by omega)] at e1
  have R1 : LR g y r (sL A 0 h (mL A 0 h + v)) m1 := by rw [e1]; exact hR.putM (by omega) _
  have S1 : Sg g m1 := by rw [e1]; exact hS
  have s1 : St (PW g WPl) m m1 := by rw [e1]; exact St_sL m ⟨174, by decide, rfl⟩ _
  clear e1
  refine ⟨by rw [S1.n 174 rfl]; exact vp_in_nI (N := 30) (by omega) (by omega), by rw [S1.n 174 rfl]; exact vp_in_nI (N := 30) (by omega) (by omega), fun m2 e2 => ?_⟩
  rw [R1.mo (by omega), mL_sL, up2_sl (by omega)] at e2
  have R2 : LR g y r (sL (sL A 0 h (mL A 0 h + v)) 0 (12 + b) (mL A 0 (12 + b) - v)) m2 := by rw [e2]; exact R1.putM (by omega) _
  have S2 : Sg g m2 := by rw [e2]; exact S1
  have s2 : St (PW g WPl) m1 m2 := by rw [e2]; exact St_sL m1 ⟨174, by decide, rfl⟩ _
  clear e2
  refine ⟨gz g + 179, S2.r 145 44 rfl, S2.k 179 rfl, by rw [S2.n 179 rfl]; exact vp_in_nI (N := 800) (by omega) (by omega), fun m3 e3 => ?_⟩
  have S3 : Sg g m3 := by rw [e3]; exact S2
  have b3 : mI m3 (gz g + 151) b = mI A 22 b := by rw [e3, mI_sI, up2_oth (by omega), (R2.bk hb).2]; rfl
  refine ⟨gz g + 181, S3.r 145 46 rfl, gz g + 151, S3.r 145 13 rfl, S3.k 151 rfl, by rw [S3.n 151 rfl]; exact vp_in_nI (N := 3) (by omega) (by omega), S3.k 181 rfl, by rw [S3.n 181 rfl]; exact vp_in_nI (N := 800) (by omega) (by omega), fun m4 e4 => ?_⟩
  rw [b3] at e4
  have S4 : Sg g m4 := by rw [e4]; exact S3
  have y4 : mI m4 (gz g + 166) 0 = mI A 0 1 := by rw [e4, mI_sL, e3, mI_sI, up2_oth (by omega), R2.yr]; rfl
  refine ⟨gz g + 180, S4.r 145 45 rfl, gz g + 166, S4.r 145 31 rfl, S4.k 166 rfl, by rw [S4.n 166 rfl]; exact vp_in_nI (n := 0) (N := 2) (by omega) (by omega), S4.k 180 rfl, by rw [S4.n 180 rfl]; exact vp_in_nI (N := 800) (by omega) (by omega), fun m5 e5 => ?_⟩
  rw [z0, y4, e4, e3] at e5
  refine h1 hv m5 ?_ ?_
  · rw [e5]
    have R5 := R2.bear (e := 2 * i + k) (b := nI b) (due := mI A 0 1 + x) (w := owesA A b v)
    have ee : pledA A i k b h (mI A 0 1 + x) v = bearA (sL (sL A 0 h (mL A 0 h + v)) 0 (12 + b) (mL A 0 (12 + b) - v)) (2 * i + k) (nI b) (mI A 0 1 + x) (owesA A b v) := by
      unfold pledA bearA
      show sL (sL (sI (sI (sL A 3 (2 * i + k) (owesA A b v)) 12 (2 * i + k) (nI b)) 13 (2 * i + k) (mI A 0 1 + x)) 0 h (mL A 0 h + v)) 0 (12 + b) (mL A 0 (12 + b) - v) = sI (sI (sL (sL (sL A 0 h (mL A 0 h + v)) 0 (12 + b) (mL A 0 (12 + b) - v)) 3 (2 * i + k) (owesA A b v)) 12 (2 * i + k) (nI b)) 13 (2 * i + k) (mI A 0 1 + x)
      rw [sL_comm (A := sL A 0 h (mL A 0 h + v)) (c := 0) (i := 12 + b) (c' := 3) (by omega), sL_comm (A := A) (c := 0) (i := h) (c' := 3) (by omega)]
      rfl
    rw [ee]
    exact R5
  · rw [e5]
    exact (s1.trans s2).trans (((St_sI m2 ⟨179, by decide, rfl⟩ _).trans (St_sL _ ⟨181, by decide, rfl⟩ _)).trans (St_sI _ ⟨180, by decide, rfl⟩ _))
theorem sim_pledge (g : Gc) {lv n y r p : Nat} {A m : Mm} {pa : Nat → Nat} (hS : Sg g m) (hF : Fr g m) (hC : LC g pa y r A m) (hR : LR g y r A m) (hn : mI A 0 0 = nI n) (h12 : n ≤ 12) (hr : mI A 0 3 = nI r) (h4 : r ≤ 400) (hX : LnX r A) (hs : ∀ i, i < r → ∃ s : Nat, s < 2 ^ 31 ∧ mI A 10 i = nI s) (hh : HoldOK n r A) (hp : mI A 0 2 = nI p) (hp2 : p ≤ 10000) (hbk : ∀ b, b < 3 → ∃ q : Nat, q ≤ 100 ∧ mI A 21 b = nI q) (x z w : Int32) : SimJ g M_SL_pledge M_RF_pledge (lv + 5) [.int x, .int z, .int w] m (fun m2 => Fs g (PPy g pa r WPl) 1 m m2 ∧ Fr g m2 ∧ ((LC g pa y r A m2 ∧ LR g y r A m2) ∨ ∃ (i k b h d : Nat) (v : Int64), (∃ w : Nat, w < 2 ^ 53 ∧ v = lN w) ∧ i < r ∧ k < 2 ∧ b < 3 ∧ h < n ∧ 1 ≤ d ∧ d ≤ 9 ∧ mI A 9 i = nI h ∧ (k = 0 → mI A 12 (2 * i) = -1) ∧ (k = 1 → ¬ mI A 12 (2 * i) = -1 ∧ ¬ mI A 12 (2 * i) = nI b) ∧ mI A 12 (2 * i + 1) = -1 ∧ LC g pa y r (pledA A i k b h (mI A 0 1 + nI d) v) m2 ∧ LR g y r (pledA A i k b h (mI A 0 1 + nI d) v) m2)) := by
  have z0 : (0 : Int32).toNatClampNeg = 0 := rfl
  have e1 : wj z.toInt64 (0 : Int64) (2 : Int64) = wi z 0 2 := wj_wide z 0 2
  have e2 : wj w.toInt64 (1 : Int64) (9 : Int64) = wi w 1 9 := wj_wide w 1 9
  have t0 : ∀ m1 : Mm, Fs g (PPy g pa r WPl) 0 m1 (sI m1 (gz g + 145) 0 0) := fun m1 => Fs_sI m1 (Or.inr (Or.inr ⟨rfl, rfl⟩)) 0
  have t1 : Fs g (PPy g pa r WPl) 1 m (sI m (gz g + 145) 0 0) := (t0 m).weak (fun _ _ _ q => q) (by omega)
  have hR0 : LR g y r A (sI m (gz g + 145) 0 0) := hR.t0 hF (by omega) 0
  have hC0 : LC g pa y r A (sI m (gz g + 145) 0 0) := hC.t0 hF 0 0
  have hS0 : Sg g (sI m (gz g + 145) 0 0) := hS
  have F0 : Fr g (sI m (gz g + 145) 0 0) := hF
  -- the reference's refusal with -2
  have refz : ∀ (Q : Int64 → Mm → Prop), (∀ i s h : Nat, i < r → x = nI i → mI A 10 i = nI s → s ≠ 0 → s < 2 ^ 31 → mI A 9 i = nI h → h < 12 → ¬ wi z 0 2 = 0 → ¬ wi w 1 9 = 0 → False) → Q (-2) (sI m (gz g + 145) 0 0) → CJ g M_RF_pledge (lv + 5) [va_rf (some (gz g + 145)), .int x, .int z, .int w] m Q := by
    intro Q hno hq
    refine en_RF_pledge g ⟨hS.k 145 rfl, fun m2 em => ?_⟩
    subst em
    refine c_isFullR g hS0 hR0 hr h4 (fun _ => ?_) (fun _ _ _ _ => ?_) (fun i hi e q => ?_)
    · rw [if_pos rfl]; exact hq
    · rw [if_pos rfl]; exact hq
    rw [if_neg (by decide)]
    refine c_in g ?_
    rw [e1]
    by_cases h1 : wi z 0 2 = 0
    · rw [if_pos h1]; exact hq
    rw [if_neg h1]
    subst e
    obtain ⟨s, hs1, hs2⟩ := hs i hi
    obtain ⟨h, hh1, hh2⟩ := hh i hi
    refine ⟨gz g + 175, hS0.r 145 40 rfl, hS0.k 175 rfl, by rw [hS0.n 175 rfl]; exact vp_in_nI (N := 800) (by omega) (by omega), ?_⟩
    rw [nI_clamp (by omega), (hR0.rc hi).1, hh1]
    by_cases h2 : 12 ≤ h
    · rw [if_pos (by rw [show (12 : Int32) = nI 12 from rfl, nI_leI (by omega) (by omega)]; exact h2)]; exact hq
    rw [if_neg (by rw [show (12 : Int32) = nI 12 from rfl, nI_leI (by omega) (by omega)]; exact h2)]
    refine c_in g ?_
    rw [e2]
    by_cases h3 : wi w 1 9 = 0
    · rw [if_pos h3]; exact hq
    · refine absurd (hno i s h hi rfl hs2 (fun e => q ?_) hs1 hh1 (by omega) h1 h3) id
      rw [hs2]
      exact (sk_0 hs1).1.2 e
  unfold SimJ
  have bad : ∀ o, (∀ i s h : Nat, i < r → x = nI i → mI A 10 i = nI s → s ≠ 0 → s < 2 ^ 31 → mI A 9 i = nI h → h < 12 → False) → At g M_SL_pledge (lv + 5) 40 [(0, va_rf (some (gz g))), (2, .int z), (3, .int w), (4, va_rf o)] [] m (QJ (fun r1 m1 => CJ g M_RF_pledge (lv + 5) (va_rf (some (gz g + 145)) :: [.int x, .int z, .int w]) m1 (fun r2 m2 => r1 = r2 ∧ Fs g (PPy g pa r WPl) 1 m m2 ∧ Fr g m2 ∧ ((LC g pa y r A m2 ∧ LR g y r A m2) ∨ ∃ (i k b h d : Nat) (v : Int64), (∃ w : Nat, w < 2 ^ 53 ∧ v = lN w) ∧ i < r ∧ k < 2 ∧ b < 3 ∧ h < n ∧ 1 ≤ d ∧ d ≤ 9 ∧ mI A 9 i = nI h ∧ (k = 0 → mI A 12 (2 * i) = -1) ∧ (k = 1 → ¬ mI A 12 (2 * i) = -1 ∧ ¬ mI A 12 (2 * i) = nI b) ∧ mI A 12 (2 * i + 1) = -1 ∧ LC g pa y r (pledA A i k b h (mI A 0 1 + nI d) v) m2 ∧ LR g y r (pledA A i k b h (mI A 0 1 + nI d) v) m2)))) := by
    intro o hno
    refine bk_SL_pledge_40 g (bk_SL_pledge_41 g ?_)
    rw [if_pos rfl]
    exact refz _ (fun i s h a1 a2 a3 a4 a5 a6 a7 _ _ => hno i s h a1 a2 a3 a4 a5 a6 a7) ⟨rfl, t1, F0, Or.inl ⟨hC0, hR0⟩⟩
  refine en_SL_pledge g ⟨hS.k 0 rfl, gz g + 2, hS.r 0 1 rfl, hS.k 2 rfl, gz g + 5, hS.r 2 3 rfl, hS.k 5 rfl, c_find g hS hC hr h4 (fun hw => ?_) (fun i hi e => ?_)⟩
  · rw [if_pos rfl]
    exact bad none (fun i s h hi e => absurd (by rw [e] at hw; exact hw) (by rw [wi_in hi (by omega)]; decide))
  subst e
  have nw : ¬ wi (nI i) 0 (nI r - 1) = 0 := by rw [wi_in hi (by omega)]; decide
  have same : ∀ {i' : Nat}, i' < r → nI i = nI i' → i = i' := fun h e => (nI_eq (by omega) (by omega)).1 e
  obtain ⟨s, hs1, hs2⟩ := hs i hi
  obtain ⟨h, hh1, hh2⟩ := hh i hi
  rw [if_neg (by simp)]
  refine ⟨pa i, rfl, (hC.2.2.1.1 i hi).2.1, ?_⟩
  rw [(hC.rc hi).2.1, (hC.rc hi).1, hs2, hh1]
  by_cases c1 : s = 0
  · rw [if_pos ((sk_0 hs1).1.2 c1)]
    refine bad _ (fun i' s' h' hi' e' a3 a4 a5 _ _ => ?_)
    obtain rfl := same hi' e'
    rw [hs2] at a3
    exact a4 ((nI_eq (by omega) (by omega)).1 a3 ▸ c1)
  rw [if_neg (fun q => c1 ((sk_0 hs1).1.1 q))]
  by_cases c2 : 12 ≤ h
  · rw [if_pos (by rw [show (12 : Int32) = nI 12 from rfl, nI_leI (by omega) (by omega)]; exact c2)]
    refine bad _ (fun i' s' h' hi' e' _ _ _ a6 a7 => ?_)
    obtain rfl := same hi' e'
    rw [hh1] at a6
    have := (nI_eq (by omega) (by omega)).1 a6
    omega
  rw [if_neg (by rw [show (12 : Int32) = nI 12 from rfl, nI_leI (by omega) (by omega)]; exact c2)]
  have hhn : h < n := by omega
  refine bk_SL_pledge_41 g ?_
  rw [if_neg (by decide)]
  refine c_isWithin g ?_
  by_cases c3 : wi z 0 2 = 0
  · rw [if_pos c3]
    exact refz _ (fun _ _ _ _ _ _ _ _ _ _ q _ => q c3) ⟨rfl, t1, F0, Or.inl ⟨hC0, hR0⟩⟩
  rw [if_neg c3]
  refine c_isWithin g ?_
  by_cases c4 : wi w 1 9 = 0
  · rw [if_pos c4]
    exact refz _ (fun _ _ _ _ _ _ _ _ _ _ _ q => q c4) ⟨rfl, t1, F0, Or.inl ⟨hC0, hR0⟩⟩
  rw [if_neg c4]
  obtain ⟨b, -, hb', rfl⟩ := wi_rng (a := 0) (c := 2) rfl rfl (by omega) (by omega) c3
  obtain ⟨d, hd1, hd9, rfl⟩ := wi_rng (a := 1) (c := 9) rfl rfl (by omega) (by omega) c4
  have hb : b < 3 := by omega
  obtain ⟨q, hq1, hq2⟩ := hbk b hb
  obtain ⟨v, hv1, hv2⟩ := offA_nat hs2 hs1 hp hp2 hq2 hq1
  obtain ⟨lv1, lv2⟩ := lN_0 hv1
  -- the reference up to its look at the ranks
  have ref : ∀ (m1 : Mm) (Q : Int64 → Mm → Prop), Sg g m1 → Fr g m1 → LR g y r A m1 → ((¬ mI A 12 (2 * i + 1) = -1 ∨ (¬ mI A 12 (2 * i) = -1 ∧ mI A 12 (2 * i) = nI b)) → Q (-7) (sI m1 (gz g + 145) 0 0)) → (mI A 12 (2 * i + 1) = -1 → ¬ (¬ mI A 12 (2 * i) = -1 ∧ mI A 12 (2 * i) = nI b) → ∀ k, k < 2 → (k = 0 ↔ mI A 12 (2 * i) = -1) → (v = 0 → Q (-8) (sI m1 (gz g + 145) 0 0)) ∧ (v ≠ 0 → ∀ m', LR g y r (pledA A i k b h (mI A 0 1 + nI d) (lN v)) m' → St (PW g WPl) (sI m1 (gz g + 145) 0 0) m' → Q (lN v) m')) → CJ g M_RF_pledge (lv + 5) [va_rf (some (gz g + 145)), .int (nI i), .int (nI b), .int (nI d)] m1 Q := by
    intro m1 Q s1 F1 r1 qa qb
    refine en_RF_pledge g ⟨s1.k 145 rfl, fun m2 em => ?_⟩
    have r2 : LR g y r A m2 := by rw [em]; exact r1.t0 F1 (by omega) 0
    have s2 : Sg g m2 := by rw [em]; exact s1
    rw [← em] at qa qb
    clear em
    refine c_isFullR g s2 r2 hr h4 (fun hw => absurd hw nw) (fun i' hi' e q => ?_) (fun i' hi' e q => ?_)
    · obtain rfl := same hi' e
      rw [hs2] at q
      exact absurd ((sk_0 hs1).1.1 q) c1
    rw [if_neg (by decide)]
    refine c_in g ?_
    rw [e1, if_neg c3]
    refine ⟨gz g + 175, s2.r 145 40 rfl, s2.k 175 rfl, by rw [s2.n 175 rfl]; exact vp_in_nI (N := 800) (by omega) (by omega), ?_⟩
    rw [nI_clamp (show i < 2 ^ 31 by omega), (r2.rc hi).1, hh1, if_neg (by rw [show (12 : Int32) = nI 12 from rfl, nI_leI (by omega) (by omega)]; exact c2)]
    refine c_in g ?_
    rw [e2, if_neg c4]
    -- from the rank on
    have go : ∀ k, k < 2 → (k = 0 ↔ mI A 12 (2 * i) = -1) → At g M_RF_pledge (lv + 5) 65 [(0, va_rf (some (gz g + 145))), (1, .int (nI i)), (2, .int (nI b)), (3, .int (nI d))] [.int (nI k)] m2 (QJ Q) := by
      intro k hk hk0
      have l103 : mI A 12 (2 * i + 1) = -1 → ¬ (¬ mI A 12 (2 * i) = -1 ∧ mI A 12 (2 * i) = nI b) → At g M_RF_pledge (lv + 5) 103 [(0, va_rf (some (gz g + 145))), (1, .int (nI i)), (2, .int (nI b)), (3, .int (nI d)), (4, .int (nI k))] [] m2 (QJ Q) := by
        intro y1 y2
        obtain ⟨za, zb⟩ := qb y1 y2 k hk hk0
        refine bk_RF_pledge_103 g ⟨s2.k 145 rfl, gz g + 176, s2.r 145 41 rfl, s2.k 176 rfl, by rw [s2.n 176 rfl]; exact vp_in_nI (N := 800) (by omega) (by omega), gz g + 167, s2.r 145 32 rfl, s2.k 167 rfl, by rw [s2.n 167 rfl]; exact vp_in_nI (n := 0) (N := 2) (by omega) (by omega), gz g + 150, s2.r 145 12 rfl, s2.k 150 rfl, by rw [s2.n 150 rfl]; exact vp_in_nI (N := 3) (by omega) (by omega), ?_⟩
        rw [z0, nI_clamp (show i < 2 ^ 31 by omega), nI_clamp (show b < 2 ^ 31 by omega), (r2.rc hi).2.1, r2.pr, (r2.bk hb).1]
        have fin : ∀ vv, vv = lN v → At g M_RF_pledge (lv + 5) 146 [(0, va_rf (some (gz g + 145))), (1, .int (nI i)), (2, .int (nI b)), (3, .int (nI d)), (4, .int (nI k)), (5, .long vv)] [] m2 (QJ Q) := by
          intro vv ev
          subst ev
          exact l_RFpledge146 g s2 r2 h12 h4 hi hk hb hh1 hhn (nI d) (lN v) (fun q0 => za (lv2.1 q0)) (fun q0 => zb (fun e => q0 (lv2.2 e)))
        unfold offA offL at hv2
        rcases (show k = 0 ∨ k = 1 by omega) with rfl | rfl
        · rw [if_neg (by decide)]
          refine fin _ ?_
          rw [if_pos (hk0.1 rfl)] at hv2
          exact hv2
        · rw [if_pos (show nI 1 = 1 from rfl)]
          refine fin _ ?_
          rw [if_neg (fun q => absurd (hk0.2 q) (by omega))] at hv2
          exact hv2
      refine bk_RF_pledge_65 g ⟨s2.k 145 rfl, gz g + 179, s2.r 145 44 rfl, s2.k 179 rfl, ?_⟩
      rw [ix2s, ix2, nI_clamp (show 2 * i + 1 < 2 ^ 31 by omega), nI_clamp (show 2 * i < 2 ^ 31 by omega), (r2.2 (2 * i + 1) (by omega)).1, (r2.2 (2 * i) (by omega)).1]
      refine ⟨by rw [s2.n 179 rfl]; exact vp_in_nI (N := 800) (by omega) (by omega), ?_⟩
      by_cases y1 : mI A 12 (2 * i + 1) = -1
      · rw [if_pos y1]
        rcases (show k = 0 ∨ k = 1 by omega) with rfl | rfl
        · rw [if_neg (by decide)]
          exact l103 y1 (fun q => q.1 (hk0.1 rfl))
        · rw [if_pos (show nI 1 = 1 from rfl)]
          refine ⟨by rw [s2.n 179 rfl]; exact vp_in_nI (N := 800) (by omega) (by omega), ?_⟩
          have y0 : ¬ mI A 12 (2 * i) = -1 := fun q => absurd (hk0.2 q) (by omega)
          by_cases y2 : mI A 12 (2 * i) = nI b
          · rw [if_pos y2]; exact qa (Or.inr ⟨y0, y2⟩)
          · rw [if_neg y2]; exact l103 y1 (fun q => y2 q.2)
      · rw [if_neg y1]; exact qa (Or.inl y1)
    refine c_isPledgedR g s2 r2 h4 hi (fun hbb => ?_) (fun hbb => ?_)
    · rw [if_pos rfl]; exact go 0 (by omega) ⟨fun _ => hbb, fun _ => rfl⟩
    · rw [if_neg (by decide)]; exact go 1 (by omega) ⟨fun q => absurd q (by omega), fun q => absurd q hbb⟩
  refine ⟨pa i, rfl, (hC.2.2.1.1 i hi).2.1, ?_⟩
  have l0 := hC.ln hi
  rcases l0.2 with ⟨n4, a4⟩ | ⟨q4, b4, n4, -, -, -, x3, x4, -⟩
  rotate_left
  · rw [if_neg (by rw [n4]; simp)]
    exact ref m _ hS hF hR (fun _ => ⟨rfl, t1, F0, Or.inl ⟨hC0, hR0⟩⟩) (fun q => absurd q (by rw [x4]; exact nI_ne_m1 (by omega)))
  rw [if_pos n4]
  -- what the class does once the receipt may be pledged
  have cls : ∀ k, k < 2 → (k = 0 ↔ mI A 12 (2 * i) = -1) → ¬ (¬ mI A 12 (2 * i) = -1 ∧ mI A 12 (2 * i) = nI b) → At g M_SL_pledge (lv + 5) 103 [(0, va_rf (some (gz g))), (2, .int (nI b)), (3, .int (nI d)), (4, va_rf (some (pa i)))] [] m (QJ (fun r1 m1 => CJ g M_RF_pledge (lv + 5) (va_rf (some (gz g + 145)) :: [.int (nI i), .int (nI b), .int (nI d)]) m1 (fun r2 m2 => r1 = r2 ∧ Fs g (PPy g pa r WPl) 1 m m2 ∧ Fr g m2 ∧ ((LC g pa y r A m2 ∧ LR g y r A m2) ∨ ∃ (i k b h d : Nat) (v : Int64), (∃ w : Nat, w < 2 ^ 53 ∧ v = lN w) ∧ i < r ∧ k < 2 ∧ b < 3 ∧ h < n ∧ 1 ≤ d ∧ d ≤ 9 ∧ mI A 9 i = nI h ∧ (k = 0 → mI A 12 (2 * i) = -1) ∧ (k = 1 → ¬ mI A 12 (2 * i) = -1 ∧ ¬ mI A 12 (2 * i) = nI b) ∧ mI A 12 (2 * i + 1) = -1 ∧ LC g pa y r (pledA A i k b h (mI A 0 1 + nI d) v) m2 ∧ LR g y r (pledA A i k b h (mI A 0 1 + nI d) v) m2)))) := by
    intro k hk hk0 hno
    refine bk_SL_pledge_103 g ⟨hS.k 0 rfl, gz g + 2, hS.r 0 1 rfl, hS.k 2 rfl, ?_⟩
    obtain ⟨b4, b5⟩ := (sh_tb (t := 2) (Or.inl rfl)).2 b hb
    refine en_Land_offer g ⟨pa i, rfl, (hC.2.2.1.1 i hi).2.1, hS.k 2 rfl, gz g + 4, hS.r 2 2 rfl, hS.k 4 rfl, by rw [hS.n 4 rfl]; exact vp_in_nI (N := 3) (by omega) (by omega), gz g + (2 + 60 + b), by rw [nI_clamp (by omega)]; exact hS.r 4 b b4, hS.k (2 + 60 + b) b5 (by omega), ?_⟩
    rw [(hC.rc hi).2.1, hC.pr, (hC.bk hb).1, hC.yr]
    have fin : ∀ vv, vv = lN v → (if (0 : Int64) < vv then CV g M_Land_lend (lv + 4) [va_rf (some (gz g + 2)), va_rf (some (pa i)), .int (nI b), .long vv, .int (mI A 0 1 + nI d)] m (fun m12 => CJ g M_RF_pledge (lv + 5) (va_rf (some (gz g + 145)) :: [.int (nI i), .int (nI b), .int (nI d)]) m12 (fun r2 m2 => vv = r2 ∧ Fs g (PPy g pa r WPl) 1 m m2 ∧ Fr g m2 ∧ ((LC g pa y r A m2 ∧ LR g y r A m2) ∨ ∃ (i k b h d : Nat) (v : Int64), (∃ w : Nat, w < 2 ^ 53 ∧ v = lN w) ∧ i < r ∧ k < 2 ∧ b < 3 ∧ h < n ∧ 1 ≤ d ∧ d ≤ 9 ∧ mI A 9 i = nI h ∧ (k = 0 → mI A 12 (2 * i) = -1) ∧ (k = 1 → ¬ mI A 12 (2 * i) = -1 ∧ ¬ mI A 12 (2 * i) = nI b) ∧ mI A 12 (2 * i + 1) = -1 ∧ LC g pa y r (pledA A i k b h (mI A 0 1 + nI d) v) m2 ∧ LR g y r (pledA A i k b h (mI A 0 1 + nI d) v) m2))) else CJ g M_RF_pledge (lv + 5) (va_rf (some (gz g + 145)) :: [.int (nI i), .int (nI b), .int (nI d)]) m (fun r2 m2 => -8 = r2 ∧ Fs g (PPy g pa r WPl) 1 m m2 ∧ Fr g m2 ∧ ((LC g pa y r A m2 ∧ LR g y r A m2) ∨ ∃ (i k b h d : Nat) (v : Int64), (∃ w : Nat, w < 2 ^ 53 ∧ v = lN w) ∧ i < r ∧ k < 2 ∧ b < 3 ∧ h < n ∧ 1 ≤ d ∧ d ≤ 9 ∧ mI A 9 i = nI h ∧ (k = 0 → mI A 12 (2 * i) = -1) ∧ (k = 1 → ¬ mI A 12 (2 * i) = -1 ∧ ¬ mI A 12 (2 * i) = nI b) ∧ mI A 12 (2 * i + 1) = -1 ∧ LC g pa y r (pledA A i k b h (mI A 0 1 + nI d) v) m2 ∧ LR g y r (pledA A i k b h (mI A 0 1 + nI d) v) m2))) := by
      intro vv ev
      subst ev
      by_cases hv : v = 0
      · rw [if_neg (fun q => lv1.1 q hv)]
        exact ref m _ hS hF hR (fun q => absurd q (fun q => q.elim (fun q => q a4) hno)) (fun _ _ k' _ _ => ⟨fun _ => ⟨rfl, t1, F0, Or.inl ⟨hC0, hR0⟩⟩, fun q => absurd hv q⟩)
      · rw [if_pos (lv1.2 hv)]
        refine c_lend g hS hF hC hn h12 hi hk (fun q => hk0.1 q) (fun q q2 => absurd (hk0.2 q2) (by omega)) hb hh1 hhn (lN v) (mI A 0 1 + nI d) (fun m1 C1 f1 F1 S1 => ?_)
        have r1 : LR g y r A m1 := hR.keepS hF f1 (fun a j _ q => by
          rcases q with q | ⟨k', hk', rfl⟩
          · omega
          · exact Or.inr (hC.2.1.2 k' hk'))
        refine ref m1 _ S1 F1 r1 (fun q => absurd q (fun q => q.elim (fun q => q a4) hno)) (fun _ _ k' hk' hk0' => ⟨fun q => absurd q hv, fun _ m' R' S' => ?_⟩)
        obtain rfl : k = k' := by
          rcases (show k = 0 ∨ k = 1 by omega) with rfl | rfl
          · exact (hk0'.2 (hk0.1 rfl)).symm
          · rcases (show k' = 0 ∨ k' = 1 by omega) with rfl | rfl
            · exact absurd (hk0.2 (hk0'.1 rfl)) (by omega)
            · rfl
        refine ⟨rfl, ?_, S'.fr (show Fr g (sI m1 (gz g + 145) 0 0) from F1), Or.inr ⟨i, k, b, h, d, lN v, ⟨v, hv1, rfl⟩, hi, hk, hb, hhn, hd1, hd9, hh1, fun q => hk0.1 q, fun q => ⟨fun q2 => absurd (hk0.2 q2) (by omega), fun q2 => hno ⟨fun q3 => absurd (hk0.2 q3) (by omega), q2⟩⟩, a4, ?_, R'⟩⟩
        · exact (((f1.weak (P2 := PPy g pa r WPl) (fun a j _ z => Or.inl z) (Nat.le_refl _)).trans (t0 m1) (fun _ _ _ z => z)).trans S'.fs (fun a j _ z => Or.inr (Or.inl z))).weak (fun _ _ _ z => z) (by omega)
        · exact (C1.t0 F1 0 0).keepS (m := sI m1 (gz g + 145) 0 0) F1 S'.fs (fun a j _ z => by
            obtain ⟨w, hw, rfl⟩ := z
            have : 145 ≤ w ∧ w < 184 := (by decide : ∀ w, w ∈ WPl → 145 ≤ w ∧ w < 184) w hw
            omega)
    unfold offA offL at hv2
    rcases l0.1 with ⟨n3, a3⟩ | ⟨q3, b3, n3, -, -, -, x3, x4, -⟩
    · rw [if_pos n3]
      rw [if_pos a3] at hv2
      exact fin _ hv2
    · rw [if_neg (by rw [n3]; simp)]
      rw [if_neg (by rw [x4]; exact nI_ne_m1 (by omega))] at hv2
      exact fin _ hv2
  rcases l0.1 with ⟨n3, a3⟩ | ⟨q3, b3, n3, k6, -, -, x3, x4, x0, -⟩
  · rw [if_pos n3]
    exact cls 0 (by omega) ⟨fun _ => a3, fun _ => rfl⟩ (fun q => q.1 a3)
  · have nb : ¬ mI A 12 (2 * i) = -1 := by rw [x4]; exact nI_ne_m1 (by omega)
    rw [if_neg (by rw [n3]; simp)]
    refine ⟨q3, n3, k6, ?_⟩
    rw [x0]
    by_cases y2 : mI A 12 (2 * i) = nI b
    · rw [if_pos y2]
      exact ref m _ hS hF hR (fun _ => ⟨rfl, t1, F0, Or.inl ⟨hC0, hR0⟩⟩) (fun _ q => absurd ⟨nb, y2⟩ q)
    · rw [if_neg y2]
      exact cls 1 (by omega) ⟨fun q => absurd q (by omega), fun q => absurd q nb⟩ (fun q => y2 q.2)
