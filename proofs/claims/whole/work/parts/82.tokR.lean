/-! ===== the reference reads a token ===== -/
theorem bk_RF_next_0 (g : Gc) {lv : Nat} {t : Nat} {m : Mm} {Q : Mm → Prop} (h : mK m t = 13 ∧ (if (mI m t 49) ≤ (mI m t 50) then (At g M_RF_next (lv + 1) 50 [(0, va_rf (some t))] [] m (QV Q)) else (CI g M_RF_at lv [va_rf (some t), .int (mI m t 50)] m (fun x3 m4 => (if (x3) = ((32 : Int32)) then (∀ m8, m8 = sI m4 t 50 ((mI m4 t 50) + (1 : Int32)) → (At g M_RF_next (lv + 1) 0 [(0, va_rf (some t))] [] m8 (QV Q))) else (CI g M_RF_at lv [va_rf (some t), .int (mI m4 t 50)] m4 (fun x12 m13 => (if (x12) = ((10 : Int32)) then (∀ m17, m17 = sI m13 t 50 ((mI m13 t 50) + (1 : Int32)) → (At g M_RF_next (lv + 1) 0 [(0, va_rf (some t))] [] m17 (QV Q))) else (At g M_RF_next (lv + 1) 50 [(0, va_rf (some t))] [] m13 (QV Q)))))))))) : At g M_RF_next (lv + 1) 0 [(0, va_rf (some t))] [] m (QV Q) := by
  refine at_aload_n (i := 0) 0 1 rfl (by decide +kernel) rfl ?_
  obtain ⟨k1, h⟩ := h
  refine at_get (index := 197) (v := .int (mI m t 50)) cok12 50 4 rfl (by decide +kernel) k1 (by decide +kernel) tw_1135 rfl ?_
  refine at_aload_n (i := 0) 0 5 rfl (by decide +kernel) rfl ?_
  refine at_get (index := 191) (v := .int (mI m t 49)) cok12 49 8 rfl (by decide +kernel) k1 (by decide +kernel) tw_1134 rfl ?_
  refine at_icmp_ge (off := 42) 50 11 rfl (by decide +kernel) (by decide +kernel) (fun c2 => ?_) (fun c2 => ?_)
  · rw [if_pos c2] at h
    exact h
  · rw [if_neg c2] at h
    refine at_aload_n (i := 0) 0 12 rfl (by decide +kernel) rfl ?_
    refine at_aload_n (i := 0) 0 13 rfl (by decide +kernel) rfl ?_
    refine at_get (index := 197) (v := .int (mI m t 50)) cok12 50 16 rfl (by decide +kernel) k1 (by decide +kernel) tw_1135 rfl ?_
    refine at_callV mb_RF_at tw_1356 tw_35 cok12 k1 (index := 200) tw_1354 [.int (mI m t 50)] [] rfl rfl (by decide) 19 rfl (by decide +kernel) (Call.toI (CI.monoE h (fun x3 m4 h y5 => ?_)))
    have k6 : mK m4 t = 13 := y5.k k1 (by decide)
    refine at_bipush (n := 32) (32 : Int32) 21 rfl (by decide +kernel) (by decide +kernel) ?_
    refine at_icmp_eq (off := 16) 37 24 rfl (by decide +kernel) (by decide +kernel) (fun c7 => ?_) (fun c7 => ?_)
    · rw [if_pos c7] at h
      refine at_aload_n (i := 0) 0 38 rfl (by decide +kernel) rfl ?_
      refine at_dup 39 rfl (by decide +kernel) (va_rf_cat _) ?_
      refine at_get (index := 197) (v := .int (mI m4 t 50)) cok12 50 42 rfl (by decide +kernel) k6 (by decide +kernel) tw_1135 rfl ?_
      refine at_iconst (n := 1) (1 : Int32) 43 rfl (by decide +kernel) (by decide +kernel) ?_
      refine at_iadd 44 rfl (by decide +kernel) ?_
      refine at_putI (index := 197) cok12 50 47 rfl (by decide +kernel) k6 (by decide +kernel) tw_1135 rfl rfl rfl (fun m8 e9 => ?_)
      replace h := h m8 e9
      have x10 : Ext m4 m8 := by rw [e9]; exact Ext.sI _ _ _ _
      have k11 : mK m8 t = 13 := x10.k k6 (by decide)
      refine at_goto (off := (-47)) 0 (by decide +kernel) (by decide +kernel) ?_
      exact h
    · rw [if_neg c7] at h
      refine at_aload_n (i := 0) 0 25 rfl (by decide +kernel) rfl ?_
      refine at_aload_n (i := 0) 0 26 rfl (by decide +kernel) rfl ?_
      refine at_get (index := 197) (v := .int (mI m4 t 50)) cok12 50 29 rfl (by decide +kernel) k6 (by decide +kernel) tw_1135 rfl ?_
      refine at_callV mb_RF_at tw_1356 tw_35 cok12 k6 (index := 200) tw_1354 [.int (mI m4 t 50)] [] rfl rfl (by decide) 32 rfl (by decide +kernel) (Call.toI (CI.monoE h (fun x12 m13 h y14 => ?_)))
      have k15 : mK m13 t = 13 := y14.k k6 (by decide)
      refine at_bipush (n := 10) (10 : Int32) 34 rfl (by decide +kernel) (by decide +kernel) ?_
      refine at_icmp_ne (off := 16) 50 37 rfl (by decide +kernel) (by decide +kernel) (fun c16 => ?_) (fun c16 => ?_)
      · rw [if_neg c16] at h
        exact h
      · rw [if_pos c16] at h
        refine at_aload_n (i := 0) 0 38 rfl (by decide +kernel) rfl ?_
        refine at_dup 39 rfl (by decide +kernel) (va_rf_cat _) ?_
        refine at_get (index := 197) (v := .int (mI m13 t 50)) cok12 50 42 rfl (by decide +kernel) k15 (by decide +kernel) tw_1135 rfl ?_
        refine at_iconst (n := 1) (1 : Int32) 43 rfl (by decide +kernel) (by decide +kernel) ?_
        refine at_iadd 44 rfl (by decide +kernel) ?_
        refine at_putI (index := 197) cok12 50 47 rfl (by decide +kernel) k15 (by decide +kernel) tw_1135 rfl rfl rfl (fun m17 e18 => ?_)
        replace h := h m17 e18
        have x19 : Ext m13 m17 := by rw [e18]; exact Ext.sI _ _ _ _
        have k20 : mK m17 t = 13 := x19.k k15 (by decide)
        refine at_goto (off := (-47)) 0 (by decide +kernel) (by decide +kernel) ?_
        exact h
set_option maxRecDepth 20000 in
set_option maxHeartbeats 4000000 in
def RTx (g : Gc) (tx : Nat → Int32) (L base : Nat) (m : Mm) : Prop := L ≤ 300 ∧ base ≤ 9000 ∧ mI m (gz g + 145) 48 = nI base ∧ mI m (gz g + 145) 49 = nI L ∧ ∀ j, j < L → mI m (gz g + 153) (base + j) = tx j
def PN (g : Gc) (a j : Nat) : Prop := a = gz g + 145 ∧ (50 ≤ j ∧ j ≤ 55)
theorem RTx.st {g : Gc} {tx : Nat → Int32} {L base : Nat} {P : Nat → Nat → Prop} {m m' : Mm} (h : RTx g tx L base m) (s : St P m m') (h48 : ¬ P (gz g + 145) 48) (h49 : ¬ P (gz g + 145) 49) (h153 : ∀ j, ¬ P (gz g + 153) j) : RTx g tx L base m' := ⟨h.1, h.2.1, (s.2 _ _ h48).1.trans h.2.2.1, (s.2 _ _ h49).1.trans h.2.2.2.1, fun j hj => (s.2 _ _ (h153 _)).1.trans (h.2.2.2.2 j hj)⟩
theorem RTx.pn {g : Gc} {tx : Nat → Int32} {L base : Nat} {m m' : Mm} (h : RTx g tx L base m) (s : St (PN g) m m') : RTx g tx L base m' := h.st s (by unfold PN; omega) (by unfold PN; omega) (fun j => by unfold PN; omega)
def txz (tx : Nat → Int32) (L j : Nat) : Int32 := if j < L then tx j else 0
theorem c_atR (g : Gc) {lv L base j : Nat} {tx : Nat → Int32} {m : Mm} (S : Sg g m) (X : RTx g tx L base m) (hj : j < 2 ^ 30) {Q : Int32 → Mm → Prop} (hQ : Q (txz tx L j) m) : CI g M_RF_at (lv + 1) [va_rf (some (gz g + 145)), .int (nI j)] m Q := by
  obtain ⟨hL, hb, h48, h49, hx⟩ := X
  refine en_RF_at g ⟨S.k 145 rfl, ?_⟩
  rw [h49, h48]
  unfold txz at hQ
  by_cases h : j < L
  · rw [if_pos h] at hQ
    rw [if_neg (nI_ge (by omega) (by omega)), nI_add, nI_clamp (show base + j < 2 ^ 31 by omega)]
    refine ⟨gz g + 153, S.r 145 17 rfl, S.k 153 rfl, by rw [S.n 153 rfl]; exact vp_in_nI (N := 9300) (by omega) (by omega), ?_⟩
    rw [hx j h]
    exact hQ
  · rw [if_neg h] at hQ
    rw [if_pos (nI_le (by omega) (by omega))]
    exact hQ
theorem c_isLetR (g : Gc) {lv : Nat} {x : Int32} {m : Mm} {Q : Int32 → Mm → Prop} (hQ : Q (pL x) m) : CI g M_RF_isLetter (lv + 1) [.int x] m Q := by
  refine en_RF_isLetter g ?_
  unfold pL wi at hQ
  by_cases h1 : x < 97
  · rw [if_pos h1] at hQ ⊢; exact hQ
  rw [if_neg h1] at hQ ⊢
  by_cases h2 : 122 < x
  · rw [if_pos h2] at hQ ⊢; exact hQ
  rw [if_neg h2] at hQ ⊢; exact hQ
theorem c_isDigR (g : Gc) {lv : Nat} {x : Int32} {m : Mm} {Q : Int32 → Mm → Prop} (hQ : Q (pD x) m) : CI g M_RF_isDigit (lv + 1) [.int x] m Q := by
  refine en_RF_isDigit g ?_
  unfold pD wi at hQ
  by_cases h1 : x < 48
  · rw [if_pos h1] at hQ ⊢; exact hQ
  rw [if_neg h1] at hQ ⊢
  by_cases h2 : 57 < x
  · rw [if_pos h2] at hQ ⊢; exact hQ
  rw [if_neg h2] at hQ ⊢; exact hQ
def enT (tx : Nat → Int32) (L k : Nat) : Nat := if sTk tx L k < L then stp tx L (sTk tx L k) else L
def srP (tx : Nat → Int32) (s e : Nat) : Int32 := if ¬ pL (tx s) = 0 then 1 else if ¬ pD (tx s) = 0 then (if numV tx s (e - s) ≤ 999999 then 2 else 4) else if sgn (tx s) = 1 then 4 else 3
def srT (tx : Nat → Int32) (L k : Nat) : Int32 := if sTk tx L k < L then srP tx (sTk tx L k) (stp tx L (sTk tx L k)) else 0
def RAt (g : Gc) (tx : Nat → Int32) (L k : Nat) (m : Mm) : Prop := mI m (gz g + 145) 51 = nI (sTk tx L k) ∧ mI m (gz g + 145) 50 = nI (enT tx L k) ∧ mI m (gz g + 145) 52 = srT tx L k ∧ (srT tx L k = 2 → mL m (gz g + 145) 54 = (vlT tx L k).toInt64)
theorem RAt.same {g : Gc} {tx : Nat → Int32} {L k : Nat} {m m' : Mm} (h : RAt g tx L k m) (h1 : mI m' (gz g + 145) 51 = mI m (gz g + 145) 51) (h2 : mI m' (gz g + 145) 50 = mI m (gz g + 145) 50) (h3 : mI m' (gz g + 145) 52 = mI m (gz g + 145) 52) (h4 : mL m' (gz g + 145) 54 = mL m (gz g + 145) 54) : RAt g tx L k m' := ⟨h1.trans h.1, h2.trans h.2.1, h3.trans h.2.2.1, fun q => h4.trans (h.2.2.2 q)⟩
def PN5 (g : Gc) (a j : Nat) : Prop := a = gz g + 145 ∧ (j = 50 ∨ j = 51 ∨ j = 52 ∨ j = 54)
theorem PN5.n {g : Gc} {a j : Nat} (h : PN5 g a j) : PN g a j := ⟨h.1, by have := h.2; omega⟩
theorem RTx.p5 {g : Gc} {tx : Nat → Int32} {L base : Nat} {m m' : Mm} (h : RTx g tx L base m) (s : St (PN5 g) m m') : RTx g tx L base m' := h.pn (s.weak (fun _ _ q => q.n))
theorem l_next98 (g : Gc) {lv L base : Nat} {tx : Nat → Int32} {Q : Mm → Prop} : ∀ n i m, L - i ≤ n → i ≤ L → Sg g m → RTx g tx L base m → mI m (gz g + 145) 50 = nI i → (∀ m', St (PN5 g) m m' → mI m' (gz g + 145) 50 = nI (rn pL tx L i) → (∀ j, j ≠ 50 → mI m' (gz g + 145) j = mI m (gz g + 145) j) → mL m' = mL m → Q m') → At g M_RF_next (lv + 2) 98 [(0, va_rf (some (gz g + 145)))] [] m (QV Q) := by
  intro n
  induction n with
  | zero =>
    intro i m h1 h2 S X h50 hQ
    have hL := X.1
    refine bk_RF_next_98 g ⟨S.k 145 rfl, ?_⟩
    rw [h50]
    refine c_atR g S X (by omega) (c_isLetR g ?_)
    rw [if_pos (by unfold txz; rw [if_neg (by omega)]; decide)]
    exact hQ m (St.refl _ _) (by rw [rn_no hL (Or.inl (by omega))]; exact h50) (fun _ _ => rfl) rfl
  | succ n ih =>
    intro i m h1 h2 S X h50 hQ
    have hL := X.1
    refine bk_RF_next_98 g ⟨S.k 145 rfl, ?_⟩
    rw [h50]
    refine c_atR g S X (by omega) (c_isLetR g ?_)
    by_cases hp : pL (txz tx L i) = 0
    · rw [if_pos hp]
      refine hQ m (St.refl _ _) ?_ (fun _ _ => rfl) rfl
      rw [rn_no hL ?_]
      · exact h50
      · by_cases hi : i < L
        · unfold txz at hp; rw [if_pos hi] at hp; exact Or.inr hp
        · exact Or.inl (by omega)
    · rw [if_neg hp]
      have hi : i < L := by
        rcases Nat.lt_or_ge i L with q | q
        · exact q
        · unfold txz at hp; rw [if_neg (by omega)] at hp; exact absurd (by decide) hp
      unfold txz at hp
      rw [if_pos hi] at hp
      intro m1 e1
      rw [h50, nI_s] at e1
      have s1 : St (PN5 g) m m1 := by rw [e1]; exact St_sI m (by unfold PN5; omega) _
      refine ih (i + 1) m1 (by omega) (by omega) (s1.sg S) (X.p5 s1) (by rw [e1, mI_sI, up2_at]) (fun m' s' a' b' c' => hQ m' (s1.trans s') (by rw [rn_go hL hi hp]; exact a') (fun j hj => by rw [b' j hj, e1, mI_sI, up2_sl hj]) (by rw [c', e1, mL_sI]))
/-- the reference's number against the class's -/
def NmR (v : Int32) (x : Int64) : Prop := ∃ a : Nat, a ≤ 1000000 ∧ v = nI a ∧ ((a ≤ 999999 ∧ x = v.toInt64) ∨ (a = 1000000 ∧ (1000000 : Int64) ≤ x))
theorem nm_small {a : Nat} (h : a ≤ 99999999) : (nI a).toInt64.toInt = (a : Int) := by rw [Int32.toInt_toInt64, nI_toInt (by omega)]
theorem lN_of {a : Nat} (h : a ≤ 99999999) : (nI a).toInt64 = Int64.ofNat a := by
  apply Int64.toInt_inj.mp
  rw [nm_small h, Int64.toInt_ofNat_of_lt (by omega)]
theorem nm_step {v y : Int32} {x : Int64} (h : NmR v x) (hy : ¬ pD y = 0) : ((1000000 : Int64) ≤ x → NmR (imn 1000000 (((v * 10) + y) - 48)) 1000000) ∧ (¬ (1000000 : Int64) ≤ x → NmR (imn 1000000 (((v * 10) + y) - 48)) ((((10 : Int64) * x) + y.toInt64) - 48)) := by
  obtain ⟨a, ha, rfl, h2⟩ := h
  obtain ⟨j, j1, j2, rfl⟩ := wi_cases (a := 48) (c := 57) (by omega) (by omega) hy
  have e1 : nI a * 10 + nI j - 48 = nI (10 * a + (j - 48)) := by
    rw [show (10 : Int32) = nI 10 from rfl, pk_mul, nI_add, show (48 : Int32) = nI 48 from rfl, nI_sub (by omega) (by omega)]
    congr 1
    omega
  have m6 : (1000000 : Int32) = nI 1000000 := rfl
  have t6 : (1000000 : Int64).toInt = 1000000 := rfl
  rw [e1, m6]
  have big : ∀ b : Nat, 1000000 ≤ b → b < 2 ^ 31 → imn (nI 1000000) (nI b) = nI 1000000 := fun b hb hb2 => by
    unfold imn; rw [if_neg (nI_nlt hb (by omega))]
  have sml : ∀ b : Nat, b ≤ 999999 → imn (nI 1000000) (nI b) = nI b := fun b hb => by
    unfold imn; rw [if_pos (nI_lt (by omega) (by omega))]
  refine ⟨fun hx => ?_, fun hx => ?_⟩
  · have a6 : a = 1000000 := by
      rcases h2 with ⟨q1, q2⟩ | ⟨q1, q2⟩
      · rw [q2, Int64.le_iff_toInt_le, nm_small (by omega), t6] at hx; omega
      · exact q1
    rw [big _ (by omega) (by omega)]
    exact ⟨1000000, by omega, rfl, Or.inr ⟨rfl, by decide⟩⟩
  · have a9 : a ≤ 999999 ∧ x = (nI a).toInt64 := by
      rcases h2 with q | ⟨q1, q2⟩
      · exact q
      · exact absurd q2 hx
    obtain ⟨q1, q2⟩ := a9
    have vx : (10 : Int64) * x + (nI j).toInt64 - 48 = (nI (10 * a + (j - 48))).toInt64 := by
      rw [q2, lN_of (by omega), lN_of (by omega), lN_of (by omega)]
      apply Int64.toInt_inj.mp
      rw [Int64.toInt_sub, Int64.toInt_add, Int64.toInt_mul, Int64.toInt_ofNat_of_lt (by omega), Int64.toInt_ofNat_of_lt (by omega), Int64.toInt_ofNat_of_lt (by omega)]
      have z1 : (10 : Int64).toInt = 10 := rfl
      have z2 : (48 : Int64).toInt = 48 := rfl
      rw [z1, z2]
      have b1 : ((10 : Int) * (a : Int)).bmod (2 ^ 64) = 10 * (a : Int) := Int.bmod_eq_of_le (by omega) (by omega)
      rw [b1]
      have b2 : (10 * (a : Int) + (j : Int)).bmod (2 ^ 64) = 10 * (a : Int) + (j : Int) := Int.bmod_eq_of_le (by omega) (by omega)
      rw [b2]
      have b3 : (10 * (a : Int) + (j : Int) - 48).bmod (2 ^ 64) = 10 * (a : Int) + (j : Int) - 48 := Int.bmod_eq_of_le (by omega) (by omega)
      rw [b3]
      omega
    rw [vx]
    by_cases hs : 10 * a + (j - 48) ≤ 999999
    · rw [sml _ hs]
      exact ⟨_, by omega, rfl, Or.inl ⟨hs, rfl⟩⟩
    · rw [big _ (by omega) (by omega)]
      refine ⟨1000000, by omega, rfl, Or.inr ⟨rfl, ?_⟩⟩
      rw [Int64.le_iff_toInt_le, nm_small (by omega), t6]
      omega
theorem l_next142 (g : Gc) {lv L base s : Nat} {tx : Nat → Int32} {Q : Mm → Prop} (hs : s ≤ L) : ∀ n c m, L - (s + c) ≤ n → s + c ≤ L → Sg g m → RTx g tx L base m → mI m (gz g + 145) 50 = nI (s + c) → mI m (gz g + 145) 52 = 2 → NmR (numV tx s c) (mL m (gz g + 145) 54) → (∀ m', St (PN5 g) m m' → mI m' (gz g + 145) 50 = nI (rn pD tx L (s + c)) → mI m' (gz g + 145) 51 = mI m (gz g + 145) 51 → mI m' (gz g + 145) 52 = (if numV tx s (rn pD tx L (s + c) - s) ≤ 999999 then 2 else 4) → (numV tx s (rn pD tx L (s + c) - s) ≤ 999999 → mL m' (gz g + 145) 54 = (numV tx s (rn pD tx L (s + c) - s)).toInt64) → Q m') → At g M_RF_next (lv + 2) 142 [(0, va_rf (some (gz g + 145)))] [] m (QV Q) := by
  have fin : ∀ c m, s + c ≤ L → L ≤ 300 → rn pD tx L (s + c) = s + c → mI m (gz g + 145) 50 = nI (s + c) → mI m (gz g + 145) 52 = 2 → NmR (numV tx s c) (mL m (gz g + 145) 54) → (∀ m', St (PN5 g) m m' → mI m' (gz g + 145) 50 = nI (rn pD tx L (s + c)) → mI m' (gz g + 145) 51 = mI m (gz g + 145) 51 → mI m' (gz g + 145) 52 = (if numV tx s (rn pD tx L (s + c) - s) ≤ 999999 then 2 else 4) → (numV tx s (rn pD tx L (s + c) - s) ≤ 999999 → mL m' (gz g + 145) 54 = (numV tx s (rn pD tx L (s + c) - s)).toInt64) → Q m') → (if mL m (gz g + 145) 54 < (1000000 : Int64) then Q m else ∀ m12, m12 = sI m (gz g + 145) 52 (4 : Int32) → Q m12) := by
    intro c m hc hL hr h50 h52 hn hQ
    rw [hr, show s + c - s = c by omega] at hQ
    obtain ⟨a, ha, hv, h2⟩ := hn
    have le9 : (numV tx s c ≤ 999999) ↔ a ≤ 999999 := by
      rw [hv, show (999999 : Int32) = nI 999999 from rfl]
      constructor
      · intro q
        rcases Nat.lt_or_ge 999999 a with q2 | q2
        · exact absurd q (nI_ge q2 (by omega))
        · exact q2
      · intro q; exact nI_le q (by omega)
    have t6 : (1000000 : Int64).toInt = 1000000 := rfl
    rcases h2 with ⟨q1, q2⟩ | ⟨q1, q2⟩
    · have : mL m (gz g + 145) 54 < (1000000 : Int64) := by
        rw [q2, hv, Int64.lt_iff_toInt_lt, nm_small (by omega), t6]; omega
      rw [if_pos this]
      exact hQ m (St.refl _ _) h50 rfl (by rw [if_pos (le9.mpr q1)]; exact h52) (fun _ => q2)
    · have : ¬ mL m (gz g + 145) 54 < (1000000 : Int64) := by
        rw [Int64.lt_iff_toInt_lt]
        rw [Int64.le_iff_toInt_le] at q2
        omega
      rw [if_neg this]
      intro m1 e1
      have n9 : ¬ numV tx s c ≤ 999999 := fun q => by have := le9.mp q; omega
      exact hQ m1 (by rw [e1]; exact St_sI m (by unfold PN5; omega) _) (by rw [e1, mI_sI, up2_sl (by omega)]; exact h50) (by rw [e1, mI_sI, up2_sl (by omega)]) (by rw [if_neg n9, e1, mI_sI, up2_at]) (fun q => absurd q n9)
  intro n
  induction n with
  | zero =>
    intro c m h1 h2 S X h50 h52 hn hQ
    have hL := X.1
    refine bk_RF_next_142 g ⟨S.k 145 rfl, ?_⟩
    rw [h50]
    refine c_atR g S X (by omega) (c_isDigR g ?_)
    rw [if_pos (by unfold txz; rw [if_neg (by omega)]; decide)]
    exact fin c m h2 hL (rn_no hL (Or.inl (by omega))) h50 h52 hn hQ
  | succ n ih =>
    intro c m h1 h2 S X h50 h52 hn hQ
    have hL := X.1
    refine bk_RF_next_142 g ⟨S.k 145 rfl, ?_⟩
    rw [h50]
    refine c_atR g S X (by omega) (c_isDigR g ?_)
    by_cases hp : pD (txz tx L (s + c)) = 0
    · rw [if_pos hp]
      refine fin c m h2 hL (rn_no hL ?_) h50 h52 hn hQ
      by_cases hi : s + c < L
      · unfold txz at hp; rw [if_pos hi] at hp; exact Or.inr hp
      · exact Or.inl (by omega)
    · rw [if_neg hp]
      have hi : s + c < L := by
        rcases Nat.lt_or_ge (s + c) L with q | q
        · exact q
        · unfold txz at hp; rw [if_neg (by omega)] at hp; exact absurd (by decide) hp
      have hz : txz tx L (s + c) = tx (s + c) := by unfold txz; rw [if_pos hi]
      rw [hz] at hp
      obtain ⟨st1, st2⟩ := nm_step hn hp
      have go : ∀ m1 m2 w, m1 = sL m (gz g + 145) 54 w → m2 = sI m1 (gz g + 145) 50 (mI m1 (gz g + 145) 50 + 1) → NmR (numV tx s (c + 1)) w → At g M_RF_next (lv + 2) 142 [(0, va_rf (some (gz g + 145)))] [] m2 (QV Q) := by
        intro m1 m2 w e1 e2 hw
        have e50 : mI m1 (gz g + 145) 50 = nI (s + c) := by rw [e1, mI_sL]; exact h50
        rw [e50, nI_s] at e2
        have s2 : St (PN5 g) m m2 := by rw [e2, e1]; exact (St_sL m (by unfold PN5; omega) _).trans (St_sI _ (by unfold PN5; omega) _)
        have hrn : rn pD tx L (s + c) = rn pD tx L (s + (c + 1)) := rn_go hL hi hp
        rw [hrn] at hQ
        refine ih (c + 1) m2 (by omega) (by omega) (s2.sg S) (X.p5 s2) (by rw [e2, mI_sI, up2_at]; rfl) (by rw [e2, mI_sI, up2_sl (by omega), e1, mI_sL]; exact h52) (by rw [e2, mL_sI, e1, mL_sL, up2_at]; exact hw) (fun m' s' a' b' c' d' => hQ m' (s2.trans s') a' (by rw [b', e2, mI_sI, up2_sl (by omega), e1, mI_sL]) c' d')
      by_cases hx : (1000000 : Int64) ≤ mL m (gz g + 145) 54
      · rw [if_pos hx]
        exact fun m1 e1 m2 e2 => go m1 m2 _ e1 e2 (st1 hx)
      · rw [if_neg hx]
        rw [h50]
        refine c_atR g S X (by omega) ?_
        rw [hz]
        exact fun m1 e1 m2 e2 => go m1 m2 _ e1 e2 (st2 hx)
