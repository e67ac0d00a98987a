/-! ===== crops ===== -/
def badL (v : Int64) : Prop := v < 0 ∨ 500000 < v
def tellNA (A : Mm) (y : Nat) (f : Nat → Int32) : Nat → Mm
  | 0 => A
  | k + 1 => tellA (tellNA A y f k) y k (f k)
theorem c_numberAt (g : Gc) {lv s j : Nat} {m : Mm} (hS : Sg g m) (hs : s < 4) (hj : j < 60) {Q : Int64 → Mm → Prop} (h : Q (mL m (gz g + 141) (60 * s + j)) m) : CJ g M_Rows_numberAt (lv + 1) [va_rf (some (gz g + 140)), .int (nI s), .int (nI j)] m Q := by
  refine en_Rows_numberAt g ⟨hS.k 140 rfl, gz g + 141, hS.r 140 0 rfl, hS.k 141 rfl, ?_⟩
  rw [idx60, nI_clamp (by omega)]
  exact ⟨by rw [hS.n 141 rfl]; exact vp_in_nI (N := 240) (by omega) (by omega), h⟩
theorem badL_wj (v : Int64) : (wj v 0 500000 = 0 ↔ badL v) := by
  unfold wj badL
  by_cases h1 : v < 0
  · simp [h1]
  · by_cases h2 : 500000 < v
    · simp [h1, h2]
    · simp [h1, h2]
theorem l_SLcrops1 (g : Gc) {lv n s : Nat} {m : Mm} (hS : Sg g m) (h8 : mI m (gz g + 2) 8 = nI n) (h12 : n ≤ 12) (hs : s < 4) {Q : Int32 → Mm → Prop} : ∀ (d k : Nat), k + d = n → ((∃ j, k ≤ j ∧ j < n ∧ badL (mL m (gz g + 141) (60 * s + j))) → Q (-4) m) → ((∀ j, k ≤ j → j < n → ¬ badL (mL m (gz g + 141) (60 * s + j))) → At g M_SL_crops (lv + 3) 96 [(0, va_rf (some (gz g))), (1, .int (nI s)), (2, .int 0)] [] m (QI Q)) → At g M_SL_crops (lv + 3) 50 [(0, va_rf (some (gz g))), (1, .int (nI s)), (2, .int (nI k))] [] m (QI Q) := by
  intro d
  induction d with
  | zero =>
    intro k hk _ h
    obtain rfl : k = n := by omega
    refine bk_SL_crops_50 g ⟨hS.k 0 rfl, gz g + 2, hS.r 0 1 rfl, hS.k 2 rfl, ?_⟩
    rw [h8, if_pos ((le_12 h12 h12).2 (by omega))]
    exact h (fun j a b => absurd b (by omega))
  | succ d ih =>
    intro k hk hb hg
    refine bk_SL_crops_50 g ⟨hS.k 0 rfl, gz g + 2, hS.r 0 1 rfl, hS.k 2 rfl, ?_⟩
    rw [h8, if_neg (fun h => absurd ((le_12 h12 (by omega)).1 h) (by omega))]
    refine ⟨gz g + 140, hS.r 0 6 rfl, hS.k 140 rfl, c_numberAt g hS hs (by omega) ?_⟩
    by_cases h1 : mL m (gz g + 141) (60 * s + k) < 0
    · rw [if_pos h1]; exact hb ⟨k, by omega, by omega, Or.inl h1⟩
    rw [if_neg h1]
    by_cases h2 : mL m (gz g + 141) (60 * s + k) ≤ 500000
    · rw [if_pos h2, nI_s]
      refine ih (k + 1) (by omega) (fun ⟨j, a, b, c⟩ => hb ⟨j, by omega, b, c⟩) (fun q => hg (fun j a b => ?_))
      by_cases hjk : j = k
      · subst hjk
        rintro (c | c)
        · exact h1 c
        · rw [i64_le] at h2; rw [i64_lt] at c; omega
      · exact q j (by omega) b
    · rw [if_neg h2]
      exact hb ⟨k, by omega, by omega, Or.inr (by rw [i64_le] at h2; rw [i64_lt]; omega)⟩
theorem l_SLcrops2 (g : Gc) {lv n s y r : Nat} {A m0 : Mm} {pa : Nat → Nat} {f : Nat → Int32} (hp : PaOK g pa r) (hn : mI A 0 0 = nI n) (h12 : n ≤ 12) (hy : mI A 0 1 = nI y) (h30 : y ≤ 30) (hs : s < 4) (hf : ∀ j, j < n → f j = (mL m0 (gz g + 141) (60 * s + j)).toInt32) {Q : Int32 → Mm → Prop} (hQ : ∀ m', LandC g 2 pa 12 y r (tellNA A y f n) m' → Only g WCc [] m0 m' → Sg g m' → Q (nI n) m') : ∀ (d k : Nat) (m : Mm), k + d = n → LandC g 2 pa 12 y r (tellNA A y f k) m → mI (tellNA A y f k) 0 = mI A 0 → Only g WCc [] m0 m → Sg g m → At g M_SL_crops (lv + 4) 96 [(0, va_rf (some (gz g))), (1, .int (nI s)), (2, .int (nI k))] [] m (QI Q) := by
  intro d
  induction d with
  | zero =>
    intro k m hk hC h0 hO hS
    obtain rfl : k = n := by omega
    have h8 : mI m (gz g + 2) 8 = nI k := (hC.1 0 0 (by show 0 < 7; omega)).trans (by rw [h0]; exact hn)
    refine bk_SL_crops_96 g ⟨hS.k 0 rfl, gz g + 2, hS.r 0 1 rfl, hS.k 2 rfl, ?_⟩
    rw [h8, if_pos ((le_12 h12 h12).2 (by omega))]
    exact hQ m hC hO hS
  | succ d ih =>
    intro k m hk hC h0 hO hS
    have h8 : mI m (gz g + 2) 8 = nI n := (hC.1 0 0 (by show 0 < 7; omega)).trans (by rw [h0]; exact hn)
    have h9 : mI m (gz g + 2) 9 = nI y := (hC.1 0 1 (by show 1 < 7; omega)).trans (by rw [h0]; exact hy)
    refine bk_SL_crops_96 g ⟨hS.k 0 rfl, gz g + 2, hS.r 0 1 rfl, hS.k 2 rfl, ?_⟩
    rw [h8, if_neg (fun h => absurd ((le_12 h12 (by omega)).1 h) (by omega))]
    refine ⟨gz g + 140, hS.r 0 6 rfl, hS.k 140 rfl, c_numberAt g hS hs (by omega) ?_⟩
    refine c_tellCrop g hS h8 h9 h12 h30 (j := k) (by omega) (by rw [wi_in (by omega) (by omega)]; decide) ?_
    have e1 : (mL m (gz g + 141) (60 * s + k)).toInt32 = f k := by
      rw [hf k (by omega), (hO.2.1 (gz g + 141) (fun w hw => by have : w < 141 := (by decide : ∀ w, w ∈ WCc → w < 141) w hw; omega) (by omega)).2.1]
    rw [e1, nI_s]
    refine ih (k + 1) _ (by omega) (hC.tell hp (by omega) (f k)) ?_ (hO.trans (Only_tellM (WC_g k (by omega)).2 (by omega))) (Sg_tellM hS)
    funext i
    show mI (tellA (tellNA A y f k) y k (f k)) 0 i = _
    rw [tell_oth (by omega), h0]
theorem l_RFcrops1 (g : Gc) {lv n s : Nat} {m : Mm} (hS : Sg g m) (h8 : mI m (gz g + 145) 19 = nI n) (h12 : n ≤ 12) (hs : s < 4) {Q : Int32 → Mm → Prop} : ∀ (d k : Nat), k + d = n → ((∃ j, k ≤ j ∧ j < n ∧ badL (mL m (gz g + 148) (60 * s + j))) → Q (-4) m) → ((∀ j, k ≤ j → j < n → ¬ badL (mL m (gz g + 148) (60 * s + j))) → At g M_RF_crops (lv + 2) 85 [(0, va_rf (some (gz g + 145))), (1, .int (nI s)), (2, .int 0)] [] m (QI Q)) → At g M_RF_crops (lv + 2) 45 [(0, va_rf (some (gz g + 145))), (1, .int (nI s)), (2, .int (nI k))] [] m (QI Q) := by
  intro d
  induction d with
  | zero =>
    intro k hk _ h
    obtain rfl : k = n := by omega
    refine bk_RF_crops_45 g ⟨hS.k 145 rfl, ?_⟩
    rw [h8, if_pos ((le_12 h12 h12).2 (by omega))]
    exact h (fun j a b => absurd b (by omega))
  | succ d ih =>
    intro k hk hb hg
    refine bk_RF_crops_45 g ⟨hS.k 145 rfl, ?_⟩
    rw [h8, if_neg (fun h => absurd ((le_12 h12 (by omega)).1 h) (by omega)), idx60', nI_clamp (by omega)]
    refine ⟨gz g + 148, hS.r 145 3 rfl, hS.k 148 rfl, by rw [hS.n 148 rfl]; exact vp_in_nI (N := 240) (by omega) (by omega), c_in g ?_⟩
    by_cases h1 : wj (mL m (gz g + 148) (60 * s + k)) 0 500000 = 0
    · rw [if_pos h1]; exact hb ⟨k, by omega, by omega, (badL_wj _).1 h1⟩
    rw [if_neg h1, nI_s]
    refine ih (k + 1) (by omega) (fun ⟨j, a, b, c⟩ => hb ⟨j, by omega, b, c⟩) (fun q => hg (fun j a b => ?_))
    by_cases hjk : j = k
    · subst hjk
      exact fun c => h1 ((badL_wj _).2 c)
    · exact q j (by omega) b
theorem l_RFcrops2 (g : Gc) {lv n s y : Nat} {A m0 : Mm} {f : Nat → Int32} (h12 : n ≤ 12) (hs : s < 4) (h8 : mI m0 (gz g + 145) 19 = nI n) (hf : ∀ j, j < n → f j = (mL m0 (gz g + 148) (60 * s + j)).toInt32) {Q : Int32 → Mm → Prop} (hQ : ∀ m', TellR g n y (tellNA A y f n) m' → Only g [157] [0] m0 m' → Q (nI n) m') : ∀ (d k : Nat) (m : Mm), k + d = n → TellR g n y (tellNA A y f k) m → Only g [157] [0] m0 m → Sg g m → At g M_RF_crops (lv + 1) 85 [(0, va_rf (some (gz g + 145))), (1, .int (nI s)), (2, .int (nI k))] [] m (QI Q) := by
  intro d
  induction d with
  | zero =>
    intro k m hk hT hO hS
    obtain rfl : k = n := by omega
    refine bk_RF_crops_85 g ⟨hS.k 145 rfl, ?_⟩
    rw [hO.2.2.2.2 19 (by decide), h8, if_pos ((le_12 h12 h12).2 (by omega))]
    exact hQ m hT hO
  | succ d ih =>
    intro k m hk hT hO hS
    refine bk_RF_crops_85 g ⟨hS.k 145 rfl, ?_⟩
    rw [hO.2.2.2.2 19 (by decide), h8, if_neg (fun h => absurd ((le_12 h12 (by omega)).1 h) (by omega)), idx60', nI_clamp (by omega), nI_clamp (by omega), nI_s]
    refine ⟨gz g + 157, hS.r 145 22 rfl, gz g + 148, hS.r 145 3 rfl, hS.k 148 rfl, by rw [hS.n 148 rfl]; exact vp_in_nI (N := 240) (by omega) (by omega), hS.k 157 rfl, by rw [hS.n 157 rfl]; exact vp_in_nI (N := 12) (by omega) (by omega), fun m1 e1 => ?_⟩
    have e2 : (mL m (gz g + 148) (60 * s + k)).toInt32 = f k := by
      rw [hf k (by omega), (hO.2.1 (gz g + 148) (fun w hw => by simp at hw; omega) (by omega)).2.1]
    rw [e2] at e1
    subst e1
    exact ih (k + 1) _ (by omega) (hT.tell (by omega) (f k)) (hO.trans (Only_sI m (w := 157) (by decide) (by omega) k (f k))) hS
theorem TellR.congr {g : Gc} {n y : Nat} {A B m : Mm} (h : TellR g n y A m) (e : mI B 16 = mI A 16) : TellR g n y B m := by
  unfold TellR
  rw [e]
  exact h
theorem LandR.tellN {g : Gc} {l y r : Nat} {A m : Mm} (h : LandR g l 12 y r A m) (f : Nat → Int32) : ∀ k, LandR g l 12 y r (tellNA A y f k) m
  | 0 => h
  | k + 1 => (LandR.tellN h f k).tell (f k)
theorem sim_crops (g : Gc) {lv : Nat} {m A : Mm} {pa : Nat → Nat} {n y r : Nat} (hS : Sg g m) (hW : RowsOK g m) (hB : LandB g pa y r A m) (hp : PaOK g pa r) (hn : mI A 0 0 = nI n) (h12 : n ≤ 12) (hy : mI A 0 1 = nI y) (h30 : y ≤ 30) (hT : TellR g n y A m) (x : Int32) : SimI g M_SL_crops M_RF_crops (lv + 4) [.int x] m (fun m2 => Only g WC [0] m m2 ∧ ((LandB g pa y r A m2 ∧ TellR g n y A m2) ∨ ∃ f : Nat → Int32, (∀ j, j < n → ∃ s : Nat, s ≤ 500000 ∧ f j = nI s) ∧ LandB g pa y r (tellNA A y f n) m2 ∧ TellR g n y (tellNA A y f n) m2)) := by
  have on0 : Only g WC [0] m (sI m (gz g + 145) 0 0) := Only_sM m (by decide) 0
  have ok0 : LandB g pa y r A (sI m (gz g + 145) 0 0) := hB.off0 hp (by omega) 0
  have t0 : TellR g n y A (sI m (gz g + 145) 0 0) := hT.off (up2_ne (by omega))
  have hS0 : Sg g (sI m (gz g + 145) 0 0) := hS
  unfold SimI
  refine en_SL_crops g (c_isWithin g ?_)
  by_cases h1 : wi x 0 3 = 0
  · rw [if_pos h1]
    refine en_RF_crops g ⟨hS.k 145 rfl, fun m2 e2 => ?_⟩
    subst e2
    refine c_isSlot g ?_
    rw [if_pos h1]
    exact ⟨rfl, on0, Or.inl ⟨ok0, t0⟩⟩
  rw [if_neg h1]
  obtain ⟨s, hs, rfl⟩ := slot_of h1
  refine ⟨hS.k 0 rfl, gz g + 140, hS.r 0 6 rfl, hS.k 140 rfl, c_hasRow_in g hS hs (fun hl => ?_) (fun hl => ?_)⟩
  · rw [if_pos rfl]
    refine en_RF_crops g ⟨hS.k 145 rfl, fun m2 e2 => ?_⟩
    subst e2
    refine c_isSlot g ?_
    rw [if_neg h1]
    refine ⟨gz g + 146, hS.r 145 1 rfl, hS.k 146 rfl, by rw [show mN (sI m (gz g + 145) 0 0) (gz g + 146) = 4 from hS.n 146 rfl]; exact vp_in_nI hs (by omega), ?_⟩
    rw [nI_clamp (by omega), mI_sI, up2_oth (by omega)]
    rcases hW s hs with ⟨-, b⟩ | ⟨n, w, a1, a2, a3, -⟩
    · rw [b, if_neg (by decide)]
      exact ⟨rfl, on0, Or.inl ⟨ok0, t0⟩⟩
    · exact absurd (a3.symm.trans hl) (nI_ne_m1 (by omega))
  rw [if_neg (by decide)]
  rcases hW s hs with ⟨a, -⟩ | ⟨q, w, a1, a2, a3, a4, a5, a6, a7⟩
  · exact absurd a hl
  refine ⟨gz g + 143, hS.r 140 2 rfl, hS.k 143 rfl, by rw [hS.n 143 (n := 4) rfl]; exact vp_in_nI hs (by omega), gz g + 2, hS.r 0 1 rfl, hS.k 2 rfl, ?_⟩
  rw [nI_clamp (show s < 2 ^ 31 by omega), a3, hB.n.1, hn]
  -- the reference up to its loops
  have ref : ∀ (m1 : Mm) (Q : Int32 → Mm → Prop), Sg g m1 → mI m1 (gz g + 146) s = nI w → mI m1 (gz g + 147) s = nI q → mI m1 (gz g + 145) 19 = nI n → (q < n → Q (-6) (sI m1 (gz g + 145) 0 0)) → (n ≤ q → At g M_RF_crops (lv + 4) 45 [(0, va_rf (some (gz g + 145))), (1, .int (nI s)), (2, .int (nI 0))] [] (sI m1 (gz g + 145) 0 0) (QI Q)) → CI g M_RF_crops (lv + 4) [va_rf (some (gz g + 145)), .int (nI s)] m1 Q := by
    intro m1 Q hS1 b1 b2 b3 q1 q2
    refine en_RF_crops g ⟨hS1.k 145 rfl, fun m2 e2 => ?_⟩
    subst e2
    refine c_isSlot g ?_
    rw [if_neg h1]
    refine ⟨gz g + 146, hS1.r 145 1 rfl, hS1.k 146 rfl, by rw [show mN (sI m1 (gz g + 145) 0 0) (gz g + 146) = 4 from hS1.n 146 rfl]; exact vp_in_nI hs (by omega), ?_⟩
    rw [nI_clamp (show s < 2 ^ 31 by omega), mI_sI, up2_oth (by omega), b1, if_pos (nI_pos' (by omega))]
    refine ⟨gz g + 147, hS1.r 145 2 rfl, hS1.k 147 rfl, by rw [show mN (sI m1 (gz g + 145) 0 0) (gz g + 147) = 4 from hS1.n 147 rfl]; exact vp_in_nI hs (by omega), ?_⟩
    rw [up2_sl (by omega), b3, up2_oth (by omega), b2]
    by_cases hq : n ≤ q
    · rw [if_pos (nI_le hq (by omega))]; exact q2 hq
    · rw [if_neg (nI_ge (by omega) (by omega))]; exact q1 (by omega)
  by_cases hq : n ≤ q
  · rw [if_pos (nI_le hq (by omega))]
    refine l_SLcrops1 g (k := 0) (n := n) hS (hB.n.1.trans hn) h12 hs n (by omega) (fun hb => ?_) (fun hg => ?_)
    · refine ref m _ hS a6 a4 (hB.n.2.trans hn) (fun h => absurd h (by omega)) (fun _ => ?_)
      refine l_RFcrops1 g (k := 0) (n := n) hS0 (ok0.n.2.trans hn) h12 hs n (by omega) (fun _ => ⟨rfl, on0, Or.inl ⟨ok0, t0⟩⟩) (fun hg => ?_)
      obtain ⟨j, j1, j2, j3⟩ := hb
      exact absurd (by rw [a7 j (by omega)] at j3; exact j3) (hg j j1 j2)
    · refine l_SLcrops2 g (A := A) (m0 := m) (k := 0) (f := fun j => (mL m (gz g + 141) (60 * s + j)).toInt32) hp hn h12 hy h30 hs (fun _ _ => rfl) (fun m1 c1 o1 s1 => ?_) n m (by omega) hB.1 rfl (Only.refl _ _ _ _) hS
      have e146 : ∀ e, 60 ≤ e → e ≠ 145 → Eqr m m1 (gz g + e) := fun e h1 h2 => o1.2.1 (gz g + e) (fun w hw => by have : w < 60 := (by decide : ∀ w, w ∈ WCc → w < 60) w hw; omega) (by omega)
      have r1 : LandR g 0 12 y r (tellNA A y (fun j => (mL m (gz g + 141) (60 * s + j)).toInt32) n) m1 := (hB.2.only o1 (by decide) (by decide) (by decide)).tellN _ n
      have n1 : mI m1 (gz g + 145) 19 = nI n := (o1.2.2.2.2 19 (by decide)).trans (hB.n.2.trans hn)
      refine ref m1 _ s1 (by rw [(e146 146 (by omega) (by omega)).1]; exact a6) (by rw [(e146 147 (by omega) (by omega)).1]; exact a4) n1 (fun h => absurd h (by omega)) (fun _ => ?_)
      have n2 : mI (sI m1 (gz g + 145) 0 0) (gz g + 145) 19 = nI n := by rw [mI_sI, up2_sl (by omega)]; exact n1
      have e148 : ∀ j, j < n → mL m1 (gz g + 148) (60 * s + j) = mL m (gz g + 141) (60 * s + j) := fun j hj => by rw [(e146 148 (by omega) (by omega)).2.1]; exact (a7 j (by omega)).symm
      refine l_RFcrops1 g (k := 0) (n := n) (m := sI m1 (gz g + 145) 0 0) s1 n2 h12 hs n (by omega) (fun ⟨j, j1, j2, j3⟩ => ?_) (fun _ => ?_)
      · exact absurd (by rw [mL_sI, e148 j j2] at j3; exact j3) (hg j j1 j2)
      · have tz : TellR g n y A (sI m1 (gz g + 145) 0 0) := hT.off (by rw [mI_sI, up2_ne (by omega)]; exact (e146 157 (by omega) (by omega)).1)
        refine l_RFcrops2 g (A := A) (y := y) (m0 := sI m1 (gz g + 145) 0 0) (k := 0) (f := fun j => (mL m (gz g + 141) (60 * s + j)).toInt32) h12 hs n2 (fun j hj => by rw [mL_sI, e148 j hj]) (fun m2 t2 o2 => ?_) n _ (by omega) tz (Only.refl _ _ _ _) s1
        refine ⟨rfl, ?_, Or.inr ⟨fun j => (mL m (gz g + 141) (60 * s + j)).toInt32, fun j hj => ?_, ⟨?_, ?_⟩, t2⟩⟩
        · exact ((o1.weak (by decide) (by decide)).trans (Only_sM m1 (by decide) 0)).trans (o2.weak (by decide) (by decide))
        · have := hg j (by omega) hj
          show ∃ s' : Nat, s' ≤ 500000 ∧ (mL m (gz g + 141) (60 * s + j)).toInt32 = nI s'
          generalize mL m (gz g + 141) (60 * s + j) = v at this ⊢
          have h0 : ¬ v < 0 := fun q => this (Or.inl q)
          have h5 : ¬ (500000 : Int64) < v := fun q => this (Or.inr q)
          rw [i64_lt] at h0 h5
          have z5 : (500000 : Int64).toInt = 500000 := rfl
          have z0 : (0 : Int64).toInt = 0 := rfl
          refine ⟨v.toInt.toNat, by omega, ?_⟩
          rw [← Int32.toInt_inj, nI_toInt (by omega), Int64.toInt_toInt32]
          have hb : v.toInt.bmod (2 ^ 32) = v.toInt := Int.bmod_eq_of_le (by omega) (by omega)
          rw [hb]
          omega
        · refine c1.same (by omega) (fun a ha => ?_)
          have o3 := (Only_sM (g := g) (W := [157]) (ss := [0]) m1 (by decide) 0).trans o2
          have := o3.2.1 a (fun w hw => by
            simp at hw
            rcases ha with ha | ⟨k, hk, rfl⟩
            · omega
            · have := hp.2 k hk; omega) (by
            rcases ha with ha | ⟨k, hk, rfl⟩
            · omega
            · have := hp.2 k hk; omega)
          exact ⟨this.1, this.2.1⟩
        · have o3 := (Only_sM (g := g) (W := [157]) (ss := [0]) m1 (by decide) 0).trans o2
          refine r1.same (fun d hd => ?_) (o3.2.2.2.2 19 (by decide)) (o3.2.2.2.2 47 (by decide))
          have := o3.2.1 (gz g + 145 + d) (fun w hw => by simp at hw; unfold rCell at hd; omega) (by unfold rCell at hd; omega)
          exact ⟨this.1, this.2.1⟩
  · rw [if_neg (nI_ge (by omega) (by omega))]
    exact ref m _ hS a6 a4 (hB.n.2.trans hn) (fun _ => ⟨rfl, on0, Or.inl ⟨ok0, t0⟩⟩) (fun h => absurd h hq)
