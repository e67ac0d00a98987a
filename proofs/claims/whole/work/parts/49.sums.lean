/-! ===== the reference's two lands; sums over receipts and growers ===== -/
def vL (l n y r c i : Nat) : Prop := vR n y r c i ∧ (l = 0 ∨ (c = 0 ∧ i < 5) ∨ (1 ≤ c ∧ c ≤ 7) ∨ (9 ≤ c ∧ c ≤ 11))
def vK (l n c i : Nat) : Prop := vJ n c i ∧ (l = 0 ∨ (c = 0 ∧ i < n) ∨ c = 1 ∨ c = 2)
def LandQ (g : Gc) (l n y r : Nat) (A m : Mm) : Prop := HoldI (vL l n y r) (rI' (gz g + 145) l) A m ∧ HoldJ (vK l n) (rJ (gz g + 145) l) A m
theorem LandR.q {g : Gc} {l n y r : Nat} {A m : Mm} (h : LandR g l n y r A m) : LandQ g l n y r A m := ⟨fun c i hv => h.1 c i hv.1, fun c i hv => h.2 c i hv.1⟩
theorem LandQ.r0 {g : Gc} {n y r : Nat} {A m : Mm} (h : LandQ g 0 n y r A m) : LandR g 0 n y r A m := ⟨fun c i hv => h.1 c i ⟨hv, Or.inl rfl⟩, fun c i hv => h.2 c i ⟨hv, Or.inl rfl⟩⟩
theorem LandQ.putI {g : Gc} {l n y r : Nat} {A m : Mm} (h : LandQ g l n y r A m) {c i a j : Nat} (hv : vL l n y r c i) (e : rI' (gz g + 145) l c i = (a, j)) (v : Int32) : LandQ g l n y r (sI A c i v) (sI m a j v) := by
  have := h.1.put (fun c i c' i' h1 h2 => rI_inj c i c' i' h1.1 h2.1) hv v
  rw [e] at this
  exact ⟨this, h.2⟩
theorem LandQ.putJ {g : Gc} {l n y r : Nat} {A m : Mm} (h : LandQ g l n y r A m) (hn : n ≤ 12) {c i a j : Nat} (hv : vK l n c i) (e : rJ (gz g + 145) l c i = (a, j)) (v : Int64) : LandQ g l n y r (sL A c i v) (sL m a j v) := by
  have := h.2.put (fun c i c' i' h1 h2 => rJ_inj hn c i c' i' h1.1 h2.1) hv v
  rw [e] at this
  exact ⟨h.1, this⟩
theorem LandQ.n {g : Gc} {l N y r : Nat} {A m : Mm} (h : LandQ g l N y r A m) : mI m (gz g + 145) 19 = mI A 0 0 := h.1 0 0 ⟨⟨by show 0 < 7; omega, by omega, by omega⟩, Or.inr (Or.inl ⟨rfl, by omega⟩)⟩
theorem LandQ.sc {g : Gc} {l N y r : Nat} {A m : Mm} (h : LandQ g l N y r A m) : mI m (gz g + 166) l = mI A 0 1 ∧ mI m (gz g + 167) l = mI A 0 2 ∧ mI m (gz g + 168) l = mI A 0 3 ∧ mI m (gz g + 169) l = mI A 0 4 :=
  ⟨h.1 0 1 ⟨⟨by show 1 < 7; omega, by omega, by omega⟩, Or.inr (Or.inl ⟨rfl, by omega⟩)⟩, h.1 0 2 ⟨⟨by show 2 < 7; omega, by omega, by omega⟩, Or.inr (Or.inl ⟨rfl, by omega⟩)⟩, h.1 0 3 ⟨⟨by show 3 < 7; omega, by omega, by omega⟩, Or.inr (Or.inl ⟨rfl, by omega⟩)⟩, h.1 0 4 ⟨⟨by show 4 < 7; omega, by omega, by omega⟩, Or.inr (Or.inl ⟨rfl, by omega⟩)⟩⟩
theorem LandQ.rc {g : Gc} {l N y r i : Nat} {A m : Mm} (h : LandQ g l N y r A m) (hi : i < r) : mI m (gz g + 175) (400 * l + i) = mI A 9 i ∧ mI m (gz g + 176) (400 * l + i) = mI A 10 i ∧ mI m (gz g + 177) (400 * l + i) = mI A 11 i :=
  ⟨h.1 9 i ⟨⟨hi, by omega, by omega⟩, Or.inr (Or.inr (Or.inr (by omega)))⟩, h.1 10 i ⟨⟨hi, by omega, by omega⟩, Or.inr (Or.inr (Or.inr (by omega)))⟩, h.1 11 i ⟨⟨hi, by omega, by omega⟩, Or.inr (Or.inr (Or.inr (by omega)))⟩⟩
theorem LandQ.gr {g : Gc} {l N y r j : Nat} {A m : Mm} (h : LandQ g l N y r A m) (hj : j < N) : mI m (gz g + 155) j = mI A 1 j ∧ mI m (gz g + 170) (12 * l + j) = mI A 3 j ∧ mI m (gz g + 171) (3 * (12 * l + j)) = mI A 4 j ∧ mI m (gz g + 171) (3 * (12 * l + j) + 1) = mI A 5 j ∧ mI m (gz g + 171) (3 * (12 * l + j) + 2) = mI A 6 j ∧ mI m (gz g + 172) (12 * l + j) = mI A 7 j := by
  have ok : ∀ c, 1 ≤ c → c ≤ 7 → vL l N y r c j := fun c h1 h7 => ⟨⟨by
    rcases (show c = 1 ∨ c = 2 ∨ c = 3 ∨ c = 4 ∨ c = 5 ∨ c = 6 ∨ c = 7 by omega) with rfl | rfl | rfl | rfl | rfl | rfl | rfl <;> exact ⟨by omega, by omega, hj⟩, by omega, by omega⟩, Or.inr (Or.inr (Or.inl ⟨h1, h7⟩))⟩
  exact ⟨h.1 1 j (ok 1 (by omega) (by omega)), h.1 3 j (ok 3 (by omega) (by omega)), h.1 4 j (ok 4 (by omega) (by omega)), h.1 5 j (ok 5 (by omega) (by omega)), h.1 6 j (ok 6 (by omega) (by omega)), h.1 7 j (ok 7 (by omega) (by omega))⟩
theorem LandQ.mo {g : Gc} {l N y r j : Nat} {A m : Mm} (h : LandQ g l N y r A m) (hj : j < N) : mL m (gz g + 174) (15 * l + j) = mL A 0 j ∧ mL m (gz g + 173) (12 * l + j) = mL A 1 j :=
  ⟨h.2 0 j ⟨Or.inl hj, Or.inr (Or.inl ⟨rfl, hj⟩)⟩, h.2 1 j ⟨hj, Or.inr (Or.inr (Or.inl rfl))⟩⟩
theorem LandQ.su {g : Gc} {l N y r j : Nat} {A m : Mm} (h : LandQ g l N y r A m) (hj : j < 8) : mL m (gz g + 178) (8 * l + j) = mL A 2 j := h.2 2 j ⟨hj, Or.inr (Or.inr (Or.inr rfl))⟩
theorem LandC.gr {g : Gc} {t : Nat} {pa : Nat → Nat} {N y r j c : Nat} {A m : Mm} (h : LandC g t pa N y r A m) (hj : j < N) (h1 : 1 ≤ c) (h8 : c ≤ 8) : mI m (gz g + (t + 12 + 4 * j)) (c + 2) = mI A c j := by
  rw [show gz g + (t + 12 + 4 * j) = gz g + t + 12 + 4 * j by omega]
  rcases (show c = 1 ∨ c = 2 ∨ c = 3 ∨ c = 4 ∨ c = 5 ∨ c = 6 ∨ c = 7 ∨ c = 8 by omega) with rfl | rfl | rfl | rfl | rfl | rfl | rfl | rfl
  · exact h.1 1 j ⟨h1, h8, hj⟩
  · exact h.1 2 j ⟨h1, h8, hj⟩
  · exact h.1 3 j ⟨h1, h8, hj⟩
  · exact h.1 4 j ⟨h1, h8, hj⟩
  · exact h.1 5 j ⟨h1, h8, hj⟩
  · exact h.1 6 j ⟨h1, h8, hj⟩
  · exact h.1 7 j ⟨h1, h8, hj⟩
  · exact h.1 8 j ⟨h1, h8, hj⟩
theorem LandC.rc {g : Gc} {t : Nat} {pa : Nat → Nat} {N y r i : Nat} {A m : Mm} (h : LandC g t pa N y r A m) (hi : i < r) : mI m (pa i) 0 = mI A 9 i ∧ mI m (pa i) 1 = mI A 10 i ∧ mI m (pa i) 2 = mI A 11 i := ⟨h.1 9 i hi, h.1 10 i hi, h.1 11 i hi⟩
/-- the sums -/
def sacB (A : Mm) (yy : Int32) : Nat → Int64
  | 0 => 0
  | k + 1 => if yy ≤ mI A 11 k then sacB A yy k else sacB A yy k + (mI A 10 k).toInt64
def sacT (A : Mm) : Nat → Int32
  | 0 => 0
  | k + 1 => sacT A k + mI A 10 k
def sumL (A : Mm) (c : Nat) : Nat → Int64
  | 0 => 0
  | k + 1 => sumL A c k + (mI A c k).toInt64
def sumT (A : Mm) (c : Nat) : Nat → Int32
  | 0 => 0
  | k + 1 => sumT A c k + mI A c k
def sumM (A : Mm) : Nat → Int64
  | 0 => 0
  | k + 1 => sumM A k + mL A 0 k
theorem l_sacB (g : Gc) {lv t N y r R : Nat} {A m : Mm} {pa : Nat → Nat} {yy : Int32} (hS : Sg g m) (ht : t = 2 ∨ t = 65) (hC : LandC g t pa N y r A m) (hP : Pap g t pa R m) (hrR : r ≤ R) (hR4 : R ≤ 400) (h03 : mI A 0 3 = nI r) {Q : Int64 → Mm → Prop} (hQ : Q (sacB A yy r) m) : ∀ (d k : Nat), k + d = r → At g M_Store_sacksBefore (lv + 1) 5 [(0, va_rf (some (gz g + (t + 3)))), (1, .int yy), (2, .long (sacB A yy k)), (4, .int (nI k))] [] m (QJ Q) := by
  obtain ⟨⟨t1, t2, t3, t4, t5, t6⟩, t7, -⟩ := sh_t ht
  intro d
  induction d with
  | zero =>
    intro k hk
    obtain rfl : k = r := by omega
    refine bk_Store_sacksBefore_5 g ⟨hS.k (t + 3) t2 (by omega), ?_⟩
    rw [hC.rn, h03, if_pos (nI_le (by omega) (by omega))]
    exact hQ
  | succ d ih =>
    intro k hk
    refine bk_Store_sacksBefore_5 g ⟨hS.k (t + 3) t2 (by omega), ?_⟩
    rw [hC.rn, h03, if_neg (nI_ge (by omega) (by omega)), nI_clamp (by omega), nI_s]
    obtain ⟨p1, p2, p3⟩ := hP.1 k (by omega)
    refine ⟨gz g + (t + 4), hS.r (t + 3) 0 t6, hS.k (t + 4) t3 (by omega), by rw [hS.n (t + 4) t4 (by omega)]; exact vp_in_nI (N := 400) (by omega) (by omega), pa k, p1, p2, ?_⟩
    rw [(hC.rc (show k < r by omega)).2.2, (hC.rc (show k < r by omega)).2.1]
    have := ih (k + 1) (by omega)
    unfold sacB at this
    by_cases hy : yy ≤ mI A 11 k
    · rw [if_pos hy] at this ⊢; exact this
    · rw [if_neg hy] at this ⊢
      exact ⟨by rw [hS.n (t + 4) t4 (by omega)]; exact vp_in_nI (N := 400) (by omega) (by omega), this⟩
theorem c_sacB (g : Gc) {lv t N y r R : Nat} {A m : Mm} {pa : Nat → Nat} {yy : Int32} (hS : Sg g m) (ht : t = 2 ∨ t = 65) (hC : LandC g t pa N y r A m) (hP : Pap g t pa R m) (hrR : r ≤ R) (hR4 : R ≤ 400) (h03 : mI A 0 3 = nI r) {Q : Int64 → Mm → Prop} (hQ : Q (sacB A yy r) m) : CJ g M_Store_sacksBefore (lv + 1) [va_rf (some (gz g + (t + 3))), .int yy] m Q :=
  en_Store_sacksBefore g (l_sacB g hS ht hC hP hrR hR4 h03 hQ r 0 (by omega))
theorem c_sacA (g : Gc) {lv t N y r R : Nat} {A m : Mm} {pa : Nat → Nat} (hS : Sg g m) (ht : t = 2 ∨ t = 65) (hC : LandC g t pa N y r A m) (hP : Pap g t pa R m) (hrR : r ≤ R) (hR4 : R ≤ 400) (h03 : mI A 0 3 = nI r) {Q : Int64 → Mm → Prop} (hQ : Q (sacB A 30 r) m) : CJ g M_Store_sacksInAll (lv + 2) [va_rf (some (gz g + (t + 3)))] m Q := by
  obtain ⟨⟨t1, t2, -⟩, t7, -⟩ := sh_t ht
  exact en_Store_sacksInAll g ⟨hS.k (t + 3) t2 (by omega), c_sacB g hS ht hC hP hrR hR4 h03 hQ⟩
theorem l_storeR (g : Gc) {lv l N y r : Nat} {A m : Mm} {x : Int32} (hx : x = nI l) (hl : l < 2) (hS : Sg g m) (hR : LandQ g l N y r A m) (h4 : r ≤ 400) (h03 : mI A 0 3 = nI r) {Q : Int32 → Mm → Prop} (hQ : Q (sacT A r) m) : ∀ (d k : Nat), k + d = r → At g M_RF_store (lv + 1) 4 [(0, va_rf (some (gz g + 145))), (1, .int x), (2, .int (sacT A k)), (3, .int (nI k))] [] m (QI Q) := by
  subst hx
  intro d
  induction d with
  | zero =>
    intro k hk
    obtain rfl : k = r := by omega
    refine bk_RF_store_4 g ⟨hS.k 145 rfl, gz g + 168, hS.r 145 33 rfl, hS.k 168 rfl, by rw [hS.n 168 rfl]; exact vp_in_nI (N := 2) hl (by omega), ?_⟩
    rw [nI_clamp (by omega), hR.sc.2.2.1, h03, if_pos (nI_le (by omega) (by omega))]
    exact hQ
  | succ d ih =>
    intro k hk
    refine bk_RF_store_4 g ⟨hS.k 145 rfl, gz g + 168, hS.r 145 33 rfl, hS.k 168 rfl, by rw [hS.n 168 rfl]; exact vp_in_nI (N := 2) hl (by omega), ?_⟩
    rw [nI_clamp (show l < 2 ^ 31 by omega), hR.sc.2.2.1, h03, if_neg (nI_ge (by omega) (by omega)), ix400, nI_clamp (by omega), nI_s]
    refine ⟨gz g + 176, hS.r 145 41 rfl, hS.k 176 rfl, by rw [hS.n 176 rfl]; exact vp_in_nI (N := 800) (by omega) (by omega), ?_⟩
    rw [(hR.rc (show k < r by omega)).2.1]
    exact ih (k + 1) (by omega)
theorem c_storeR (g : Gc) {lv l N y r : Nat} {A m : Mm} {x : Int32} (hx : x = nI l) (hl : l < 2) (hS : Sg g m) (hR : LandQ g l N y r A m) (h4 : r ≤ 400) (h03 : mI A 0 3 = nI r) {Q : Int32 → Mm → Prop} (hQ : Q (sacT A r) m) : CI g M_RF_store (lv + 1) [va_rf (some (gz g + 145)), .int x] m Q :=
  en_RF_store g (l_storeR g hx hl hS hR h4 h03 hQ r 0 (by omega))
theorem ix12l (l j : Nat) : (12 : Int32) * nI l + nI j = nI (12 * l + j) := ix12 l j
theorem l_freesR (g : Gc) {lv l N n y r : Nat} {A m : Mm} {x : Int32} (hx : x = nI l) (hl : l < 2) (hS : Sg g m) (hR : LandQ g l N y r A m) (hn : mI A 0 0 = nI n) (hnN : n ≤ N) (hN : N ≤ 12) {Q : Int32 → Mm → Prop} (hQ : Q (sumT A 7 n) m) : ∀ (d k : Nat), k + d = n → At g M_RF_frees (lv + 1) 4 [(0, va_rf (some (gz g + 145))), (1, .int x), (2, .int (sumT A 7 k)), (3, .int (nI k))] [] m (QI Q) := by
  subst hx
  intro d
  induction d with
  | zero =>
    intro k hk
    obtain rfl : k = n := by omega
    refine bk_RF_frees_4 g ⟨hS.k 145 rfl, ?_⟩
    rw [hR.n, hn, if_pos (nI_le (by omega) (by omega))]
    exact hQ
  | succ d ih =>
    intro k hk
    refine bk_RF_frees_4 g ⟨hS.k 145 rfl, ?_⟩
    rw [hR.n, hn, if_neg (nI_ge (by omega) (by omega)), ix12l, nI_clamp (by omega), nI_s]
    refine ⟨gz g + 172, hS.r 145 37 rfl, hS.k 172 rfl, by rw [hS.n 172 rfl]; exact vp_in_nI (N := 24) (by omega) (by omega), ?_⟩
    rw [(hR.gr (show k < N by omega)).2.2.2.2.2]
    exact ih (k + 1) (by omega)
theorem c_freesR (g : Gc) {lv l N n y r : Nat} {A m : Mm} {x : Int32} (hx : x = nI l) (hl : l < 2) (hS : Sg g m) (hR : LandQ g l N y r A m) (hn : mI A 0 0 = nI n) (hnN : n ≤ N) (hN : N ≤ 12) {Q : Int32 → Mm → Prop} (hQ : Q (sumT A 7 n) m) : CI g M_RF_frees (lv + 1) [va_rf (some (gz g + 145)), .int x] m Q :=
  en_RF_frees g (l_freesR g hx hl hS hR hn hnN hN hQ n 0 (by omega))
theorem l_freeL (g : Gc) {lv t N n y r : Nat} {A m : Mm} {pa : Nat → Nat} (hS : Sg g m) (ht : t = 2 ∨ t = 65) (hC : LandC g t pa N y r A m) (hn : mI A 0 0 = nI n) (hnN : n ≤ N) (hN : N ≤ 12) {Q : Int64 → Mm → Prop} (hQ : Q (sumL A 7 n) m) : ∀ (d k : Nat), k + d = n → At g M_Land_freeInAll (lv + 1) 4 [(0, va_rf (some (gz g + t))), (1, .long (sumL A 7 k)), (3, .int (nI k))] [] m (QJ Q) := by
  obtain ⟨⟨t1, -⟩, t7, t8, t9, t10, -⟩ := sh_t ht
  intro d
  induction d with
  | zero =>
    intro k hk
    obtain rfl : k = n := by omega
    refine bk_Land_freeInAll_4 g ⟨hS.k t t1 (by omega), ?_⟩
    rw [hC.n, hn, if_pos (nI_le (by omega) (by omega))]
    exact hQ
  | succ d ih =>
    intro k hk
    obtain ⟨⟨g1, g2⟩, -⟩ := sh_tg ht k (by omega)
    refine bk_Land_freeInAll_4 g ⟨hS.k t t1 (by omega), ?_⟩
    rw [hC.n, hn, if_neg (nI_ge (by omega) (by omega)), nI_clamp (by omega), nI_s]
    refine ⟨gz g + (t + 1), hS.r t 1 t10, hS.k (t + 1) t8 (by omega), by rw [hS.n (t + 1) t9 (by omega)]; exact vp_in_nI (N := 12) (by omega) (by omega), gz g + (t + 12 + 4 * k), hS.r (t + 1) k g1, hS.k (t + 12 + 4 * k) g2 (by omega), ?_⟩
    rw [show mI m (gz g + (t + 12 + 4 * k)) 9 = mI A 7 k from hC.gr (c := 7) (by omega) (by omega) (by omega)]
    exact ih (k + 1) (by omega)
theorem c_freeL (g : Gc) {lv t N n y r : Nat} {A m : Mm} {pa : Nat → Nat} (hS : Sg g m) (ht : t = 2 ∨ t = 65) (hC : LandC g t pa N y r A m) (hn : mI A 0 0 = nI n) (hnN : n ≤ N) (hN : N ≤ 12) {Q : Int64 → Mm → Prop} (hQ : Q (sumL A 7 n) m) : CJ g M_Land_freeInAll (lv + 1) [va_rf (some (gz g + t))] m Q :=
  en_Land_freeInAll g (l_freeL g hS ht hC hn hnN hN hQ n 0 (by omega))
theorem sumL_T (A : Mm) (c : Nat) : ∀ k, (sumL A c k).toInt32 = sumT A c k
  | 0 => rfl
  | k + 1 => by
    unfold sumL sumT
    rw [Int64.toInt32_add, sumL_T A c k, Int32.toInt32_toInt64]
theorem sacB_T (A : Mm) : ∀ k, (∀ i, i < k → ¬ (30 : Int32) ≤ mI A 11 i) → (sacB A 30 k).toInt32 = sacT A k
  | 0, _ => rfl
  | k + 1, h => by
    unfold sacB sacT
    rw [if_neg (h k (by omega)), Int64.toInt32_add, sacB_T A k (fun i hi => h i (by omega)), Int32.toInt32_toInt64]
