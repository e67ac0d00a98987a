/-! ===== a land: one store; bank, gains ===== -/
def PaOK (g : Gc) (pa : Nat → Nat) (r : Nat) : Prop := (∀ i j, i < r → j < r → pa i = pa j → i = j) ∧ ∀ i, i < r → gz g + 184 ≤ pa i
theorem cI_at {t n y r c i : Nat} {pa : Nat → Nat} (hn : n ≤ 12) (hv : vI n y r c i) : (t ≤ (cI t pa c i).1 ∧ (cI t pa c i).1 < t + 63) ∨ ∃ k, k < r ∧ (cI t pa c i).1 = pa k := by
  by_cases h : c = 9 ∨ c = 10 ∨ c = 11
  · rcases h with rfl | rfl | rfl
    · exact Or.inr ⟨i, hv, rfl⟩
    · exact Or.inr ⟨i, hv, rfl⟩
    · exact Or.inr ⟨i, hv, rfl⟩
  · exact Or.inl (cInv_ok (t := t) (pa := pa) hn hv (by omega)).2
theorem cJ_at {t n c i : Nat} (hn : n ≤ 12) (hv : vJ n c i) : t ≤ (cJ t c i).1 ∧ (cJ t c i).1 < t + 63 := by
  unfold vJ at hv
  split at hv
  · simp only [cJ]
    split <;> simp only <;> omega
  · simp only [cJ]
    omega
  · simp only [cJ]
    omega
  · exact absurd hv id
def rCell (d : Nat) : Prop := d = 5 ∨ d = 6 ∨ d = 10 ∨ d = 11 ∨ (14 ≤ d ∧ d ≤ 17) ∨ (20 ≤ d ∧ d ≤ 33)
theorem rI_at {M l n y r c i : Nat} (hv : vR n y r c i) : (∃ d, rCell d ∧ (rI' M l c i).1 = M + d) ∨ rI' M l c i = (M, 19) ∨ rI' M l c i = (M, 47) := by
  obtain ⟨hv, h16, h5⟩ := hv
  unfold vI at hv
  split at hv
  · rcases (show i = 0 ∨ i = 1 ∨ i = 2 ∨ i = 3 ∨ i = 4 ∨ i = 6 by omega) with rfl | rfl | rfl | rfl | rfl | rfl
    · exact Or.inr (Or.inl rfl)
    · exact Or.inl ⟨21, by unfold rCell; omega, rfl⟩
    · exact Or.inl ⟨22, by unfold rCell; omega, rfl⟩
    · exact Or.inl ⟨23, by unfold rCell; omega, rfl⟩
    · exact Or.inl ⟨24, by unfold rCell; omega, rfl⟩
    · exact Or.inr (Or.inr rfl)
  · exact Or.inl ⟨30, by unfold rCell; omega, rfl⟩
  · exact Or.inl ⟨31, by unfold rCell; omega, rfl⟩
  · exact Or.inl ⟨32, by unfold rCell; omega, rfl⟩
  · exact absurd rfl h16
  · exact Or.inl ⟨14, by unfold rCell; omega, rfl⟩
  · exact Or.inl ⟨17, by unfold rCell; omega, rfl⟩
  · exact Or.inl ⟨15, by unfold rCell; omega, rfl⟩
  · exact Or.inl ⟨16, by unfold rCell; omega, rfl⟩
  · exact Or.inl ⟨5, by unfold rCell; omega, rfl⟩
  · exact Or.inl ⟨6, by unfold rCell; omega, rfl⟩
  · obtain ⟨h1, h2, h3⟩ := hv
    rcases (show c = 1 ∨ c = 2 ∨ c = 3 ∨ c = 4 ∨ c = 5 ∨ c = 6 ∨ c = 7 ∨ c = 8 by omega) with rfl | rfl | rfl | rfl | rfl | rfl | rfl | rfl
    · exact Or.inl ⟨10, by unfold rCell; omega, rfl⟩
    · exact Or.inl ⟨11, by unfold rCell; omega, rfl⟩
    · exact Or.inl ⟨25, by unfold rCell; omega, rfl⟩
    · exact Or.inl ⟨26, by unfold rCell; omega, rfl⟩
    · exact Or.inl ⟨26, by unfold rCell; omega, rfl⟩
    · exact Or.inl ⟨26, by unfold rCell; omega, rfl⟩
    · exact Or.inl ⟨27, by unfold rCell; omega, rfl⟩
    · exact Or.inl ⟨20, by unfold rCell; omega, rfl⟩
theorem rJ_at {M l n c i : Nat} (hv : vJ n c i) : ∃ d, rCell d ∧ (rJ M l c i).1 = M + d := by
  unfold vJ at hv
  split at hv
  · exact ⟨29, by unfold rCell; omega, rfl⟩
  · exact ⟨28, by unfold rCell; omega, rfl⟩
  · exact ⟨33, by unfold rCell; omega, rfl⟩
  · exact absurd hv id
theorem LandC.same {g : Gc} {t : Nat} {pa : Nat → Nat} {n y r : Nat} {A m m' : Mm} (h : LandC g t pa n y r A m) (hn : n ≤ 12) (hs : ∀ a, (gz g + t ≤ a ∧ a < gz g + t + 63) ∨ (∃ k, k < r ∧ a = pa k) → mI m' a = mI m a ∧ mL m' a = mL m a) : LandC g t pa n y r A m' :=
  ⟨h.1.off (fun c i hv => by rw [(hs _ (cI_at hn hv)).1]), h.2.off (fun c i hv => by rw [(hs _ (Or.inl (cJ_at hn hv))).2])⟩
theorem LandR.same {g : Gc} {l n y r : Nat} {A m m' : Mm} (h : LandR g l n y r A m) (hs : ∀ d, rCell d → mI m' (gz g + 145 + d) = mI m (gz g + 145 + d) ∧ mL m' (gz g + 145 + d) = mL m (gz g + 145 + d)) (h19 : mI m' (gz g + 145) 19 = mI m (gz g + 145) 19) (h47 : mI m' (gz g + 145) 47 = mI m (gz g + 145) 47) : LandR g l n y r A m' := by
  refine ⟨h.1.off (fun c i hv => ?_), h.2.off (fun c i hv => ?_)⟩
  · rcases rI_at (M := gz g + 145) (l := l) hv with ⟨d, hd, e⟩ | e | e
    · rw [e, (hs d hd).1]
    · rw [e]; exact h19
    · rw [e]; exact h47
  · obtain ⟨d, hd, e⟩ := rJ_at (M := gz g + 145) (l := l) hv
    rw [e, (hs d hd).2]
theorem LandC.inj {g : Gc} {t : Nat} {pa : Nat → Nat} {n y r : Nat} (hn : n ≤ 12) (ht : t + 63 ≤ 184) (hp : PaOK g pa r) : InjK (vI n y r) (cI (gz g + t) pa) := cI_inj hn hp.1 (fun i hi => by have := hp.2 i hi; omega)
theorem LandC.putI {g : Gc} {t : Nat} {pa : Nat → Nat} {n y r : Nat} {A m : Mm} (h : LandC g t pa n y r A m) (hn : n ≤ 12) (ht : t + 63 ≤ 184) (hp : PaOK g pa r) {c i a j : Nat} (hv : vI n y r c i) (e : cI (gz g + t) pa c i = (a, j)) (v : Int32) : LandC g t pa n y r (sI A c i v) (sI m a j v) := by
  have := h.1.put (LandC.inj hn ht hp) hv v
  rw [e] at this
  exact ⟨this, h.2⟩
theorem LandC.putJ {g : Gc} {t : Nat} {pa : Nat → Nat} {n y r : Nat} {A m : Mm} (h : LandC g t pa n y r A m) (hn : n ≤ 12) {c i a j : Nat} (hv : vJ n c i) (e : cJ (gz g + t) c i = (a, j)) (v : Int64) : LandC g t pa n y r (sL A c i v) (sL m a j v) := by
  have := h.2.put (cJ_inj hn) hv v
  rw [e] at this
  exact ⟨h.1, this⟩
theorem LandR.putI {g : Gc} {l n y r : Nat} {A m : Mm} (h : LandR g l n y r A m) {c i a j : Nat} (hv : vR n y r c i) (e : rI' (gz g + 145) l c i = (a, j)) (v : Int32) : LandR g l n y r (sI A c i v) (sI m a j v) := by
  have := h.1.put rI_inj hv v
  rw [e] at this
  exact ⟨this, h.2⟩
theorem LandR.putJ {g : Gc} {l n y r : Nat} {A m : Mm} (h : LandR g l n y r A m) (hn : n ≤ 12) {c i a j : Nat} (hv : vJ n c i) (e : rJ (gz g + 145) l c i = (a, j)) (v : Int64) : LandR g l n y r (sL A c i v) (sL m a j v) := by
  have := h.2.put (rJ_inj hn) hv v
  rw [e] at this
  exact ⟨h.1, this⟩
/-- stores of the other side -/
theorem LandC.offI {g : Gc} {t : Nat} {pa : Nat → Nat} {n y r : Nat} {A m : Mm} (h : LandC g t pa n y r A m) (hn : n ≤ 12) (hp : PaOK g pa r) {d : Nat} (hd : t + 63 ≤ d ∨ d < t) (h184 : d < 184) (j : Nat) (v : Int32) : LandC g t pa n y r A (sI m (gz g + d) j v) := by
  refine h.same hn (fun a ha => ⟨?_, rfl⟩)
  refine up2_ne ?_
  rcases ha with ha | ⟨k, hk, rfl⟩
  · omega
  · have := hp.2 k hk; omega
theorem LandC.offJ {g : Gc} {t : Nat} {pa : Nat → Nat} {n y r : Nat} {A m : Mm} (h : LandC g t pa n y r A m) (hn : n ≤ 12) (hp : PaOK g pa r) {d : Nat} (hd : t + 63 ≤ d ∨ d < t) (h184 : d < 184) (j : Nat) (v : Int64) : LandC g t pa n y r A (sL m (gz g + d) j v) := by
  refine h.same hn (fun a ha => ⟨rfl, ?_⟩)
  refine up2_ne ?_
  rcases ha with ha | ⟨k, hk, rfl⟩
  · omega
  · have := hp.2 k hk; omega
theorem LandR.offI {g : Gc} {l n y r : Nat} {A m : Mm} (h : LandR g l n y r A m) {a : Nat} (ha : a < gz g + 145 ∨ gz g + 184 ≤ a) (j : Nat) (v : Int32) : LandR g l n y r A (sI m a j v) :=
  h.same (fun d hd => ⟨up2_ne (by unfold rCell at hd; omega), rfl⟩) (up2_oth (by omega)) (up2_oth (by omega))
theorem LandR.offJ {g : Gc} {l n y r : Nat} {A m : Mm} (h : LandR g l n y r A m) {a : Nat} (ha : a < gz g + 145 ∨ gz g + 184 ≤ a) (j : Nat) (v : Int64) : LandR g l n y r A (sL m a j v) :=
  h.same (fun d hd => ⟨rfl, up2_ne (by unfold rCell at hd; omega)⟩) rfl rfl
theorem LandR.offM {g : Gc} {l n y r : Nat} {A m : Mm} (h : LandR g l n y r A m) {j : Nat} (hj : j ≠ 19 ∧ j ≠ 47) (v : Int32) : LandR g l n y r A (sI m (gz g + 145) j v) :=
  h.same (fun d hd => ⟨up2_ne (by unfold rCell at hd; omega), rfl⟩) (up2_sl (by omega)) (up2_sl (by omega))
def WB : List Nat := [62, 63, 64, 150, 151]
theorem sim_bank (g : Gc) {lv : Nat} {m A : Mm} {pa : Nat → Nat} {y r : Nat} (hS : Sg g m) (hB : LandB g pa y r A m) (hp : PaOK g pa r) (x a b : Int32) : SimI g M_SL_bank M_RF_bank (lv + 2) [.int x, .int a, .int b] m (fun m2 => Only g WB [0] m m2 ∧ (LandB g pa y r A m2 ∨ ∃ j p q : Nat, j < 3 ∧ p ≤ 100 ∧ q ≤ 100 ∧ LandB g pa y r (sI (sI A 21 j (nI p)) 22 j (nI q)) m2)) := by
  have e1 : wj x.toInt64 (0 : Int64) (2 : Int64) = wi x 0 2 := wj_wide x 0 2
  have e2 : wj a.toInt64 (0 : Int64) (100 : Int64) = wi a 0 100 := wj_wide a 0 100
  have e3 : wj b.toInt64 (0 : Int64) (100 : Int64) = wi b 0 100 := wj_wide b 0 100
  have on0 : Only g WB [0] m (sI m (gz g + 145) 0 0) := Only_sM m (by decide) 0
  have ok0 : LandB g pa y r A (sI m (gz g + 145) 0 0) := ⟨hB.1.offI (by omega) hp (by omega) (by omega) 0 0, hB.2.offM (by omega) 0⟩
  unfold SimI
  refine en_SL_bank g (c_isWithin g ?_)
  by_cases h1 : wi x 0 2 = 0
  · rw [if_pos h1]
    refine en_RF_bank g ⟨hS.k 145 rfl, fun m2 g2 => ?_⟩
    subst g2
    refine c_in g ?_
    rw [e1, if_pos h1]
    exact ⟨rfl, on0, Or.inl ok0⟩
  rw [if_neg h1]
  refine c_isWithin g ?_
  by_cases h2 : wi a 0 100 = 0
  · rw [if_pos h2]
    refine en_RF_bank g ⟨hS.k 145 rfl, fun m2 g2 => ?_⟩
    subst g2
    refine c_in g ?_
    rw [e1, if_neg h1]
    refine c_in g ?_
    rw [e2, if_pos h2]
    exact ⟨rfl, on0, Or.inl ok0⟩
  rw [if_neg h2]
  refine c_isWithin g ?_
  by_cases h3 : wi b 0 100 = 0
  · rw [if_pos h3]
    refine en_RF_bank g ⟨hS.k 145 rfl, fun m2 g2 => ?_⟩
    subst g2
    refine c_in g ?_
    rw [e1, if_neg h1]
    refine c_in g ?_
    rw [e2, if_neg h2]
    refine c_in g ?_
    rw [e3, if_pos h3]
    exact ⟨rfl, on0, Or.inl ok0⟩
  rw [if_neg h3]
  obtain ⟨j, -, hj', rfl⟩ := wi_rng (a := 0) (c := 2) rfl rfl (by omega) (by omega) h1
  obtain ⟨p, -, hp1, rfl⟩ := wi_rng (a := 0) (c := 100) rfl rfl (by omega) (by omega) h2
  obtain ⟨q, -, hq, rfl⟩ := wi_rng (a := 0) (c := 100) rfl rfl (by omega) (by omega) h3
  have hj : j < 3 := by omega
  rw [nI_clamp (by omega)]
  refine ⟨hS.k 0 rfl, gz g + 2, hS.r 0 1 rfl, hS.k 2 rfl, gz g + 4, hS.r 2 2 rfl, hS.k 4 rfl, by rw [hS.n 4 rfl]; exact vp_in_nI (N := 3) (by omega) (by omega), gz g + (62 + j), hS.r 4 j (sh_bk j hj).1, hS.k (62 + j) (sh_bk j hj).2 (by omega), fun m1 g1 => ?_⟩
  subst g1
  refine ⟨by rw [mN_sI, hS.n 4 rfl]; exact vp_in_nI (N := 3) (by omega) (by omega), fun m1 g1 => ?_⟩
  have c1 : LandC g 2 pa 12 y r (sI (sI A 21 j (nI p)) 22 j (nI q)) m1 := by
    rw [g1]
    refine LandC.putI (LandC.putI hB.1 (by omega) (by omega) hp (c := 21) (i := j) (a := gz g + (62 + j)) (j := 0) hj (Prod.ext (by show gz g + 2 + 60 + j = gz g + (62 + j); omega) rfl) _) (by omega) (by omega) hp (c := 22) (i := j) (a := gz g + (62 + j)) (j := 1) hj (Prod.ext (by show gz g + 2 + 60 + j = gz g + (62 + j); omega) rfl) _
  have r1 : LandR g 0 12 y r A m1 := by
    rw [g1]
    exact (hB.2.offI (Or.inl (by omega)) _ _).offI (Or.inl (by omega)) _ _
  have s1 : Sg g m1 := by rw [g1]; exact hS
  have w1 : (62 + j) ∈ WB := by rcases (show j = 0 ∨ j = 1 ∨ j = 2 by omega) with rfl | rfl | rfl <;> decide
  have o1 : Only g WB [0] m m1 := by
    rw [g1]
    exact (Only_sI m w1 (by omega) 0 _).trans (Only_sI _ w1 (by omega) 1 _)
  clear g1
  refine en_RF_bank g ⟨s1.k 145 rfl, fun m2 g2 => ?_⟩
  subst g2
  refine c_in g ?_
  rw [e1, if_neg h1]
  refine c_in g ?_
  rw [e2, if_neg h2]
  refine c_in g ?_
  rw [e3, if_neg h3]
  refine ⟨gz g + 150, s1.r 145 12 rfl, s1.k 150 rfl, by rw [mN_sI, s1.n 150 rfl]; exact vp_in_nI (N := 3) (by omega) (by omega), fun m3 g3 => ?_⟩
  rw [nI_clamp (by omega)] at g3
  subst g3
  refine ⟨gz g + 151, s1.r 145 13 rfl, s1.k 151 rfl, by rw [mN_sI, mN_sI, s1.n 151 rfl]; exact vp_in_nI (N := 3) (by omega) (by omega), fun m3 g3 => ?_⟩
  rw [nI_clamp (by omega)] at g3
  refine ⟨rfl, ?_, Or.inr ⟨j, p, q, hj, hp1, hq, ?_, ?_⟩⟩
  · subst g3
    exact ((o1.trans (Only_sM _ (by decide) 0)).trans (Only_sI _ (w := 150) (by decide) (by omega) _ _)).trans (Only_sI _ (w := 151) (by decide) (by omega) _ _)
  · subst g3
    exact ((c1.offI (by omega) hp (by omega) (by omega) _ _).offI (by omega) hp (d := 150) (by omega) (by omega) _ _).offI (by omega) hp (d := 151) (by omega) (by omega) _ _
  · subst g3
    exact ((r1.offM (by omega) 0).putI (c := 21) (i := j) ⟨hj, by omega, by omega⟩ rfl _).putI (c := 22) (i := j) ⟨hj, by omega, by omega⟩ rfl _
