/-! ===== crop ===== -/
/-- what the reference keeps as told this year -/
def TellR (g : Gc) (n y : Nat) (A m : Mm) : Prop := (y < 30 → ∀ j, j < n → mI m (gz g + 157) j = mI A 16 (12 * y + j)) ∧ ∀ j, n ≤ j → j < 12 → mI m (gz g + 157) j = -1
def tellA (A : Mm) (y j : Nat) (s : Int32) : Mm := if y < 30 then sI A 16 (12 * y + j) s else A
theorem ge_30 : ∀ y, y ≤ 30 → ((30 : Int32) ≤ nI y ↔ ¬ y < 30) := by decide +kernel
def tellM (g : Gc) (m : Mm) (y j : Nat) (s : Int32) : Mm := if y < 30 then sI m (gz g + (15 + 4 * j)) y s else m
theorem c_tellCrop (g : Gc) {lv n j y : Nat} {s : Int32} {m : Mm} (hS : Sg g m) (h8 : mI m (gz g + 2) 8 = nI n) (h9 : mI m (gz g + 2) 9 = nI y) (h12 : n ≤ 12) (h30 : y ≤ 30) (hj : j < n) (hg : ¬ wi (nI j) 0 (nI n - 1) = 0) {Q : Mm → Prop} (h : Q (tellM g m y j s)) : CV g M_Land_tellCrop (lv + 2) [va_rf (some (gz g + 2)), .int (nI j), .int s] m Q := by
  have hj2 : j < 12 := by omega
  refine en_Land_tellCrop g ⟨hS.k 2 rfl, c_hasGrower g (hS.k 2 rfl) h8 h12 ?_⟩
  rw [if_neg hg, h9]
  unfold tellM at h
  by_cases hy : y < 30
  · rw [if_pos hy] at h
    rw [if_neg (fun q => (ge_30 y h30).1 q hy), nI_clamp (by omega), nI_clamp (by omega)]
    refine ⟨gz g + 3, hS.r 2 1 rfl, hS.k 3 rfl, by rw [hS.n 3 rfl]; exact vp_in_nI (N := 12) (by omega) (by omega), gz g + (14 + 4 * j), hS.r 3 j (sh_gr j hj2).1, hS.k (14 + 4 * j) (sh_gr j hj2).2 (by omega), gz g + (15 + 4 * j), hS.r (14 + 4 * j) 0 (sh_tld j hj2).1, hS.k (15 + 4 * j) (sh_tld j hj2).2.1 (by omega), by rw [hS.n (15 + 4 * j) (sh_tld j hj2).2.2 (by omega)]; exact vp_in_nI (N := 30) (by omega) (by omega), fun m1 g1 => ?_⟩
    rw [g1]
    exact h
  · rw [if_neg hy] at h
    rw [if_pos ((ge_30 y h30).2 hy)]
    exact h
theorem LandC.tell {g : Gc} {pa : Nat → Nat} {y r j : Nat} {A m : Mm} (h : LandC g 2 pa 12 y r A m) (hp : PaOK g pa r) (hj : j < 12) (s : Int32) : LandC g 2 pa 12 y r (tellA A y j s) (tellM g m y j s) := by
  unfold tellA tellM
  by_cases hy : y < 30
  · rw [if_pos hy, if_pos hy]
    exact h.putI (by omega) (by omega) hp (c := 16) (i := 12 * y + j) (a := gz g + (15 + 4 * j)) (j := y) ⟨by omega, by omega⟩ (Prod.ext (by show gz g + 2 + 13 + 4 * ((12 * y + j) % 12) = gz g + (15 + 4 * j); omega) (by show (12 * y + j) / 12 = y; omega)) s
  · rw [if_neg hy, if_neg hy]
    exact h
theorem tell_oth {A : Mm} {y j c i : Nat} {s : Int32} (hc : c ≠ 16) : mI (tellA A y j s) c i = mI A c i := by
  unfold tellA
  split
  · rw [mI_sI, up2_oth hc]
  · rfl
theorem tell_L {A : Mm} {y j : Nat} {s : Int32} : mL (tellA A y j s) = mL A := by
  unfold tellA
  split
  · rfl
  · rfl
theorem LandR.tell {g : Gc} {l y r j : Nat} {A m : Mm} (h : LandR g l 12 y r A m) (s : Int32) : LandR g l 12 y r (tellA A y j s) m :=
  ⟨fun c i hv => by rw [tell_oth hv.2.1]; exact h.1 c i hv, fun c i hv => by rw [tell_L]; exact h.2 c i hv⟩
def WCc : List Nat := [15, 19, 23, 27, 31, 35, 39, 43, 47, 51, 55, 59]
def WC : List Nat := [15, 19, 23, 27, 31, 35, 39, 43, 47, 51, 55, 59, 157]
theorem WC_g : ∀ n, n < 12 → (15 + 4 * n) ∈ WC ∧ (15 + 4 * n) ∈ WCc := by decide +kernel
theorem Only_tellM {g : Gc} {m : Mm} {y j : Nat} {s : Int32} {W ss : List Nat} (hj : (15 + 4 * j) ∈ W) (h145 : 15 + 4 * j ≠ 145) : Only g W ss m (tellM g m y j s) := by
  unfold tellM
  split
  · exact Only_sI m hj h145 _ _
  · exact Only.refl _ _ _ _
theorem Sg_tellM {g : Gc} {m : Mm} {y j : Nat} {s : Int32} (h : Sg g m) : Sg g (tellM g m y j s) := by
  unfold tellM
  split
  · exact h
  · exact h
theorem tellM_oth {g : Gc} {m : Mm} {y j a : Nat} {s : Int32} (h : a ≠ gz g + (15 + 4 * j)) : mI (tellM g m y j s) a = mI m a := by
  unfold tellM
  split
  · exact up2_ne h
  · rfl
theorem TellR.off {g : Gc} {n y : Nat} {A m m' : Mm} (h : TellR g n y A m) (e : mI m' (gz g + 157) = mI m (gz g + 157)) : TellR g n y A m' := by
  unfold TellR
  rw [e]
  exact h
theorem TellR.tell {g : Gc} {n y j : Nat} {A m : Mm} (h : TellR g n y A m) (hj : j < n) (s : Int32) : TellR g n y (tellA A y j s) (sI m (gz g + 157) j s) := by
  refine ⟨fun hy k hk => ?_, fun k h1 h2 => ?_⟩
  · unfold tellA
    rw [if_pos hy, mI_sI, mI_sI]
    by_cases he : k = j
    · subst he; rw [up2_at, up2_at]
    · rw [up2_sl he, up2_sl (by omega)]
      exact h.1 hy k hk
  · rw [mI_sI, up2_sl (by omega)]
    exact h.2 k h1 h2
theorem sim_crop (g : Gc) {lv : Nat} {m A : Mm} {pa : Nat → Nat} {n y r : Nat} (hS : Sg g m) (hB : LandB g pa y r A m) (hp : PaOK g pa r) (hn : mI A 0 0 = nI n) (h12 : n ≤ 12) (hy : mI A 0 1 = nI y) (h30 : y ≤ 30) (hT : TellR g n y A m) (i s : Int32) : SimI g M_SL_crop M_RF_crop (lv + 3) [.int i, .int s] m (fun m2 => Only g WC [0] m m2 ∧ ((LandB g pa y r A m2 ∧ TellR g n y A m2) ∨ ∃ j s' : Nat, j < n ∧ s' ≤ 500000 ∧ LandB g pa y r (tellA A y j (nI s')) m2 ∧ TellR g n y (tellA A y j (nI s')) m2)) := by
  have e2 : wj s.toInt64 (0 : Int64) (500000 : Int64) = wi s 0 500000 := wj_wide s 0 500000
  have on0 : Only g WC [0] m (sI m (gz g + 145) 0 0) := Only_sM m (by decide) 0
  have ok0 : LandB g pa y r A (sI m (gz g + 145) 0 0) := hB.off0 hp (by omega) 0
  have t0 : TellR g n y A (sI m (gz g + 145) 0 0) := hT.off (up2_ne (by omega))
  unfold SimI
  refine en_SL_crop g ⟨hS.k 0 rfl, gz g + 2, hS.r 0 1 rfl, hS.k 2 rfl, c_hasGrower g (hS.k 2 rfl) (hB.n.1.trans hn) h12 ?_⟩
  by_cases h1 : wi i 0 (nI n - 1) = 0
  · rw [if_pos h1]
    refine en_RF_crop g ⟨hS.k 145 rfl, fun m2 g2 => ?_⟩
    subst g2
    refine c_isGrower g (hS.k 145 rfl) (ok0.n.2.trans hn) ?_
    rw [if_pos h1]
    exact ⟨rfl, on0, Or.inl ⟨ok0, t0⟩⟩
  rw [if_neg h1]
  refine c_isWithin g ?_
  by_cases h2 : wi s 0 500000 = 0
  · rw [if_pos h2]
    refine en_RF_crop g ⟨hS.k 145 rfl, fun m2 g2 => ?_⟩
    subst g2
    refine c_isGrower g (hS.k 145 rfl) (ok0.n.2.trans hn) ?_
    rw [if_neg h1]
    refine c_in g ?_
    rw [e2, if_pos h2]
    exact ⟨rfl, on0, Or.inl ⟨ok0, t0⟩⟩
  rw [if_neg h2]
  obtain ⟨j, hj, rfl⟩ := gr_of h12 h1
  obtain ⟨s', -, hs', rfl⟩ := wi_rng (a := 0) (c := 500000) rfl rfl (by omega) (by omega) h2
  have hj2 : j < 12 := by omega
  refine c_tellCrop g hS (hB.n.1.trans hn) (hB.yr.1.trans hy) h12 h30 hj h1 ?_
  have c1 := hB.1.tell hp hj2 (nI s')
  have r1 : LandR g 0 12 y r A (tellM g m y j (nI s')) := hB.2.only (Only_tellM (W := WCc) (ss := []) (WC_g j hj2).2 (by omega)) (by decide) (by decide) (by decide)
  have o1 : Only g WC [0] m (tellM g m y j (nI s')) := Only_tellM (WC_g j hj2).1 (by omega)
  have s1 : Sg g (tellM g m y j (nI s')) := Sg_tellM hS
  have t1 : TellR g n y A (tellM g m y j (nI s')) := hT.off (tellM_oth (by omega))
  refine en_RF_crop g ⟨s1.k 145 rfl, fun m2 g2 => ?_⟩
  subst g2
  refine c_isGrower g (s1.k 145 rfl) (n := n) (((r1.offM (j := 0) (by omega) 0).1 0 0 ⟨by show 0 < 7; omega, by omega, by omega⟩).trans hn) ?_
  rw [if_neg h1]
  refine c_in g ?_
  rw [e2, if_neg h2]
  refine ⟨gz g + 157, s1.r 145 22 rfl, s1.k 157 rfl, by rw [mN_sI, s1.n 157 rfl]; exact vp_in_nI (N := 12) (by omega) (by omega), fun m3 g3 => ?_⟩
  rw [nI_clamp (by omega)] at g3
  refine ⟨rfl, ?_, Or.inr ⟨j, s', hj, hs', ⟨?_, ?_⟩, ?_⟩⟩
  · subst g3
    exact (o1.trans (Only_sM _ (by decide) _)).trans (Only_sI _ (w := 157) (by decide) (by omega) _ _)
  · subst g3
    exact (c1.offI (by omega) hp (d := 145) (by omega) (by omega) _ _).offI (by omega) hp (d := 157) (by omega) (by omega) _ _
  · subst g3
    refine LandR.tell ?_ _
    refine (r1.offM (j := 0) (by omega) 0).same (fun d hd => ⟨up2_ne (by unfold rCell at hd; omega), rfl⟩) (up2_oth (by omega)) (up2_oth (by omega))
  · subst g3
    exact (t1.off (m' := sI (tellM g m y j (nI s')) (gz g + 145) 0 0) (up2_ne (by omega))).tell hj _
