/-! ===== go, the reference's side as a whole ===== -/
def WasR (g : Gc) (n y : Nat) (A m : Mm) : Prop := ∀ k j, k < y → j < n → mI m (gz g + 163) (12 * k + j) = (if mI A 16 (12 * k + j) = -1 then 0 else 1) ∧ (¬ mI A 16 (12 * k + j) = -1 → mI m (gz g + 158) (12 * k + j) = mI A 16 (12 * k + j))
theorem Good.X {n y p r q : Nat} {A mm : Mm} {kk : Nat → Nat → Nat × Nat} (G : Good n y p r A) (h30 : y < 30) (hq : q ≤ 100) : ∃ v u c : Nat → Nat, LoanI n y p r (extA A mm kk y) ∧ frN n (extA A mm kk y) v ∧ skN r (extA A mm kk y) u ∧ F30 r (extA A mm kk y) ∧ HoldOK n r (extA A mm kk y) ∧ (∀ k, k < n → cropV (extA A mm kk y) y (nI q) k = nI (c k)) ∧ sumN v n + sumN c n + sumN u r < 2 ^ 31 ∧ (∀ k, k < n → ∃ w : Nat, w < 8 ∧ mI (extA A mm kk y) 1 k = nI w) := by
  obtain ⟨H, ⟨h12, -, hp1, hp2⟩, ⟨v, tot, hv, hsum, hh, ⟨u, hu, hut⟩, hf, how⟩, ⟨gv, ga, gb, gt, gy⟩, hbk, -, -⟩ := G
  have eX : ∀ c i, c ≤ 16 → mI (extA A mm kk y) c i = mI A c i := fun c i hc => extA_I (by omega)
  have gbX : BeOK n (extA A mm kk y) := fun j hj => by
    obtain ⟨b, a0, a1, a2, hh⟩ := gb j hj
    exact ⟨b, a0, a1, a2, by rw [eX 3 j (by omega), eX 4 j (by omega), eX 5 j (by omega), eX 6 j (by omega)]; exact hh⟩
  obtain ⟨c, hc⟩ := crop_nat (y := y) gbX (fun j hj => by rw [eX 16 _ (by omega)]; exact (gt y j h30 hj).1) hq
  have sc := sumN_max (u := c) (x := 500000) n (fun j hj => (hc j hj).1)
  have sc2 : sumN c n ≤ 6000000 := by
    have := Nat.mul_le_mul_left 500000 h12
    omega
  have ty : 6000000 * y ≤ 6000000 * 29 := Nat.mul_le_mul_left _ (by omega)
  refine ⟨v, u, c, H.same2 (fun c j hc => eX c j (by omega)), fun j hj => by rw [eX 7 j (by omega)]; exact hv j hj, fun j hj => by rw [eX 10 j (by omega)]; exact hu j hj, fun j hj => by rw [eX 11 j (by omega)]; exact hf j hj, fun j hj => by rw [eX 9 j (by omega)]; exact hh j hj, fun k hk => (hc k hk).2, by omega, fun k hk => by rw [eX 1 k (by omega)]; exact gv k hk⟩
def PGr (g : Gc) (y n a j : Nat) : Prop := PG1 g y a j ∨ ((a = gz g + 160 ∨ a = gz g + 161) ∧ j = y) ∨ PRa g 0 y n a j ∨ PDu g a j ∨ (a = gz g + 166 ∧ j = 0)
theorem c_goR (g : Gc) {lv n y p r r1 r2 q p1 : Nat} {A B D m0 mm : Mm} {kk : Nat → Nat → Nat × Nat} {cs : List Cls} (G : Good n y p r A) (h30 : y < 30) (h4 : r + n ≤ 400) (hq : q ≤ 100) (S : Sg g m0) (F : Fr g m0) (R : LR g y r A m0) (T : TermsOK g m0) (TX : TxtOf g y cs m0) (TR : TellR g n y A m0) (hY : yearA (mI m0 (gz g + 1)) cs n y (nI q) (extA A mm kk y) r = (B, r1)) (H1 : LoanI n y p1 r1 (patL B r r1)) (hp : 1 ≤ p1 ∧ p1 ≤ 10000) (hD : duesA (patL B r r1) r1 y r1 = (D, r2)) (hz : ∀ j, n ≤ j → j < 12 → mI m0 (gz g + 159) (12 * y + j) = mI (extA A mm kk y) 17 (12 * y + j) ∧ mI m0 (gz g + 162) (12 * y + j) = mI (extA A mm kk y) 18 (12 * y + j))
    {Q : Int32 → Mm → Prop} (hQ : ∀ m2, LR g (y + 1) r2 (sI D 0 1 (nI (y + 1))) m2 → Fs g (PGr g y n) 0 m0 m2 → Sg g m2 → Fr g m2 → (∀ j, j < n → mI m2 (gz g + 158) (12 * y + j) = cropV A y (nI q) j ∧ mI m2 (gz g + 163) (12 * y + j) = (if mI A 16 (12 * y + j) = -1 then 0 else 1) ∧ mI m2 (gz g + 157) j = -1) → (∀ j, n ≤ j → mI m2 (gz g + 157) j = mI m0 (gz g + 157) j) → Q (nI (y + 1)) m2) : At g M_RF_go (lv + 37) 58 [(0, va_rf (some (gz g + 145))), (1, .int (nI q)), (2, .int (nI y)), (3, .int (0 : Int32))] [] m0 (QI Q) := by
  have h12 := G.2.1.1
  have H := G.1
  obtain ⟨v, u, c, HX, hvX, huX, hfX, hhX, hcX, tot, hV⟩ := G.X (mm := mm) (kk := kk) h30 hq
  have hp2 := G.2.1.2.2.2
  have hn : mI m0 (gz g + 145) 19 = nI n := R.n.trans H.2.2.2.2.1
  have r4 : r ≤ 400 := H.2.2.2.1.2
  have hb : ∀ j, j < n → mI m0 (gz g + 170) j = mI A 3 j := fun j hj => by
    have := (R.1.q.gr (j := j) (by omega)).2.1
    rw [show 12 * 0 + j = j by omega] at this
    exact this
  have i12 : (12 : Int32) * nI y = nI (12 * y) := by rw [show (12 : Int32) = nI 12 from rfl, pk_mul]
  have cvX : ∀ k, cropV (extA A mm kk y) y (nI q) k = cropV A y (nI q) k := fun k => by
    unfold cropV
    rw [extA_I (by omega), extA_I (by omega)]
  refine l_go58 g (lv := lv + 36) S hn h12 h30 (fun j hj => TR.1 h30 j hj) hb (fun m1 s1 G1 e7 e9 => ?_) n 0 m0 (by omega) (St.refl _ _) (fun j hj => absurd hj (by omega)) (fun _ _ => rfl) (fun _ _ => rfl)
  have S1 := s1.sg S
  have n1 : mI m1 (gz g + 145) 19 = nI n := (s1.2 _ _ (by unfold PG1; omega)).1.trans hn
  refine bk_RF_go_58 g ⟨S1.k 145 rfl, ?_⟩
  rw [n1, if_pos (nI_le (Nat.le_refl _) (by omega)), i12, nI_clamp (show y < 2 ^ 31 by omega)]
  refine ⟨gz g + 160, S1.r 145 25 rfl, S1.k 160 rfl, by rw [S1.n 160 rfl]; exact vp_in_nI (N := 30) (by omega) (by omega), fun m2 e2 => ?_⟩
  have s2 : St (fun a j => PG1 g y a j ∨ (a = gz g + 160 ∧ j = y)) m0 m2 := (s1.weak (fun _ _ z => Or.inl z)).trans (by rw [e2]; exact St_sI m1 (Or.inr ⟨rfl, rfl⟩) _)
  have S2 := s2.sg S
  have x2 : ∀ a j, ¬ PG1 g y a j → ¬ (a = gz g + 160 ∧ j = y) → mI m2 a j = mI m0 a j ∧ mL m2 a j = mL m0 a j := fun a j h1 h2 => s2.2 a j (fun z => z.elim h1 h2)
  have x21 : ∀ a j, a ≠ gz g + 160 → mI m2 a j = mI m1 a j := fun a j h => by rw [e2, mI_sI, up2_oth h]
  have y2 : mI m2 (gz g + 160) y = nI q := by rw [e2, mI_sI, up2_at]
  clear e2
  have Q2 : LandQ g 0 12 y r (extA A mm kk y) m2 := LandQ.ext (R.1.q.off (by omega) r4 (fun d j hd => (x2 _ _ (by unfold RdI at hd; unfold PG1; omega) (by unfold RdI at hd; omega)).1) (fun d j hd => (x2 _ _ (by unfold RdJ at hd; unfold PG1; omega) (by unfold RdJ at hd; omega)).2))
  have t1 : mI m2 (gz g + 1) = mI m0 (gz g + 1) := funext fun j => (x2 _ _ (by unfold PG1; omega) (by omega)).1
  have T2 : TermsOK g m2 := T.same t1 (fun j hj => (x2 _ _ (by unfold PG1; omega) (by omega)).1)
  have TX2 := TX.st s2 (by unfold PG1; omega) (fun j => by unfold PG1; omega)
  refine ⟨gz g + 161, S2.r 145 26 rfl, gz g + 158, S2.r 145 23 rfl, ?_⟩
  refine c_passesY g (lv := lv) (l := 0) (N := 12) (e := 158) (co := 12 * y) (t := y) (A := extA A mm kk y) (yl := nI q) (cs := cs) (by omega) (by omega) h12 HX.2.2.2.2.1 HX.2.2.2.2.2.1 h30 HX.2.2.2.1.1 h4 hhX (fun z => absurd z (by omega)) hvX huX hfX hcX tot (Or.inl ⟨rfl, rfl⟩) (fun k hk => by rw [cvX, x21 _ _ (by omega)]; exact (G1 k hk).1) T2 HX.2.2.2.2.2.2 hp2 hV S2 Q2 (by omega) TX2 (fun m3 R3 s3 k3 => ?_)
  obtain ⟨k31, k32⟩ := k3 rfl
  have x19 := (yBd_19 (tm := mI m2 (gz g + 1)) (n := n) (y := y) (r := r) (yl := nI q) (V := yV (mI m2 (gz g + 1)) cs n y (nI q) (extA A mm kk y) r) (Sd := verS (yV (mI m2 (gz g + 1)) cs n y (nI q) (extA A mm kk y) r) (yF (mI m2 (gz g + 1)) n y (nI q) (extA A mm kk y) r 1)) (A := extA A mm kk y))
  have x17 : ∀ k, k < n → mI (yearA (mI m2 (gz g + 1)) cs n y (nI q) (extA A mm kk y) r).1 17 (12 * y + k) = cropV (extA A mm kk y) y (nI q) k := fun k hk => yBd_17 h12 hk
  have x17' : ∀ k, n ≤ k → mI (yearA (mI m2 (gz g + 1)) cs n y (nI q) (extA A mm kk y) r).1 17 (12 * y + k) = mI (extA A mm kk y) 17 (12 * y + k) := fun k hk => yBd_I h12 (by omega) (by omega) (by omega) (by omega) (by omega) (by omega) (by omega) (by omega)
  have x18' : ∀ k, n ≤ k → mI (yearA (mI m2 (gz g + 1)) cs n y (nI q) (extA A mm kk y) r).1 18 (12 * y + k) = mI (extA A mm kk y) 18 (12 * y + k) := fun k hk => by
    unfold yearA
    rw [yBd_18 h12, if_neg (by omega)]
  have x12 : ∀ c i, c = 12 ∨ c = 13 → mI (yearA (mI m2 (gz g + 1)) cs n y (nI q) (extA A mm kk y) r).1 c i = mI A c i := fun c i hc => (yBd_I h12 (by omega) (by omega) (by omega) (by omega) (by omega) (by omega) (by omega) (by omega)).trans (extA_I (by omega))
  have xL : ∀ i, mL (yearA (mI m2 (gz g + 1)) cs n y (nI q) (extA A mm kk y) r).1 3 i = mL A 3 i := fun i => yBd_L3
  have x192 : mI (yearA (mI m2 (gz g + 1)) cs n y (nI q) (extA A mm kk y) r).1 19 y = nI q ∧ mI (yearA (mI m2 (gz g + 1)) cs n y (nI q) (extA A mm kk y) r).1 20 y = verP (yV (mI m2 (gz g + 1)) cs n y (nI q) (extA A mm kk y) r) := ⟨x19.1, x19.2.1⟩
  clear x19
  generalize verP (yV (mI m2 (gz g + 1)) cs n y (nI q) (extA A mm kk y) r) = PP at *
  rw [t1] at R3 k31 k32 x17 x17' x18' x12 xL x192
  rw [hY] at R3 k31 k32 x17 x17' x18' x12 xL x192
  simp only at R3 k31 k32 x17 x17' x18' x12 xL x192
  have S3 := s3.sg S2
  refine ⟨S3.k 161 rfl, by rw [S3.n 161 rfl]; exact vp_in_nI (N := 30) (by omega) (by omega), fun m4 e4 => ?_⟩
  have s4 : St (fun a j => a = gz g + 161 ∧ j = y) m3 m4 := by rw [e4]; exact St_sI m3 ⟨rfl, rfl⟩ _
  have S4 := s4.sg S3
  have x4 : ∀ a j, ¬ (a = gz g + 161 ∧ j = y) → mI m4 a j = mI m3 a j ∧ mL m4 a j = mL m3 a j := fun a j h => s4.2 a j h
  have p4 : mI m4 (gz g + 161) y = PP := by rw [e4, mI_sI, up2_at]
  clear e4
  have x3 : ∀ a j, ¬ PRa g 0 y n a j → mI m3 a j = mI m2 a j ∧ mL m3 a j = mL m2 a j := fun a j h => s3.2 a j h
  have H14 := H1.2.2.2.1.2
  have LR4 : LR g (y + 1) r1 (patL B r r1) m4 := by
    have R4 : LandQ g 0 12 y r1 B m4 := R3.off (by omega) H14 (fun d j hd => (x4 _ _ (by unfold RdI at hd; omega)).1) (fun d j hd => (x4 _ _ (by unfold RdJ at hd; omega)).2)
    refine ⟨⟨fun c i hv => ?_, fun c i hv => ?_⟩, fun i hi => ?_⟩
    · rw [patL_I (fun e => by subst e; exact vI_n12 hv.1)]
      by_cases hc : (c = 17 ∨ c = 18) ∧ i / 12 = y ∨ (c = 19 ∨ c = 20) ∧ i = y
      · rcases hc with ⟨hc | hc, hi⟩ | ⟨hc | hc, hi⟩
        · subst hc
          show mI m4 (gz g + 159) i = _
          have hi2 : i = 12 * y + i % 12 := by omega
          have hi3 : i % 12 < 12 := by omega
          generalize i % 12 = j at hi2 hi3
          subst hi2
          rw [(x4 _ _ (by omega)).1, (x3 _ _ (by unfold PRa PQ9 PQ PRs; omega)).1]
          by_cases hj : j < n
          · rw [x17 j hj, cvX, x21 _ _ (by omega)]; exact (G1 j hj).2.1
          · rw [x17' j (by omega), x21 _ _ (by omega), e9 _ (by omega)]; exact (hz j (by omega) hi3).1
        · subst hc
          show mI m4 (gz g + 162) i = _
          have hi2 : i = 12 * y + i % 12 := by omega
          have hi3 : i % 12 < 12 := by omega
          generalize i % 12 = j at hi2 hi3
          subst hi2
          rw [(x4 _ _ (by omega)).1]
          by_cases hj : j < n
          · exact k31 j hj
          · rw [x18' j (by omega), (x3 _ _ (by unfold PRa PQ9 PQ PRs; omega)).1, (x2 _ _ (by unfold PG1; omega) (by omega)).1]; exact (hz j (by omega) hi3).2
        · subst hc hi
          show mI m4 (gz g + 160) i = _
          rw [(x4 _ _ (by omega)).1, (x3 _ _ (by unfold PRa PQ9 PQ PRs; omega)).1, x192.1]; exact y2
        · subst hc hi
          show mI m4 (gz g + 161) i = _
          rw [x192.2]; exact p4
      · have hvy : vI 12 y r1 c i := by
          have h := hv.1
          unfold vI at h
          split at h
          · exact h
          · exact h
          · exact h
          · exact h
          · exact h
          · exact ⟨h.1, by have := h.2; omega⟩
          · exact ⟨h.1, by have := h.2; omega⟩
          · show i < y; omega
          · show i < y; omega
          · exact h
          · exact h
          · obtain ⟨a, b, d⟩ := h
            rcases (show c = 1 ∨ c = 2 ∨ c = 3 ∨ c = 4 ∨ c = 5 ∨ c = 6 ∨ c = 7 ∨ c = 8 by omega) with rfl | rfl | rfl | rfl | rfl | rfl | rfl | rfl <;> exact ⟨a, b, d⟩
        exact R4.1 c i ⟨⟨hvy, hv.2⟩, Or.inl rfl⟩
    · exact R4.2 c i ⟨hv, Or.inl rfl⟩
    · rw [patL_12, patL_I (by omega), (x4 _ _ (by omega)).1, k32 i, (x4 _ _ (by omega)).1, (x3 _ _ (by unfold PRa PQ9 PQ PRs; omega)).1, (x2 _ _ (by unfold PG1; omega) (by omega)).1, (x2 _ _ (by unfold PG1; omega) (by omega)).1, (x4 _ _ (by omega)).2, (x3 _ _ (by unfold PRa PQ9 PQ PRs; omega)).2, (x2 _ _ (by unfold PG1; omega) (by omega)).2, show mL (patL B r r1) = mL B from rfl]
      by_cases hr : 2 * r ≤ i ∧ i < 2 * r1
      · rw [if_pos hr, if_pos hr]
        exact ⟨rfl, fun z => absurd rfl z⟩
      · rw [if_neg hr, if_neg hr, x12 12 i (by omega), x12 13 i (by omega), xL i]
        exact R.2 i (by omega)
  have F4 : Fr g m4 := s4.fr (s3.fr (s2.fr F))
  refine l_go189 g (lv := lv + 33) H1 h12 hp.1 hp.2 S4 F4 LR4 (fun m5 R5 fs5 S5 F5 m6 e6 => ?_)
  rw [hD] at R5
  simp only at R5
  have s6 : St (fun a j => a = gz g + 166 ∧ j = 0) m5 m6 := by rw [e6]; exact St_sI m5 ⟨rfl, rfl⟩ _
  have fs45 : ∀ a j, a < gz g + 184 → ¬ PDu g a j → mI m5 a j = mI m4 a j ∧ mL m5 a j = mL m4 a j := fun a j ha h => by
    have := fs5.2.2 a j (by have := F4.1; omega) h
    exact ⟨this.1, this.2.1⟩
  have x61 : ∀ a j, gz g + 157 ≤ a → a ≤ gz g + 163 → a ≠ gz g + 161 → a ≠ gz g + 162 → mI m6 a j = mI m2 a j := fun a j h1 h2 h3 h4 => by
    rw [(s6.2 a j (by omega)).1, (fs45 a j (by omega) (by
      rintro (⟨w, hw, rfl⟩ | z)
      · have : w = 168 ∨ w = 174 ∨ w = 175 ∨ w = 176 ∨ w = 177 ∨ w = 179 ∨ w = 180 ∨ w = 181 := by
          unfold WDu at hw
          simpa using hw
        omega
      · omega)).1, (x4 a j (by omega)).1, (x3 a j (by unfold PRa PQ9 PQ PRs; omega)).1]
  refine hQ m6 ⟨?_, fun i hi => ?_⟩ ?_ (s6.sg S5) (s6.fr F5) (fun j hj => ?_) (fun j hj => ?_)
  · rw [e6]
    exact R5.1.putI (c := 0) (i := 1) (a := gz g + 166) (j := 0) ⟨by show 1 < 7; omega, by omega, by omega⟩ rfl _
  · obtain ⟨a1, a2⟩ := R5.2 i hi
    rw [e6, mI_sI, up2_oth (by omega), up2_oth (by omega), mL_sI, mI_sI, up2_oth (by omega), up2_oth (by omega), mL_sI]
    exact ⟨a1, a2⟩
  · refine ((((s2.fs (g := g)).weak (P2 := PGr g y n) (fun a j _ z => ?_) (Nat.le_refl _)).trans (s3.fs (g := g)) (fun a j _ z => Or.inr (Or.inr (Or.inl z)))).trans ((((s4.fs (g := g)).weak (P2 := PGr g y n) (fun a j _ z => Or.inr (Or.inl ⟨Or.inr z.1, z.2⟩)) (Nat.le_refl _)).trans fs5 (fun a j _ z => Or.inr (Or.inr (Or.inr (Or.inl z))))).trans (s6.fs (g := g)) (fun a j _ z => Or.inr (Or.inr (Or.inr (Or.inr z))))) (fun _ _ _ z => z)).weak (fun _ _ _ z => z) (by omega)
    rcases z with z | z
    · exact Or.inl z
    · exact Or.inr (Or.inl ⟨Or.inl z.1, z.2⟩)
  · rw [x61 _ _ (by omega) (by omega) (by omega) (by omega), x61 _ _ (by omega) (by omega) (by omega) (by omega), x61 _ _ (by omega) (by omega) (by omega) (by omega), x21 _ _ (by omega), x21 _ _ (by omega), x21 _ _ (by omega)]
    obtain ⟨b1, -, b3, b4⟩ := G1 j hj
    exact ⟨b1, b3, b4⟩
  · rw [x61 _ _ (by omega) (by omega) (by omega) (by omega), x21 _ _ (by omega)]; exact e7 j hj
