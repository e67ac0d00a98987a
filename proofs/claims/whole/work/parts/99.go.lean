/-! ===== go ===== -/
def P0 (g : Gc) (a j : Nat) : Prop := a = gz g + 145 ∧ j = 0
def PGo (g : Gc) (pa : Nat → Nat) (r y n a j : Nat) : Prop := (PC g 2 pa r a j ∨ PJ g 2 a j) ∨ PGr g y n a j ∨ P0 g a j
def Lnd (g : Gc) (n y p r : Nat) (A m : Mm) (pa : Nat → Nat) : Prop := LC g pa 30 r A m ∧ LR g 30 r A m ∧ TellR g n y A m ∧ WasR g n y A m ∧ Good n y p r A
theorem LwY.cs {g : Gc} {y : Nat} {m : Mm} (h : LwY g y m) : ∃ cs, TxtOf g y cs m ∧ ((mR m (gz g + 139) y = none ∧ cs = []) ∨ ∃ la, mR m (gz g + 139) y = some la ∧ LawQ g la cs m) := by
  rcases h with ⟨a, b⟩ | ⟨la, cs, tx, L, a, b, c, d, e⟩
  · exact ⟨[], Or.inl ⟨b, rfl⟩, Or.inl ⟨a, rfl⟩⟩
  · exact ⟨cs, Or.inr ⟨tx, L, c, d, e⟩, Or.inr ⟨la, a, b⟩⟩
theorem PDu_rng {g : Gc} {a j : Nat} (h : PDu g a j) : (a = gz g + 168 ∨ (gz g + 174 ≤ a ∧ a ≤ gz g + 177) ∨ (gz g + 179 ≤ a ∧ a ≤ gz g + 181)) ∨ (a = gz g + 145 ∧ j = 47) := by
  rcases h with ⟨w, hw, rfl⟩ | z
  · have : w = 168 ∨ w = 174 ∨ w = 175 ∨ w = 176 ∨ w = 177 ∨ w = 179 ∨ w = 180 ∨ w = 181 := by
      unfold WDu at hw
      simpa using hw
    omega
  · exact Or.inr z
theorem PGr_rng {g : Gc} {y n a j : Nat} (h : PGr g y n a j) : (a = gz g + 145 ∧ 47 ≤ j ∧ j ≤ 64) ∨ a = gz g + 157 ∨ ((a = gz g + 158 ∨ a = gz g + 159 ∨ a = gz g + 163) ∧ 12 * y ≤ j ∧ j < 12 * y + 12) ∨ ((a = gz g + 160 ∨ a = gz g + 161) ∧ j = y) ∨ (a = gz g + 162 ∧ 12 * y ≤ j ∧ j < 12 * y + n) ∨ a = gz g + 165 ∨ (gz g + 166 ≤ a ∧ a ≤ gz g + 169 ∧ (j = 0 ∨ a = gz g + 168)) ∨ (gz g + 170 ≤ a ∧ a ≤ gz g + 177) ∨ (a = gz g + 178 ∧ j < 8) ∨ (gz g + 179 ≤ a ∧ a ≤ gz g + 182) := by
  rcases h with z | z | z | z | z
  · unfold PG1 at z; omega
  · omega
  · unfold PRa PQ9 PQ PRs at z; omega
  · have := PDu_rng z; omega
  · omega
theorem sim_go (g : Gc) {lv n y p r : Nat} {A m : Mm} {pa : Nat → Nat} (S : Sg g m) (F : Fr g m) (L : Lnd g n y p r A m pa) (T : TermsOK g m) (W : LawsOK g m) (x : Int32) : SimI g M_SL_go M_RF_go (lv + 37) [.int x] m (fun m2 => (Fr g m2 ∧ Fs g (PGo g pa r y n) 812 m m2) ∧ (St (P0 g) m m2 ∨ ∃ (pa2 : Nat → Nat) (r2 p2 : Nat) (A2 : Mm), Lnd g n (y + 1) p2 r2 A2 m2 pa2 ∧ (∀ i, i < r → pa2 i = pa i) ∧ ∀ i, r ≤ i → i < r2 → gz g + mC m ≤ pa2 i)) := by
  obtain ⟨C30, R30, TR, WR, G⟩ := L
  have H := G.1
  obtain ⟨h12, hy30, -, -⟩ := G.2.1
  have C : LC g pa y r A m := C30.down hy30
  have R : LR g y r A m := R30.down hy30
  have r4 : r ≤ 400 := H.2.2.2.1.2
  have F184 := F.1
  have e1 : wj x.toInt64 (0 : Int64) (100 : Int64) = wi x 0 100 := wj_wide x 0 100
  have z0 : (0 : Int32).toNatClampNeg = 0 := rfl
  have w4 : (400 : Int32) - nI r = nI (400 - r) := nI_sub (a := 400) r4 (by omega)
  have y9 : mI m (gz g + 2) 9 = nI y := C.yr.trans H.2.2.2.2.2.1
  have n8 : mI m (gz g + 2) 8 = nI n := C.n.trans H.2.2.2.2.1
  have r5 : mI m (gz g + 5) 1 = nI r := C.rn.trans H.2.2.2.1.1
  have a19 : mI m (gz g + 145) 19 = nI n := R.n.trans H.2.2.2.2.1
  have a66 : mI m (gz g + 166) 0 = nI y := R.yr.trans H.2.2.2.2.2.1
  have a68 : mI m (gz g + 168) 0 = nI r := R.rn.trans H.2.2.2.1.1
  have st0 : ∀ m1 : Mm, St (P0 g) m1 (sI m1 (gz g + 145) 0 0) := fun m1 => St_sI m1 ⟨rfl, rfl⟩ _
  have tr0 : (Fr g (sI m (gz g + 145) 0 0) ∧ Fs g (PGo g pa r y n) 812 m (sI m (gz g + 145) 0 0)) ∧ (St (P0 g) m (sI m (gz g + 145) 0 0) ∨ ∃ (pa2 : Nat → Nat) (r2 p2 : Nat) (A2 : Mm), Lnd g n (y + 1) p2 r2 A2 (sI m (gz g + 145) 0 0) pa2 ∧ (∀ i, i < r → pa2 i = pa i) ∧ ∀ i, r ≤ i → i < r2 → gz g + mC m ≤ pa2 i) :=
    ⟨⟨(st0 m).fr F, (st0 m).fs.weak (fun a j _ z => Or.inr (Or.inr z)) (by omega)⟩, Or.inl (st0 m)⟩
  have ref : ∀ (m1 : Mm) (Q : Int32 → Mm → Prop), Sg g m1 → mI m1 (gz g + 145) 19 = nI n → mI m1 (gz g + 166) 0 = nI y → mI m1 (gz g + 168) 0 = nI r → (wi x 0 100 = 0 → Q (-2) (sI m1 (gz g + 145) 0 0)) → (¬ wi x 0 100 = 0 → y = 30 → Q (-9) (sI m1 (gz g + 145) 0 0)) → (¬ wi x 0 100 = 0 → ¬ y = 30 → ¬ r + n ≤ 400 → Q (-3) (sI m1 (gz g + 145) 0 0)) → (¬ wi x 0 100 = 0 → ¬ y = 30 → r + n ≤ 400 → At g M_RF_go (lv + 37) 58 [(0, va_rf (some (gz g + 145))), (1, .int x), (2, .int (nI y)), (3, .int (0 : Int32))] [] (sI m1 (gz g + 145) 0 0) (QI Q)) → CI g M_RF_go (lv + 37) (va_rf (some (gz g + 145)) :: [.int x]) m1 Q := by
    intro m1 Q S1 a1 a2 a3 q1 q2 q3 q4
    refine en_RF_go g (lv := lv + 36) ⟨S1.k 145 rfl, fun m2 e2 => c_in g ?_⟩
    subst e2
    rw [e1]
    by_cases h1 : wi x 0 100 = 0
    · rw [if_pos h1]; exact q1 h1
    rw [if_neg h1]
    have S2 : Sg g (sI m1 (gz g + 145) 0 0) := S1
    refine ⟨gz g + 166, S2.r 145 31 rfl, S2.k 166 rfl, by rw [S2.n 166 rfl]; exact vp_in_nI (n := 0) (N := 2) (by omega) (by omega), ?_⟩
    rw [z0, show mI (sI m1 (gz g + 145) 0 0) (gz g + 166) 0 = nI y by rw [mI_sI, up2_oth (by omega)]; exact a2]
    by_cases h2 : y = 30
    · rw [if_pos (by rw [h2]; rfl)]; exact q2 h1 h2
    rw [if_neg (show ¬ nI y = (30 : Int32) from fun z => h2 ((nI_eq (by omega) (by omega)).mp (show nI y = nI 30 from z)))]
    refine ⟨gz g + 168, S2.r 145 33 rfl, S2.k 168 rfl, by rw [S2.n 168 rfl]; exact vp_in_nI (n := 0) (N := 2) (by omega) (by omega), ?_⟩
    rw [show mI (sI m1 (gz g + 145) 0 0) (gz g + 168) 0 = nI r by rw [mI_sI, up2_oth (by omega)]; exact a3, show mI (sI m1 (gz g + 145) 0 0) (gz g + 145) 19 = nI n by rw [mI_sI, up2_sl (by omega)]; exact a1, w4]
    by_cases h3 : r + n ≤ 400
    · rw [if_pos (nI_le (by omega) (by omega))]; exact q4 h1 h2 h3
    · rw [if_neg (nI_ge (by omega) (by omega))]; exact q3 h1 h2 h3
  unfold SimI
  refine en_SL_go g (lv := lv + 36) (c_isWithin g ?_)
  by_cases h1 : wi x 0 100 = 0
  · rw [if_pos h1]
    exact ref m _ S a19 a66 a68 (fun _ => ⟨rfl, tr0⟩) (fun z => absurd h1 z) (fun z => absurd h1 z) (fun z => absurd h1 z)
  rw [if_neg h1]
  refine ⟨S.k 0 rfl, gz g + 2, S.r 0 1 rfl, S.k 2 rfl, c_isWithin g ?_⟩
  rw [y9, wi_nat (a := y) (c := 29) (c32 := 29) rfl (by omega) (by omega)]
  by_cases h2 : y = 30
  · rw [if_neg (show ¬ y ≤ 29 by omega), if_pos rfl]
    exact ref m _ S a19 a66 a68 (fun z => absurd z h1) (fun _ _ => ⟨rfl, tr0⟩) (fun _ z => absurd h2 z) (fun _ z => absurd h2 z)
  have h30 : y < 30 := by omega
  rw [if_pos (show y ≤ 29 by omega), if_neg (by decide)]
  refine ⟨gz g + 5, S.r 2 3 rfl, S.k 5 rfl, ?_⟩
  rw [n8, r5, w4]
  by_cases h3' : ¬ r + n ≤ 400
  · rw [if_neg (nI_ge (by omega) (by omega))]
    exact ref m _ S a19 a66 a68 (fun z => absurd z h1) (fun _ z => absurd z h2) (fun _ _ _ => ⟨rfl, tr0⟩) (fun _ _ z => absurd z h3')
  have h3 : r + n ≤ 400 := Decidable.not_not.mp h3'
  rw [if_pos (nI_le (by omega) (by omega))]
  refine ⟨gz g + 139, S.r 0 5 rfl, S.k 139 rfl, by rw [S.n 139 rfl]; exact vp_in_nI (N := 30) (by omega) (by omega), ?_⟩
  rw [nI_clamp (show y < 2 ^ 31 by omega)]
  obtain ⟨q, -, hq, rfl⟩ := wi_rng (a := 0) (c := 100) rfl rfl (by omega) (by omega) h1
  obtain ⟨cs, TX, oc⟩ := (W y h30).cs
  refine c_yearC g (lv := lv + 29) (cs := cs) S F C H h12 h30 h3 G.2.2.1.choose_spec.choose_spec.2.2.1 TX.lw (fun m1 s1 => ?_) (fun X B D r1 r2 p1 pa2 m2 eX hY H1 hp hD C2 fs2 F2 S2 epa npa y2 => ?_)
  · rcases oc with ⟨o1, rfl⟩ | ⟨la, o1, o2⟩
    · exact ⟨fun _ => rfl, fun la z => by rw [o1] at z; cases z⟩
    · refine ⟨fun z => (by rw [o1] at z; cases z), fun la' z => ?_⟩
      rw [o1] at z
      cases z
      refine (o2.keep (s1.fs (g := g)) (fun a j _ z => ?_)).h
      rcases z with (z | ⟨k, hk, rfl⟩) | z
      · exact Or.inl (by omega)
      · exact Or.inr (by rw [(C.2.2.1.1 k hk).2.1]; decide)
      · unfold PJ at z; exact Or.inl (by omega)
  subst eX
  rw [y2]
  have k2 : ∀ a j, (gz g + 128 ≤ a ∧ a < gz g + 184) ∨ a = gz g + 1 → mI m2 a j = mI m a j ∧ mL m2 a j = mL m a j := fun a j ha => by
    have := fs2.2.2 a j (by omega) (fun z => by
      rcases z with (z | ⟨k, hk, rfl⟩) | z
      · omega
      · have := C.2.1.2 k hk
        omega
      · unfold PJ at z; omega)
    exact ⟨this.1, this.2.1⟩
  have R2 : LR g y r A m2 := R.off r4 (fun d j hd => (k2 _ _ (by unfold RdI at hd; omega)).1) (fun d j hd => (k2 _ _ (by unfold RdJ at hd; omega)).2) (fun i _ => ⟨(k2 _ _ (by omega)).1, (k2 _ _ (by omega)).1, (k2 _ _ (by omega)).2⟩)
  refine ref m2 _ S2 ((k2 _ _ (by omega)).1.trans a19) ((k2 _ _ (by omega)).1.trans a66) ((k2 _ _ (by omega)).1.trans a68) (fun z => absurd z h1) (fun _ z => absurd z h2) (fun _ _ z => absurd h3 z) (fun _ _ _ => ?_)
  have s3 := st0 m2
  have x3 : ∀ a j, ¬ (a = gz g + 145 ∧ j = 0) → (gz g + 128 ≤ a ∧ a < gz g + 184) ∨ a = gz g + 1 → mI (sI m2 (gz g + 145) 0 0) a j = mI m a j ∧ mL (sI m2 (gz g + 145) 0 0) a j = mL m a j := fun a j h1 h2 => ⟨(s3.2 a j h1).1.trans (k2 a j h2).1, (s3.2 a j h1).2.trans (k2 a j h2).2⟩
  generalize sI m2 (gz g + 145) 0 0 = m3 at s3 x3
  have S3 := s3.sg S2
  have F3 := s3.fr F2
  have R3 : LR g y r A m3 := R.off r4 (fun d j hd => (x3 _ _ (by unfold RdI at hd; omega) (by unfold RdI at hd; omega)).1) (fun d j hd => (x3 _ _ (by unfold RdJ at hd; omega) (by unfold RdJ at hd; omega)).2) (fun i _ => ⟨(x3 _ _ (by omega) (by omega)).1, (x3 _ _ (by omega) (by omega)).1, (x3 _ _ (by omega) (by omega)).2⟩)
  have t1 : mI m3 (gz g + 1) = mI m (gz g + 1) := funext fun j => (x3 _ _ (by omega) (by omega)).1
  have T3 : TermsOK g m3 := T.same t1 (fun j hj => (x3 _ _ (by omega) (by omega)).1)
  have TX3 : TxtOf g y cs m3 := by
    rcases TX with ⟨a, b⟩ | ⟨tx, L, a, b, c⟩
    · exact Or.inl ⟨(x3 _ _ (by omega) (by omega)).1.trans a, b⟩
    · exact Or.inr ⟨tx, L, a, ⟨(x3 _ _ (by omega) (by omega)).1.trans b.1, fun j hj => (x3 _ _ (by omega) (by omega)).1.trans (b.2 j hj)⟩, c⟩
  have TR3 : TellR g n y A m3 := TR.off (funext fun j => (x3 _ _ (by omega) (by omega)).1)
  obtain ⟨p2, G2, r24, ZD⟩ := G.year (g := g) h30 h3 hq T hY hD
  have bY : (B, r1) = yBd (mI m (gz g + 1)) n y (nI q) (yV (mI m (gz g + 1)) cs n y (nI q) (extA A m (cI (gz g + 2) pa) y) r) (verS (yV (mI m (gz g + 1)) cs n y (nI q) (extA A m (cI (gz g + 2) pa) y) r) (yF (mI m (gz g + 1)) n y (nI q) (extA A m (cI (gz g + 2) pa) y) r 1)) (extA A m (cI (gz g + 2) pa) y) r := hY.symm
  have eA2 : ∀ c i, ¬ (9 ≤ c ∧ c ≤ 13) → c ≠ 0 → mI (sI D 0 1 (nI (y + 1))) c i = mI B c i := fun c i h1 h2 => by
    rw [mI_sI, up2_oth h2, ZD c i h1 (by omega), patL_I (by omega)]
  have e16 : ∀ i, mI (sI D 0 1 (nI (y + 1))) 16 i = mI A 16 i := fun i => by
    rw [eA2 16 i (by omega) (by omega), show B = (B, r1).1 from rfl, bY, yBd_I h12 (by omega) (by omega) (by omega) (by omega) (by omega) (by omega) (by omega) (by omega)]
    exact extA_I (by omega)
  have eU : ∀ c i, vI 12 30 r2 c i → ((c = 17 ∨ c = 18) ∧ y + 1 ≤ i / 12 ∨ (c = 19 ∨ c = 20) ∧ y + 1 ≤ i) → mI (sI D 0 1 (nI (y + 1))) c i = mI A c i := fun c i hv hc => by
    have hv' : vI 12 30 r c i := by
      rcases hc with ⟨rfl | rfl, -⟩ | ⟨rfl | rfl, -⟩ <;> exact hv
    rw [eA2 c i (by omega) (by omega), show B = (B, r1).1 from rfl, bY]
    rw [← C30.1.1 c i hv']
    by_cases h18 : c = 18
    · subst h18
      rw [yBd_18 h12, if_neg (by omega)]
      exact extA_y (by omega)
    · rw [yBd_I h12 (by omega) (by omega) (by omega) (by omega) (by omega) (by omega) (by omega) (by omega)]
      exact extA_y (by omega)
  rw [← t1] at hY
  refine c_goR g (lv := lv) G h30 h3 hq S3 F3 R3 T3 TX3 TR3 hY H1 hp hD (fun j hj1 hj2 => ?_) (fun m4 R4 fs4 S4 F4 x4 x5 => ?_)
  · rw [(x3 _ _ (by omega) (by omega)).1, (x3 _ _ (by omega) (by omega)).1, extA_y (by omega), extA_y (by omega), C30.1.1 17 _ ⟨by omega, by omega⟩, C30.1.1 18 _ ⟨by omega, by omega⟩]
    exact ⟨R30.1.1 17 _ ⟨⟨by omega, by omega⟩, by omega, by omega⟩, R30.1.1 18 _ ⟨⟨by omega, by omega⟩, by omega, by omega⟩⟩
  have C3 : LC g pa2 30 r2 (sI D 0 1 (nI (y + 1))) m3 := C2.keepS F2 s3.fs (fun a j _ z => by have := z.1; omega)
  have C4 : LC g pa2 30 r2 (sI D 0 1 (nI (y + 1))) m4 := C3.keepS F3 fs4 (fun a j _ z => by have := PGr_rng z; omega)
  have x6 : ∀ a j, (gz g + 128 ≤ a ∧ a < gz g + 184) → ¬ (a = gz g + 145 ∧ j = 0) → ¬ PGr g y n a j → mI m4 a j = mI m a j := fun a j h1 h2 h3 => by
    rw [(fs4.2.2 a j (by have := F3.1; omega) h3).1, (x3 a j h2 (by omega)).1]
  refine ⟨rfl, ⟨F4, ?_⟩, Or.inr ⟨pa2, r2, p2, sI D 0 1 (nI (y + 1)), ⟨C4, R4.up (fun c i hv hc => ?_), ⟨fun hh j hj => ?_, fun j h1 h2 => ?_⟩, fun k j hk hj => ?_, G2⟩, epa, npa⟩⟩
  · have H14 := H1.2.2.2.1.2
    refine (((fs2.weak (P2 := PGo g pa r y n) (fun a j _ z => Or.inl z) (Nat.le_refl _)).trans s3.fs (fun a j _ z => Or.inr (Or.inr z))).trans fs4 (fun a j _ z => Or.inr (Or.inl z))).weak (fun _ _ _ z => z) (by omega)
  · rw [eU c i hv hc]
    have hv' : vI 12 30 r c i := by
      rcases hc with ⟨rfl | rfl, -⟩ | ⟨rfl | rfl, -⟩ <;> exact hv
    have hR := R30.1.1 c i ⟨hv', by omega, by omega⟩
    rcases hc with ⟨rfl | rfl, hi⟩ | ⟨rfl | rfl, hi⟩
    · exact (x6 (gz g + 159) i (by omega) (by omega) (fun z => by have := PGr_rng z; omega)).trans hR
    · exact (x6 (gz g + 162) i (by omega) (by omega) (fun z => by have := PGr_rng z; omega)).trans hR
    · exact (x6 (gz g + 160) i (by omega) (by omega) (fun z => by have := PGr_rng z; omega)).trans hR
    · exact (x6 (gz g + 161) i (by omega) (by omega) (fun z => by have := PGr_rng z; omega)).trans hR
  · rw [(x4 j hj).2.2, e16]
    exact ((G.2.2.2.1.2.2.2.1 (y + 1) j hh hj).2 (by omega)).symm
  · rw [x5 j h1, (x3 _ _ (by omega) (by omega)).1]; exact TR.2 j h1 h2
  · rw [e16]
    by_cases hky : k = y
    · subst hky
      obtain ⟨b1, b2, -⟩ := x4 j hj
      refine ⟨b2, fun z => ?_⟩
      rw [b1]
      unfold cropV
      rw [if_neg z]
    · rw [x6 _ _ (by omega) (by omega) (fun z => by have := PGr_rng z; omega), x6 _ _ (by omega) (by omega) (fun z => by have := PGr_rng z; omega)]
      exact WR k j (by omega) hj
