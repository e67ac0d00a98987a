/-! ===== every call keeps what holds between calls: the land ===== -/
theorem Inv.land {g : Gc} {k d : Nat} {P : Nat → Nat → Prop} {m m2 : Mm} (h : Inv g k m) (E : Ext m m2) (F2 : Fr g m2) (f : Fs g P d m m2) (hd : d ≤ 812) (L : Ld g m2) (hP : ∀ a j, a < gz g + mC m → P a j → (a < gz g + 184 ∧ a ≠ gz g + 144 ∧ a ≠ gz g + 1 ∧ ¬ (a = gz g + 145 ∧ ((5 ≤ j ∧ j ≤ 11) ∨ j = 15 ∨ j = 16)) ∧ ¬ (gz g + 141 ≤ a ∧ a ≤ gz g + 143) ∧ ¬ (gz g + 146 ≤ a ∧ a ≤ gz g + 148) ∧ a ≠ gz g + 128 ∧ a ≠ gz g + 129 ∧ a ≠ gz g + 139 ∧ ¬ (gz g + 152 ≤ a ∧ a ≤ gz g + 154)) ∨ (gz g + 184 ≤ a ∧ mK m a ≠ 5 ∧ mK m a ≠ 15)) : Inv g (k + 1) m2 := by
  obtain ⟨⟨S, F⟩, -, hb, ht, hl, -⟩ := id h
  have F1 := F.1
  exact h.next E F2 f hd (hb.keep F (S.ext E) f (fun a j h1 z => by have := hP a j (by omega) z; omega)) (ht.keep F f (fun a j h1 z => by have := hP a j (by omega) z; omega)) (hl.keep F f (fun a j h1 z => by
    rcases hP a j h1 z with q | q
    · exact Or.inl (by omega)
    · exact Or.inr q)) L
theorem Oth.keepG {g : Gc} {pb : Nat → Nat} {R d : Nat} {P : Nat → Nat → Prop} {m m2 : Mm} (h : Oth g pb R m) (F : Fr g m) (f : Fs g P d m m2) (hP : ∀ a j, a < gz g + 184 → P a j → ¬ (gz g + 65 ≤ a ∧ a < gz g + 128) ∧ ¬ (a = gz g + 169 ∧ j = 1)) (h8 : ∀ j, j < 8 → mL m2 (gz g + 178) (8 + j) = mL m (gz g + 178) (8 + j)) : Oth g pb R m2 := by
  obtain ⟨a1, ⟨a2, a3⟩, a4, a5, a6⟩ := h
  have F1 := F.1
  obtain ⟨E, ⟨c1, c2, c3⟩, fr⟩ := f
  have x : ∀ a j, a < gz g + 184 → ((gz g + 65 ≤ a ∧ a < gz g + 128) ∨ (a = gz g + 169 ∧ j = 1)) → mI m2 a j = mI m a j ∧ mL m2 a j = mL m a j ∧ mR m2 a j = mR m a j := fun a j h1 h2 => fr a j (by omega) (fun q => by have := hP a j h1 q; omega)
  refine ⟨a1, ⟨fun i hi => ?_, fun i h1 h2 => ?_⟩, a4, ?_, fun j hj => ?_⟩
  · obtain ⟨b1, b2, b3⟩ := a2 i hi
    exact ⟨by rw [(x (gz g + (65 + 4)) i (by omega) (by omega)).2.2]; exact b1, E.k b2 (by omega), by omega⟩
  · rw [(x (gz g + (65 + 4)) i (by omega) (by omega)).2.2]; exact a3 i h1 h2
  · rw [(x _ _ (by omega) (by omega)).1, (x _ _ (by omega) (by omega)).1]; exact a5
  · rw [(x _ _ (by omega) (by omega)).2.1, h8 j hj]; exact a6 j hj
theorem LC.withC {g : Gc} {pa : Nat → Nat} {y y' r d : Nat} {A A' m m2 : Mm} {P : Nat → Nat → Prop} (h : LC g pa y r A m) (F : Fr g m) (f : Fs g P d m m2) (c : LandC g 2 pa 12 y' r A' m2) (e12 : ∀ i, mI A' 12 i = mI A 12 i) (e13 : ∀ i, mI A' 13 i = mI A 13 i) (e3 : ∀ i, mL A' 3 i = mL A 3 i) (hP : ∀ a j, a < gz g + mC m → P a j → a < gz g + 184 ∧ a ≠ gz g + 6) : LC g pa y' r A' m2 := by
  obtain ⟨-, hp, hpap, hl⟩ := h
  obtain ⟨E, ⟨c1, c2, c3⟩, fr⟩ := f
  have F1 := F.1
  have x6 : ∀ j, mR m2 (gz g + (2 + 4)) j = mR m (gz g + (2 + 4)) j := fun j => (fr _ j (by omega) (fun q => by have := hP _ _ (by omega) q; omega)).2.2
  refine ⟨c, hp, ⟨fun i hi => ?_, fun i h1 h2 => by rw [x6]; exact hpap.2 i h1 h2⟩, fun i hi k hk => ?_⟩
  · obtain ⟨a1, a2, a3⟩ := hpap.1 i hi
    exact ⟨by rw [x6]; exact a1, E.k a2 (by omega), by omega⟩
  · obtain ⟨a1, a2, a3⟩ := hpap.1 i hi
    have h3 := hp.2 i hi
    rw [e12, e13, e3, (fr (pa i) (3 + k) a3 (fun q => by have := hP _ _ a3 q; omega)).2.2]
    refine (hl i hi k hk).same c1 (fun q hq hl' hu => ?_)
    have := fun j => fr q j hu (fun z => by have := hP q j hu z; omega)
    exact ⟨E.k hq (by omega), funext fun j => (this j).1, funext fun j => (this j).2.1⟩
theorem LR.withR {g : Gc} {y y' r d : Nat} {A A' m m2 : Mm} {P : Nat → Nat → Prop} (h : LR g y r A m) (F : Fr g m) (f : Fs g P d m m2) (c : LandR g 0 12 y' r A' m2) (e12 : ∀ i, mI A' 12 i = mI A 12 i) (e13 : ∀ i, mI A' 13 i = mI A 13 i) (e3 : ∀ i, mL A' 3 i = mL A 3 i) (hP : ∀ a j, a < gz g + 184 → P a j → ¬ (gz g + 179 ≤ a ∧ a ≤ gz g + 181)) : LR g y' r A' m2 := by
  have F1 := F.1
  have x : ∀ a j, gz g + 179 ≤ a → a ≤ gz g + 181 → mI m2 a j = mI m a j ∧ mL m2 a j = mL m a j := fun a j h1 h2 => by
    have := f.2.2 a j (by omega) (fun q => hP a j (by omega) q ⟨h1, h2⟩)
    exact ⟨this.1, this.2.1⟩
  refine ⟨c, fun i hi => ?_⟩
  rw [e12, e13, e3, (x _ _ (by omega) (by omega)).1, (x _ _ (by omega) (by omega)).1, (x _ _ (by omega) (by omega)).2]
  exact h.2 i hi
theorem LandC.upF {g : Gc} {pa : Nat → Nat} {y r d : Nat} {A A' m m2 : Mm} {P : Nat → Nat → Prop} (h : LandC g 2 pa 12 30 r A m) (F : Fr g m) (f : Fs g P d m m2) (c : LandC g 2 pa 12 y r A' m2) (eA : ∀ c i, ((c = 17 ∨ c = 18) ∧ y ≤ i / 12 ∨ (c = 19 ∨ c = 20) ∧ y ≤ i) → mI A' c i = mI A c i) (h17 : ∀ q k, q < 12 → y ≤ k → ¬ P (gz g + (16 + 4 * q)) k ∧ ¬ P (gz g + (17 + 4 * q)) k) (h19 : ∀ k, y ≤ k → ¬ P (gz g + 11) k ∧ ¬ P (gz g + 12) k) : LandC g 2 pa 12 30 r A' m2 := by
  have F1 := F.1
  refine c.up (fun c i hv hc => ?_)
  rw [eA c i hc, ← h.1 c i hv]
  rcases hc with ⟨rfl | rfl, hi⟩ | ⟨rfl | rfl, hi⟩
  · show mI m2 (gz g + 2 + 14 + 4 * (i % 12)) (i / 12) = mI m (gz g + 2 + 14 + 4 * (i % 12)) (i / 12)
    rw [show gz g + 2 + 14 + 4 * (i % 12) = gz g + (16 + 4 * (i % 12)) by omega]
    exact (f.2.2 _ _ (by omega) (h17 (i % 12) (i / 12) (by omega) hi).1).1
  · show mI m2 (gz g + 2 + 15 + 4 * (i % 12)) (i / 12) = mI m (gz g + 2 + 15 + 4 * (i % 12)) (i / 12)
    rw [show gz g + 2 + 15 + 4 * (i % 12) = gz g + (17 + 4 * (i % 12)) by omega]
    exact (f.2.2 _ _ (by omega) (h17 (i % 12) (i / 12) (by omega) hi).2).1
  · show mI m2 (gz g + 2 + 9) i = mI m (gz g + 2 + 9) i
    rw [show gz g + 2 + 9 = gz g + 11 by omega]
    exact (f.2.2 _ _ (by omega) (h19 i hi).1).1
  · show mI m2 (gz g + 2 + 10) i = mI m (gz g + 2 + 10) i
    rw [show gz g + 2 + 10 = gz g + 12 by omega]
    exact (f.2.2 _ _ (by omega) (h19 i hi).2).1
theorem LR.upF {g : Gc} {y r d : Nat} {A A' m m2 : Mm} {P : Nat → Nat → Prop} (h : LR g 30 r A m) (F : Fr g m) (f : Fs g P d m m2) (c : LR g y r A' m2) (eA : ∀ c i, ((c = 17 ∨ c = 18) ∧ y ≤ i / 12 ∨ (c = 19 ∨ c = 20) ∧ y ≤ i) → mI A' c i = mI A c i) (h17 : ∀ i, 12 * y ≤ i → ¬ P (gz g + 159) i ∧ ¬ P (gz g + 162) i) (h19 : ∀ k, y ≤ k → ¬ P (gz g + 160) k ∧ ¬ P (gz g + 161) k) : LR g 30 r A' m2 := by
  have F1 := F.1
  refine c.up (fun c i hv hc => ?_)
  rw [eA c i hc, ← h.1.1 c i ⟨hv, by omega, by omega⟩]
  rcases hc with ⟨rfl | rfl, hi⟩ | ⟨rfl | rfl, hi⟩
  · exact (f.2.2 (gz g + 159) i (by omega) (h17 i (by omega)).1).1
  · exact (f.2.2 (gz g + 162) i (by omega) (h17 i (by omega)).2).1
  · exact (f.2.2 (gz g + 160) i (by omega) (h19 i hi).1).1
  · exact (f.2.2 (gz g + 161) i (by omega) (h19 i hi).2).1
theorem WasR.keep {g : Gc} {n y d : Nat} {A A' m m2 : Mm} {P : Nat → Nat → Prop} (h : WasR g n y A m) (F : Fr g m) (f : Fs g P d m m2) (e : ∀ k j, k < y → j < n → mI A' 16 (12 * k + j) = mI A 16 (12 * k + j)) (hP : ∀ a j, a < gz g + 184 → P a j → a ≠ gz g + 158 ∧ a ≠ gz g + 163) : WasR g n y A' m2 := fun k j hk hj => by
  have F1 := F.1
  rw [e k j hk hj, (f.2.2 (gz g + 163) _ (by omega) (fun q => (hP _ _ (by omega) q).2 rfl)).1, (f.2.2 (gz g + 158) _ (by omega) (fun q => (hP _ _ (by omega) q).1 rfl)).1]
  exact h k j hk hj
theorem TellR.keep {g : Gc} {n y d : Nat} {A m m2 : Mm} {P : Nat → Nat → Prop} (h : TellR g n y A m) (F : Fr g m) (f : Fs g P d m m2) (hP : ∀ a j, a < gz g + 184 → P a j → a ≠ gz g + 157) : TellR g n y A m2 := by
  have F1 := F.1
  exact h.off (funext fun j => (f.2.2 (gz g + 157) j (by omega) (fun q => hP _ _ (by omega) q rfl)).1)
def XBk (g : Gc) (a j : Nat) : Prop := (gz g + 62 ≤ a ∧ a ≤ gz g + 64) ∨ a = gz g + 150 ∨ a = gz g + 151 ∨ (a = gz g + 145 ∧ j = 0)
theorem WB_n : ∀ w, w ∈ WB → (62 ≤ w ∧ w ≤ 64) ∨ w = 150 ∨ w = 151 := by decide
theorem i_bank (g : Gc) {k : Nat} {m : Mm} (h : Inv g k m) (a b c : Int32) : SimI g M_SL_bank M_RF_bank 999 [.int a, .int b, .int c] m (Inv g (k + 1)) := by
  obtain ⟨n, y, p, r, A, pa, pb, R, ⟨C, RR, TR, WR, G⟩, O, D⟩ := id h.2.2.2.2.2
  obtain ⟨S, F⟩ := h.1
  refine (sim_bank g (lv := 997) S (⟨C.1, RR.1⟩ : LandB g pa 30 r A m) C.2.1 a b c).monoE (fun m2 q E => ?_)
  obtain ⟨o, q⟩ := q
  have f : Fs g (XBk g) 0 m m2 := o.num E _ (fun w hw j => by have := WB_n w hw; unfold XBk; omega) (fun j hj => (by
      have hj' : j = 0 := by simpa using hj
      unfold XBk
      omega))
  have O2 := O.keepF F f (fun a j _ z => by unfold XBk at z; omega)
  refine h.land E (o.fr F) f (by omega) ?_ (fun a j _ z => by unfold XBk at z; omega)
  rcases q with q | ⟨j, p', q', hj, hp', hq', q⟩
  · exact ⟨n, y, p, r, A, pa, pb, R, ⟨C.withC F f q.1 (fun _ => rfl) (fun _ => rfl) (fun _ => rfl) (fun a j _ z => by unfold XBk at z; omega), RR.withR F f q.2 (fun _ => rfl) (fun _ => rfl) (fun _ => rfl) (fun a j _ z => by unfold XBk at z; omega), TR.keep F f (fun a j _ z => by unfold XBk at z; omega), WR.keep F f (fun _ _ _ _ => rfl) (fun a j _ z => by unfold XBk at z; omega), G⟩, O2, D⟩
  · have e : ∀ c i, c ≠ 21 → c ≠ 22 → mI (sI (sI A 21 j (nI p')) 22 j (nI q')) c i = mI A c i := fun c i h1 h2 => by rw [mI_sI, up2_oth h2, mI_sI, up2_oth h1]
    exact ⟨n, y, p, r, _, pa, pb, R, ⟨C.withC F f q.1 (fun i => e 12 i (by omega) (by omega)) (fun i => e 13 i (by omega) (by omega)) (fun _ => rfl) (fun a j _ z => by unfold XBk at z; omega), RR.withR F f q.2 (fun i => e 12 i (by omega) (by omega)) (fun i => e 13 i (by omega) (by omega)) (fun _ => rfl) (fun a j _ z => by unfold XBk at z; omega), (TR.congr (funext fun i => e 16 i (by omega) (by omega))).keep F f (fun a j _ z => by unfold XBk at z; omega), WR.keep F f (fun _ _ _ _ => e 16 _ (by omega) (by omega)) (fun a j _ z => by unfold XBk at z; omega), G.bank hp' hq'⟩, O2, D⟩
def XGr (g : Gc) (a j : Nat) : Prop := a = gz g + 2 ∨ (gz g + 14 ≤ a ∧ a ≤ gz g + 59) ∨ a = gz g + 155 ∨ a = gz g + 156 ∨ a = gz g + 170 ∨ (a = gz g + 145 ∧ (j = 0 ∨ j = 19))
theorem WG_n : ∀ w, w ∈ WG → w = 2 ∨ (14 ≤ w ∧ w ≤ 59) ∨ w = 155 ∨ w = 156 ∨ w = 170 := by decide
theorem i_grower (g : Gc) {k : Nat} {m : Mm} (h : Inv g k m) (a b : Int32) : SimI g M_SL_grower M_RF_grower 999 [.int a, .int b] m (Inv g (k + 1)) := by
  obtain ⟨n, y, p, r, A, pa, pb, R, ⟨C, RR, TR, WR, G⟩, O, D⟩ := id h.2.2.2.2.2
  obtain ⟨S, F⟩ := h.1
  have y0 : mI A 0 1 ≤ 0 → y = 0 := fun z => by
    rw [G.1.2.2.2.2.2.1] at z
    have h30 := G.2.1.2.1
    rcases Nat.eq_zero_or_pos y with e | e
    · exact e
    · exact absurd z (nI_nle e (by omega))
  refine (sim_grower g (lv := 995) S (⟨C.1, RR.1⟩ : LandB g pa 30 r A m) C.2.1 G.1.2.2.2.2.1 G.2.1.1 (fun z => G.2.2.2.2.2.2 (y0 z)) a b).monoE (fun m2 q E => ?_)
  obtain ⟨o, q⟩ := q
  have f : Fs g (XGr g) 0 m m2 := o.num E _ (fun w hw j => by have := WG_n w hw; unfold XGr; omega) (fun j hj => (by
      have hj' : j = 0 ∨ j = 19 := by simpa using hj
      unfold XGr
      omega))
  have O2 := O.keepF F f (fun a j _ z => by unfold XGr at z; omega)
  refine h.land E (o.fr F) f (by omega) ?_ (fun a j _ z => by unfold XGr at z; omega)
  rcases q with q | ⟨hn, hy, v', a', hv', ha', q⟩
  · exact ⟨n, y, p, r, A, pa, pb, R, ⟨C.withC F f q.1 (fun _ => rfl) (fun _ => rfl) (fun _ => rfl) (fun a j _ z => by unfold XGr at z; omega), RR.withR F f q.2 (fun _ => rfl) (fun _ => rfl) (fun _ => rfl) (fun a j _ z => by unfold XGr at z; omega), TR.keep F f (fun a j _ z => by unfold XGr at z; omega), WR.keep F f (fun _ _ _ _ => rfl) (fun a j _ z => by unfold XGr at z; omega), G⟩, O2, D⟩
  · have hy0 := y0 hy
    subst hy0
    have e : ∀ c i, c = 12 ∨ c = 13 → mI (come A n (nI v') (nI a')) c i = mI A c i := fun c i hc => come_I (by omega) (by omega) (by omega)
    have t2 : ∀ j, mI m2 (gz g + 157) j = mI m (gz g + 157) j := fun j => (f.2.2 (gz g + 157) j (by have := F.1; omega) (by unfold XGr; omega)).1
    refine ⟨n + 1, 0, p, r, _, pa, pb, R, ⟨C.withC F f q.1 (fun i => e 12 i (by omega)) (fun i => e 13 i (by omega)) (fun _ => rfl) (fun a j _ z => by unfold XGr at z; omega), RR.withR F f q.2 (fun i => e 12 i (by omega)) (fun i => e 13 i (by omega)) (fun _ => rfl) (fun a j _ z => by unfold XGr at z; omega), ⟨fun _ j hj => ?_, fun j h1 h2 => ?_⟩, fun k j hk => absurd hk (by omega), G.grower hn hv' ha'⟩, O2, D⟩
    · rw [t2]
      by_cases hjn : j = n
      · subst hjn
        rw [come_at.2.2.2.2 _ (by omega) (by omega)]
        exact TR.2 j (Nat.le_refl _) hn
      · rw [come_I (by omega) (by omega) (by omega)]
        exact TR.1 (by omega) j (by omega)
    · rw [t2]; exact TR.2 j (by omega) h2
def XCr (g : Gc) (a j : Nat) : Prop := (∃ q, q < 12 ∧ a = gz g + (15 + 4 * q)) ∨ a = gz g + 157 ∨ (a = gz g + 145 ∧ j = 0)
theorem WC_n : ∀ w, w ∈ WC → (∃ q, q < 12 ∧ w = 15 + 4 * q) ∨ w = 157 := by
  intro w hw
  have : w = 157 ∨ (15 ≤ w ∧ w ≤ 59 ∧ w % 4 = 3) := by
    have key : ∀ w, w ∈ WC → w = 157 ∨ (15 ≤ w ∧ w ≤ 59 ∧ w % 4 = 3) := by decide
    exact key w hw
  rcases this with z | z
  · exact Or.inr z
  · exact Or.inl ⟨(w - 15) / 4, by omega, by omega⟩
/-- the land after some crops were told -/
theorem crop_Ld {g : Gc} {n y p r R : Nat} {A B m m2 : Mm} {pa pb : Nat → Nat} (F : Fr g m) (C : LC g pa 30 r A m) (RR : LR g 30 r A m) (WR : WasR g n y A m) (G : Good n y p r A) (O : Oth g pb R m) (D : ∀ i j, i < r → j < R → pa i ≠ pb j) (f : Fs g (XCr g) 0 m m2) (q : LandB g pa y r B m2) (T2 : TellR g n y B m2) (e : ∀ c i, c ≠ 16 → mI B c i = mI A c i) (eL : mL B = mL A) (e16 : ∀ i, i / 12 ≠ y → mI B 16 i = mI A 16 i) (ht : ToldOK n y B) : Ld g m2 := by
  have x : ∀ {a j : Nat}, XCr g a j → a < gz g + 145 → ∃ q, q < 12 ∧ a = gz g + (15 + 4 * q) := fun z h => by
    rcases z with z | z | z
    · exact z
    · omega
    · omega
  have nl : ∀ a j, a < gz g + mC m → XCr g a j → a < gz g + 184 ∧ a ≠ gz g + 6 := fun a j _ z => by
    rcases z with ⟨w, hw, rfl⟩ | z | z
    · omega
    · omega
    · omega
  have c30 : LandC g 2 pa 12 30 r B m2 := C.1.upF F f q.1 (fun c i hc => e c i (by omega)) (fun w k hw _ => ⟨fun z => by
      obtain ⟨v, hv, ev⟩ := x z (by omega)
      omega, fun z => by
      obtain ⟨v, hv, ev⟩ := x z (by omega)
      omega⟩) (fun k _ => ⟨fun z => by
      obtain ⟨v, hv, ev⟩ := x z (by omega)
      omega, fun z => by
      obtain ⟨v, hv, ev⟩ := x z (by omega)
      omega⟩)
  have hi : ∀ a j, gz g + 145 < a → a ≠ gz g + 157 → ¬ XCr g a j := fun a j h1 h2 z => by
    rcases z with ⟨w, hw, rfl⟩ | z | z
    · omega
    · omega
    · omega
  have LRy : LR g y r B m2 := (RR.down G.2.1.2.1).withR F f q.2 (fun i => e 12 i (by omega)) (fun i => e 13 i (by omega)) (fun i => by rw [eL]) (fun a j _ z h' => hi a j (by omega) (by omega) z)
  refine ⟨n, y, p, r, B, pa, pb, R, ⟨C.withC F f c30 (fun i => e 12 i (by omega)) (fun i => e 13 i (by omega)) (fun i => by rw [eL]) nl, RR.upF F f LRy (fun c i hc => e c i (by omega)) (fun i _ => ⟨hi _ _ (by omega) (by omega), hi _ _ (by omega) (by omega)⟩) (fun i _ => ⟨hi _ _ (by omega) (by omega), hi _ _ (by omega) (by omega)⟩), T2, WR.keep F f (fun k j hk hj => e16 _ (by have := G.2.1.1; omega)) (fun a j _ z => ⟨fun h => hi a j (by omega) (by omega) z, fun h => hi a j (by omega) (by omega) z⟩), G.told e eL ht⟩, O.keepF F f (fun a j h1 z => ?_), D⟩
  rcases z with ⟨w, hw, rfl⟩ | z | z
  · omega
  · omega
  · omega
theorem i_crop (g : Gc) {k : Nat} {m : Mm} (h : Inv g k m) (a b : Int32) : SimI g M_SL_crop M_RF_crop 999 [.int a, .int b] m (Inv g (k + 1)) := by
  obtain ⟨n, y, p, r, A, pa, pb, R, ⟨C, RR, TR, WR, G⟩, O, D⟩ := id h.2.2.2.2.2
  obtain ⟨S, F⟩ := h.1
  refine (sim_crop g (lv := 996) S (⟨(C.down G.2.1.2.1).1, (RR.down G.2.1.2.1).1⟩ : LandB g pa y r A m) C.2.1 G.1.2.2.2.2.1 G.2.1.1 G.1.2.2.2.2.2.1 G.2.1.2.1 TR a b).monoE (fun m2 q E => ?_)
  obtain ⟨o, q⟩ := q
  have f : Fs g (XCr g) 0 m m2 := o.num E _ (fun w hw j => by
      rcases WC_n w hw with ⟨v, hv, rfl⟩ | rfl
      · exact Or.inl ⟨v, hv, rfl⟩
      · exact Or.inr (Or.inl rfl)) (fun j hj => Or.inr (Or.inr ⟨rfl, by simpa using hj⟩))
  refine h.land E (o.fr F) f (by omega) ?_ (fun a j _ z => Or.inl (by
    rcases z with ⟨w, hw, rfl⟩ | z | z
    · omega
    · omega
    · omega))
  have n12 := G.2.1.1
  rcases q with ⟨q, T2⟩ | ⟨j, s', hj, hs', q, T2⟩
  · exact crop_Ld F C RR WR G O D f q T2 (fun _ _ _ => rfl) rfl (fun _ _ => rfl) G.2.2.2.1.2.2.2.1
  · exact crop_Ld F C RR WR G O D f q T2 (fun c i hc => tell_oth hc) tell_L (fun i hi => by rw [tellA_16, if_neg (by omega)]) (G.2.2.2.1.2.2.2.1.tell (by omega) hs')
theorem i_crops (g : Gc) {k : Nat} {m : Mm} (h : Inv g k m) (a : Int32) : SimI g M_SL_crops M_RF_crops 999 [.int a] m (Inv g (k + 1)) := by
  obtain ⟨n, y, p, r, A, pa, pb, R, ⟨C, RR, TR, WR, G⟩, O, D⟩ := id h.2.2.2.2.2
  obtain ⟨S, F⟩ := h.1
  refine (sim_crops g (lv := 995) S h.2.2.1.2.2 (⟨(C.down G.2.1.2.1).1, (RR.down G.2.1.2.1).1⟩ : LandB g pa y r A m) C.2.1 G.1.2.2.2.2.1 G.2.1.1 G.1.2.2.2.2.2.1 G.2.1.2.1 TR a).monoE (fun m2 q E => ?_)
  obtain ⟨o, q⟩ := q
  have f : Fs g (XCr g) 0 m m2 := o.num E _ (fun w hw j => by
      rcases WC_n w hw with ⟨v, hv, rfl⟩ | rfl
      · exact Or.inl ⟨v, hv, rfl⟩
      · exact Or.inr (Or.inl rfl)) (fun j hj => Or.inr (Or.inr ⟨rfl, by simpa using hj⟩))
  refine h.land E (o.fr F) f (by omega) ?_ (fun a j _ z => Or.inl (by
    rcases z with ⟨w, hw, rfl⟩ | z | z
    · omega
    · omega
    · omega))
  have n12 := G.2.1.1
  rcases q with ⟨q, T2⟩ | ⟨fv, hf, q, T2⟩
  · exact crop_Ld F C RR WR G O D f q T2 (fun _ _ _ => rfl) rfl (fun _ _ => rfl) G.2.2.2.1.2.2.2.1
  · exact crop_Ld F C RR WR G O D f q T2 (fun c i hc => tellNA_oth hc n) (tellNA_L n) (fun i hi => tellNA_16 hi n n12) (G.2.2.2.1.2.2.2.1.tellN n12 hf n (Nat.le_refl _))
theorem PRt_lo {g : Gc} {y a j : Nat} (z : PRt g y a j) : (gz g + 14 ≤ a ∧ a ≤ gz g + 60 ∧ (a - gz g) % 4 = 2) ∨ (gz g + 16 ≤ a ∧ a ≤ gz g + 60 ∧ (a - gz g) % 4 = 0 ∧ j < y) ∨ (a = gz g + 159 ∧ j < 12 * y) ∨ a = gz g + 173 ∨ (a = gz g + 145 ∧ j = 0) := by
  rcases z with ⟨q, hq, rfl⟩ | ⟨q, hq, rfl, hj⟩ | z | z | z
  · omega
  · omega
  · omega
  · omega
  · omega
theorem i_right (g : Gc) {k : Nat} {m : Mm} (h : Inv g k m) (a b c : Int32) : SimI g M_SL_right M_RF_right 999 [.int a, .int b, .int c] m (Inv g (k + 1)) := by
  obtain ⟨n, y, p, r, A, pa, pb, R, ⟨C, RR, TR, WR, G⟩, O, D⟩ := id h.2.2.2.2.2
  obtain ⟨S, F⟩ := h.1
  refine (sim_right g (lv := 996) S (⟨(C.down G.2.1.2.1).1, (RR.down G.2.1.2.1).1⟩ : LandB g pa y r A m) C.2.1 G.1.2.2.2.2.1 G.2.1.1 G.1.2.2.2.2.2.1 G.2.1.2.1 a b c).monoE (fun m2 q E => ?_)
  obtain ⟨s, q⟩ := q
  have f : Fs g (PRt g y) 0 m m2 := s.fs
  have O2 := O.keepF F f (fun a j _ z => by have := PRt_lo z; omega)
  refine h.land E (s.fr F) f (by omega) ?_ (fun a j _ z => by have := PRt_lo z; omega)
  have n12 := G.2.1.1
  have fin : ∀ B, LandB g pa y r B m2 → (∀ c i, ¬ (c = 17 ∧ i / 12 < y) → mI B c i = mI A c i) → (∀ i, mL B 3 i = mL A 3 i) → Good n y p r B → Ld g m2 := fun B q e eL GB => by
    have LRy : LR g y r B m2 := (RR.down G.2.1.2.1).withR F f q.2 (fun i => e 12 i (by omega)) (fun i => e 13 i (by omega)) eL (fun a j _ z h' => by have := PRt_lo z; omega)
    exact ⟨n, y, p, r, B, pa, pb, R, ⟨C.withC F f (C.1.upF F f q.1 (fun c i hc => e c i (by omega)) (fun w k hw hk => ⟨fun z => by have := PRt_lo z; omega, fun z => by have := PRt_lo z; omega⟩) (fun k hk => ⟨fun z => by have := PRt_lo z; omega, fun z => by have := PRt_lo z; omega⟩)) (fun i => e 12 i (by omega)) (fun i => e 13 i (by omega)) eL (fun a j _ z => by have := PRt_lo z; omega), RR.upF F f LRy (fun c i hc => e c i (by omega)) (fun i hi => ⟨fun z => by have := PRt_lo z; omega, fun z => by have := PRt_lo z; omega⟩) (fun i hi => ⟨fun z => by have := PRt_lo z; omega, fun z => by have := PRt_lo z; omega⟩), (TR.congr (funext fun i => e 16 i (by omega))).keep F f (fun a j _ z => by have := PRt_lo z; omega), WR.keep F f (fun k j _ _ => e 16 _ (by omega)) (fun a j _ z => by have := PRt_lo z; omega), GB⟩, O2, D⟩
  rcases q with q | ⟨j, k', s', hj, hk', hs', q⟩
  · exact fin A q (fun _ _ _ => rfl) (fun _ => rfl) G
  · refine fin _ q (fun c i hc => ?_) (fun i => ?_) (G.right hk')
    · unfold rightA
      rw [mI_sI, up2_not (by omega), mI_sL]
    · unfold rightA
      rw [mL_sI, mL_sL, up2_oth (by omega)]
