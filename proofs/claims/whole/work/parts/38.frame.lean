/-! ===== frames with new cells; the store's papers; loans ===== -/
theorem wi_in {j n : Nat} (hj : j < n) (hn : n < 2 ^ 31) : wi (nI j) 0 (nI n - 1) = 1 := by
  rw [nI_m1 (by omega)]
  unfold wi
  rw [if_neg (nI_pos (by omega)), if_neg]
  intro h
  exact absurd (nI_le (show j ≤ n - 1 by omega) (by omega)) (by rw [i32_le]; rw [i32_lt] at h; omega)
theorem gr_ofN {x : Int32} {n : Nat} (hn : n < 2 ^ 31) (h : ¬ wi x 0 (nI n - 1) = 0) : ∃ j : Nat, j < n ∧ x = nI j := by
  rcases Nat.eq_zero_or_pos n with rfl | hp
  · exact absurd (wi_eq0.2 (by
      by_cases q : x < 0
      · exact Or.inl q
      · refine Or.inr ?_
        rw [i32_lt] at q ⊢
        have := (nI_m1_12 0 (by omega)).1
        have z : (0 : Int32).toInt = 0 := rfl
        omega)) h
  · obtain ⟨j, -, hj, e⟩ := wi_rng (a := 0) (c := n - 1) rfl (nI_m1 hp) (by omega) (by omega) h
    exact ⟨j, by omega, e⟩
/-- room: the cells behind the last are free -/
def Fr (g : Gc) (m : Mm) : Prop := 184 ≤ mC m ∧ ∀ a, gz g + mC m ≤ a → mK m a = 0
/-- nothing changed but the cells of P, and these numbers of the reference's object; at most d cells (of at most 5 slots) have come -/
def Fm (g : Gc) (P : Nat → Prop) (ss : List Nat) (d : Nat) (m m' : Mm) : Prop := Ext m m' ∧ (mC m ≤ mC m' ∧ mC m' ≤ mC m + d ∧ mS m' ≤ mS m + 5 * d) ∧ (∀ a, a < gz g + mC m → ¬ P a → a ≠ gz g + 145 → Eqr m m' a) ∧ mL m' (gz g + 145) = mL m (gz g + 145) ∧ mR m' (gz g + 145) = mR m (gz g + 145) ∧ ∀ j, j ∉ ss → mI m' (gz g + 145) j = mI m (gz g + 145) j
theorem Fm.refl (g : Gc) (P : Nat → Prop) (ss : List Nat) (d : Nat) (m : Mm) : Fm g P ss d m m := ⟨Ext.refl m, ⟨by omega, by omega, by omega⟩, fun _ _ _ _ => Eqr.refl _ _, rfl, rfl, fun _ _ => rfl⟩
theorem Fm.trans {g : Gc} {P P2 : Nat → Prop} {ss : List Nat} {d d2 : Nat} {m m1 m2 : Mm} (h : Fm g P ss d m m1) (h2 : Fm g P2 ss d2 m1 m2) (hP : ∀ a, a < gz g + mC m → P2 a → P a) : Fm g P ss (d + d2) m m2 := by
  obtain ⟨e, ⟨c1, c2, c3⟩, f, l, r, j⟩ := h
  obtain ⟨e', ⟨c1', c2', c3'⟩, f', l', r', j'⟩ := h2
  refine ⟨e.trans e', ⟨by omega, by omega, by omega⟩, fun a ha hn h145 => (f a ha hn h145).trans (f' a (by omega) (fun q => hn (hP a ha q)) h145), l'.trans l, r'.trans r, fun i hi => (j' i hi).trans (j i hi)⟩
theorem Fm.weak {g : Gc} {P P2 : Nat → Prop} {ss ss2 : List Nat} {d d2 : Nat} {m m1 : Mm} (h : Fm g P ss d m m1) (hP : ∀ a, a < gz g + mC m → P a → P2 a) (hs : ∀ j, j ∈ ss → j ∈ ss2) (hd : d ≤ d2) : Fm g P2 ss2 d2 m m1 := by
  obtain ⟨e, ⟨c1, c2, c3⟩, f, l, r, j⟩ := h
  exact ⟨e, ⟨by omega, by omega, by omega⟩, fun a ha hn h145 => f a ha (fun q => hn (hP a ha q)) h145, l, r, fun i hi => j i (fun q => hi (hs i q))⟩
theorem Fm_sI {g : Gc} {P : Nat → Prop} {ss : List Nat} (m : Mm) {a : Nat} (hP : P a) (h145 : a ≠ gz g + 145) (j : Nat) (v : Int32) : Fm g P ss 0 m (sI m a j v) := by
  refine ⟨Ext.sI m a j v, ⟨by rw [mC_sI]; omega, by rw [mC_sI]; omega, by rw [mS_sI]; omega⟩, fun b _ hn _ => Eqr.sI (fun e => hn (by rw [e]; exact hP)), rfl, rfl, fun i _ => ?_⟩
  rw [mI_sI, up2_oth (by omega)]
theorem Fm_sL {g : Gc} {P : Nat → Prop} {ss : List Nat} (m : Mm) {a : Nat} (hP : P a) (h145 : a ≠ gz g + 145) (j : Nat) (v : Int64) : Fm g P ss 0 m (sL m a j v) := by
  refine ⟨Ext.sL m a j v, ⟨by rw [mC_sL]; omega, by rw [mC_sL]; omega, by rw [mS_sL]; omega⟩, fun b _ hn _ => Eqr.sL (fun e => hn (by rw [e]; exact hP)), ?_, rfl, fun i _ => rfl⟩
  rw [mL_sL]
  exact up2_ne (by omega)
theorem Fm_sR {g : Gc} {P : Nat → Prop} {ss : List Nat} (m : Mm) {a : Nat} (hP : P a) (h145 : a ≠ gz g + 145) (j : Nat) (v : Option Nat) (hE : finR (mK m a) j = false ∨ mR m a j = none) : Fm g P ss 0 m (sR m a j v) := by
  refine ⟨Ext.sR v hE, ⟨by rw [mC_sR]; omega, by rw [mC_sR]; omega, by rw [mS_sR]; omega⟩, fun b _ hn _ => Eqr.sR (fun e => hn (by rw [e]; exact hP)), rfl, ?_, fun i _ => rfl⟩
  rw [mR_sR]
  exact up2_ne (by omega)
theorem Fm_sM {g : Gc} {P : Nat → Prop} {ss : List Nat} (m : Mm) {j : Nat} (hj : j ∈ ss) (v : Int32) : Fm g P ss 0 m (sI m (gz g + 145) j v) :=
  ⟨Ext.sI m _ j v, ⟨by rw [mC_sI]; omega, by rw [mC_sI]; omega, by rw [mS_sI]; omega⟩, fun b _ _ h => Eqr.sI h, rfl, rfl, fun i hi => by rw [mI_sI, up2_sl (fun e => hi (by rw [e]; exact hj))]⟩
theorem Fm_nw {g : Gc} {P : Nat → Prop} {ss : List Nat} (m : Mm) (hF : Fr g m) (k n sz : Nat) (hz : sz ≤ 5) : Fm g P ss 1 m (nw m (gz g + mC m) k n sz) := by
  have h145 : gz g + 145 ≠ gz g + mC m := by have := hF.1; omega
  refine ⟨Ext.nw (hF.2 _ (Nat.le_refl _)) k n sz, ⟨by show mC m ≤ mC m + 1; omega, by show mC m + 1 ≤ mC m + 1; omega, by show mS m + sz ≤ mS m + 5 * 1; omega⟩, fun a ha _ _ => ?_, ?_, ?_, fun j _ => ?_⟩
  · have : a ≠ gz g + mC m := by omega
    refine ⟨?_, ?_, ?_⟩
    · show va_up (mI m) _ _ a = _; simp [va_up, this]
    · show va_up (mL m) _ _ a = _; simp [va_up, this]
    · show va_up (mR m) _ _ a = _; simp [va_up, this]
  · show va_up (mL m) _ _ (gz g + 145) = _; simp only [va_up]; rw [if_neg h145]
  · show va_up (mR m) _ _ (gz g + 145) = _; simp only [va_up]; rw [if_neg h145]
  · show va_up (mI m) _ _ (gz g + 145) j = _; simp only [va_up]; rw [if_neg h145]
theorem Only.fm {g : Gc} {P : Nat → Prop} {W ss : List Nat} {m m' : Mm} (h : Only g W ss m m') (E : Ext m m') (hW : ∀ w, w ∈ W → P (gz g + w)) : Fm g P ss 0 m m' :=
  ⟨E, ⟨by rw [h.1.2.2.1]; omega, by rw [h.1.2.2.1]; omega, by rw [h.1.2.2.2]; omega⟩, fun a _ hn h145 => h.2.1 a (fun w hw e => hn (by rw [e]; exact hW w hw)) h145, h.2.2.1, h.2.2.2.1, h.2.2.2.2⟩
theorem Fr_nw {g : Gc} {m : Mm} (h : Fr g m) (k n sz : Nat) : Fr g (nw m (gz g + mC m) k n sz) := by
  refine ⟨by show 184 ≤ mC m + 1; have := h.1; omega, fun a ha => ?_⟩
  have ha2 : gz g + (mC m + 1) ≤ a := ha
  show va_up (mK m) _ _ a = 0
  simp only [va_up]
  rw [if_neg (by omega)]
  exact h.2 a (by omega)
/-- the papers of a store: R were made -/
def Pap (g : Gc) (t : Nat) (pa : Nat → Nat) (R : Nat) (m : Mm) : Prop := (∀ i, i < R → mR m (gz g + (t + 4)) i = some (pa i) ∧ mK m (pa i) = 7 ∧ pa i < gz g + mC m) ∧ ∀ i, R ≤ i → i < 400 → mR m (gz g + (t + 4)) i = none
/-- one loan -/
def LnOne (g : Gc) (m : Mm) (o : Option Nat) (b d : Int32) (w : Int64) : Prop := (o = none ∧ b = -1) ∨ ∃ q bb : Nat, o = some q ∧ mK m q = 6 ∧ gz g + 184 ≤ q ∧ q < gz g + mC m ∧ bb < 3 ∧ b = nI bb ∧ mI m q 0 = b ∧ mI m q 1 = d ∧ mL m q 2 = w
def LnC (g : Gc) (pa : Nat → Nat) (r : Nat) (A m : Mm) : Prop := ∀ i, i < r → ∀ k, k < 2 → LnOne g m (mR m (pa i) (3 + k)) (mI A 12 (2 * i + k)) (mI A 13 (2 * i + k)) (mL A 3 (2 * i + k))
def LnR (g : Gc) (r : Nat) (A m : Mm) : Prop := ∀ i, i < 2 * r → mI m (gz g + 179) i = mI A 12 i ∧ (¬ mI A 12 i = -1 → mI m (gz g + 180) i = mI A 13 i ∧ mL m (gz g + 181) i = mL A 3 i)
/-- the main land of the class; that of the reference -/
def LC (g : Gc) (pa : Nat → Nat) (y r : Nat) (A m : Mm) : Prop := LandC g 2 pa 12 y r A m ∧ PaOK g pa r ∧ Pap g 2 pa r m ∧ LnC g pa r A m
def LR (g : Gc) (y r : Nat) (A m : Mm) : Prop := LandR g 0 12 y r A m ∧ LnR g r A m
theorem LnOne.same {g : Gc} {m m' : Mm} {o : Option Nat} {b d : Int32} {w : Int64} (h : LnOne g m o b d w) (hC : mC m ≤ mC m') (hs : ∀ q, mK m q = 6 → gz g + 184 ≤ q → q < gz g + mC m → mK m' q = 6 ∧ mI m' q = mI m q ∧ mL m' q = mL m q) : LnOne g m' o b d w := by
  rcases h with h | ⟨q, bb, e, k, l, u, h3, hb, h0, h1, h2⟩
  · exact Or.inl h
  · obtain ⟨a1, a2, a3⟩ := hs q k l u
    exact Or.inr ⟨q, bb, e, a1, l, by omega, h3, hb, by rw [a2]; exact h0, by rw [a2]; exact h1, by rw [a3]; exact h2⟩
theorem LC.keep {g : Gc} {pa : Nat → Nat} {y r d : Nat} {A m m' : Mm} {P : Nat → Prop} {ss : List Nat} (h : LC g pa y r A m) (hF : Fr g m) (f : Fm g P ss d m m') (hP : ∀ a, a < gz g + mC m → P a → a < gz g + 184 ∧ ¬ (gz g + 2 ≤ a ∧ a < gz g + 65)) : LC g pa y r A m' := by
  obtain ⟨hc, hp, hpap, hl⟩ := h
  obtain ⟨E, ⟨c1, c2, c3⟩, fr, -, -, -⟩ := f
  have h184 := hF.1
  have st : ∀ a, gz g + 2 ≤ a → a < gz g + 65 → Eqr m m' a := fun a h1 h2 => fr a (by omega) (fun q => (hP a (by omega) q).2 ⟨h1, h2⟩) (by omega)
  have rc : ∀ k, k < r → Eqr m m' (pa k) := fun k hk => fr (pa k) (hpap.1 k hk).2.2 (fun q => by have := (hP _ (hpap.1 k hk).2.2 q).1; have := hp.2 k hk; omega) (by have := hp.2 k hk; omega)
  refine ⟨hc.same (by omega) (fun a ha => ?_), hp, ⟨fun i hi => ?_, fun i h1 h2 => ?_⟩, fun i hi k hk => ?_⟩
  · rcases ha with ⟨h1, h2⟩ | ⟨k, hk, rfl⟩
    · exact ⟨(st a (by omega) (by omega)).1, (st a (by omega) (by omega)).2.1⟩
    · exact ⟨(rc k hk).1, (rc k hk).2.1⟩
  · obtain ⟨a1, a2, a3⟩ := hpap.1 i hi
    exact ⟨by rw [(st (gz g + (2 + 4)) (by omega) (by omega)).2.2]; exact a1, E.k a2 (by omega), by omega⟩
  · rw [(st (gz g + (2 + 4)) (by omega) (by omega)).2.2]; exact hpap.2 i h1 h2
  · rw [(rc i hi).2.2]
    refine (hl i hi k hk).same c1 (fun q hq hl' hu => ?_)
    have := fr q hu (fun z => by have := (hP q hu z).1; omega) (by omega)
    exact ⟨E.k hq (by omega), this.1, this.2.1⟩
theorem LR.keep {g : Gc} {y r d : Nat} {A m m' : Mm} {P : Nat → Prop} {ss : List Nat} (h : LR g y r A m) (hF : Fr g m) (f : Fm g P ss d m m') (hP : ∀ a, a < gz g + mC m → P a → a < gz g + 145 ∨ gz g + 184 ≤ a) (h19 : 19 ∉ ss) (h47 : 47 ∉ ss) : LR g y r A m' := by
  obtain ⟨E, ⟨c1, c2, c3⟩, fr, -, -, fj⟩ := f
  have h184 := hF.1
  have st : ∀ e, 145 < e → e < 184 → Eqr m m' (gz g + e) := fun e h1 h2 => fr _ (by omega) (fun q => by have := hP _ (by omega) q; omega) (by omega)
  refine ⟨h.1.same (fun e he => ?_) (fj 19 h19) (fj 47 h47), fun i hi => ?_⟩
  · have := st (145 + e) (by unfold rCell at he; omega) (by unfold rCell at he; omega)
    rw [show gz g + 145 + e = gz g + (145 + e) by omega]
    exact ⟨this.1, this.2.1⟩
  · rw [(st 179 (by omega) (by omega)).1, (st 180 (by omega) (by omega)).1, (st 181 (by omega) (by omega)).2.1]
    exact h.2 i hi
theorem LC.n {g : Gc} {pa : Nat → Nat} {y r : Nat} {A m : Mm} (h : LC g pa y r A m) : mI m (gz g + 2) 8 = mI A 0 0 := h.1.1 0 0 (by show 0 < 7; omega)
theorem LC.yr {g : Gc} {pa : Nat → Nat} {y r : Nat} {A m : Mm} (h : LC g pa y r A m) : mI m (gz g + 2) 9 = mI A 0 1 := h.1.1 0 1 (by show 1 < 7; omega)
theorem LC.pr {g : Gc} {pa : Nat → Nat} {y r : Nat} {A m : Mm} (h : LC g pa y r A m) : mI m (gz g + 2) 10 = mI A 0 2 := h.1.1 0 2 (by show 2 < 7; omega)
theorem LC.rn {g : Gc} {pa : Nat → Nat} {y r : Nat} {A m : Mm} (h : LC g pa y r A m) : mI m (gz g + 5) 1 = mI A 0 3 := h.1.1 0 3 (by show 3 < 7; omega)
theorem LC.rc {g : Gc} {pa : Nat → Nat} {y r i : Nat} {A m : Mm} (h : LC g pa y r A m) (hi : i < r) : mI m (pa i) 0 = mI A 9 i ∧ mI m (pa i) 1 = mI A 10 i ∧ mI m (pa i) 2 = mI A 11 i := ⟨h.1.1 9 i hi, h.1.1 10 i hi, h.1.1 11 i hi⟩
theorem LR.n {g : Gc} {y r : Nat} {A m : Mm} (h : LR g y r A m) : mI m (gz g + 145) 19 = mI A 0 0 := h.1.1 0 0 ⟨by show 0 < 7; omega, by omega, by omega⟩
theorem LR.yr {g : Gc} {y r : Nat} {A m : Mm} (h : LR g y r A m) : mI m (gz g + 166) 0 = mI A 0 1 := h.1.1 0 1 ⟨by show 1 < 7; omega, by omega, by omega⟩
theorem LR.pr {g : Gc} {y r : Nat} {A m : Mm} (h : LR g y r A m) : mI m (gz g + 167) 0 = mI A 0 2 := h.1.1 0 2 ⟨by show 2 < 7; omega, by omega, by omega⟩
theorem LR.rn {g : Gc} {y r : Nat} {A m : Mm} (h : LR g y r A m) : mI m (gz g + 168) 0 = mI A 0 3 := h.1.1 0 3 ⟨by show 3 < 7; omega, by omega, by omega⟩
theorem LR.rc {g : Gc} {y r i : Nat} {A m : Mm} (h : LR g y r A m) (hi : i < r) : mI m (gz g + 175) i = mI A 9 i ∧ mI m (gz g + 176) i = mI A 10 i ∧ mI m (gz g + 177) i = mI A 11 i := by
  have e : 400 * 0 + i = i := by omega
  have h1 : mI m (gz g + 175) (400 * 0 + i) = mI A 9 i := h.1.1 9 i ⟨hi, by omega, by omega⟩
  have h2 : mI m (gz g + 176) (400 * 0 + i) = mI A 10 i := h.1.1 10 i ⟨hi, by omega, by omega⟩
  have h3 : mI m (gz g + 177) (400 * 0 + i) = mI A 11 i := h.1.1 11 i ⟨hi, by omega, by omega⟩
  rw [e] at h1 h2 h3
  exact ⟨h1, h2, h3⟩
theorem c_find (g : Gc) {lv y r : Nat} {A m : Mm} {pa : Nat → Nat} {x : Int32} (hS : Sg g m) (hC : LC g pa y r A m) (hr : mI A 0 3 = nI r) (h4 : r ≤ 400) {Q : Option Nat → Mm → Prop} (h0 : wi x 0 (nI r - 1) = 0 → Q none m) (h1 : ∀ i, i < r → x = nI i → Q (some (pa i)) m) : CR g M_Store_find (lv + 2) [va_rf (some (gz g + 5)), .int x] m Q := by
  refine en_Store_find g ⟨hS.k 5 rfl, c_isWithin g ?_⟩
  rw [hC.rn, hr]
  by_cases hw : wi x 0 (nI r - 1) = 0
  · rw [if_pos hw]; exact h0 hw
  rw [if_neg hw]
  obtain ⟨i, hi, rfl⟩ := gr_ofN (by omega) hw
  refine ⟨gz g + 6, hS.r 5 0 rfl, hS.k 6 rfl, by rw [hS.n 6 rfl]; exact vp_in_nI (N := 400) (by omega) (by omega), ?_⟩
  rw [nI_clamp (by omega), show mR m (gz g + 6) i = some (pa i) from (hC.2.2.1.1 i hi).1]
  exact h1 i hi rfl
theorem c_isPledged (g : Gc) {lv y r i : Nat} {A m : Mm} {pa : Nat → Nat} (hC : LC g pa y r A m) (hi : i < r) {Q : Int32 → Mm → Prop} (h0 : mI A 12 (2 * i) = -1 → Q 0 m) (h1 : ¬ mI A 12 (2 * i) = -1 → Q 1 m) : CI g M_Receipt_isPledged (lv + 1) [va_rf (some (pa i))] m Q := by
  refine en_Receipt_isPledged g ⟨(hC.2.2.1.1 i hi).2.1, ?_⟩
  rcases hC.2.2.2 i hi 0 (by omega) with ⟨e, hb⟩ | ⟨q, bb, e, -, -, -, h3, hb, -⟩
  · rw [if_pos e]; exact h0 hb
  · rw [if_neg (by rw [e]; simp)]; exact h1 (by rw [show 2 * i = 2 * i + 0 by omega, hb]; exact nI_ne_m1 (by omega))
theorem c_isFullR (g : Gc) {lv y r : Nat} {A m : Mm} {x : Int32} (hS : Sg g m) (hR : LR g y r A m) (hr : mI A 0 3 = nI r) (h4 : r ≤ 400) {Q : Int32 → Mm → Prop} (h0 : wi x 0 (nI r - 1) = 0 → Q 0 m) (h1 : ∀ i, i < r → x = nI i → mI A 10 i ≤ 0 → Q 0 m) (h2 : ∀ i, i < r → x = nI i → ¬ mI A 10 i ≤ 0 → Q 1 m) : CI g M_RF_isFull (lv + 2) [va_rf (some (gz g + 145)), .int x] m Q := by
  have z0 : (0 : Int32).toNatClampNeg = 0 := rfl
  refine en_RF_isFull g ⟨hS.k 145 rfl, gz g + 168, hS.r 145 33 rfl, hS.k 168 rfl, by rw [hS.n 168 rfl]; exact vp_in_nI (n := 0) (N := 2) (by omega) (by omega), c_in g ?_⟩
  rw [z0, hR.rn, hr, wj_i0]
  by_cases hw : wi x 0 (nI r - 1) = 0
  · rw [if_pos hw]; exact h0 hw
  rw [if_neg hw]
  obtain ⟨i, hi, rfl⟩ := gr_ofN (by omega) hw
  refine ⟨gz g + 176, hS.r 145 41 rfl, hS.k 176 rfl, by rw [hS.n 176 rfl]; exact vp_in_nI (N := 800) (by omega) (by omega), ?_⟩
  rw [nI_clamp (by omega), (hR.rc hi).2.1]
  by_cases hz : mI A 10 i ≤ 0
  · rw [if_pos hz]; exact h1 i hi rfl hz
  · rw [if_neg hz]; exact h2 i hi rfl hz
theorem ix2 (i : Nat) : (2 : Int32) * nI i = nI (2 * i) := by rw [show (2 : Int32) = nI 2 from rfl, pk_mul]
theorem c_isPledgedR (g : Gc) {lv y r i : Nat} {A m : Mm} (hS : Sg g m) (hR : LR g y r A m) (h4 : r ≤ 400) (hi : i < r) {Q : Int32 → Mm → Prop} (h0 : mI A 12 (2 * i) = -1 → Q 0 m) (h1 : ¬ mI A 12 (2 * i) = -1 → Q 1 m) : CI g M_RF_isPledged (lv + 1) [va_rf (some (gz g + 145)), .int (nI i)] m Q := by
  refine en_RF_isPledged g ⟨hS.k 145 rfl, gz g + 179, hS.r 145 44 rfl, hS.k 179 rfl, by rw [hS.n 179 rfl, ix2]; exact vp_in_nI (N := 800) (by omega) (by omega), ?_⟩
  rw [ix2, nI_clamp (by omega), (hR.2 (2 * i) (by omega)).1]
  by_cases hz : mI A 12 (2 * i) = -1
  · rw [if_pos hz]; exact h0 hz
  · rw [if_neg hz]; exact h1 hz
