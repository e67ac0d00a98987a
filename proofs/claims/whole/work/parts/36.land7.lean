/-! ===== grower ===== -/
theorem LandC.putG {g : Gc} {pa : Nat → Nat} {y r n : Nat} {A m : Mm} (h : LandC g 2 pa 12 y r A m) (hp : PaOK g pa r) (hn : n < 12) {c : Nat} (h1 : 1 ≤ c) (h8 : c ≤ 8) (v : Int32) : LandC g 2 pa 12 y r (sI A c n v) (sI m (gz g + (14 + 4 * n)) (c + 2) v) := by
  have e : gz g + 2 + 12 + 4 * n = gz g + (14 + 4 * n) := by omega
  rcases (show c = 1 ∨ c = 2 ∨ c = 3 ∨ c = 4 ∨ c = 5 ∨ c = 6 ∨ c = 7 ∨ c = 8 by omega) with rfl | rfl | rfl | rfl | rfl | rfl | rfl | rfl
  · exact h.putI (by omega) (by omega) hp (c := 1) (i := n) (a := gz g + (14 + 4 * n)) (j := 3) ⟨h1, h8, hn⟩ (Prod.ext e rfl) v
  · exact h.putI (by omega) (by omega) hp (c := 2) (i := n) (a := gz g + (14 + 4 * n)) (j := 4) ⟨h1, h8, hn⟩ (Prod.ext e rfl) v
  · exact h.putI (by omega) (by omega) hp (c := 3) (i := n) (a := gz g + (14 + 4 * n)) (j := 5) ⟨h1, h8, hn⟩ (Prod.ext e rfl) v
  · exact h.putI (by omega) (by omega) hp (c := 4) (i := n) (a := gz g + (14 + 4 * n)) (j := 6) ⟨h1, h8, hn⟩ (Prod.ext e rfl) v
  · exact h.putI (by omega) (by omega) hp (c := 5) (i := n) (a := gz g + (14 + 4 * n)) (j := 7) ⟨h1, h8, hn⟩ (Prod.ext e rfl) v
  · exact h.putI (by omega) (by omega) hp (c := 6) (i := n) (a := gz g + (14 + 4 * n)) (j := 8) ⟨h1, h8, hn⟩ (Prod.ext e rfl) v
  · exact h.putI (by omega) (by omega) hp (c := 7) (i := n) (a := gz g + (14 + 4 * n)) (j := 9) ⟨h1, h8, hn⟩ (Prod.ext e rfl) v
  · exact h.putI (by omega) (by omega) hp (c := 8) (i := n) (a := gz g + (14 + 4 * n)) (j := 10) ⟨h1, h8, hn⟩ (Prod.ext e rfl) v
theorem LandC.zeroG {g : Gc} {pa : Nat → Nat} {y r n : Nat} {A m : Mm} (h : LandC g 2 pa 12 y r A m) (hp : PaOK g pa r) (hn : n < 12) {c : Nat} (h1 : 1 ≤ c) (h8 : c ≤ 8) {v : Int32} (hz : mI A c n = v) : LandC g 2 pa 12 y r A (sI m (gz g + (14 + 4 * n)) (c + 2) v) := by
  have := h.putG hp hn h1 h8 v
  rw [sI_self hz] at this
  exact this
def WGc : List Nat := [2, 14, 15, 18, 19, 22, 23, 26, 27, 30, 31, 34, 35, 38, 39, 42, 43, 46, 47, 50, 51, 54, 55, 58, 59]
def WG : List Nat := [2, 14, 15, 18, 19, 22, 23, 26, 27, 30, 31, 34, 35, 38, 39, 42, 43, 46, 47, 50, 51, 54, 55, 58, 59, 155, 156, 170]
theorem Only.weak {g : Gc} {W W' ss ss' : List Nat} {m m' : Mm} (h : Only g W ss m m') (hW : ∀ w, w ∈ W → w ∈ W') (hs : ∀ j, j ∈ ss → j ∈ ss') : Only g W' ss' m m' :=
  ⟨h.1, fun a ha h145 => h.2.1 a (fun w hw => ha w (hW w hw)) h145, h.2.2.1, h.2.2.2.1, fun j hj => h.2.2.2.2 j (fun q => hj (hs j q))⟩
theorem LandR.only {g : Gc} {l n y r : Nat} {A m m' : Mm} {W ss : List Nat} (h : LandR g l n y r A m) (o : Only g W ss m m') (hw : ∀ w, w ∈ W → w < 145) (h19 : 19 ∉ ss) (h47 : 47 ∉ ss) : LandR g l n y r A m' := by
  refine h.same (fun d hd => ?_) (o.2.2.2.2 19 h19) (o.2.2.2.2 47 h47)
  have := o.2.1 (gz g + 145 + d) (fun w hx => by have := hw w hx; omega) (by unfold rCell at hd; omega)
  exact ⟨this.1, this.2.1⟩
theorem WG_g : ∀ n, n < 12 → (14 + 4 * n) ∈ WGc ∧ (15 + 4 * n) ∈ WGc := by decide +kernel
theorem sh_tld : ∀ j, j < 12 → shR (14 + 4 * j) 0 = some (15 + 4 * j) ∧ shK (15 + 4 * j) = 15 ∧ shN (15 + 4 * j) = 30 := by decide +kernel
theorem lt_12 : ∀ n, n ≤ 12 → (nI n < (12 : Int32) ↔ n < 12) ∧ (nI n = (12 : Int32) ↔ n = 12) := by decide +kernel
theorem c_settle (g : Gc) {lv n y r : Nat} {m A : Mm} {pa : Nat → Nat} (hS : Sg g m) (hC : LandC g 2 pa 12 y r A m) (hp : PaOK g pa r) (h0 : mI A 0 0 = nI n) (hn : n < 12) (hb : Blank n A) (v a : Int32) {Q : Int32 → Mm → Prop} (h : ∀ m', LandC g 2 pa 12 y r (come A n v a) m' → Only g WGc [] m m' → Q (nI n) m') : CI g M_Land_settle (lv + 3) [va_rf (some (gz g + 2)), .int v, .int a] m Q := by
  obtain ⟨b4, b5, b6, b7, b8, bm, br⟩ := hb n (by omega) hn
  have n0 : mI m (gz g + 2) 8 = nI n := (hC.1 0 0 (by show 0 < 7; omega)).trans h0
  have hk : mK m (gz g + (14 + 4 * n)) = 2 := hS.k (14 + 4 * n) (sh_gr n hn).2 (by omega)
  refine en_Land_settle g ⟨hS.k 2 rfl, ?_⟩
  rw [n0, if_pos ((lt_12 n (by omega)).1.2 hn), nI_clamp (by omega)]
  refine ⟨gz g + 3, hS.r 2 1 rfl, hS.k 3 rfl, by rw [hS.n 3 rfl]; exact vp_in_nI (N := 12) (by omega) (by omega), gz g + (14 + 4 * n), hS.r 3 n (sh_gr n hn).1, hk, ?_⟩
  refine en_Grower_arrive g ⟨hk, fun m1 g1 m2 g2 m3 g3 m4 g4 m5 g5 m6 g6 m7 g7 m8 g8 m9 g9 m10 g10 => ?_⟩
  have c1 : LandC g 2 pa 12 y r (sI A 1 n v) m1 := by rw [g1]; exact hC.putG hp hn (c := 1) (by omega) (by omega) v
  have c2 : LandC g 2 pa 12 y r (sI (sI A 1 n v) 2 n a) m2 := by rw [g2]; exact c1.putG hp hn (c := 2) (by omega) (by omega) a
  have c3 : LandC g 2 pa 12 y r (sI (sI (sI A 1 n v) 2 n a) 3 n a) m3 := by rw [g3]; exact c2.putG hp hn (c := 3) (by omega) (by omega) a
  have c4 : LandC g 2 pa 12 y r (sI (sI (sI A 1 n v) 2 n a) 3 n a) m4 := by rw [g4]; exact c3.zeroG hp hn (c := 4) (by omega) (by omega) (by rw [mI_sI, up2_oth (by omega), mI_sI, up2_oth (by omega), mI_sI, up2_oth (by omega)]; exact b4)
  have c5 : LandC g 2 pa 12 y r (sI (sI (sI A 1 n v) 2 n a) 3 n a) m5 := by rw [g5]; exact c4.zeroG hp hn (c := 5) (by omega) (by omega) (by rw [mI_sI, up2_oth (by omega), mI_sI, up2_oth (by omega), mI_sI, up2_oth (by omega)]; exact b5)
  have c6 : LandC g 2 pa 12 y r (sI (sI (sI A 1 n v) 2 n a) 3 n a) m6 := by rw [g6]; exact c5.zeroG hp hn (c := 6) (by omega) (by omega) (by rw [mI_sI, up2_oth (by omega), mI_sI, up2_oth (by omega), mI_sI, up2_oth (by omega)]; exact b6)
  have c7 : LandC g 2 pa 12 y r (sI (sI (sI A 1 n v) 2 n a) 3 n a) m7 := by rw [g7]; exact c6.zeroG hp hn (c := 7) (by omega) (by omega) (by rw [mI_sI, up2_oth (by omega), mI_sI, up2_oth (by omega), mI_sI, up2_oth (by omega)]; exact b7)
  have c8 : LandC g 2 pa 12 y r (sI (sI (sI A 1 n v) 2 n a) 3 n a) m8 := by rw [g8]; exact c7.zeroG hp hn (c := 8) (by omega) (by omega) (by rw [mI_sI, up2_oth (by omega), mI_sI, up2_oth (by omega), mI_sI, up2_oth (by omega)]; exact b8)
  have ej : ∀ k, k < 12 → cJ (gz g + 2) 0 k = (gz g + (14 + 4 * k), 11) := fun k hk => by
    simp only [cJ]
    rw [if_pos hk]
    exact Prod.ext (by simp only; omega) rfl
  have c9 : LandC g 2 pa 12 y r (sI (sI (sI A 1 n v) 2 n a) 3 n a) m9 := by
    rw [g9]
    have := c8.putJ (by omega) (c := 0) (i := n) (Or.inl hn) (ej n hn) 0
    rw [sL_self (by exact bm)] at this
    exact this
  have c10 : LandC g 2 pa 12 y r (sI (sI (sI A 1 n v) 2 n a) 3 n a) m10 := by
    rw [g10]
    have := c9.putJ (by omega) (c := 1) (i := n) (a := gz g + (14 + 4 * n)) (j := 12) hn (Prod.ext (by show gz g + 2 + 12 + 4 * n = gz g + (14 + 4 * n); omega) rfl) 0
    rw [sL_self (by exact br)] at this
    exact this
  have w1 := (WG_g n hn).1
  have o10 : Only g WGc [] m m10 := by
    subst g1 g2 g3 g4 g5 g6 g7 g8 g9 g10
    refine Only.trans ?_ (Only_sL _ w1 (by omega) _ _)
    refine Only.trans ?_ (Only_sL _ w1 (by omega) _ _)
    refine Only.trans ?_ (Only_sI _ w1 (by omega) _ _)
    refine Only.trans ?_ (Only_sI _ w1 (by omega) _ _)
    refine Only.trans ?_ (Only_sI _ w1 (by omega) _ _)
    refine Only.trans ?_ (Only_sI _ w1 (by omega) _ _)
    refine Only.trans ?_ (Only_sI _ w1 (by omega) _ _)
    refine Only.trans ?_ (Only_sI _ w1 (by omega) _ _)
    refine Only.trans ?_ (Only_sI _ w1 (by omega) _ _)
    exact Only_sI _ w1 (by omega) _ _
  have s10 : Sg g m10 := by
    subst g1 g2 g3 g4 g5 g6 g7 g8 g9 g10
    exact hS
  clear g1 g2 g3 g4 g5 g6 g7 g8 g9 g10
  refine ⟨gz g + (15 + 4 * n), s10.r (14 + 4 * n) 0 (sh_tld n hn).1, c_fill g (N := 30) (s10.k (15 + 4 * n) (sh_tld n hn).2.1 (by omega)) (s10.n (15 + 4 * n) (sh_tld n hn).2.2 (by omega)) (by omega) (fun f hf1 hf2 m17 g17 => ?_)⟩
  have cf := c10.fill hp hn hf1
  have nf : mI (rI m10 (gz g + (15 + 4 * n)) f) (gz g + 2) 8 = nI n := by
    have := cf.1 0 0 (by show 0 < 7; omega)
    refine (show mI (rI m10 (gz g + (15 + 4 * n)) f) (gz g + 2) 8 = _ from this).trans ?_
    unfold fillT
    rw [mI_rI_ne (by omega), mI_sI, up2_oth (by omega), mI_sI, up2_oth (by omega), mI_sI, up2_oth (by omega)]
    exact h0
  rw [nf, nI_s] at g17
  have e17 : mI m17 (gz g + 2) 8 - (1 : Int32) = nI n := by
    rw [g17, mI_sI, up2_at, nI_m1 (by omega)]
    rfl
  rw [e17]
  refine h m17 ?_ ?_
  · rw [g17]
    exact cf.putI (by omega) (by omega) hp (c := 0) (i := 0) (a := gz g + 2) (j := 8) (by show 0 < 7; omega) rfl _
  · rw [g17]
    exact (o10.trans (Only_rI _ (WG_g n hn).2 (by omega) f)).trans (Only_sI _ (w := 2) (by decide) (by omega) _ _)
theorem sim_grower (g : Gc) {lv : Nat} {m A : Mm} {pa : Nat → Nat} {n y r : Nat} (hS : Sg g m) (hB : LandB g pa y r A m) (hp : PaOK g pa r) (hn : mI A 0 0 = nI n) (h12 : n ≤ 12) (hb : mI A 0 1 ≤ 0 → Blank n A) (v a : Int32) : SimI g M_SL_grower M_RF_grower (lv + 4) [.int v, .int a] m (fun m2 => Only g WG [0, 19] m m2 ∧ (LandB g pa y r A m2 ∨ (n < 12 ∧ mI A 0 1 ≤ 0 ∧ ∃ v' a' : Nat, v' ≤ 7 ∧ a' ≤ 1000 ∧ LandB g pa y r (come A n (nI v') (nI a')) m2))) := by
  have e1 : wj v.toInt64 (0 : Int64) (7 : Int64) = wi v 0 7 := wj_wide v 0 7
  have e2 : wj a.toInt64 (0 : Int64) (1000 : Int64) = wi a 0 1000 := wj_wide a 0 1000
  have on0 : Only g WG [0, 19] m (sI m (gz g + 145) 0 0) := Only_sM m (by decide) 0
  have ok0 : LandB g pa y r A (sI m (gz g + 145) 0 0) := hB.off0 hp (by omega) 0
  have r19 : mI (sI m (gz g + 145) 0 0) (gz g + 145) 19 = nI n := ok0.n.2.trans hn
  obtain ⟨l1, l2⟩ := lt_12 n h12
  have z0 : (0 : Int32).toNatClampNeg = 0 := rfl
  unfold SimI
  refine en_SL_grower g (c_isWithin g ?_)
  by_cases h1 : wi v 0 7 = 0
  · rw [if_pos h1]
    refine en_RF_grower g ⟨hS.k 145 rfl, fun m2 g2 => ?_⟩
    subst g2
    refine c_in g ?_
    rw [e1, if_pos h1]
    exact ⟨rfl, on0, Or.inl ok0⟩
  rw [if_neg h1]
  refine c_isWithin g ?_
  by_cases h2 : wi a 0 1000 = 0
  · rw [if_pos h2]
    refine en_RF_grower g ⟨hS.k 145 rfl, fun m2 g2 => ?_⟩
    subst g2
    refine c_in g ?_
    rw [e1, if_neg h1]
    refine c_in g ?_
    rw [e2, if_pos h2]
    exact ⟨rfl, on0, Or.inl ok0⟩
  rw [if_neg h2]
  refine ⟨hS.k 0 rfl, gz g + 2, hS.r 0 1 rfl, hS.k 2 rfl, ?_⟩
  rw [hB.n.1, hn, hB.yr.1]
  by_cases h3 : n < 12
  · rw [if_pos (l1.2 h3)]
    by_cases h4 : mI A 0 1 ≤ 0
    · rw [if_pos h4]
      obtain ⟨v', -, hv', rfl⟩ := wi_rng (a := 0) (c := 7) rfl rfl (by omega) (by omega) h1
      obtain ⟨a', -, ha', rfl⟩ := wi_rng (a := 0) (c := 1000) rfl rfl (by omega) (by omega) h2
      refine CI.monoE (c_settle g hS hB.1 hp hn h3 (hb h4) (nI v') (nI a') (Q := fun x m' => x = nI n ∧ LandC g 2 pa 12 y r (come A n (nI v') (nI a')) m' ∧ Only g WGc [] m m') (fun m' c o => ⟨rfl, c, o⟩)) (fun x m1 hx hE => ?_)
      obtain ⟨rfl, c1, o1⟩ := hx
      have s1 : Sg g m1 := hS.ext hE
      have r1 : LandR g 0 12 y r A m1 := hB.2.only o1 (by decide) (by decide) (by decide)
      have o2 : Only g WG [0, 19] m m1 := o1.weak (by decide) (by decide)
      have y1 : mI m1 (gz g + 166) 0 = mI A 0 1 := r1.1 0 1 ⟨by show 1 < 7; omega, by omega, by omega⟩
      have n1 : mI m1 (gz g + 145) 19 = nI n := (r1.1 0 0 ⟨by show 0 < 7; omega, by omega, by omega⟩).trans hn
      clear o1 hE
      refine en_RF_grower g ⟨s1.k 145 rfl, fun m2 g2 => ?_⟩
      subst g2
      refine c_in g ?_
      rw [e1, if_neg h1]
      refine c_in g ?_
      have q19 : mI (sI m1 (gz g + 145) 0 0) (gz g + 145) 19 = nI n := by rw [mI_sI, up2_sl (by omega)]; exact n1
      rw [e2, if_neg h2, q19, if_neg (fun q => absurd (l2.1 q) (by omega)), z0]
      refine ⟨gz g + 166, s1.r 145 31 rfl, s1.k 166 rfl, by rw [mN_sI, s1.n 166 rfl]; exact vp_in_nI (n := 0) (N := 2) (by omega) (by omega), ?_⟩
      rw [mI_sI, up2_oth (by omega), y1, if_pos h4, nI_clamp (by omega)]
      refine ⟨gz g + 155, s1.r 145 20 rfl, s1.k 155 rfl, by rw [mN_sI, s1.n 155 rfl]; exact vp_in_nI (N := 12) (by omega) (by omega), fun m3 g3 => ?_⟩
      have n3 : mI m3 (gz g + 145) 19 = nI n := by rw [g3, mI_sI, up2_oth (by omega)]; exact q19
      have s3 : Sg g m3 := by rw [g3]; exact s1
      rw [n3, nI_clamp (by omega)]
      refine ⟨gz g + 156, s3.r 145 21 rfl, s3.k 156 rfl, by rw [s3.n 156 rfl]; exact vp_in_nI (N := 12) (by omega) (by omega), fun m4 g4 => ?_⟩
      have n4 : mI m4 (gz g + 145) 19 = nI n := by rw [g4, mI_sI, up2_oth (by omega)]; exact n3
      have s4 : Sg g m4 := by rw [g4]; exact s3
      rw [n4, nI_clamp (by omega)]
      refine ⟨gz g + 170, s4.r 145 35 rfl, s4.k 170 rfl, by rw [s4.n 170 rfl]; exact vp_in_nI (N := 24) (by omega) (by omega), fun m5 g5 => ?_⟩
      have n5 : mI m5 (gz g + 145) 19 = nI n := by rw [g5, mI_sI, up2_oth (by omega)]; exact n4
      rw [n5, nI_s]
      intro m6 g6
      have e6 : mI m6 (gz g + 145) 19 - (1 : Int32) = nI n := by
        rw [g6, mI_sI, up2_at, nI_m1 (by omega)]
        rfl
      rw [e6]
      refine ⟨rfl, ?_, Or.inr ⟨h3, h4, v', a', hv', ha', ?_, ?_⟩⟩
      · subst g3 g4 g5 g6
        refine Only.trans ?_ (Only_sM _ (by decide) _)
        refine Only.trans ?_ (Only_sI _ (w := 170) (by decide) (by omega) _ _)
        refine Only.trans ?_ (Only_sI _ (w := 156) (by decide) (by omega) _ _)
        refine Only.trans ?_ (Only_sI _ (w := 155) (by decide) (by omega) _ _)
        exact o2.trans (Only_sM _ (by decide) _)
      · subst g3 g4 g5 g6
        refine LandC.offI ?_ (by omega) hp (d := 145) (by omega) (by omega) _ _
        refine LandC.offI ?_ (by omega) hp (d := 170) (by omega) (by omega) _ _
        refine LandC.offI ?_ (by omega) hp (d := 156) (by omega) (by omega) _ _
        refine LandC.offI ?_ (by omega) hp (d := 155) (by omega) (by omega) _ _
        exact c1.offI (by omega) hp (d := 145) (by omega) (by omega) _ _
      · subst g3 g4 g5 g6
        have p0 := r1.offM (j := 0) (by omega) 0
        have p1 := p0.putI (c := 1) (i := n) (a := gz g + 155) (j := n) ⟨⟨by omega, by omega, h3⟩, by omega, by omega⟩ rfl (nI v')
        have p2 := p1.putI (c := 2) (i := n) (a := gz g + 156) (j := n) ⟨⟨by omega, by omega, h3⟩, by omega, by omega⟩ rfl (nI a')
        have p3 := p2.putI (c := 3) (i := n) (a := gz g + 170) (j := n) ⟨⟨by omega, by omega, h3⟩, by omega, by omega⟩ (Prod.ext rfl (by show 12 * 0 + n = n; omega)) (nI a')
        exact (p3.fill (n := n)).putI (c := 0) (i := 0) (a := gz g + 145) (j := 19) ⟨by show 0 < 7; omega, by omega, by omega⟩ rfl _
    · rw [if_neg h4]
      refine en_RF_grower g ⟨hS.k 145 rfl, fun m2 g2 => ?_⟩
      subst g2
      refine c_in g ?_
      rw [e1, if_neg h1]
      refine c_in g ?_
      rw [e2, if_neg h2, r19, if_neg (fun q => absurd (l2.1 q) (by omega)), z0]
      refine ⟨gz g + 166, hS.r 145 31 rfl, hS.k 166 rfl, by rw [mN_sI, hS.n 166 rfl]; exact vp_in_nI (n := 0) (N := 2) (by omega) (by omega), ?_⟩
      rw [ok0.yr.2, if_neg h4]
      exact ⟨rfl, on0, Or.inl ok0⟩
  · rw [if_neg (fun q => h3 (l1.1 q))]
    refine en_RF_grower g ⟨hS.k 145 rfl, fun m2 g2 => ?_⟩
    subst g2
    refine c_in g ?_
    rw [e1, if_neg h1]
    refine c_in g ?_
    rw [e2, if_neg h2, r19, if_pos (l2.2 (by omega))]
    exact ⟨rfl, on0, Or.inl ok0⟩
