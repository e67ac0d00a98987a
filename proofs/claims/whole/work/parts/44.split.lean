/-! ===== split ===== -/
theorem LandR.issue {g : Gc} {l n y r : Nat} {A m m' : Mm} {v0 v1 v2 : Int32} (h : LandR g l n y r A m) (hs : ∀ d, rCell d → ∀ j, ¬ ((d = 30 ∨ d = 31 ∨ d = 32) ∧ j = 400 * l + r) → mI m' (gz g + 145 + d) j = mI m (gz g + 145 + d) j ∧ mL m' (gz g + 145 + d) j = mL m (gz g + 145 + d) j) (h19 : mI m' (gz g + 145) 19 = mI m (gz g + 145) 19) (h47 : mI m' (gz g + 145) 47 = mI m (gz g + 145) 47) (h0 : mI m' (gz g + 175) (400 * l + r) = v0) (h1 : mI m' (gz g + 176) (400 * l + r) = v1) (h2 : mI m' (gz g + 177) (400 * l + r) = v2) : LandR g l n y (r + 1) (issB A r v0 v1 v2) m' := by
  obtain ⟨i9, i10, i11⟩ := issB_at (A := A) (r := r) (h := v0) (s := v1) (yy := v2)
  refine ⟨fun c i hv => ?_, fun c i hv => ?_⟩
  · by_cases hc : (c = 9 ∨ c = 10 ∨ c = 11) ∧ i = r
    · obtain ⟨h3, rfl⟩ := hc
      rcases h3 with rfl | rfl | rfl
      · rw [i9]; exact h0
      · rw [i10]; exact h1
      · rw [i11]; exact h2
    · rw [issB_oth hc]
      have hv' : vR n y r c i := by
        refine ⟨?_, hv.2⟩
        by_cases h9 : c = 9
        · subst h9; have : i < r + 1 := hv.1; show i < r; omega
        by_cases h10 : c = 10
        · subst h10; have : i < r + 1 := hv.1; show i < r; omega
        by_cases h11 : c = 11
        · subst h11; have : i < r + 1 := hv.1; show i < r; omega
        exact vI_r h9 h10 h11 hv.1
      refine Eq.trans ?_ (h.1 c i hv')
      rcases rI_at (M := gz g + 145) (l := l) hv' with ⟨d, hd, e⟩ | e | e
      · have k1 := rInv_ok (M := gz g + 145) (l := l) hv'
        rw [e]
        refine (hs d hd _ (fun q => ?_)).1
        obtain ⟨q1, q2⟩ := q
        have e2 : rI' (gz g + 145) l c i = (gz g + 145 + d, 400 * l + r) := Prod.ext e q2
        rw [e2] at k1
        rcases q1 with rfl | rfl | rfl
        · simp [rInv] at k1; omega
        · simp [rInv] at k1; omega
        · simp [rInv] at k1; omega
      · rw [e]; exact h19
      · rw [e]; exact h47
  · rw [issB_L]
    refine Eq.trans ?_ (h.2 c i hv)
    obtain ⟨d, hd, e⟩ := rJ_at (M := gz g + 145) (l := l) hv
    rw [e]
    by_cases h3 : (d = 30 ∨ d = 31 ∨ d = 32)
    · exfalso
      unfold vJ at hv
      split at hv
      · simp only [rJ] at e; omega
      · simp only [rJ] at e; omega
      · simp only [rJ] at e; omega
      · exact hv
    · exact (hs d hd _ (fun q => h3 q.1)).2
theorem ix400 (l r : Nat) : (400 : Int32) * nI l + nI r = nI (400 * l + r) := by rw [show (400 : Int32) = nI 400 from rfl, pk_mul, nI_add]
/-- these static cells -/
def PW (g : Gc) (W : List Nat) (a _j : Nat) : Prop := ∃ w, w ∈ W ∧ a = gz g + w
def WSp : List Nat := [168, 175, 176, 177, 179]
def issL (A : Mm) (r : Nat) : Mm := sI (sI A 12 (2 * r) (-1)) 12 (2 * r + 1) (-1)
def issM (A : Mm) (r : Nat) (h s yy : Int32) : Mm := issL (issA A r h s yy) r
theorem issL_oth {A : Mm} {r c i : Nat} (h : c ≠ 12) : mI (issL A r) c i = mI A c i := by
  unfold issL
  rw [mI_sI, up2_oth h, mI_sI, up2_oth h]
theorem issL_12 {A : Mm} {r i : Nat} : mI (issL A r) 12 i = if i = 2 * r ∨ i = 2 * r + 1 then -1 else mI A 12 i := by
  unfold issL
  rw [mI_sI]
  by_cases h1 : i = 2 * r + 1
  · subst h1; rw [up2_at, if_pos (Or.inr rfl)]
  · rw [up2_sl h1, mI_sI]
    by_cases h2 : i = 2 * r
    · subst h2; rw [up2_at, if_pos (Or.inl rfl)]
    · rw [up2_sl h2, if_neg (by omega)]
theorem issA_oth {A : Mm} {r c i : Nat} {h s yy : Int32} (hc : ¬ ((c = 9 ∨ c = 10 ∨ c = 11) ∧ i = r)) (h0 : ¬ (c = 0 ∧ i = 3)) : mI (issA A r h s yy) c i = mI A c i := by
  unfold issA
  rw [mI_sI, up2_not h0]
  exact issB_oth hc
theorem c_issueR (g : Gc) {lv y r : Nat} {A m : Mm} (hS : Sg g m) (hR : LR g y r A m) (h03 : mI A 0 3 = nI r) (hr : r < 400) (h s yy : Int32) {Q : Int32 → Mm → Prop} (hQ : ∀ m', LR g y (r + 1) (issM A r h s yy) m' → Fs g (PW g WSp) 0 m m' → (Fr g m → Fr g m') → Sg g m' → Q (nI r) m') : CI g M_RF_receipt_IIII (lv + 1) [va_rf (some (gz g + 145)), .int 0, .int h, .int s, .int yy] m Q := by
  have z0 : (0 : Int32).toNatClampNeg = 0 := rfl
  have i0 : (400 : Int32) * 0 + nI r = nI r := by rw [show (400 : Int32) * 0 = nI 0 from rfl, nI_add, Nat.zero_add]
  refine en_RF_receipt_IIII g ⟨hS.k 145 rfl, gz g + 168, hS.r 145 33 rfl, hS.k 168 rfl, by rw [hS.n 168 rfl]; exact vp_in_nI (n := 0) (N := 2) (by omega) (by omega), ?_⟩
  rw [z0, hR.rn, h03, i0, ix2s, ix2, nI_clamp (show r < 2 ^ 31 by omega), nI_clamp (show 2 * r < 2 ^ 31 by omega), nI_clamp (show 2 * r + 1 < 2 ^ 31 by omega)]
  refine ⟨gz g + 175, hS.r 145 40 rfl, hS.k 175 rfl, by rw [hS.n 175 rfl]; exact vp_in_nI (N := 800) (by omega) (by omega), fun m1 e1 => ?_⟩
  have S1 : Sg g m1 := by rw [e1]; exact hS
  refine ⟨gz g + 176, S1.r 145 41 rfl, S1.k 176 rfl, by rw [S1.n 176 rfl]; exact vp_in_nI (N := 800) (by omega) (by omega), fun m2 e2 => ?_⟩
  have S2 : Sg g m2 := by rw [e2]; exact S1
  refine ⟨gz g + 177, S2.r 145 42 rfl, S2.k 177 rfl, by rw [S2.n 177 rfl]; exact vp_in_nI (N := 800) (by omega) (by omega), fun m3 e3 => ?_⟩
  have S3 : Sg g m3 := by rw [e3]; exact S2
  refine ⟨by rw [S3.n 168 rfl]; exact vp_in_nI (n := 0) (N := 2) (by omega) (by omega), by rw [S3.n 168 rfl]; exact vp_in_nI (n := 0) (N := 2) (by omega) (by omega), fun m4 e4 => ?_⟩
  have n3 : mI m3 (gz g + 168) 0 = nI r := by
    rw [e3, mI_sI, up2_oth (by omega), e2, mI_sI, up2_oth (by omega), e1, mI_sI, up2_oth (by omega)]
    exact hR.rn.trans h03
  rw [n3, nI_s] at e4
  have S4 : Sg g m4 := by rw [e4]; exact S3
  rw [if_pos rfl]
  refine ⟨gz g + 179, S4.r 145 44 rfl, S4.k 179 rfl, by rw [S4.n 179 rfl]; exact vp_in_nI (N := 800) (by omega) (by omega), fun m5 e5 => ?_⟩
  have S5 : Sg g m5 := by rw [e5]; exact S4
  refine ⟨by rw [S5.n 179 rfl]; exact vp_in_nI (N := 800) (by omega) (by omega), fun m6 e6 => ?_⟩
  have S6 : Sg g m6 := by rw [e6]; exact S5
  refine ⟨by rw [S6.n 168 rfl]; exact vp_in_nI (n := 0) (N := 2) (by omega) (by omega), ?_⟩
  have e7 : mI m6 (gz g + 168) 0 - (1 : Int32) = nI r := by
    rw [e6, mI_sI, up2_oth (by omega), e5, mI_sI, up2_oth (by omega), e4, mI_sI, up2_at, nI_m1 (by omega)]
    rfl
  rw [e7]
  have R3 : LandR g 0 12 y (r + 1) (issB A r h s yy) m3 := by
    refine hR.1.issue (m' := m3) (fun d hd j hj => ?_) ?_ ?_ ?_ ?_ ?_
    · rw [e3, e2, e1]
      refine ⟨?_, rfl⟩
      rw [mI_sI, up2_not (by omega), mI_sI, up2_not (by omega), mI_sI, up2_not (by omega)]
    · rw [e3, mI_sI, up2_oth (by omega), e2, mI_sI, up2_oth (by omega), e1, mI_sI, up2_oth (by omega)]
    · rw [e3, mI_sI, up2_oth (by omega), e2, mI_sI, up2_oth (by omega), e1, mI_sI, up2_oth (by omega)]
    · rw [show 400 * 0 + r = r by omega, e3, mI_sI, up2_oth (by omega), e2, mI_sI, up2_oth (by omega), e1, mI_sI, up2_at]
    · rw [show 400 * 0 + r = r by omega, e3, mI_sI, up2_oth (by omega), e2, mI_sI, up2_at]
    · rw [show 400 * 0 + r = r by omega, e3, mI_sI, up2_at]
  have R4 : LandR g 0 12 y (r + 1) (issA A r h s yy) m4 := by
    rw [e4]
    exact R3.putI (c := 0) (i := 3) (a := gz g + 168) (j := 0) ⟨by show 3 < 7; omega, by omega, by omega⟩ rfl _
  refine hQ m6 ⟨?_, fun i hi => ?_⟩ ?_ ?_ ?_
  · have R6 : LandR g 0 12 y (r + 1) (issA A r h s yy) m6 := by
      rw [e6, e5]
      exact (R4.same (m' := sI m4 (gz g + 179) (2 * r) (-1)) (fun d hd => ⟨up2_ne (by unfold rCell at hd; omega), rfl⟩) (up2_oth (by omega)) (up2_oth (by omega))).same (fun d hd => ⟨up2_ne (by unfold rCell at hd; omega), rfl⟩) (up2_oth (by omega)) (up2_oth (by omega))
    refine ⟨fun c i hv => ?_, R6.2⟩
    have h12 : c ≠ 12 := by
      rintro rfl
      have : (1 ≤ 12 ∧ 12 ≤ 8 ∧ i < 12) := hv.1
      omega
    unfold issM
    rw [issL_oth h12]
    exact R6.1 c i hv
  · have x12 : mI m6 (gz g + 179) i = mI (issM A r h s yy) 12 i := by
      unfold issM
      rw [issL_12, issA_oth (by omega) (by omega)]
      rw [e6, mI_sI]
      by_cases h1 : i = 2 * r + 1
      · subst h1; rw [up2_at, if_pos (Or.inr rfl)]
      · rw [up2_sl h1, e5, mI_sI]
        by_cases h2 : i = 2 * r
        · subst h2; rw [up2_at, if_pos (Or.inl rfl)]
        · rw [up2_sl h2, if_neg (by omega), e4, mI_sI, up2_oth (by omega), e3, mI_sI, up2_oth (by omega), e2, mI_sI, up2_oth (by omega), e1, mI_sI, up2_oth (by omega)]
          exact (hR.2 i (by omega)).1
    refine ⟨x12, fun hb => ?_⟩
    have h2 : ¬ (i = 2 * r ∨ i = 2 * r + 1) := fun q => hb (by unfold issM; rw [issL_12, if_pos q])
    have b2 : ¬ mI A 12 i = -1 := fun q => hb (by unfold issM; rw [issL_12, if_neg h2, issA_oth (by omega) (by omega)]; exact q)
    obtain ⟨y1, y2⟩ := (hR.2 i (by omega)).2 b2
    refine ⟨?_, ?_⟩
    · unfold issM
      rw [issL_oth (by omega), issA_oth (by omega) (by omega), ← y1, e6, mI_sI, up2_oth (by omega), e5, mI_sI, up2_oth (by omega), e4, mI_sI, up2_oth (by omega), e3, mI_sI, up2_oth (by omega), e2, mI_sI, up2_oth (by omega), e1, mI_sI, up2_oth (by omega)]
    · rw [e6, e5, e4, e3, e2, e1]
      exact y2
  · subst e1 e2 e3 e4 e5 e6
    refine Fs.trans (d := 0) ?_ (Fs_sI (P := PW g WSp) _ (a := gz g + 179) ⟨179, by decide, rfl⟩ _) (fun _ _ _ q => q)
    refine Fs.trans (d := 0) ?_ (Fs_sI (P := PW g WSp) _ (a := gz g + 179) ⟨179, by decide, rfl⟩ _) (fun _ _ _ q => q)
    refine Fs.trans (d := 0) ?_ (Fs_sI (P := PW g WSp) _ (a := gz g + 168) ⟨168, by decide, rfl⟩ _) (fun _ _ _ q => q)
    refine Fs.trans (d := 0) ?_ (Fs_sI (P := PW g WSp) _ (a := gz g + 177) ⟨177, by decide, rfl⟩ _) (fun _ _ _ q => q)
    refine Fs.trans (d := 0) ?_ (Fs_sI (P := PW g WSp) _ (a := gz g + 176) ⟨176, by decide, rfl⟩ _) (fun _ _ _ q => q)
    exact Fs_sI (P := PW g WSp) _ (a := gz g + 175) ⟨175, by decide, rfl⟩ _
  · intro hF
    subst e1 e2 e3 e4 e5 e6
    exact hF
  · exact S6
theorem Fm.fs {g : Gc} {P : Nat → Prop} {ss : List Nat} {d : Nat} {m m' : Mm} (h : Fm g P ss d m m') : Fs g (fun a j => P a ∨ (a = gz g + 145 ∧ j ∈ ss)) d m m' := by
  obtain ⟨e, c, f, l, r, j⟩ := h
  refine ⟨e, c, fun a i ha hn => ?_⟩
  by_cases h145 : a = gz g + 145
  · subst h145
    exact ⟨j i (fun q => hn (Or.inr ⟨rfl, q⟩)), by rw [l], by rw [r]⟩
  · obtain ⟨x1, x2, x3⟩ := f a ha (fun q => hn (Or.inl q)) h145
    exact ⟨by rw [x1], by rw [x2], by rw [x3]⟩
theorem Only.fs {g : Gc} {W ss : List Nat} {m m' : Mm} (h : Only g W ss m m') (E : Ext m m') : Fs g (fun a j => (∃ w, w ∈ W ∧ a = gz g + w) ∨ (a = gz g + 145 ∧ j ∈ ss)) 0 m m' := (h.fm (P := fun a => ∃ w, w ∈ W ∧ a = gz g + w) E (fun w hw => ⟨w, hw, rfl⟩)).fs
theorem LC.keepS {g : Gc} {pa : Nat → Nat} {y r d : Nat} {A m m' : Mm} {P : Nat → Nat → Prop} (h : LC g pa y r A m) (hF : Fr g m) (f : Fs g P d m m') (hP : ∀ a j, a < gz g + mC m → P a j → a < gz g + 184 ∧ ¬ (gz g + 2 ≤ a ∧ a < gz g + 65)) : LC g pa y r A m' := by
  obtain ⟨hc, hp, hpap, hl⟩ := h
  obtain ⟨E, ⟨c1, c2, c3⟩, fr⟩ := f
  have h184 := hF.1
  have st : ∀ a, gz g + 2 ≤ a → a < gz g + 65 → Eqr m m' a := fun a h1 h2 => by
    have := fun j => fr a j (by omega) (fun q => (hP a j (by omega) q).2 ⟨h1, h2⟩)
    exact ⟨funext fun j => (this j).1, funext fun j => (this j).2.1, funext fun j => (this j).2.2⟩
  have rc : ∀ k, k < r → Eqr m m' (pa k) := fun k hk => by
    have := fun j => fr (pa k) j (hpap.1 k hk).2.2 (fun q => by have := (hP _ j (hpap.1 k hk).2.2 q).1; have := hp.2 k hk; omega)
    exact ⟨funext fun j => (this j).1, funext fun j => (this j).2.1, funext fun j => (this j).2.2⟩
  refine ⟨hc.same (by omega) (fun a ha => ?_), hp, ⟨fun i hi => ?_, fun i h1 h2 => ?_⟩, fun i hi k hk => ?_⟩
  · rcases ha with ⟨h1, h2⟩ | ⟨k, hk, rfl⟩
    · exact ⟨(st a (by omega) (by omega)).1, (st a (by omega) (by omega)).2.1⟩
    · exact ⟨(rc k hk).1, (rc k hk).2.1⟩
  · obtain ⟨a1, a2, a3⟩ := hpap.1 i hi
    exact ⟨by rw [(st (gz g + (2 + 4)) (by omega) (by omega)).2.2]; exact a1, E.k a2 (by omega), by omega⟩
  · rw [(st (gz g + (2 + 4)) (by omega) (by omega)).2.2]; exact hpap.2 i h1 h2
  · rw [(rc i hi).2.2]
    refine (hl i hi k hk).same c1 (fun q hq hl' hu => ?_)
    have := fun j => fr q j hu (fun z => by have := (hP q j hu z).1; omega)
    exact ⟨E.k hq (by omega), funext fun j => (this j).1, funext fun j => (this j).2.1⟩
theorem LR.keepS {g : Gc} {y r d : Nat} {A m m' : Mm} {P : Nat → Nat → Prop} (h : LR g y r A m) (hF : Fr g m) (f : Fs g P d m m') (hP : ∀ a j, a < gz g + mC m → P a j → a < gz g + 145 ∨ gz g + 184 ≤ a) : LR g y r A m' := by
  obtain ⟨E, ⟨c1, c2, c3⟩, fr⟩ := f
  have h184 := hF.1
  have st : ∀ e, 145 ≤ e → e < 184 → Eqr m m' (gz g + e) := fun e h1 h2 => by
    have := fun j => fr (gz g + e) j (by omega) (fun q => by have := hP _ _ (by omega) q; omega)
    exact ⟨funext fun j => (this j).1, funext fun j => (this j).2.1, funext fun j => (this j).2.2⟩
  refine ⟨h.1.same (fun e he => ?_) (by rw [(st 145 (by omega) (by omega)).1]) (by rw [(st 145 (by omega) (by omega)).1]), fun i hi => ?_⟩
  · have := st (145 + e) (by omega) (by unfold rCell at he; omega)
    rw [show gz g + 145 + e = gz g + (145 + e) by omega]
    exact ⟨this.1, this.2.1⟩
  · rw [(st 179 (by omega) (by omega)).1, (st 180 (by omega) (by omega)).1, (st 181 (by omega) (by omega)).2.1]
    exact h.2 i hi
theorem c_issueC (g : Gc) {lv y r : Nat} {A m : Mm} {pa : Nat → Nat} (hS : Sg g m) (hF : Fr g m) (hC : LC g pa y r A m) (h03 : mI A 0 3 = nI r) (hr : r < 400) (h s yy : Int32) {Q : Int32 → Mm → Prop} (hQ : ∀ (pa' : Nat → Nat) (m' : Mm), (∀ i, i < r → pa' i = pa i) → gz g + mC m ≤ pa' r → LC g pa' y (r + 1) (issM A r h s yy) m' → Fr g m' → Sg g m' → Fs g (PC g 2 pa r) 1 m m' → (∀ i, i < r → mR m' (pa i) = mR m (pa i)) → Q (nI r) m') : CI g M_Store_issue (lv + 2) [va_rf (some (gz g + 5)), .int h, .int s, .int yy] m Q := by
  obtain ⟨hc, hp, hpap, hl⟩ := hC
  refine c_issue g hS hF (t := 2) (Or.inl rfl) hc (by omega) hp hpap (by omega) (by omega) hr h03 h s yy (fun pa' R' m' eR e1 e2 c' p' pp' F' S' n3 n4 f' mr => ?_)
  obtain rfl : R' = r + 1 := by omega
  refine hQ pa' m' e1 (e2 r (by omega) (by omega)) ⟨?_, p', pp', fun i hi k hk => ?_⟩ F' S' f' (fun i hi => mr i hi (by omega))
  · refine ⟨fun c i hv => ?_, c'.2⟩
    have h12 : c ≠ 12 := by
      rintro rfl
      have : (1 ≤ 12 ∧ 12 ≤ 8 ∧ i < 12) := hv
      omega
    unfold issM
    rw [issL_oth h12]
    exact c'.1 c i hv
  · unfold issM
    rw [issL_12, issL_oth (by omega), issA_oth (by omega) (by omega), issA_oth (by omega) (by omega)]
    by_cases hir : i = r
    · subst hir
      refine Or.inl ⟨?_, if_pos (by omega)⟩
      rcases (show k = 0 ∨ k = 1 by omega) with rfl | rfl
      · exact n3
      · exact n4
    · rw [if_neg (by omega), e1 i (by omega), mr i (by omega) hir]
      refine (hl i (by omega) k hk).same f'.2.1.1 (fun q hq h1 h2 => ?_)
      have := fun j => f'.2.2 q j h2 (fun z => by
        rcases z with z | ⟨k', hk', rfl⟩
        · omega
        · rw [(hpap.1 k' hk').2.1] at hq; exact absurd hq (by decide))
      exact ⟨f'.1.k hq (by omega), funext fun j => (this j).1, funext fun j => (this j).2.1⟩
def PSp (g : Gc) (pa : Nat → Nat) (r : Nat) (W : List Nat) (a j : Nat) : Prop := PC g 2 pa r a j ∨ (∃ w, w ∈ W ∧ a = gz g + w) ∨ (a = gz g + 145 ∧ j = 0)
theorem sim_split (g : Gc) {lv n y r : Nat} {A m : Mm} {pa : Nat → Nat} (hS : Sg g m) (hF : Fr g m) (hC : LC g pa y r A m) (hR : LR g y r A m) (hn : mI A 0 0 = nI n) (h12 : n ≤ 12) (hr : mI A 0 3 = nI r) (h4 : r ≤ 400) (hs : ∀ i, i < r → ∃ s : Nat, s < 2 ^ 31 ∧ mI A 10 i = nI s) (x z : Int32) : SimI g M_SL_split M_RF_split (lv + 3) [.int x, .int z] m (fun m2 => Fs g (PSp g pa r WSp) 1 m m2 ∧ Fr g m2 ∧ ((LC g pa y r A m2 ∧ LR g y r A m2) ∨ ∃ (pa' : Nat → Nat) (i k s : Nat), i < r ∧ r < 400 ∧ mI A 10 i = nI s ∧ 1 ≤ k ∧ k < s ∧ s < 2 ^ 31 ∧ mI A 12 (2 * i) = -1 ∧ (∀ i, i < r → pa' i = pa i) ∧ gz g + mC m ≤ pa' r ∧ LC g pa' y (r + 1) (issM (sI A 10 i (nI (s - k))) r (mI A 9 i) (nI k) (mI A 11 i)) m2 ∧ LR g y (r + 1) (issM (sI A 10 i (nI (s - k))) r (mI A 9 i) (nI k) (mI A 11 i)) m2)) := by
  have z0 : (0 : Int32).toNatClampNeg = 0 := rfl
  have t0 : ∀ m1 : Mm, Fs g (PSp g pa r WSp) 0 m1 (sI m1 (gz g + 145) 0 0) := fun m1 => Fs_sI m1 (Or.inr (Or.inr ⟨rfl, rfl⟩)) 0
  have hR0 : LR g y r A (sI m (gz g + 145) 0 0) := hR.t0 hF (by omega) 0
  have hC0 : LC g pa y r A (sI m (gz g + 145) 0 0) := hC.t0 hF 0 0
  have hS0 : Sg g (sI m (gz g + 145) 0 0) := hS
  have F0 : Fr g (sI m (gz g + 145) 0 0) := hF
  have fin0 : Fs g (PSp g pa r WSp) 1 m (sI m (gz g + 145) 0 0) := (t0 m).weak (fun _ _ _ q => q) (by omega)
  unfold SimI
  refine en_SL_split g ⟨hS.k 0 rfl, gz g + 2, hS.r 0 1 rfl, hS.k 2 rfl, gz g + 5, hS.r 2 3 rfl, hS.k 5 rfl, c_find g hS hC hr h4 (fun hw => ?_) (fun i hi e => ?_)⟩
  · rw [if_pos rfl]
    refine en_RF_split g ⟨hS.k 145 rfl, fun m2 e2 => ?_⟩
    subst e2
    refine c_isFullR g hS0 hR0 hr h4 (fun _ => ?_) (fun i hi e => absurd (by rw [e] at hw; exact hw) (by rw [wi_in hi (by omega)]; decide)) (fun i hi e => absurd (by rw [e] at hw; exact hw) (by rw [wi_in hi (by omega)]; decide))
    rw [if_pos rfl]; exact ⟨rfl, fin0, F0, Or.inl ⟨hC0, hR0⟩⟩
  subst e
  have nw : ¬ wi (nI i) 0 (nI r - 1) = 0 := by rw [wi_in hi (by omega)]; decide
  have same : ∀ {i' : Nat}, i' < r → nI i = nI i' → i = i' := fun h e => (nI_eq (by omega) (by omega)).1 e
  obtain ⟨s, hs1, hs2⟩ := hs i hi
  -- the reference up to its look at the number
  have ref : ∀ (m1 : Mm) (Q : Int32 → Mm → Prop), Sg g m1 → Fr g m1 → LR g y r A m1 → ((s = 0 ∨ wi z 1 (nI s - 1) = 0) → Q (-2) (sI m1 (gz g + 145) 0 0)) → (0 < s → ¬ wi z 1 (nI s - 1) = 0 → (r = 400 → Q (-3) (sI m1 (gz g + 145) 0 0)) ∧ (r < 400 → ¬ mI A 12 (2 * i) = -1 → Q (-7) (sI m1 (gz g + 145) 0 0)) ∧ (r < 400 → mI A 12 (2 * i) = -1 → ∀ m', LR g y (r + 1) (issM (sI A 10 i (nI s - z)) r (mI A 9 i) z (mI A 11 i)) m' → Fs g (PW g WSp) 0 (sI m1 (gz g + 145) 0 0) m' → Fr g m' → Q (nI r) m')) → CI g M_RF_split (lv + 3) [va_rf (some (gz g + 145)), .int (nI i), .int z] m1 Q := by
    intro m1 Q s1 F1 r1 q1 q2
    refine en_RF_split g ⟨s1.k 145 rfl, fun m2 e2 => ?_⟩
    have r2 : LR g y r A m2 := by rw [e2]; exact r1.t0 F1 (by omega) 0
    have s2 : Sg g m2 := by rw [e2]; exact s1
    have F2 : Fr g m2 := by rw [e2]; exact F1
    rw [← e2] at q1 q2
    clear e2
    refine c_isFullR g s2 r2 hr h4 (fun hw => absurd hw nw) (fun i' hi' e q => ?_) (fun i' hi' e q => ?_)
    · obtain rfl := same hi' e
      rw [if_pos rfl]
      exact q1 (Or.inl ((sk_0 hs1).1.1 (by rw [← hs2]; exact q)))
    · obtain rfl := same hi' e
      have sp : 0 < s := by
        rcases Nat.eq_zero_or_pos s with h | h
        · exact absurd ((sk_0 hs1).1.2 h) (by rw [← hs2]; exact q)
        · exact h
      rw [if_neg (by decide)]
      refine ⟨gz g + 176, s2.r 145 41 rfl, s2.k 176 rfl, by rw [s2.n 176 rfl]; exact vp_in_nI (N := 800) (by omega) (by omega), c_in g ?_⟩
      rw [nI_clamp (show i < 2 ^ 31 by omega), (r2.rc hi).2.1, hs2, show wj z.toInt64 (1 : Int64) (nI s - 1).toInt64 = wi z 1 (nI s - 1) from wj_wide z 1 (nI s - 1)]
      by_cases hz : wi z 1 (nI s - 1) = 0
      · rw [if_pos hz]; exact q1 (Or.inr hz)
      rw [if_neg hz]
      obtain ⟨k1, k2, k3⟩ := q2 sp hz
      refine ⟨gz g + 168, s2.r 145 33 rfl, s2.k 168 rfl, by rw [s2.n 168 rfl]; exact vp_in_nI (n := 0) (N := 2) (by omega) (by omega), ?_⟩
      rw [z0, r2.rn, hr]
      by_cases h400 : r = 400
      · rw [if_pos (by rw [h400]; rfl)]; exact k1 h400
      rw [if_neg (by rw [show (400 : Int32) = nI 400 from rfl, nI_eq (by omega) (by omega)]; exact h400)]
      refine c_isPledgedR g s2 r2 h4 hi (fun hb => ?_) (fun hb => ?_)
      · rw [if_pos rfl]
        refine ⟨by rw [s2.n 176 rfl]; exact vp_in_nI (N := 800) (by omega) (by omega), by rw [s2.n 176 rfl]; exact vp_in_nI (N := 800) (by omega) (by omega), fun m3 e3 => ?_⟩
        rw [(r2.rc hi).2.1, hs2] at e3
        have r3 : LR g y r (sI A 10 i (nI s - z)) m3 := by rw [e3]; exact r2.putRc (c := 10) hi (by omega) (by omega) _
        have s3 : Sg g m3 := by rw [e3]; exact s2
        have o3 : Fs g (PW g WSp) 0 m2 m3 := by rw [e3]; exact Fs_sI m2 ⟨176, by decide, rfl⟩ _
        have F3 : Fr g m3 := by rw [e3]; exact F2
        clear e3
        have a9 : mI m3 (gz g + 175) i = mI A 9 i := by rw [(r3.rc hi).1, mI_sI, up2_oth (by omega)]
        have a11 : mI m3 (gz g + 177) i = mI A 11 i := by rw [(r3.rc hi).2.2, mI_sI, up2_oth (by omega)]
        refine ⟨gz g + 175, s3.r 145 40 rfl, s3.k 175 rfl, by rw [s3.n 175 rfl]; exact vp_in_nI (N := 800) (by omega) (by omega), gz g + 177, s3.r 145 42 rfl, s3.k 177 rfl, by rw [s3.n 177 rfl]; exact vp_in_nI (N := 800) (by omega) (by omega), ?_⟩
        rw [a9, a11]
        exact c_issueR g s3 r3 (by rw [mI_sI, up2_oth (by omega)]; exact hr) (by omega) _ _ _ (fun m' r' o' F' _ => k3 (by omega) hb m' r' (o3.trans o' (fun _ _ _ q => q)) (F' F3))
      · rw [if_neg (by decide)]; exact k2 (by omega) hb
  rw [if_neg (by simp)]
  by_cases h1 : z < 1
  · rw [if_pos h1]
    exact ref m _ hS hF hR (fun _ => ⟨rfl, fin0, F0, Or.inl ⟨hC0, hR0⟩⟩) (fun _ q => absurd (wi_eq0.2 (Or.inl h1)) q)
  rw [if_neg h1]
  refine ⟨pa i, rfl, (hC.2.2.1.1 i hi).2.1, ?_⟩
  rw [(hC.rc hi).2.1, hs2]
  by_cases h2 : z < nI s
  · obtain ⟨k, hk, rfl⟩ := nI_of (x := z) (by rw [i32_lt] at h1 ⊢; have a : (1 : Int32).toInt = 1 := rfl; have b : (0 : Int32).toInt = 0 := rfl; omega)
    have hks : k < s := (nI_ltI hk hs1).1 h2
    have hk1 : 1 ≤ k := by
      rw [show (1 : Int32) = nI 1 from rfl, nI_ltI hk (by omega)] at h1
      omega
    have hwz : ¬ wi (nI k) 1 (nI s - 1) = 0 := by
      rw [wi_eq0, nI_m1 (by omega)]
      rintro (q | q)
      · exact h1 q
      · have := (nI_ltI (by omega) hk).1 q
        omega
    rw [if_pos h2]
    refine en_Store_isFull g ⟨hS.k 5 rfl, ?_⟩
    rw [hC.rn, hr]
    by_cases h400 : r < 400
    · rw [if_pos (by rw [show (400 : Int32) = nI 400 from rfl, nI_ltI (by omega) (by omega)]; exact h400), if_pos rfl]
      refine c_isPledged g hC hi (fun hb => ?_) (fun hb => ?_)
      · rw [if_pos rfl]
        intro m1 e1
        have pg := hC.2.1.2 i hi
        rw [(hC.rc hi).2.1, hs2] at e1
        have c1 : LC g pa y r (sI A 10 i (nI s - nI k)) m1 := by rw [e1]; exact hC.putRc (c := 10) hi (by omega) (by omega) _
        have r1 : LR g y r A m1 := by rw [e1]; exact hR.clI hF (Or.inr pg) _ _
        have f1 : Fs g (PSp g pa r WSp) 0 m m1 := by rw [e1]; exact Fs_sI m (Or.inl (Or.inr ⟨i, hi, rfl⟩)) _
        have s1 : Sg g m1 := by rw [e1]; exact hS
        have F1 : Fr g m1 := by rw [e1]; exact hF
        have c1' : mC m1 = mC m := by rw [e1]; rfl
        have a9 : mI m1 (pa i) 0 = mI A 9 i := by rw [(c1.rc hi).1, mI_sI, up2_oth (by omega)]
        have a11 : mI m1 (pa i) 2 = mI A 11 i := by rw [(c1.rc hi).2.2, mI_sI, up2_oth (by omega)]
        have hC1 : LC g pa y r A m := hC
        clear e1
        rw [a9, a11]
        refine c_issueC g s1 F1 c1 (by rw [mI_sI, up2_oth (by omega)]; exact hr) h400 _ _ _ (fun pa' m2 p1 p2 c2 F2 s2 f2 _ => ?_)
        have r2 : LR g y r A m2 := r1.keepS F1 f2 (fun a j _ q => by
          rcases q with q | ⟨k', hk', rfl⟩
          · omega
          · exact Or.inr (hC.2.1.2 k' hk'))
        have f12 : Fs g (PSp g pa r WSp) (0 + 1) m m2 := f1.trans f2 (fun a j _ q => Or.inl q)
        have esk : nI s - nI k = nI (s - k) := by
          rw [← Int32.toInt_inj, Int32.toInt_sub, nI_toInt hs1, nI_toInt hk, nI_toInt (by omega), Int.bmod_eq_of_le (by omega) (by omega)]
          omega
        refine ref m2 _ s2 F2 r2 (fun q => absurd q (fun q => ?_)) (fun _ _ => ⟨fun q => absurd q (by omega), fun _ q => absurd hb q, fun _ _ m' r' o' F' => ⟨rfl, ?_, F', Or.inr ⟨pa', i, k, s, hi, h400, hs2, hk1, hks, hs1, hb, p1, by omega, ?_, ?_⟩⟩⟩)
        · rcases q with q | q
          · omega
          · exact hwz q
        · exact ((f12.trans (t0 m2) (fun _ _ _ q => q)).trans o' (fun a j _ q => Or.inr (Or.inl q))).weak (fun _ _ _ q => q) (by omega)
        · rw [← esk]
          exact (c2.t0 F2 0 0).keepS (m := sI m2 (gz g + 145) 0 0) F2 o' (fun a j _ q => by
            obtain ⟨w, hw, rfl⟩ := q
            have : 145 ≤ w ∧ w < 184 := (by decide : ∀ w, w ∈ WSp → 145 ≤ w ∧ w < 184) w hw
            omega)
        · rw [← esk]; exact r'
      · rw [if_neg (by decide)]
        exact ref m _ hS hF hR (fun q => absurd q (fun q => q.elim (fun q => absurd q (by omega)) hwz)) (fun _ _ => ⟨fun q => absurd q (by omega), fun _ _ => ⟨rfl, fin0, F0, Or.inl ⟨hC0, hR0⟩⟩, fun _ q => absurd q hb⟩)
    · rw [if_neg (by rw [show (400 : Int32) = nI 400 from rfl, nI_ltI (by omega) (by omega)]; exact h400), if_neg (by decide)]
      exact ref m _ hS hF hR (fun q => absurd q (fun q => q.elim (fun q => absurd q (by omega)) hwz)) (fun _ _ => ⟨fun _ => ⟨rfl, fin0, F0, Or.inl ⟨hC0, hR0⟩⟩, fun q => absurd q (by omega), fun q => absurd q (by omega)⟩)
  · rw [if_neg h2]
    refine ref m _ hS hF hR (fun _ => ⟨rfl, fin0, F0, Or.inl ⟨hC0, hR0⟩⟩) (fun sp q => absurd (wi_eq0.2 (Or.inr ?_)) q)
    rw [nI_m1 sp, i32_lt, nI_toInt (by omega)]
    rw [i32_lt, nI_toInt hs1] at h2
    omega
