/-! ===== what holds between two calls ===== -/
def Rb (g : Gc) (m : Mm) : Prop := SetsAt m (gz g) (gz g + 144) ∧ TermsOK g m ∧ RowsOK g m
def Ld (g : Gc) (m : Mm) : Prop := ∃ (n y p r : Nat) (A : Mm) (pa pb : Nat → Nat) (R : Nat), Lnd g n y p r A m pa ∧ Oth g pb R m ∧ ∀ i j, i < r → j < R → pa i ≠ pb j
def Inv (g : Gc) (k : Nat) (m : Mm) : Prop := (Sg g m ∧ Fr g m) ∧ (mC m ≤ 184 + 812 * k ∧ mS m ≤ 30000 + 4060 * k) ∧ Rb g m ∧ TapeOK g m ∧ LawsOK g m ∧ Ld g m
theorem SimI.monoE {g : Gc} {M1 M2 : Md} {lv : Nat} {as : List Value} {m : Mm} {R R' : Mm → Prop} (h : SimI g M1 M2 lv as m R) (hq : ∀ m2, R m2 → Ext m m2 → R' m2) : SimI g M1 M2 lv as m R' := CI.monoE h (fun x m1 h1 E1 => CI.monoE h1 (fun y m2 h2 E2 => ⟨h2.1, hq m2 h2.2 (E1.trans E2)⟩))
theorem SimJ.monoE {g : Gc} {M1 M2 : Md} {lv : Nat} {as : List Value} {m : Mm} {R R' : Mm → Prop} (h : SimJ g M1 M2 lv as m R) (hq : ∀ m2, R m2 → Ext m m2 → R' m2) : SimJ g M1 M2 lv as m R' := CJ.monoE h (fun x m1 h1 E1 => CJ.monoE h1 (fun y m2 h2 E2 => ⟨h2.1, hq m2 h2.2 (E1.trans E2)⟩))
theorem Only.fr {g : Gc} {W ss : List Nat} {m m' : Mm} (h : Only g W ss m m') (F : Fr g m) : Fr g m' := ⟨by rw [h.1.2.2.1]; exact F.1, fun a ha => by rw [h.1.2.2.1] at ha; rw [h.1.1]; exact F.2 a ha⟩
theorem Fm.fr {g : Gc} {P : Nat → Prop} {ss : List Nat} {m m' : Mm} (h : Fm g P ss 0 m m') (hK : mK m' = mK m) (F : Fr g m) : Fr g m' := by
  have c : mC m' = mC m := by have := h.2.1; omega
  exact ⟨by rw [c]; exact F.1, fun a ha => by rw [c] at ha; rw [hK]; exact F.2 a ha⟩
theorem Inv.next {g : Gc} {k d : Nat} {P : Nat → Nat → Prop} {m m2 : Mm} (h : Inv g k m) (E : Ext m m2) (F2 : Fr g m2) (f : Fs g P d m m2) (hd : d ≤ 812) (hb : Rb g m2) (ht : TapeOK g m2) (hl : LawsOK g m2) (hL : Ld g m2) : Inv g (k + 1) m2 := by
  obtain ⟨⟨S, F⟩, ⟨c, s⟩, -⟩ := h
  obtain ⟨-, ⟨f1, f2, f3⟩, -⟩ := f
  exact ⟨⟨S.ext E, F2⟩, ⟨by omega, by omega⟩, hb, ht, hl, hL⟩
theorem Rb.keep {g : Gc} {d : Nat} {P : Nat → Nat → Prop} {m m2 : Mm} (h : Rb g m) (F : Fr g m) (S2 : Sg g m2) (f : Fs g P d m m2) (hP : ∀ a j, a < gz g + 184 → P a j → a ≠ gz g + 144 ∧ a ≠ gz g + 1 ∧ ¬ (a = gz g + 145 ∧ 5 ≤ j ∧ j ≤ 11) ∧ ¬ (gz g + 141 ≤ a ∧ a ≤ gz g + 143) ∧ ¬ (gz g + 146 ≤ a ∧ a ≤ gz g + 148)) : Rb g m2 := by
  obtain ⟨hs, ht, hr⟩ := h
  have F1 := F.1
  have x : ∀ a j, a < gz g + 184 → (a = gz g + 144 ∨ a = gz g + 1 ∨ (a = gz g + 145 ∧ 5 ≤ j ∧ j ≤ 11) ∨ (gz g + 141 ≤ a ∧ a ≤ gz g + 143) ∨ (gz g + 146 ≤ a ∧ a ≤ gz g + 148)) → mI m2 a j = mI m a j ∧ mL m2 a j = mL m a j := fun a j h1 h2 => by
    have := f.2.2 a j (by omega) (fun q => by have := hP a j h1 q; omega)
    exact ⟨this.1, this.2.1⟩
  refine ⟨⟨S2.k 0 rfl, S2.r 0 7 rfl, S2.k 144 rfl, S2.n 144 rfl, fun n k a b => ?_⟩, ht.same (funext fun j => (x _ _ (by omega) (by omega)).1) (fun j hj => (x _ _ (by omega) (by omega)).1), fun s hs' => ?_⟩
  · rw [(x _ _ (by omega) (by omega)).2]; exact hs.2.2.2.2 n k a b
  · exact (hr s hs').same (x _ _ (by omega) (by omega)).1 (x _ _ (by omega) (by omega)).1 (x _ _ (by omega) (by omega)).1 (x _ _ (by omega) (by omega)).1 (fun i _ => (x _ _ (by omega) (by omega)).2) (fun i _ => (x _ _ (by omega) (by omega)).2)
theorem TapeOK.keep {g : Gc} {d : Nat} {P : Nat → Nat → Prop} {m m2 : Mm} (h : TapeOK g m) (F : Fr g m) (f : Fs g P d m m2) (hP : ∀ a j, a < gz g + 184 → P a j → a ≠ gz g + 128 ∧ a ≠ gz g + 129 ∧ a ≠ gz g + 152 ∧ ¬ (a = gz g + 145 ∧ (j = 15 ∨ j = 16))) : TapeOK g m2 := by
  have F1 := F.1
  have x : ∀ a j, a < gz g + 184 → (a = gz g + 128 ∨ a = gz g + 129 ∨ a = gz g + 152 ∨ (a = gz g + 145 ∧ (j = 15 ∨ j = 16))) → mI m2 a j = mI m a j := fun a j h1 h2 => (f.2.2 a j (by omega) (fun q => by have := hP a j h1 q; omega)).1
  exact h.same (funext fun j => x _ _ (by omega) (by omega)) (funext fun j => x _ _ (by omega) (by omega)) (funext fun j => x _ _ (by omega) (by omega)) (x _ _ (by omega) (by omega)) (x _ _ (by omega) (by omega))
theorem LawsOK.keep {g : Gc} {d : Nat} {P : Nat → Nat → Prop} {m m2 : Mm} (h : LawsOK g m) (F : Fr g m) (f : Fs g P d m m2) (hP : ∀ a j, a < gz g + mC m → P a j → (a < gz g + 184 ∧ a ≠ gz g + 139 ∧ a ≠ gz g + 153 ∧ a ≠ gz g + 154) ∨ (gz g + 184 ≤ a ∧ mK m a ≠ 5 ∧ mK m a ≠ 15)) : LawsOK g m2 := fun y hy => by
  have F1 := F.1
  refine (h y hy).keep F f (fun a j ha q => ?_) (fun q => ?_) (fun q => ?_) (fun j hj q => ?_)
  · rcases hP a j ha q with z | z
    · exact Or.inl z.1
    · exact Or.inr z.2
  · have := hP _ _ (by omega) q; omega
  · have := hP _ _ (by omega) q; omega
  · have := hP _ _ (by omega) q; omega
theorem LC.keepB {g : Gc} {pa : Nat → Nat} {y r d : Nat} {A m m' : Mm} {P : Nat → Nat → Prop} (h : LC g pa y r A m) (hF : Fr g m) (f : Fs g P d m m') (hP : ∀ a j, a < gz g + mC m → P a j → (a < gz g + 184 ∧ ¬ (gz g + 2 ≤ a ∧ a < gz g + 65)) ∨ (gz g + 184 ≤ a ∧ mK m a ≠ 6 ∧ ∀ k, k < r → a ≠ pa k)) : LC g pa y r A m' := by
  obtain ⟨hc, hp, hpap, hl⟩ := h
  obtain ⟨E, ⟨c1, c2, c3⟩, fr⟩ := f
  have h184 := hF.1
  have st : ∀ a, gz g + 2 ≤ a → a < gz g + 65 → Eqr m m' a := fun a h1 h2 => by
    have := fun j => fr a j (by omega) (fun q => by have := hP a j (by omega) q; omega)
    exact ⟨funext fun j => (this j).1, funext fun j => (this j).2.1, funext fun j => (this j).2.2⟩
  have rc : ∀ k, k < r → Eqr m m' (pa k) := fun k hk => by
    have := fun j => fr (pa k) j (hpap.1 k hk).2.2 (fun q => by
      have h3 := hp.2 k hk
      rcases hP _ j (hpap.1 k hk).2.2 q with z | z
      · omega
      · exact z.2.2 k hk rfl)
    exact ⟨funext fun j => (this j).1, funext fun j => (this j).2.1, funext fun j => (this j).2.2⟩
  refine ⟨hc.same (by omega) (fun a ha => ?_), hp, ⟨fun i hi => ?_, fun i h1 h2 => ?_⟩, fun i hi k hk => ?_⟩
  · rcases ha with ⟨h1, h2⟩ | ⟨k, hk, rfl⟩
    · exact ⟨(st a (by omega) (by omega)).1, (st a (by omega) (by omega)).2.1⟩
    · exact ⟨(rc k hk).1, (rc k hk).2.1⟩
  · obtain ⟨a1, a2, a3⟩ := hpap.1 i hi
    exact ⟨by rw [(st (gz g + (2 + 4)) (by omega) (by omega)).2.2]; exact a1, E.k a2 (by omega), by omega⟩
  · rw [(st (gz g + (2 + 4)) (by omega) (by omega)).2.2]; exact hpap.2 i h1 h2
  · rw [(rc i hi).2.2]
    refine (hl i hi k hk).same c1 (fun q hq hl' hu => ?_)
    have := fun j => fr q j hu (fun z => by
      rcases hP q j hu z with z | z
      · omega
      · exact z.2.1 hq)
    exact ⟨E.k hq (by omega), funext fun j => (this j).1, funext fun j => (this j).2.1⟩
theorem Oth.keepF {g : Gc} {pb : Nat → Nat} {R d : Nat} {P : Nat → Nat → Prop} {m m2 : Mm} (h : Oth g pb R m) (F : Fr g m) (f : Fs g P d m m2) (hP : ∀ a j, a < gz g + 184 → P a j → ¬ (gz g + 65 ≤ a ∧ a < gz g + 128) ∧ ¬ (a = gz g + 169 ∧ j = 1) ∧ ¬ (a = gz g + 178 ∧ 8 ≤ j)) : Oth g pb R m2 := by
  obtain ⟨a1, ⟨a2, a3⟩, a4, a5, a6⟩ := h
  have F1 := F.1
  obtain ⟨E, ⟨c1, c2, c3⟩, fr⟩ := f
  have x : ∀ a j, a < gz g + 184 → ((gz g + 65 ≤ a ∧ a < gz g + 128) ∨ (a = gz g + 169 ∧ j = 1) ∨ (a = gz g + 178 ∧ 8 ≤ j)) → mI m2 a j = mI m a j ∧ mL m2 a j = mL m a j ∧ mR m2 a j = mR m a j := fun a j h1 h2 => fr a j (by omega) (fun q => by have := hP a j h1 q; omega)
  refine ⟨a1, ⟨fun i hi => ?_, fun i h1 h2 => ?_⟩, a4, ?_, fun j hj => ?_⟩
  · obtain ⟨b1, b2, b3⟩ := a2 i hi
    exact ⟨by rw [(x (gz g + (65 + 4)) i (by omega) (by omega)).2.2]; exact b1, E.k b2 (by omega), by omega⟩
  · rw [(x (gz g + (65 + 4)) i (by omega) (by omega)).2.2]; exact a3 i h1 h2
  · rw [(x _ _ (by omega) (by omega)).1, (x _ _ (by omega) (by omega)).1]; exact a5
  · rw [(x _ _ (by omega) (by omega)).2.1, (x (gz g + 178) (8 + j) (by omega) (by omega)).2.1]; exact a6 j hj
/-- the land is not touched -/
theorem Ld.keep {g : Gc} {d : Nat} {P : Nat → Nat → Prop} {m m2 : Mm} (h : Ld g m) (F : Fr g m) (f : Fs g P d m m2) (hP : ∀ a j, a < gz g + mC m → P a j → a < gz g + 184 ∧ ¬ (gz g + 2 ≤ a ∧ a < gz g + 128) ∧ ¬ (gz g + 150 ≤ a ∧ a ≤ gz g + 151) ∧ ¬ (gz g + 155 ≤ a ∧ a ≤ gz g + 182) ∧ ¬ (a = gz g + 145 ∧ (j = 19 ∨ j = 47))) : Ld g m2 := by
  obtain ⟨n, y, p, r, A, pa, pb, R, ⟨C, RR, TR, WR, G⟩, O, D⟩ := h
  have F1 := F.1
  have x : ∀ a j, a < gz g + 184 → ((gz g + 150 ≤ a ∧ a ≤ gz g + 151) ∨ (gz g + 155 ≤ a ∧ a ≤ gz g + 182) ∨ (a = gz g + 145 ∧ (j = 19 ∨ j = 47))) → mI m2 a j = mI m a j ∧ mL m2 a j = mL m a j := fun a j h1 h2 => by
    have := f.2.2 a j (by omega) (fun q => by have := hP a j (by omega) q; omega)
    exact ⟨this.1, this.2.1⟩
  refine ⟨n, y, p, r, A, pa, pb, R, ⟨C.keepS F f (fun a j h1 h2 => by have := hP a j h1 h2; omega), RR.off G.1.2.2.2.1.2 (fun d j hd => (x _ _ (by unfold RdI at hd; omega) (by unfold RdI at hd; omega)).1) (fun d j hd => (x _ _ (by unfold RdJ at hd; omega) (by unfold RdJ at hd; omega)).2) (fun i _ => ⟨(x _ _ (by omega) (by omega)).1, (x _ _ (by omega) (by omega)).1, (x _ _ (by omega) (by omega)).2⟩), TR.off (funext fun j => (x _ _ (by omega) (by omega)).1), fun k j hk hj => ?_, G⟩, O.keepF F f (fun a j h1 h2 => by have := hP a j (by omega) h2; omega), D⟩
  rw [(x _ _ (by omega) (by omega)).1, (x _ _ (by omega) (by omega)).1]
  exact WR k j hk hj
theorem tm0 : ∀ j, j < 7 → ∃ v, cV L1 1 j = some v ∧ cV LR0 145 (5 + j) = some v := fun j hj => by
  rcases (show j = 0 ∨ j = 1 ∨ j = 2 ∨ j = 3 ∨ j = 4 ∨ j = 5 ∨ j = 6 by omega) with rfl | rfl | rfl | rfl | rfl | rfl | rfl
  · exact ⟨nI 1000, by decide +kernel, by decide +kernel⟩
  · exact ⟨nI 100, by decide +kernel, by decide +kernel⟩
  · exact ⟨nI 100, by decide +kernel, by decide +kernel⟩
  · exact ⟨nI 100, by decide +kernel, by decide +kernel⟩
  · exact ⟨nI 120, by decide +kernel, by decide +kernel⟩
  · exact ⟨nI 10, by decide +kernel, by decide +kernel⟩
  · exact ⟨nI 0, by decide +kernel, by decide +kernel⟩
theorem nw_g : ∀ i, i < 12 → noW L1 (14 + 4 * i) = true ∧ noW L1 (16 + 4 * i) = true ∧ noW L1 (17 + 4 * i) = true := by decide +kernel
theorem bk0 : ∀ b, b < 3 → cV L1 (62 + b) 0 = some 50 ∧ cV L1 (62 + b) 1 = some 10 ∧ cV LR0 150 b = some 50 ∧ cV LR0 151 b = some 10 := by decide +kernel
theorem rw0 : ∀ s, s < 4 → cV L1 143 s = some (-1) ∧ cV LR0 146 s = some (-1) := by decide +kernel
def onlyW (l : List Op) (a s : Nat) : Bool := l.all (fun o => decide (o.1 = 0 ∨ o.1 = 1 ∨ o.2.1 ≠ a ∨ o.2.2.1 = s))
theorem onlyW_V {a j s : Nat} (hj : j ≠ s) : ∀ {l : List Op}, onlyW l a s = true → cV l a j = if (cK l a).isSome = true then some 0 else none
  | [], _ => rfl
  | o :: l, h => by
    have h' : decide (o.1 = 0 ∨ o.1 = 1 ∨ o.2.1 ≠ a ∨ o.2.2.1 = s) = true ∧ onlyW l a s = true := by
      unfold onlyW at h ⊢
      rw [List.all_cons, Bool.and_eq_true] at h
      exact h
    have ho := of_decide_eq_true h'.1
    have ih := onlyW_V hj h'.2
    show (if o.1 = 0 ∧ o.2.1 = a then some 0 else if o.1 = 2 ∧ o.2.1 = a ∧ o.2.2.1 = j then _ else if o.1 ≠ 0 ∧ o.1 ≠ 1 ∧ o.1 ≠ 2 ∧ o.2.1 = a ∧ o.2.2.1 = j then _ else cV l a j) = if (if o.1 = 0 ∧ o.2.1 = a then some (o.2.2.1, o.2.2.2.1) else cK l a).isSome = true then some 0 else none
    by_cases h0 : o.1 = 0 ∧ o.2.1 = a
    · rw [if_pos h0, if_pos h0]; rfl
    · rw [if_neg h0, if_neg h0, if_neg (by omega), if_neg (by omega)]; exact ih
theorem cV2 (j : Nat) (hj : j ≠ 10) : cV L1 2 j = some 0 := by
  rw [onlyW_V (s := 10) hj (by decide +kernel), K1 2 (by omega)]; rfl
def noRf (l : List Op) (a : Nat) : Bool := l.all (fun o => decide (o.1 ≠ 1 ∨ o.2.1 ≠ a))
theorem noRf_R {a j : Nat} : ∀ {l : List Op}, noRf l a = true → cR l a j = if (cK l a).isSome = true then some none else none
  | [], _ => rfl
  | o :: l, h => by
    have h' : decide (o.1 ≠ 1 ∨ o.2.1 ≠ a) = true ∧ noRf l a = true := by
      unfold noRf at h ⊢
      rw [List.all_cons, Bool.and_eq_true] at h
      exact h
    have ho := of_decide_eq_true h'.1
    have ih := noRf_R (j := j) h'.2
    show (if o.1 = 0 ∧ o.2.1 = a then some none else if o.1 = 1 ∧ o.2.1 = a ∧ o.2.2.1 = j then _ else cR l a j) = if (if o.1 = 0 ∧ o.2.1 = a then some (o.2.2.1, o.2.2.2.1) else cK l a).isSome = true then some none else none
    by_cases h0 : o.1 = 0 ∧ o.2.1 = a
    · rw [if_pos h0, if_pos h0]; rfl
    · rw [if_neg h0, if_neg h0, if_neg (by omega)]; exact ih
theorem noR (a j : Nat) (h : noRf L1 a = true) (hk : (cK L1 a).isSome = true) : cR L1 a j = some none := by
  rw [noRf_R h, if_pos hk]
theorem inv_0 {g : Gc} {m1 m : Mm} {f : Nat → Int64} (H : Ini2 g m1 f m) (hf : ∀ n k, n ≤ 60 → k ≤ n → f (n * (n + 1) / 2 + k) = ch n k) : Inv g 0 m := by
  have S := ini_Sg H
  obtain ⟨F, hC, hS⟩ := ini_Fr H
  have L144 : mL m (gz g + 144) = f := by
    obtain ⟨⟨-, H1⟩, ⟨-, H2⟩⟩ := H
    obtain ⟨-, -, -, p5⟩ := H2 144
    rw [p5, LL_K, (wthn_no (j := 0) wi2 (Or.inl (show 144 < 145 by omega))).1, (bx_ok g m1 f).2.2.2.2.2]
    show va_up (mL m1) (gz g + 144) f (gz g + 144) = f
    simp [va_up]
  have zl : ∀ a, a < 184 → a ≠ 144 → ∀ j, mL m (gz g + a) j = 0 := fun a h1 h2 j => by
    by_cases h : a < 145
    · rw [(ini_lo H h).2.2.2 h2]
    · rw [(ini_hi H (by omega) h1).2.2.2]
  have nr : ∀ a, a < 145 → ∀ j, ¬ (a = 0 ∧ j = 7) → cR L1 a j = some none → mR m (gz g + a) j = none := fun a h j hj hr => by
    rw [(ini_lo H h).2.1 j hj, hr]; rfl
  have nr' : ∀ a, a = 6 ∨ a = 69 ∨ a = 139 → ∀ j, mR m (gz g + a) j = none := fun a h j => by
    refine nr a (by omega) j (by omega) ?_
    rcases h with rfl | rfl | rfl
    · exact noR 6 j (by decide +kernel) (by decide +kernel)
    · exact noR 69 j (by decide +kernel) (by decide +kernel)
    · exact noR 139 j (by decide +kernel) (by decide +kernel)
  have wLo : ∀ a, a < 145 → noW L1 a = true → ∀ j, mI m (gz g + a) j = 0 := fun a h1 h2 j => noW_lo H h1 h2 j
  have wHi : ∀ a, 145 ≤ a → a < 184 → a ≠ 157 → a ≠ 154 → noW LR0 a = true → ∀ j, mI m (gz g + a) j = 0 := fun a h1 h2 h3 h4 h5 j => noW_hi H h1 h2 h3 h4 h5 j
  have t1 : ∀ j, j < 7 → mI m (gz g + 1) j = mI m (gz g + 145) (5 + j) := fun j hj => by
    obtain ⟨v, e1, e2⟩ := tm0 j hj
    rw [v_lo H (by omega) e1, v_hi H (by omega) (by omega) (by omega) (by omega) e2]
  have hgr : ∀ i, i < 12 → ∀ j, mI m (gz g + (14 + 4 * i)) j = 0 := fun i hi j => wLo _ (by omega) (nw_g i hi).1 j
  have hbk : ∀ b, b < 3 → mI m (gz g + (62 + b)) 0 = 50 ∧ mI m (gz g + (62 + b)) 1 = 10 ∧ mI m (gz g + 150) b = 50 ∧ mI m (gz g + 151) b = 10 := fun b hb => by
    obtain ⟨e1, e2, e3, e4⟩ := bk0 b hb
    exact ⟨v_lo H (by omega) e1, v_lo H (by omega) e2, v_hi H (by omega) (by omega) (by omega) (by omega) e3, v_hi H (by omega) (by omega) (by omega) (by omega) e4⟩
  have z2 : ∀ j, j ≠ 10 → mI m (gz g + 2) j = 0 := fun j hj => by
    rw [(ini_lo H (show 2 < 145 by omega)).2.2.1 j, cV2 j hj]; rfl
  have z210 : mI m (gz g + 2) 10 = 100 := v_lo H (by omega) (by decide +kernel)
  have z5 : mI m (gz g + 5) 1 = 0 := wLo 5 (by omega) (by decide +kernel) 1
  have hA : ∀ c i, vI 12 30 0 c i → c ≠ 16 → ¬ (c = 0 ∧ i = 5) → mI m (rI' (gz g + 145) 0 c i).1 (rI' (gz g + 145) 0 c i).2 = mI m (cI (gz g + 2) (fun _ => 0) c i).1 (cI (gz g + 2) (fun _ => 0) c i).2 := by
    intro c i hv h16 h5
    unfold vI at hv
    split at hv
    · rcases (show i = 0 ∨ i = 1 ∨ i = 2 ∨ i = 3 ∨ i = 4 ∨ i = 6 by omega) with rfl | rfl | rfl | rfl | rfl | rfl
      · exact (v_hi H (a := 145) (by omega) (by omega) (by omega) (by omega) (show cV LR0 145 19 = some 0 by decide +kernel)).trans (z2 8 (by omega)).symm
      · exact (wHi 166 (by omega) (by omega) (by omega) (by omega) (by decide +kernel) 0).trans (z2 9 (by omega)).symm
      · exact (v_hi H (a := 167) (by omega) (by omega) (by omega) (by omega) (show cV LR0 167 0 = some 100 by decide +kernel)).trans z210.symm
      · exact (wHi 168 (by omega) (by omega) (by omega) (by omega) (by decide +kernel) 0).trans z5.symm
      · exact (wHi 169 (by omega) (by omega) (by omega) (by omega) (by decide +kernel) 0).trans (z2 11 (by omega)).symm
      · exact (v_hi H (a := 145) (by omega) (by omega) (by omega) (by omega) (show cV LR0 145 47 = some 0 by decide +kernel)).trans (z2 13 (by omega)).symm
    · exact absurd hv (by omega)
    · exact absurd hv (by omega)
    · exact absurd hv (by omega)
    · exact absurd rfl h16
    · refine (wHi 159 (by omega) (by omega) (by omega) (by omega) (by decide +kernel) i).trans ?_
      show 0 = mI m (gz g + 2 + 14 + 4 * (i % 12)) (i / 12)
      rw [show gz g + 2 + 14 + 4 * (i % 12) = gz g + (16 + 4 * (i % 12)) by omega, wLo _ (by omega) (nw_g (i % 12) (by omega)).2.1]
    · refine (wHi 162 (by omega) (by omega) (by omega) (by omega) (by decide +kernel) i).trans ?_
      show 0 = mI m (gz g + 2 + 15 + 4 * (i % 12)) (i / 12)
      rw [show gz g + 2 + 15 + 4 * (i % 12) = gz g + (17 + 4 * (i % 12)) by omega, wLo _ (by omega) (nw_g (i % 12) (by omega)).2.2]
    · exact (wHi 160 (by omega) (by omega) (by omega) (by omega) (by decide +kernel) i).trans (wLo 11 (by omega) (by decide +kernel) i).symm
    · exact (wHi 161 (by omega) (by omega) (by omega) (by omega) (by decide +kernel) i).trans (wLo 12 (by omega) (by decide +kernel) i).symm
    · show mI m (gz g + 150) i = mI m (gz g + 2 + 60 + i) 0
      rw [show gz g + 2 + 60 + i = gz g + (62 + i) by omega, (hbk i hv).1, (hbk i hv).2.2.1]
    · show mI m (gz g + 151) i = mI m (gz g + 2 + 60 + i) 1
      rw [show gz g + 2 + 60 + i = gz g + (62 + i) by omega, (hbk i hv).2.1, (hbk i hv).2.2.2]
    · obtain ⟨h1, h8, hi⟩ := hv
      have cl : ∀ s, mI m (gz g + 2 + 12 + 4 * i) s = 0 := fun s => by rw [show gz g + 2 + 12 + 4 * i = gz g + (14 + 4 * i) by omega]; exact hgr i hi s
      rcases (show c = 1 ∨ c = 2 ∨ c = 3 ∨ c = 4 ∨ c = 5 ∨ c = 6 ∨ c = 7 ∨ c = 8 by omega) with rfl | rfl | rfl | rfl | rfl | rfl | rfl | rfl
      · exact (wHi 155 (by omega) (by omega) (by omega) (by omega) (by decide +kernel) _).trans (cl 3).symm
      · exact (wHi 156 (by omega) (by omega) (by omega) (by omega) (by decide +kernel) _).trans (cl 4).symm
      · exact (wHi 170 (by omega) (by omega) (by omega) (by omega) (by decide +kernel) _).trans (cl 5).symm
      · exact (wHi 171 (by omega) (by omega) (by omega) (by omega) (by decide +kernel) _).trans (cl 6).symm
      · exact (wHi 171 (by omega) (by omega) (by omega) (by omega) (by decide +kernel) _).trans (cl 7).symm
      · exact (wHi 171 (by omega) (by omega) (by omega) (by omega) (by decide +kernel) _).trans (cl 8).symm
      · exact (wHi 172 (by omega) (by omega) (by omega) (by omega) (by decide +kernel) _).trans (cl 9).symm
      · exact (wHi 165 (by omega) (by omega) (by omega) (by omega) (by decide +kernel) _).trans (cl 10).symm
  have hAg : ∀ c i, 1 ≤ c → c ≤ 8 → i < 12 → mI (absC g 2 (fun _ => 0) m) c i = 0 := fun c i h1 h2 hi => by
    have cl : ∀ s, mI m (gz g + 2 + 12 + 4 * i) s = 0 := fun s => by rw [show gz g + 2 + 12 + 4 * i = gz g + (14 + 4 * i) by omega]; exact hgr i hi s
    rcases (show c = 1 ∨ c = 2 ∨ c = 3 ∨ c = 4 ∨ c = 5 ∨ c = 6 ∨ c = 7 ∨ c = 8 by omega) with rfl | rfl | rfl | rfl | rfl | rfl | rfl | rfl
    · exact cl 3
    · exact cl 4
    · exact cl 5
    · exact cl 6
    · exact cl 7
    · exact cl 8
    · exact cl 9
    · exact cl 10
  have hAL : ∀ c i, vJ 12 c i → mL (absC g 2 (fun _ => 0) m) c i = 0 ∧ mL m (rJ (gz g + 145) 0 c i).1 (rJ (gz g + 145) 0 c i).2 = 0 := fun c i hv => by
    obtain ⟨d, j, e, hd⟩ := rJ_cell (M := gz g + 145) (l := 0) hv (by omega)
    have q := cJ_at (t := gz g + 2) (by omega) hv
    refine ⟨?_, ?_⟩
    · show mL m (cJ (gz g + 2) c i).1 (cJ (gz g + 2) c i).2 = 0
      obtain ⟨z, ez⟩ : ∃ z, (cJ (gz g + 2) c i).1 = gz g + z := ⟨(cJ (gz g + 2) c i).1 - gz g, by omega⟩
      rw [ez] at q ⊢
      exact zl z (by omega) (by omega) _
    · rw [e]
      show mL m (gz g + 145 + d) j = 0
      rw [show gz g + 145 + d = gz g + (145 + d) by omega]
      unfold RdJ at hd
      exact zl _ (by omega) (by omega) _
  have C : LC g (fun _ => 0) 30 0 (absC g 2 (fun _ => 0) m) m := ⟨absC_ok g 2 (fun _ => 0) 12 30 0 m, ⟨fun i j hi => absurd hi (by omega), fun i hi => absurd hi (by omega)⟩, ⟨fun i hi => absurd hi (by omega), fun i _ _ => nr' 6 (by omega) i⟩, fun i hi => absurd hi (by omega)⟩
  have RR : LR g 30 0 (absC g 2 (fun _ => 0) m) m := ⟨⟨fun c i hv => hA c i hv.1 hv.2.1 hv.2.2, fun c i hv => (hAL c i hv).2.trans (hAL c i hv).1.symm⟩, fun i hi => absurd hi (by omega)⟩
  refine ⟨⟨S, F⟩, ⟨by omega, by omega⟩, ⟨⟨S.k 0 rfl, S.r 0 7 rfl, S.k 144 rfl, S.n 144 rfl, fun n k a b => by rw [L144]; exact hf n k a b⟩, ⟨t1, 1000, 100, 100, 100, 120, 10, 0, by omega, by omega, by omega, by omega, by omega, by omega, by omega, by omega, ?_, ?_, ?_, ?_, ?_, ?_, ?_⟩, fun s hs => Or.inl ?_⟩, ⟨?_, 0, by omega, ?_, ?_, fun k hk => absurd hk (by omega)⟩, fun y hy => Or.inl ⟨nr' 139 (by omega) y, ?_⟩, 0, 0, 100, 0, absC g 2 (fun _ => 0) m, fun _ => 0, fun _ => 0, 0, ⟨C, RR, ⟨fun _ j hj => absurd hj (by omega), fun j _ hj => ?_⟩, fun k j hk => absurd hk (by omega), ?_⟩, ⟨⟨fun i j hi => absurd hi (by omega), fun i hi => absurd hi (by omega)⟩, ⟨fun i hi => absurd hi (by omega), fun i _ _ => nr' 69 (by omega) i⟩, by omega, ?_, fun j hj => ?_⟩, fun i j hi => absurd hi (by omega)⟩
  · exact v_lo H (by omega) (by decide +kernel)
  · exact v_lo H (by omega) (by decide +kernel)
  · exact v_lo H (by omega) (by decide +kernel)
  · exact v_lo H (by omega) (by decide +kernel)
  · exact v_lo H (by omega) (by decide +kernel)
  · exact v_lo H (by omega) (by decide +kernel)
  · exact v_lo H (by omega) (by decide +kernel)
  · exact ⟨v_lo H (by omega) (rw0 s hs).1, v_hi H (by omega) (by omega) (by omega) (by omega) (rw0 s hs).2⟩
  · rw [v_lo H (by omega) (show cV L1 128 5 = some (-1) by decide +kernel), v_hi H (by omega) (by omega) (by omega) (by omega) (show cV LR0 145 16 = some (-1) by decide +kernel)]
  · exact v_lo H (by omega) (by decide +kernel)
  · exact v_hi H (by omega) (by omega) (by omega) (by omega) (by decide +kernel)
  · rw [(ini_hi H (show 145 ≤ 154 by omega) (by omega)).2.2.1 y, if_neg (by omega), if_pos (by omega)]
  · rw [(ini_hi H (show 145 ≤ 157 by omega) (by omega)).2.2.1 j, if_pos (by omega)]
  · have h0 : ∀ i, mI (absC g 2 (fun _ => 0) m) 0 i = mI m (cI (gz g + 2) (fun _ => 0) 0 i).1 (cI (gz g + 2) (fun _ => 0) 0 i).2 := fun i => rfl
    refine ⟨⟨fun i hi => absurd hi (by omega), fun i k hi => absurd hi (by omega), fun i hi => absurd hi (by omega), ⟨z5, by omega⟩, z2 8 (by omega), z2 9 (by omega), z210⟩, ⟨by omega, by omega, by omega, by omega⟩, ⟨fun _ => 0, 0, fun j hj => absurd hj (by omega), Nat.le_refl _, fun i hi => absurd hi (by omega), ⟨fun _ => 0, fun i hi => absurd hi (by omega), Nat.le_refl _⟩, fun i hi => absurd hi (by omega), fun i k hi => absurd hi (by omega)⟩, ⟨fun j hj => absurd hj (by omega), fun j hj => absurd hj (by omega), fun j hj => absurd hj (by omega), fun k j _ hj => absurd hj (by omega), fun k hk => absurd hk (by omega)⟩, fun b hb => ⟨50, 10, by omega, by omega, ?_, ?_⟩, ?_, fun _ j _ h2 => ?_⟩
    · show mI m (gz g + 2 + 60 + b) 0 = _
      rw [show gz g + 2 + 60 + b = gz g + (62 + b) by omega]; exact (hbk b hb).1
    · show mI m (gz g + 2 + 60 + b) 1 = _
      rw [show gz g + 2 + 60 + b = gz g + (62 + b) by omega]; exact (hbk b hb).2.1
    · rw [if_pos rfl]; exact z2 12 (by omega)
    · exact ⟨hAg 4 j (by omega) (by omega) h2, hAg 5 j (by omega) (by omega) h2, hAg 6 j (by omega) (by omega) h2, hAg 7 j (by omega) (by omega) h2, hAg 8 j (by omega) (by omega) h2, (hAL 0 j (Or.inl h2)).1, (hAL 1 j h2).1⟩
  · rw [(ini_lo H (show 65 < 145 by omega)).2.2.1 11, show cV L1 65 11 = some 0 by decide +kernel, wHi 169 (by omega) (by omega) (by omega) (by omega) (by decide +kernel) 1]; rfl
  · rw [zl 76 (by omega) (by omega), zl 178 (by omega) (by omega)]
