/-! ===== the law's own loop: eight ints a call, both objects asked alike ===== -/
abbrev lw_l (g : Gc) (k : Nat) : List (Nat × Value) := [(0, va_rf (some (gb g))), (1, va_rf (some (gz g))), (2, va_rf (some (gz g + 145))), (3, .int (nI (8 * k)))]
theorem lw_v {g : Gc} {k : Nat} {c : Int32} (hn : gn g ≤ 4096) (hk : 8 * k + 8 ≤ gn g) (j : Nat) (hc : c = nI j) (hj : j < 8) : vp_in (nI (8 * k) + c) (gn g) := by
  rw [hc, nI_add]
  exact vp_in_nI (by omega) (by omega)
theorem lw_if {p : Prop} [Decidable p] {A B : Prop} (hp : p) (h : A) : if p then A else B := by
  rw [if_pos hp]; exact h
theorem lw_br {p : Prop} [Decidable p] {A B : Prop} (h : A) (h2 : B) : if p then A else B := by
  by_cases hp : p
  · rw [if_pos hp]; exact h
  · rw [if_neg hp]; exact h2
theorem Inv.k12 {g : Gc} {k : Nat} {m : Mm} (h : Inv g k m) : mK m (gz g) = 12 := h.1.1.k 0 rfl
theorem Inv.k13 {g : Gc} {k : Nat} {m m1 : Mm} (h : Inv g k m) (E : Ext m m1) : mK m1 (gz g + 145) = 13 := by
  have h1 : mK m (gz g + 145) = 13 := h.1.1.k 145 rfl
  rw [(E _ (by rw [h1]; decide)).1, h1]
theorem Inv.nxt {g : Gc} {k : Nat} {m : Mm} (h : Inv g k m) : Inv g (k + 1) m := ⟨h.1, ⟨by have := h.2.1.1; omega, by have := h.2.1.2; omega⟩, h.2.2⟩
theorem nI_8 {n : Nat} (h : 8 ≤ n) (hn : n < 2 ^ 31) : nI n - (8 : Int32) = nI (n - 8) := by
  rw [show (8 : Int32) = nI 8 from rfl, nI_sub h hn]
theorem nI_few : ∀ n, n < 8 → nI n - (8 : Int32) < 0 := by decide
theorem lw_in {g : Gc} {k : Nat} (hn : gn g ≤ 4096) (hk : 8 * k + 8 ≤ gn g) : ¬ (nI (gn g) - (8 : Int32) < nI (8 * k)) := by
  rw [nI_8 (by omega) (by omega), nI_ltI (by omega) (by omega)]
  omega
theorem lw_out {g : Gc} {k : Nat} (hn : gn g ≤ 4096) (hk : ¬ (8 * k + 8 ≤ gn g)) (h5 : k ≤ 512) : nI (gn g) - (8 : Int32) < nI (8 * k) := by
  by_cases h : gn g < 8
  · exact Int32.lt_of_lt_of_le (nI_few _ h) (nI_pos' (by omega))
  · rw [nI_8 (by omega) (by omega), nI_ltI (by omega) (by omega)]
    omega
theorem lw_164 (g : Gc) {k : Nat} {m : Mm} {Q : Int32 → Mm → Prop} (hn : gn g ≤ 4096) (hk : 8 * k + 8 ≤ gn g) (h : Inv g k m) (H : ∀ m2, Inv g (k + 1) m2 → At g M_LW_law 1000 1232 (lw_l g k) [] m2 (QI Q)) : At g M_LW_law 1000 164 (lw_l g k) [] m (QI Q) :=
  bk_LW_law_164 g (lv := 999) (l0 := none) ⟨lw_v hn hk 1 (by decide) (by decide), lw_v hn hk 2 (by decide) (by decide), lw_v hn hk 3 (by decide) (by decide), lw_v hn hk 4 (by decide) (by decide), lw_v hn hk 5 (by decide) (by decide), lw_v hn hk 6 (by decide) (by decide), lw_v hn hk 7 (by decide) (by decide), gz g, rfl, h.k12, CI.monoE (i_terms g h _ _ _ _ _ _ _) (fun x m1 h1 E => ⟨lw_v hn hk 1 (by decide) (by decide), lw_v hn hk 2 (by decide) (by decide), lw_v hn hk 3 (by decide) (by decide), lw_v hn hk 4 (by decide) (by decide), lw_v hn hk 5 (by decide) (by decide), lw_v hn hk 6 (by decide) (by decide), lw_v hn hk 7 (by decide) (by decide), gz g + 145, rfl, h.k13 E, CI.monoE h1 (fun y m2 h2 _ => lw_if h2.1 (H m2 h2.2))⟩)⟩
theorem lw_251 (g : Gc) {k : Nat} {m : Mm} {Q : Int32 → Mm → Prop} (hn : gn g ≤ 4096) (hk : 8 * k + 8 ≤ gn g) (h : Inv g k m) (H : ∀ m2, Inv g (k + 1) m2 → At g M_LW_law 1000 1232 (lw_l g k) [] m2 (QI Q)) : At g M_LW_law 1000 251 (lw_l g k) [] m (QI Q) :=
  bk_LW_law_251 g (lv := 999) (l0 := none) ⟨lw_v hn hk 1 (by decide) (by decide), lw_v hn hk 2 (by decide) (by decide), lw_v hn hk 3 (by decide) (by decide), gz g, rfl, h.k12, CI.monoE (i_bank g h _ _ _) (fun x m1 h1 E => ⟨lw_v hn hk 1 (by decide) (by decide), lw_v hn hk 2 (by decide) (by decide), lw_v hn hk 3 (by decide) (by decide), gz g + 145, rfl, h.k13 E, CI.monoE h1 (fun y m2 h2 _ => lw_if h2.1 (H m2 h2.2))⟩)⟩
theorem lw_294 (g : Gc) {k : Nat} {m : Mm} {Q : Int32 → Mm → Prop} (hn : gn g ≤ 4096) (hk : 8 * k + 8 ≤ gn g) (h : Inv g k m) (H : ∀ m2, Inv g (k + 1) m2 → At g M_LW_law 1000 1232 (lw_l g k) [] m2 (QI Q)) : At g M_LW_law 1000 294 (lw_l g k) [] m (QI Q) :=
  bk_LW_law_294 g (lv := 999) (l0 := none) ⟨lw_v hn hk 1 (by decide) (by decide), lw_v hn hk 2 (by decide) (by decide), gz g, rfl, h.k12, CI.monoE (i_grower g h _ _) (fun x m1 h1 E => ⟨lw_v hn hk 1 (by decide) (by decide), lw_v hn hk 2 (by decide) (by decide), gz g + 145, rfl, h.k13 E, CI.monoE h1 (fun y m2 h2 _ => lw_if h2.1 (H m2 h2.2))⟩)⟩
theorem lw_327 (g : Gc) {k : Nat} {m : Mm} {Q : Int32 → Mm → Prop} (hn : gn g ≤ 4096) (hk : 8 * k + 8 ≤ gn g) (h : Inv g k m) (H : ∀ m2, Inv g (k + 1) m2 → At g M_LW_law 1000 1232 (lw_l g k) [] m2 (QI Q)) : At g M_LW_law 1000 327 (lw_l g k) [] m (QI Q) :=
  bk_LW_law_327 g (lv := 999) (l0 := none) ⟨lw_v hn hk 1 (by decide) (by decide), lw_v hn hk 2 (by decide) (by decide), lw_v hn hk 3 (by decide) (by decide), lw_v hn hk 4 (by decide) (by decide), lw_v hn hk 5 (by decide) (by decide), gz g, rfl, h.k12, CI.monoE (i_feed g h _ _ _ _ _) (fun x m1 h1 E => ⟨lw_v hn hk 1 (by decide) (by decide), lw_v hn hk 2 (by decide) (by decide), lw_v hn hk 3 (by decide) (by decide), lw_v hn hk 4 (by decide) (by decide), lw_v hn hk 5 (by decide) (by decide), gz g + 145, rfl, h.k13 E, CI.monoE h1 (fun y m2 h2 _ => lw_if h2.1 (H m2 h2.2))⟩)⟩
theorem lw_390 (g : Gc) {k : Nat} {m : Mm} {Q : Int32 → Mm → Prop} (hn : gn g ≤ 4096) (hk : 8 * k + 8 ≤ gn g) (h : Inv g k m) (H : ∀ m2, Inv g (k + 1) m2 → At g M_LW_law 1000 1232 (lw_l g k) [] m2 (QI Q)) : At g M_LW_law 1000 390 (lw_l g k) [] m (QI Q) :=
  bk_LW_law_390 g (lv := 999) (l0 := none) ⟨lw_v hn hk 1 (by decide) (by decide), gz g, rfl, h.k12, CI.monoE (i_end g h _) (fun x m1 h1 E => ⟨lw_v hn hk 1 (by decide) (by decide), gz g + 145, rfl, h.k13 E, CI.monoE h1 (fun y m2 h2 _ => lw_if h2.1 (H m2 h2.2))⟩)⟩
theorem lw_413 (g : Gc) {k : Nat} {m : Mm} {Q : Int32 → Mm → Prop} (hn : gn g ≤ 4096) (hk : 8 * k + 8 ≤ gn g) (h : Inv g k m) (H : ∀ m2, Inv g (k + 1) m2 → At g M_LW_law 1000 1232 (lw_l g k) [] m2 (QI Q)) : At g M_LW_law 1000 413 (lw_l g k) [] m (QI Q) :=
  bk_LW_law_413 g (lv := 999) (l0 := none) ⟨lw_v hn hk 1 (by decide) (by decide), lw_v hn hk 2 (by decide) (by decide), gz g, rfl, h.k12, CI.monoE (i_law g h _ _) (fun x m1 h1 E => ⟨lw_v hn hk 1 (by decide) (by decide), lw_v hn hk 2 (by decide) (by decide), gz g + 145, rfl, h.k13 E, CI.monoE h1 (fun y m2 h2 _ => lw_if h2.1 (H m2 h2.2))⟩)⟩
theorem lw_446 (g : Gc) {k : Nat} {m : Mm} {Q : Int32 → Mm → Prop} (hn : gn g ≤ 4096) (hk : 8 * k + 8 ≤ gn g) (h : Inv g k m) (H : ∀ m2, Inv g (k + 1) m2 → At g M_LW_law 1000 1232 (lw_l g k) [] m2 (QI Q)) : At g M_LW_law 1000 446 (lw_l g k) [] m (QI Q) :=
  bk_LW_law_446 g (lv := 999) (l0 := none) ⟨gz g, rfl, h.k12, CI.monoE (i_fault g h) (fun x m1 h1 E => ⟨gz g + 145, rfl, h.k13 E, CI.monoE h1 (fun y m2 h2 _ => lw_if h2.1 (H m2 h2.2))⟩)⟩
theorem lw_459 (g : Gc) {k : Nat} {m : Mm} {Q : Int32 → Mm → Prop} (hn : gn g ≤ 4096) (hk : 8 * k + 8 ≤ gn g) (h : Inv g k m) (H : ∀ m2, Inv g (k + 1) m2 → At g M_LW_law 1000 1232 (lw_l g k) [] m2 (QI Q)) : At g M_LW_law 1000 459 (lw_l g k) [] m (QI Q) :=
  bk_LW_law_459 g (lv := 999) (l0 := none) ⟨lw_v hn hk 1 (by decide) (by decide), lw_v hn hk 2 (by decide) (by decide), gz g, rfl, h.k12, CI.monoE (i_crop g h _ _) (fun x m1 h1 E => ⟨lw_v hn hk 1 (by decide) (by decide), lw_v hn hk 2 (by decide) (by decide), gz g + 145, rfl, h.k13 E, CI.monoE h1 (fun y m2 h2 _ => lw_if h2.1 (H m2 h2.2))⟩)⟩
theorem lw_492 (g : Gc) {k : Nat} {m : Mm} {Q : Int32 → Mm → Prop} (hn : gn g ≤ 4096) (hk : 8 * k + 8 ≤ gn g) (h : Inv g k m) (H : ∀ m2, Inv g (k + 1) m2 → At g M_LW_law 1000 1232 (lw_l g k) [] m2 (QI Q)) : At g M_LW_law 1000 492 (lw_l g k) [] m (QI Q) :=
  bk_LW_law_492 g (lv := 999) (l0 := none) ⟨lw_v hn hk 1 (by decide) (by decide), gz g, rfl, h.k12, CI.monoE (i_crops g h _) (fun x m1 h1 E => ⟨lw_v hn hk 1 (by decide) (by decide), gz g + 145, rfl, h.k13 E, CI.monoE h1 (fun y m2 h2 _ => lw_if h2.1 (H m2 h2.2))⟩)⟩
theorem lw_515 (g : Gc) {k : Nat} {m : Mm} {Q : Int32 → Mm → Prop} (hn : gn g ≤ 4096) (hk : 8 * k + 8 ≤ gn g) (h : Inv g k m) (H : ∀ m2, Inv g (k + 1) m2 → At g M_LW_law 1000 1232 (lw_l g k) [] m2 (QI Q)) : At g M_LW_law 1000 515 (lw_l g k) [] m (QI Q) :=
  bk_LW_law_515 g (lv := 999) (l0 := none) ⟨lw_v hn hk 1 (by decide) (by decide), gz g, rfl, h.k12, CI.monoE (i_go g h _) (fun x m1 h1 E => ⟨lw_v hn hk 1 (by decide) (by decide), gz g + 145, rfl, h.k13 E, CI.monoE h1 (fun y m2 h2 _ => lw_if h2.1 (H m2 h2.2))⟩)⟩
theorem lw_538 (g : Gc) {k : Nat} {m : Mm} {Q : Int32 → Mm → Prop} (hn : gn g ≤ 4096) (hk : 8 * k + 8 ≤ gn g) (h : Inv g k m) (H : ∀ m2, Inv g (k + 1) m2 → At g M_LW_law 1000 1232 (lw_l g k) [] m2 (QI Q)) : At g M_LW_law 1000 538 (lw_l g k) [] m (QI Q) :=
  bk_LW_law_538 g (lv := 999) (l0 := none) ⟨lw_v hn hk 1 (by decide) (by decide), lw_v hn hk 2 (by decide) (by decide), lw_v hn hk 3 (by decide) (by decide), gz g, rfl, h.k12, CI.monoE (i_right g h _ _ _) (fun x m1 h1 E => ⟨lw_v hn hk 1 (by decide) (by decide), lw_v hn hk 2 (by decide) (by decide), lw_v hn hk 3 (by decide) (by decide), gz g + 145, rfl, h.k13 E, CI.monoE h1 (fun y m2 h2 _ => lw_if h2.1 (H m2 h2.2))⟩)⟩
theorem lw_581 (g : Gc) {k : Nat} {m : Mm} {Q : Int32 → Mm → Prop} (hn : gn g ≤ 4096) (hk : 8 * k + 8 ≤ gn g) (h : Inv g k m) (H : ∀ m2, Inv g (k + 1) m2 → At g M_LW_law 1000 1232 (lw_l g k) [] m2 (QI Q)) : At g M_LW_law 1000 581 (lw_l g k) [] m (QI Q) :=
  bk_LW_law_581 g (lv := 999) (l0 := none) ⟨lw_v hn hk 1 (by decide) (by decide), lw_v hn hk 2 (by decide) (by decide), gz g, rfl, h.k12, CI.monoE (i_split g h _ _) (fun x m1 h1 E => ⟨lw_v hn hk 1 (by decide) (by decide), lw_v hn hk 2 (by decide) (by decide), gz g + 145, rfl, h.k13 E, CI.monoE h1 (fun y m2 h2 _ => lw_if h2.1 (H m2 h2.2))⟩)⟩
theorem lw_614 (g : Gc) {k : Nat} {m : Mm} {Q : Int32 → Mm → Prop} (hn : gn g ≤ 4096) (hk : 8 * k + 8 ≤ gn g) (h : Inv g k m) (H : ∀ m2, Inv g (k + 1) m2 → At g M_LW_law 1000 1232 (lw_l g k) [] m2 (QI Q)) : At g M_LW_law 1000 614 (lw_l g k) [] m (QI Q) :=
  bk_LW_law_614 g (lv := 999) (l0 := none) ⟨lw_v hn hk 1 (by decide) (by decide), lw_v hn hk 2 (by decide) (by decide), gz g, rfl, h.k12, CI.monoE (i_give g h _ _) (fun x m1 h1 E => ⟨lw_v hn hk 1 (by decide) (by decide), lw_v hn hk 2 (by decide) (by decide), gz g + 145, rfl, h.k13 E, CI.monoE h1 (fun y m2 h2 _ => lw_if h2.1 (H m2 h2.2))⟩)⟩
theorem lw_647 (g : Gc) {k : Nat} {m : Mm} {Q : Int32 → Mm → Prop} (hn : gn g ≤ 4096) (hk : 8 * k + 8 ≤ gn g) (h : Inv g k m) (H : ∀ m2, Inv g (k + 1) m2 → At g M_LW_law 1000 1232 (lw_l g k) [] m2 (QI Q)) : At g M_LW_law 1000 647 (lw_l g k) [] m (QI Q) :=
  bk_LW_law_647 g (lv := 999) (l0 := none) ⟨lw_v hn hk 1 (by decide) (by decide), lw_v hn hk 2 (by decide) (by decide), lw_v hn hk 3 (by decide) (by decide), gz g, rfl, h.k12, CJ.monoE (i_pledge g h _ _ _) (fun x m1 h1 E => ⟨lw_v hn hk 1 (by decide) (by decide), lw_v hn hk 2 (by decide) (by decide), lw_v hn hk 3 (by decide) (by decide), gz g + 145, rfl, h.k13 E, CJ.monoE h1 (fun y m2 h2 _ => lw_if h2.1 (H m2 h2.2))⟩)⟩
theorem lw_691 (g : Gc) {k : Nat} {m : Mm} {Q : Int32 → Mm → Prop} (hn : gn g ≤ 4096) (hk : 8 * k + 8 ≤ gn g) (h : Inv g k m) (H : ∀ m2, Inv g (k + 1) m2 → At g M_LW_law 1000 1232 (lw_l g k) [] m2 (QI Q)) : At g M_LW_law 1000 691 (lw_l g k) [] m (QI Q) :=
  bk_LW_law_691 g (lv := 999) (l0 := none) ⟨lw_v hn hk 1 (by decide) (by decide), lw_v hn hk 2 (by decide) (by decide), gz g, rfl, h.k12, CJ.monoE (i_pay g h _ _) (fun x m1 h1 E => ⟨lw_v hn hk 1 (by decide) (by decide), lw_v hn hk 2 (by decide) (by decide), gz g + 145, rfl, h.k13 E, CJ.monoE h1 (fun y m2 h2 _ => lw_if h2.1 (H m2 h2.2))⟩)⟩
theorem lw_725 (g : Gc) {k : Nat} {m : Mm} {Q : Int32 → Mm → Prop} (hn : gn g ≤ 4096) (hk : 8 * k + 8 ≤ gn g) (h : Inv g k m) (H : ∀ m2, Inv g (k + 1) m2 → At g M_LW_law 1000 1232 (lw_l g k) [] m2 (QI Q)) : At g M_LW_law 1000 725 (lw_l g k) [] m (QI Q) :=
  bk_LW_law_725 g (lv := 999) (l0 := none) ⟨lw_v hn hk 1 (by decide) (by decide), gz g, rfl, h.k12, CI.monoE (i_redeem g h _) (fun x m1 h1 E => ⟨lw_v hn hk 1 (by decide) (by decide), gz g + 145, rfl, h.k13 E, CI.monoE h1 (fun y m2 h2 _ => lw_if h2.1 (H m2 h2.2))⟩)⟩
theorem lw_748 (g : Gc) {k : Nat} {m : Mm} {Q : Int32 → Mm → Prop} (hn : gn g ≤ 4096) (hk : 8 * k + 8 ≤ gn g) (h : Inv g k m) (H : ∀ m2, Inv g (k + 1) m2 → At g M_LW_law 1000 1232 (lw_l g k) [] m2 (QI Q)) : At g M_LW_law 1000 748 (lw_l g k) [] m (QI Q) :=
  bk_LW_law_748 g (lv := 999) (l0 := none) ⟨lw_v hn hk 1 (by decide) (by decide), lw_v hn hk 2 (by decide) (by decide), gz g, rfl, h.k12, CI.monoE (i_receipt g h _ _) (fun x m1 h1 E => ⟨lw_v hn hk 1 (by decide) (by decide), lw_v hn hk 2 (by decide) (by decide), gz g + 145, rfl, h.k13 E, CI.monoE h1 (fun y m2 h2 _ => lw_if h2.1 (H m2 h2.2))⟩)⟩
theorem lw_781 (g : Gc) {k : Nat} {m : Mm} {Q : Int32 → Mm → Prop} (hn : gn g ≤ 4096) (hk : 8 * k + 8 ≤ gn g) (h : Inv g k m) (H : ∀ m2, Inv g (k + 1) m2 → At g M_LW_law 1000 1232 (lw_l g k) [] m2 (QI Q)) : At g M_LW_law 1000 781 (lw_l g k) [] m (QI Q) :=
  bk_LW_law_781 g (lv := 999) (l0 := none) ⟨lw_v hn hk 1 (by decide) (by decide), lw_v hn hk 2 (by decide) (by decide), gz g, rfl, h.k12, CJ.monoE (i_owed g h _ _) (fun x m1 h1 E => ⟨lw_v hn hk 1 (by decide) (by decide), lw_v hn hk 2 (by decide) (by decide), gz g + 145, rfl, h.k13 E, CJ.monoE h1 (fun y m2 h2 _ => lw_if h2.1 (H m2 h2.2))⟩)⟩
theorem lw_815 (g : Gc) {k : Nat} {m : Mm} {Q : Int32 → Mm → Prop} (hn : gn g ≤ 4096) (hk : 8 * k + 8 ≤ gn g) (h : Inv g k m) (H : ∀ m2, Inv g (k + 1) m2 → At g M_LW_law 1000 1232 (lw_l g k) [] m2 (QI Q)) : At g M_LW_law 1000 815 (lw_l g k) [] m (QI Q) :=
  bk_LW_law_815 g (lv := 999) (l0 := none) ⟨lw_v hn hk 1 (by decide) (by decide), lw_v hn hk 2 (by decide) (by decide), gz g, rfl, h.k12, CI.monoE (i_growerOf g h _ _) (fun x m1 h1 E => ⟨lw_v hn hk 1 (by decide) (by decide), lw_v hn hk 2 (by decide) (by decide), gz g + 145, rfl, h.k13 E, CI.monoE h1 (fun y m2 h2 _ => lw_if h2.1 (H m2 h2.2))⟩)⟩
theorem lw_848 (g : Gc) {k : Nat} {m : Mm} {Q : Int32 → Mm → Prop} (hn : gn g ≤ 4096) (hk : 8 * k + 8 ≤ gn g) (h : Inv g k m) (H : ∀ m2, Inv g (k + 1) m2 → At g M_LW_law 1000 1232 (lw_l g k) [] m2 (QI Q)) : At g M_LW_law 1000 848 (lw_l g k) [] m (QI Q) :=
  bk_LW_law_848 g (lv := 999) (l0 := none) ⟨lw_v hn hk 1 (by decide) (by decide), gz g, rfl, h.k12, CJ.monoE (i_money g h _) (fun x m1 h1 E => ⟨lw_v hn hk 1 (by decide) (by decide), gz g + 145, rfl, h.k13 E, CJ.monoE h1 (fun y m2 h2 _ => lw_if h2.1 (H m2 h2.2))⟩)⟩
theorem lw_872 (g : Gc) {k : Nat} {m : Mm} {Q : Int32 → Mm → Prop} (hn : gn g ≤ 4096) (hk : 8 * k + 8 ≤ gn g) (h : Inv g k m) (H : ∀ m2, Inv g (k + 1) m2 → At g M_LW_law 1000 1232 (lw_l g k) [] m2 (QI Q)) : At g M_LW_law 1000 872 (lw_l g k) [] m (QI Q) :=
  bk_LW_law_872 g (lv := 999) (l0 := none) ⟨lw_v hn hk 1 (by decide) (by decide), gz g, rfl, h.k12, CI.monoE (i_count g h _) (fun x m1 h1 E => ⟨lw_v hn hk 1 (by decide) (by decide), gz g + 145, rfl, h.k13 E, CI.monoE h1 (fun y m2 h2 _ => lw_if h2.1 (H m2 h2.2))⟩)⟩
theorem lw_895 (g : Gc) {k : Nat} {m : Mm} {Q : Int32 → Mm → Prop} (hn : gn g ≤ 4096) (hk : 8 * k + 8 ≤ gn g) (h : Inv g k m) (H : ∀ m2, Inv g (k + 1) m2 → At g M_LW_law 1000 1232 (lw_l g k) [] m2 (QI Q)) : At g M_LW_law 1000 895 (lw_l g k) [] m (QI Q) :=
  bk_LW_law_895 g (lv := 999) (l0 := none) ⟨lw_v hn hk 1 (by decide) (by decide), gz g, rfl, h.k12, CJ.monoE (i_sum g h _) (fun x m1 h1 E => ⟨lw_v hn hk 1 (by decide) (by decide), gz g + 145, rfl, h.k13 E, CJ.monoE h1 (fun y m2 h2 _ => lw_if h2.1 (H m2 h2.2))⟩)⟩
theorem lw_919 (g : Gc) {k : Nat} {m : Mm} {Q : Int32 → Mm → Prop} (hn : gn g ≤ 4096) (hk : 8 * k + 8 ≤ gn g) (h : Inv g k m) (H : ∀ m2, Inv g (k + 1) m2 → At g M_LW_law 1000 1232 (lw_l g k) [] m2 (QI Q)) : At g M_LW_law 1000 919 (lw_l g k) [] m (QI Q) :=
  bk_LW_law_919 g (lv := 999) (l0 := none) ⟨lw_v hn hk 1 (by decide) (by decide), lw_v hn hk 2 (by decide) (by decide), gz g, rfl, h.k12, CJ.monoE (i_gains g h _ _) (fun x m1 h1 E => ⟨lw_v hn hk 1 (by decide) (by decide), lw_v hn hk 2 (by decide) (by decide), gz g + 145, rfl, h.k13 E, CJ.monoE h1 (fun y m2 h2 _ => lw_if h2.1 (H m2 h2.2))⟩)⟩
theorem lw_953 (g : Gc) {k : Nat} {m : Mm} {Q : Int32 → Mm → Prop} (hn : gn g ≤ 4096) (hk : 8 * k + 8 ≤ gn g) (h : Inv g k m) (H : ∀ m2, Inv g (k + 1) m2 → At g M_LW_law 1000 1232 (lw_l g k) [] m2 (QI Q)) : At g M_LW_law 1000 953 (lw_l g k) [] m (QI Q) :=
  bk_LW_law_953 g (lv := 999) (l0 := none) ⟨lw_v hn hk 1 (by decide) (by decide), gz g, rfl, h.k12, CJ.monoE (i_beside g h _) (fun x m1 h1 E => ⟨lw_v hn hk 1 (by decide) (by decide), gz g + 145, rfl, h.k13 E, CJ.monoE h1 (fun y m2 h2 _ => lw_if h2.1 (H m2 h2.2))⟩)⟩
theorem lw_977 (g : Gc) {k : Nat} {m : Mm} {Q : Int32 → Mm → Prop} (hn : gn g ≤ 4096) (hk : 8 * k + 8 ≤ gn g) (h : Inv g k m) (H : ∀ m2, Inv g (k + 1) m2 → At g M_LW_law 1000 1232 (lw_l g k) [] m2 (QI Q)) : At g M_LW_law 1000 977 (lw_l g k) [] m (QI Q) :=
  bk_LW_law_977 g (lv := 999) (l0 := none) ⟨lw_v hn hk 1 (by decide) (by decide), lw_v hn hk 2 (by decide) (by decide), lw_v hn hk 3 (by decide) (by decide), lw_v hn hk 4 (by decide) (by decide), gz g, rfl, h.k12, CI.monoE (i_light g h _ _ _ _) (fun x m1 h1 E => ⟨lw_v hn hk 1 (by decide) (by decide), lw_v hn hk 2 (by decide) (by decide), lw_v hn hk 3 (by decide) (by decide), lw_v hn hk 4 (by decide) (by decide), gz g + 145, rfl, h.k13 E, CI.monoE h1 (fun y m2 h2 _ => lw_if h2.1 (H m2 h2.2))⟩)⟩
theorem lw_1030 (g : Gc) {k : Nat} {m : Mm} {Q : Int32 → Mm → Prop} (hn : gn g ≤ 4096) (hk : 8 * k + 8 ≤ gn g) (h : Inv g k m) (H : ∀ m2, Inv g (k + 1) m2 → At g M_LW_law 1000 1232 (lw_l g k) [] m2 (QI Q)) : At g M_LW_law 1000 1030 (lw_l g k) [] m (QI Q) :=
  bk_LW_law_1030 g (lv := 999) (l0 := none) ⟨lw_v hn hk 1 (by decide) (by decide), lw_v hn hk 2 (by decide) (by decide), lw_v hn hk 3 (by decide) (by decide), gz g, rfl, h.k12, CI.monoE (i_row g h _ _ _) (fun x m1 h1 E => ⟨lw_v hn hk 1 (by decide) (by decide), lw_v hn hk 2 (by decide) (by decide), lw_v hn hk 3 (by decide) (by decide), gz g + 145, rfl, h.k13 E, CI.monoE h1 (fun y m2 h2 _ => lw_if h2.1 (H m2 h2.2))⟩)⟩
theorem lw_1073 (g : Gc) {k : Nat} {m : Mm} {Q : Int32 → Mm → Prop} (hn : gn g ≤ 4096) (hk : 8 * k + 8 ≤ gn g) (h : Inv g k m) (H : ∀ m2, Inv g (k + 1) m2 → At g M_LW_law 1000 1232 (lw_l g k) [] m2 (QI Q)) : At g M_LW_law 1000 1073 (lw_l g k) [] m (QI Q) :=
  bk_LW_law_1073 g (lv := 999) (l0 := none) ⟨lw_v hn hk 1 (by decide) (by decide), gz g, rfl, h.k12, CI.monoE (i_tear g h _) (fun x m1 h1 E => ⟨lw_v hn hk 1 (by decide) (by decide), gz g + 145, rfl, h.k13 E, CI.monoE h1 (fun y m2 h2 _ => lw_if h2.1 (H m2 h2.2))⟩)⟩
theorem lw_1096 (g : Gc) {k : Nat} {m : Mm} {Q : Int32 → Mm → Prop} (hn : gn g ≤ 4096) (hk : 8 * k + 8 ≤ gn g) (h : Inv g k m) (H : ∀ m2, Inv g (k + 1) m2 → At g M_LW_law 1000 1232 (lw_l g k) [] m2 (QI Q)) : At g M_LW_law 1000 1096 (lw_l g k) [] m (QI Q) :=
  bk_LW_law_1096 g (lv := 999) (l0 := none) ⟨lw_v hn hk 1 (by decide) (by decide), lw_v hn hk 2 (by decide) (by decide), lw_v hn hk 3 (by decide) (by decide), lw_v hn hk 4 (by decide) (by decide), gz g, rfl, h.k12, CI.monoE (i_write g h _ _ _) (fun x m1 h1 E => ⟨lw_v hn hk 1 (by decide) (by decide), lw_v hn hk 2 (by decide) (by decide), lw_v hn hk 3 (by decide) (by decide), lw_v hn hk 4 (by decide) (by decide), gz g + 145, rfl, h.k13 E, CI.monoE h1 (fun y m2 h2 _ => lw_if h2.1 (H m2 h2.2))⟩)⟩
theorem lw_1169 (g : Gc) {k : Nat} {m : Mm} {Q : Int32 → Mm → Prop} (hn : gn g ≤ 4096) (hk : 8 * k + 8 ≤ gn g) (h : Inv g k m) (H : ∀ m2, Inv g (k + 1) m2 → At g M_LW_law 1000 1232 (lw_l g k) [] m2 (QI Q)) : At g M_LW_law 1000 1169 (lw_l g k) [] m (QI Q) :=
  bk_LW_law_1169 g (lv := 999) (l0 := none) ⟨lw_v hn hk 1 (by decide) (by decide), lw_v hn hk 2 (by decide) (by decide), lw_v hn hk 3 (by decide) (by decide), lw_v hn hk 4 (by decide) (by decide), lw_v hn hk 5 (by decide) (by decide), gz g, rfl, h.k12, CI.monoE (i_paste g h _ _ _ _ _) (fun x m1 h1 E => ⟨lw_v hn hk 1 (by decide) (by decide), lw_v hn hk 2 (by decide) (by decide), lw_v hn hk 3 (by decide) (by decide), lw_v hn hk 4 (by decide) (by decide), lw_v hn hk 5 (by decide) (by decide), gz g + 145, rfl, h.k13 E, CI.monoE h1 (fun y m2 h2 _ => lw_if h2.1 (H m2 h2.2))⟩)⟩
theorem lw_one (g : Gc) {k : Nat} {m : Mm} {Q : Int32 → Mm → Prop} (hn : gn g ≤ 4096) (hk : 8 * k + 8 ≤ gn g) (h : Inv g k m) (H : ∀ m2, Inv g (k + 1) m2 → At g M_LW_law 1000 1232 (lw_l g k) [] m2 (QI Q)) : At g M_LW_law 1000 18 (lw_l g k) [] m (QI Q) := by
  refine bk_LW_law_18 g (lv := 999) (l0 := none) ?_
  rw [if_neg (lw_in hn hk)]
  refine ⟨vp_in_nI (by omega) (by omega), ?_⟩
  refine lw_br (lw_164 g hn hk h H) ?_
  refine lw_br (lw_251 g hn hk h H) ?_
  refine lw_br (lw_294 g hn hk h H) ?_
  refine lw_br (lw_327 g hn hk h H) ?_
  refine lw_br (lw_390 g hn hk h H) ?_
  refine lw_br (lw_413 g hn hk h H) ?_
  refine lw_br (lw_446 g hn hk h H) ?_
  refine lw_br (lw_459 g hn hk h H) ?_
  refine lw_br (lw_492 g hn hk h H) ?_
  refine lw_br (lw_515 g hn hk h H) ?_
  refine lw_br (lw_538 g hn hk h H) ?_
  refine lw_br (lw_581 g hn hk h H) ?_
  refine lw_br (lw_614 g hn hk h H) ?_
  refine lw_br (lw_647 g hn hk h H) ?_
  refine lw_br (lw_691 g hn hk h H) ?_
  refine lw_br (lw_725 g hn hk h H) ?_
  refine lw_br (lw_748 g hn hk h H) ?_
  refine lw_br (lw_781 g hn hk h H) ?_
  refine lw_br (lw_815 g hn hk h H) ?_
  refine lw_br (lw_848 g hn hk h H) ?_
  refine lw_br (lw_872 g hn hk h H) ?_
  refine lw_br (lw_895 g hn hk h H) ?_
  refine lw_br (lw_919 g hn hk h H) ?_
  refine lw_br (lw_953 g hn hk h H) ?_
  refine lw_br (lw_977 g hn hk h H) ?_
  refine lw_br (lw_1030 g hn hk h H) ?_
  refine lw_br (lw_1073 g hn hk h H) ?_
  refine lw_br (lw_1096 g hn hk h H) ?_
  refine lw_br (lw_1169 g hn hk h H) ?_
  exact H m h.nxt
theorem lw_end {g : Gc} {k : Nat} {m : Mm} (h : Inv g k m) (hk : k ≤ 512) : mC m ≤ 600000 ∧ mS m ≤ 7302250 := ⟨by have := h.2.1.1; omega, by have := h.2.1.2; omega⟩
theorem lw_loop (g : Gc) (hn : gn g ≤ 4096) : ∀ (d k : Nat) (m : Mm), k + d = 513 → k ≤ 512 → 8 * k ≤ gn g ∨ k = 0 → Inv g k m → At g M_LW_law 1000 18 (lw_l g k) [] m (QI (fun x m' => x = 1 ∧ mC m' ≤ 600000 ∧ mS m' ≤ 7302250))
  | 0, k, m, hd, hk, _, h => by omega
  | d + 1, k, m, hd, hk, hg, h => by
    by_cases q : 8 * k + 8 ≤ gn g
    · refine lw_one g hn q h (fun m2 h2 => ?_)
      refine bk_LW_law_1232 g (lv := 999) (l0 := none) ?_
      rw [show nI (8 * k) + (8 : Int32) = nI (8 * (k + 1)) from by rw [show (8 : Int32) = nI 8 from rfl, nI_add, show 8 * k + 8 = 8 * (k + 1) by omega]]
      exact lw_loop g hn d (k + 1) m2 (by omega) (by omega) (Or.inl (by omega)) h2
    · refine bk_LW_law_18 g (lv := 999) (l0 := none) ?_
      rw [if_pos (lw_out hn q hk)]
      exact ⟨rfl, lw_end h hk⟩
theorem lw_mid (g : Gc) {b : Mm} (hb : mC b = 145) (hf : Frb g b) {K : Nat → Mm → Prop} (H : K (gz g + 145) (run g b LL)) : mK b (gz g + mC b) = 0 ∧ ∀ q12 m13, q12 = gz g + mC b → m13 = nw b q12 13 0 66 → CV g M_RF_init 999 [va_rf (some q12)] m13 (fun m19 => K q12 m19) := by
  rw [hb]
  refine ⟨hf 145 (by omega), fun q m' eq em => ?_⟩
  subst eq
  subst em
  exact cRF g (lv := 998) hf hb (Q := fun m19 => K (gz g + 145) m19) H
theorem bx_Frb {g : Gc} {m1 : Mm} {f : Nat → Int64} (R : RO g m00 L1 m1) : mC (bx g m1 f) = 145 ∧ Frb g (bx g m1 f) := by
  obtain ⟨⟨c, -⟩, H⟩ := R
  obtain ⟨⟨bC, -⟩, bK, -⟩ := bx_ok g m1 f
  have c1 : mC (bx g m1 f) = 145 := by
    rw [bC, c, cntL.1]; rfl
  refine ⟨c1, fun a ha => ?_⟩
  rw [c1] at ha
  rw [bK, (H a).1.1, (wthn_no (j := 0) wi1 (Or.inr ha)).1]
  rfl
theorem lw_new (g : Gc) {m1 : Mm} {f : Nat → Int64} (R : RO g m00 L1 m1) (hf : ∀ n k, n ≤ 60 → k ≤ n → f (n * (n + 1) / 2 + k) = ch n k) {K : Nat → Mm → Prop} (H : ∀ m, Inv g 0 m → K (gz g + 145) m) : mK (bx g m1 f) (gz g + mC (bx g m1 f)) = 0 ∧ ∀ q12 m13, q12 = gz g + mC (bx g m1 f) → m13 = nw (bx g m1 f) q12 13 0 66 → CV g M_RF_init 999 [va_rf (some q12)] m13 (fun m19 => K q12 m19) :=
  lw_mid g (bx_Frb R).1 (bx_Frb R).2 (H _ (inv_0 ⟨R, run_RO g _ LL⟩ hf))
theorem law_holds (g : Gc) (hn : gn g ≤ 4096) : At g M_LW_law 1000 0 [(0, va_rf (some (gb g)))] [] m00 (QI (fun x m' => x = 1 ∧ mC m' ≤ 600000 ∧ mS m' ≤ 7302250)) := by
  refine bk_LW_law_0 g (lv := 999) (l0 := none) ⟨rfl, fun q m3 eq em => ?_⟩
  subst eq
  subst em
  refine cSL g (lv := 995) (fun f hf => ?_)
  exact lw_new g (run_RO g m00 L1) hf (K := fun q12 m19 => At g M_LW_law 1000 18 [(0, va_rf (some (gb g))), (1, va_rf (some (gz g + mC m00))), (2, va_rf (some q12)), (3, .int (0 : Int32))] [] m19 (QI (fun x m' => x = 1 ∧ mC m' ≤ 600000 ∧ mS m' ≤ 7302250))) (fun m h => lw_loop g hn 513 0 m rfl (Nat.zero_le _) (Or.inr rfl) h)
