/-! ===== every call keeps what holds between calls: the calls that do not touch the land ===== -/
theorem SetsAt.keep {g : Gc} {d : Nat} {P : Nat → Nat → Prop} {m m2 : Mm} (h : SetsAt m (gz g) (gz g + 144)) (F : Fr g m) (S2 : Sg g m2) (f : Fs g P d m m2) (hP : ∀ a j, a < gz g + 184 → P a j → a ≠ gz g + 144) : SetsAt m2 (gz g) (gz g + 144) := by
  have F1 := F.1
  refine ⟨S2.k 0 rfl, S2.r 0 7 rfl, S2.k 144 rfl, S2.n 144 rfl, fun n k a b => ?_⟩
  rw [(f.2.2 (gz g + 144) _ (by omega) (fun q => hP _ _ (by omega) q rfl)).2.1]
  exact h.2.2.2.2 n k a b
theorem TermsOK.keep {g : Gc} {d : Nat} {P : Nat → Nat → Prop} {m m2 : Mm} (h : TermsOK g m) (F : Fr g m) (f : Fs g P d m m2) (hP : ∀ a j, a < gz g + 184 → P a j → a ≠ gz g + 1 ∧ ¬ (a = gz g + 145 ∧ 5 ≤ j ∧ j ≤ 11)) : TermsOK g m2 := by
  have F1 := F.1
  exact h.same (funext fun j => (f.2.2 _ j (by omega) (fun q => (hP _ _ (by omega) q).1 rfl)).1) (fun j hj => (f.2.2 _ _ (by omega) (fun q => (hP _ _ (by omega) q).2 ⟨rfl, by omega, by omega⟩)).1)
theorem RowsOK.keep {g : Gc} {d : Nat} {P : Nat → Nat → Prop} {m m2 : Mm} (h : RowsOK g m) (F : Fr g m) (f : Fs g P d m m2) (hP : ∀ a j, a < gz g + 184 → P a j → ¬ (gz g + 141 ≤ a ∧ a ≤ gz g + 143) ∧ ¬ (gz g + 146 ≤ a ∧ a ≤ gz g + 148)) : RowsOK g m2 := fun s hs => by
  have F1 := F.1
  have x : ∀ a j, a < gz g + 184 → ((gz g + 141 ≤ a ∧ a ≤ gz g + 143) ∨ (gz g + 146 ≤ a ∧ a ≤ gz g + 148)) → mI m2 a j = mI m a j ∧ mL m2 a j = mL m a j := fun a j h1 h2 => by
    have := f.2.2 a j (by omega) (fun q => by have := hP a j h1 q; omega)
    exact ⟨this.1, this.2.1⟩
  exact (h s hs).same (x _ _ (by omega) (by omega)).1 (x _ _ (by omega) (by omega)).1 (x _ _ (by omega) (by omega)).1 (x _ _ (by omega) (by omega)).1 (fun i _ => (x _ _ (by omega) (by omega)).2) (fun i _ => (x _ _ (by omega) (by omega)).2)
/-- what a list of cells says, in numbers -/
theorem Only.num {g : Gc} {W ss : List Nat} {m m2 : Mm} (o : Only g W ss m m2) (E : Ext m m2) (X : Nat → Nat → Prop) (hW : ∀ w, w ∈ W → ∀ j, X (gz g + w) j) (hs : ∀ j, j ∈ ss → X (gz g + 145) j) : Fs g X 0 m m2 := (o.fs E).weak (fun a j _ z => by
  rcases z with ⟨w, hw, rfl⟩ | ⟨rfl, hj⟩
  · exact hW w hw j
  · exact hs j hj) (Nat.le_refl _)
def XRd (g : Gc) (a j : Nat) : Prop := a = gz g + 183 ∨ (a = gz g + 145 ∧ j = 0)
theorem Inv.read {g : Gc} {k : Nat} {W : List Nat} {m m2 : Mm} (h : Inv g k m) (o : Only g W [0] m m2) (E : Ext m m2) (hW : ∀ w, w ∈ W → w = 183) : Inv g (k + 1) m2 := by
  have f : Fs g (XRd g) 0 m m2 := o.num E _ (fun w hw j => Or.inl (by rw [hW w hw])) (fun j hj => Or.inr ⟨rfl, by simpa using hj⟩)
  obtain ⟨⟨S, F⟩, -, hb, ht, hl, hL⟩ := id h
  have F1 := F.1
  exact h.next E (o.fr F) f (by omega) (hb.keep F (S.ext E) f (fun a j _ z => by unfold XRd at z; omega)) (ht.keep F f (fun a j _ z => by unfold XRd at z; omega)) (hl.keep F f (fun a j _ z => by unfold XRd at z; omega)) (hL.keep F f (fun a j _ z => by unfold XRd at z; omega))
def XRw (g : Gc) (a j : Nat) : Prop := (gz g + 141 ≤ a ∧ a ≤ gz g + 143) ∨ (gz g + 146 ≤ a ∧ a ≤ gz g + 149) ∨ (a = gz g + 145 ∧ j = 0)
theorem WR_n : ∀ w, w ∈ WR → (141 ≤ w ∧ w ≤ 143) ∨ (146 ≤ w ∧ w ≤ 149) := by decide
theorem Inv.rows {g : Gc} {k : Nat} {m m2 : Mm} (h : Inv g k m) (q : RowsOK g m2 ∧ Only g WR [0] m m2) (E : Ext m m2) : Inv g (k + 1) m2 := by
  obtain ⟨r, o⟩ := q
  have f : Fs g (XRw g) 0 m m2 := o.num E _ (fun w hw j => by have := WR_n w hw; unfold XRw; omega) (fun j hj => Or.inr (Or.inr ⟨rfl, by simpa using hj⟩))
  obtain ⟨⟨S, F⟩, -, ⟨hs, htm, -⟩, ht, hl, hL⟩ := id h
  have F1 := F.1
  exact h.next E (o.fr F) f (by omega) ⟨hs.keep F (S.ext E) f (fun a j _ z => by unfold XRw at z; omega), htm.keep F f (fun a j _ z => by unfold XRw at z; omega), r⟩ (ht.keep F f (fun a j _ z => by unfold XRw at z; omega)) (hl.keep F f (fun a j _ z => by unfold XRw at z; omega)) (hL.keep F f (fun a j _ z => by unfold XRw at z; omega))
def XTm (g : Gc) (a j : Nat) : Prop := a = gz g + 1 ∨ (a = gz g + 145 ∧ (j = 0 ∨ (5 ≤ j ∧ j ≤ 11)))
theorem WT_n : ∀ w, w ∈ WT → w = 0 ∨ (5 ≤ w ∧ w ≤ 11) := by decide
theorem Inv.terms {g : Gc} {k : Nat} {m m2 : Mm} (h : Inv g k m) (q : TermsOK g m2 ∧ Only g [1] WT m m2) (E : Ext m m2) : Inv g (k + 1) m2 := by
  obtain ⟨r, o⟩ := q
  have f : Fs g (XTm g) 0 m m2 := o.num E _ (fun w hw j => Or.inl (by rw [show w = 1 by simpa using hw])) (fun j hj => Or.inr ⟨rfl, WT_n j hj⟩)
  obtain ⟨⟨S, F⟩, -, ⟨hs, -, hr⟩, ht, hl, hL⟩ := id h
  have F1 := F.1
  exact h.next E (o.fr F) f (by omega) ⟨hs.keep F (S.ext E) f (fun a j _ z => by unfold XTm at z; omega), r, hr.keep F f (fun a j _ z => by unfold XTm at z; omega)⟩ (ht.keep F f (fun a j _ z => by unfold XTm at z; omega)) (hl.keep F f (fun a j _ z => by unfold XTm at z; omega)) (hL.keep F f (fun a j _ z => by unfold XTm at z; omega))
def XTp (g : Gc) (a j : Nat) : Prop := a = gz g + 128 ∨ a = gz g + 129 ∨ a = gz g + 152 ∨ (a = gz g + 145 ∧ (j = 0 ∨ j = 15 ∨ j = 16))
theorem WP_n : ∀ w, w ∈ WP → w = 128 ∨ w = 129 ∨ w = 152 := by decide
theorem Inv.tape {g : Gc} {k : Nat} {m m2 : Mm} (h : Inv g k m) (q : TapeOK g m2 ∧ Only g WP [0, 15, 16] m m2) (E : Ext m m2) : Inv g (k + 1) m2 := by
  obtain ⟨r, o⟩ := q
  have f : Fs g (XTp g) 0 m m2 := o.num E _ (fun w hw j => by have := WP_n w hw; unfold XTp; omega) (fun j hj => (by
      have hj' : j = 0 ∨ j = 15 ∨ j = 16 := by simpa using hj
      unfold XTp
      omega))
  obtain ⟨⟨S, F⟩, -, hb, -, hl, hL⟩ := id h
  have F1 := F.1
  exact h.next E (o.fr F) f (by omega) (hb.keep F (S.ext E) f (fun a j _ z => by unfold XTp at z; omega)) r (hl.keep F f (fun a j _ z => by unfold XTp at z; omega)) (hL.keep F f (fun a j _ z => by unfold XTp at z; omega))
theorem Inv.law {g : Gc} {k : Nat} {m m2 : Mm} (h : Inv g k m) (q : (LawsOK g m2 ∧ TapeOK g m2) ∧ Fr g m2 ∧ Fs g (PLw g) 71 m m2) (E : Ext m m2) : Inv g (k + 1) m2 := by
  obtain ⟨⟨r, t⟩, F2, f⟩ := q
  obtain ⟨⟨S, F⟩, -, hb, -, hl, hL⟩ := id h
  have F1 := F.1
  exact h.next E F2 f (by omega) (hb.keep F (S.ext E) f (fun a j _ z => by unfold PLw at z; omega)) t r (hL.keep F f (fun a j _ z => by unfold PLw at z; omega))
theorem i_terms (g : Gc) {k : Nat} {m : Mm} (h : Inv g k m) (a b c d e f l : Int32) : SimI g M_SL_terms M_RF_terms 999 [.int a, .int b, .int c, .int d, .int e, .int f, .int l] m (Inv g (k + 1)) := (sim_terms g (lv := 997) h.1.1 h.2.2.1.2.1 a b c d e f l).monoE (fun m2 q E => h.terms q E)
theorem i_feed (g : Gc) {k : Nat} {m : Mm} (h : Inv g k m) (a b c d e : Int32) : SimI g M_SL_feed M_RF_feed 999 [.int a, .int b, .int c, .int d, .int e] m (Inv g (k + 1)) := (sim_feed g (lv := 997) h.1.1 h.2.2.2.1 a b c d e).monoE (fun m2 q E => h.tape q E)
theorem i_end (g : Gc) {k : Nat} {m : Mm} (h : Inv g k m) (n : Int32) : SimI g M_SL_end M_RF_end 999 [.int n] m (Inv g (k + 1)) := (sim_end g (lv := 997) h.1.1 h.2.2.2.1 n).monoE (fun m2 q E => h.tape q E)
theorem i_fault (g : Gc) {k : Nat} {m : Mm} (h : Inv g k m) : SimI g M_SL_fault M_RF_fault 999 [] m (Inv g (k + 1)) := (sim_fault g (lv := 998) h.1.1 h.2.2.2.1).monoE (fun m2 q E => h.tape q E)
theorem i_law (g : Gc) {k : Nat} {m : Mm} (h : Inv g k m) (a b : Int32) : SimI g M_SL_law M_RF_law 999 [.int a, .int b] m (Inv g (k + 1)) := by
  obtain ⟨n, y, p, r, A, pa, pb, R, ⟨C, RR, TR, WR, G⟩, O, D⟩ := id h.2.2.2.2.2
  exact (sim_law g (lv := 962) h.1.1 h.1.2 h.2.2.2.1 h.2.2.2.2.1 (C.yr.trans G.1.2.2.2.2.2.1) (RR.yr.trans G.1.2.2.2.2.2.1) G.2.1.2.1 a b).monoE (fun m2 q E => h.law q E)
theorem i_light (g : Gc) {k : Nat} {m : Mm} (h : Inv g k m) (a b c d : Int32) : SimI g M_SL_light M_RF_light 999 [.int a, .int b, .int c, .int d] m (Inv g (k + 1)) := (sim_light g (lv := 995) h.1.1 h.2.2.1.1 a b c d).monoE (fun m2 q E => h.read q E (fun w hw => by simpa using hw))
theorem i_row (g : Gc) {k : Nat} {m : Mm} (h : Inv g k m) (a b c : Int32) : SimI g M_SL_row M_RF_row 999 [.int a, .int b, .int c] m (Inv g (k + 1)) := (sim_row g (lv := 996) h.1.1 h.2.2.1.2.2 a b c).monoE (fun m2 q E => h.rows q E)
theorem i_tear (g : Gc) {k : Nat} {m : Mm} (h : Inv g k m) (a : Int32) : SimI g M_SL_tear M_RF_tear 999 [.int a] m (Inv g (k + 1)) := (sim_tear g (lv := 996) h.1.1 h.2.2.1.2.2 a).monoE (fun m2 q E => h.rows q E)
theorem i_write (g : Gc) {k : Nat} {m : Mm} (h : Inv g k m) (a b : Int32) (v : Int64) : SimI g M_SL_write M_RF_write 999 [.int a, .int b, .long v] m (Inv g (k + 1)) := (sim_write g (lv := 996) h.1.1 h.2.2.1.2.2 a b v).monoE (fun m2 q E => h.rows q E)
theorem i_paste (g : Gc) {k : Nat} {m : Mm} (h : Inv g k m) (a b c d e : Int32) : SimI g M_SL_paste M_RF_paste 999 [.int a, .int b, .int c, .int d, .int e] m (Inv g (k + 1)) := (sim_paste g (lv := 996) h.1.1 h.2.2.1.2.2 a b c d e).monoE (fun m2 q E => h.rows q E)
theorem nilW : ∀ w, w ∈ ([] : List Nat) → w = 183 := fun w hw => by cases hw
theorem i_sum (g : Gc) {k : Nat} {m : Mm} (h : Inv g k m) (a : Int32) : SimJ g M_SL_sum M_RF_sum_I 999 [.int a] m (Inv g (k + 1)) := by
  obtain ⟨n, y, p, r, A, pa, pb, R, ⟨C, RR, TR, WR, G⟩, O, D⟩ := id h.2.2.2.2.2
  exact (sim_sum g (lv := 997) h.1.1 (⟨C.1, RR.1⟩ : LandB g pa 30 r A m) a).monoE (fun m2 q E => h.read q E nilW)
theorem i_money (g : Gc) {k : Nat} {m : Mm} (h : Inv g k m) (a : Int32) : SimJ g M_SL_money M_RF_money 999 [.int a] m (Inv g (k + 1)) := by
  obtain ⟨n, y, p, r, A, pa, pb, R, ⟨C, RR, TR, WR, G⟩, O, D⟩ := id h.2.2.2.2.2
  exact (sim_money g (lv := 996) h.1.1 (⟨C.1, RR.1⟩ : LandB g pa 30 r A m) G.1.2.2.2.2.1 G.2.1.1 a).monoE (fun m2 q E => h.read q E nilW)
theorem i_gains (g : Gc) {k : Nat} {m : Mm} (h : Inv g k m) (a b : Int32) : SimJ g M_SL_gains M_RF_gains 999 [.int a, .int b] m (Inv g (k + 1)) := by
  obtain ⟨n, y, p, r, A, pa, pb, R, ⟨C, RR, TR, WR, G⟩, O, D⟩ := id h.2.2.2.2.2
  exact (sim_gains g (lv := 997) h.1.1 (⟨C.1, RR.1⟩ : LandB g pa 30 r A m) C.2.1 G.1.2.2.2.2.1 G.2.1.1 a b).monoE (fun m2 q E => h.read q E nilW)
theorem i_growerOf (g : Gc) {k : Nat} {m : Mm} (h : Inv g k m) (a b : Int32) : SimI g M_SL_growerOf M_RF_growerOf 999 [.int a, .int b] m (Inv g (k + 1)) := by
  obtain ⟨n, y, p, r, A, pa, pb, R, ⟨C, RR, TR, WR, G⟩, O, D⟩ := id h.2.2.2.2.2
  exact (sim_growerOf g (lv := 996) h.1.1 (⟨(C.down G.2.1.2.1).1, (RR.down G.2.1.2.1).1⟩ : LandB g pa y r A m) C.2.1 G.1.2.2.2.2.1 G.2.1.1 G.1.2.2.2.2.2.1 G.2.1.2.1 a b).monoE (fun m2 q E => h.read q E nilW)
theorem i_receipt (g : Gc) {k : Nat} {m : Mm} (h : Inv g k m) (a b : Int32) : SimI g M_SL_receipt M_RF_receipt_II 999 [.int a, .int b] m (Inv g (k + 1)) := by
  obtain ⟨n, y, p, r, A, pa, pb, R, ⟨C, RR, TR, WR, G⟩, O, D⟩ := id h.2.2.2.2.2
  exact (sim_receipt g (lv := 996) h.1.1 h.1.2 C RR G.1.2.2.2.1.1 G.1.2.2.2.1.2 a b).monoE (fun m2 q E => h.read q E nilW)
theorem i_owed (g : Gc) {k : Nat} {m : Mm} (h : Inv g k m) (a b : Int32) : SimJ g M_SL_owed M_RF_owed 999 [.int a, .int b] m (Inv g (k + 1)) := by
  obtain ⟨n, y, p, r, A, pa, pb, R, ⟨C, RR, TR, WR, G⟩, O, D⟩ := id h.2.2.2.2.2
  exact (sim_owed g (lv := 996) h.1.1 h.1.2 C RR G.1.2.2.2.1.1 G.1.2.2.2.1.2 a b).monoE (fun m2 q E => h.read q E nilW)
theorem i_count (g : Gc) {k : Nat} {m : Mm} (h : Inv g k m) (a : Int32) : SimI g M_SL_count M_RF_count 999 [.int a] m (Inv g (k + 1)) := by
  obtain ⟨n, y, p, r, A, pa, pb, R, ⟨C, RR, TR, WR, G⟩, O, D⟩ := id h.2.2.2.2.2
  exact (sim_count g (lv := 995) h.1.1 h.1.2 h.2.2.1.2.2 h.2.2.2.1 (C.down G.2.1.2.1) (RR.down G.2.1.2.1) G.1.2.2.2.2.1 G.2.1.1 G.1.2.2.2.1.1 G.1.2.2.2.1.2 G.1.2.2.2.2.2.1 G.2.1.2.1 G.f30 G.2.2.2.2.2.1 a).monoE (fun m2 q E => h.read q E nilW)
