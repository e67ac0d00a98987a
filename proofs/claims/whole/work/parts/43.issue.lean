/-! ===== frames by slots; a new receipt ===== -/
/-- nothing changed but these slots; at most d cells (of at most 5 slots) have come -/
def Fs (g : Gc) (P : Nat → Nat → Prop) (d : Nat) (m m' : Mm) : Prop := Ext m m' ∧ (mC m ≤ mC m' ∧ mC m' ≤ mC m + d ∧ mS m' ≤ mS m + 5 * d) ∧ ∀ a j, a < gz g + mC m → ¬ P a j → mI m' a j = mI m a j ∧ mL m' a j = mL m a j ∧ mR m' a j = mR m a j
theorem Fs.refl (g : Gc) (P : Nat → Nat → Prop) (d : Nat) (m : Mm) : Fs g P d m m := ⟨Ext.refl m, ⟨by omega, by omega, by omega⟩, fun _ _ _ _ => ⟨rfl, rfl, rfl⟩⟩
theorem Fs.trans {g : Gc} {P P2 : Nat → Nat → Prop} {d d2 : Nat} {m m1 m2 : Mm} (h : Fs g P d m m1) (h2 : Fs g P2 d2 m1 m2) (hP : ∀ a j, a < gz g + mC m → P2 a j → P a j) : Fs g P (d + d2) m m2 := by
  obtain ⟨e, ⟨c1, c2, c3⟩, f⟩ := h
  obtain ⟨e', ⟨c1', c2', c3'⟩, f'⟩ := h2
  refine ⟨e.trans e', ⟨by omega, by omega, by omega⟩, fun a j ha hn => ?_⟩
  obtain ⟨x1, x2, x3⟩ := f a j ha hn
  obtain ⟨y1, y2, y3⟩ := f' a j (by omega) (fun q => hn (hP a j ha q))
  exact ⟨y1.trans x1, y2.trans x2, y3.trans x3⟩
theorem Fs.weak {g : Gc} {P P2 : Nat → Nat → Prop} {d d2 : Nat} {m m1 : Mm} (h : Fs g P d m m1) (hP : ∀ a j, a < gz g + mC m → P a j → P2 a j) (hd : d ≤ d2) : Fs g P2 d2 m m1 := by
  obtain ⟨e, ⟨c1, c2, c3⟩, f⟩ := h
  exact ⟨e, ⟨by omega, by omega, by omega⟩, fun a j ha hn => f a j ha (fun q => hn (hP a j ha q))⟩
theorem up2_not {α : Type} {f : Nat → Nat → α} {a j b i : Nat} {v : α} (h : ¬ (b = a ∧ i = j)) : up2 f a j v b i = f b i := by
  by_cases hb : b = a
  · exact up2_sl (fun e => h ⟨hb, e⟩)
  · exact up2_oth hb
theorem Fs_sI {g : Gc} {P : Nat → Nat → Prop} (m : Mm) {a j : Nat} (hP : P a j) (v : Int32) : Fs g P 0 m (sI m a j v) :=
  ⟨Ext.sI m a j v, ⟨by rw [mC_sI]; omega, by rw [mC_sI]; omega, by rw [mS_sI]; omega⟩, fun b i _ hn => ⟨up2_not (fun q => hn (by rw [q.1, q.2]; exact hP)), rfl, rfl⟩⟩
theorem Fs_sL {g : Gc} {P : Nat → Nat → Prop} (m : Mm) {a j : Nat} (hP : P a j) (v : Int64) : Fs g P 0 m (sL m a j v) :=
  ⟨Ext.sL m a j v, ⟨by rw [mC_sL]; omega, by rw [mC_sL]; omega, by rw [mS_sL]; omega⟩, fun b i _ hn => ⟨rfl, up2_not (fun q => hn (by rw [q.1, q.2]; exact hP)), rfl⟩⟩
theorem Fs_sR {g : Gc} {P : Nat → Nat → Prop} (m : Mm) {a j : Nat} (hP : P a j) (v : Option Nat) (hE : finR (mK m a) j = false ∨ mR m a j = none) : Fs g P 0 m (sR m a j v) :=
  ⟨Ext.sR v hE, ⟨by rw [mC_sR]; omega, by rw [mC_sR]; omega, by rw [mS_sR]; omega⟩, fun b i _ hn => ⟨rfl, rfl, up2_not (fun q => hn (by rw [q.1, q.2]; exact hP))⟩⟩
theorem nw_old {m : Mm} {q k n sz a : Nat} (h : a ≠ q) : mI (nw m q k n sz) a = mI m a ∧ mL (nw m q k n sz) a = mL m a ∧ mR (nw m q k n sz) a = mR m a ∧ mK (nw m q k n sz) a = mK m a := by
  refine ⟨?_, ?_, ?_, ?_⟩
  · show va_up (mI m) _ _ a = _; simp [va_up, h]
  · show va_up (mL m) _ _ a = _; simp [va_up, h]
  · show va_up (mR m) _ _ a = _; simp [va_up, h]
  · show va_up (mK m) _ _ a = _; simp [va_up, h]
theorem nw_new {m : Mm} {q k n sz : Nat} : mK (nw m q k n sz) q = k ∧ mN (nw m q k n sz) q = n := by
  refine ⟨?_, ?_⟩
  · show va_up (mK m) _ _ q = _; simp [va_up]
  · show va_up (mN m) _ _ q = _; simp [va_up]
theorem Fs_nw {g : Gc} {P : Nat → Nat → Prop} (m : Mm) (hF : Fr g m) (k n sz : Nat) (hz : sz ≤ 5) : Fs g P 1 m (nw m (gz g + mC m) k n sz) := by
  refine ⟨Ext.nw (hF.2 _ (Nat.le_refl _)) k n sz, ⟨by show mC m ≤ mC m + 1; omega, by show mC m + 1 ≤ mC m + 1; omega, by show mS m + sz ≤ mS m + 5 * 1; omega⟩, fun a j ha _ => ?_⟩
  obtain ⟨x1, x2, x3, -⟩ := nw_old (m := m) (k := k) (n := n) (sz := sz) (show a ≠ gz g + mC m by omega)
  exact ⟨by rw [x1], by rw [x2], by rw [x3]⟩
theorem finR7 : ∀ j, finR 7 j = false
  | 0 => rfl
  | 1 => rfl
  | 2 => rfl
  | 3 => rfl
  | 4 => rfl
  | (_ + 5) => rfl
theorem sh_t {t : Nat} (ht : t = 2 ∨ t = 65) : (shK t = 4 ∧ shK (t + 3) = 9 ∧ shK (t + 4) = 21 ∧ shN (t + 4) = 400 ∧ shR t 3 = some (t + 3) ∧ shR (t + 3) 0 = some (t + 4)) ∧ t < 66 ∧ shK (t + 1) = 19 ∧ shN (t + 1) = 12 ∧ shR t 1 = some (t + 1) ∧ shR t 7 = some (t + 11) ∧ shK (t + 11) = 16 ∧ shN (t + 11) = 8 := by
  rcases ht with rfl | rfl
  · decide +kernel
  · decide +kernel
theorem vI_r {n y r r' c i : Nat} (h9 : c ≠ 9) (h10 : c ≠ 10) (h11 : c ≠ 11) (h : vI n y r c i) : vI n y r' c i := by
  unfold vI at h
  split at h
  · exact h
  · exact absurd rfl h9
  · exact absurd rfl h10
  · exact absurd rfl h11
  · exact h
  · exact h
  · exact h
  · exact h
  · exact h
  · exact h
  · exact h
  · obtain ⟨a, b, d⟩ := h
    rcases (show c = 1 ∨ c = 2 ∨ c = 3 ∨ c = 4 ∨ c = 5 ∨ c = 6 ∨ c = 7 ∨ c = 8 by omega) with rfl | rfl | rfl | rfl | rfl | rfl | rfl | rfl <;> exact ⟨a, b, d⟩
def issB (A : Mm) (r : Nat) (h s yy : Int32) : Mm := sI (sI (sI A 9 r h) 10 r s) 11 r yy
def issA (A : Mm) (r : Nat) (h s yy : Int32) : Mm := sI (issB A r h s yy) 0 3 (nI (r + 1))
theorem issB_oth {A : Mm} {r c i : Nat} {h s yy : Int32} (hc : ¬ ((c = 9 ∨ c = 10 ∨ c = 11) ∧ i = r)) : mI (issB A r h s yy) c i = mI A c i := by
  unfold issB
  rw [mI_sI, up2_not (by omega), mI_sI, up2_not (by omega), mI_sI, up2_not (by omega)]
theorem issB_at {A : Mm} {r : Nat} {h s yy : Int32} : mI (issB A r h s yy) 9 r = h ∧ mI (issB A r h s yy) 10 r = s ∧ mI (issB A r h s yy) 11 r = yy := by
  unfold issB
  refine ⟨?_, ?_, ?_⟩
  · rw [mI_sI, up2_oth (by omega), mI_sI, up2_oth (by omega), mI_sI, up2_at]
  · rw [mI_sI, up2_oth (by omega), mI_sI, up2_at]
  · rw [mI_sI, up2_at]
theorem issB_L {A : Mm} {r : Nat} {h s yy : Int32} : mL (issB A r h s yy) = mL A := rfl
theorem LandC.issue {g : Gc} {t : Nat} {pa : Nat → Nat} {n y r : Nat} {A m m' : Mm} {v0 v1 v2 : Int32} (h : LandC g t pa n y r A m) (hn : n ≤ 12) (hs : ∀ a, (gz g + t ≤ a ∧ a < gz g + t + 63) ∨ (∃ k, k < r ∧ a = pa k) → mI m' a = mI m a ∧ mL m' a = mL m a) (h0 : mI m' (pa r) 0 = v0) (h1 : mI m' (pa r) 1 = v1) (h2 : mI m' (pa r) 2 = v2) : LandC g t pa n y (r + 1) (issB A r v0 v1 v2) m' := by
  have hold := h.same hn hs
  obtain ⟨i9, i10, i11⟩ := issB_at (A := A) (r := r) (h := v0) (s := v1) (yy := v2)
  refine ⟨fun c i hv => ?_, fun c i hv => ?_⟩
  · by_cases hc : (c = 9 ∨ c = 10 ∨ c = 11) ∧ i = r
    · obtain ⟨h3, rfl⟩ := hc
      rcases h3 with rfl | rfl | rfl
      · rw [i9]; exact h0
      · rw [i10]; exact h1
      · rw [i11]; exact h2
    · rw [issB_oth hc]
      refine hold.1 c i ?_
      by_cases h9 : c = 9
      · subst h9; have : i < r + 1 := hv; show i < r; omega
      by_cases h10 : c = 10
      · subst h10; have : i < r + 1 := hv; show i < r; omega
      by_cases h11 : c = 11
      · subst h11; have : i < r + 1 := hv; show i < r; omega
      exact vI_r h9 h10 h11 hv
  · rw [issB_L]; exact hold.2 c i hv
theorem LandC.pa {g : Gc} {t : Nat} {pa pa' : Nat → Nat} {n y r : Nat} {A m : Mm} (h : LandC g t pa n y r A m) (e : ∀ i, i < r → pa' i = pa i) : LandC g t pa' n y r A m := by
  refine ⟨fun c i hv => ?_, h.2⟩
  have : cI (gz g + t) pa' c i = cI (gz g + t) pa c i := by
    by_cases h9 : c = 9
    · subst h9; exact Prod.ext (e i hv) rfl
    by_cases h10 : c = 10
    · subst h10; exact Prod.ext (e i hv) rfl
    by_cases h11 : c = 11
    · subst h11; exact Prod.ext (e i hv) rfl
    unfold cI
    split <;> first | rfl | (exfalso; omega)
  rw [this]
  exact h.1 c i hv
theorem PaOK.weak {g : Gc} {pa : Nat → Nat} {r R : Nat} (h : PaOK g pa R) (hr : r ≤ R) : PaOK g pa r := ⟨fun i j hi hj => h.1 i j (by omega) (by omega), fun i hi => h.2 i (by omega)⟩
theorem LandC.rn {g : Gc} {t : Nat} {pa : Nat → Nat} {n y r : Nat} {A m : Mm} (h : LandC g t pa n y r A m) : mI m (gz g + (t + 3)) 1 = mI A 0 3 := by rw [← Nat.add_assoc]; exact h.1 0 3 (by show 3 < 7; omega)
/-- what may change of a land of the class -/
def PC (g : Gc) (t : Nat) (pa : Nat → Nat) (R : Nat) (a _j : Nat) : Prop := (gz g + t ≤ a ∧ a < gz g + t + 63 ∧ ¬ (gz g + t + 5 ≤ a ∧ a ≤ gz g + t + 8)) ∨ ∃ k, k < R ∧ a = pa k
theorem l_issue37 (g : Gc) {lv t N y r q : Nat} {A m : Mm} {pa : Nat → Nat} (hS : Sg g m) (ht : t = 2 ∨ t = 65) (hC : LandC g t pa N y r A m) (h03 : mI A 0 3 = nI r) (hr : r < 400) (hq1 : mR m (gz g + (t + 4)) r = some q) (hq2 : mK m q = 7) (hq3 : gz g + 184 ≤ q) (h s yy : Int32) {Q : Int32 → Mm → Prop} (hQ : Q (nI r) (sI (sR (sR (sI (sI (sI m q 0 h) q 1 s) q 2 yy) q 3 none) q 4 none) (gz g + (t + 3)) 1 (nI (r + 1)))) : At g M_Store_issue (lv + 1) 37 [(0, va_rf (some (gz g + (t + 3)))), (1, .int h), (2, .int s), (3, .int yy)] [] m (QI Q) := by
  obtain ⟨⟨t1, t2, t3, t4, t5, t6⟩, t7, -⟩ := sh_t ht
  have n3 := hC.rn.trans h03
  refine bk_Store_issue_37 g ⟨hS.k (t + 3) t2 (by omega), gz g + (t + 4), hS.r (t + 3) 0 t6, hS.k (t + 4) t3 (by omega), ?_⟩
  rw [n3, nI_clamp (by omega)]
  refine ⟨by rw [hS.n (t + 4) t4 (by omega)]; exact vp_in_nI (N := 400) (by omega) (by omega), q, hq1, hq2, fun m1 e1 m2 e2 m3 e3 m4 e4 m5 e5 m6 e6 => ?_⟩
  have n5 : mI m5 (gz g + (t + 3)) 1 = nI r := by
    subst e1 e2 e3 e4 e5
    rw [mI_sR, mI_sR, mI_sI, up2_oth (by omega), mI_sI, up2_oth (by omega), mI_sI, up2_oth (by omega)]
    exact n3
  rw [n5, nI_s] at e6
  have e7 : mI m6 (gz g + (t + 3)) 1 - (1 : Int32) = nI r := by
    rw [e6, mI_sI, up2_at, nI_m1 (by omega)]
    rfl
  rw [e7]
  subst e1 e2 e3 e4 e5
  rw [e6]
  exact hQ
theorem c_issue (g : Gc) {lv t N y r R : Nat} {A m : Mm} {pa : Nat → Nat} (hS : Sg g m) (hF : Fr g m) (ht : t = 2 ∨ t = 65) (hC : LandC g t pa N y r A m) (hN : N ≤ 12) (hp : PaOK g pa R) (hP : Pap g t pa R m) (hrR : r ≤ R) (hR4 : R ≤ 400) (hr : r < 400) (h03 : mI A 0 3 = nI r) (h s yy : Int32) {Q : Int32 → Mm → Prop} (hQ : ∀ (pa' : Nat → Nat) (R' : Nat) (m' : Mm), R' = max R (r + 1) → (∀ i, i < R → pa' i = pa i) → (∀ i, R ≤ i → i < R' → gz g + mC m ≤ pa' i) → LandC g t pa' N y (r + 1) (issA A r h s yy) m' → PaOK g pa' R' → Pap g t pa' R' m' → Fr g m' → Sg g m' → mR m' (pa' r) 3 = none → mR m' (pa' r) 4 = none → Fs g (PC g t pa R) 1 m m' → (∀ i, i < R → i ≠ r → mR m' (pa i) = mR m (pa i)) → Q (nI r) m') : CI g M_Store_issue (lv + 2) [va_rf (some (gz g + (t + 3))), .int h, .int s, .int yy] m Q := by
  obtain ⟨⟨t1, t2, t3, t4, t5, t6⟩, t7, -⟩ := sh_t ht
  have n3 := hC.rn.trans h03
  refine en_Store_issue g ⟨hS.k (t + 3) t2 (by omega), en_Store_isFull g ⟨hS.k (t + 3) t2 (by omega), ?_⟩⟩
  rw [n3, if_pos (by rw [show (400 : Int32) = nI 400 from rfl, nI_ltI (by omega) (by omega)]; omega), if_pos rfl, nI_clamp (by omega)]
  refine ⟨gz g + (t + 4), hS.r (t + 3) 0 t6, hS.k (t + 4) t3 (by omega), by rw [hS.n (t + 4) t4 (by omega)]; exact vp_in_nI (N := 400) (by omega) (by omega), ?_⟩
  have hnone : ∀ (mm : Mm) (a j : Nat), mK mm a = 7 → finR (mK mm a) j = false := fun mm a j e => by rw [e]; exact finR7 j
  by_cases hlt : r < R
  · obtain ⟨p1, p2, p3⟩ := hP.1 r hlt
    have p4 := hp.2 r hlt
    rw [if_neg (by rw [p1]; simp)]
    have pne : ∀ i, i < R → i ≠ r → pa i ≠ pa r := fun i hi hne e => hne (hp.1 i r hi hlt e)
    have hin : PC g t pa R (pa r) 0 := Or.inr ⟨r, hlt, rfl⟩
    have w0 : Fs g (PC g t pa R) 0 m (sI m (pa r) 0 h) := Fs_sI m hin h
    have w1 := w0.trans (Fs_sI (P := PC g t pa R) (sI m (pa r) 0 h) (a := pa r) (j := 1) hin s) (fun _ _ _ q => q)
    have w2 := w1.trans (Fs_sI (P := PC g t pa R) _ (a := pa r) (j := 2) hin yy) (fun _ _ _ q => q)
    have w3 := w2.trans (Fs_sR (P := PC g t pa R) _ (a := pa r) (j := 3) hin none (Or.inl (hnone _ _ _ p2))) (fun _ _ _ q => q)
    have w4 := w3.trans (Fs_sR (P := PC g t pa R) _ (a := pa r) (j := 4) hin none (Or.inl (hnone _ _ _ p2))) (fun _ _ _ q => q)
    have w5 := w4.trans (Fs_sI (P := PC g t pa R) _ (a := gz g + (t + 3)) (j := 1) (Or.inl ⟨by omega, by omega, by omega⟩) (nI (r + 1))) (fun _ _ _ q => q)
    have fAll : Fs g (PC g t pa R) 1 m (sI (sR (sR (sI (sI (sI m (pa r) 0 h) (pa r) 1 s) (pa r) 2 yy) (pa r) 3 none) (pa r) 4 none) (gz g + (t + 3)) 1 (nI (r + 1))) := w5.weak (fun _ _ _ q => q) (by omega)
    refine l_issue37 g hS ht hC h03 hr p1 p2 p4 h s yy ?_
    refine hQ pa R _ (by omega) (fun _ _ => rfl) (fun i h1 h2 => absurd h1 (by omega)) ?_ hp ?_ hF (hS.ext fAll.1) ?_ ?_ ?_ ?_
    · unfold issA
      refine LandC.putI (hC.issue hN (m' := sR (sR (sI (sI (sI m (pa r) 0 h) (pa r) 1 s) (pa r) 2 yy) (pa r) 3 none) (pa r) 4 none) (fun a ha => ?_) ?_ ?_ ?_) hN (by omega) (hp.weak (by omega)) (c := 0) (i := 3) (by show 3 < 7; omega) (Prod.ext (by show gz g + t + 3 = gz g + (t + 3); omega) rfl) _
      · have hne : a ≠ pa r := by
          rcases ha with ha | ⟨k, hk, rfl⟩
          · omega
          · exact pne k (by omega) (by omega)
        rw [mI_sR, mI_sR, mI_sI, up2_ne hne, mI_sI, up2_ne hne, mI_sI, up2_ne hne]
        exact ⟨rfl, rfl⟩
      · rw [mI_sR, mI_sR, mI_sI, up2_sl (by omega), mI_sI, up2_sl (by omega), mI_sI, up2_at]
      · rw [mI_sR, mI_sR, mI_sI, up2_sl (by omega), mI_sI, up2_at]
      · rw [mI_sR, mI_sR, mI_sI, up2_at]
    · refine ⟨fun i hi => ?_, fun i h1 h2 => ?_⟩
      · obtain ⟨x1, x2, x3⟩ := hP.1 i hi
        exact ⟨by rw [mR_sI, mR_sR, up2_oth (by omega), mR_sR, up2_oth (by omega)]; exact x1, x2, x3⟩
      · rw [mR_sI, mR_sR, up2_oth (by omega), mR_sR, up2_oth (by omega)]; exact hP.2 i h1 h2
    · rw [mR_sI, mR_sR, up2_sl (by omega), mR_sR, up2_at]
    · rw [mR_sI, mR_sR, up2_at]
    · exact fAll
    · intro i hi hne
      rw [mR_sI, mR_sR, up2_ne (pne i hi hne), mR_sR, up2_ne (pne i hi hne)]
      rfl
  · have hRr : R = r := by omega
    rw [if_pos (hP.2 r (by omega) hr)]
    refine ⟨hF.2 _ (Nat.le_refl _), fun q m1 eq e1 => en_Receipt_init g ?_⟩
    have h184 := hF.1
    have old : ∀ a, a ≠ q → mI m1 a = mI m a ∧ mL m1 a = mL m a ∧ mR m1 a = mR m a ∧ mK m1 a = mK m a := fun a ha => by rw [e1]; exact nw_old ha
    have hk1 : mK m1 q = 7 := by rw [e1]; exact nw_new.1
    have F1 : Fr g m1 := by rw [e1, eq]; exact Fr_nw hF 7 0 5
    have f1 : Fs g (PC g t pa R) 1 m m1 := by rw [e1, eq]; exact Fs_nw m hF 7 0 5 (by omega)
    have c1 : mC m1 = mC m + 1 := by rw [e1]; rfl
    have S1 : Sg g m1 := hS.ext f1.1
    clear e1
    refine ⟨by rw [S1.n (t + 4) t4 (by omega)]; exact vp_in_nI (N := 400) (by omega) (by omega), fun m2 e2 => ?_⟩
    have S2 : Sg g m2 := by
      have : Ext m1 m2 := by rw [e2]; exact Ext.sR (some q) (Or.inr (by rw [(old _ (by omega)).2.2.1]; exact hP.2 r (by omega) hr))
      exact S1.ext this
    have F2 : Fr g m2 := by rw [e2]; exact F1
    have f2 : Fs g (PC g t pa R) (1 + 0) m m2 := by
      rw [e2]
      exact f1.trans (Fs_sR (P := PC g t pa R) m1 (a := gz g + (t + 4)) (j := r) (Or.inl ⟨by omega, by omega, by omega⟩) (some q) (Or.inr (by rw [(old _ (by omega)).2.2.1]; exact hP.2 r (by omega) hr))) (fun _ _ _ z => z)
    have paq : ∀ i, i < R → pa i ≠ q := fun i hi => by have := (hP.1 i hi).2.2; omega
    have C2 : LandC g t (va_up pa r q) N y r A m2 := by
      rw [e2]
      refine (hC.same hN (m' := sR m1 (gz g + (t + 4)) r (some q)) (fun a ha => ?_)).pa (fun i hi => by simp only [va_up]; rw [if_neg (by omega)])
      have hne : a ≠ q := by
        rcases ha with ha | ⟨k, hk, rfl⟩
        · omega
        · exact paq k (by omega)
      exact ⟨(old a hne).1, (old a hne).2.1⟩
    have k2 : mK m2 q = 7 := by rw [e2]; exact hk1
    have r2 : mR m2 (gz g + (t + 4)) r = some q := by rw [e2, mR_sR, up2_at]
    have old2 : ∀ a j, a ≠ q → ¬ (a = gz g + (t + 4) ∧ j = r) → mR m2 a j = mR m a j := fun a j h1 h2 => by rw [e2, mR_sR, up2_not h2, (old a h1).2.2.1]
    have k2' : ∀ a, a ≠ q → mK m2 a = mK m a := fun a h1 => by rw [e2]; exact (old a h1).2.2.2
    have c2 : mC m2 = mC m + 1 := by rw [e2]; exact c1
    have pq : va_up pa r q r = q := by simp [va_up]
    have pi : ∀ i, i < r → va_up pa r q i = pa i := fun i hi => by simp only [va_up]; rw [if_neg (by omega)]
    clear e2
    have hin : ∀ a j, a = q → a < gz g + mC m → PC g t pa R a j := fun a j e1 e2 => absurd e2 (by omega)
    have w0 := f2.trans (Fs_sI (P := fun a _ => a = q) m2 (a := q) (j := 0) rfl h) (fun a j z1 z2 => hin a j z2 z1)
    have w1 := w0.trans (Fs_sI (P := fun a _ => a = q) _ (a := q) (j := 1) rfl s) (fun a j z1 z2 => hin a j z2 z1)
    have w2 := w1.trans (Fs_sI (P := fun a _ => a = q) _ (a := q) (j := 2) rfl yy) (fun a j z1 z2 => hin a j z2 z1)
    have w3 := w2.trans (Fs_sR (P := fun a _ => a = q) _ (a := q) (j := 3) rfl none (Or.inl (hnone _ _ _ k2))) (fun a j z1 z2 => hin a j z2 z1)
    have w4 := w3.trans (Fs_sR (P := fun a _ => a = q) _ (a := q) (j := 4) rfl none (Or.inl (hnone _ _ _ k2))) (fun a j z1 z2 => hin a j z2 z1)
    have fAll : Fs g (PC g t pa R) 1 m (sI (sR (sR (sI (sI (sI m2 q 0 h) q 1 s) q 2 yy) q 3 none) q 4 none) (gz g + (t + 3)) 1 (nI (r + 1))) := w4.trans (Fs_sI (P := PC g t pa R) _ (a := gz g + (t + 3)) (j := 1) (Or.inl ⟨by omega, by omega, by omega⟩) (nI (r + 1))) (fun _ _ _ z => z)
    refine l_issue37 g S2 ht C2 h03 hr r2 k2 (by omega) h s yy ?_
    refine hQ (va_up pa r q) (r + 1) _ (by omega) (fun i hi => pi i (by omega)) (fun i h1 h2 => ?_) ?_ ⟨fun i j hi hj e => ?_, fun i hi => ?_⟩ ⟨fun i hi => ?_, fun i h1 h2 => ?_⟩ F2 (hS.ext fAll.1) ?_ ?_ ?_ ?_
    · obtain rfl : i = r := by omega
      rw [pq]; omega
    · unfold issA
      have PO : PaOK g (va_up pa r q) (r + 1) := by
        refine ⟨fun i j hi hj e => ?_, fun i hi => ?_⟩
        · by_cases hir : i = r
          · by_cases hjr : j = r
            · omega
            · rw [hir, pq, pi j (by omega)] at e; exact absurd e.symm (paq j (by omega))
          · by_cases hjr : j = r
            · rw [hjr, pq, pi i (by omega)] at e; exact absurd e (paq i (by omega))
            · rw [pi i (by omega), pi j (by omega)] at e; exact hp.1 i j (by omega) (by omega) e
        · by_cases hir : i = r
          · rw [hir, pq]; omega
          · rw [pi i (by omega)]; exact hp.2 i (by omega)
      refine LandC.putI (C2.issue hN (m' := sR (sR (sI (sI (sI m2 q 0 h) q 1 s) q 2 yy) q 3 none) q 4 none) (fun a ha => ?_) ?_ ?_ ?_) hN (by omega) PO (c := 0) (i := 3) (by show 3 < 7; omega) (Prod.ext (by show gz g + t + 3 = gz g + (t + 3); omega) rfl) _
      · have hne : a ≠ q := by
          rcases ha with ha | ⟨k, hk, rfl⟩
          · omega
          · rw [pi k hk]; exact paq k (by omega)
        rw [mI_sR, mI_sR, mI_sI, up2_ne hne, mI_sI, up2_ne hne, mI_sI, up2_ne hne]
        exact ⟨rfl, rfl⟩
      · rw [pq, mI_sR, mI_sR, mI_sI, up2_sl (by omega), mI_sI, up2_sl (by omega), mI_sI, up2_at]
      · rw [pq, mI_sR, mI_sR, mI_sI, up2_sl (by omega), mI_sI, up2_at]
      · rw [pq, mI_sR, mI_sR, mI_sI, up2_at]
    · by_cases hir : i = r
      · by_cases hjr : j = r
        · omega
        · rw [hir, pq, pi j (by omega)] at e; exact absurd e.symm (paq j (by omega))
      · by_cases hjr : j = r
        · rw [hjr, pq, pi i (by omega)] at e; exact absurd e (paq i (by omega))
        · rw [pi i (by omega), pi j (by omega)] at e; exact hp.1 i j (by omega) (by omega) e
    · by_cases hir : i = r
      · rw [hir, pq]; omega
      · rw [pi i (by omega)]; exact hp.2 i (by omega)
    · by_cases hir : i = r
      · subst hir
        rw [pq, mR_sI, mR_sR, up2_oth (by omega), mR_sR, up2_oth (by omega)]
        exact ⟨r2, k2, by show q < gz g + mC m2; omega⟩
      · obtain ⟨x1, x2, x3⟩ := hP.1 i (by omega)
        rw [pi i (by omega), mR_sI, mR_sR, up2_oth (by omega), mR_sR, up2_oth (by omega)]
        exact ⟨by rw [mR_sI, mR_sI, mR_sI, old2 _ _ (by omega) (by omega)]; exact x1, by show mK m2 (pa i) = 7; rw [k2' _ (paq i (by omega))]; exact x2, by show pa i < gz g + mC m2; omega⟩
    · rw [mR_sI, mR_sR, up2_oth (by omega), mR_sR, up2_oth (by omega), mR_sI, mR_sI, mR_sI, old2 _ _ (by omega) (by omega)]
      exact hP.2 i (by omega) h2
    · rw [pq, mR_sI, mR_sR, up2_sl (by omega), mR_sR, up2_at]
    · rw [pq, mR_sI, mR_sR, up2_at]
    · exact fAll
    · intro i hi hne
      funext j
      rw [mR_sI, mR_sR, up2_oth (paq i hi), mR_sR, up2_oth (paq i hi), mR_sI, mR_sI, mR_sI, old2 _ _ (paq i hi) (by have := hp.2 i hi; omega)]
