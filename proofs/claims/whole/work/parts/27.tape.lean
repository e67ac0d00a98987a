/-! ===== the TAPE: feed, end, fault ===== -/
theorem mI_rI (m : Mm) (s : Nat) (f : Nat → Int32) : mI (rI m s f) s = f := by
  show va_up (mI m) s f s = f
  simp [va_up]
theorem mI_rI_ne {m : Mm} {a b : Nat} {f : Nat → Int32} (h : b ≠ a) : mI (rI m a f) b = mI m b := by
  show va_up (mI m) a f b = _
  simp [va_up, h]
theorem rI_self (m : Mm) (s : Nat) : rI m s (mI m s) = m := by
  obtain ⟨a, c⟩ := m
  refine congrArg (fun f => (f, c)) ?_
  funext q
  by_cases h : q = s
  · subst h; simp [va_up, mI]
  · simp [va_up, h, mI]
theorem sI_rI (m : Mm) (s j : Nat) (f : Nat → Int32) (v : Int32) : sI (rI m s f) s j v = rI m s (va_up f j v) := by
  refine congrArg (fun f => (f, m.2)) ?_
  funext q i
  by_cases h : q = s
  · subst h; simp [up2, va_up, mI, rI]
  · simp [up2, va_up, h, mI, rI]
theorem sI_com {m : Mm} {a b j i : Nat} {v w : Int32} (h : a ≠ b) : sI (sI m a j v) b i w = sI (sI m b i w) a j v := by
  refine congrArg (fun f => (f, m.2)) ?_
  funext q k
  by_cases h1 : q = a
  · subst h1; simp [up2, mI, sI, h]
  · by_cases h2 : q = b
    · subst h2; simp [up2, mI, sI, h1]
    · simp [up2, mI, sI, h1, h2]
theorem sI_sI {m : Mm} {a j : Nat} {v w : Int32} : sI (sI m a j v) a j w = sI m a j w := by
  refine congrArg (fun f => (f, m.2)) ?_
  funext q k
  by_cases h1 : q = a
  · subst h1
    by_cases h2 : k = j
    · simp [up2, h2]
    · simp [up2, mI, sI, h2]
  · simp [up2, mI, sI, h1]
/-- the class's TAPE with these bytes and this length -/
def tp (g : Gc) (m : Mm) (f : Nat → Int32) (n : Int32) : Mm := sI (rI m (gz g + 129) f) (gz g + 128) 4 n
theorem tp_b (g : Gc) (m : Mm) (f : Nat → Int32) (n : Int32) (j : Nat) (v : Int32) : sI (tp g m f n) (gz g + 129) j v = tp g m (va_up f j v) n := by
  unfold tp
  rw [sI_com (by omega), sI_rI]
theorem tp_n (g : Gc) (m : Mm) (f : Nat → Int32) (n n2 : Int32) : sI (tp g m f n) (gz g + 128) 4 n2 = tp g m f n2 := by
  unfold tp
  rw [sI_sI]
theorem tp_len (g : Gc) (m : Mm) (f : Nat → Int32) (n : Int32) : mI (tp g m f n) (gz g + 128) 4 = n := up2_at
theorem tp_row (g : Gc) (m : Mm) (f : Nat → Int32) (n : Int32) : mI (tp g m f n) (gz g + 129) = f := by
  unfold tp
  rw [mI_sI, up2_ne (by omega), mI_rI]
theorem tp_self (g : Gc) (m : Mm) : tp g m (mI m (gz g + 129)) (mI m (gz g + 128) 4) = m := by
  unfold tp
  rw [rI_self]
  obtain ⟨a, c⟩ := m
  refine congrArg (fun f => (f, c)) ?_
  funext q k
  by_cases h : q = gz g + 128
  · by_cases h2 : k = 4
    · subst h; subst h2; simp [up2, mI]
    · simp [up2, mI, h2]
  · simp [up2, mI, h]
def bt (w sh : Int32) : Int32 := ((w >>> (sh &&& 31)).toInt8.toInt32).toInt8.toInt32
def app (f : Nat → Int32) (L : Nat) (w : Int32) : Nat → Int32 := va_up (va_up (va_up (va_up f L (bt w 24)) (L + 1) (bt w 16)) (L + 2) (bt w 8)) (L + 3) (bt w 0)
theorem s_append (g : Gc) {lv L : Nat} {m : Mm} (hS : Sg g m) {f : Nat → Int32} {w sh : Int32} (hL : L < 300) (hs : ¬ sh < 0) {Q : Mm → Prop} (h : At g M_Tape_append (lv + 1) 3 [(0, va_rf (some (gz g + 128))), (1, .int w), (2, .int (sh + (-8)))] [] (tp g m (va_up f L (bt w sh)) (nI (L + 1))) (QV Q)) : At g M_Tape_append (lv + 1) 3 [(0, va_rf (some (gz g + 128))), (1, .int w), (2, .int sh)] [] (tp g m f (nI L)) (QV Q) := by
  refine bk_Tape_append_3 g ?_
  rw [if_neg hs, tp_len, if_neg (by rw [show (300 : Int32) = nI 300 from rfl]; exact nI_ge hL (by omega))]
  refine ⟨hS.k 128 rfl, gz g + 129, hS.r 128 0 rfl, hS.k 129 rfl, ?_, fun m8 e8 m14 e14 => ?_⟩
  · rw [show mN (tp g m f (nI L)) (gz g + 129) = 300 from hS.n 129 rfl]; exact vp_in_nI hL (by omega)
  · rw [nI_clamp (by omega), tp_b] at e8
    subst e8
    rw [tp_len, tp_n, nI_1] at e14
    subst e14
    exact h
theorem c_append (g : Gc) {lv L : Nat} {m : Mm} (hS : Sg g m) {f : Nat → Int32} {w : Int32} (hL : L + 4 ≤ 300) {Q : Mm → Prop} (h : Q (tp g m (app f L w) (nI (L + 4)))) : CV g M_Tape_append (lv + 1) [va_rf (some (gz g + 128)), .int w] (tp g m f (nI L)) Q := by
  refine en_Tape_append g (s_append g hS (by omega) (by decide) ?_)
  rw [show (24 : Int32) + (-8) = 16 from by decide]
  refine s_append g hS (by omega) (by decide) ?_
  rw [show (16 : Int32) + (-8) = 8 from by decide]
  refine s_append g hS (by omega) (by decide) ?_
  rw [show (8 : Int32) + (-8) = 0 from by decide]
  refine s_append g hS (by omega) (by decide) ?_
  refine bk_Tape_append_3 g ?_
  rw [if_pos (by decide)]
  exact h
def shf (k : Nat) : Int32 := (24 : Int32) - ((8 : Int32) * (nI k - nI k / (4 : Int32) * (4 : Int32)))
def fedw (a b c d e : Int32) (k : Nat) : Int32 := if k < 4 then a else if k < 8 then b else if k < 12 then c else if k < 16 then d else e
def fedb (a b c d e : Int32) (k : Nat) : Int32 := bt (fedw a b c d e k) (shf k)
theorem l_rffeed (g : Gc) {lv L : Nat} {m : Mm} (hS : Sg g m) {a b c d e : Int32} (hL : L + 20 ≤ 300) (hm : mI m (gz g + 145) 15 = nI L) {Q : Int32 → Mm → Prop} : ∀ (n k : Nat) (f : Nat → Int32), k + n = 20 → (∀ f2 : Nat → Int32, (∀ j, k ≤ j → j < 20 → f2 (L + j) = fedb a b c d e j) → (∀ j, ¬ (L + k ≤ j ∧ j < L + 20) → f2 j = f j) → Q (nI (L + 20)) (sI (rI m (gz g + 152) f2) (gz g + 145) 15 (nI (L + 20)))) →
    At g M_RF_feed (lv + 1) 23 [(0, va_rf (some (gz g + 145))), (1, .int a), (2, .int b), (3, .int c), (4, .int d), (5, .int e), (6, .int (nI k))] [] (rI m (gz g + 152) f) (QI Q) := by
  have hM : ∀ f : Nat → Int32, mI (rI m (gz g + 152) f) (gz g + 145) 15 = nI L := fun f => by rw [mI_rI_ne (by omega)]; exact hm
  intro n
  induction n with
  | zero =>
    intro k f hk h
    refine bk_RF_feed_23 g ?_
    rw [if_pos (by rw [show (20 : Int32) = nI 20 from rfl]; exact nI_le (by omega) (by omega))]
    refine ⟨hS.k 145 rfl, fun m3 e3 => ?_⟩
    rw [hM, show (20 : Int32) = nI 20 from rfl, nI_add] at e3
    subst e3
    rw [mI_sI, up2_at]
    exact h f (fun j h1 h2 => absurd h2 (by omega)) (fun _ _ => rfl)
  | succ n ih =>
    intro k f hk h
    have step : At g M_RF_feed (lv + 1) 76 [(0, va_rf (some (gz g + 145))), (1, .int a), (2, .int b), (3, .int c), (4, .int d), (5, .int e), (6, .int (nI k))] [.int (fedw a b c d e k)] (rI m (gz g + 152) f) (QI Q) := by
      refine bk_RF_feed_76 g ⟨hS.k 145 rfl, gz g + 152, hS.r 145 14 rfl, hS.k 152 rfl, ?_, fun m6 e6 => ?_⟩
      · rw [hM, nI_add, show mN (rI m (gz g + 152) f) (gz g + 152) = 300 from hS.n 152 rfl]; exact vp_in_nI (by omega) (by omega)
      · rw [hM, nI_add, nI_clamp (by omega), sI_rI] at e6
        subst e6
        rw [nI_1]
        refine ih (k + 1) _ (by omega) (fun f2 g1 g2 => h f2 (fun j h1 h2 => ?_) (fun j hj => ?_))
        · by_cases hjk : j = k
          · subst hjk
            rw [g2 (L + j) (by omega)]
            simp only [va_up, if_pos]
            rfl
          · exact g1 j (by omega) h2
        · rw [g2 j (by omega)]
          simp only [va_up]
          rw [if_neg (by omega)]
    refine bk_RF_feed_23 g ?_
    rw [if_neg (by rw [show (20 : Int32) = nI 20 from rfl]; exact nI_ge (by omega) (by omega))]
    unfold fedw at step
    by_cases h4 : k < 4
    · rw [if_pos h4] at step
      rw [if_neg (by rw [show (4 : Int32) = nI 4 from rfl]; exact nI_ge (by omega) (by omega))]
      exact step
    rw [if_neg h4] at step
    rw [if_pos (by rw [show (4 : Int32) = nI 4 from rfl]; exact nI_le (by omega) (by omega))]
    by_cases h8 : k < 8
    · rw [if_pos h8] at step
      rw [if_neg (by rw [show (8 : Int32) = nI 8 from rfl]; exact nI_ge (by omega) (by omega))]
      exact step
    rw [if_neg h8] at step
    rw [if_pos (by rw [show (8 : Int32) = nI 8 from rfl]; exact nI_le (by omega) (by omega))]
    by_cases h12 : k < 12
    · rw [if_pos h12] at step
      rw [if_neg (by rw [show (12 : Int32) = nI 12 from rfl]; exact nI_ge (by omega) (by omega))]
      exact step
    rw [if_neg h12] at step
    rw [if_pos (by rw [show (12 : Int32) = nI 12 from rfl]; exact nI_le (by omega) (by omega))]
    by_cases h16 : k < 16
    · rw [if_pos h16] at step
      rw [if_neg (by rw [show (16 : Int32) = nI 16 from rfl]; exact nI_ge (by omega) (by omega))]
      exact step
    rw [if_neg h16] at step
    rw [if_pos (by rw [show (16 : Int32) = nI 16 from rfl]; exact nI_le (by omega) (by omega))]
    exact step
/-- the TAPE on both sides -/
def TapeOK (g : Gc) (m : Mm) : Prop := mI m (gz g + 128) 5 = mI m (gz g + 145) 16 ∧ ∃ L : Nat, L ≤ 300 ∧ mI m (gz g + 128) 4 = nI L ∧ mI m (gz g + 145) 15 = nI L ∧ ∀ k, k < L → mI m (gz g + 129) k = mI m (gz g + 152) k ∧ (mI m (gz g + 152) k).toInt8.toInt32 = mI m (gz g + 152) k
theorem TapeOK.same {g : Gc} {m m' : Mm} (h : TapeOK g m) (h1 : mI m' (gz g + 128) = mI m (gz g + 128)) (h2 : mI m' (gz g + 129) = mI m (gz g + 129)) (h3 : mI m' (gz g + 152) = mI m (gz g + 152)) (h4 : mI m' (gz g + 145) 15 = mI m (gz g + 145) 15) (h5 : mI m' (gz g + 145) 16 = mI m (gz g + 145) 16) : TapeOK g m' := by
  obtain ⟨a, L, b1, b2, b3, b4⟩ := h
  exact ⟨by rw [h1, h5]; exact a, L, b1, by rw [h1]; exact b2, by rw [h4]; exact b3, fun k hk => by rw [h2, h3]; exact b4 k hk⟩
def app5 (f : Nat → Int32) (L : Nat) (a b c d e : Int32) : Nat → Int32 := app (app (app (app (app f L a) (L + 4) b) (L + 4 + 4) c) (L + 4 + 4 + 4) d) (L + 4 + 4 + 4 + 4) e
theorem app_out {f : Nat → Int32} {L : Nat} {w : Int32} {j : Nat} (h : j < L ∨ L + 4 ≤ j) : app f L w j = f j := by
  unfold app
  simp only [va_up]
  rw [if_neg (by omega), if_neg (by omega), if_neg (by omega), if_neg (by omega)]
theorem app_0 (f : Nat → Int32) (L : Nat) (w : Int32) : app f L w L = bt w 24 := by
  unfold app; simp only [va_up]
  rw [if_neg (by omega), if_neg (by omega), if_neg (by omega), if_pos trivial]
theorem app_1 (f : Nat → Int32) (L : Nat) (w : Int32) : app f L w (L + 1) = bt w 16 := by
  unfold app; simp only [va_up]
  rw [if_neg (by omega), if_neg (by omega), if_pos trivial]
theorem app_2 (f : Nat → Int32) (L : Nat) (w : Int32) : app f L w (L + 2) = bt w 8 := by
  unfold app; simp only [va_up]
  rw [if_neg (by omega), if_pos trivial]
theorem app_3 (f : Nat → Int32) (L : Nat) (w : Int32) : app f L w (L + 3) = bt w 0 := by
  unfold app; simp only [va_up]
  rw [if_pos trivial]
theorem app_in {f : Nat → Int32} {L : Nat} {w : Int32} {j : Nat} (h : j < 4) : app f L w (L + j) = bt w (shf j) := by
  rcases (show j = 0 ∨ j = 1 ∨ j = 2 ∨ j = 3 by omega) with rfl | rfl | rfl | rfl
  · rw [Nat.add_zero, app_0]; rfl
  · rw [app_1]; rfl
  · rw [app_2]; rfl
  · rw [app_3]; rfl
theorem shf_4 : ∀ j, j < 20 → shf j = shf (j % 4) := by decide +kernel
theorem app5_in {f : Nat → Int32} {L : Nat} {a b c d e : Int32} {j : Nat} (h : j < 20) : app5 f L a b c d e (L + j) = fedb a b c d e j := by
  unfold app5 fedb fedw
  rw [shf_4 j h]
  by_cases h4 : j < 4
  · rw [if_pos h4, app_out (by omega), app_out (by omega), app_out (by omega), app_out (by omega), app_in h4, show j % 4 = j by omega]
  rw [if_neg h4]
  by_cases h8 : j < 8
  · rw [if_pos h8, app_out (by omega), app_out (by omega), app_out (by omega), show L + j = L + 4 + (j - 4) by omega, app_in (by omega), show j % 4 = j - 4 by omega]
  rw [if_neg h8]
  by_cases h12 : j < 12
  · rw [if_pos h12, app_out (by omega), app_out (by omega), show L + j = L + 4 + 4 + (j - 8) by omega, app_in (by omega), show j % 4 = j - 8 by omega]
  rw [if_neg h12]
  by_cases h16 : j < 16
  · rw [if_pos h16, app_out (by omega), show L + j = L + 4 + 4 + 4 + (j - 12) by omega, app_in (by omega), show j % 4 = j - 12 by omega]
  rw [if_neg h16, show L + j = L + 4 + 4 + 4 + 4 + (j - 16) by omega, app_in (by omega), show j % 4 = j - 16 by omega]
theorem app5_out {f : Nat → Int32} {L : Nat} {a b c d e : Int32} {j : Nat} (h : j < L) : app5 f L a b c d e j = f j := by
  unfold app5
  rw [app_out (by omega), app_out (by omega), app_out (by omega), app_out (by omega), app_out (by omega)]
theorem Only_rI {g : Gc} {W ss : List Nat} (m : Mm) {w : Nat} (hw : w ∈ W) (h145 : w ≠ 145) (f : Nat → Int32) : Only g W ss m (rI m (gz g + w) f) := by
  refine ⟨⟨rfl, rfl, rfl, rfl⟩, fun a h _ => ⟨mI_rI_ne (h w hw), rfl, rfl⟩, rfl, rfl, fun i _ => ?_⟩
  rw [mI_rI_ne (by omega)]
theorem fedb_i8 (a b c d e : Int32) (j : Nat) : (fedb a b c d e j).toInt8.toInt32 = fedb a b c d e j := by
  unfold fedb bt
  rw [Int8.toInt8_toInt32]
def WP : List Nat := [128, 129, 152]
theorem sim_feed (g : Gc) {lv : Nat} {m : Mm} (hS : Sg g m) (hT : TapeOK g m) (a b c d e : Int32) : SimI g M_SL_feed M_RF_feed (lv + 2) [.int a, .int b, .int c, .int d, .int e] m (fun m2 => TapeOK g m2 ∧ Only g WP [0, 15, 16] m m2) := by
  obtain ⟨hF, L, hL, h1, h2, h3⟩ := id hT
  unfold SimI
  refine en_SL_feed g ⟨hS.k 0 rfl, gz g + 128, hS.r 0 3 rfl, hS.k 128 rfl, ?_⟩
  rw [h1, show (20 : Int32) = nI 20 from rfl, nI_add, show (300 : Int32) = nI 300 from rfl]
  by_cases hl : L + 20 ≤ 300
  · rw [if_pos (nI_le hl (by omega))]
    have hm : tp g m (mI m (gz g + 129)) (nI L) = m := by rw [← h1]; exact tp_self g m
    have go : CV g M_Tape_append (lv + 1) [va_rf (some (gz g + 128)), .int a] (tp g m (mI m (gz g + 129)) (nI L)) (fun m6 => CV g M_Tape_append (lv + 1) [va_rf (some (gz g + 128)), .int b] m6 (fun m11 => CV g M_Tape_append (lv + 1) [va_rf (some (gz g + 128)), .int c] m11 (fun m16 => CV g M_Tape_append (lv + 1) [va_rf (some (gz g + 128)), .int d] m16 (fun m21 => CV g M_Tape_append (lv + 1) [va_rf (some (gz g + 128)), .int e] m21 (fun m26 => CI g M_RF_feed (lv + 2) (va_rf (some (gz g + 145)) :: [.int a, .int b, .int c, .int d, .int e]) m26 (fun r2 m2 => mI m26 (gz g + 128) 4 = r2 ∧ TapeOK g m2 ∧ Only g WP [0, 15, 16] m m2)))))) := by
      refine c_append g hS (by omega) (c_append g hS (by omega) (c_append g hS (by omega) (c_append g hS (by omega) (c_append g hS (by omega) ?_))))
      rw [tp_len]
      refine en_RF_feed g ⟨hS.k 145 rfl, fun m2 e2 => ?_⟩
      have hm15 : mI m2 (gz g + 145) 15 = nI L := by
        rw [e2, mI_sI, up2_sl (by omega)]
        unfold tp
        rw [mI_sI, up2_oth (by omega), mI_rI_ne (by omega)]
        exact h2
      rw [hm15, show (20 : Int32) = nI 20 from rfl, nI_add, show (300 : Int32) = nI 300 from rfl, if_pos (nI_le hl (by omega))]
      have loop := l_rffeed (lv := lv + 1) g (m := m2) (by rw [e2]; exact hS) hl hm15 (a := a) (b := b) (c := c) (d := d) (e := e) (Q := fun r2 m2 => nI (L + 4 + 4 + 4 + 4 + 4) = r2 ∧ TapeOK g m2 ∧ Only g WP [0, 15, 16] m m2) 20 0 (mI m2 (gz g + 152)) (by omega) (fun f2 g1 g2 => ⟨by rw [show L + 4 + 4 + 4 + 4 + 4 = L + 20 by omega], ?_, ?_⟩)
      · rw [rI_self] at loop; exact loop
      · subst e2
        refine ⟨?_, L + 20, hl, ?_, ?_, fun k hk => ?_⟩
        · unfold tp
          simp (disch := omega) [mI, sI, up2, rI, va_up]
          exact hF
        · unfold tp
          simp (disch := omega) [mI, sI, up2, rI, va_up]
        · simp [mI, sI, up2]
        · rw [mI_sI, up2_oth (by omega), up2_oth (by omega), mI_rI, mI_rI_ne (by omega), mI_sI, up2_oth (by omega), tp_row]
          rcases Nat.lt_or_ge k L with h | h
          · rw [g2 k (by omega), mI_sI, up2_oth (by omega)]
            unfold tp
            rw [mI_sI, up2_oth (by omega), mI_rI_ne (by omega)]
            exact ⟨(app5_out (a := a) (b := b) (c := c) (d := d) (e := e) h).trans (h3 k h).1, (h3 k h).2⟩
          · obtain ⟨j, rfl⟩ : ∃ j, k = L + j := ⟨k - L, by omega⟩
            rw [g1 j (by omega) (by omega)]
            exact ⟨app5_in (by omega), fedb_i8 a b c d e j⟩
      · subst e2
        refine Only.trans ?_ (Only_sM _ (by decide) _)
        refine Only.trans ?_ (Only_rI _ (w := 152) (by decide) (by decide) _)
        refine Only.trans ?_ (Only_sM _ (by decide) _)
        unfold tp
        refine Only.trans ?_ (Only_sI _ (w := 128) (by decide) (by decide) _ _)
        exact Only_rI _ (w := 129) (by decide) (by decide) _
    rw [hm] at go
    exact go
  · rw [if_neg (nI_ge (by omega) (by omega))]
    refine en_RF_feed g ⟨hS.k 145 rfl, fun m2 e2 => ?_⟩
    subst e2
    rw [mI_sI, up2_sl (by omega), h2, show (20 : Int32) = nI 20 from rfl, nI_add, show (300 : Int32) = nI 300 from rfl, if_neg (nI_ge (by omega) (by omega))]
    refine ⟨rfl, hT.same (up2_ne (by omega)) (up2_ne (by omega)) (up2_ne (by omega)) (up2_sl (by omega)) (up2_sl (by omega)), Only_sM _ (by decide) _⟩
theorem sim_end (g : Gc) {lv : Nat} {m : Mm} (hS : Sg g m) (hT : TapeOK g m) (n : Int32) : SimI g M_SL_end M_RF_end (lv + 2) [.int n] m (fun m2 => TapeOK g m2 ∧ Only g WP [0, 15, 16] m m2) := by
  obtain ⟨hF, L, hL, h1, h2, h3⟩ := id hT
  unfold SimI
  refine en_SL_end g ⟨hS.k 0 rfl, gz g + 128, hS.r 0 3 rfl, hS.k 128 rfl, c_isWithin g ?_⟩
  rw [h1]
  by_cases hw : wi n 0 (nI L) = 0
  · rw [if_pos hw]
    refine en_RF_end g ⟨hS.k 145 rfl, fun m2 e2 => c_in g ?_⟩
    subst e2
    rw [mI_sI, up2_sl (by omega), h2, wj_i0, if_pos hw]
    exact ⟨rfl, hT.same (up2_ne (by omega)) (up2_ne (by omega)) (up2_ne (by omega)) (up2_sl (by omega)) (up2_sl (by omega)), Only_sM _ (by decide) _⟩
  · rw [if_neg hw]
    intro m12 e12
    refine en_RF_end g ⟨by rw [e12]; exact hS.k 145 rfl, fun m2 e2 => c_in g ?_⟩
    subst e2; subst e12
    rw [mI_sI, up2_sl (by omega), mI_sI, up2_oth (by omega), h2, wj_i0, if_neg hw]
    obtain ⟨j, -, hj, rfl⟩ := wi_rng (a := 0) (c := L) rfl rfl (by omega) (by omega) hw
    intro m11 e11
    subst e11
    refine ⟨rfl, ⟨?_, j, by omega, ?_, ?_, fun k hk => ?_⟩, ?_⟩
    · simp [mI, sI, up2]; exact hF
    · simp [mI, sI, up2]
    · simp [mI, sI, up2]
    · have h3k := h3 k (by omega)
      simp (disch := omega) [mI, sI, up2] at h3k ⊢
      exact h3k
    · refine Only.trans ?_ (Only_sM _ (by decide) _)
      refine Only.trans ?_ (Only_sM _ (by decide) _)
      exact Only_sI _ (w := 128) (by decide) (by decide) _ _
theorem sim_fault (g : Gc) {lv : Nat} {m : Mm} (hS : Sg g m) (hT : TapeOK g m) : SimI g M_SL_fault M_RF_fault (lv + 1) [] m (fun m2 => TapeOK g m2 ∧ Only g WP [0, 15, 16] m m2) := by
  unfold SimI
  refine en_SL_fault g ⟨hS.k 0 rfl, gz g + 128, hS.r 0 3 rfl, hS.k 128 rfl, ?_⟩
  refine en_RF_fault g ⟨hS.k 145 rfl, fun m2 e2 => ?_⟩
  subst e2
  rw [mI_sI, up2_sl (by omega)]
  exact ⟨hT.1, hT.same (up2_ne (by omega)) (up2_ne (by omega)) (up2_ne (by omega)) (up2_sl (by omega)) (up2_sl (by omega)), Only_sM _ (by decide) _⟩
