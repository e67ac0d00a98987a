/-! ===== the reference reads conditions ===== -/
def lb (x : Int64) : Int32 := if x = 0 then 0 else 1
theorem cmp01 (k : Int32) (a b : Int64) : cmpA k a b = 0 ∨ cmpA k a b = 1 := by
  unfold cmpA
  by_cases h1 : k = 10
  · rw [if_pos h1]; by_cases h : b ≤ a
    · rw [if_pos h]; exact Or.inl rfl
    · rw [if_neg h]; exact Or.inr rfl
  rw [if_neg h1]
  by_cases h2 : k = 11
  · rw [if_pos h2]; by_cases h : a ≤ b
    · rw [if_pos h]; exact Or.inl rfl
    · rw [if_neg h]; exact Or.inr rfl
  rw [if_neg h2]
  by_cases h : a = b
  · rw [if_pos h]; exact Or.inr rfl
  · rw [if_neg h]; exact Or.inl rfl
theorem and01 {x y : Int64} (hx : x = 0 ∨ x = 1) (hy : y = 0 ∨ y = 1) : x &&& y = if x = 0 then 0 else y := by
  rcases hx with rfl | rfl <;> rcases hy with rfl | rfl <;> decide
theorem cdD_V {q : Nat} {d r s : Den} {k l1 : Int32} {f : Nat → Int64} (h0 : q = 0 → l1 = 1) (h1 : ¬ q = 0 → (d f = 0 ∨ d f = 1) ∧ l1 = lb (d f)) : cdD q d r s k f = (if l1 = 0 then 0 else cmpA k (r f) (s f)) := by
  unfold cdD
  by_cases hq : q = 0
  · rw [if_pos hq, h0 hq, if_neg (by decide)]
  · rw [if_neg hq]
    obtain ⟨a, b⟩ := h1 hq
    rw [and01 a (cmp01 _ _ _), b]
    unfold lb
    by_cases hz : d f = 0
    · rw [if_pos hz, if_pos hz, if_pos rfl]
    · rw [if_neg hz, if_neg hz, if_neg (by decide)]
def PORc (g : Gc) (tx : Nat → Int32) (L base : Nat) (f : Nat → Int64) (m : Mm) (res : Res) (Q : Int32 → Mm → Prop) : Prop := (∀ r : Nat × List Int32 × Den, res = Sum.inl r → ∀ m', St (PNo g) m m' → RdS g tx L base f 0 r.1 m' → Q (lb (r.2.2 f)) m') ∧ ∀ e, res = Sum.inr e → ∀ m' v, BadS g tx L e m m' → Q v m'
theorem lb01 (x : Int64) : b01 (lb x) := by
  unfold lb b01
  by_cases h : x = 0
  · rw [if_pos h]; exact Or.inl rfl
  · rw [if_neg h]; exact Or.inr rfl
theorem r_cd (g : Gc) {T L base b : Nat} {tx : Nat → Int32} {f : Nat → Int64} (hT : TxT tx L T) (hL : L ≤ 300) : ∀ (n q i : Nat) (c : List Int32) (d : Den) (res : Res) (m : Mm) (l1 : Int32) (Q : Int32 → Mm → Prop), i + 1 < T → pcd (kdT tx L) (vlT tx L) n q i c d = some res → RdS g tx L base f 0 (i + 1) m → (q = 0 → l1 = 1) → (¬ q = 0 → (d f = 0 ∨ d f = 1) ∧ l1 = lb (d f)) → PORc g tx L base f m res Q → At g M_RF_conds (b + 33) 4 [(0, va_rf (some (gz g + 145))), (1, .int l1), (2, .int (1 : Int32))] [] m (QI Q) := by
  have hTk := hT.toks hL
  have t2 := hTk.2.1
  intro n
  induction n with
  | zero => intro q i c d res m l1 Q h1 h; exact absurd h (by simp [pcd])
  | succ n ih =>
    intro q i c d res m l1 Q hi1 h D hq0 hq1 PO
    obtain ⟨Pok, Perr⟩ := PO
    rw [pcd_s] at h
    refine bk_RF_conds_4 g ?_
    rw [if_neg (by decide)]
    refine ⟨D.1.k 145 rfl, ?_⟩
    rcases nx_some h with ⟨e, he, rfl⟩ | ⟨r, hr, hk⟩
    · refine c_sumR g hT hL hi1 he D ⟨fun r hr => (by cases hr), fun e' he' m1 v B1 => ?_⟩
      cases he'
      have S1 := B1.1.sg D.1
      refine c_signB g S1 B1.2.1 ?_
      rw [if_pos rfl]
      refine c_signB g S1 B1.2.1 ?_
      rw [if_pos rfl]
      refine c_signB g S1 B1.2.1 ?_
      rw [if_pos rfl]
      refine bk_RF_conds_53 g ?_
      rw [if_pos rfl]
      exact ⟨S1.k 145 rfl, c_badB g S1 B1 (fun m2 B2 _ => Perr _ rfl m2 _ B2)⟩
    · obtain ⟨x1, x2, -⟩ := (ppS_rng hTk hi1 hr).2 r rfl
      refine c_sumR g hT hL hi1 hr D ⟨fun r' hr' m1 s1 D1 => ?_, fun e' he' => (by cases he')⟩
      have hr2 : r = r' := Sum.inl.inj hr'
      subst hr2
      -- behind the sign
      have go : ∀ z : Int32, ¬ wi (kdT tx L r.1) 10 12 = 0 → ¬ z = -1 → (∀ x y : Int64, (if l1 = 0 then (0 : Int64) else cmpA (kdT tx L r.1) x y) = if l1 = 0 then 0 else if z = 0 then (if y ≤ x then 0 else 1) else if z = 1 then (if x ≤ y then 0 else 1) else if x = y then 1 else 0) → At g M_RF_conds (b + 33) 53 [(0, va_rf (some (gz g + 145))), (1, .int l1), (3, .long (r.2.2 f))] [.int z] m1 (QI Q) := by
        intro z hw hz hc
        rw [if_neg hw] at hk
        have hr1 := hTk.lt x1 (wi_2 hw (by decide))
        refine bk_RF_conds_53 g ?_
        rw [if_neg hz]
        refine ⟨D1.1.k 145 rfl, c_nextS g hT D1 hr1 (fun m2 s2 D2 => ?_)⟩
        have s12 := s1.trans s2
        rcases nx_some hk with ⟨e, he, rfl⟩ | ⟨s, hs, hk2⟩
        · refine c_sumR g hT hL hr1 he D2 ⟨fun r hr => (by cases hr), fun e' he' m3 v B3 => ?_⟩
          cases he'
          have S3 := B3.1.sg D2.1
          have f4 : ∀ w : Int32, b01 w → At g M_RF_conds (b + 32 + 1) 124 [(0, va_rf (some (gz g + 145)))] [.int w] m3 (QI Q) := fun w hw => by
            refine bk_RF_conds_124 g ⟨S3.k 145 rfl, c_isB g S3 B3.2.1 ?_⟩
            rw [if_pos rfl]
            refine bk_RF_conds_4 g ?_
            rw [if_pos rfl]
            exact ⟨hw, Perr _ rfl m3 w (B3.pre s12)⟩
          have f119 : At g M_RF_conds (b + 32 + 1) 119 [(0, va_rf (some (gz g + 145)))] [] m3 (QI Q) := bk_RF_conds_119 g (f4 1 (Or.inr rfl))
          have f123 : At g M_RF_conds (b + 32 + 1) 123 [(0, va_rf (some (gz g + 145)))] [] m3 (QI Q) := bk_RF_conds_123 g (f4 0 (Or.inl rfl))
          by_cases c1 : l1 = 0
          · rw [if_pos c1]; exact f123
          rw [if_neg c1]
          by_cases c2 : z = 0
          · rw [if_pos c2]
            by_cases c3 : v ≤ r.2.2 f
            · rw [if_pos c3]; exact f123
            · rw [if_neg c3]; exact f119
          rw [if_neg c2]
          by_cases c4 : z = 1
          · rw [if_pos c4]
            by_cases c3 : r.2.2 f ≤ v
            · rw [if_pos c3]; exact f123
            · rw [if_neg c3]; exact f119
          rw [if_neg c4]
          by_cases c3 : r.2.2 f = v
          · rw [if_pos c3]; exact f119
          · rw [if_neg c3]; exact f123
        · obtain ⟨y1, y2, -⟩ := (ppS_rng hTk hr1 hs).2 s rfl
          refine c_sumR g hT hL hr1 hs D2 ⟨fun r' hr' m3 s3 D3 => ?_, fun e' he' => (by cases he')⟩
          have hr2 : s = r' := Sum.inl.inj hr'
          subst hr2
          have s13 := s12.trans s3
          have cv := cdD_V (r := r.2.2) (s := s.2.2) (k := kdT tx L r.1) hq0 hq1
          have c01 : cdD q d r.2.2 s.2.2 (kdT tx L r.1) f = 0 ∨ cdD q d r.2.2 s.2.2 (kdT tx L r.1) f = 1 := by
            rw [cv]
            by_cases c1 : l1 = 0
            · rw [if_pos c1]; exact Or.inl rfl
            · rw [if_neg c1]; exact cmp01 _ _ _
          have f4 : ∀ w : Int32, w = lb (cdD q d r.2.2 s.2.2 (kdT tx L r.1) f) → At g M_RF_conds (b + 32 + 1) 124 [(0, va_rf (some (gz g + 145)))] [.int w] m3 (QI Q) := fun w hw => by
            rw [hw]
            refine bk_RF_conds_124 g ⟨D3.1.k 145 rfl, c_wdR g (lv := b + 27) D3 (w := 6) (by omega) ?_⟩
            by_cases h20 : kdT tx L s.1 = 20
            · rw [if_pos h20] at hk2
              rw [if_pos (show kdT tx L s.1 = nI (14 + 6) from h20), if_neg (by decide)]
              have hs1 := hTk.lt y1 (by rw [h20]; decide)
              refine c_nextS g hT D3 hs1 (fun m4 s4 D4 => ?_)
              exact ih (q + 1) s.1 _ _ res m4 _ Q hs1 hk2 D4 (fun q' => by omega) (fun _ => ⟨c01, rfl⟩) ⟨fun r' hr' m5 s5 D5 => Pok r' hr' m5 ((s13.trans s4).trans s5) D5, fun e he m5 v B5 => Perr e he m5 v (B5.pre (s13.trans s4))⟩
            · rw [if_neg h20] at hk2
              rw [if_neg (show ¬ kdT tx L s.1 = nI (14 + 6) from h20), if_pos rfl]
              refine bk_RF_conds_4 g ?_
              rw [if_pos rfl]
              exact ⟨lb01 _, Pok _ (Option.some.inj hk2).symm m3 s13 D3⟩
          have f119 : cdD q d r.2.2 s.2.2 (kdT tx L r.1) f = 1 → At g M_RF_conds (b + 32 + 1) 119 [(0, va_rf (some (gz g + 145)))] [] m3 (QI Q) := fun q => bk_RF_conds_119 g (f4 1 (by rw [q]; rfl))
          have f123 : cdD q d r.2.2 s.2.2 (kdT tx L r.1) f = 0 → At g M_RF_conds (b + 32 + 1) 123 [(0, va_rf (some (gz g + 145)))] [] m3 (QI Q) := fun q => bk_RF_conds_123 g (f4 0 (by rw [q]; rfl))
          rw [cv, hc] at f119 f123
          show (if l1 = 0 then _ else _)
          by_cases c1 : l1 = 0
          · rw [if_pos c1] at f123 ⊢; exact f123 rfl
          rw [if_neg c1] at f119 f123 ⊢
          by_cases c2 : z = 0
          · rw [if_pos c2] at f119 f123 ⊢
            by_cases c3 : s.2.2 f ≤ r.2.2 f
            · rw [if_pos c3] at f123 ⊢; exact f123 rfl
            · rw [if_neg c3] at f119 ⊢; exact f119 rfl
          rw [if_neg c2] at f119 f123 ⊢
          by_cases c4 : z = 1
          · rw [if_pos c4] at f119 f123 ⊢
            by_cases c3 : r.2.2 f ≤ s.2.2 f
            · rw [if_pos c3] at f123 ⊢; exact f123 rfl
            · rw [if_neg c3] at f119 ⊢; exact f119 rfl
          rw [if_neg c4] at f119 f123 ⊢
          by_cases c3 : r.2.2 f = s.2.2 f
          · rw [if_pos c3] at f119 ⊢; exact f119 rfl
          · rw [if_neg c3] at f123 ⊢; exact f123 rfl
      refine c_sgR g D1 sk_60 ?_
      by_cases k0 : kdT tx L r.1 = 10
      · rw [if_pos k0, if_neg (by decide)]
        exact go 0 (by rw [k0]; decide) (by decide) (fun x y => by rw [k0]; rfl)
      rw [if_neg k0, if_pos rfl]
      refine c_sgR g D1 sk_62 ?_
      by_cases k1 : kdT tx L r.1 = 11
      · rw [if_pos k1, if_neg (by decide)]
        exact go 1 (by rw [k1]; decide) (by decide) (fun x y => by rw [k1]; rfl)
      rw [if_neg k1, if_pos rfl]
      refine c_sgR g D1 sk_61 ?_
      by_cases k2 : kdT tx L r.1 = 12
      · rw [if_pos k2, if_neg (by decide)]
        exact go 2 (by rw [k2]; decide) (by decide) (fun x y => by rw [k2]; rfl)
      rw [if_neg k2, if_pos rfl]
      have hw : wi (kdT tx L r.1) 10 12 = 0 := Classical.byContradiction (fun q => (op1012 q).elim k0 (fun q => q.elim k1 k2))
      rw [if_pos hw] at hk
      refine bk_RF_conds_53 g ?_
      rw [if_pos rfl]
      exact ⟨D1.1.k 145 rfl, c_badO g D1 (fun m2 B2 => Perr _ (Option.some.inj hk).symm m2 _ (B2.pre s1))⟩
theorem c_condsR (g : Gc) {T L base b i : Nat} {tx : Nat → Int32} {f : Nat → Int64} (hT : TxT tx L T) (hL : L ≤ 300) {res : Res} {m : Mm} {Q : Int32 → Mm → Prop} (hi : i + 1 < T) (h : pcd (kdT tx L) (vlT tx L) 400 0 i [] d0 = some res) (D : RdS g tx L base f 0 (i + 1) m) (PO : PORc g tx L base f m res Q) : CI g M_RF_conds (b + 33) [va_rf (some (gz g + 145))] m Q :=
  en_RF_conds g (r_cd g hT hL 400 0 i [] d0 res m 1 Q hi h D (fun _ => rfl) (fun q => absurd rfl q) PO)
