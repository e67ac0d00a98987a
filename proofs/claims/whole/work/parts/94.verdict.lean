/-! ===== what the law says, on both sides; the year on both sides ===== -/
theorem or_shr (a b s : Int32) : (a ||| b) >>> s = (a >>> s) ||| (b >>> s) := by
  apply Int32.toBitVec_inj.1
  simp [Int32.toBitVec_shiftRight, Int32.toBitVec_or, BitVec.sshiftRight', BitVec.sshiftRight_or_distrib]
theorem or_and1 (a b c : Int32) : (a ||| b) &&& c = (a &&& c) ||| (b &&& c) := by
  apply Int32.toBitVec_inj.1
  simp [Int32.toBitVec_and, Int32.toBitVec_or]
  ext i hi
  simp
  cases (a.toBitVec[i]) <;> cases (b.toBitVec[i]) <;> simp
theorem bits8 : ∀ x, x < 8 → ∀ v, v < 8 → (((1 : Int32) <<< (nI x &&& 31)) >>> (nI v &&& 31)) &&& 1 = if x = v then 1 else 0 := by decide +kernel
theorem and1 (x : Int32) : x &&& 1 = 0 ∨ x &&& 1 = 1 := by
  obtain ⟨j, hj, e⟩ := pk_andE x (m := 1) 1 rfl
  rcases (show j = 0 ∨ j = 1 by omega) with rfl | rfl
  · exact Or.inl e
  · exact Or.inr e
def FdOK (V : RS) : Prop := ∀ v, v < 8 → (((V.2.2.2.2.2.1 >>> (nI v &&& 31)) &&& 1 = 1) ↔ ¬ V.2.2.2.2.1 v = 0)
theorem fd_0 : FdOK RS0 := fun v hv => by
  rcases (show v = 0 ∨ v = 1 ∨ v = 2 ∨ v = 3 ∨ v = 4 ∨ v = 5 ∨ v = 6 ∨ v = 7 by omega) with rfl | rfl | rfl | rfl | rfl | rfl | rfl | rfl <;> decide +kernel
theorem fd_raw {V : RS} {c : Cls} {f : Nat → Int64} (h : FdOK V) (hc : ClsV c) : FdOK (clF f V c) := by
  unfold clF
  split
  · exact h
  unfold rawF
  by_cases h14 : c.1 = 14
  · rw [if_pos h14]; exact h
  rw [if_neg h14]
  by_cases h15 : c.1 = 15
  · rw [if_pos h15]; exact h
  rw [if_neg h15]
  by_cases h16 : c.1 = 16
  · rw [if_pos h16]
    rcases hc with q | q | ⟨-, x, hx, ex⟩
    · exact absurd q h14
    · exact absurd q h15
    rw [ex f]
    by_cases h8 : (8 : Int64) ≤ x.toInt64
    · simp only [if_pos h8]; exact h
    · obtain ⟨j, hj, rfl⟩ := nI_of (x := x) (fun q => by
        have a1 := (i32_le _ _).mp hx
        have a2 := (i32_lt _ _).mp q
        omega)
      have j8 : j < 8 := by
        rw [nI_l hj, show (8 : Int64) = lN 8 from rfl, pk_lLE (by omega) (by omega)] at h8
        omega
      simp only [if_neg h8]
      rw [toI32_64, nI_clamp hj]
      intro v hv
      show (((V.2.2.2.2.2.1 ||| ((1 : Int32) <<< (nI j &&& 31))) >>> (nI v &&& 31)) &&& 1 = 1) ↔ ¬ va_up V.2.2.2.2.1 j 1 v = 0
      rw [or_shr, or_and1, bits8 j j8 v hv]
      have hv' := h v hv
      by_cases e : j = v
      · subst e
        rw [if_pos rfl]
        have e1 : va_up V.2.2.2.2.1 j 1 j = 1 := by simp [va_up]
        rw [e1]
        refine ⟨fun _ => by decide, fun _ => ?_⟩
        rcases and1 (V.2.2.2.2.2.1 >>> (nI j &&& 31)) with q | q <;> rw [q] <;> decide
      · rw [if_neg e]
        have e1 : va_up V.2.2.2.2.1 j 1 v = V.2.2.2.2.1 v := by simp [va_up]; intro q; exact absurd q.symm e
        rw [e1, ← hv']
        rcases and1 (V.2.2.2.2.2.1 >>> (nI v &&& 31)) with q | q <;> rw [q] <;> decide
  rw [if_neg h16]
  by_cases h17 : c.1 = 17
  · rw [if_pos h17]; exact h
  · rw [if_neg h17]; exact h
theorem fd_fold {f : Nat → Int64} : ∀ (cs : List Cls) (V : RS), (∀ c, c ∈ cs → ClsV c) → FdOK V → FdOK (cs.foldl (clF f) V)
  | [], _, _, h => h
  | c :: cs, V, hc, h => fd_fold cs (clF f V c) (fun d hd => hc d (List.mem_cons_of_mem _ hd)) (fd_raw h (hc c List.mem_cons_self))
theorem fd_rawL {f : Nat → Int64} {cs : List Cls} (h : LwOK cs) : FdOK (rawL f cs) := fd_fold cs RS0 (fun c hc => (h.2.2 c hc).2) fd_0
theorem fr_bits {V : RS} {v : Nat} {c : Int32} (h : FdOK V) (hv : v < 8) : frV V.2.2.2.2.2.2.1.toInt64 V.2.2.2.2.1 (nI v) c = if ((V.2.2.2.2.2.1 >>> (nI v &&& 31)) &&& 1) = 1 then 1 else if V.2.2.2.2.2.2.1 ≤ c then 0 else 1 := by
  unfold frV
  have w : wi (nI v) 0 7 = 1 := by
    rw [wi_nat (a := v) (c := 7) (c32 := 7) rfl (by omega) (by omega), if_pos (by omega)]
  rw [w, nI_clamp (by omega)]
  have hv' := h v hv
  by_cases hc : c < V.2.2.2.2.2.2.1
  · rw [if_pos ((wide_lt _ _).mpr hc)]
    have hn : ¬ V.2.2.2.2.2.2.1 ≤ c := fun q => by
      have a1 := (i32_le _ _).mp q
      have a2 := (i32_lt _ _).mp hc
      omega
    rw [if_neg hn]
    split <;> rfl
  · rw [if_neg (fun q => hc ((wide_lt _ _).mp q)), if_neg (by decide)]
    have hn : V.2.2.2.2.2.2.1 ≤ c := (i32_le _ _).mpr (by
      have a2 : ¬ c.toInt < V.2.2.2.2.2.2.1.toInt := fun q => hc ((i32_lt _ _).mpr q)
      omega)
    rw [if_pos hn]
    by_cases hF : V.2.2.2.2.1 v = 0
    · rw [if_pos hF, if_neg (fun q => (hv'.mp q) hF)]
    · rw [if_neg hF, if_pos (hv'.mpr hF)]
theorem c_hearV (g : Gc) {lv t : Nat} {f : Nat → Int64} {o : Option Nat} {cs : List Cls} {m : Mm} (ht : t = 2 ∨ t = 65) (hL : LwOK cs) (S : Sg g m) (FC : FcAt g t f m) (hn : o = none → cs = []) (hs : ∀ la, o = some la → LawH la cs m) : CV g M_Judge_hear (lv + 3) [va_rf (some (gz g + (t + 5))), va_rf o] m (fun m2 => VerC g t (verP (rawL f cs)) (verS (rawL f cs) (f 1)) (rawL f cs).2.2.2.2.2.2.1.toInt64 (rawL f cs).2.2.2.2.1 (rawL f cs).2.2.2.2.2.2.2 m2 ∧ St (PJ g t) m m2) :=
  c_hear g ht hL S FC hn hs (fun m' s J => ⟨⟨J.2.2.1, J.2.2.2.1, J.2.2.2.2.1, J.2.2.2.2.2.1, J.2.2.2.2.2.2⟩, s.weak (fun a j q => by unfold PJo at q; unfold PJ; omega)⟩)
def TxtOf (g : Gc) (t : Nat) (cs : List Cls) (m : Mm) : Prop := (mI m (gz g + 154) t = -1 ∧ cs = []) ∨ ∃ (tx : Nat → Int32) (L : Nat), L ≤ 300 ∧ Txt g t L tx m ∧ lawOf tx L = some (Sum.inl cs)
theorem TxtOf.st {g : Gc} {t : Nat} {cs : List Cls} {P : Nat → Nat → Prop} {m m' : Mm} (h : TxtOf g t cs m) (s : St P m m') (h1 : ¬ P (gz g + 154) t) (h2 : ∀ j, ¬ P (gz g + 153) j) : TxtOf g t cs m' := by
  rcases h with ⟨a, b⟩ | ⟨tx, L, a, b, c⟩
  · exact Or.inl ⟨(s.2 _ _ h1).1.trans a, b⟩
  · exact Or.inr ⟨tx, L, a, b.st s h1 (fun j _ => h2 _), c⟩
theorem TxtOf.lw {g : Gc} {t : Nat} {cs : List Cls} {m : Mm} (h : TxtOf g t cs m) : LwOK cs := by
  rcases h with ⟨-, rfl⟩ | ⟨tx, L, a, -, c⟩
  · exact ⟨Nat.zero_le _, Nat.zero_le _, fun c hc => by cases hc⟩
  · exact lawOf_ok a c
theorem c_readsV (g : Gc) {b t : Nat} {f : Nat → Int64} {cs : List Cls} {m : Mm} (S : Sg g m) (ht : t ≤ 30) (F : FcR g f m) (X : TxtOf g t cs m) {Q : Mm → Prop} (hQ : ∀ m', St (PNr g) m m' → VR g (rawL f cs) m' → Q m') : CV g M_RF_reads (b + 35) [va_rf (some (gz g + 145)), .int (nI t)] m Q := by
  rcases X with ⟨hN, rfl⟩ | ⟨tx, L, hL, hX, hl⟩
  · exact c_readsN g (lv := b + 34) S ht hN hQ
  · exact c_readsT g (b := b) S ht hL hX.1 hX.2 F hl (fun cs' e m' s _ V _ => by cases e; exact hQ m' s V) (fun e h => by cases h)
theorem c_passY (g : Gc) {lv t N n y r0 R0 : Nat} {A m0 : Mm} {pa0 : Nat → Nat} {o : Option Nat} {cs : List Cls} {yl : Int32} (ht : t = 2 ∨ t = 65) (hp : PaOK g pa0 R0) (hn : mI A 0 0 = nI n) (hnN : n ≤ N) (hN : N ≤ 12) (hy : mI A 0 1 = nI y) (h30 : y < 30) (hrR : r0 ≤ R0) (hR4 : R0 ≤ 400) (hr4 : r0 + n ≤ 400) (h03 : mI A 0 3 = nI r0) (hh : HoldOK n r0 A) (hS : Sg g m0) (hF : Fr g m0) (hP : Pap g t pa0 R0 m0) (hC : LandC g t pa0 N 30 r0 A m0) (hL : LwOK cs)
    (hO : ∀ m1, St (fun a j => PC g t pa0 r0 a j ∨ PJ g t a j) m0 m1 → (o = none → cs = []) ∧ ∀ la, o = some la → LawH la cs m1)
    {Q : Mm → Prop} (hQ : ∀ pa R m', YrOK g t N y r0 R0 pa0 m0 (yearA (mI m0 (gz g + 1)) cs n y yl A r0).1 (yearA (mI m0 (gz g + 1)) cs n y yl A r0).2 pa R m' → CV g M_Land_settleLoans (lv + 4) [va_rf (some (gz g + t))] m' (fun m'' => ∀ m3, m3 = sI m'' (gz g + t) 9 (mI m'' (gz g + t) 9 + 1) → Q m3)) : CV g M_Land_passYear (lv + 5) [va_rf (some (gz g + t)), .int yl, va_rf o] m0 Q := by
  refine c_pass (lv := lv + 1) g ht hp hn hnN hN hy h30 hrR hR4 hr4 h03 hh hS hF hP hC (fun m1 s1 f1 => c_hearV g (lv := lv) (f := yF (mI m0 (gz g + 1)) n y yl A r0) ht hL (s1.sg hS) f1 (hO m1 s1).1 (hO m1 s1).2) (fun A4 A5 A7 A9 e4 e5 e7 e9 pa R m' K => ?_)
  subst e9 e7 e5 e4
  exact hQ pa R m' K
theorem yF_1 {tm : Nat → Int32} {n y r : Nat} {yl : Int32} {A : Mm} {u : Nat → Nat} (hu : skN r A u) (hf30 : F30 r A) : yF tm n y yl A r 1 = lN (sumN u r) ∧ sacT A r = nI (sumN u r) := by
  have y3 : ∀ cc i, cc ≠ 7 → cc ≠ 17 → cc ≠ 19 → ¬ (cc = 0 ∧ i = 4) → mI (yr3 A y n yl (tm 0) (tm 1)) cc i = mI A cc i := fun cc i h1 h2 h3 h4 => by
    unfold yr3
    rw [gathA_oth h1 h2, mI_sI, up2_oth h3, mI_sI, up2_not h4]
  have e : yF tm n y yl A r 1 = sacB (yr3 A y n yl (tm 0) (tm 1)) 30 r := rfl
  rw [e]
  refine ⟨(sacB_N r (fun i hi => ?_) (fun i hi => ?_)).1, (sacB_N r hu hf30).2⟩
  · rw [y3 10 i (by omega) (by omega) (by omega) (by omega)]; exact hu i hi
  · rw [y3 11 i (by omega) (by omega) (by omega) (by omega)]; exact hf30 i hi
theorem verS_nat {V : RS} {T : Nat} (hT : T < 2 ^ 31) : ∃ s0 : Nat, s0 ≤ T ∧ verS V (lN T) = lN s0 := by
  unfold verS
  split
  · exact ⟨0, Nat.zero_le _, rfl⟩
  · obtain ⟨q, a, -, c⟩ := cut_nat hT V.2.2.2.1
    exact ⟨q, a, c⟩
theorem c_passesY (g : Gc) {lv l N n y r0 e co t p' : Nat} {A m0 : Mm} {v u c : Nat → Nat} {yl : Int32} {cs : List Cls} (hl : l < 2) (hN : N ≤ 12) (hnN : n ≤ N) (hn : mI A 0 0 = nI n) (hy : mI A 0 1 = nI y) (h30 : y < 30) (h03 : mI A 0 3 = nI r0) (hr4 : r0 + n ≤ 400) (hh : HoldOK n r0 A) (hl1 : l = 1 → HoldG n r0 A) (hv : frN n A v) (hu : skN r0 A u) (hf30 : F30 r0 A) (hc : ∀ k, k < n → cropV A y yl k = nI (c k)) (tot : sumN v n + sumN c n + sumN u r0 < 2 ^ 31) (hco : (e = 158 ∧ co = 12 * y) ∨ (e = 164 ∧ co = 0)) (hcm : ∀ k, k < n → mI m0 (gz g + e) (co + k) = cropV A y yl k) (T : TermsOK g m0) (hpr : mI A 0 2 = nI p') (hp2 : p' ≤ 10000) (hV : ∀ k, k < n → ∃ w : Nat, w < 8 ∧ mI A 1 k = nI w) (hS : Sg g m0) (hR : LandQ g l N y r0 A m0) (ht : t ≤ 30) (X : TxtOf g t cs m0)
    {Q : Int32 → Mm → Prop} (hQ : ∀ m', LandQ g l N y (yearA (mI m0 (gz g + 1)) cs n y yl A r0).2 (yearA (mI m0 (gz g + 1)) cs n y yl A r0).1 m' → St (PRa g l y n) m0 m' → (l = 0 → (∀ j, j < n → mI m' (gz g + 162) (12 * y + j) = mI (yearA (mI m0 (gz g + 1)) cs n y yl A r0).1 18 (12 * y + j)) ∧ ∀ i, mI m' (gz g + 179) i = if 2 * r0 ≤ i ∧ i < 2 * (yearA (mI m0 (gz g + 1)) cs n y yl A r0).2 then -1 else mI m0 (gz g + 179) i) → Q (verP (yV (mI m0 (gz g + 1)) cs n y yl A r0)) m') : CI g M_RF_passes (lv + 36) [va_rf (some (gz g + 145)), .int (nI l), .int (nI t), va_rf (some (gz g + e)), .int (nI co)] m0 Q := by
  obtain ⟨te, b, s, pp', q, h, pl, d, hb2, hs2, hp2', hq2, hh1, hh2, hpl, hd2, e0, e1, e2, e3, e4, e5, e6⟩ := T
  have q5 : mI m0 (gz g + 145) 5 = mI m0 (gz g + 1) 0 := (te 0 (by omega)).symm
  have q6 : mI m0 (gz g + 145) 6 = mI m0 (gz g + 1) 1 := (te 1 (by omega)).symm
  have q7 : mI m0 (gz g + 145) 7 = mI m0 (gz g + 1) 2 := (te 2 (by omega)).symm
  have q8 : mI m0 (gz g + 145) 8 = mI m0 (gz g + 1) 3 := (te 3 (by omega)).symm
  have q9 : mI m0 (gz g + 145) 9 = mI m0 (gz g + 1) 4 := (te 4 (by omega)).symm
  have q10 : mI m0 (gz g + 145) 10 = mI m0 (gz g + 1) 5 := (te 5 (by omega)).symm
  have q11 : mI m0 (gz g + 145) 11 = mI m0 (gz g + 1) 6 := (te 6 (by omega)).symm
  obtain ⟨f1, st1⟩ := yF_1 (tm := mI m0 (gz g + 1)) (n := n) (y := y) (yl := yl) hu hf30
  obtain ⟨s0, hs0, hsv⟩ := verS_nat (V := yV (mI m0 (gz g + 1)) cs n y yl A r0) (T := sumN u r0) (by omega)
  have fd := fd_rawL (f := yF (mI m0 (gz g + 1)) n y yl A r0) X.lw
  have h18 : ∀ j, j < n → mI (yearA (mI m0 (gz g + 1)) cs n y yl A r0).1 18 (12 * y + j) = frV (yV (mI m0 (gz g + 1)) cs n y yl A r0).2.2.2.2.2.2.1.toInt64 (yV (mI m0 (gz g + 1)) cs n y yl A r0).2.2.2.2.1 (mI A 1 j) (cropV A y yl j) := fun j hj => by
    unfold yearA
    rw [yBd_18 (by omega), if_pos (by omega), show 12 * y + j - 12 * y = j by omega]
  have hQ' : ∀ m', LandQ g l N y (yBd (mI m0 (gz g + 1)) n y yl (yV (mI m0 (gz g + 1)) cs n y yl A r0) (lN s0) A r0).2 (yBd (mI m0 (gz g + 1)) n y yl (yV (mI m0 (gz g + 1)) cs n y yl A r0) (lN s0) A r0).1 m' → St (PRa g l y n) m0 m' → (l = 0 → (∀ j, j < n → mI m' (gz g + 162) (12 * y + j) = frV (yV (mI m0 (gz g + 1)) cs n y yl A r0).2.2.2.2.2.2.1.toInt64 (yV (mI m0 (gz g + 1)) cs n y yl A r0).2.2.2.2.1 (mI A 1 j) (cropV A y yl j)) ∧ ∀ i, mI m' (gz g + 179) i = if 2 * r0 ≤ i ∧ i < 2 * (yBd (mI m0 (gz g + 1)) n y yl (yV (mI m0 (gz g + 1)) cs n y yl A r0) (lN s0) A r0).2 then -1 else mI m0 (gz g + 179) i) → Q (verP (yV (mI m0 (gz g + 1)) cs n y yl A r0)) m' := fun m' R s k => by
    have ey : yearA (mI m0 (gz g + 1)) cs n y yl A r0 = yBd (mI m0 (gz g + 1)) n y yl (yV (mI m0 (gz g + 1)) cs n y yl A r0) (lN s0) A r0 := by
      unfold yearA
      rw [f1, hsv]
    refine hQ m' (by rw [ey]; exact R) s (fun h0 => ⟨fun j hj => ((k h0).1 j hj).trans (h18 j hj).symm, by rw [ey]; exact (k h0).2⟩)
  clear hQ h18
  generalize hVe : yV (mI m0 (gz g + 1)) cs n y yl A r0 = V at *
  refine c_passesR g (lv := lv + 33) (b' := b) (s' := s) (s0 := s0) (P := verP V) (fd := V.2.2.2.2.2.1) (l32 := V.2.2.2.2.2.2.1) (T := V.2.2.2.2.2.2.2) (ls := V.2.2.2.2.2.2.1.toInt64) (F := V.2.2.2.2.1) hl hN hnN hn hy h30 h03 hr4 hh hl1 hv hu hf30 hc tot hco hcm (q5.trans e0) hb2 (q6.trans e1) hs2 hpr hp2 (by omega) hS hR (fun m1 s1 f2 => ?_) (fun k hk => ?_) (fun A4 A5 A7 A9 d4 d5 d7 d9 m' R s k => ?_)
  · refine c_readsV g (b := lv) (f := yF (mI m0 (gz g + 1)) n y yl A r0) (s1.sg hS) ht (fun j hj => ?_) (X.st s1 (by unfold PRa PQ9 PQ PRs; omega) (fun j => by unfold PRa PQ9 PQ PRs; omega)) (fun m2 s2 V2 => ?_)
    · have := f2 j hj
      rw [← e0, ← e1] at this
      exact this
    · have V2' : VR g V m2 := by rw [← hVe]; exact V2
      obtain ⟨⟨a1, a2, a3, a4⟩, ⟨b1, b2, b3⟩, -⟩ := V2'
      refine ⟨⟨?_, ?_, b1, b2, b3⟩, s2.weak (fun a j z => Or.inr ⟨z.1, z.2.1, z.2.2⟩)⟩
      · rw [a1, a3]; rfl
      · rw [a2, a4, st1, nI_l (by omega)]
        have := congrArg Int64.toInt32 hsv
        rw [lN_i] at this
        rw [← this]
        unfold verS
        split <;> rfl
  · obtain ⟨w, hw, ew⟩ := hV k hk
    rw [ew]
    exact fr_bits (by rw [← hVe]; exact fd) hw
  · subst d9 d7 d5 d4
    rw [q8, q11, q7, q9, q10, ← e0, ← e1] at R
    rw [← e0, ← e1] at k
    exact hQ' m' R s k
