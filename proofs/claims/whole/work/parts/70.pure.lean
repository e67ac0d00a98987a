/-! ===== the year as numbers; the two ways of keeping agree ===== -/
/-- alike but for the free sacks -/
def eq7 (f f' : Nat → Nat → Int32) : Prop := ∀ c i, c ≠ 7 → f c i = f' c i
theorem eq7.up {f f' : Nat → Nat → Int32} (h : eq7 f f') (a j : Nat) (v : Int32) : eq7 (up2 f a j v) (up2 f' a j v) := fun c i hc => by
  by_cases q : c = a ∧ i = j
  · rw [q.1, q.2, up2_at, up2_at]
  · rw [up2_not q, up2_not q]; exact h c i hc
theorem eq7.up7 {f f' : Nat → Nat → Int32} (h : eq7 f f') (j j' : Nat) (v v' : Int32) : eq7 (up2 f 7 j v) (up2 f' 7 j' v') := fun c i hc => by
  rw [up2_oth hc, up2_oth hc]; exact h c i hc
theorem eq7.upr {f f' : Nat → Nat → Int32} (h : eq7 f f') (j : Nat) (v : Int32) : eq7 f (up2 f' 7 j v) := fun c i hc => by
  rw [up2_oth hc]; exact h c i hc
def RelK (n k : Nat) (cr : Nat → Int32) (C R : Mm) : Prop := eq7 (mI C) (mI R) ∧ mL C = mL R ∧ ∀ j, mI C 7 j = if k ≤ j ∧ j < n then mI R 7 j + cr j else mI R 7 j
theorem RelK.step {n k r y : Nat} {cr : Nat → Int32} {C R : Mm} {P fr : Int32} (h : RelK n k cr C R) (hk : k < n) (hc : mI C 17 (12 * y + k) = cr k) : (kpS C r y k P fr).2 = (kpS (sI R 7 k (mI R 7 k + cr k)) r y k P fr).2 ∧ RelK n (k + 1) cr (kpS C r y k P fr).1 (kpS (sI R 7 k (mI R 7 k + cr k)) r y k P fr).1 := by
  obtain ⟨h1, h2, h3⟩ := h
  have e17 : mI (sI R 7 k (mI R 7 k + cr k)) 17 (12 * y + k) = mI C 17 (12 * y + k) := by rw [mI_sI, up2_oth (by omega)]; exact (h1 17 _ (by omega)).symm
  have e7k : mI (sI R 7 k (mI R 7 k + cr k)) 7 k = mI C 7 k := by rw [mI_sI, up2_at, h3 k, if_pos ⟨Nat.le_refl _, hk⟩]
  have eL : mL (sI R 7 k (mI R 7 k + cr k)) = mL C := h2.symm
  have h1' : eq7 (mI C) (mI (sI R 7 k (mI R 7 k + cr k))) := h1.upr k _
  have h3' : ∀ j, j ≠ k → mI C 7 j = if k + 1 ≤ j ∧ j < n then mI (sI R 7 k (mI R 7 k + cr k)) 7 j + cr j else mI (sI R 7 k (mI R 7 k + cr k)) 7 j := fun j hj => by
    rw [mI_sI, up2_sl hj, h3 j]
    by_cases q : k ≤ j ∧ j < n
    · rw [if_pos q, if_pos (by omega)]
    · rw [if_neg q, if_neg (by omega)]
  generalize sI R 7 k (mI R 7 k + cr k) = R' at e17 e7k eL h1' h3'
  have ed : dueV R' y k P = dueV C y k P := by unfold dueV; rw [e17, eL]
  have ek : kpV R' y k P = kpV C y k P := by unfold kpV; rw [e17, ed]
  have k1 : eq7 (mI (kp1 C y k fr)) (mI (kp1 R' y k fr)) := (h1'.up 8 k 0).up 18 _ fr
  have k2 : eq7 (mI (kp2 C y k P fr)) (mI (kp2 R' y k P fr)) := by
    show eq7 (up2 (mI (kp1 C y k fr)) 8 k (kpV C y k P)) (up2 (mI (kp1 R' y k fr)) 8 k (kpV R' y k P))
    rw [ek]
    exact k1.up 8 k _
  have c7 : ∀ (X : Mm) (fr : Int32) (j : Nat), mI (kp1 X y k fr) 7 j = mI X 7 j ∧ mI (kp2 X y k P fr) 7 j = mI X 7 j := fun X fr j => ⟨kp1_I (by omega) (by omega), kp2_I (by omega) (by omega)⟩
  have last : ∀ j, mI C 7 j = if k + 1 ≤ j ∧ j < n then mI R' 7 j + cr j else mI R' 7 j := fun j => by
    by_cases q : j = k
    · subst q; rw [if_neg (by omega)]; exact e7k.symm
    · exact h3' j q
  unfold kpS
  rw [ek]
  split
  · split
    · refine ⟨rfl, k2, ?_, fun j => ?_⟩
      · show up2 (mL (kp1 C y k fr)) 1 k _ = up2 (mL (kp1 R' y k fr)) 1 k _
        rw [ed, ek]
        show up2 (mL C) 1 k _ = up2 (mL R') 1 k _
        rw [eL]
      · rw [(c7 C fr j).2, (c7 R' fr j).2]; exact last j
    · refine ⟨rfl, ?_, ?_, fun j => ?_⟩
      · show eq7 (up2 (up2 (up2 (up2 (up2 (mI (kp2 C y k P fr)) 7 k (mI C 7 k - kpV C y k P)) 9 r (nI k)) 10 r (kpV C y k P)) 11 r (nI y)) 0 3 (nI (r + 1))) (up2 (up2 (up2 (up2 (up2 (mI (kp2 R' y k P fr)) 7 k (mI R' 7 k - kpV R' y k P)) 9 r (nI k)) 10 r (kpV R' y k P)) 11 r (nI y)) 0 3 (nI (r + 1)))
        rw [ek]
        exact ((((k2.up7 k k _ _).up 9 r _).up 10 r _).up 11 r _).up 0 3 _
      · show up2 (up2 (mL C) 1 k (dueV C y k P - 100 * (kpV C y k P).toInt64)) 2 1 (mL C 2 1 + (kpV C y k P).toInt64) = up2 (up2 (mL R') 1 k (dueV R' y k P - 100 * (kpV R' y k P).toInt64)) 2 1 (mL R' 2 1 + (kpV R' y k P).toInt64)
        rw [ed, ek, eL]
      · have z : ∀ X : Mm, mI (kp3 X r y k P fr) 7 j = if j = k then mI X 7 k - kpV X y k P else mI X 7 j := fun X => by
          unfold kp3
          rw [mI_sL, issA_oth (by omega) (by omega), mI_sI]
          by_cases q : j = k
          · subst q; rw [up2_at, if_pos rfl]
          · rw [up2_sl q, if_neg q, (c7 X fr j).2]
        rw [z C, z R', ek]
        by_cases q : j = k
        · subst q; rw [if_pos rfl, if_pos rfl, if_neg (by omega), e7k]
        · rw [if_neg q, if_neg q]; exact last j
  · refine ⟨rfl, k1, ?_, fun j => ?_⟩
    · show mL C = mL R'
      rw [eL]
    · rw [(c7 C fr j).1, (c7 R' fr j).1]; exact last j
theorem kq_kp {n r y : Nat} {A0 R0 : Mm} {P : Int32} {fr : Nat → Int32} (h : RelK n 0 (fun j => mI A0 17 (12 * y + j)) A0 R0) : ∀ k, k ≤ n → (kpA A0 r y P fr k).2 = (kqA R0 r y P fr k).2 ∧ RelK n k (fun j => mI A0 17 (12 * y + j)) (kpA A0 r y P fr k).1 (kqA R0 r y P fr k).1
  | 0, _ => ⟨rfl, h⟩
  | k + 1, hk => by
    obtain ⟨a, b⟩ := kq_kp (r := r) (P := P) (fr := fr) h k (by omega)
    have e17 : mI (kpA A0 r y P fr k).1 17 (12 * y + k) = mI A0 17 (12 * y + k) := kpA_I (by omega) (by omega) (by omega) (by omega) (by omega) k
    have r17 : mI R0 17 (12 * y + k) = mI A0 17 (12 * y + k) := (h.1 17 _ (by omega)).symm
    have st := b.step (r := (kqA R0 r y P fr k).2) (y := y) (P := P) (fr := fr k) (by omega) e17
    show (kpS _ _ _ _ _ _).2 = (kpS _ _ _ _ _ _).2 ∧ RelK _ _ _ (kpS _ _ _ _ _ _).1 (kpS _ _ _ _ _ _).1
    rw [a, r17]
    exact st
/-- keeping as numbers -/
theorem kpS_nat {n r y k c : Nat} {B : Mm} {v u : Nat → Nat} {P fr : Int32} (hv : frN n B v) (hu : skN r B u) (hk : k < n) (hc : mI B 17 (12 * y + k) = nI c) (hc2 : c ≤ v k) : ∃ v' u' : Nat → Nat, frN n (kpS B r y k P fr).1 v' ∧ skN (kpS B r y k P fr).2 (kpS B r y k P fr).1 u' ∧ sumN v' n + sumN u' (kpS B r y k P fr).2 = sumN v n + sumN u r ∧ (∀ j, j ≠ k → v' j = v j) := by
  have c31 : c < 2 ^ 31 := by have := (hv k hk).2; omega
  obtain ⟨q, hq1, hq2⟩ := kpV_nat (P := P) hc c31
  unfold kpS
  split
  · split
    · refine ⟨v, u, fun j hj => ?_, fun i hi => ?_, rfl, fun _ _ => rfl⟩
      · show mI (kp2 B y k P fr) 7 j = _ ∧ _
        rw [kp2_I (by omega) (by omega)]; exact hv j hj
      · show mI (kp2 B y k P fr) 10 i = _ ∧ _
        rw [kp2_I (by omega) (by omega)]; exact hu i hi
    · refine ⟨fun j => if j = k then v k - q else v j, fun i => if i = r then q else u i, fun j hj => ?_, fun i hi => ?_, ?_, fun j hj => if_neg hj⟩
      · show mI (kp3 B r y k P fr) 7 j = _ ∧ _
        unfold kp3
        rw [mI_sL, issA_oth (by omega) (by omega), mI_sI]
        by_cases e : j = k
        · subst e
          rw [up2_at]
          simp only [if_true]
          rw [(hv j hj).1, hq2]
          exact ⟨nI_sub (by omega) (hv j hj).2, by have := (hv j hj).2; omega⟩
        · rw [up2_sl e, kp2_I (by omega) (by omega)]
          simp only [if_neg e]
          exact hv j hj
      · show mI (kp3 B r y k P fr) 10 i = _ ∧ _
        by_cases e : i = r
        · subst e
          simp only [if_true]
          refine ⟨?_, by omega⟩
          unfold kp3 issA
          rw [mI_sL, mI_sI, up2_oth (by omega), (issB_at).2.1]
          exact hq2
        · rw [kp3_I (by omega) (by omega) (by omega) (by omega) (by omega)]
          simp only [if_neg e]
          exact hu i (by have : i < r + 1 := hi; omega)
      · have e1 := (sumN_upd (u := v) (j := k) (x := v k - q) n).1 hk
        have e2 := (sumN_upd (u := u) (j := r) (x := q) r).2 (by omega)
        show sumN (fun j => if j = k then v k - q else v j) n + (sumN (fun i => if i = r then q else u i) r + (if r = r then q else u r)) = _
        rw [if_pos rfl, e2]
        omega
  · refine ⟨v, u, fun j hj => ?_, fun i hi => ?_, rfl, fun _ _ => rfl⟩
    · show mI (kp1 B y k fr) 7 j = _ ∧ _
      rw [kp1_I (by omega) (by omega)]; exact hv j hj
    · show mI (kp1 B y k fr) 10 i = _ ∧ _
      rw [kp1_I (by omega) (by omega)]; exact hu i hi
theorem kpA_nat {n r y : Nat} {A : Mm} {v u c : Nat → Nat} {P : Int32} {fr : Nat → Int32} (hv : frN n A v) (hu : skN r A u) (hc : ∀ k, k < n → mI A 17 (12 * y + k) = nI (c k) ∧ c k ≤ v k) : ∀ k, k ≤ n → ∃ v' u' : Nat → Nat, frN n (kpA A r y P fr k).1 v' ∧ skN (kpA A r y P fr k).2 (kpA A r y P fr k).1 u' ∧ sumN v' n + sumN u' (kpA A r y P fr k).2 = sumN v n + sumN u r ∧ ∀ j, k ≤ j → v' j = v j
  | 0, _ => ⟨v, u, hv, hu, rfl, fun _ _ => rfl⟩
  | k + 1, hk => by
    obtain ⟨v1, u1, a1, a2, a3, a4⟩ := kpA_nat (P := P) (fr := fr) hv hu hc k (by omega)
    have e17 : mI (kpA A r y P fr k).1 17 (12 * y + k) = mI A 17 (12 * y + k) := kpA_I (by omega) (by omega) (by omega) (by omega) (by omega) k
    obtain ⟨v2, u2, b1, b2, b3, b4⟩ := kpS_nat (r := (kpA A r y P fr k).2) (P := P) (fr := fr k) a1 a2 (show k < n by omega) (e17.trans (hc k (by omega)).1) (by rw [a4 k (Nat.le_refl _)]; exact (hc k (by omega)).2)
    exact ⟨v2, u2, b1, b2, b3.trans a3, fun j hj => (b4 j (by omega)).trans (a4 j (by omega))⟩
/-- gathering as numbers -/
theorem gathA_7 {A : Mm} {y : Nat} {yl : Int32} {j : Nat} : ∀ k, mI (gathA A y yl k) 7 j = if j < k then mI A 7 j + cropV A y yl j else mI A 7 j
  | 0 => by rw [if_neg (by omega)]; rfl
  | k + 1 => by
    show mI (gatS _ _ _ _) 7 j = _
    unfold gatS
    rw [mI_sL, mI_sI]
    by_cases e : j = k
    · subst e
      rw [up2_at, gathA_7 j, if_neg (by omega), if_pos (by omega)]
    · rw [up2_sl e, mI_sI, up2_oth (by omega), gathA_7 k]
      by_cases q : j < k
      · rw [if_pos q, if_pos (by omega)]
      · rw [if_neg q, if_neg (by omega)]
theorem gathA_17 {A : Mm} {y : Nat} {yl : Int32} {i : Nat} : ∀ k, k ≤ 12 → mI (gathA A y yl k) 17 i = if 12 * y ≤ i ∧ i < 12 * y + k then cropV A y yl (i - 12 * y) else mI A 17 i
  | 0, _ => by rw [if_neg (by omega)]; rfl
  | k + 1, hk => by
    show mI (gatS _ _ _ _) 17 i = _
    unfold gatS
    rw [mI_sL, mI_sI, up2_oth (by omega), mI_sI]
    by_cases e : i = 12 * y + k
    · subst e
      rw [up2_at, if_pos (by omega), show 12 * y + k - 12 * y = k by omega]
    · rw [up2_sl e, gathA_17 k (by omega)]
      by_cases q : 12 * y ≤ i ∧ i < 12 * y + k
      · rw [if_pos q, if_pos (by omega)]
      · rw [if_neg q, if_neg (by omega)]
def crvL (A : Mm) (y : Nat) (yl : Int32) : Nat → Int64
  | 0 => 0
  | k + 1 => crvL A y yl k + (cropV A y yl k).toInt64
theorem gathA_L {A : Mm} {y : Nat} {yl : Int32} : ∀ k, mL (gathA A y yl k) = mL (sL A 2 0 (mL A 2 0 + crvL A y yl k))
  | 0 => by
    show mL A = mL (sL A 2 0 (mL A 2 0 + 0))
    rw [Int64.add_zero, mL_selfA]
  | k + 1 => by
    show mL (gatS _ _ _ _) = _
    unfold gatS
    have e := gathA_L (A := A) (y := y) (yl := yl) k
    have e2 : mL (gathA A y yl k) 2 0 = mL A 2 0 + crvL A y yl k := by rw [e, mL_sL, up2_at]
    rw [e2, mL_sL, mL_sI, mL_sI, e, Int64.add_assoc]
    exact mL_over (B := A) (c := 2) (i := 0)
theorem crpL_crv {A B : Mm} {y : Nat} {yl : Int32} : ∀ k, (∀ j, j < k → mI B 17 (12 * y + j) = cropV A y yl j) → crpL B y k = crvL A y yl k
  | 0, _ => rfl
  | k + 1, h => by
    show crpL B y k + _ = crvL A y yl k + _
    rw [crpL_crv k (fun j hj => h j (by omega)), h k (by omega)]
theorem sacB_N {A : Mm} {u : Nat → Nat} : ∀ r, skN r A u → (∀ i, i < r → ¬ (30 : Int32) ≤ mI A 11 i) → sacB A 30 r = lN (sumN u r) ∧ sacT A r = nI (sumN u r)
  | 0, _, _ => ⟨rfl, rfl⟩
  | r + 1, h, hf => by
    obtain ⟨a, b⟩ := sacB_N r (fun i hi => h i (by omega)) (fun i hi => hf i (by omega))
    obtain ⟨e, l⟩ := h r (by omega)
    refine ⟨?_, ?_⟩
    · unfold sacB
      rw [if_neg (hf r (by omega)), a, e, nI_l l, lN_add]
      rfl
    · unfold sacT
      rw [b, e, nI_add]
      rfl
