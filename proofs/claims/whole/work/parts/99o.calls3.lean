/-! ===== every call keeps what holds between calls: papers, loans, years ===== -/
def XPp (g : Gc) (pa : Nat → Nat) (r a j : Nat) : Prop := (gz g + 2 ≤ a ∧ a < gz g + 65) ∨ (∃ k, k < r ∧ a = pa k) ∨ a = gz g + 168 ∨ (gz g + 172 ≤ a ∧ a ≤ gz g + 181) ∨ (a = gz g + 145 ∧ j = 0)
theorem XPp_ok {g : Gc} {pa : Nat → Nat} {r a j : Nat} {m : Mm} (hp : PaOK g pa r) (hk : ∀ i, i < r → mK m (pa i) = 7) (z : XPp g pa r a j) : ((gz g + 2 ≤ a ∧ a < gz g + 65) ∨ a = gz g + 168 ∨ (gz g + 172 ≤ a ∧ a ≤ gz g + 181) ∨ (a = gz g + 145 ∧ j = 0)) ∨ (gz g + 184 ≤ a ∧ mK m a = 7 ∧ ∃ k, k < r ∧ a = pa k) := by
  rcases z with z | ⟨k, h1, rfl⟩ | z | z | z
  · exact Or.inl (by omega)
  · exact Or.inr ⟨hp.2 k h1, hk k h1, k, h1, rfl⟩
  · exact Or.inl (by omega)
  · exact Or.inl (by omega)
  · exact Or.inl (by omega)
/-- the main land has changed, its papers perhaps become more -/
theorem papers_Inv {g : Gc} {k d n y p r r' R : Nat} {A B m m2 : Mm} {pa pa' pb : Nat → Nat} (h : Inv g k m) (C : LC g pa 30 r A m) (TR : TellR g n y A m) (WR : WasR g n y A m) (O : Oth g pb R m) (D : ∀ i j, i < r → j < R → pa i ≠ pb j) (E : Ext m m2) (F2 : Fr g m2) (f : Fs g (XPp g pa r) d m m2) (hd : d ≤ 812) (h8 : ∀ j, j < 8 → mL m2 (gz g + 178) (8 + j) = mL m (gz g + 178) (8 + j)) (C2 : LC g pa' 30 r' B m2) (R2 : LR g 30 r' B m2) (G2 : Good n y p r' B) (e16 : ∀ i, mI B 16 i = mI A 16 i) (hpa : ∀ i, i < r → pa' i = pa i) (hnew : ∀ i, r ≤ i → i < r' → gz g + mC m ≤ pa' i) : Inv g (k + 1) m2 := by
  obtain ⟨S, F⟩ := h.1
  have F1 := F.1
  have kk : ∀ i, i < r → mK m (pa i) = 7 := fun i hi => (C.2.2.1.1 i hi).2.1
  have O2 := O.keepG F f (fun a j ha z => by
    rcases XPp_ok (m := m) C.2.1 kk z with q | q
    · omega
    · omega) h8
  refine h.land E F2 f hd ⟨n, y, p, r', B, pa', pb, R, ⟨C2, R2, (TR.congr (funext e16)).keep F f (fun a j ha z => ?_), WR.keep F f (fun _ _ _ _ => e16 _) (fun a j ha z => ?_), G2⟩, O2, fun i j hi hj => ?_⟩ (fun a j ha z => ?_)
  · rcases XPp_ok (m := m) C.2.1 kk z with q | q
    · omega
    · omega
  · rcases XPp_ok (m := m) C.2.1 kk z with q | q
    · omega
    · omega
  · by_cases hir : i < r
    · rw [hpa i hir]; exact D i j hir hj
    · have h1 := hnew i (by omega) hi
      have h2 := (O.2.1.1 j hj).2.2
      omega
  · rcases XPp_ok (m := m) C.2.1 kk z with q | q
    · exact Or.inl (by omega)
    · exact Or.inr ⟨q.1, by rw [q.2.1]; decide, by rw [q.2.1]; decide⟩
theorem fs8 {g : Gc} {P : Nat → Nat → Prop} {d : Nat} {m m2 : Mm} (F : Fr g m) (f : Fs g P d m m2) (hP : ∀ j, ¬ P (gz g + 178) (8 + j)) : ∀ j, j < 8 → mL m2 (gz g + 178) (8 + j) = mL m (gz g + 178) (8 + j) := fun j _ => (f.2.2 _ _ (by have := F.1; omega) (hP j)).2.1
theorem i_give (g : Gc) {k : Nat} {m : Mm} (h : Inv g k m) (a b : Int32) : SimI g M_SL_give M_RF_give 999 [.int a, .int b] m (Inv g (k + 1)) := by
  obtain ⟨n, y, p, r, A, pa, pb, R, ⟨C, RR, TR, WR, G⟩, O, D⟩ := id h.2.2.2.2.2
  obtain ⟨S, F⟩ := h.1
  refine (sim_give g (lv := 996) S F C RR G.1.2.2.2.2.1 G.2.1.1 G.1.2.2.2.1.1 G.1.2.2.2.1.2 G.sk a b).monoE (fun m2 q E => ?_)
  obtain ⟨⟨f, F2⟩, q⟩ := q
  have fs := f.fs
  have nP : ∀ j, ¬ ((fun a j => PRc g pa r WGi a ∨ (a = gz g + 145 ∧ j ∈ [0])) (gz g + 178) (8 + j)) := fun j z => by
    rcases z with (⟨w, hw, e⟩ | ⟨i, hi, e⟩) | z
    · have : w = 175 := by simpa [WGi] using hw
      omega
    · have := C.2.1.2 i hi
      omega
    · omega
  have h8 := fs8 F fs nP
  have fx : Fs g (XPp g pa r) 0 m m2 := fs.weak (fun a j _ z => by
    rcases z with (⟨w, hw, rfl⟩ | z) | ⟨rfl, hj⟩
    · have : w = 175 := by simpa [WGi] using hw
      unfold XPp; omega
    · exact Or.inr (Or.inl z)
    · have : j = 0 := by simpa using hj
      unfold XPp; omega) (Nat.le_refl _)
  rcases q with ⟨c, rr⟩ | ⟨i, j, hi, hj, h12, c, rr⟩
  · exact papers_Inv h C TR WR O D E F2 fx (by omega) h8 c rr G (fun _ => rfl) (fun _ _ => rfl) (fun i h1 h2 => absurd h2 (by omega))
  · exact papers_Inv h C TR WR O D E F2 fx (by omega) h8 c rr (G.give hi hj h12) (fun i => by rw [mI_sI, up2_oth (by omega)]) (fun _ _ => rfl) (fun i h1 h2 => absurd h2 (by omega))
theorem WRd_n : ∀ w, w ∈ WRd → (13 ≤ w ∧ w ≤ 58) ∨ w = 172 ∨ w = 176 ∨ w = 178 := by decide
theorem i_redeem (g : Gc) {k : Nat} {m : Mm} (h : Inv g k m) (a : Int32) : SimI g M_SL_redeem M_RF_redeem 999 [.int a] m (Inv g (k + 1)) := by
  obtain ⟨n, y, p, r, A, pa, pb, R, ⟨C, RR, TR, WR, G⟩, O, D⟩ := id h.2.2.2.2.2
  obtain ⟨S, F⟩ := h.1
  refine (sim_redeem g (lv := 996) S F C RR G.1.2.2.2.2.1 G.2.1.1 G.1.2.2.2.1.1 G.1.2.2.2.1.2 G.sk G.hold a).monoE (fun m2 q E => ?_)
  obtain ⟨⟨f, F2, v8⟩, q⟩ := q
  have fx : Fs g (XPp g pa r) 0 m m2 := f.fs.weak (fun a j _ z => by
    rcases z with (⟨w, hw, rfl⟩ | z) | ⟨rfl, hj⟩
    · have := WRd_n w hw
      unfold XPp; omega
    · exact Or.inr (Or.inl z)
    · have : j = 0 := by simpa using hj
      unfold XPp; omega) (Nat.le_refl _)
  have h8 : ∀ j, j < 8 → mL m2 (gz g + 178) (8 + j) = mL m (gz g + 178) (8 + j) := fun j _ => v8 (8 + j) (by omega)
  rcases q with ⟨c, rr⟩ | ⟨i, j, hi, hj, h9, h12, c, rr⟩
  · exact papers_Inv h C TR WR O D E F2 fx (by omega) h8 c rr G (fun _ => rfl) (fun _ _ => rfl) (fun i h1 h2 => absurd h2 (by omega))
  · refine papers_Inv h C TR WR O D E F2 fx (by omega) h8 c rr (G.redeem hi hj) (fun i => ?_) (fun _ _ => rfl) (fun i h1 h2 => absurd h2 (by omega))
    unfold redeemA
    rw [mI_sL, mI_sI, up2_oth (by omega), mI_sI, up2_oth (by omega)]
theorem PC_x {g : Gc} {pa : Nat → Nat} {r a j : Nat} (z : PC g 2 pa r a j) : XPp g pa r a j := by
  rcases z with z | z
  · exact Or.inl (by omega)
  · exact Or.inr (Or.inl z)
theorem WSp_n : ∀ w, w ∈ WSp → w = 168 ∨ (175 ≤ w ∧ w ≤ 179 ∧ w ≠ 178) := by decide
theorem WPy_n : ∀ w, w ∈ WPy → w = 174 ∨ (179 ≤ w ∧ w ≤ 181) := by decide
theorem WPl_n : ∀ w, w ∈ WPl → w = 174 ∨ (179 ≤ w ∧ w ≤ 181) := by decide
theorem nPC {g : Gc} {pa : Nat → Nat} {r j : Nat} (hp : PaOK g pa r) : ¬ PC g 2 pa r (gz g + 178) (8 + j) := fun z => by
  rcases z with z | ⟨i, hi, e⟩
  · omega
  · have := hp.2 i hi
    omega
theorem i_split (g : Gc) {k : Nat} {m : Mm} (h : Inv g k m) (a b : Int32) : SimI g M_SL_split M_RF_split 999 [.int a, .int b] m (Inv g (k + 1)) := by
  obtain ⟨n, y, p, r, A, pa, pb, R, ⟨C, RR, TR, WR, G⟩, O, D⟩ := id h.2.2.2.2.2
  obtain ⟨S, F⟩ := h.1
  refine (sim_split g (lv := 996) S F C RR G.1.2.2.2.2.1 G.2.1.1 G.1.2.2.2.1.1 G.1.2.2.2.1.2 G.sk a b).monoE (fun m2 q E => ?_)
  obtain ⟨f, F2, q⟩ := q
  have h8 := fs8 F f (fun j z => by
    rcases z with z | ⟨w, hw, e⟩ | z
    · exact nPC C.2.1 z
    · have := WSp_n w hw
      omega
    · omega)
  have fx : Fs g (XPp g pa r) 1 m m2 := f.weak (fun a j _ z => by
    rcases z with z | ⟨w, hw, rfl⟩ | z
    · exact PC_x z
    · have := WSp_n w hw
      unfold XPp; omega
    · unfold XPp; omega) (Nat.le_refl _)
  rcases q with ⟨c, rr⟩ | ⟨pa', i, q, s, hi, hr, hs, hq1, hq2, hs2, h12, hpa, hnew, c, rr⟩
  · exact papers_Inv h C TR WR O D E F2 fx (by omega) h8 c rr G (fun _ => rfl) (fun _ _ => rfl) (fun i h1 h2 => absurd h2 (by omega))
  · refine papers_Inv h C TR WR O D E F2 fx (by omega) h8 c rr (G.split hi hr hs hs2 (by omega)) (fun i => ?_) hpa (fun i h1 h2 => ?_)
    · rw [issM_oth (by omega) (by omega) (by omega), mI_sI, up2_oth (by omega)]
    · obtain rfl : i = r := by omega
      exact hnew
theorem i_pay (g : Gc) {k : Nat} {m : Mm} (h : Inv g k m) (a b : Int32) : SimJ g M_SL_pay M_RF_pay 999 [.int a, .int b] m (Inv g (k + 1)) := by
  obtain ⟨n, y, p, r, A, pa, pb, R, ⟨C, RR, TR, WR, G⟩, O, D⟩ := id h.2.2.2.2.2
  obtain ⟨S, F⟩ := h.1
  refine (sim_pay g (lv := 995) S F C RR G.1.2.2.2.2.1 G.2.1.1 G.1.2.2.2.1.1 G.1.2.2.2.1.2 G.1.1 G.1.2.2.1 a b).monoE (fun m2 q E => ?_)
  obtain ⟨f, F2, q⟩ := q
  have h8 := fs8 F f (fun j z => by
    rcases z with z | ⟨w, hw, e⟩ | z
    · exact nPC C.2.1 z
    · have := WPy_n w hw
      omega
    · omega)
  have fx : Fs g (XPp g pa r) 0 m m2 := f.weak (fun a j _ z => by
    rcases z with z | ⟨w, hw, rfl⟩ | z
    · exact PC_x z
    · have := WPy_n w hw
      unfold XPp; omega
    · unfold XPp; omega) (Nat.le_refl _)
  rcases q with ⟨c, rr⟩ | ⟨i, q, hh, b', hi, hq, hhn, hb, h9, h12, c, rr⟩
  · exact papers_Inv h C TR WR O D E F2 fx (by omega) h8 c rr G (fun _ => rfl) (fun _ _ => rfl) (fun i h1 h2 => absurd h2 (by omega))
  · refine papers_Inv h C TR WR O D E F2 fx (by omega) h8 c rr (G.pay hi hq hhn hb h12) (fun i => ?_) (fun _ _ => rfl) (fun i h1 h2 => absurd h2 (by omega))
    unfold payA
    rw [endsA_I (by omega), payB_I]
theorem i_pledge (g : Gc) {k : Nat} {m : Mm} (h : Inv g k m) (a b c : Int32) : SimJ g M_SL_pledge M_RF_pledge 999 [.int a, .int b, .int c] m (Inv g (k + 1)) := by
  obtain ⟨n, y, p, r, A, pa, pb, R, ⟨C, RR, TR, WR, G⟩, O, D⟩ := id h.2.2.2.2.2
  obtain ⟨S, F⟩ := h.1
  refine (sim_pledge g (lv := 994) S F C RR G.1.2.2.2.2.1 G.2.1.1 G.1.2.2.2.1.1 G.1.2.2.2.1.2 G.1.1 G.sk G.hold G.1.2.2.2.2.2.2 G.2.1.2.2.2 (fun b hb => by
    obtain ⟨q, s, h1, h2, h3, h4⟩ := G.2.2.2.2.1 b hb
    exact ⟨q, h1, h3⟩) a b c).monoE (fun m2 q E => ?_)
  obtain ⟨f, F2, q⟩ := q
  have h8 := fs8 F f (fun j z => by
    rcases z with z | ⟨w, hw, e⟩ | z
    · exact nPC C.2.1 z
    · have := WPl_n w hw
      omega
    · omega)
  have fx : Fs g (XPp g pa r) 1 m m2 := f.weak (fun a j _ z => by
    rcases z with z | ⟨w, hw, rfl⟩ | z
    · exact PC_x z
    · have := WPl_n w hw
      unfold XPp; omega
    · unfold XPp; omega) (Nat.le_refl _)
  rcases q with ⟨c, rr⟩ | ⟨i, q, b', hh, d, v, ⟨w, hw, rfl⟩, hi, hq, hb, hhn, hd1, hd2, h9, hk0, hk1, h2, c, rr⟩
  · exact papers_Inv h C TR WR O D E F2 fx (by omega) h8 c rr G (fun _ => rfl) (fun _ _ => rfl) (fun i h1 h2 => absurd h2 (by omega))
  · refine papers_Inv h C TR WR O D E F2 fx (by omega) h8 c rr (G.pledge (d := d) hw hi hq hb hhn h9 hk0 hk1 h2) (fun i => ?_) (fun _ _ => rfl) (fun i h1 h2 => absurd h2 (by omega))
    unfold pledA
    rw [mI_sL, mI_sL, bearA_I, if_neg (by omega), if_neg (by omega)]
theorem i_go (g : Gc) {k : Nat} {m : Mm} (h : Inv g k m) (a : Int32) : SimI g M_SL_go M_RF_go 999 [.int a] m (Inv g (k + 1)) := by
  obtain ⟨n, y, p, r, A, pa, pb, R, L, O, D⟩ := id h.2.2.2.2.2
  obtain ⟨S, F⟩ := h.1
  have F1 := F.1
  refine (sim_go g (lv := 962) S F L h.2.2.1.2.1 h.2.2.2.2.1 a).monoE (fun m2 q E => ?_)
  obtain ⟨⟨F2, f⟩, q⟩ := q
  obtain ⟨C, RR, TR, WR, G⟩ := id L
  rcases q with s | ⟨pa2, r2, p2, A2, L2, hpa, hnew⟩
  · have f0 : Fs g (P0 g) 0 m m2 := s.fs
    have pz : ∀ a j, P0 g a j → a = gz g + 145 ∧ j = 0 := fun a j z => z
    exact h.land E F2 f0 (by omega) (h.2.2.2.2.2.keep F f0 (fun a j _ z => by have := pz a j z; omega)) (fun a j _ z => by have := pz a j z; omega)
  · have kk : ∀ i, i < r → mK m (pa i) = 7 := fun i hi => (C.2.2.1.1 i hi).2.1
    have num : ∀ a j, PGo g pa r y n a j → ((gz g + 2 ≤ a ∧ a < gz g + 65) ∨ (a = gz g + 145 ∧ (j = 0 ∨ (47 ≤ j ∧ j ≤ 64))) ∨ (gz g + 157 ≤ a ∧ a ≤ gz g + 182 ∧ (a = gz g + 169 → j = 0) ∧ (a = gz g + 178 → j < 8))) ∨ (gz g + 184 ≤ a ∧ mK m a = 7) := fun a j z => by
      rcases z with (z | z) | z | z
      · rcases z with z | ⟨i, hi, rfl⟩
        · exact Or.inl (by omega)
        · exact Or.inr ⟨C.2.1.2 i hi, kk i hi⟩
      · unfold PJ at z; exact Or.inl (by omega)
      · have := PGr_rng z; exact Or.inl (by omega)
      · have : a = gz g + 145 ∧ j = 0 := z
        exact Or.inl (by omega)
    refine h.land E F2 f (by omega) ⟨n, y + 1, p2, r2, A2, pa2, pb, R, L2, O.keepF F f (fun a j ha z => ?_), fun i j hi hj => ?_⟩ (fun a j ha z => ?_)
    · rcases num a j z with q | q
      · omega
      · omega
    · by_cases hir : i < r
      · rw [hpa i hir]; exact D i j hir hj
      · have h1 := hnew i (by omega) hi
        have h2 := (O.2.1.1 j hj).2.2
        omega
    · rcases num a j z with q | q
      · exact Or.inl (by omega)
      · exact Or.inr ⟨q.1, by rw [q.2]; decide, by rw [q.2]; decide⟩
def XBy (g : Gc) (a j : Nat) : Prop := PLt g a j ∨ (gz g + 65 ≤ a ∧ a < gz g + 128) ∨ PBw g a j
theorem XBy_1 {g : Gc} {a j : Nat} (z : XBy g a j) : a < gz g + 184 ∧ ¬ (gz g + 2 ≤ a ∧ a < gz g + 65) ∧ a ≠ gz g + 144 ∧ a ≠ gz g + 1 ∧ ¬ (a = gz g + 145 ∧ 5 ≤ j ∧ j ≤ 11) ∧ ¬ (gz g + 141 ≤ a ∧ a ≤ gz g + 143) ∧ ¬ (gz g + 146 ≤ a ∧ a ≤ gz g + 152) ∧ ¬ (gz g + 155 ≤ a ∧ a ≤ gz g + 163) ∧ a ≠ gz g + 139 ∧ a ≠ gz g + 165 ∧ ¬ (gz g + 179 ≤ a ∧ a ≤ gz g + 181) := by
  rcases z with z | z | z
  · unfold PLt at z; omega
  · omega
  · unfold PBw PQ PRs at z; omega
theorem XBy_2 {g : Gc} {a j : Nat} (z : XBy g a j) : ¬ (a = gz g + 145 ∧ (j = 19 ∨ j = 47)) ∧ ¬ (gz g + 166 ≤ a ∧ a ≤ gz g + 169 ∧ j = 0) ∧ ¬ ((a = gz g + 170 ∨ a = gz g + 172 ∨ a = gz g + 173) ∧ j < 12) ∧ ¬ (a = gz g + 171 ∧ j < 36) ∧ ¬ (a = gz g + 174 ∧ j < 15) ∧ ¬ (gz g + 175 ≤ a ∧ a ≤ gz g + 177 ∧ j < 400) ∧ ¬ (a = gz g + 178 ∧ j < 8) ∧ ¬ (a = gz g + 153 ∧ j < 9000) ∧ ¬ (a = gz g + 154 ∧ j < 30) := by
  rcases z with z | z | z
  · unfold PLt at z; omega
  · omega
  · unfold PBw PQ PRs at z; omega
theorem XBy_RI {g : Gc} {d j : Nat} (hd : RdI 0 30 d j) : ¬ XBy g (gz g + 145 + d) j := fun z => by
  obtain ⟨a1, a2, a3, a4, a5, a6, a7, a8, a9, a10, a11⟩ := XBy_1 z
  obtain ⟨b1, b2, b3, b4, b5, b6, b7, b8, b9⟩ := XBy_2 z
  clear z a1 a2 a3 a4 a5 a6 a9 b7 b8 b9
  rcases hd with q | q | q | q | q | q | q | q
  · clear a7 a8 a10 a11 b2 b3 b4 b5 b6; omega
  · clear b1 b2 b3 b4 b5 b6; omega
  · clear b1 b2 b3 b4 b5 b6 a7 a10 a11; omega
  · clear b1 b2 b3 b4 b5 b6 a7 a10 a11; omega
  · clear b1 b3 b4 b5 b6 a7 a8 a10 a11; omega
  · clear b1 b2 b4 b5 b6 a7 a8 a10 a11; omega
  · clear b1 b2 b3 b5 b6 a7 a8 a10 a11; omega
  · clear b1 b2 b3 b4 b5 a7 a8 a10 a11; omega
theorem XBy_RJ {g : Gc} {d j : Nat} (hd : RdJ 0 d j) : ¬ XBy g (gz g + 145 + d) j := fun z => by
  obtain ⟨b1, b2, b3, b4, b5, b6, b7, b8, b9⟩ := XBy_2 z
  clear z b1 b2 b4 b6 b8 b9
  rcases hd with q | q | q
  · clear b5 b7; omega
  · clear b3 b7; omega
  · clear b3 b5; omega
theorem Rd_184 {d j : Nat} (h : RdI 0 30 d j ∨ RdJ 0 d j) : d < 39 := by
  rcases h with (q | q | q | q | q | q | q | q) | (q | q | q) <;> omega
theorem XBy_3 {g : Gc} {a j : Nat} (z : XBy g a j) : a ≠ gz g + 144 ∧ a ≠ gz g + 1 ∧ ¬ (a = gz g + 145 ∧ 5 ≤ j ∧ j ≤ 11) ∧ ¬ (gz g + 141 ≤ a ∧ a ≤ gz g + 143) ∧ ¬ (gz g + 146 ≤ a ∧ a ≤ gz g + 148) := by
  obtain ⟨a1, a2, a3, a4, a5, a6, a7, -⟩ := XBy_1 z
  exact ⟨a3, a4, a5, a6, fun q => a7 ⟨q.1, by omega⟩⟩
theorem i_beside (g : Gc) {k : Nat} {m : Mm} (h : Inv g k m) (a : Int32) : SimJ g M_SL_beside M_RF_beside 999 [.int a] m (Inv g (k + 1)) := by
  obtain ⟨n, y, p, r, A, pa, pb, R, L, O, D⟩ := id h.2.2.2.2.2
  obtain ⟨S, F⟩ := h.1
  have F1 := F.1
  refine (sim_beside g (lv := 962) S F L h.2.2.1.2.1 h.2.2.2.1 O a).monoE (fun m2 q E => ?_)
  obtain ⟨T2, F2, f, pb2, R2, O2, hpb, hRR, hnew⟩ := q
  obtain ⟨C, RR, TR, WR, G⟩ := L
  have kb : ∀ i, i < R → mK m (pb i) = 7 := fun i hi => (O.2.1.1 i hi).2.1
  have num : ∀ a j, PBy g pb R a j → XBy g a j ∨ (gz g + 184 ≤ a ∧ mK m a = 7 ∧ ∃ i, i < R ∧ a = pb i) := fun a j z => by
    rcases z with z | z | z
    · exact Or.inl (Or.inl z)
    · rcases z with (z | ⟨i, hi, rfl⟩) | z
      · exact Or.inl (Or.inr (Or.inl (by omega)))
      · exact Or.inr ⟨O.1.2 i hi, kb i hi, i, hi, rfl⟩
      · exact Or.inl (Or.inr (Or.inl (by unfold PJ at z; omega)))
    · exact Or.inl (Or.inr (Or.inr z))
  have lo : ∀ a j, a < gz g + 184 → PBy g pb R a j → XBy g a j := fun a j ha z => by
    rcases num a j z with q | q
    · exact q
    · omega
  have x : ∀ a j, a < gz g + 184 → ¬ PBy g pb R a j → mI m2 a j = mI m a j ∧ mL m2 a j = mL m a j := fun a j h1 h2 => by
    have := f.2.2 a j (by omega) h2
    exact ⟨this.1, this.2.1⟩
  have C2 : LC g pa 30 r A m2 := C.keepB F f (fun a j ha z => by
    rcases num a j z with q | ⟨q1, q2, i, hi, rfl⟩
    · exact Or.inl ⟨(XBy_1 q).1, (XBy_1 q).2.1⟩
    · exact Or.inr ⟨q1, by rw [q2]; decide, fun k hk e => D k i hk hi e.symm⟩)
  have nn : ∀ a j, a < gz g + 184 → ¬ XBy g a j → mI m2 a j = mI m a j ∧ mL m2 a j = mL m a j := fun a j h1 h2 => x a j h1 (fun z => h2 (lo a j h1 z))
  have n79 : ∀ a j, gz g + 179 ≤ a → a ≤ gz g + 181 → ¬ XBy g a j := fun a j h1 h2 z => (XBy_1 z).2.2.2.2.2.2.2.2.2.2 ⟨h1, h2⟩
  have R2' : LR g 30 r A m2 := RR.off G.1.2.2.2.1.2 (fun d j hd => (nn _ _ (by have := Rd_184 (Or.inl hd); omega) (XBy_RI hd)).1) (fun d j hd => (nn _ _ (by have := Rd_184 (Or.inr hd); omega) (XBy_RJ hd)).2) (fun i _ => ⟨(nn _ _ (by omega) (n79 _ _ (by omega) (by omega))).1, (nn _ _ (by omega) (n79 _ _ (by omega) (by omega))).1, (nn _ _ (by omega) (n79 _ _ (by omega) (by omega))).2⟩)
  obtain ⟨-, -, hb, -, hl, -⟩ := id h
  have W2 : LawsOK g m2 := fun yy hy => (hl yy hy).keep F f (fun a j ha z => by
    rcases num a j z with q | q
    · exact Or.inl (XBy_1 q).1
    · exact Or.inr (by rw [q.2.1]; decide)) (fun z => (XBy_1 (lo _ _ (by omega) z)).2.2.2.2.2.2.2.2.1 rfl) (fun z => (XBy_2 (lo _ _ (by omega) z)).2.2.2.2.2.2.2.2 ⟨rfl, hy⟩) (fun j hj z => (XBy_2 (lo _ _ (by omega) z)).2.2.2.2.2.2.2.1 ⟨rfl, by omega⟩)
  refine h.next E F2 f (by omega) (hb.keep F (S.ext E) f (fun a j ha z => XBy_3 (lo a j ha z))) T2 W2 ⟨n, y, p, r, A, pa, pb2, R2, ⟨C2, R2', TR.keep F f (fun a j ha z e => (XBy_1 (lo a j ha z)).2.2.2.2.2.2.2.1 (by omega)), WR.keep F f (fun _ _ _ _ => rfl) (fun a j ha z => ⟨fun e => (XBy_1 (lo a j ha z)).2.2.2.2.2.2.2.1 (by omega), fun e => (XBy_1 (lo a j ha z)).2.2.2.2.2.2.2.1 (by omega)⟩), G⟩, O2, fun i j hi hj => ?_⟩
  by_cases hjR : j < R
  · rw [hpb j hjR]; exact D i j hi hjR
  · have h1 := hnew j (by omega) hj
    have h2 := (C.2.2.1.1 i hi).2.2
    omega
