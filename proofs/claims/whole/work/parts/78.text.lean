/-! ===== a text and its tokens ===== -/
def runE (p : Int32 → Int32) (tx : Nat → Int32) (L : Nat) : Nat → Nat → Nat
  | 0 => fun i => i
  | n + 1 => fun i => if i < L ∧ ¬ p (tx i) = 0 then runE p tx L n (i + 1) else i
theorem runE_s (p : Int32 → Int32) (tx : Nat → Int32) (L n i : Nat) : runE p tx L (n + 1) i = if i < L ∧ ¬ p (tx i) = 0 then runE p tx L n (i + 1) else i := rfl
theorem runE_n (p : Int32 → Int32) (tx : Nat → Int32) (L : Nat) : ∀ n i, L - i ≤ n → runE p tx L (n + 1) i = runE p tx L n i := by
  intro n
  induction n with
  | zero => intro i h; rw [runE_s, if_neg (by omega)]; rfl
  | succ n ih =>
    intro i h
    rw [runE_s, runE_s p tx L n i]
    by_cases hc : i < L ∧ ¬ p (tx i) = 0
    · rw [if_pos hc, if_pos hc]; exact ih (i + 1) (by omega)
    · rw [if_neg hc, if_neg hc]
def rn (p : Int32 → Int32) (tx : Nat → Int32) (L i : Nat) : Nat := runE p tx L 300 i
theorem rn_eq {p : Int32 → Int32} {tx : Nat → Int32} {L : Nat} (hL : L ≤ 300) (i : Nat) : rn p tx L i = if i < L ∧ ¬ p (tx i) = 0 then rn p tx L (i + 1) else i := by
  unfold rn
  rw [← runE_n p tx L 300 i (by omega), runE_s]
theorem rn_go {p : Int32 → Int32} {tx : Nat → Int32} {L i : Nat} (hL : L ≤ 300) (hi : i < L) (h : ¬ p (tx i) = 0) : rn p tx L i = rn p tx L (i + 1) := by rw [rn_eq hL, if_pos ⟨hi, h⟩]
theorem rn_no {p : Int32 → Int32} {tx : Nat → Int32} {L i : Nat} (hL : L ≤ 300) (h : L ≤ i ∨ p (tx i) = 0) : rn p tx L i = i := by
  rw [rn_eq hL, if_neg (fun q => h.elim (fun q2 => by omega) (fun q2 => q.2 q2))]
theorem rn_rng {p : Int32 → Int32} {tx : Nat → Int32} {L : Nat} (hL : L ≤ 300) : ∀ n i, L - i ≤ n → i ≤ L → i ≤ rn p tx L i ∧ rn p tx L i ≤ L := by
  intro n
  induction n with
  | zero => intro i h1 h2; rw [rn_no hL (Or.inl (by omega))]; omega
  | succ n ih =>
    intro i h1 h2
    by_cases hc : i < L ∧ ¬ p (tx i) = 0
    · rw [rn_go hL hc.1 hc.2]
      have := ih (i + 1) (by omega) (by omega)
      omega
    · rw [rn_eq hL, if_neg hc]; omega
theorem rn_le {p : Int32 → Int32} {tx : Nat → Int32} {L i : Nat} (hL : L ≤ 300) (h : i ≤ L) : i ≤ rn p tx L i ∧ rn p tx L i ≤ L := rn_rng hL (L - i) i (Nat.le_refl _) h
theorem rn_all {p : Int32 → Int32} {tx : Nat → Int32} {L : Nat} (hL : L ≤ 300) : ∀ n i k, L - i ≤ n → i ≤ k → k < rn p tx L i → ¬ p (tx k) = 0 := by
  intro n
  induction n with
  | zero => intro i k h1 h2 h3; rw [rn_no hL (Or.inl (by omega))] at h3; omega
  | succ n ih =>
    intro i k h1 h2 h3
    by_cases hc : i < L ∧ ¬ p (tx i) = 0
    · rw [rn_go hL hc.1 hc.2] at h3
      by_cases hk : k = i
      · rw [hk]; exact hc.2
      · exact ih (i + 1) k (by omega) (by omega) h3
    · rw [rn_eq hL, if_neg hc] at h3; omega
def pL (x : Int32) : Int32 := wi x 97 122
def pD (x : Int32) : Int32 := wi x 48 57
def pS (x : Int32) : Int32 := if x = 32 then 1 else if x = 10 then 1 else 0
theorem pLD {x : Int32} (h : ¬ pL x = 0) : pD x = 0 := by
  obtain ⟨q1, q2⟩ := wi_ne h
  rw [pD, wi_eq0]
  refine Or.inr ?_
  rw [Int32.lt_iff_toInt_lt] at q1 ⊢
  have z1 : (97 : Int32).toInt = 97 := rfl
  have z2 : (57 : Int32).toInt = 57 := rfl
  omega
theorem pSp {x : Int32} (h : x = 32 ∨ x = 10) : pL x = 0 ∧ pD x = 0 ∧ ¬ pS x = 0 := by
  rcases h with rfl | rfl <;> decide
def stp (tx : Nat → Int32) (L i : Nat) : Nat := if ¬ pL (tx i) = 0 then rn pL tx L (i + 1) else if ¬ pD (tx i) = 0 then rn pD tx L (i + 1) else i + 1
def skp (tx : Nat → Int32) (L i : Nat) : Nat := rn pS tx L i
theorem stp_rng {tx : Nat → Int32} {L i : Nat} (hL : L ≤ 300) (hi : i < L) : i + 1 ≤ stp tx L i ∧ stp tx L i ≤ L := by
  unfold stp
  split
  · exact rn_le hL hi
  · split
    · exact rn_le hL hi
    · omega
def sTk (tx : Nat → Int32) (L : Nat) : Nat → Nat
  | 0 => skp tx L 0
  | k + 1 => skp tx L (stp tx L (sTk tx L k))
theorem sTk_s (tx : Nat → Int32) (L k : Nat) : sTk tx L (k + 1) = skp tx L (stp tx L (sTk tx L k)) := rfl
def numV (tx : Nat → Int32) (s : Nat) : Nat → Int32
  | 0 => 0
  | k + 1 => imn 1000000 (((numV tx s k * 10) + tx (s + k)) - 48)
theorem numV_s (tx : Nat → Int32) (s k : Nat) : numV tx s (k + 1) = imn 1000000 (((numV tx s k * 10) + tx (s + k)) - 48) := rfl
def spl (tx : Nat → Int32) (s e w : Nat) : Int32 := if e - s = stLen.getD w 0 ∧ ∀ j, j < stLen.getD w 0 → tx (s + j) = (stByt.getD w []).getD j 0 then 1 else 0
theorem spl_1 {tx : Nat → Int32} {s e w : Nat} (h1 : e - s = stLen.getD w 0) (h2 : ∀ j, j < stLen.getD w 0 → tx (s + j) = (stByt.getD w []).getD j 0) : spl tx s e w = 1 := if_pos ⟨h1, h2⟩
theorem spl_0 {tx : Nat → Int32} {s e w : Nat} (h : ¬ (e - s = stLen.getD w 0 ∧ ∀ j, j < stLen.getD w 0 → tx (s + j) = (stByt.getD w []).getD j 0)) : spl tx s e w = 0 := if_neg h
theorem spl_ne {tx : Nat → Int32} {s e w : Nat} (h : ¬ spl tx s e w = 0) : e - s = stLen.getD w 0 ∧ ∀ j, j < stLen.getD w 0 → tx (s + j) = (stByt.getD w []).getD j 0 := by
  by_cases q : e - s = stLen.getD w 0 ∧ ∀ j, j < stLen.getD w 0 → tx (s + j) = (stByt.getD w []).getD j 0
  · exact q
  · exact absurd (spl_0 q) h
theorem wd_uniq : ∀ w, w < 13 → ∀ v, v < 13 → stLen.getD w 0 = stLen.getD v 0 → (∀ j, j < stLen.getD w 0 → (stByt.getD w []).getD j 0 = (stByt.getD v []).getD j 0) → w = v := by decide +kernel
theorem spl_uniq {tx : Nat → Int32} {s e w v : Nat} (hw : w < 13) (hv : v < 13) (h1 : ¬ spl tx s e w = 0) (h2 : ¬ spl tx s e v = 0) : w = v := by
  obtain ⟨a1, a2⟩ := spl_ne h1
  obtain ⟨b1, b2⟩ := spl_ne h2
  refine wd_uniq w hw v hv (by omega) (fun j hj => ?_)
  rw [← a2 j hj, ← b2 j (by omega)]
/-- the kind of a word: the first of 13 - n, .. that it spells -/
def wrd (tx : Nat → Int32) (s e : Nat) : Nat → Int32
  | 0 => 1
  | n + 1 => if spl tx s e (12 - n) = 0 then wrd tx s e n else nI (26 - n)
theorem wrd_s (tx : Nat → Int32) (s e n : Nat) : wrd tx s e (n + 1) = if spl tx s e (12 - n) = 0 then wrd tx s e n else nI (26 - n) := rfl
theorem wrd_is {tx : Nat → Int32} {s e w : Nat} (hw : w < 13) (h : ¬ spl tx s e w = 0) : ∀ n, n ≤ 13 → 12 < w + n → wrd tx s e n = nI (14 + w) := by
  intro n
  induction n with
  | zero => intro h1 h2; omega
  | succ n ih =>
    intro h1 h2
    rw [wrd_s]
    by_cases hs : spl tx s e (12 - n) = 0
    · rw [if_pos hs]
      by_cases hwn : w = 12 - n
      · rw [hwn] at h; exact absurd hs h
      · exact ih (by omega) (by omega)
    · rw [if_neg hs]
      have := spl_uniq (by omega) hw hs h
      rw [← this, show 26 - n = 14 + (12 - n) by omega]
theorem wrd_of {tx : Nat → Int32} {s e w : Nat} (hw : w < 13) : ∀ n, n ≤ 13 → wrd tx s e n = nI (14 + w) → ¬ spl tx s e w = 0 := by
  intro n
  induction n with
  | zero => intro h1 h2; exact absurd ((nI_eq (a := 1) (b := 14 + w) (by omega) (by omega)).mp h2) (by omega)
  | succ n ih =>
    intro h1 h2
    rw [wrd_s] at h2
    by_cases hs : spl tx s e (12 - n) = 0
    · rw [if_pos hs] at h2; exact ih (by omega) h2
    · rw [if_neg hs] at h2
      have := (nI_eq (a := 26 - n) (b := 14 + w) (by omega) (by omega)).mp h2
      rw [show w = 12 - n by omega]
      exact hs
theorem wrd_rng (tx : Nat → Int32) (s e : Nat) : ∀ n, n ≤ 13 → wrd tx s e n = 1 ∨ ∃ w, w < 13 ∧ wrd tx s e n = nI (14 + w) := by
  intro n
  induction n with
  | zero => intro h; exact Or.inl rfl
  | succ n ih =>
    intro h
    rw [wrd_s]
    by_cases hs : spl tx s e (12 - n) = 0
    · rw [if_pos hs]; exact ih (by omega)
    · rw [if_neg hs]; exact Or.inr ⟨12 - n, by omega, by rw [show 26 - n = 14 + (12 - n) by omega]⟩
def sgn (x : Int32) : Int32 := if x = 40 then 8 else if x = 41 then 9 else if x = 42 then 6 else if x = 43 then 4 else if x = 45 then 5 else if x = 47 then 7 else if x = 59 then 13 else if x = 60 then 10 else if x = 61 then 12 else if x = 62 then 11 else 1
def kdP (tx : Nat → Int32) (s e : Nat) : Int32 := if ¬ pL (tx s) = 0 then wrd tx s e 13 else if ¬ pD (tx s) = 0 then (if numV tx s (e - s) ≤ 999999 then 3 else 1) else sgn (tx s)
def kdT (tx : Nat → Int32) (L k : Nat) : Int32 := if sTk tx L k < L then kdP tx (sTk tx L k) (stp tx L (sTk tx L k)) else 2
def vlT (tx : Nat → Int32) (L k : Nat) : Int32 := numV tx (sTk tx L k) (stp tx L (sTk tx L k) - sTk tx L k)
def plT (tx : Nat → Int32) (L k : Nat) : Int32 := nI (sTk tx L k)
def TxT (tx : Nat → Int32) (L T : Nat) : Prop := 1 ≤ T ∧ T ≤ L + 1 ∧ sTk tx L (T - 1) = L ∧ ∀ k, k + 1 < T → sTk tx L k < L
theorem TxT.toks {tx : Nat → Int32} {L T : Nat} (h : TxT tx L T) (hL : L ≤ 300) : Toks T (kdT tx L) := ⟨h.1, by have := h.2.1; omega, by unfold kdT; rw [h.2.2.1, if_neg (by omega)]⟩
theorem TxT.le {tx : Nat → Int32} {L T k : Nat} (h : TxT tx L T) (hk : k < T) : sTk tx L k ≤ L := by
  rcases Nat.lt_or_ge (k + 1) T with q | q
  · exact Nat.le_of_lt (h.2.2.2 k q)
  · rw [show k = T - 1 by omega, h.2.2.1]; exact Nat.le_refl _
theorem TxT.last {tx : Nat → Int32} {L T k : Nat} (h : TxT tx L T) (hk : k < T) (hs : sTk tx L k = L) : k + 1 = T := by
  rcases Nat.lt_or_ge (k + 1) T with q | q
  · have := h.2.2.2 k q; omega
  · omega
theorem txT_n {tx : Nat → Int32} {L : Nat} (hL : L ≤ 300) : ∀ n k, (∀ j, j < k → sTk tx L j < L) → k ≤ sTk tx L k → sTk tx L k ≤ L → L - sTk tx L k ≤ n → ∃ T, TxT tx L T := by
  intro n
  induction n with
  | zero => intro k h1 h2 h3 h4; exact ⟨k + 1, by omega, by omega, by show sTk tx L k = L; omega, fun j hj => h1 j (by omega)⟩
  | succ n ih =>
    intro k h1 h2 h3 h4
    by_cases hk : sTk tx L k = L
    · exact ⟨k + 1, by omega, by omega, hk, fun j hj => h1 j (by omega)⟩
    · have r := stp_rng (tx := tx) hL (show sTk tx L k < L by omega)
      have q := rn_le (p := pS) (tx := tx) hL r.2
      have e : sTk tx L (k + 1) = rn pS tx L (stp tx L (sTk tx L k)) := rfl
      refine ih (k + 1) (fun j hj => ?_) (by omega) (by omega) (by omega)
      by_cases hjk : j = k
      · rw [hjk]; omega
      · exact h1 j (by omega)
theorem txT_ex (tx : Nat → Int32) {L : Nat} (hL : L ≤ 300) : ∃ T, TxT tx L T := by
  have q := rn_le (p := pS) (tx := tx) hL (Nat.zero_le L)
  exact txT_n hL L 0 (fun j hj => by omega) (Nat.zero_le _) q.2 (by omega)
