/-! ===== the cells that the two constructors lay: kinds, lengths, final references (addresses from gz g on) ===== -/
def shL : List (Nat × Nat) := [(12, 0), (11, 0), (4, 0), (19, 12), (18, 3), (9, 0), (21, 400), (3, 0), (16, 6), (16, 32), (17, 8), (15, 30), (15, 30), (16, 8), (2, 0), (15, 30), (15, 30), (17, 30), (2, 0), (15, 30), (15, 30), (17, 30), (2, 0), (15, 30), (15, 30), (17, 30), (2, 0), (15, 30), (15, 30), (17, 30), (2, 0), (15, 30), (15, 30), (17, 30), (2, 0), (15, 30), (15, 30), (17, 30), (2, 0), (15, 30), (15, 30), (17, 30), (2, 0), (15, 30), (15, 30), (17, 30), (2, 0), (15, 30), (15, 30), (17, 30), (2, 0), (15, 30), (15, 30), (17, 30), (2, 0), (15, 30), (15, 30), (17, 30), (2, 0), (15, 30), (15, 30), (17, 30), (1, 0), (1, 0), (1, 0), (4, 0), (19, 12), (18, 3), (9, 0), (21, 400), (3, 0), (16, 6), (16, 32), (17, 8), (15, 30), (15, 30), (16, 8), (2, 0), (15, 30), (15, 30), (17, 30), (2, 0), (15, 30), (15, 30), (17, 30), (2, 0), (15, 30), (15, 30), (17, 30), (2, 0), (15, 30), (15, 30), (17, 30), (2, 0), (15, 30), (15, 30), (17, 30), (2, 0), (15, 30), (15, 30), (17, 30), (2, 0), (15, 30), (15, 30), (17, 30), (2, 0), (15, 30), (15, 30), (17, 30), (2, 0), (15, 30), (15, 30), (17, 30), (2, 0), (15, 30), (15, 30), (17, 30), (2, 0), (15, 30), (15, 30), (17, 30), (2, 0), (15, 30), (15, 30), (17, 30), (1, 0), (1, 0), (1, 0), (10, 0), (14, 300), (15, 301), (15, 301), (15, 301), (5, 0), (15, 12), (15, 12), (15, 12), (15, 12), (15, 300), (20, 30), (8, 0), (16, 240), (15, 4), (15, 4), (16, 1891), (13, 0), (15, 4), (15, 4), (16, 240), (16, 60), (15, 3), (15, 3), (14, 300), (14, 9300), (15, 31), (15, 12), (15, 12), (15, 12), (15, 360), (15, 360), (15, 30), (15, 30), (17, 360), (17, 360), (15, 12), (15, 12), (15, 2), (15, 2), (15, 2), (15, 2), (15, 24), (15, 72), (15, 24), (16, 24), (16, 30), (15, 800), (15, 800), (15, 800), (16, 16), (15, 800), (15, 800), (16, 800), (16, 6), (16, 61)]
def shRL : List (List (Option Nat)) := [[some 1, some 2, some 65, some 128, some 133, some 139, some 140, some 144], [], [some 1, some 3, some 4, some 5, some 7, some 11, some 12, some 13], [some 14, some 18, some 22, some 26, some 30, some 34, some 38, some 42, some 46, some 50, some 54, some 58], [some 62, some 63, some 64], [some 6], [], [some 8, some 9, some 10], [], [], [], [], [], [], [some 15, some 16, some 17], [], [], [], [some 19, some 20, some 21], [], [], [], [some 23, some 24, some 25], [], [], [], [some 27, some 28, some 29], [], [], [], [some 31, some 32, some 33], [], [], [], [some 35, some 36, some 37], [], [], [], [some 39, some 40, some 41], [], [], [], [some 43, some 44, some 45], [], [], [], [some 47, some 48, some 49], [], [], [], [some 51, some 52, some 53], [], [], [], [some 55, some 56, some 57], [], [], [], [some 59, some 60, some 61], [], [], [], [], [], [], [some 1, some 66, some 67, some 68, some 70, some 74, some 75, some 76], [some 77, some 81, some 85, some 89, some 93, some 97, some 101, some 105, some 109, some 113, some 117, some 121], [some 125, some 126, some 127], [some 69], [], [some 71, some 72, some 73], [], [], [], [], [], [], [some 78, some 79, some 80], [], [], [], [some 82, some 83, some 84], [], [], [], [some 86, some 87, some 88], [], [], [], [some 90, some 91, some 92], [], [], [], [some 94, some 95, some 96], [], [], [], [some 98, some 99, some 100], [], [], [], [some 102, some 103, some 104], [], [], [], [some 106, some 107, some 108], [], [], [], [some 110, some 111, some 112], [], [], [], [some 114, some 115, some 116], [], [], [], [some 118, some 119, some 120], [], [], [], [some 122, some 123, some 124], [], [], [], [], [], [], [some 129, some 130, some 131, some 132], [], [], [], [], [some 134, some 135, some 136, some 137, some 138], [], [], [], [], [], [], [some 141, some 142, some 143], [], [], [], [], [none, some 146, some 147, some 148, some 149, none, none, none, none, none, none, none, some 150, some 151, some 152, none, none, some 153, some 154, none, some 155, some 156, some 157, some 158, some 159, some 160, some 161, some 162, some 163, some 164, some 165, some 166, some 167, some 168, some 169, some 170, some 171, some 172, some 173, some 174, some 175, some 176, some 177, some 178, some 179, some 180, some 181, none, none, none, none, none, none, none, none, none, some 182, none, none, none, none, none, none, none, none, some 183], [], [], [], [], [], [], [], [], [], [], [], [], [], [], [], [], [], [], [], [], [], [], [], [], [], [], [], [], [], [], [], [], [], [], [], [], [], []]
def shK (a : Nat) : Nat := (shL.getD a (0, 0)).1
def shN (a : Nat) : Nat := (shL.getD a (0, 0)).2
def shR (a j : Nat) : Option Nat := (shRL.getD a []).getD j none
theorem shK_0 : ∀ a, a < 184 → shK a ≠ 0 := by decide +kernel
theorem shR_fin : ∀ a, a < 184 → ∀ j, j < 66 → shR a j ≠ none → finR (shK a) j = true := by decide +kernel
theorem shR_len : ∀ a, a < 184 → (shRL.getD a []).length ≤ 66 := by decide +kernel
theorem shRL_len : shRL.length = 184 := by decide +kernel
theorem shR_a {a j b : Nat} (h : shR a j = some b) : a < 184 ∧ finR (shK a) j = true := by
  have ha : a < 184 := by
    rcases Nat.lt_or_ge a 184 with h1 | h1
    · exact h1
    · exfalso
      unfold shR at h
      rw [List.getD_eq_getElem?_getD (l := shRL), List.getElem?_eq_none (by rw [shRL_len]; exact h1)] at h
      simp at h
  refine ⟨ha, shR_fin a ha j ?_ (by rw [h]; simp)⟩
  rcases Nat.lt_or_ge j 66 with h1 | h1
  · exact h1
  · exfalso
    have h2 := shR_len a ha
    unfold shR at h
    rw [List.getD_eq_getElem?_getD (l := shRL.getD a []), List.getElem?_eq_none (by omega)] at h
    simp at h
/-- the static cells stand -/
def Sg (g : Gc) (m : Mm) : Prop := (∀ a, a < 184 → mK m (gz g + a) = shK a ∧ mN m (gz g + a) = shN a) ∧ ∀ a j b, shR a j = some b → mR m (gz g + a) j = some (gz g + b)
theorem Sg.ext {g : Gc} {m m' : Mm} (h : Sg g m) (hE : Ext m m') : Sg g m' := by
  refine ⟨fun a ha => ?_, fun a j b hr => ?_⟩
  · obtain ⟨h1, h2⟩ := h.1 a ha
    exact ⟨hE.k h1 (shK_0 a ha), hE.n h1 (shK_0 a ha) h2⟩
  · obtain ⟨ha, hf⟩ := shR_a hr
    exact hE.r (h.1 a ha).1 (shK_0 a ha) hf (h.2 a j b hr)
theorem Sg.k {g : Gc} {m : Mm} (h : Sg g m) (a : Nat) {k : Nat} (hk : shK a = k) (ha : a < 184 := by decide) : mK m (gz g + a) = k := (h.1 a ha).1.trans hk
theorem Sg.n {g : Gc} {m : Mm} (h : Sg g m) (a : Nat) {n : Nat} (hn : shN a = n) (ha : a < 184 := by decide) : mN m (gz g + a) = n := (h.1 a ha).2.trans hn
theorem Sg.r {g : Gc} {m : Mm} (h : Sg g m) (a j : Nat) {b : Nat} (hb : shR a j = some b) : mR m (gz g + a) j = some (gz g + b) := h.2 a j b hb
