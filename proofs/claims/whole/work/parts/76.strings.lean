/-! ===== the words of a law: String.length, String.charAt ===== -/
theorem sw_544 : Cond.methodLink "java/lang/String" 335 ⟨"java/lang/String", "coder", "()B"⟩ ∈ tG := tG_of (inT3 (List.mem_of_getElem? (i := 0) rfl)) rfl
theorem sw_545 : Cond.instanceMethod ⟨"java/lang/String", "coder", "()B"⟩ ∈ tG := tG_of (inT3 (List.mem_of_getElem? (i := 1) rfl)) rfl
theorem sw_546 : Cond.selects "java/lang/String" ⟨"java/lang/String", "coder", "()B"⟩ ⟨"java/lang/String", "coder", "()B"⟩ ∈ tG := tG_of (inT3 (List.mem_of_getElem? (i := 2) rfl)) rfl
theorem sw_547 : Cond.code ⟨"java/lang/String", "coder", "()B"⟩ prog_16_method_152_code 1 (some .byte) ∈ tG := tG_of (inT3 (List.mem_of_getElem? (i := 3) rfl)) rfl
theorem sw_548 : Cond.fieldLink "java/lang/String" 38 "java/lang/String" "COMPACT_STRINGS" "Z" ∈ tG := tG_of (inT3 (List.mem_of_getElem? (i := 4) rfl)) rfl
theorem sw_554 : Cond.methodLink "java/lang/String" 492 ⟨"java/lang/String", "isLatin1", "()Z"⟩ ∈ tG := tG_of (inT3 (List.mem_of_getElem? (i := 10) rfl)) rfl
theorem sw_555 : Cond.instanceMethod ⟨"java/lang/String", "isLatin1", "()Z"⟩ ∈ tG := tG_of (inT3 (List.mem_of_getElem? (i := 11) rfl)) rfl
theorem sw_556 : Cond.selects "java/lang/String" ⟨"java/lang/String", "isLatin1", "()Z"⟩ ⟨"java/lang/String", "isLatin1", "()Z"⟩ ∈ tG := tG_of (inT3 (List.mem_of_getElem? (i := 12) rfl)) rfl
theorem sw_557 : Cond.code ⟨"java/lang/String", "isLatin1", "()Z"⟩ prog_16_method_154_code 1 (some .boolean) ∈ tG := tG_of (inT3 (List.mem_of_getElem? (i := 13) rfl)) rfl
theorem sw_558 : Cond.methodLink "java/lang/String" 495 ⟨"java/lang/StringLatin1", "charAt", "([BI)C"⟩ ∈ tG := tG_of (inT3 (List.mem_of_getElem? (i := 14) rfl)) rfl
theorem sw_559 : Cond.static ⟨"java/lang/StringLatin1", "charAt", "([BI)C"⟩ ∈ tG := tG_of (inT3 (List.mem_of_getElem? (i := 15) rfl)) rfl
theorem sw_560 : Cond.code ⟨"java/lang/StringLatin1", "charAt", "([BI)C"⟩ prog_17_method_2_code 2 (some .char) ∈ tG := tG_of (inT3 (List.mem_of_getElem? (i := 16) rfl)) rfl
theorem sw_561 : Cond.methodLink "java/lang/StringLatin1" 9 ⟨"java/lang/String", "checkIndex", "(II)V"⟩ ∈ tG := tG_of (inT3 (List.mem_of_getElem? (i := 17) rfl)) rfl
theorem sw_562 : Cond.static ⟨"java/lang/String", "checkIndex", "(II)V"⟩ ∈ tG := tG_of (inT3 (List.mem_of_getElem? (i := 18) rfl)) rfl
theorem sw_563 : Cond.code ⟨"java/lang/String", "checkIndex", "(II)V"⟩ prog_16_method_155_code 2 none ∈ tG := tG_of (inT3 (List.mem_of_getElem? (i := 19) rfl)) rfl
theorem sw_564 : Cond.fieldLink "java/lang/String" 1053 "jdk/internal/util/Preconditions" "SIOOBE_FORMATTER" "Ljava/util/function/BiFunction;" ∈ tG := tG_of (inT3 (List.mem_of_getElem? (i := 20) rfl)) rfl
theorem sw_566 : Cond.methodLink "java/lang/String" 1059 ⟨"jdk/internal/util/Preconditions", "checkIndex", "(IILjava/util/function/BiFunction;)I"⟩ ∈ tG := tG_of (inT3 (List.mem_of_getElem? (i := 22) rfl)) rfl
theorem sw_567 : Cond.static ⟨"jdk/internal/util/Preconditions", "checkIndex", "(IILjava/util/function/BiFunction;)I"⟩ ∈ tG := tG_of (inT3 (List.mem_of_getElem? (i := 23) rfl)) rfl
theorem sw_568 : Cond.code ⟨"jdk/internal/util/Preconditions", "checkIndex", "(IILjava/util/function/BiFunction;)I"⟩ prog_21_method_11_code 3 (some .int) ∈ tG := tG_of (inT3 (List.mem_of_getElem? (i := 24) rfl)) rfl
theorem sw_79 : Cond.initialized "java/lang/StringLatin1" ∈ tG := tG_of (inT1 (List.mem_of_getElem? (i := 15) rfl)) rfl
theorem sw_80 : Cond.initialized "jdk/internal/util/Preconditions" ∈ tG := tG_of (inT1 (List.mem_of_getElem? (i := 16) rfl)) rfl
theorem sw_1587 : Cond.fieldLink "java/lang/String" 9 "java/lang/String" "value" "[B" ∈ tG := tG_of (inT7 (List.mem_of_getElem? (i := 83) rfl)) rfl
theorem sw_1588 : Cond.fieldLink "java/lang/String" 15 "java/lang/String" "coder" "B" ∈ tG := tG_of (inT7 (List.mem_of_getElem? (i := 84) rfl)) rfl
def M_String_coder : Md := (⟨"java/lang/String", "coder", "()B"⟩, prog_16_method_152_code, 1, some .byte)
theorem mb_String_coder : MB M_String_coder 0 := ⟨sw_547, tw_78, by decide +kernel, by decide +kernel, by decide +kernel⟩
def M_String_isLatin1 : Md := (⟨"java/lang/String", "isLatin1", "()Z"⟩, prog_16_method_154_code, 1, some .boolean)
theorem mb_String_isLatin1 : MB M_String_isLatin1 0 := ⟨sw_557, tw_78, by decide +kernel, by decide +kernel, by decide +kernel⟩
def M_Latin1_charAt : Md := (⟨"java/lang/StringLatin1", "charAt", "([BI)C"⟩, prog_17_method_2_code, 2, some .char)
theorem mb_Latin1_charAt : MB M_Latin1_charAt 2 := ⟨sw_560, sw_79, by decide +kernel, by decide +kernel, by decide +kernel⟩
def M_String_checkIndex : Md := (⟨"java/lang/String", "checkIndex", "(II)V"⟩, prog_16_method_155_code, 2, none)
theorem mb_String_checkIndex : MB M_String_checkIndex 2 := ⟨sw_563, tw_78, by decide +kernel, by decide +kernel, by decide +kernel⟩
def M_Pre_checkIndex : Md := (⟨"jdk/internal/util/Preconditions", "checkIndex", "(IILjava/util/function/BiFunction;)I"⟩, prog_21_method_11_code, 3, some .int)
theorem mb_Pre_checkIndex : MB M_Pre_checkIndex 3 := ⟨sw_568, sw_80, by decide +kernel, by decide +kernel, by decide +kernel⟩
theorem at_nret {g : Gc} {M : Md} {lv pc : Nat} {lc : List (Nat × Value)} {m : Mm} {x : Int32} {ty : FieldType} {Q : Int32 → Mm → Prop} (hM : M.2.2.2 = some ty) (hn : narrow ty (.int x) = .int x) (d : decode M.2.1 pc = .ok (.ireturn, 1)) (k : Q x m) : At g M lv pc lc [.int x] m (QI Q) := by
  refine ⟨some (.int x), m, ⟨_, rfl, k⟩, Nat.le_refl _, ⟨Nat.le_refl _, Ext.refl m⟩, fun p e s mid args below meth c R c0 s0 H locs ls ha hr hc hs hw hS hl hz => ?_⟩
  obtain ⟨hx, hb, hr, -, -, hlk, -, -⟩ := ha
  have hret : meth.sig.returnType = _ := hr.trans hM
  exact W.zret hx hb hret hn (fun t ht _ => ⟨rfl, by rw [ht]; exact hw, hS.F ht⟩) hS.2.2 d hlk
theorem at_i2c {g : Gc} {M : Md} {lv pc : Nat} {lc : List (Nat × Value)} {st : List Value} {m : Mm} {Q : Option Value → Mm → Prop} {x : Int32} (pc' : Nat) (hp : pc + 1 = pc') (d : decode M.2.1 pc = .ok (.i2c, 1)) (k : At g M lv pc' lc (.int (x.toUInt32 % 65536).toInt32 :: st) m Q) : At g M lv pc lc (.int x :: st) m Q := by
  subst hp
  exact At.lift (fun _ _ _ _ _ _ _ _ _ _ _ _ _ _ _ ls hx hb hl kk => lv_i2c hx hb d rfl kk) k
/-- a static whose value doesn't matter -/
theorem at_getSF {g : Gc} {M : Md} {lv pc : Nat} {lc : List (Nat × Value)} {st : List Value} {m : Mm} {Q : Option Value → Mm → Prop} {r0 : Option Value} {m0 : Mm} {index : Nat} (pc' : Nat) (hp : pc + 3 = pc') (d : decode M.2.1 pc = .ok (.getstatic index, 3)) (hl : Cond.fieldLink M.1.cls index "jdk/internal/util/Preconditions" "SIOOBE_FORMATTER" "Ljava/util/function/BiFunction;" ∈ tG) (hQ : Q r0 m0) (k : ∀ v : Option Nat, At g M lv pc' lc (va_rf v :: st) m (fun r m' => r = r0 ∧ m' = m0)) : At g M lv pc lc st m Q := by
  subst hp
  have k0 := k none
  obtain ⟨r, m', ⟨q1, q2⟩, h1, h2, -⟩ := k0
  subst q1; subst q2
  refine ⟨r, m', hQ, h1, h2, fun p e s mid args below meth c R c0 s0 H locs ls ha hr hc hs hw hS hlv hz => ?_⟩
  have hE := ha.2.2.2.2.2.2.2
  rcases hE.2.2.2.2.2.2.1.2 with hZ | ⟨t, hZ⟩
  · obtain ⟨r', m'', ⟨q1, q2⟩, -, -, kk⟩ := k none
    subst q1; subst q2
    exact va_gets ha.1 ha.2.1 hZ hS ha.2.2.2.2.1 (hE.1 _ hl args) (fun _ h => h) d (kk p e s mid args below meth c R c0 s0 H locs ls ha hr hc hs hw hS hlv hz)
  · obtain ⟨r', m'', ⟨q1, q2⟩, -, -, kk⟩ := k (some t)
    subst q1; subst q2
    exact va_gets ha.1 ha.2.1 hZ hS ha.2.2.2.2.1 (hE.1 _ hl args) (fun _ h => h) d (kk p e s mid args below meth c R c0 s0 H locs ls ha hr hc hs hw hS hlv hz)
theorem c_coder (g : Gc) {lv i : Nat} (hi : i < 13) {m : Mm} {Q : Int32 → Mm → Prop} (hQ : Q 0 m) : CI g M_String_coder (lv + 1) [va_rf (some (gK g i))] m Q := by
  refine Call.of (by decide +kernel) (Nat.le_of_ble_eq_true rfl) ?_
  show At g M_String_coder (lv + 1) 0 [(0, va_rf (some (gK g i)))] [] m (QI Q)
  refine at_getCS (index := 38) 3 rfl (by decide +kernel) sw_548 ?_
  refine at_if_eq (off := 10) 13 6 rfl (by decide +kernel) (by decide +kernel) (fun h => absurd h (by decide)) (fun _ => ?_)
  refine at_aload_n (i := 0) 0 7 rfl (by decide +kernel) rfl ?_
  refine at_getSC (index := 15) hi 10 rfl (by decide +kernel) sw_1588 ?_
  refine at_goto (off := 4) 14 (by decide +kernel) (by decide +kernel) ?_
  exact at_nret rfl rfl (by decide +kernel) hQ
theorem c_isLatin1 (g : Gc) {lv i : Nat} (hi : i < 13) {m : Mm} {Q : Int32 → Mm → Prop} (hQ : Q 1 m) : CI g M_String_isLatin1 (lv + 1) [va_rf (some (gK g i))] m Q := by
  refine Call.of (by decide +kernel) (Nat.le_of_ble_eq_true rfl) ?_
  show At g M_String_isLatin1 (lv + 1) 0 [(0, va_rf (some (gK g i)))] [] m (QI Q)
  refine at_getCS (index := 38) 3 rfl (by decide +kernel) sw_548 ?_
  refine at_if_eq (off := 14) 17 6 rfl (by decide +kernel) (by decide +kernel) (fun h => absurd h (by decide)) (fun _ => ?_)
  refine at_aload_n (i := 0) 0 7 rfl (by decide +kernel) rfl ?_
  refine at_getSC (index := 15) hi 10 rfl (by decide +kernel) sw_1588 ?_
  refine at_if_ne (off := 7) 17 13 rfl (by decide +kernel) (by decide +kernel) (fun h => absurd rfl h) (fun _ => ?_)
  refine at_iconst (n := 1) (1 : Int32) 14 rfl (by decide +kernel) (by decide +kernel) ?_
  refine at_goto (off := 4) 18 (by decide +kernel) (by decide +kernel) ?_
  exact at_zret rfl (by decide +kernel) (Or.inr rfl) hQ
theorem c_strlen (g : Gc) {lv i : Nat} (hi : i < 13) {m : Mm} {Q : Int32 → Mm → Prop} (hQ : Q (nI (stLen.getD i 0)) m) : CI g M_String_length (lv + 2) [va_rf (some (gK g i))] m Q := by
  refine Call.of (by decide +kernel) (Nat.le_of_ble_eq_true rfl) ?_
  show At g M_String_length (lv + 1 + 1) 0 [(0, va_rf (some (gK g i)))] [] m (QI Q)
  refine at_aload_n (i := 0) 0 1 rfl (by decide +kernel) rfl ?_
  refine at_getSV (index := 9) hi 4 rfl (by decide +kernel) sw_1587 ?_
  refine at_alenS hi 5 rfl (by decide +kernel) ?_
  refine at_aload_n (i := 0) 0 6 rfl (by decide +kernel) rfl ?_
  refine at_callVS mb_String_coder rfl sw_545 sw_546 hi (index := 335) sw_544 [] [.int (nI (stLen.getD i 0))] rfl rfl (by simp [va_rf_cat, cat_int, cat_long]) 9 rfl (by decide +kernel) (Call.toI (CI.monoE (c_coder g hi (Q := fun x mm => x = 0 ∧ mm = m) ⟨rfl, rfl⟩) (fun x m1 h y => ?_)))
  obtain ⟨rfl, rfl⟩ := h
  refine at_ishr 10 rfl (by decide +kernel) ?_
  refine at_iret rfl (by decide +kernel) ?_
  rw [show (0 : Int32) &&& 31 = 0 from rfl, Int32.shiftRight_zero]
  exact hQ
theorem c_preCheck (g : Gc) {lv : Nat} {i n : Int32} {v : Option Nat} (h0 : ¬ i < 0) (h1 : i < n) {m : Mm} {Q : Int32 → Mm → Prop} (hQ : Q i m) : CI g M_Pre_checkIndex (lv + 1) [.int i, .int n, va_rf v] m Q := by
  refine Call.of (by decide +kernel) (by show (lg_sl [.int i, .int n, va_rf v]).length ≤ 3; cases v <;> exact Nat.le_of_ble_eq_true rfl) ?_
  show At g M_Pre_checkIndex (lv + 1) 0 [(0, .int i), (1, .int n), (2, va_rf v)] [] m (QI Q)
  refine at_iload_n (i := 0) 0 1 rfl (by decide +kernel) rfl ?_
  refine at_if_lt (off := 8) 9 4 rfl (by decide +kernel) (by decide +kernel) (fun h => absurd h h0) (fun _ => ?_)
  refine at_iload_n (i := 0) 0 5 rfl (by decide +kernel) rfl ?_
  refine at_iload_n (i := 1) 1 6 rfl (by decide +kernel) rfl ?_
  refine at_icmp_lt (off := 10) 16 9 rfl (by decide +kernel) (by decide +kernel) (fun _ => ?_) (fun h => absurd h1 h)
  refine at_iload_n (i := 0) 0 17 rfl (by decide +kernel) rfl ?_
  exact at_iret rfl (by decide +kernel) hQ
theorem c_strCheck (g : Gc) {lv : Nat} {i n : Int32} (h0 : ¬ i < 0) (h1 : i < n) {m : Mm} {Q : Mm → Prop} (hQ : Q m) : CV g M_String_checkIndex (lv + 2) [.int i, .int n] m Q := by
  refine Call.of (by decide +kernel) (Nat.le_of_ble_eq_true rfl) ?_
  show At g M_String_checkIndex (lv + 1 + 1) 0 [(0, .int i), (1, .int n)] [] m (QV Q)
  refine at_iload_n (i := 0) 0 1 rfl (by decide +kernel) rfl ?_
  refine at_iload_n (i := 1) 1 2 rfl (by decide +kernel) rfl ?_
  refine at_getSF (r0 := none) (m0 := m) (index := 1053) 5 rfl (by decide +kernel) sw_564 ⟨rfl, hQ⟩ (fun v => ?_)
  refine at_callS mb_Pre_checkIndex sw_567 (index := 1059) sw_566 [.int i, .int n, va_rf v] [] rfl rfl (by decide) 8 rfl (by decide +kernel) (Call.toI (CI.monoE (c_preCheck g h0 h1 (Q := fun x mm => x = i ∧ mm = m) ⟨rfl, rfl⟩) (fun x m1 h y => ?_)))
  obtain ⟨rfl, rfl⟩ := h
  refine at_pop 9 rfl (by decide +kernel) rfl ?_
  exact at_vret (Q := fun m' => m' = m1) rfl (by decide +kernel) rfl
theorem by_char : ∀ i, i < 13 → ∀ j, j < stLen.getD i 0 → ((((stByt.getD i []).getD j 0) &&& 255).toUInt32 % 65536).toInt32 = (stByt.getD i []).getD j 0 ∧ narrow .char (.int ((stByt.getD i []).getD j 0)) = .int ((stByt.getD i []).getD j 0) ∧ ¬ nI j < 0 ∧ nI j < nI (stLen.getD i 0) := by decide +kernel
theorem c_latChar (g : Gc) {lv i j : Nat} (hi : i < 13) (hj : j < stLen.getD i 0) {m : Mm} {Q : Int32 → Mm → Prop} (hQ : Q ((stByt.getD i []).getD j 0) m) : CI g M_Latin1_charAt (lv + 3) [va_rf (some (gV g i)), .int (nI j)] m Q := by
  obtain ⟨b1, b2, b3, b4⟩ := by_char i hi j hj
  have hlen : stLen.getD i 0 < 10 := by
    have : ∀ k, k < 13 → stLen.getD k 0 < 10 := by decide
    exact this i hi
  refine Call.of (by decide +kernel) (Nat.le_of_ble_eq_true rfl) ?_
  show At g M_Latin1_charAt (lv + 2 + 1) 0 [(0, va_rf (some (gV g i))), (1, .int (nI j))] [] m (QI Q)
  refine at_iload_n (i := 1) 1 1 rfl (by decide +kernel) rfl ?_
  refine at_aload_n (i := 0) 0 2 rfl (by decide +kernel) rfl ?_
  refine at_alenS hi 3 rfl (by decide +kernel) ?_
  refine at_callS mb_String_checkIndex sw_562 (index := 9) sw_561 [.int (nI j), .int (nI (stLen.getD i 0))] [] rfl rfl (by decide) 6 rfl (by decide +kernel) (Call.toV (CV.monoE (c_strCheck g b3 b4 (Q := fun mm => mm = m) rfl) (fun m1 h y => ?_)))
  subst h
  refine at_aload_n (i := 0) 0 7 rfl (by decide +kernel) rfl ?_
  refine at_iload_n (i := 1) 1 8 rfl (by decide +kernel) rfl ?_
  refine at_baldS hi 9 rfl (by decide +kernel) (vp_in_nI hj (by omega)) ?_
  rw [nI_clamp (show j < 2 ^ 31 by omega)]
  refine at_sipush (n := 255) (255 : Int32) 12 rfl (by decide +kernel) (by decide +kernel) ?_
  refine at_iand 13 rfl (by decide +kernel) ?_
  refine at_i2c 14 rfl (by decide +kernel) ?_
  rw [b1]
  exact at_nret rfl b2 (by decide +kernel) hQ
theorem c_charAt (g : Gc) {lv i j : Nat} (hi : i < 13) (hj : j < stLen.getD i 0) {m : Mm} {Q : Int32 → Mm → Prop} (hQ : Q ((stByt.getD i []).getD j 0) m) : CI g M_String_charAt (lv + 4) [va_rf (some (gK g i)), .int (nI j)] m Q := by
  obtain ⟨-, b2, -, -⟩ := by_char i hi j hj
  refine Call.of (by decide +kernel) (Nat.le_of_ble_eq_true rfl) ?_
  show At g M_String_charAt (lv + 3 + 1) 0 [(0, va_rf (some (gK g i))), (1, .int (nI j))] [] m (QI Q)
  refine at_aload_n (i := 0) 0 1 rfl (by decide +kernel) rfl ?_
  refine at_callVS mb_String_isLatin1 rfl sw_555 sw_556 hi (index := 492) sw_554 [] [] rfl rfl (by decide) 4 rfl (by decide +kernel) (Call.toI (CI.monoE (c_isLatin1 g (lv := lv + 2) hi (Q := fun x mm => x = 1 ∧ mm = m) ⟨rfl, rfl⟩) (fun x m1 h y => ?_)))
  obtain ⟨rfl, rfl⟩ := h
  refine at_if_eq (off := 12) 16 7 rfl (by decide +kernel) (by decide +kernel) (fun h => absurd h (by decide)) (fun _ => ?_)
  refine at_aload_n (i := 0) 0 8 rfl (by decide +kernel) rfl ?_
  refine at_getSV (index := 9) hi 11 rfl (by decide +kernel) sw_1587 ?_
  refine at_iload_n (i := 1) 1 12 rfl (by decide +kernel) rfl ?_
  refine at_callS mb_Latin1_charAt sw_559 (index := 495) sw_558 [va_rf (some (gV g i)), .int (nI j)] [] rfl rfl (by decide) 15 rfl (by decide +kernel) (Call.toI (CI.monoE (c_latChar g (lv := lv) hi hj (Q := fun x mm => x = (stByt.getD i []).getD j 0 ∧ mm = m1) ⟨rfl, rfl⟩) (fun x m2 h y => ?_)))
  obtain ⟨rfl, rfl⟩ := h
  exact at_nret rfl b2 (by decide +kernel) hQ
