/-! THE TEXTS: length() and charAt() of the literals -/
/-- what a method's walk comes to -/
abbrev ZQ (K : KT) (X : XT) (Q : Option Value → Nat → Rho → Mem → Prop) : State → Prop := MQ K.below (QcM X Q) K.args K.s 0 0 (AX X)
theorem at_name {α β : Type} {a : α} {f : α → Option β} {P : β → Prop} {B : α → Prop} (h : wpo (Option.bind (some a) f) P) (kont : ∀ x, wpo (f x) P → B x) : B a := kont a h
section TRULES
variable {K : KT} {X : XT} {Z : State → Prop} {cs ss n nL pc o : Nat} {ρ : Rho} {lv : List (Nat × Value)} {rest : List Value} {D : Mem} {cc : ByteArray} {rtn : Option FieldType} {rm : Room} {Q : Option Value → Nat → Rho → Mem → Prop}
theorem r_nret {ty : FieldType} (F : Fx K X o cc nL (some ty) rm) {x : Int} (hx : narrow ty (vI x) = vI x) (hq : Q (some (vI x)) n ρ D) (d : decode cc pc = .ok (.ireturn, 1)) : At K X (MQ K.below (QcM X Q) K.args K.s cs ss (AX X)) cs ss n ρ nL pc lv [vI x] D := by
  intro H locs ls hz hP hS hl
  exact W.zret F.1 F.2.1 F.2.2.2.2.2.1 hx (fun t ht hW => ⟨⟨_, n, ρ, D, rfl, hq, by rw [ht]; exact hz, by rw [ht]; exact hP⟩, hS.F ht⟩) hS.2.2 d F.2.2.2.2.2.2.1
theorem r_callStr (F : Fx K X o cc nL rtn rm) {i w : Nat} {y : MethodName} {cy : ByteArray} {mL np : Nat} {ry : Option FieldType} {fr lo : Nat} {As : List Value} {st0 : List Value} (hlk : Cond.methodLink (RN o) i y ∈ T0) (hM : MFa y cy mL ry np) (hin : Cond.instanceMethod y ∈ T0) (hsel : Cond.selects "java/lang/String" y y ∈ T0) (hw : w < 13) (hA : As.length = np) (hR : fr + 1 ≤ rm.frames ∧ 8 + (mL + 11) + lo ≤ rm.locals) (hst : st0 = As.reverse ++ vS X w :: rest) (hW : (rest.map fun v => v.category).sum ≤ 8) (hf : cs ≤ rm.cells ∧ ss ≤ rm.slots)
    (d : decode cc pc = .ok (.invokevirtual i, 3)) (k : MOK K.l y cy mL ry { frames := fr, cells := 0, slots := 0, locals := lo } 0 0 X (vS X w :: As) n ρ D (fun r n' ρ' D' => At K X Z cs ss n' ρ' nL (pc + 3) lv (r.toList ++ rest) D')) : At K X Z cs ss n ρ nL pc lv st0 D := by
  intro H locs ls hz hP hS hl
  subst hst
  have hts := F.2.2.2.2.1
  have hKR : K.R = rm := F.2.2.2.2.2.2.2.2
  obtain ⟨cb, hcode, hini, hns, hnp⟩ := cb_of (rmy := { frames := fr, cells := 0, slots := 0, locals := lo }) F hM rfl rfl hR
  have hpre : PreV K.s H "java/lang/String" (X.aK w) (PcM X (vS X w :: As) n ρ D) As := ⟨PcM_blind, vk_recv F.wd.2.2.2.2.2.2.2.2.2.1 hw hS, PcM_of F hz hP hS⟩
  have hf' : cs + 0 ≤ K.R.cells ∧ ss + 0 ≤ K.R.slots := by rw [hKR]; exact hf
  exact call_go (As := vS X w :: As) (mc := 0) (ms := 0) (va_runV (n := np) (C := "java/lang/String") (As := As) (rest := rest) ⟨F.1, F.2.1, F.2.2.1, F.2.2.2.1, hts⟩ k ⟨⟨cb.1, cb.2.1, cb.2.2.1, cb.2.2.2.1, cb.2.2.2.2.1, cb.2.2.2.2.2, hcode, hini, hns, hnp, hts _ hlk⟩, hts _ hin, hts _ hsel⟩ hpre rfl hA hl.1 rfl (lv_room hW) d hf') hS hl
theorem r_getCS (F : Fx K X o cc nL rtn rm) {i : Nat} (hw : Cond.fieldLink (RN o) i "java/lang/String" "COMPACT_STRINGS" "Z" ∈ T0) (d : decode cc pc = .ok (.getstatic i, 3)) (k : At K X Z cs ss n ρ nL (pc + 3) lv (vI 1 :: rest) D) : At K X Z cs ss n ρ nL pc lv rest D := by
  intro H locs ls hz hP hS hll
  exact va_gets F.1 F.2.1 F.wd.2.2.2.2.2.2.2.1 hS F.2.2.2.1 (F.2.2.2.2.1 _ hw) (fun _ z => z) d (k H locs ls hz hP hS hll)
theorem r_getCo (F : Fx K X o cc nL rtn rm) {i w : Nat} (hlk : Cond.fieldLink (RN o) i "java/lang/String" "coder" "B" ∈ T0) (hw : w < 13) (d : decode cc pc = .ok (.getfield i, 3)) (k : At K X Z cs ss n ρ nL (pc + 3) lv (vI 0 :: rest) D) : At K X Z cs ss n ρ nL pc lv (vS X w :: rest) D := by
  intro H locs ls hz hP hS hll
  exact vk_getf F.1 F.2.1 (F.wd.2.2.2.2.2.2.2.2.2.1.1 w hw).2.1 hS F.2.2.2.1 (F.2.2.2.2.1 _ hlk) (fun _ z => z) d (k H locs ls hz hP hS hll)
theorem r_getVa (F : Fx K X o cc nL rtn rm) {i w : Nat} (hlk : Cond.fieldLink (RN o) i "java/lang/String" "value" "[B" ∈ T0) (hw : w < 13) (d : decode cc pc = .ok (.getfield i, 3)) (k : At K X Z cs ss n ρ nL (pc + 3) lv (.ref (X.aV w) :: rest) D) : At K X Z cs ss n ρ nL pc lv (vS X w :: rest) D := by
  intro H locs ls hz hP hS hll
  exact vk_getf F.1 F.2.1 (F.wd.2.2.2.2.2.2.2.2.2.1.1 w hw).2.2.1 hS F.2.2.2.1 (F.2.2.2.2.1 _ hlk) (fun _ z => z) d (k H locs ls hz hP hS hll)
theorem r_lenVa (F : Fx K X o cc nL rtn rm) {w : Nat} (hw : w < 13) (d : decode cc pc = .ok (.arraylength, 1)) (k : At K X Z cs ss n ρ nL (pc + 1) lv (vI ((lenS.getD w 0 : Nat) : Int) :: rest) D) : At K X Z cs ss n ρ nL pc lv (.ref (X.aV w) :: rest) D := by
  intro H locs ls hz hP hS hll
  have e : Int32.ofNat (lenS.getD w 0) = Int32.ofInt ((lenS.getD w 0 : Nat) : Int) := by first | rfl | exact (Int32.ofInt_eq_ofNat).symm | exact Int32.toInt_inj.mp (by simp)
  exact va_tlen F.1 F.2.1 (F.wd.2.2.2.2.2.2.2.2.2.1.1 w hw).2.2.2 hS e d (k H locs ls hz hP hS hll)
theorem r_ldVa (F : Fx K X o cc nL rtn rm) {w : Nat} {i : Int} (hw : w < 13) (hi : 0 ≤ i ∧ i < ((lenS.getD w 0 : Nat) : Int)) (d : decode cc pc = .ok (.baload, 1)) (k : At K X Z cs ss n ρ nL (pc + 1) lv (.int ((bytS.getD w []).getD i.toNat 0) :: rest) D) : At K X Z cs ss n ρ nL pc lv (vI i :: .ref (X.aV w) :: rest) D := by
  intro H locs ls hz hP hS hll
  have hlen : ∀ w, w < 13 → lenS.getD w 0 < 2 ^ 31 := by decide +kernel
  obtain ⟨h1, h2⟩ := ix_in hi (hlen w hw)
  exact va_tb F.1 F.2.1 (F.wd.2.2.2.2.2.2.2.2.2.1.1 w hw).2.2.2 hS h1 (by rw [h2]) d (k H locs ls hz hP hS hll)
theorem r_i2c (F : Fx K X o cc nL rtn rm) {x v : Int32} (hv : (x.toUInt32 % 65536).toInt32 = v) (d : decode cc pc = .ok (.i2c, 1)) (k : At K X Z cs ss n ρ nL (pc + 1) lv (.int v :: rest) D) : At K X Z cs ss n ρ nL pc lv (.int x :: rest) D := by
  intro H locs ls hz hP hS hll
  exact lv_i2c F.1 F.2.1 d hv (k H locs ls hz hP hS hll)
theorem r_getSio (F : Fx K X o cc nL rtn rm) {i : Nat} (hw : Cond.fieldLink (RN o) i "jdk/internal/util/Preconditions" "SIOOBE_FORMATTER" SIO ∈ T0) (d : decode cc pc = .ok (.getstatic i, 3)) (k : ∀ v : Value, (v = .null ∨ ∃ t, v = .ref t) → At K X Z cs ss n ρ nL (pc + 3) lv (v :: rest) D) : At K X Z cs ss n ρ nL pc lv rest D := by
  intro H locs ls hz hP hS hll
  rcases F.wd.2.2.2.2.2.2.2.2.1 with h | ⟨t, h⟩
  · exact va_gets F.1 F.2.1 h hS F.2.2.2.1 (F.2.2.2.2.1 _ hw) (fun _ z => z) d (k _ (Or.inl rfl) H locs ls hz hP hS hll)
  · exact va_gets F.1 F.2.1 h hS F.2.2.2.1 (F.2.2.2.2.1 _ hw) (fun _ z => z) d (k _ (Or.inr ⟨t, rfl⟩) H locs ls hz hP hS hll)
end TRULES
def y14_coder : MethodName := ⟨"java/lang/String", "coder", "()B"⟩
abbrev c14_coder : ByteArray := prog_15_method_152_code
theorem ma14_coder : MFa y14_coder c14_coder 1 (some .byte) 0 := ⟨T0_3 72 (by decide +kernel) rfl, T0_1 15 (by decide +kernel) rfl, by decide +kernel, by decide +kernel, by decide +kernel⟩
theorem mi14_coder : Cond.instanceMethod y14_coder ∈ T0 := T0_3 70 (by decide +kernel) rfl
theorem me14_coder : Cond.selects "java/lang/String" y14_coder y14_coder ∈ T0 := T0_3 71 (by decide +kernel) rfl
theorem d14_coder_0 : decode c14_coder 0 = .ok (.getstatic 38, 3) := by decide +kernel
theorem d14_coder_3 : decode c14_coder 3 = .ok (.ifCond .eq 10, 3) := by decide +kernel
theorem d14_coder_6 : decode c14_coder 6 = .ok (.aload_n 0, 1) := by decide +kernel
theorem d14_coder_7 : decode c14_coder 7 = .ok (.getfield 15, 3) := by decide +kernel
theorem d14_coder_10 : decode c14_coder 10 = .ok (.goto 4, 3) := by decide +kernel
theorem d14_coder_13 : decode c14_coder 13 = .ok (.iconst 1, 1) := by decide +kernel
theorem d14_coder_14 : decode c14_coder 14 = .ok (.ireturn, 1) := by decide +kernel
def y14_isLatin1 : MethodName := ⟨"java/lang/String", "isLatin1", "()Z"⟩
abbrev c14_isLatin1 : ByteArray := prog_15_method_154_code
theorem ma14_isLatin1 : MFa y14_isLatin1 c14_isLatin1 1 (some .boolean) 0 := ⟨T0_3 86 (by decide +kernel) rfl, T0_1 15 (by decide +kernel) rfl, by decide +kernel, by decide +kernel, by decide +kernel⟩
theorem mi14_isLatin1 : Cond.instanceMethod y14_isLatin1 ∈ T0 := T0_3 84 (by decide +kernel) rfl
theorem me14_isLatin1 : Cond.selects "java/lang/String" y14_isLatin1 y14_isLatin1 ∈ T0 := T0_3 85 (by decide +kernel) rfl
theorem d14_isLatin1_0 : decode c14_isLatin1 0 = .ok (.getstatic 38, 3) := by decide +kernel
theorem d14_isLatin1_3 : decode c14_isLatin1 3 = .ok (.ifCond .eq 14, 3) := by decide +kernel
theorem d14_isLatin1_6 : decode c14_isLatin1 6 = .ok (.aload_n 0, 1) := by decide +kernel
theorem d14_isLatin1_7 : decode c14_isLatin1 7 = .ok (.getfield 15, 3) := by decide +kernel
theorem d14_isLatin1_10 : decode c14_isLatin1 10 = .ok (.ifCond .ne 7, 3) := by decide +kernel
theorem d14_isLatin1_13 : decode c14_isLatin1 13 = .ok (.iconst 1, 1) := by decide +kernel
theorem d14_isLatin1_14 : decode c14_isLatin1 14 = .ok (.goto 4, 3) := by decide +kernel
theorem d14_isLatin1_17 : decode c14_isLatin1 17 = .ok (.iconst 0, 1) := by decide +kernel
theorem d14_isLatin1_18 : decode c14_isLatin1 18 = .ok (.ireturn, 1) := by decide +kernel
theorem ma14_length : MFa y14_length c14_length 1 (some .int) 0 := ⟨T0_3 68 (by decide +kernel) rfl, T0_1 15 (by decide +kernel) rfl, by decide +kernel, by decide +kernel, by decide +kernel⟩
theorem mi14_length : Cond.instanceMethod y14_length ∈ T0 := T0_3 66 (by decide +kernel) rfl
theorem me14_length : Cond.selects "java/lang/String" y14_length y14_length ∈ T0 := T0_3 67 (by decide +kernel) rfl
theorem d14_length_0 : decode c14_length 0 = .ok (.aload_n 0, 1) := by decide +kernel
theorem d14_length_1 : decode c14_length 1 = .ok (.getfield 9, 3) := by decide +kernel
theorem d14_length_4 : decode c14_length 4 = .ok (.arraylength, 1) := by decide +kernel
theorem d14_length_5 : decode c14_length 5 = .ok (.aload_n 0, 1) := by decide +kernel
theorem d14_length_6 : decode c14_length 6 = .ok (.invokevirtual 335, 3) := by decide +kernel
theorem d14_length_9 : decode c14_length 9 = .ok (.ishr, 1) := by decide +kernel
theorem d14_length_10 : decode c14_length 10 = .ok (.ireturn, 1) := by decide +kernel
theorem ma14_charAt : MFa y14_charAt c14_charAt 2 (some .char) 1 := ⟨T0_3 82 (by decide +kernel) rfl, T0_1 15 (by decide +kernel) rfl, by decide +kernel, by decide +kernel, by decide +kernel⟩
theorem mi14_charAt : Cond.instanceMethod y14_charAt ∈ T0 := T0_3 80 (by decide +kernel) rfl
theorem me14_charAt : Cond.selects "java/lang/String" y14_charAt y14_charAt ∈ T0 := T0_3 81 (by decide +kernel) rfl
theorem d14_charAt_0 : decode c14_charAt 0 = .ok (.aload_n 0, 1) := by decide +kernel
theorem d14_charAt_1 : decode c14_charAt 1 = .ok (.invokevirtual 492, 3) := by decide +kernel
theorem d14_charAt_4 : decode c14_charAt 4 = .ok (.ifCond .eq 12, 3) := by decide +kernel
theorem d14_charAt_7 : decode c14_charAt 7 = .ok (.aload_n 0, 1) := by decide +kernel
theorem d14_charAt_8 : decode c14_charAt 8 = .ok (.getfield 9, 3) := by decide +kernel
theorem d14_charAt_11 : decode c14_charAt 11 = .ok (.iload_n 1, 1) := by decide +kernel
theorem d14_charAt_12 : decode c14_charAt 12 = .ok (.invokestatic 495, 3) := by decide +kernel
theorem d14_charAt_15 : decode c14_charAt 15 = .ok (.ireturn, 1) := by decide +kernel
theorem d14_charAt_16 : decode c14_charAt 16 = .ok (.aload_n 0, 1) := by decide +kernel
theorem d14_charAt_17 : decode c14_charAt 17 = .ok (.getfield 9, 3) := by decide +kernel
theorem d14_charAt_20 : decode c14_charAt 20 = .ok (.iload_n 1, 1) := by decide +kernel
theorem d14_charAt_21 : decode c14_charAt 21 = .ok (.invokestatic 498, 3) := by decide +kernel
theorem d14_charAt_24 : decode c14_charAt 24 = .ok (.ireturn, 1) := by decide +kernel
def y14_checkIndex : MethodName := ⟨"java/lang/String", "checkIndex", "(II)V"⟩
abbrev c14_checkIndex : ByteArray := prog_15_method_155_code
theorem ma14_checkIndex : MFa y14_checkIndex c14_checkIndex 2 (none) 2 := ⟨T0_3 92 (by decide +kernel) rfl, T0_1 15 (by decide +kernel) rfl, by decide +kernel, by decide +kernel, by decide +kernel⟩
theorem mf14_checkIndex : MFs y14_checkIndex c14_checkIndex 2 (none) 2 := ⟨ma14_checkIndex, T0_3 91 (by decide +kernel) rfl⟩
theorem d14_checkIndex_0 : decode c14_checkIndex 0 = .ok (.iload_n 0, 1) := by decide +kernel
theorem d14_checkIndex_1 : decode c14_checkIndex 1 = .ok (.iload_n 1, 1) := by decide +kernel
theorem d14_checkIndex_2 : decode c14_checkIndex 2 = .ok (.getstatic 1053, 3) := by decide +kernel
theorem d14_checkIndex_5 : decode c14_checkIndex 5 = .ok (.invokestatic 1059, 3) := by decide +kernel
theorem d14_checkIndex_8 : decode c14_checkIndex 8 = .ok (.pop, 1) := by decide +kernel
theorem d14_checkIndex_9 : decode c14_checkIndex 9 = .ok (.return_, 1) := by decide +kernel
def y15_charAt : MethodName := ⟨"java/lang/StringLatin1", "charAt", "([BI)C"⟩
abbrev c15_charAt : ByteArray := prog_16_method_2_code
theorem ma15_charAt : MFa y15_charAt c15_charAt 2 (some .char) 2 := ⟨T0_3 89 (by decide +kernel) rfl, T0_1 16 (by decide +kernel) rfl, by decide +kernel, by decide +kernel, by decide +kernel⟩
theorem mf15_charAt : MFs y15_charAt c15_charAt 2 (some .char) 2 := ⟨ma15_charAt, T0_3 88 (by decide +kernel) rfl⟩
theorem d15_charAt_0 : decode c15_charAt 0 = .ok (.iload_n 1, 1) := by decide +kernel
theorem d15_charAt_1 : decode c15_charAt 1 = .ok (.aload_n 0, 1) := by decide +kernel
theorem d15_charAt_2 : decode c15_charAt 2 = .ok (.arraylength, 1) := by decide +kernel
theorem d15_charAt_3 : decode c15_charAt 3 = .ok (.invokestatic 9, 3) := by decide +kernel
theorem d15_charAt_6 : decode c15_charAt 6 = .ok (.aload_n 0, 1) := by decide +kernel
theorem d15_charAt_7 : decode c15_charAt 7 = .ok (.iload_n 1, 1) := by decide +kernel
theorem d15_charAt_8 : decode c15_charAt 8 = .ok (.baload, 1) := by decide +kernel
theorem d15_charAt_9 : decode c15_charAt 9 = .ok (.sipush 255, 3) := by decide +kernel
theorem d15_charAt_12 : decode c15_charAt 12 = .ok (.iand, 1) := by decide +kernel
theorem d15_charAt_13 : decode c15_charAt 13 = .ok (.i2c, 1) := by decide +kernel
theorem d15_charAt_14 : decode c15_charAt 14 = .ok (.ireturn, 1) := by decide +kernel
def y16_checkIndex : MethodName := ⟨"jdk/internal/util/Preconditions", "checkIndex", "(IILjava/util/function/BiFunction;)I"⟩
abbrev c16_checkIndex : ByteArray := prog_20_method_11_code
theorem ma16_checkIndex : MFa y16_checkIndex c16_checkIndex 3 (some .int) 3 := ⟨T0_3 97 (by decide +kernel) rfl, T0_1 17 (by decide +kernel) rfl, by decide +kernel, by decide +kernel, by decide +kernel⟩
theorem mf16_checkIndex : MFs y16_checkIndex c16_checkIndex 3 (some .int) 3 := ⟨ma16_checkIndex, T0_3 96 (by decide +kernel) rfl⟩
theorem d16_checkIndex_0 : decode c16_checkIndex 0 = .ok (.iload_n 0, 1) := by decide +kernel
theorem d16_checkIndex_1 : decode c16_checkIndex 1 = .ok (.ifCond .lt 8, 3) := by decide +kernel
theorem d16_checkIndex_4 : decode c16_checkIndex 4 = .ok (.iload_n 0, 1) := by decide +kernel
theorem d16_checkIndex_5 : decode c16_checkIndex 5 = .ok (.iload_n 1, 1) := by decide +kernel
theorem d16_checkIndex_6 : decode c16_checkIndex 6 = .ok (.if_icmp .lt 10, 3) := by decide +kernel
theorem d16_checkIndex_9 : decode c16_checkIndex 9 = .ok (.aload_n 2, 1) := by decide +kernel
theorem d16_checkIndex_10 : decode c16_checkIndex 10 = .ok (.iload_n 0, 1) := by decide +kernel
theorem d16_checkIndex_11 : decode c16_checkIndex 11 = .ok (.iload_n 1, 1) := by decide +kernel
theorem d16_checkIndex_12 : decode c16_checkIndex 12 = .ok (.invokestatic 95, 3) := by decide +kernel
theorem d16_checkIndex_15 : decode c16_checkIndex 15 = .ok (.athrow, 1) := by decide +kernel
theorem d16_checkIndex_16 : decode c16_checkIndex 16 = .ok (.iload_n 0, 1) := by decide +kernel
theorem d16_checkIndex_17 : decode c16_checkIndex 17 = .ok (.ireturn, 1) := by decide +kernel
theorem lf14_9 : Cond.fieldLink (RN 14) 9 "java/lang/String" "value" "[B" ∈ T0 := T0_9 23 (by decide +kernel) rfl
theorem lf14_15 : Cond.fieldLink (RN 14) 15 "java/lang/String" "coder" "B" ∈ T0 := T0_9 24 (by decide +kernel) rfl
theorem lf14_38 : Cond.fieldLink (RN 14) 38 "java/lang/String" "COMPACT_STRINGS" "Z" ∈ T0 := T0_3 73 (by decide +kernel) rfl
theorem lf14_1053 : Cond.fieldLink (RN 14) 1053 "jdk/internal/util/Preconditions" "SIOOBE_FORMATTER" SIO ∈ T0 := T0_3 93 (by decide +kernel) rfl
theorem lm14_335 : Cond.methodLink (RN 14) 335 y14_coder ∈ T0 := T0_3 69 (by decide +kernel) rfl
theorem lm14_492 : Cond.methodLink (RN 14) 492 y14_isLatin1 ∈ T0 := T0_3 83 (by decide +kernel) rfl
theorem lm14_495 : Cond.methodLink (RN 14) 495 y15_charAt ∈ T0 := T0_3 87 (by decide +kernel) rfl
theorem lm15_9 : Cond.methodLink (RN 15) 9 y14_checkIndex ∈ T0 := T0_3 90 (by decide +kernel) rfl
theorem lm14_1059 : Cond.methodLink (RN 14) 1059 y16_checkIndex ∈ T0 := T0_3 95 (by decide +kernel) rfl
theorem ok14_coder {l : Launch} {X : XT} {n : Nat} {ρ : Rho} {D : Mem} {Q : Option Value → Nat → Rho → Mem → Prop} {w : Nat} (hw : w < 13) (h : Q (some (vI 0)) n ρ D) : MOK l y14_coder c14_coder 1 (some .byte) { frames := 0, cells := 0, slots := 0, locals := 0 } 0 0 X [vS X w] n ρ D Q := by
  refine MOK_of 14 (by decide +kernel) rfl (lv := [(0, vS X w)]) (Nat.le_of_ble_eq_true rfl) rfl (fun K hK F hnm => ?_)
  refine r_getCS F lf14_38 d14_coder_0 ?_
  refine r_if_eq F (tgt := 13) d14_coder_3 (by decide) (fun hb => absurd hb (by decide)) (fun hb => ?_)
  refine r_aload_nS F 0 rfl rfl d14_coder_6 ?_
  refine r_getCo F lf14_15 hw d14_coder_7 ?_
  refine r_goto F (tgt := 14) (by decide) d14_coder_10 ?_
  exact r_nret F rfl h d14_coder_14
theorem ok14_isLatin1 {l : Launch} {X : XT} {n : Nat} {ρ : Rho} {D : Mem} {Q : Option Value → Nat → Rho → Mem → Prop} {w : Nat} (hw : w < 13) (h : Q (some (vI 1)) n ρ D) : MOK l y14_isLatin1 c14_isLatin1 1 (some .boolean) { frames := 0, cells := 0, slots := 0, locals := 0 } 0 0 X [vS X w] n ρ D Q := by
  refine MOK_of 14 (by decide +kernel) rfl (lv := [(0, vS X w)]) (Nat.le_of_ble_eq_true rfl) rfl (fun K hK F hnm => ?_)
  refine r_getCS F lf14_38 d14_isLatin1_0 ?_
  refine r_if_eq F (tgt := 17) d14_isLatin1_3 (by decide) (fun hb => absurd hb (by decide)) (fun hb => ?_)
  refine r_aload_nS F 0 rfl rfl d14_isLatin1_6 ?_
  refine r_getCo F lf14_15 hw d14_isLatin1_7 ?_
  refine r_if_ne F (tgt := 17) d14_isLatin1_10 (by decide) (fun hb => absurd (show w32 0 = 0 by decide) hb) (fun hb => ?_)
  refine r_iconst F (z := 1) d14_isLatin1_13 ?_
  refine r_goto F (tgt := 18) (by decide) d14_isLatin1_14 ?_
  exact r_nret F rfl h d14_isLatin1_18
theorem len_shr : ∀ w, w < 13 → shr32 ((lenS.getD w 0 : Nat) : Int) 0 = ((lenS.getD w 0 : Nat) : Int) := by decide +kernel
theorem ok14_length {l : Launch} {X : XT} {n : Nat} {ρ : Rho} {D : Mem} {Q : Option Value → Nat → Rho → Mem → Prop} {w : Nat} (hw : w < 13) (h : Q (some (vI ((lenS.getD w 0 : Nat) : Int))) n ρ D) : MOK l y14_length c14_length 1 (some .int) { frames := 1, cells := 0, slots := 0, locals := 20 } 0 0 X [vS X w] n ρ D Q := by
  refine MOK_of 14 (by decide +kernel) rfl (lv := [(0, vS X w)]) (Nat.le_of_ble_eq_true rfl) rfl (fun K hK F hnm => ?_)
  subst hK
  refine r_aload_nS F 0 rfl rfl d14_length_0 ?_
  refine r_getVa F lf14_9 hw d14_length_1 ?_
  refine r_lenVa F hw d14_length_4 ?_
  refine r_aload_nS F 0 rfl rfl d14_length_5 ?_
  refine r_callStr F lm14_335 ma14_coder mi14_coder me14_coder hw rfl (fr := 0) (lo := 0) (As := []) (rest := [vI ((lenS.getD w 0 : Nat) : Int)]) ⟨Nat.le_of_ble_eq_true rfl, Nat.le_of_ble_eq_true rfl⟩ rfl (Nat.le_of_ble_eq_true rfl) ⟨Nat.zero_le _, Nat.zero_le _⟩ d14_length_6 ?_
  refine ok14_coder hw ?_
  show At _ X _ 0 0 n ρ 1 9 [(0, vS X w)] [vI 0, vI ((lenS.getD w 0 : Nat) : Int)] D
  refine r_ishr F d14_length_9 ?_
  rw [len_shr w hw]
  exact r_iret F h d14_length_10
theorem ok16_checkIndex {l : Launch} {X : XT} {n : Nat} {ρ : Rho} {D : Mem} {Q : Option Value → Nat → Rho → Mem → Prop} {i m : Int} {v : Value} (hv : v = .null ∨ ∃ t, v = .ref t) (hi : 0 ≤ w32 i) (him : w32 i < w32 m) (h : Q (some (vI i)) n ρ D) : MOK l y16_checkIndex c16_checkIndex 3 (some .int) { frames := 0, cells := 0, slots := 0, locals := 0 } 0 0 X [vI i, vI m, v] n ρ D Q := by
  have hlen : (lg_sl [vI i, vI m, v]).length ≤ 3 := by rcases hv with rfl | ⟨t, rfl⟩ <;> exact Nat.le_of_ble_eq_true rfl
  have hlv : lv_args 0 [vI i, vI m, v] = [(0, vI i), (1, vI m), (2, v)] := by rcases hv with rfl | ⟨t, rfl⟩ <;> rfl
  refine MOK_of 16 (by decide +kernel) rfl (lv := [(0, vI i), (1, vI m), (2, v)]) hlen hlv (fun K hK F hnm => ?_)
  refine r_iload_n F 0 rfl rfl d16_checkIndex_0 ?_
  refine r_if_lt F (tgt := 9) d16_checkIndex_1 (by decide) (fun hb => absurd hb (by omega)) (fun hb => ?_)
  refine r_iload_n F 0 rfl rfl d16_checkIndex_4 ?_
  refine r_iload_n F 1 rfl rfl d16_checkIndex_5 ?_
  refine r_icmp_lt F (tgt := 16) d16_checkIndex_6 (by decide) (fun hb => ?_) (fun hb => absurd him hb)
  refine r_iload_n F 0 rfl rfl d16_checkIndex_16 ?_
  exact r_iret F h d16_checkIndex_17
theorem ok14_checkIndex {l : Launch} {X : XT} {n : Nat} {ρ : Rho} {D : Mem} {Q : Option Value → Nat → Rho → Mem → Prop} {i m : Int} (hi : 0 ≤ w32 i) (him : w32 i < w32 m) (h : Q none n ρ D) : MOK l y14_checkIndex c14_checkIndex 2 none { frames := 1, cells := 0, slots := 0, locals := 22 } 0 0 X [vI i, vI m] n ρ D Q := by
  refine MOK_of 14 (by decide +kernel) rfl (lv := [(0, vI i), (1, vI m)]) (Nat.le_of_ble_eq_true rfl) rfl (fun K hK F hnm => ?_)
  subst hK
  refine r_iload_n F 0 rfl rfl d14_checkIndex_0 ?_
  refine r_iload_n F 1 rfl rfl d14_checkIndex_1 ?_
  refine r_getSio F lf14_1053 d14_checkIndex_2 (fun v hv => ?_)
  refine r_callS0 F (Or.inl lm14_1059) mf16_checkIndex rfl (fr := 0) (lo := 0) (As := [vI i, vI m, v]) (rest := []) ⟨Nat.le_of_ble_eq_true rfl, Nat.le_of_ble_eq_true rfl⟩ rfl (Nat.le_of_ble_eq_true rfl) ⟨Nat.zero_le _, Nat.zero_le _⟩ d14_checkIndex_5 ?_
  refine ok16_checkIndex hv hi him ?_
  show At _ X _ 0 0 n ρ 2 8 [(0, vI i), (1, vI m)] [vI i] D
  refine r_pop F rfl d14_checkIndex_8 ?_
  exact r_vret F h d14_checkIndex_9
theorem chS_ok : ∀ w, w < 13 → ∀ k, k < lenS.getD w 0 → (((bytS.getD w []).getD k 0 &&& 255).toUInt32 % 65536).toInt32 = Int32.ofInt (chS w k) ∧ narrow .char (vI (chS w k)) = vI (chS w k) := by decide +kernel
theorem ok15_charAt {l : Launch} {X : XT} {n : Nat} {ρ : Rho} {D : Mem} {Q : Option Value → Nat → Rho → Mem → Prop} {w : Nat} {i : Int} (hw : w < 13) (hi : 0 ≤ i ∧ i < ((lenS.getD w 0 : Nat) : Int)) (h : Q (some (vI (chS w i.toNat))) n ρ D) : MOK l y15_charAt c15_charAt 2 (some .char) { frames := 2, cells := 0, slots := 0, locals := 43 } 0 0 X [.ref (X.aV w), vI i] n ρ D Q := by
  have hlen : ∀ w, w < 13 → lenS.getD w 0 < 2 ^ 30 := by decide +kernel
  have hlw := hlen w hw
  have e1 : w32 i = i := Int32.toInt_ofInt_of_le (by omega) (by omega)
  have e2 : w32 ((lenS.getD w 0 : Nat) : Int) = ((lenS.getD w 0 : Nat) : Int) := Int32.toInt_ofInt_of_le (by omega) (by omega)
  obtain ⟨hc1, hc2⟩ := chS_ok w hw i.toNat (by omega)
  refine MOK_of 15 (by decide +kernel) rfl (lv := [(0, .ref (X.aV w)), (1, vI i)]) (Nat.le_of_ble_eq_true rfl) rfl (fun K hK F hnm => ?_)
  subst hK
  refine r_iload_n F 1 rfl rfl d15_charAt_0 ?_
  refine r_aload_n F 0 rfl rfl d15_charAt_1 ?_
  refine r_lenVa F hw d15_charAt_2 ?_
  refine r_callS0 F (Or.inl lm15_9) mf14_checkIndex rfl (fr := 1) (lo := 22) (As := [vI i, vI ((lenS.getD w 0 : Nat) : Int)]) (rest := []) ⟨Nat.le_of_ble_eq_true rfl, Nat.le_of_ble_eq_true rfl⟩ rfl (Nat.le_of_ble_eq_true rfl) ⟨Nat.zero_le _, Nat.zero_le _⟩ d15_charAt_3 ?_
  refine ok14_checkIndex (by rw [e1]; exact hi.1) (by rw [e1, e2]; exact hi.2) ?_
  show At _ X _ 0 0 n ρ 2 6 [(0, .ref (X.aV w)), (1, vI i)] [] D
  refine r_aload_n F 0 rfl rfl d15_charAt_6 ?_
  refine r_iload_n F 1 rfl rfl d15_charAt_7 ?_
  refine r_ldVa F hw hi d15_charAt_8 ?_
  refine r_sipush F (z := 255) (by decide) d15_charAt_9 ?_
  have step : At K X (ZQ K X Q) 0 0 n ρ 2 13 [(0, .ref (X.aV w)), (1, vI i)] [.int ((bytS.getD w []).getD i.toNat 0 &&& 255)] D := by
    refine r_i2c F hc1 d15_charAt_13 ?_
    exact r_nret F hc2 h d15_charAt_14
  intro H locs ls hz hP hS hl
  exact lv_iand F.1 F.2.1 d15_charAt_12 (step H locs ls hz hP hS hl)
theorem ok14_charAt {l : Launch} {X : XT} {n : Nat} {ρ : Rho} {D : Mem} {Q : Option Value → Nat → Rho → Mem → Prop} {w : Nat} {i : Int} (hw : w < 13) (hi : 0 ≤ i ∧ i < ((lenS.getD w 0 : Nat) : Int)) (h : Q (some (vI (chS w i.toNat))) n ρ D) : MOK l y14_charAt c14_charAt 2 (some .char) { frames := 3, cells := 0, slots := 0, locals := 64 } 0 0 X [vS X w, vI i] n ρ D Q := by
  obtain ⟨hc1, hc2⟩ := chS_ok w hw i.toNat (by omega)
  refine MOK_of 14 (by decide +kernel) rfl (lv := [(0, vS X w), (1, vI i)]) (Nat.le_of_ble_eq_true rfl) rfl (fun K hK F hnm => ?_)
  subst hK
  refine r_aload_nS F 0 rfl rfl d14_charAt_0 ?_
  refine r_callStr F lm14_492 ma14_isLatin1 mi14_isLatin1 me14_isLatin1 hw rfl (fr := 0) (lo := 0) (As := []) (rest := []) ⟨Nat.le_of_ble_eq_true rfl, Nat.le_of_ble_eq_true rfl⟩ rfl (Nat.le_of_ble_eq_true rfl) ⟨Nat.zero_le _, Nat.zero_le _⟩ d14_charAt_1 ?_
  refine ok14_isLatin1 hw ?_
  show At _ X _ 0 0 n ρ 2 4 [(0, vS X w), (1, vI i)] [vI 1] D
  refine r_if_eq F (tgt := 16) d14_charAt_4 (by decide) (fun hb => absurd hb (by decide)) (fun hb => ?_)
  refine r_aload_nS F 0 rfl rfl d14_charAt_7 ?_
  refine r_getVa F lf14_9 hw d14_charAt_8 ?_
  refine r_iload_n F 1 rfl rfl d14_charAt_11 ?_
  refine r_callS0 F (Or.inl lm14_495) mf15_charAt rfl (fr := 2) (lo := 43) (As := [.ref (X.aV w), vI i]) (rest := []) ⟨Nat.le_of_ble_eq_true rfl, Nat.le_of_ble_eq_true rfl⟩ rfl (Nat.le_of_ble_eq_true rfl) ⟨Nat.zero_le _, Nat.zero_le _⟩ d14_charAt_12 ?_
  refine ok15_charAt hw hi ?_
  show At _ X _ 0 0 n ρ 2 15 [(0, vS X w), (1, vI i)] [vI (chS w i.toNat)] D
  exact r_nret F hc2 h d14_charAt_15
section TRULES2
variable {K : KT} {X : XT} {Z : State → Prop} {cs ss n nL pc o : Nat} {ρ : Rho} {lv : List (Nat × Value)} {rest : List Value} {D : Mem} {cc : ByteArray} {rtn : Option FieldType} {rm : Room}
theorem r_strlen (F : Fx K X o cc nL rtn rm) {i w : Nat} (hlk : Cond.methodLink (RN o) i y14_length ∈ T0) (hR : 1 + 1 ≤ rm.frames ∧ 8 + (1 + 11) + 20 ≤ rm.locals) (hW : (rest.map fun v => v.category).sum ≤ 8) (hf : cs ≤ rm.cells ∧ ss ≤ rm.slots) (hw : w < 13) (d : decode cc pc = .ok (.invokevirtual i, 3)) (k : At K X Z cs ss n ρ nL (pc + 3) lv (vI ((lenS.getD w 0 : Nat) : Int) :: rest) D) : At K X Z cs ss n ρ nL pc lv (vS X w :: rest) D :=
  r_callStr F hlk ma14_length mi14_length me14_length hw rfl (fr := 1) (lo := 20) (As := []) (rest := rest) hR rfl hW hf d (ok14_length hw k)
theorem r_strchr (F : Fx K X o cc nL rtn rm) {i w : Nat} {j : Int} (hlk : Cond.methodLink (RN o) i y14_charAt ∈ T0) (hR : 3 + 1 ≤ rm.frames ∧ 8 + (2 + 11) + 64 ≤ rm.locals) (hW : (rest.map fun v => v.category).sum ≤ 8) (hf : cs ≤ rm.cells ∧ ss ≤ rm.slots) (hw : w < 13) (hi : 0 ≤ j ∧ j < ((lenS.getD w 0 : Nat) : Int)) (d : decode cc pc = .ok (.invokevirtual i, 3)) (k : At K X Z cs ss n ρ nL (pc + 3) lv (vI (chS w j.toNat) :: rest) D) : At K X Z cs ss n ρ nL pc lv (vI j :: vS X w :: rest) D :=
  r_callStr F hlk ma14_charAt mi14_charAt me14_charAt hw rfl (fr := 3) (lo := 64) (As := [vI j]) (rest := rest) hR rfl hW hf d (ok14_charAt hw hi k)
end TRULES2
theorem lk4_127 : Cond.methodLink (RN 4) 127 y14_length ∈ T0 := T0_3 65 (by decide +kernel) rfl
theorem lk4_131 : Cond.methodLink (RN 4) 131 y14_charAt ∈ T0 := T0_3 79 (by decide +kernel) rfl
theorem lk10_162 : Cond.methodLink (RN 10) 162 y14_length ∈ T0 := T0_6 206 (by decide +kernel) rfl
theorem lk10_168 : Cond.methodLink (RN 10) 168 y14_charAt ∈ T0 := T0_6 207 (by decide +kernel) rfl
