/-! METHODS, printed by wip/whole/gen/mkall.py -/
theorem d10_in_0 : decode c10_in 0 = .ok (.lload_n 0, 1) := by decide +kernel
theorem d10_in_1 : decode c10_in 1 = .ok (.lload_n 2, 1) := by decide +kernel
theorem d10_in_2 : decode c10_in 2 = .ok (.lcmp, 1) := by decide +kernel
theorem d10_in_3 : decode c10_in 3 = .ok (.ifCond .lt 14, 3) := by decide +kernel
theorem d10_in_6 : decode c10_in 6 = .ok (.lload_n 0, 1) := by decide +kernel
theorem d10_in_7 : decode c10_in 7 = .ok (.lload 4, 2) := by decide +kernel
theorem d10_in_9 : decode c10_in 9 = .ok (.lcmp, 1) := by decide +kernel
theorem d10_in_10 : decode c10_in 10 = .ok (.ifCond .gt 7, 3) := by decide +kernel
theorem d10_in_13 : decode c10_in 13 = .ok (.iconst 1, 1) := by decide +kernel
theorem d10_in_14 : decode c10_in 14 = .ok (.goto 4, 3) := by decide +kernel
theorem d10_in_17 : decode c10_in 17 = .ok (.iconst 0, 1) := by decide +kernel
theorem d10_in_18 : decode c10_in 18 = .ok (.ireturn, 1) := by decide +kernel
def f10_in (D : Mem) (p0 : Int) (p1 : Int) (p2 : Int) : Option (Int) :=
  if w64 p0 < w64 p1 then
    some 0
  else
    if w64 p2 < w64 p0 then
      some 0
    else
      some 1
set_option maxHeartbeats 4000000 in
theorem ok10_in {l : Launch} {X : XT} {n : Nat} {D : Mem} {Q : Option Value → Nat → Rho → Mem → Prop} (hn : 147 ≤ n) {p0 : Int} {p1 : Int} {p2 : Int}  (h : wpo (f10_in D p0 p1 p2) (fun a => Q (some (vI a)) n rt D)) : MOK l y10_in c10_in 6 (some .boolean) { frames := 0, cells := 0, slots := 0, locals := 0 } 0 0 X [vL p0, vL p1, vL p2] n rt D Q := by
  refine MOK_of 10 (by decide +kernel) rfl (lv := [(0, vL p0), (2, vL p1), (4, vL p2)]) (Nat.le_of_ble_eq_true rfl) rfl (fun K hK F hnm => ?_)
  subst hK
  unfold f10_in at h
  refine r_lload_n F 0 rfl rfl d10_in_0 ?_
  refine r_lload_n F 1 rfl rfl d10_in_1 ?_
  refine r_lc_lt F (tgt := 17) d10_in_2 d10_in_3 (by decide) (fun hb => ?_) (fun hb => ?_)
  · replace h := wpo_pos h hb
    refine r_iconst F (z := 0) d10_in_17 ?_
    replace h := wpo_some h
    exact r_zret F (Or.inl rfl) h d10_in_18
  · replace h := wpo_neg h hb
    refine r_lload_n F 0 rfl rfl d10_in_6 ?_
    refine r_lload F 2 rfl d10_in_7 ?_
    refine r_lc_gt F (tgt := 17) d10_in_9 d10_in_10 (by decide) (fun hb => ?_) (fun hb => ?_)
    · replace h := wpo_pos h hb
      refine r_iconst F (z := 0) d10_in_17 ?_
      replace h := wpo_some h
      exact r_zret F (Or.inl rfl) h d10_in_18
    · replace h := wpo_neg h hb
      refine r_iconst F (z := 1) d10_in_13 ?_
      refine r_goto F (tgt := 18) (by decide) d10_in_14 ?_
      replace h := wpo_some h
      exact r_zret F (Or.inr rfl) h d10_in_18
theorem d10_bits_0 : decode c10_bits 0 = .ok (.iconst 0, 1) := by decide +kernel
theorem d10_bits_1 : decode c10_bits 1 = .ok (.istore_n 1, 1) := by decide +kernel
theorem d10_bits_2 : decode c10_bits 2 = .ok (.iconst 0, 1) := by decide +kernel
theorem d10_bits_3 : decode c10_bits 3 = .ok (.istore_n 2, 1) := by decide +kernel
theorem d10_bits_4 : decode c10_bits 4 = .ok (.iload_n 2, 1) := by decide +kernel
theorem d10_bits_5 : decode c10_bits 5 = .ok (.bipush 12, 2) := by decide +kernel
theorem d10_bits_7 : decode c10_bits 7 = .ok (.if_icmp .ge 17, 3) := by decide +kernel
theorem d10_bits_10 : decode c10_bits 10 = .ok (.iload_n 1, 1) := by decide +kernel
theorem d10_bits_11 : decode c10_bits 11 = .ok (.iload_n 0, 1) := by decide +kernel
theorem d10_bits_12 : decode c10_bits 12 = .ok (.iload_n 2, 1) := by decide +kernel
theorem d10_bits_13 : decode c10_bits 13 = .ok (.ishr, 1) := by decide +kernel
theorem d10_bits_14 : decode c10_bits 14 = .ok (.iconst 1, 1) := by decide +kernel
theorem d10_bits_15 : decode c10_bits 15 = .ok (.iand, 1) := by decide +kernel
theorem d10_bits_16 : decode c10_bits 16 = .ok (.iadd, 1) := by decide +kernel
theorem d10_bits_17 : decode c10_bits 17 = .ok (.istore_n 1, 1) := by decide +kernel
theorem d10_bits_18 : decode c10_bits 18 = .ok (.iinc 2 1, 3) := by decide +kernel
theorem d10_bits_21 : decode c10_bits 21 = .ok (.goto (-17), 3) := by decide +kernel
theorem d10_bits_24 : decode c10_bits 24 = .ok (.iload_n 1, 1) := by decide +kernel
theorem d10_bits_25 : decode c10_bits 25 = .ok (.ireturn, 1) := by decide +kernel
def f10_bits (D : Mem) (p0 : Int) : Option (Int) :=
  Option.bind (@loop (Int × Int) (Int) (fun s1 =>
    if w32 s1.2 < w32 12 then
      Option.bind (some (s1.1 + (and32 (shr32 p0 s1.2) 1))) fun (v1 : Int) =>
      some (Sum.inl (v1, (s1.2 + 1)))
    else
      some (Sum.inr s1.1)
  ) FU (0, 0)) fun (b1 : Int) =>
  some b1
set_option maxHeartbeats 4000000 in
theorem ok10_bits {l : Launch} {X : XT} {n : Nat} {D : Mem} {Q : Option Value → Nat → Rho → Mem → Prop} (hn : 147 ≤ n) {p0 : Int}  (h : wpo (f10_bits D p0) (fun a => Q (some (vI a)) n rt D)) : MOK l y10_bits c10_bits 3 (some .int) { frames := 0, cells := 0, slots := 0, locals := 0 } 0 0 X [vI p0] n rt D Q := by
  refine MOK_of 10 (by decide +kernel) rfl (lv := [(0, vI p0)]) (Nat.le_of_ble_eq_true rfl) rfl (fun K hK F hnm => ?_)
  subst hK
  unfold f10_bits at h
  refine r_iconst F (z := 0) d10_bits_0 ?_
  refine r_istore_n F (lv' := [(1, vI 0), (0, vI p0)]) rfl (Nat.le_of_ble_eq_true rfl) rfl d10_bits_1 ?_
  refine r_iconst F (z := 0) d10_bits_2 ?_
  refine r_istore_n F (lv' := [(2, vI 0), (1, vI 0), (0, vI p0)]) rfl (Nat.le_of_ble_eq_true rfl) rfl d10_bits_3 ?_
  refine r_weak [2, 1, 0] rfl ?_
  refine at_loopj (A := fun (s1 : Int × Int) => At K X (ZQ K X Q) 0 0 n rt 3 4 [(0, vI p0), (1, vI s1.1), (2, vI s1.2)] [] D) (B := fun (b1 : Int) => At K X (ZQ K X Q) 0 0 n rt 3 24 [(1, vI b1)] [] D) h (fun b1 h => ?_) (fun s1 h => ?_)
  · refine r_iload_n F 0 rfl rfl d10_bits_24 ?_
    replace h := wpo_some h
    exact r_iret F h d10_bits_25
  · refine r_iload_n F 2 rfl rfl d10_bits_4 ?_
    refine r_bipush F (z := 12) (by decide) d10_bits_5 ?_
    refine r_icmp_ge F (tgt := 24) d10_bits_7 (by decide) (fun hb => ?_) (fun hb => ?_)
    · replace h := wpo_neg h hb
      refine r_weak [1] rfl ?_
      replace h := wpo_inr h
      exact h
    · replace h := wpo_pos h hb
      refine r_iload_n F 1 rfl rfl d10_bits_10 ?_
      refine r_iload_n F 0 rfl rfl d10_bits_11 ?_
      refine r_iload_n F 2 rfl rfl d10_bits_12 ?_
      refine r_ishr F d10_bits_13 ?_
      refine r_iconst F (z := 1) d10_bits_14 ?_
      refine r_iand F d10_bits_15 ?_
      refine r_iadd F d10_bits_16 ?_
      refine r_istore_n F (lv' := [(1, vI (s1.1 + (and32 (shr32 p0 s1.2) 1))), (0, vI p0), (2, vI s1.2)]) rfl (Nat.le_of_ble_eq_true rfl) rfl d10_bits_17 ?_
      refine at_name (B := fun (v1 : Int) => At K X (ZQ K X Q) 0 0 n rt 3 18 [(1, vI v1), (0, vI p0), (2, vI s1.2)] [] D) h (fun v1 h => ?_)
      refine r_iinc F 2 (lv' := [(2, vI (s1.2 + 1)), (1, vI v1), (0, vI p0)]) rfl (Nat.le_of_ble_eq_true rfl) rfl d10_bits_18 ?_
      refine r_goto F (tgt := 4) (by decide) d10_bits_21 ?_
      refine r_weak [2, 1, 0] rfl ?_
      replace h := wpo_inl h
      exact h
theorem d10_bit_0 : decode c10_bit 0 = .ok (.iload_n 0, 1) := by decide +kernel
theorem d10_bit_1 : decode c10_bit 1 = .ok (.iload_n 1, 1) := by decide +kernel
theorem d10_bit_2 : decode c10_bit 2 = .ok (.ishr, 1) := by decide +kernel
theorem d10_bit_3 : decode c10_bit 3 = .ok (.iconst 1, 1) := by decide +kernel
theorem d10_bit_4 : decode c10_bit 4 = .ok (.iand, 1) := by decide +kernel
theorem d10_bit_5 : decode c10_bit 5 = .ok (.ireturn, 1) := by decide +kernel
def f10_bit (D : Mem) (p0 : Int) (p1 : Int) : Option (Int) :=
  some (and32 (shr32 p0 p1) 1)
set_option maxHeartbeats 4000000 in
theorem ok10_bit {l : Launch} {X : XT} {n : Nat} {D : Mem} {Q : Option Value → Nat → Rho → Mem → Prop} (hn : 147 ≤ n) {p0 : Int} {p1 : Int}  (h : wpo (f10_bit D p0 p1) (fun a => Q (some (vI a)) n rt D)) : MOK l y10_bit c10_bit 2 (some .int) { frames := 0, cells := 0, slots := 0, locals := 0 } 0 0 X [vI p0, vI p1] n rt D Q := by
  refine MOK_of 10 (by decide +kernel) rfl (lv := [(0, vI p0), (1, vI p1)]) (Nat.le_of_ble_eq_true rfl) rfl (fun K hK F hnm => ?_)
  subst hK
  unfold f10_bit at h
  refine r_iload_n F 0 rfl rfl d10_bit_0 ?_
  refine r_iload_n F 1 rfl rfl d10_bit_1 ?_
  refine r_ishr F d10_bit_2 ?_
  refine r_iconst F (z := 1) d10_bit_3 ?_
  refine r_iand F d10_bit_4 ?_
  replace h := wpo_some h
  exact r_iret F h d10_bit_5
theorem d10_image_0 : decode c10_image 0 = .ok (.iload_n 1, 1) := by decide +kernel
theorem d10_image_1 : decode c10_image 1 = .ok (.i2l, 1) := by decide +kernel
theorem d10_image_2 : decode c10_image 2 = .ok (.lconst 0, 1) := by decide +kernel
theorem d10_image_3 : decode c10_image 3 = .ok (.ldc2_w 107, 3) := by decide +kernel
theorem d10_image_6 : decode c10_image 6 = .ok (.invokestatic 109, 3) := by decide +kernel
theorem d10_image_9 : decode c10_image 9 = .ok (.ifCond .ne 6, 3) := by decide +kernel
theorem d10_image_12 : decode c10_image 12 = .ok (.bipush (-2), 2) := by decide +kernel
theorem d10_image_14 : decode c10_image 14 = .ok (.ireturn, 1) := by decide +kernel
theorem d10_image_15 : decode c10_image 15 = .ok (.iconst 0, 1) := by decide +kernel
theorem d10_image_16 : decode c10_image 16 = .ok (.istore_n 2, 1) := by decide +kernel
theorem d10_image_17 : decode c10_image 17 = .ok (.iload_n 2, 1) := by decide +kernel
theorem d10_image_18 : decode c10_image 18 = .ok (.bipush 72, 2) := by decide +kernel
theorem d10_image_20 : decode c10_image 20 = .ok (.if_icmp .ge 26, 3) := by decide +kernel
theorem d10_image_23 : decode c10_image 23 = .ok (.aload_n 0, 1) := by decide +kernel
theorem d10_image_24 : decode c10_image 24 = .ok (.getfield 13, 3) := by decide +kernel
theorem d10_image_27 : decode c10_image 27 = .ok (.bipush 72, 2) := by decide +kernel
theorem d10_image_29 : decode c10_image 29 = .ok (.iload_n 1, 1) := by decide +kernel
theorem d10_image_30 : decode c10_image 30 = .ok (.imul, 1) := by decide +kernel
theorem d10_image_31 : decode c10_image 31 = .ok (.iload_n 2, 1) := by decide +kernel
theorem d10_image_32 : decode c10_image 32 = .ok (.iadd, 1) := by decide +kernel
theorem d10_image_33 : decode c10_image 33 = .ok (.aload_n 0, 1) := by decide +kernel
theorem d10_image_34 : decode c10_image 34 = .ok (.getfield 9, 3) := by decide +kernel
theorem d10_image_37 : decode c10_image 37 = .ok (.iload_n 2, 1) := by decide +kernel
theorem d10_image_38 : decode c10_image 38 = .ok (.iaload, 1) := by decide +kernel
theorem d10_image_39 : decode c10_image 39 = .ok (.iastore, 1) := by decide +kernel
theorem d10_image_40 : decode c10_image 40 = .ok (.iinc 2 1, 3) := by decide +kernel
theorem d10_image_43 : decode c10_image 43 = .ok (.goto (-26), 3) := by decide +kernel
theorem d10_image_46 : decode c10_image 46 = .ok (.aload_n 0, 1) := by decide +kernel
theorem d10_image_47 : decode c10_image 47 = .ok (.getfield 16, 3) := by decide +kernel
theorem d10_image_50 : decode c10_image 50 = .ok (.iload_n 1, 1) := by decide +kernel
theorem d10_image_51 : decode c10_image 51 = .ok (.iconst 1, 1) := by decide +kernel
theorem d10_image_52 : decode c10_image 52 = .ok (.bastore, 1) := by decide +kernel
theorem d10_image_53 : decode c10_image 53 = .ok (.iconst 0, 1) := by decide +kernel
theorem d10_image_54 : decode c10_image 54 = .ok (.ireturn, 1) := by decide +kernel
def f10_image (D : Mem) (p0 : Int) : Option (Int × Mem) :=
  Option.bind (f10_in D (w32 p0) 0 2) fun (a1 : Int) =>
  if w32 a1 = 0 then
    some ((-2), D)
  else
    Option.bind (@loop (Int × Mem) (Mem) (fun s1 =>
      if w32 s1.1 < w32 72 then
        if 0 ≤ s1.1 ∧ s1.1 < 72 then
          if 0 ≤ ((72 * p0) + s1.1) ∧ ((72 * p0) + s1.1) < 216 then
            some (Sum.inl ((s1.1 + 1), (mset s1.2 119 ((72 * p0) + s1.1).toNat (s1.2 118 s1.1.toNat))))
          else none
        else none
      else
        some (Sum.inr s1.2)
    ) FU (0, D)) fun (b1 : Mem) =>
    if 0 ≤ p0 ∧ p0 < 3 then
      some (0, (mset b1 120 p0.toNat 1))
    else none
set_option maxHeartbeats 4000000 in
theorem ok10_image {l : Launch} {X : XT} {n : Nat} {D : Mem} {Q : Option Value → Nat → Rho → Mem → Prop} (hn : 147 ≤ n) {p0 : Int}  (h : wpo (f10_image D p0) (fun a => Q (some (vI a.1)) n rt a.2)) : MOK l y10_image c10_image 3 (some .int) { frames := 1, cells := 0, slots := 0, locals := 25 } 0 0 X [vR X 117, vI p0] n rt D Q := by
  refine MOK_of 10 (by decide +kernel) rfl (lv := [(0, vR X 117), (1, vI p0)]) (Nat.le_of_ble_eq_true rfl) rfl (fun K hK F hnm => ?_)
  subst hK
  unfold f10_image at h
  refine r_iload_n F 1 rfl rfl d10_image_0 ?_
  refine r_i2l F d10_image_1 ?_
  refine r_lconst F (x := 0) (by decide) d10_image_2 ?_
  refine r_ldc2 F (z := 2) lc10_107 d10_image_3 ?_
  replace h := wpo_bind h
  refine r_callS0 F lm10_109 mf10_in rfl (fr := 0) (lo := 0) (As := [vL (w32 p0), vL 0, vL 2]) (rest := []) ⟨Nat.le_of_ble_eq_true rfl, Nat.le_of_ble_eq_true rfl⟩ rfl (Nat.le_of_ble_eq_true rfl) ⟨Nat.zero_le _, Nat.zero_le _⟩ d10_image_6 ?_
  refine ok10_in hn  (kI h (fun a1 h => ?_))
  refine r_if_ne F (tgt := 15) d10_image_9 (by decide) (fun hb => ?_) (fun hb => ?_)
  · replace h := wpo_neg h hb
    refine r_iconst F (z := 0) d10_image_15 ?_
    refine r_istore_n F (lv' := [(2, vI 0), (0, vR X 117), (1, vI p0)]) rfl (Nat.le_of_ble_eq_true rfl) rfl d10_image_16 ?_
    refine r_weak [1, 2, 0] rfl ?_
    refine at_loopj (A := fun (s1 : Int × Mem) => At K X (ZQ K X Q) 0 0 n rt 3 17 [(0, vR X 117), (1, vI p0), (2, vI s1.1)] [] s1.2) (B := fun (b1 : Mem) => At K X (ZQ K X Q) 0 0 n rt 3 46 [(0, vR X 117), (1, vI p0)] [] b1) h (fun b1 h => ?_) (fun s1 h => ?_)
    · refine r_aload_nR F 0 rfl rfl d10_image_46 ?_
      refine r_getR F (z := 120) lf10_16 (vc117 hn) z117_3 d10_image_47 ?_
      refine r_iload_n F 1 rfl rfl d10_image_50 ?_
      refine r_iconst F (z := 1) d10_image_51 ?_
      obtain ⟨hx3, h⟩ := wpo_chk h
      refine r_zast F (Or.inr rfl) (vc120 hn) hx3 d10_image_52 ?_
      refine r_iconst F (z := 0) d10_image_53 ?_
      replace h := wpo_some h
      exact r_iret F h d10_image_54
    · refine r_iload_n F 2 rfl rfl d10_image_17 ?_
      refine r_bipush F (z := 72) (by decide) d10_image_18 ?_
      refine r_icmp_ge F (tgt := 46) d10_image_20 (by decide) (fun hb => ?_) (fun hb => ?_)
      · replace h := wpo_neg h hb
        refine r_weak [0, 1] rfl ?_
        replace h := wpo_inr h
        exact h
      · replace h := wpo_pos h hb
        refine r_aload_nR F 0 rfl rfl d10_image_23 ?_
        refine r_getR F (z := 119) lf10_13 (vc117 hn) z117_2 d10_image_24 ?_
        refine r_bipush F (z := 72) (by decide) d10_image_27 ?_
        refine r_iload_n F 1 rfl rfl d10_image_29 ?_
        refine r_imul F d10_image_30 ?_
        refine r_iload_n F 2 rfl rfl d10_image_31 ?_
        refine r_iadd F d10_image_32 ?_
        refine r_aload_nR F 0 rfl rfl d10_image_33 ?_
        refine r_getR F (z := 118) lf10_9 (vc117 hn) z117_1 d10_image_34 ?_
        refine r_iload_n F 2 rfl rfl d10_image_37 ?_
        obtain ⟨hx1, h⟩ := wpo_chk h
        refine r_iald F (vc118 hn) hx1 d10_image_38 ?_
        obtain ⟨hx2, h⟩ := wpo_chk h
        refine r_iast F (vc119 hn) hx2 d10_image_39 ?_
        refine r_iinc F 2 (lv' := [(2, vI (s1.1 + 1)), (0, vR X 117), (1, vI p0)]) rfl (Nat.le_of_ble_eq_true rfl) rfl d10_image_40 ?_
        refine r_goto F (tgt := 17) (by decide) d10_image_43 ?_
        refine r_weak [1, 2, 0] rfl ?_
        replace h := wpo_inl h
        exact h
  · replace h := wpo_pos h hb
    refine r_bipush F (z := (-2)) (by decide) d10_image_12 ?_
    replace h := wpo_some h
    exact r_iret F h d10_image_14
theorem d10_back_0 : decode c10_back 0 = .ok (.iload_n 1, 1) := by decide +kernel
theorem d10_back_1 : decode c10_back 1 = .ok (.i2l, 1) := by decide +kernel
theorem d10_back_2 : decode c10_back 2 = .ok (.lconst 0, 1) := by decide +kernel
theorem d10_back_3 : decode c10_back 3 = .ok (.ldc2_w 107, 3) := by decide +kernel
theorem d10_back_6 : decode c10_back 6 = .ok (.invokestatic 109, 3) := by decide +kernel
theorem d10_back_9 : decode c10_back 9 = .ok (.ifCond .ne 6, 3) := by decide +kernel
theorem d10_back_12 : decode c10_back 12 = .ok (.bipush (-2), 2) := by decide +kernel
theorem d10_back_14 : decode c10_back 14 = .ok (.ireturn, 1) := by decide +kernel
theorem d10_back_15 : decode c10_back 15 = .ok (.aload_n 0, 1) := by decide +kernel
theorem d10_back_16 : decode c10_back 16 = .ok (.getfield 16, 3) := by decide +kernel
theorem d10_back_19 : decode c10_back 19 = .ok (.iload_n 1, 1) := by decide +kernel
theorem d10_back_20 : decode c10_back 20 = .ok (.baload, 1) := by decide +kernel
theorem d10_back_21 : decode c10_back 21 = .ok (.ifCond .ne 6, 3) := by decide +kernel
theorem d10_back_24 : decode c10_back 24 = .ok (.bipush (-6), 2) := by decide +kernel
theorem d10_back_26 : decode c10_back 26 = .ok (.ireturn, 1) := by decide +kernel
theorem d10_back_27 : decode c10_back 27 = .ok (.iconst 0, 1) := by decide +kernel
theorem d10_back_28 : decode c10_back 28 = .ok (.istore_n 2, 1) := by decide +kernel
theorem d10_back_29 : decode c10_back 29 = .ok (.iload_n 2, 1) := by decide +kernel
theorem d10_back_30 : decode c10_back 30 = .ok (.bipush 72, 2) := by decide +kernel
theorem d10_back_32 : decode c10_back 32 = .ok (.if_icmp .ge 26, 3) := by decide +kernel
theorem d10_back_35 : decode c10_back 35 = .ok (.aload_n 0, 1) := by decide +kernel
theorem d10_back_36 : decode c10_back 36 = .ok (.getfield 9, 3) := by decide +kernel
theorem d10_back_39 : decode c10_back 39 = .ok (.iload_n 2, 1) := by decide +kernel
theorem d10_back_40 : decode c10_back 40 = .ok (.aload_n 0, 1) := by decide +kernel
theorem d10_back_41 : decode c10_back 41 = .ok (.getfield 13, 3) := by decide +kernel
theorem d10_back_44 : decode c10_back 44 = .ok (.bipush 72, 2) := by decide +kernel
theorem d10_back_46 : decode c10_back 46 = .ok (.iload_n 1, 1) := by decide +kernel
theorem d10_back_47 : decode c10_back 47 = .ok (.imul, 1) := by decide +kernel
theorem d10_back_48 : decode c10_back 48 = .ok (.iload_n 2, 1) := by decide +kernel
theorem d10_back_49 : decode c10_back 49 = .ok (.iadd, 1) := by decide +kernel
theorem d10_back_50 : decode c10_back 50 = .ok (.iaload, 1) := by decide +kernel
theorem d10_back_51 : decode c10_back 51 = .ok (.iastore, 1) := by decide +kernel
theorem d10_back_52 : decode c10_back 52 = .ok (.iinc 2 1, 3) := by decide +kernel
theorem d10_back_55 : decode c10_back 55 = .ok (.goto (-26), 3) := by decide +kernel
theorem d10_back_58 : decode c10_back 58 = .ok (.iconst 0, 1) := by decide +kernel
theorem d10_back_59 : decode c10_back 59 = .ok (.ireturn, 1) := by decide +kernel
def f10_back (D : Mem) (p0 : Int) : Option (Int × Mem) :=
  Option.bind (f10_in D (w32 p0) 0 2) fun (a1 : Int) =>
  if w32 a1 = 0 then
    some ((-2), D)
  else
    if 0 ≤ p0 ∧ p0 < 3 then
      if w32 (D 120 p0.toNat) = 0 then
        some ((-6), D)
      else
        Option.bind (@loop (Int × Mem) (Mem) (fun s1 =>
          if w32 s1.1 < w32 72 then
            if 0 ≤ ((72 * p0) + s1.1) ∧ ((72 * p0) + s1.1) < 216 then
              if 0 ≤ s1.1 ∧ s1.1 < 72 then
                some (Sum.inl ((s1.1 + 1), (mset s1.2 118 s1.1.toNat (s1.2 119 ((72 * p0) + s1.1).toNat))))
              else none
            else none
          else
            some (Sum.inr s1.2)
        ) FU (0, D)) fun (b1 : Mem) =>
        some (0, b1)
    else none
set_option maxHeartbeats 4000000 in
theorem ok10_back {l : Launch} {X : XT} {n : Nat} {D : Mem} {Q : Option Value → Nat → Rho → Mem → Prop} (hn : 147 ≤ n) {p0 : Int}  (h : wpo (f10_back D p0) (fun a => Q (some (vI a.1)) n rt a.2)) : MOK l y10_back c10_back 3 (some .int) { frames := 1, cells := 0, slots := 0, locals := 25 } 0 0 X [vR X 117, vI p0] n rt D Q := by
  refine MOK_of 10 (by decide +kernel) rfl (lv := [(0, vR X 117), (1, vI p0)]) (Nat.le_of_ble_eq_true rfl) rfl (fun K hK F hnm => ?_)
  subst hK
  unfold f10_back at h
  refine r_iload_n F 1 rfl rfl d10_back_0 ?_
  refine r_i2l F d10_back_1 ?_
  refine r_lconst F (x := 0) (by decide) d10_back_2 ?_
  refine r_ldc2 F (z := 2) lc10_107 d10_back_3 ?_
  replace h := wpo_bind h
  refine r_callS0 F lm10_109 mf10_in rfl (fr := 0) (lo := 0) (As := [vL (w32 p0), vL 0, vL 2]) (rest := []) ⟨Nat.le_of_ble_eq_true rfl, Nat.le_of_ble_eq_true rfl⟩ rfl (Nat.le_of_ble_eq_true rfl) ⟨Nat.zero_le _, Nat.zero_le _⟩ d10_back_6 ?_
  refine ok10_in hn  (kI h (fun a1 h => ?_))
  refine r_if_ne F (tgt := 15) d10_back_9 (by decide) (fun hb => ?_) (fun hb => ?_)
  · replace h := wpo_neg h hb
    refine r_aload_nR F 0 rfl rfl d10_back_15 ?_
    refine r_getR F (z := 120) lf10_16 (vc117 hn) z117_3 d10_back_16 ?_
    refine r_iload_n F 1 rfl rfl d10_back_19 ?_
    obtain ⟨hx1, h⟩ := wpo_chk h
    refine r_zald F (vc120 hn) hx1 d10_back_20 ?_
    refine r_if_ne F (tgt := 27) d10_back_21 (by decide) (fun hb => ?_) (fun hb => ?_)
    · replace h := wpo_neg h hb
      refine r_iconst F (z := 0) d10_back_27 ?_
      refine r_istore_n F (lv' := [(2, vI 0), (0, vR X 117), (1, vI p0)]) rfl (Nat.le_of_ble_eq_true rfl) rfl d10_back_28 ?_
      refine r_weak [1, 2, 0] rfl ?_
      refine at_loopj (A := fun (s1 : Int × Mem) => At K X (ZQ K X Q) 0 0 n rt 3 29 [(0, vR X 117), (1, vI p0), (2, vI s1.1)] [] s1.2) (B := fun (b1 : Mem) => At K X (ZQ K X Q) 0 0 n rt 3 58 [] [] b1) h (fun b1 h => ?_) (fun s1 h => ?_)
      · refine r_iconst F (z := 0) d10_back_58 ?_
        replace h := wpo_some h
        exact r_iret F h d10_back_59
      · refine r_iload_n F 2 rfl rfl d10_back_29 ?_
        refine r_bipush F (z := 72) (by decide) d10_back_30 ?_
        refine r_icmp_ge F (tgt := 58) d10_back_32 (by decide) (fun hb => ?_) (fun hb => ?_)
        · replace h := wpo_neg h hb
          refine r_weak [] rfl ?_
          replace h := wpo_inr h
          exact h
        · replace h := wpo_pos h hb
          refine r_aload_nR F 0 rfl rfl d10_back_35 ?_
          refine r_getR F (z := 118) lf10_9 (vc117 hn) z117_1 d10_back_36 ?_
          refine r_iload_n F 2 rfl rfl d10_back_39 ?_
          refine r_aload_nR F 0 rfl rfl d10_back_40 ?_
          refine r_getR F (z := 119) lf10_13 (vc117 hn) z117_2 d10_back_41 ?_
          refine r_bipush F (z := 72) (by decide) d10_back_44 ?_
          refine r_iload_n F 1 rfl rfl d10_back_46 ?_
          refine r_imul F d10_back_47 ?_
          refine r_iload_n F 2 rfl rfl d10_back_48 ?_
          refine r_iadd F d10_back_49 ?_
          obtain ⟨hx2, h⟩ := wpo_chk h
          refine r_iald F (vc119 hn) hx2 d10_back_50 ?_
          obtain ⟨hx3, h⟩ := wpo_chk h
          refine r_iast F (vc118 hn) hx3 d10_back_51 ?_
          refine r_iinc F 2 (lv' := [(2, vI (s1.1 + 1)), (0, vR X 117), (1, vI p0)]) rfl (Nat.le_of_ble_eq_true rfl) rfl d10_back_52 ?_
          refine r_goto F (tgt := 29) (by decide) d10_back_55 ?_
          refine r_weak [1, 2, 0] rfl ?_
          replace h := wpo_inl h
          exact h
    · replace h := wpo_pos h hb
      refine r_bipush F (z := (-6)) (by decide) d10_back_24 ?_
      replace h := wpo_some h
      exact r_iret F h d10_back_26
  · replace h := wpo_pos h hb
    refine r_bipush F (z := (-2)) (by decide) d10_back_12 ?_
    replace h := wpo_some h
    exact r_iret F h d10_back_14
theorem d10_isParish_0 : decode c10_isParish 0 = .ok (.aload_n 0, 1) := by decide +kernel
theorem d10_isParish_1 : decode c10_isParish 1 = .ok (.getfield 9, 3) := by decide +kernel
theorem d10_isParish_4 : decode c10_isParish 4 = .ok (.bipush 9, 2) := by decide +kernel
theorem d10_isParish_6 : decode c10_isParish 6 = .ok (.iaload, 1) := by decide +kernel
theorem d10_isParish_7 : decode c10_isParish 7 = .ok (.ifCond .le 7, 3) := by decide +kernel
theorem d10_isParish_10 : decode c10_isParish 10 = .ok (.iconst 1, 1) := by decide +kernel
theorem d10_isParish_11 : decode c10_isParish 11 = .ok (.goto 4, 3) := by decide +kernel
theorem d10_isParish_14 : decode c10_isParish 14 = .ok (.iconst 0, 1) := by decide +kernel
theorem d10_isParish_15 : decode c10_isParish 15 = .ok (.ireturn, 1) := by decide +kernel
def f10_isParish (D : Mem) : Option (Int) :=
  if 0 < w32 (D 118 9) then
    some 1
  else
    some 0
set_option maxHeartbeats 4000000 in
theorem ok10_isParish {l : Launch} {X : XT} {n : Nat} {D : Mem} {Q : Option Value → Nat → Rho → Mem → Prop} (hn : 147 ≤ n)  (h : wpo (f10_isParish D) (fun a => Q (some (vI a)) n rt D)) : MOK l y10_isParish c10_isParish 1 (some .boolean) { frames := 0, cells := 0, slots := 0, locals := 0 } 0 0 X [vR X 117] n rt D Q := by
  refine MOK_of 10 (by decide +kernel) rfl (lv := [(0, vR X 117)]) (Nat.le_of_ble_eq_true rfl) rfl (fun K hK F hnm => ?_)
  subst hK
  unfold f10_isParish at h
  refine r_aload_nR F 0 rfl rfl d10_isParish_0 ?_
  refine r_getR F (z := 118) lf10_9 (vc117 hn) z117_1 d10_isParish_1 ?_
  refine r_bipush F (z := 9) (by decide) d10_isParish_4 ?_
  refine r_ialdC F (j := 9) (vc118 hn) (by decide) rfl d10_isParish_6 ?_
  refine r_if_le F (tgt := 14) d10_isParish_7 (by decide) (fun hb => ?_) (fun hb => ?_)
  · replace h := wpo_neg h hb
    refine r_iconst F (z := 0) d10_isParish_14 ?_
    replace h := wpo_some h
    exact r_zret F (Or.inl rfl) h d10_isParish_15
  · replace h := wpo_pos h hb
    refine r_iconst F (z := 1) d10_isParish_10 ?_
    refine r_goto F (tgt := 15) (by decide) d10_isParish_11 ?_
    replace h := wpo_some h
    exact r_zret F (Or.inr rfl) h d10_isParish_15
theorem d10_isNight_0 : decode c10_isNight 0 = .ok (.lload_n 1, 1) := by decide +kernel
theorem d10_isNight_1 : decode c10_isNight 1 = .ok (.lconst 0, 1) := by decide +kernel
theorem d10_isNight_2 : decode c10_isNight 2 = .ok (.aload_n 0, 1) := by decide +kernel
theorem d10_isNight_3 : decode c10_isNight 3 = .ok (.getfield 9, 3) := by decide +kernel
theorem d10_isNight_6 : decode c10_isNight 6 = .ok (.iconst 0, 1) := by decide +kernel
theorem d10_isNight_7 : decode c10_isNight 7 = .ok (.iaload, 1) := by decide +kernel
theorem d10_isNight_8 : decode c10_isNight 8 = .ok (.iconst 1, 1) := by decide +kernel
theorem d10_isNight_9 : decode c10_isNight 9 = .ok (.isub, 1) := by decide +kernel
theorem d10_isNight_10 : decode c10_isNight 10 = .ok (.i2l, 1) := by decide +kernel
theorem d10_isNight_11 : decode c10_isNight 11 = .ok (.invokestatic 109, 3) := by decide +kernel
theorem d10_isNight_14 : decode c10_isNight 14 = .ok (.ireturn, 1) := by decide +kernel
def f10_isNight (D : Mem) (p0 : Int) : Option (Int) :=
  Option.bind (f10_in D p0 0 (w32 ((D 118 0) - 1))) fun (a1 : Int) =>
  if a1 = 0 ∨ a1 = 1 then
    some a1
  else none
set_option maxHeartbeats 4000000 in
theorem ok10_isNight {l : Launch} {X : XT} {n : Nat} {D : Mem} {Q : Option Value → Nat → Rho → Mem → Prop} (hn : 147 ≤ n) {p0 : Int}  (h : wpo (f10_isNight D p0) (fun a => Q (some (vI a)) n rt D)) : MOK l y10_isNight c10_isNight 3 (some .boolean) { frames := 1, cells := 0, slots := 0, locals := 25 } 0 0 X [vR X 117, vL p0] n rt D Q := by
  refine MOK_of 10 (by decide +kernel) rfl (lv := [(0, vR X 117), (1, vL p0)]) (Nat.le_of_ble_eq_true rfl) rfl (fun K hK F hnm => ?_)
  subst hK
  unfold f10_isNight at h
  refine r_lload_n F 1 rfl rfl d10_isNight_0 ?_
  refine r_lconst F (x := 0) (by decide) d10_isNight_1 ?_
  refine r_aload_nR F 0 rfl rfl d10_isNight_2 ?_
  refine r_getR F (z := 118) lf10_9 (vc117 hn) z117_1 d10_isNight_3 ?_
  refine r_iconst F (z := 0) d10_isNight_6 ?_
  refine r_ialdC F (j := 0) (vc118 hn) (by decide) rfl d10_isNight_7 ?_
  refine r_iconst F (z := 1) d10_isNight_8 ?_
  refine r_isub F d10_isNight_9 ?_
  refine r_i2l F d10_isNight_10 ?_
  replace h := wpo_bind h
  refine r_callS0 F lm10_109 mf10_in rfl (fr := 0) (lo := 0) (As := [vL p0, vL 0, vL (w32 ((D 118 0) - 1))]) (rest := []) ⟨Nat.le_of_ble_eq_true rfl, Nat.le_of_ble_eq_true rfl⟩ rfl (Nat.le_of_ble_eq_true rfl) ⟨Nat.zero_le _, Nat.zero_le _⟩ d10_isNight_11 ?_
  refine ok10_in hn  (kI h (fun a1 h => ?_))
  obtain ⟨hx1, h⟩ := wpo_chk h
  replace h := wpo_some h
  exact r_zret F hx1 h d10_isNight_14
theorem d10_isPerson_0 : decode c10_isPerson 0 = .ok (.iload_n 1, 1) := by decide +kernel
theorem d10_isPerson_1 : decode c10_isPerson 1 = .ok (.i2l, 1) := by decide +kernel
theorem d10_isPerson_2 : decode c10_isPerson 2 = .ok (.lconst 0, 1) := by decide +kernel
theorem d10_isPerson_3 : decode c10_isPerson 3 = .ok (.aload_n 0, 1) := by decide +kernel
theorem d10_isPerson_4 : decode c10_isPerson 4 = .ok (.getfield 9, 3) := by decide +kernel
theorem d10_isPerson_7 : decode c10_isPerson 7 = .ok (.bipush 7, 2) := by decide +kernel
theorem d10_isPerson_9 : decode c10_isPerson 9 = .ok (.iaload, 1) := by decide +kernel
theorem d10_isPerson_10 : decode c10_isPerson 10 = .ok (.iconst 1, 1) := by decide +kernel
theorem d10_isPerson_11 : decode c10_isPerson 11 = .ok (.isub, 1) := by decide +kernel
theorem d10_isPerson_12 : decode c10_isPerson 12 = .ok (.i2l, 1) := by decide +kernel
theorem d10_isPerson_13 : decode c10_isPerson 13 = .ok (.invokestatic 109, 3) := by decide +kernel
theorem d10_isPerson_16 : decode c10_isPerson 16 = .ok (.ireturn, 1) := by decide +kernel
def f10_isPerson (D : Mem) (p0 : Int) : Option (Int) :=
  Option.bind (f10_in D (w32 p0) 0 (w32 ((D 118 7) - 1))) fun (a1 : Int) =>
  if a1 = 0 ∨ a1 = 1 then
    some a1
  else none
set_option maxHeartbeats 4000000 in
theorem ok10_isPerson {l : Launch} {X : XT} {n : Nat} {D : Mem} {Q : Option Value → Nat → Rho → Mem → Prop} (hn : 147 ≤ n) {p0 : Int}  (h : wpo (f10_isPerson D p0) (fun a => Q (some (vI a)) n rt D)) : MOK l y10_isPerson c10_isPerson 2 (some .boolean) { frames := 1, cells := 0, slots := 0, locals := 25 } 0 0 X [vR X 117, vI p0] n rt D Q := by
  refine MOK_of 10 (by decide +kernel) rfl (lv := [(0, vR X 117), (1, vI p0)]) (Nat.le_of_ble_eq_true rfl) rfl (fun K hK F hnm => ?_)
  subst hK
  unfold f10_isPerson at h
  refine r_iload_n F 1 rfl rfl d10_isPerson_0 ?_
  refine r_i2l F d10_isPerson_1 ?_
  refine r_lconst F (x := 0) (by decide) d10_isPerson_2 ?_
  refine r_aload_nR F 0 rfl rfl d10_isPerson_3 ?_
  refine r_getR F (z := 118) lf10_9 (vc117 hn) z117_1 d10_isPerson_4 ?_
  refine r_bipush F (z := 7) (by decide) d10_isPerson_7 ?_
  refine r_ialdC F (j := 7) (vc118 hn) (by decide) rfl d10_isPerson_9 ?_
  refine r_iconst F (z := 1) d10_isPerson_10 ?_
  refine r_isub F d10_isPerson_11 ?_
  refine r_i2l F d10_isPerson_12 ?_
  replace h := wpo_bind h
  refine r_callS0 F lm10_109 mf10_in rfl (fr := 0) (lo := 0) (As := [vL (w32 p0), vL 0, vL (w32 ((D 118 7) - 1))]) (rest := []) ⟨Nat.le_of_ble_eq_true rfl, Nat.le_of_ble_eq_true rfl⟩ rfl (Nat.le_of_ble_eq_true rfl) ⟨Nat.zero_le _, Nat.zero_le _⟩ d10_isPerson_13 ?_
  refine ok10_in hn  (kI h (fun a1 h => ?_))
  obtain ⟨hx1, h⟩ := wpo_chk h
  replace h := wpo_some h
  exact r_zret F hx1 h d10_isPerson_16
theorem d10_isSet_0 : decode c10_isSet 0 = .ok (.aload_n 0, 1) := by decide +kernel
theorem d10_isSet_1 : decode c10_isSet 1 = .ok (.invokevirtual 113, 3) := by decide +kernel
theorem d10_isSet_4 : decode c10_isSet 4 = .ok (.ifCond .eq 28, 3) := by decide +kernel
theorem d10_isSet_7 : decode c10_isSet 7 = .ok (.iload_n 1, 1) := by decide +kernel
theorem d10_isSet_8 : decode c10_isSet 8 = .ok (.i2l, 1) := by decide +kernel
theorem d10_isSet_9 : decode c10_isSet 9 = .ok (.lconst 0, 1) := by decide +kernel
theorem d10_isSet_10 : decode c10_isSet 10 = .ok (.iconst 1, 1) := by decide +kernel
theorem d10_isSet_11 : decode c10_isSet 11 = .ok (.aload_n 0, 1) := by decide +kernel
theorem d10_isSet_12 : decode c10_isSet 12 = .ok (.getfield 9, 3) := by decide +kernel
theorem d10_isSet_15 : decode c10_isSet 15 = .ok (.bipush 7, 2) := by decide +kernel
theorem d10_isSet_17 : decode c10_isSet 17 = .ok (.iaload, 1) := by decide +kernel
theorem d10_isSet_18 : decode c10_isSet 18 = .ok (.ishl, 1) := by decide +kernel
theorem d10_isSet_19 : decode c10_isSet 19 = .ok (.iconst 1, 1) := by decide +kernel
theorem d10_isSet_20 : decode c10_isSet 20 = .ok (.isub, 1) := by decide +kernel
theorem d10_isSet_21 : decode c10_isSet 21 = .ok (.i2l, 1) := by decide +kernel
theorem d10_isSet_22 : decode c10_isSet 22 = .ok (.invokestatic 109, 3) := by decide +kernel
theorem d10_isSet_25 : decode c10_isSet 25 = .ok (.ifCond .eq 7, 3) := by decide +kernel
theorem d10_isSet_28 : decode c10_isSet 28 = .ok (.iconst 1, 1) := by decide +kernel
theorem d10_isSet_29 : decode c10_isSet 29 = .ok (.goto 4, 3) := by decide +kernel
theorem d10_isSet_32 : decode c10_isSet 32 = .ok (.iconst 0, 1) := by decide +kernel
theorem d10_isSet_33 : decode c10_isSet 33 = .ok (.ireturn, 1) := by decide +kernel
def f10_isSet (D : Mem) (p0 : Int) : Option (Int) :=
  Option.bind (f10_isParish D) fun (a1 : Int) =>
  if w32 a1 = 0 then
    some 0
  else
    Option.bind (f10_in D (w32 p0) 0 (w32 ((shl32 1 (D 118 7)) - 1))) fun (a2 : Int) =>
    if w32 a2 = 0 then
      some 0
    else
      some 1
set_option maxHeartbeats 4000000 in
theorem ok10_isSet {l : Launch} {X : XT} {n : Nat} {D : Mem} {Q : Option Value → Nat → Rho → Mem → Prop} (hn : 147 ≤ n) {p0 : Int}  (h : wpo (f10_isSet D p0) (fun a => Q (some (vI a)) n rt D)) : MOK l y10_isSet c10_isSet 2 (some .boolean) { frames := 1, cells := 0, slots := 0, locals := 25 } 0 0 X [vR X 117, vI p0] n rt D Q := by
  refine MOK_of 10 (by decide +kernel) rfl (lv := [(0, vR X 117), (1, vI p0)]) (Nat.le_of_ble_eq_true rfl) rfl (fun K hK F hnm => ?_)
  subst hK
  unfold f10_isSet at h
  refine r_aload_nR F 0 rfl rfl d10_isSet_0 ?_
  replace h := wpo_bind h
  refine r_callV0 F lm10_113 mf10_isParish (vc117 hn) rfl (fr := 0) (lo := 0) (As := []) (rest := []) ⟨Nat.le_of_ble_eq_true rfl, Nat.le_of_ble_eq_true rfl⟩ rfl (Nat.le_of_ble_eq_true rfl) ⟨Nat.zero_le _, Nat.zero_le _⟩ d10_isSet_1 ?_
  refine ok10_isParish hn  (kI h (fun a1 h => ?_))
  refine r_if_eq F (tgt := 32) d10_isSet_4 (by decide) (fun hb => ?_) (fun hb => ?_)
  · replace h := wpo_pos h hb
    refine r_iconst F (z := 0) d10_isSet_32 ?_
    replace h := wpo_some h
    exact r_zret F (Or.inl rfl) h d10_isSet_33
  · replace h := wpo_neg h hb
    refine r_iload_n F 1 rfl rfl d10_isSet_7 ?_
    refine r_i2l F d10_isSet_8 ?_
    refine r_lconst F (x := 0) (by decide) d10_isSet_9 ?_
    refine r_iconst F (z := 1) d10_isSet_10 ?_
    refine r_aload_nR F 0 rfl rfl d10_isSet_11 ?_
    refine r_getR F (z := 118) lf10_9 (vc117 hn) z117_1 d10_isSet_12 ?_
    refine r_bipush F (z := 7) (by decide) d10_isSet_15 ?_
    refine r_ialdC F (j := 7) (vc118 hn) (by decide) rfl d10_isSet_17 ?_
    refine r_ishl F d10_isSet_18 ?_
    refine r_iconst F (z := 1) d10_isSet_19 ?_
    refine r_isub F d10_isSet_20 ?_
    refine r_i2l F d10_isSet_21 ?_
    replace h := wpo_bind h
    refine r_callS0 F lm10_109 mf10_in rfl (fr := 0) (lo := 0) (As := [vL (w32 p0), vL 0, vL (w32 ((shl32 1 (D 118 7)) - 1))]) (rest := []) ⟨Nat.le_of_ble_eq_true rfl, Nat.le_of_ble_eq_true rfl⟩ rfl (Nat.le_of_ble_eq_true rfl) ⟨Nat.zero_le _, Nat.zero_le _⟩ d10_isSet_22 ?_
    refine ok10_in hn  (kI h (fun a2 h => ?_))
    refine r_if_eq F (tgt := 32) d10_isSet_25 (by decide) (fun hb => ?_) (fun hb => ?_)
    · replace h := wpo_pos h hb
      refine r_iconst F (z := 0) d10_isSet_32 ?_
      replace h := wpo_some h
      exact r_zret F (Or.inl rfl) h d10_isSet_33
    · replace h := wpo_neg h hb
      refine r_iconst F (z := 1) d10_isSet_28 ?_
      refine r_goto F (tgt := 33) (by decide) d10_isSet_29 ?_
      replace h := wpo_some h
      exact r_zret F (Or.inr rfl) h d10_isSet_33
theorem d10_isRule_0 : decode c10_isRule 0 = .ok (.iload_n 0, 1) := by decide +kernel
theorem d10_isRule_1 : decode c10_isRule 1 = .ok (.i2l, 1) := by decide +kernel
theorem d10_isRule_2 : decode c10_isRule 2 = .ok (.lconst 0, 1) := by decide +kernel
theorem d10_isRule_3 : decode c10_isRule 3 = .ok (.ldc2_w 117, 3) := by decide +kernel
theorem d10_isRule_6 : decode c10_isRule 6 = .ok (.invokestatic 109, 3) := by decide +kernel
theorem d10_isRule_9 : decode c10_isRule 9 = .ok (.ireturn, 1) := by decide +kernel
def f10_isRule (D : Mem) (p0 : Int) : Option (Int) :=
  Option.bind (f10_in D (w32 p0) 0 3) fun (a1 : Int) =>
  if a1 = 0 ∨ a1 = 1 then
    some a1
  else none
set_option maxHeartbeats 4000000 in
theorem ok10_isRule {l : Launch} {X : XT} {n : Nat} {D : Mem} {Q : Option Value → Nat → Rho → Mem → Prop} (hn : 147 ≤ n) {p0 : Int}  (h : wpo (f10_isRule D p0) (fun a => Q (some (vI a)) n rt D)) : MOK l y10_isRule c10_isRule 1 (some .boolean) { frames := 1, cells := 0, slots := 0, locals := 25 } 0 0 X [vI p0] n rt D Q := by
  refine MOK_of 10 (by decide +kernel) rfl (lv := [(0, vI p0)]) (Nat.le_of_ble_eq_true rfl) rfl (fun K hK F hnm => ?_)
  subst hK
  unfold f10_isRule at h
  refine r_iload_n F 0 rfl rfl d10_isRule_0 ?_
  refine r_i2l F d10_isRule_1 ?_
  refine r_lconst F (x := 0) (by decide) d10_isRule_2 ?_
  refine r_ldc2 F (z := 3) lc10_117 d10_isRule_3 ?_
  replace h := wpo_bind h
  refine r_callS0 F lm10_109 mf10_in rfl (fr := 0) (lo := 0) (As := [vL (w32 p0), vL 0, vL 3]) (rest := []) ⟨Nat.le_of_ble_eq_true rfl, Nat.le_of_ble_eq_true rfl⟩ rfl (Nat.le_of_ble_eq_true rfl) ⟨Nat.zero_le _, Nat.zero_le _⟩ d10_isRule_6 ?_
  refine ok10_in hn  (kI h (fun a1 h => ?_))
  obtain ⟨hx1, h⟩ := wpo_chk h
  replace h := wpo_some h
  exact r_zret F hx1 h d10_isRule_9
theorem d10_feed_0 : decode c10_feed 0 = .ok (.aload_n 0, 1) := by decide +kernel
theorem d10_feed_1 : decode c10_feed 1 = .ok (.getfield 119, 3) := by decide +kernel
theorem d10_feed_4 : decode c10_feed 4 = .ok (.bipush 20, 2) := by decide +kernel
theorem d10_feed_6 : decode c10_feed 6 = .ok (.iadd, 1) := by decide +kernel
theorem d10_feed_7 : decode c10_feed 7 = .ok (.sipush 700, 3) := by decide +kernel
theorem d10_feed_10 : decode c10_feed 10 = .ok (.if_icmp .le 5, 3) := by decide +kernel
theorem d10_feed_13 : decode c10_feed 13 = .ok (.iconst (-1), 1) := by decide +kernel
theorem d10_feed_14 : decode c10_feed 14 = .ok (.ireturn, 1) := by decide +kernel
theorem d10_feed_15 : decode c10_feed 15 = .ok (.aload_n 0, 1) := by decide +kernel
theorem d10_feed_16 : decode c10_feed 16 = .ok (.getfield 24, 3) := by decide +kernel
theorem d10_feed_19 : decode c10_feed 19 = .ok (.iconst 0, 1) := by decide +kernel
theorem d10_feed_20 : decode c10_feed 20 = .ok (.iload_n 1, 1) := by decide +kernel
theorem d10_feed_21 : decode c10_feed 21 = .ok (.iastore, 1) := by decide +kernel
theorem d10_feed_22 : decode c10_feed 22 = .ok (.aload_n 0, 1) := by decide +kernel
theorem d10_feed_23 : decode c10_feed 23 = .ok (.getfield 24, 3) := by decide +kernel
theorem d10_feed_26 : decode c10_feed 26 = .ok (.iconst 1, 1) := by decide +kernel
theorem d10_feed_27 : decode c10_feed 27 = .ok (.iload_n 2, 1) := by decide +kernel
theorem d10_feed_28 : decode c10_feed 28 = .ok (.iastore, 1) := by decide +kernel
theorem d10_feed_29 : decode c10_feed 29 = .ok (.aload_n 0, 1) := by decide +kernel
theorem d10_feed_30 : decode c10_feed 30 = .ok (.getfield 24, 3) := by decide +kernel
theorem d10_feed_33 : decode c10_feed 33 = .ok (.iconst 2, 1) := by decide +kernel
theorem d10_feed_34 : decode c10_feed 34 = .ok (.iload_n 3, 1) := by decide +kernel
theorem d10_feed_35 : decode c10_feed 35 = .ok (.iastore, 1) := by decide +kernel
theorem d10_feed_36 : decode c10_feed 36 = .ok (.aload_n 0, 1) := by decide +kernel
theorem d10_feed_37 : decode c10_feed 37 = .ok (.getfield 24, 3) := by decide +kernel
theorem d10_feed_40 : decode c10_feed 40 = .ok (.iconst 3, 1) := by decide +kernel
theorem d10_feed_41 : decode c10_feed 41 = .ok (.iload 4, 2) := by decide +kernel
theorem d10_feed_43 : decode c10_feed 43 = .ok (.iastore, 1) := by decide +kernel
theorem d10_feed_44 : decode c10_feed 44 = .ok (.aload_n 0, 1) := by decide +kernel
theorem d10_feed_45 : decode c10_feed 45 = .ok (.getfield 24, 3) := by decide +kernel
theorem d10_feed_48 : decode c10_feed 48 = .ok (.iconst 4, 1) := by decide +kernel
theorem d10_feed_49 : decode c10_feed 49 = .ok (.iload 5, 2) := by decide +kernel
theorem d10_feed_51 : decode c10_feed 51 = .ok (.iastore, 1) := by decide +kernel
theorem d10_feed_52 : decode c10_feed 52 = .ok (.iconst 0, 1) := by decide +kernel
theorem d10_feed_53 : decode c10_feed 53 = .ok (.istore 6, 2) := by decide +kernel
theorem d10_feed_55 : decode c10_feed 55 = .ok (.iload 6, 2) := by decide +kernel
theorem d10_feed_57 : decode c10_feed 57 = .ok (.bipush 20, 2) := by decide +kernel
theorem d10_feed_59 : decode c10_feed 59 = .ok (.if_icmp .ge 42, 3) := by decide +kernel
theorem d10_feed_62 : decode c10_feed 62 = .ok (.aload_n 0, 1) := by decide +kernel
theorem d10_feed_63 : decode c10_feed 63 = .ok (.getfield 20, 3) := by decide +kernel
theorem d10_feed_66 : decode c10_feed 66 = .ok (.aload_n 0, 1) := by decide +kernel
theorem d10_feed_67 : decode c10_feed 67 = .ok (.getfield 119, 3) := by decide +kernel
theorem d10_feed_70 : decode c10_feed 70 = .ok (.iload 6, 2) := by decide +kernel
theorem d10_feed_72 : decode c10_feed 72 = .ok (.iadd, 1) := by decide +kernel
theorem d10_feed_73 : decode c10_feed 73 = .ok (.aload_n 0, 1) := by decide +kernel
theorem d10_feed_74 : decode c10_feed 74 = .ok (.getfield 24, 3) := by decide +kernel
theorem d10_feed_77 : decode c10_feed 77 = .ok (.iload 6, 2) := by decide +kernel
theorem d10_feed_79 : decode c10_feed 79 = .ok (.iconst 4, 1) := by decide +kernel
theorem d10_feed_80 : decode c10_feed 80 = .ok (.idiv, 1) := by decide +kernel
theorem d10_feed_81 : decode c10_feed 81 = .ok (.iaload, 1) := by decide +kernel
theorem d10_feed_82 : decode c10_feed 82 = .ok (.bipush 24, 2) := by decide +kernel
theorem d10_feed_84 : decode c10_feed 84 = .ok (.bipush 8, 2) := by decide +kernel
theorem d10_feed_86 : decode c10_feed 86 = .ok (.iload 6, 2) := by decide +kernel
theorem d10_feed_88 : decode c10_feed 88 = .ok (.iconst 4, 1) := by decide +kernel
theorem d10_feed_89 : decode c10_feed 89 = .ok (.irem, 1) := by decide +kernel
theorem d10_feed_90 : decode c10_feed 90 = .ok (.imul, 1) := by decide +kernel
theorem d10_feed_91 : decode c10_feed 91 = .ok (.isub, 1) := by decide +kernel
theorem d10_feed_92 : decode c10_feed 92 = .ok (.ishr, 1) := by decide +kernel
theorem d10_feed_93 : decode c10_feed 93 = .ok (.i2b, 1) := by decide +kernel
theorem d10_feed_94 : decode c10_feed 94 = .ok (.bastore, 1) := by decide +kernel
theorem d10_feed_95 : decode c10_feed 95 = .ok (.iinc 6 1, 3) := by decide +kernel
theorem d10_feed_98 : decode c10_feed 98 = .ok (.goto (-43), 3) := by decide +kernel
theorem d10_feed_101 : decode c10_feed 101 = .ok (.aload_n 0, 1) := by decide +kernel
theorem d10_feed_102 : decode c10_feed 102 = .ok (.dup, 1) := by decide +kernel
theorem d10_feed_103 : decode c10_feed 103 = .ok (.getfield 119, 3) := by decide +kernel
theorem d10_feed_106 : decode c10_feed 106 = .ok (.bipush 20, 2) := by decide +kernel
theorem d10_feed_108 : decode c10_feed 108 = .ok (.iadd, 1) := by decide +kernel
theorem d10_feed_109 : decode c10_feed 109 = .ok (.putfield 119, 3) := by decide +kernel
theorem d10_feed_112 : decode c10_feed 112 = .ok (.aload_n 0, 1) := by decide +kernel
theorem d10_feed_113 : decode c10_feed 113 = .ok (.getfield 119, 3) := by decide +kernel
theorem d10_feed_116 : decode c10_feed 116 = .ok (.ireturn, 1) := by decide +kernel
def f10_feed (D : Mem) (p0 : Int) (p1 : Int) (p2 : Int) (p3 : Int) (p4 : Int) : Option (Int × Mem) :=
  if w32 700 < w32 ((D 117 5) + 20) then
    some ((-1), D)
  else
    Option.bind (some (mset D 122 0 p0)) fun (D1 : Mem) =>
    Option.bind (some (mset D1 122 1 p1)) fun (D2 : Mem) =>
    Option.bind (some (mset D2 122 2 p2)) fun (D3 : Mem) =>
    Option.bind (some (mset D3 122 3 p3)) fun (D4 : Mem) =>
    Option.bind (some (mset D4 122 4 p4)) fun (D5 : Mem) =>
    Option.bind (@loop (Int × Mem) (Mem) (fun s1 =>
      if w32 s1.1 < w32 20 then
        if 0 ≤ (div32 s1.1 4) ∧ (div32 s1.1 4) < 5 then
          if 0 ≤ ((s1.2 117 5) + s1.1) ∧ ((s1.2 117 5) + s1.1) < 700 then
            some (Sum.inl ((s1.1 + 1), (mset s1.2 121 ((s1.2 117 5) + s1.1).toNat (w8 (w8 (shr32 (s1.2 122 (div32 s1.1 4).toNat) (24 - (8 * (rem32 s1.1 4)))))))))
          else none
        else none
      else
        some (Sum.inr s1.2)
    ) FU (0, D5)) fun (b1 : Mem) =>
    Option.bind (some (mset b1 117 5 ((b1 117 5) + 20))) fun (D6 : Mem) =>
    some ((D6 117 5), D6)
set_option maxHeartbeats 4000000 in
theorem ok10_feed {l : Launch} {X : XT} {n : Nat} {D : Mem} {Q : Option Value → Nat → Rho → Mem → Prop} (hn : 147 ≤ n) {p0 : Int} {p1 : Int} {p2 : Int} {p3 : Int} {p4 : Int}  (h : wpo (f10_feed D p0 p1 p2 p3 p4) (fun a => Q (some (vI a.1)) n rt a.2)) : MOK l y10_feed c10_feed 7 (some .int) { frames := 0, cells := 0, slots := 0, locals := 0 } 0 0 X [vR X 117, vI p0, vI p1, vI p2, vI p3, vI p4] n rt D Q := by
  refine MOK_of 10 (by decide +kernel) rfl (lv := [(0, vR X 117), (1, vI p0), (2, vI p1), (3, vI p2), (4, vI p3), (5, vI p4)]) (Nat.le_of_ble_eq_true rfl) rfl (fun K hK F hnm => ?_)
  subst hK
  unfold f10_feed at h
  refine r_aload_nR F 0 rfl rfl d10_feed_0 ?_
  refine r_getI F lf10_119 (vc117 hn) d10_feed_1 ?_
  refine r_bipush F (z := 20) (by decide) d10_feed_4 ?_
  refine r_iadd F d10_feed_6 ?_
  refine r_sipush F (z := 700) (by decide) d10_feed_7 ?_
  refine r_icmp_le F (tgt := 15) d10_feed_10 (by decide) (fun hb => ?_) (fun hb => ?_)
  · replace h := wpo_neg h hb
    refine r_aload_nR F 0 rfl rfl d10_feed_15 ?_
    refine r_getR F (z := 122) lf10_24 (vc117 hn) z117_6 d10_feed_16 ?_
    refine r_iconst F (z := 0) d10_feed_19 ?_
    refine r_iload_n F 1 rfl rfl d10_feed_20 ?_
    refine r_iastC F (j := 0) (vc122 hn) (by decide) rfl d10_feed_21 ?_
    refine r_aload_nR F 0 rfl rfl d10_feed_22 ?_
    refine r_getR F (z := 122) lf10_24 (vc117 hn) z117_6 d10_feed_23 ?_
    refine r_iconst F (z := 1) d10_feed_26 ?_
    refine r_iload_n F 2 rfl rfl d10_feed_27 ?_
    refine at_name (B := fun (D1 : Mem) => At K X (ZQ K X Q) 0 0 n rt 7 28 [(0, vR X 117), (1, vI p0), (2, vI p1), (3, vI p2), (4, vI p3), (5, vI p4)] [vI p1, vI 1, vR X 122] D1) h (fun D1 h => ?_)
    refine r_iastC F (j := 1) (vc122 hn) (by decide) rfl d10_feed_28 ?_
    refine r_aload_nR F 0 rfl rfl d10_feed_29 ?_
    refine r_getR F (z := 122) lf10_24 (vc117 hn) z117_6 d10_feed_30 ?_
    refine r_iconst F (z := 2) d10_feed_33 ?_
    refine r_iload_n F 3 rfl rfl d10_feed_34 ?_
    refine at_name (B := fun (D2 : Mem) => At K X (ZQ K X Q) 0 0 n rt 7 35 [(0, vR X 117), (1, vI p0), (2, vI p1), (3, vI p2), (4, vI p3), (5, vI p4)] [vI p2, vI 2, vR X 122] D2) h (fun D2 h => ?_)
    refine r_iastC F (j := 2) (vc122 hn) (by decide) rfl d10_feed_35 ?_
    refine r_aload_nR F 0 rfl rfl d10_feed_36 ?_
    refine r_getR F (z := 122) lf10_24 (vc117 hn) z117_6 d10_feed_37 ?_
    refine r_iconst F (z := 3) d10_feed_40 ?_
    refine r_iload F 4 rfl d10_feed_41 ?_
    refine at_name (B := fun (D3 : Mem) => At K X (ZQ K X Q) 0 0 n rt 7 43 [(0, vR X 117), (1, vI p0), (2, vI p1), (3, vI p2), (4, vI p3), (5, vI p4)] [vI p3, vI 3, vR X 122] D3) h (fun D3 h => ?_)
    refine r_iastC F (j := 3) (vc122 hn) (by decide) rfl d10_feed_43 ?_
    refine r_aload_nR F 0 rfl rfl d10_feed_44 ?_
    refine r_getR F (z := 122) lf10_24 (vc117 hn) z117_6 d10_feed_45 ?_
    refine r_iconst F (z := 4) d10_feed_48 ?_
    refine r_iload F 5 rfl d10_feed_49 ?_
    refine at_name (B := fun (D4 : Mem) => At K X (ZQ K X Q) 0 0 n rt 7 51 [(0, vR X 117), (1, vI p0), (2, vI p1), (3, vI p2), (4, vI p3), (5, vI p4)] [vI p4, vI 4, vR X 122] D4) h (fun D4 h => ?_)
    refine r_iastC F (j := 4) (vc122 hn) (by decide) rfl d10_feed_51 ?_
    refine r_iconst F (z := 0) d10_feed_52 ?_
    refine r_istore F (lv' := [(6, vI 0), (0, vR X 117), (1, vI p0), (2, vI p1), (3, vI p2), (4, vI p3), (5, vI p4)]) (Nat.le_of_ble_eq_true rfl) rfl d10_feed_53 ?_
    refine at_name (B := fun (D5 : Mem) => At K X (ZQ K X Q) 0 0 n rt 7 55 [(6, vI 0), (0, vR X 117), (1, vI p0), (2, vI p1), (3, vI p2), (4, vI p3), (5, vI p4)] [] D5) h (fun D5 h => ?_)
    refine r_weak [1, 0] rfl ?_
    refine at_loopj (A := fun (s1 : Int × Mem) => At K X (ZQ K X Q) 0 0 n rt 7 55 [(0, vR X 117), (6, vI s1.1)] [] s1.2) (B := fun (b1 : Mem) => At K X (ZQ K X Q) 0 0 n rt 7 101 [(0, vR X 117)] [] b1) h (fun b1 h => ?_) (fun s1 h => ?_)
    · refine r_aload_nR F 0 rfl rfl d10_feed_101 ?_
      refine r_dup F rfl d10_feed_102 ?_
      refine r_getI F lf10_119 (vc117 hn) d10_feed_103 ?_
      refine r_bipush F (z := 20) (by decide) d10_feed_106 ?_
      refine r_iadd F d10_feed_108 ?_
      refine r_putI F lf10_119 rfl rfl (vc117 hn) d10_feed_109 ?_
      refine r_aload_nR F 0 rfl rfl d10_feed_112 ?_
      refine at_name (B := fun (D6 : Mem) => At K X (ZQ K X Q) 0 0 n rt 7 113 [(0, vR X 117)] [vR X 117] D6) h (fun D6 h => ?_)
      refine r_getI F lf10_119 (vc117 hn) d10_feed_113 ?_
      replace h := wpo_some h
      exact r_iret F h d10_feed_116
    · refine r_iload F 1 rfl d10_feed_55 ?_
      refine r_bipush F (z := 20) (by decide) d10_feed_57 ?_
      refine r_icmp_ge F (tgt := 101) d10_feed_59 (by decide) (fun hb => ?_) (fun hb => ?_)
      · replace h := wpo_neg h hb
        refine r_weak [0] rfl ?_
        replace h := wpo_inr h
        exact h
      · replace h := wpo_pos h hb
        refine r_aload_nR F 0 rfl rfl d10_feed_62 ?_
        refine r_getR F (z := 121) lf10_20 (vc117 hn) z117_4 d10_feed_63 ?_
        refine r_aload_nR F 0 rfl rfl d10_feed_66 ?_
        refine r_getI F lf10_119 (vc117 hn) d10_feed_67 ?_
        refine r_iload F 1 rfl d10_feed_70 ?_
        refine r_iadd F d10_feed_72 ?_
        refine r_aload_nR F 0 rfl rfl d10_feed_73 ?_
        refine r_getR F (z := 122) lf10_24 (vc117 hn) z117_6 d10_feed_74 ?_
        refine r_iload F 1 rfl d10_feed_77 ?_
        refine r_iconst F (z := 4) d10_feed_79 ?_
        refine r_idiv F (by decide +kernel) d10_feed_80 ?_
        obtain ⟨hx1, h⟩ := wpo_chk h
        refine r_iald F (vc122 hn) hx1 d10_feed_81 ?_
        refine r_bipush F (z := 24) (by decide) d10_feed_82 ?_
        refine r_bipush F (z := 8) (by decide) d10_feed_84 ?_
        refine r_iload F 1 rfl d10_feed_86 ?_
        refine r_iconst F (z := 4) d10_feed_88 ?_
        refine r_irem F (by decide +kernel) d10_feed_89 ?_
        refine r_imul F d10_feed_90 ?_
        refine r_isub F d10_feed_91 ?_
        refine r_ishr F d10_feed_92 ?_
        refine r_i2b F d10_feed_93 ?_
        obtain ⟨hx2, h⟩ := wpo_chk h
        refine r_bast F (vc121 hn) hx2 d10_feed_94 ?_
        refine r_iinc F 1 (lv' := [(6, vI (s1.1 + 1)), (0, vR X 117)]) rfl (Nat.le_of_ble_eq_true rfl) rfl d10_feed_95 ?_
        refine r_goto F (tgt := 55) (by decide) d10_feed_98 ?_
        refine r_weak [1, 0] rfl ?_
        replace h := wpo_inl h
        exact h
  · replace h := wpo_pos h hb
    refine r_iconst F (z := (-1)) d10_feed_13 ?_
    replace h := wpo_some h
    exact r_iret F h d10_feed_14
theorem d10_end_0 : decode c10_end 0 = .ok (.iload_n 1, 1) := by decide +kernel
theorem d10_end_1 : decode c10_end 1 = .ok (.i2l, 1) := by decide +kernel
theorem d10_end_2 : decode c10_end 2 = .ok (.lconst 0, 1) := by decide +kernel
theorem d10_end_3 : decode c10_end 3 = .ok (.aload_n 0, 1) := by decide +kernel
theorem d10_end_4 : decode c10_end 4 = .ok (.getfield 119, 3) := by decide +kernel
theorem d10_end_7 : decode c10_end 7 = .ok (.i2l, 1) := by decide +kernel
theorem d10_end_8 : decode c10_end 8 = .ok (.invokestatic 109, 3) := by decide +kernel
theorem d10_end_11 : decode c10_end 11 = .ok (.ifCond .ne 5, 3) := by decide +kernel
theorem d10_end_14 : decode c10_end 14 = .ok (.iconst (-1), 1) := by decide +kernel
theorem d10_end_15 : decode c10_end 15 = .ok (.ireturn, 1) := by decide +kernel
theorem d10_end_16 : decode c10_end 16 = .ok (.aload_n 0, 1) := by decide +kernel
theorem d10_end_17 : decode c10_end 17 = .ok (.iload_n 1, 1) := by decide +kernel
theorem d10_end_18 : decode c10_end 18 = .ok (.putfield 119, 3) := by decide +kernel
theorem d10_end_21 : decode c10_end 21 = .ok (.iload_n 1, 1) := by decide +kernel
theorem d10_end_22 : decode c10_end 22 = .ok (.ireturn, 1) := by decide +kernel
def f10_end (D : Mem) (p0 : Int) : Option (Int × Mem) :=
  Option.bind (f10_in D (w32 p0) 0 (w32 (D 117 5))) fun (a1 : Int) =>
  if w32 a1 = 0 then
    some ((-1), D)
  else
    some (p0, (mset D 117 5 p0))
set_option maxHeartbeats 4000000 in
theorem ok10_end {l : Launch} {X : XT} {n : Nat} {D : Mem} {Q : Option Value → Nat → Rho → Mem → Prop} (hn : 147 ≤ n) {p0 : Int}  (h : wpo (f10_end D p0) (fun a => Q (some (vI a.1)) n rt a.2)) : MOK l y10_end c10_end 2 (some .int) { frames := 1, cells := 0, slots := 0, locals := 25 } 0 0 X [vR X 117, vI p0] n rt D Q := by
  refine MOK_of 10 (by decide +kernel) rfl (lv := [(0, vR X 117), (1, vI p0)]) (Nat.le_of_ble_eq_true rfl) rfl (fun K hK F hnm => ?_)
  subst hK
  unfold f10_end at h
  refine r_iload_n F 1 rfl rfl d10_end_0 ?_
  refine r_i2l F d10_end_1 ?_
  refine r_lconst F (x := 0) (by decide) d10_end_2 ?_
  refine r_aload_nR F 0 rfl rfl d10_end_3 ?_
  refine r_getI F lf10_119 (vc117 hn) d10_end_4 ?_
  refine r_i2l F d10_end_7 ?_
  replace h := wpo_bind h
  refine r_callS0 F lm10_109 mf10_in rfl (fr := 0) (lo := 0) (As := [vL (w32 p0), vL 0, vL (w32 (D 117 5))]) (rest := []) ⟨Nat.le_of_ble_eq_true rfl, Nat.le_of_ble_eq_true rfl⟩ rfl (Nat.le_of_ble_eq_true rfl) ⟨Nat.zero_le _, Nat.zero_le _⟩ d10_end_8 ?_
  refine ok10_in hn  (kI h (fun a1 h => ?_))
  refine r_if_ne F (tgt := 16) d10_end_11 (by decide) (fun hb => ?_) (fun hb => ?_)
  · replace h := wpo_neg h hb
    refine r_aload_nR F 0 rfl rfl d10_end_16 ?_
    refine r_iload_n F 1 rfl rfl d10_end_17 ?_
    refine r_putI F lf10_119 rfl rfl (vc117 hn) d10_end_18 ?_
    refine r_iload_n F 1 rfl rfl d10_end_21 ?_
    replace h := wpo_some h
    exact r_iret F h d10_end_22
  · replace h := wpo_pos h hb
    refine r_iconst F (z := (-1)) d10_end_14 ?_
    replace h := wpo_some h
    exact r_iret F h d10_end_15
theorem d10_see_0 : decode c10_see 0 = .ok (.iload_n 1, 1) := by decide +kernel
theorem d10_see_1 : decode c10_see 1 = .ok (.aload_n 0, 1) := by decide +kernel
theorem d10_see_2 : decode c10_see 2 = .ok (.getfield 122, 3) := by decide +kernel
theorem d10_see_5 : decode c10_see 5 = .ok (.if_icmp .ge 16, 3) := by decide +kernel
theorem d10_see_8 : decode c10_see 8 = .ok (.aload_n 0, 1) := by decide +kernel
theorem d10_see_9 : decode c10_see 9 = .ok (.getfield 20, 3) := by decide +kernel
theorem d10_see_12 : decode c10_see 12 = .ok (.iload_n 1, 1) := by decide +kernel
theorem d10_see_13 : decode c10_see 13 = .ok (.baload, 1) := by decide +kernel
theorem d10_see_14 : decode c10_see 14 = .ok (.sipush 255, 3) := by decide +kernel
theorem d10_see_17 : decode c10_see 17 = .ok (.iand, 1) := by decide +kernel
theorem d10_see_18 : decode c10_see 18 = .ok (.goto 4, 3) := by decide +kernel
theorem d10_see_21 : decode c10_see 21 = .ok (.iconst (-1), 1) := by decide +kernel
theorem d10_see_22 : decode c10_see 22 = .ok (.ireturn, 1) := by decide +kernel
def f10_see (D : Mem) (p0 : Int) : Option (Int) :=
  if w32 p0 < w32 (D 117 7) then
    if 0 ≤ p0 ∧ p0 < 700 then
      some (and32 (D 121 p0.toNat) 255)
    else none
  else
    some (-1)
set_option maxHeartbeats 4000000 in
theorem ok10_see {l : Launch} {X : XT} {n : Nat} {D : Mem} {Q : Option Value → Nat → Rho → Mem → Prop} (hn : 147 ≤ n) {p0 : Int}  (h : wpo (f10_see D p0) (fun a => Q (some (vI a)) n rt D)) : MOK l y10_see c10_see 2 (some .int) { frames := 0, cells := 0, slots := 0, locals := 0 } 0 0 X [vR X 117, vI p0] n rt D Q := by
  refine MOK_of 10 (by decide +kernel) rfl (lv := [(0, vR X 117), (1, vI p0)]) (Nat.le_of_ble_eq_true rfl) rfl (fun K hK F hnm => ?_)
  subst hK
  unfold f10_see at h
  refine r_iload_n F 1 rfl rfl d10_see_0 ?_
  refine r_aload_nR F 0 rfl rfl d10_see_1 ?_
  refine r_getI F lf10_122 (vc117 hn) d10_see_2 ?_
  refine r_icmp_ge F (tgt := 21) d10_see_5 (by decide) (fun hb => ?_) (fun hb => ?_)
  · replace h := wpo_neg h hb
    refine r_iconst F (z := (-1)) d10_see_21 ?_
    replace h := wpo_some h
    exact r_iret F h d10_see_22
  · replace h := wpo_pos h hb
    refine r_aload_nR F 0 rfl rfl d10_see_8 ?_
    refine r_getR F (z := 121) lf10_20 (vc117 hn) z117_4 d10_see_9 ?_
    refine r_iload_n F 1 rfl rfl d10_see_12 ?_
    obtain ⟨hx1, h⟩ := wpo_chk h
    refine r_bald F (vc121 hn) hx1 d10_see_13 ?_
    refine r_sipush F (z := 255) (by decide) d10_see_14 ?_
    refine r_iand F d10_see_17 ?_
    refine r_goto F (tgt := 22) (by decide) d10_see_18 ?_
    replace h := wpo_some h
    exact r_iret F h d10_see_22
theorem d10_advance_0 : decode c10_advance 0 = .ok (.aload_n 0, 1) := by decide +kernel
theorem d10_advance_1 : decode c10_advance 1 = .ok (.aload_n 0, 1) := by decide +kernel
theorem d10_advance_2 : decode c10_advance 2 = .ok (.getfield 125, 3) := by decide +kernel
theorem d10_advance_5 : decode c10_advance 5 = .ok (.invokevirtual 128, 3) := by decide +kernel
theorem d10_advance_8 : decode c10_advance 8 = .ok (.bipush 32, 2) := by decide +kernel
theorem d10_advance_10 : decode c10_advance 10 = .ok (.if_icmp .eq 16, 3) := by decide +kernel
theorem d10_advance_13 : decode c10_advance 13 = .ok (.aload_n 0, 1) := by decide +kernel
theorem d10_advance_14 : decode c10_advance 14 = .ok (.aload_n 0, 1) := by decide +kernel
theorem d10_advance_15 : decode c10_advance 15 = .ok (.getfield 125, 3) := by decide +kernel
theorem d10_advance_18 : decode c10_advance 18 = .ok (.invokevirtual 128, 3) := by decide +kernel
theorem d10_advance_21 : decode c10_advance 21 = .ok (.bipush 10, 2) := by decide +kernel
theorem d10_advance_23 : decode c10_advance 23 = .ok (.if_icmp .ne 16, 3) := by decide +kernel
theorem d10_advance_26 : decode c10_advance 26 = .ok (.aload_n 0, 1) := by decide +kernel
theorem d10_advance_27 : decode c10_advance 27 = .ok (.dup, 1) := by decide +kernel
theorem d10_advance_28 : decode c10_advance 28 = .ok (.getfield 125, 3) := by decide +kernel
theorem d10_advance_31 : decode c10_advance 31 = .ok (.iconst 1, 1) := by decide +kernel
theorem d10_advance_32 : decode c10_advance 32 = .ok (.iadd, 1) := by decide +kernel
theorem d10_advance_33 : decode c10_advance 33 = .ok (.putfield 125, 3) := by decide +kernel
theorem d10_advance_36 : decode c10_advance 36 = .ok (.goto (-36), 3) := by decide +kernel
theorem d10_advance_39 : decode c10_advance 39 = .ok (.aload_n 0, 1) := by decide +kernel
theorem d10_advance_40 : decode c10_advance 40 = .ok (.aload_n 0, 1) := by decide +kernel
theorem d10_advance_41 : decode c10_advance 41 = .ok (.getfield 125, 3) := by decide +kernel
theorem d10_advance_44 : decode c10_advance 44 = .ok (.putfield 132, 3) := by decide +kernel
theorem d10_advance_47 : decode c10_advance 47 = .ok (.aload_n 0, 1) := by decide +kernel
theorem d10_advance_48 : decode c10_advance 48 = .ok (.aload_n 0, 1) := by decide +kernel
theorem d10_advance_49 : decode c10_advance 49 = .ok (.getfield 125, 3) := by decide +kernel
theorem d10_advance_52 : decode c10_advance 52 = .ok (.invokevirtual 128, 3) := by decide +kernel
theorem d10_advance_55 : decode c10_advance 55 = .ok (.istore_n 1, 1) := by decide +kernel
theorem d10_advance_56 : decode c10_advance 56 = .ok (.iload_n 1, 1) := by decide +kernel
theorem d10_advance_57 : decode c10_advance 57 = .ok (.iconst (-1), 1) := by decide +kernel
theorem d10_advance_58 : decode c10_advance 58 = .ok (.if_icmp .ne 11, 3) := by decide +kernel
theorem d10_advance_61 : decode c10_advance 61 = .ok (.aload_n 0, 1) := by decide +kernel
theorem d10_advance_62 : decode c10_advance 62 = .ok (.iconst 0, 1) := by decide +kernel
theorem d10_advance_63 : decode c10_advance 63 = .ok (.putfield 135, 3) := by decide +kernel
theorem d10_advance_66 : decode c10_advance 66 = .ok (.goto 173, 3) := by decide +kernel
theorem d10_advance_69 : decode c10_advance 69 = .ok (.iload_n 1, 1) := by decide +kernel
theorem d10_advance_70 : decode c10_advance 70 = .ok (.i2l, 1) := by decide +kernel
theorem d10_advance_71 : decode c10_advance 71 = .ok (.ldc2_w 138, 3) := by decide +kernel
theorem d10_advance_74 : decode c10_advance 74 = .ok (.ldc2_w 140, 3) := by decide +kernel
theorem d10_advance_77 : decode c10_advance 77 = .ok (.invokestatic 109, 3) := by decide +kernel
theorem d10_advance_80 : decode c10_advance 80 = .ok (.ifCond .eq 45, 3) := by decide +kernel
theorem d10_advance_83 : decode c10_advance 83 = .ok (.aload_n 0, 1) := by decide +kernel
theorem d10_advance_84 : decode c10_advance 84 = .ok (.aload_n 0, 1) := by decide +kernel
theorem d10_advance_85 : decode c10_advance 85 = .ok (.getfield 125, 3) := by decide +kernel
theorem d10_advance_88 : decode c10_advance 88 = .ok (.invokevirtual 128, 3) := by decide +kernel
theorem d10_advance_91 : decode c10_advance 91 = .ok (.i2l, 1) := by decide +kernel
theorem d10_advance_92 : decode c10_advance 92 = .ok (.ldc2_w 138, 3) := by decide +kernel
theorem d10_advance_95 : decode c10_advance 95 = .ok (.ldc2_w 140, 3) := by decide +kernel
theorem d10_advance_98 : decode c10_advance 98 = .ok (.invokestatic 109, 3) := by decide +kernel
theorem d10_advance_101 : decode c10_advance 101 = .ok (.ifCond .eq 16, 3) := by decide +kernel
theorem d10_advance_104 : decode c10_advance 104 = .ok (.aload_n 0, 1) := by decide +kernel
theorem d10_advance_105 : decode c10_advance 105 = .ok (.dup, 1) := by decide +kernel
theorem d10_advance_106 : decode c10_advance 106 = .ok (.getfield 125, 3) := by decide +kernel
theorem d10_advance_109 : decode c10_advance 109 = .ok (.iconst 1, 1) := by decide +kernel
theorem d10_advance_110 : decode c10_advance 110 = .ok (.iadd, 1) := by decide +kernel
theorem d10_advance_111 : decode c10_advance 111 = .ok (.putfield 125, 3) := by decide +kernel
theorem d10_advance_114 : decode c10_advance 114 = .ok (.goto (-31), 3) := by decide +kernel
theorem d10_advance_117 : decode c10_advance 117 = .ok (.aload_n 0, 1) := by decide +kernel
theorem d10_advance_118 : decode c10_advance 118 = .ok (.iconst 1, 1) := by decide +kernel
theorem d10_advance_119 : decode c10_advance 119 = .ok (.putfield 135, 3) := by decide +kernel
theorem d10_advance_122 : decode c10_advance 122 = .ok (.goto 117, 3) := by decide +kernel
theorem d10_advance_125 : decode c10_advance 125 = .ok (.iload_n 1, 1) := by decide +kernel
theorem d10_advance_126 : decode c10_advance 126 = .ok (.i2l, 1) := by decide +kernel
theorem d10_advance_127 : decode c10_advance 127 = .ok (.ldc2_w 142, 3) := by decide +kernel
theorem d10_advance_130 : decode c10_advance 130 = .ok (.ldc2_w 144, 3) := by decide +kernel
theorem d10_advance_133 : decode c10_advance 133 = .ok (.invokestatic 109, 3) := by decide +kernel
theorem d10_advance_136 : decode c10_advance 136 = .ok (.ifCond .eq 78, 3) := by decide +kernel
theorem d10_advance_139 : decode c10_advance 139 = .ok (.aload_n 0, 1) := by decide +kernel
theorem d10_advance_140 : decode c10_advance 140 = .ok (.iconst 0, 1) := by decide +kernel
theorem d10_advance_141 : decode c10_advance 141 = .ok (.putfield 146, 3) := by decide +kernel
theorem d10_advance_144 : decode c10_advance 144 = .ok (.aload_n 0, 1) := by decide +kernel
theorem d10_advance_145 : decode c10_advance 145 = .ok (.aload_n 0, 1) := by decide +kernel
theorem d10_advance_146 : decode c10_advance 146 = .ok (.getfield 125, 3) := by decide +kernel
theorem d10_advance_149 : decode c10_advance 149 = .ok (.invokevirtual 128, 3) := by decide +kernel
theorem d10_advance_152 : decode c10_advance 152 = .ok (.i2l, 1) := by decide +kernel
theorem d10_advance_153 : decode c10_advance 153 = .ok (.ldc2_w 142, 3) := by decide +kernel
theorem d10_advance_156 : decode c10_advance 156 = .ok (.ldc2_w 144, 3) := by decide +kernel
theorem d10_advance_159 : decode c10_advance 159 = .ok (.invokestatic 109, 3) := by decide +kernel
theorem d10_advance_162 : decode c10_advance 162 = .ok (.ifCond .eq 44, 3) := by decide +kernel
theorem d10_advance_165 : decode c10_advance 165 = .ok (.aload_n 0, 1) := by decide +kernel
theorem d10_advance_166 : decode c10_advance 166 = .ok (.ldc 149, 2) := by decide +kernel
theorem d10_advance_168 : decode c10_advance 168 = .ok (.bipush 10, 2) := by decide +kernel
theorem d10_advance_170 : decode c10_advance 170 = .ok (.aload_n 0, 1) := by decide +kernel
theorem d10_advance_171 : decode c10_advance 171 = .ok (.getfield 146, 3) := by decide +kernel
theorem d10_advance_174 : decode c10_advance 174 = .ok (.imul, 1) := by decide +kernel
theorem d10_advance_175 : decode c10_advance 175 = .ok (.aload_n 0, 1) := by decide +kernel
theorem d10_advance_176 : decode c10_advance 176 = .ok (.aload_n 0, 1) := by decide +kernel
theorem d10_advance_177 : decode c10_advance 177 = .ok (.getfield 125, 3) := by decide +kernel
theorem d10_advance_180 : decode c10_advance 180 = .ok (.invokevirtual 128, 3) := by decide +kernel
theorem d10_advance_183 : decode c10_advance 183 = .ok (.iadd, 1) := by decide +kernel
theorem d10_advance_184 : decode c10_advance 184 = .ok (.bipush 48, 2) := by decide +kernel
theorem d10_advance_186 : decode c10_advance 186 = .ok (.isub, 1) := by decide +kernel
theorem d10_advance_187 : decode c10_advance 187 = .ok (.invokestatic 150, 3) := by decide +kernel
theorem d10_advance_190 : decode c10_advance 190 = .ok (.putfield 146, 3) := by decide +kernel
theorem d10_advance_193 : decode c10_advance 193 = .ok (.aload_n 0, 1) := by decide +kernel
theorem d10_advance_194 : decode c10_advance 194 = .ok (.dup, 1) := by decide +kernel
theorem d10_advance_195 : decode c10_advance 195 = .ok (.getfield 125, 3) := by decide +kernel
theorem d10_advance_198 : decode c10_advance 198 = .ok (.iconst 1, 1) := by decide +kernel
theorem d10_advance_199 : decode c10_advance 199 = .ok (.iadd, 1) := by decide +kernel
theorem d10_advance_200 : decode c10_advance 200 = .ok (.putfield 125, 3) := by decide +kernel
theorem d10_advance_203 : decode c10_advance 203 = .ok (.goto (-59), 3) := by decide +kernel
theorem d10_advance_206 : decode c10_advance 206 = .ok (.aload_n 0, 1) := by decide +kernel
theorem d10_advance_207 : decode c10_advance 207 = .ok (.iconst 2, 1) := by decide +kernel
theorem d10_advance_208 : decode c10_advance 208 = .ok (.putfield 135, 3) := by decide +kernel
theorem d10_advance_211 : decode c10_advance 211 = .ok (.goto 28, 3) := by decide +kernel
theorem d10_advance_214 : decode c10_advance 214 = .ok (.aload_n 0, 1) := by decide +kernel
theorem d10_advance_215 : decode c10_advance 215 = .ok (.iload_n 1, 1) := by decide +kernel
theorem d10_advance_216 : decode c10_advance 216 = .ok (.bipush 59, 2) := by decide +kernel
theorem d10_advance_218 : decode c10_advance 218 = .ok (.if_icmp .ne 7, 3) := by decide +kernel
theorem d10_advance_221 : decode c10_advance 221 = .ok (.iconst 3, 1) := by decide +kernel
theorem d10_advance_222 : decode c10_advance 222 = .ok (.goto 4, 3) := by decide +kernel
theorem d10_advance_225 : decode c10_advance 225 = .ok (.iconst 4, 1) := by decide +kernel
theorem d10_advance_226 : decode c10_advance 226 = .ok (.putfield 135, 3) := by decide +kernel
theorem d10_advance_229 : decode c10_advance 229 = .ok (.aload_n 0, 1) := by decide +kernel
theorem d10_advance_230 : decode c10_advance 230 = .ok (.dup, 1) := by decide +kernel
theorem d10_advance_231 : decode c10_advance 231 = .ok (.getfield 125, 3) := by decide +kernel
theorem d10_advance_234 : decode c10_advance 234 = .ok (.iconst 1, 1) := by decide +kernel
theorem d10_advance_235 : decode c10_advance 235 = .ok (.iadd, 1) := by decide +kernel
theorem d10_advance_236 : decode c10_advance 236 = .ok (.putfield 125, 3) := by decide +kernel
theorem d10_advance_239 : decode c10_advance 239 = .ok (.return_, 1) := by decide +kernel
def f10_advance (D : Mem) : Option (Mem) :=
  Option.bind (@loop (Mem) (Mem) (fun s1 =>
    Option.bind (f10_see s1 (s1 117 8)) fun (a1 : Int) =>
    if w32 a1 = w32 32 then
      some (Sum.inl (mset s1 117 8 ((s1 117 8) + 1)))
    else
      Option.bind (f10_see s1 (s1 117 8)) fun (a2 : Int) =>
      if w32 a2 = w32 10 then
        some (Sum.inl (mset s1 117 8 ((s1 117 8) + 1)))
      else
        some (Sum.inr s1)
  ) FU D) fun (b1 : Mem) =>
  Option.bind (some (mset b1 117 9 (b1 117 8))) fun (D1 : Mem) =>
  Option.bind (f10_see D1 (D1 117 8)) fun (a3 : Int) =>
  if w32 a3 = w32 (-1) then
    some (mset D1 117 10 0)
  else
    Option.bind (f10_in D1 (w32 a3) 97 122) fun (a4 : Int) =>
    if w32 a4 = 0 then
      Option.bind (f10_in D1 (w32 a3) 48 57) fun (a5 : Int) =>
      if w32 a5 = 0 then
        Option.bind (
          if w32 a3 = w32 59 then
            some 3
          else
            some 4
        ) fun (j1 : Int) =>
        Option.bind (some (mset D1 117 10 j1)) fun (D2 : Mem) =>
        some (mset D2 117 8 ((D2 117 8) + 1))
      else
        Option.bind (some (mset D1 117 11 0)) fun (D3 : Mem) =>
        Option.bind (@loop (Mem) (Mem) (fun s2 =>
          Option.bind (f10_see s2 (s2 117 8)) fun (a6 : Int) =>
          Option.bind (f10_in s2 (w32 a6) 48 57) fun (a7 : Int) =>
          if w32 a7 = 0 then
            some (Sum.inr s2)
          else
            Option.bind (f10_see s2 (s2 117 8)) fun (a8 : Int) =>
            Option.bind (some (mset s2 117 11 (min32 99999 (((10 * (s2 117 11)) + a8) - 48)))) fun (D4 : Mem) =>
            some (Sum.inl (mset D4 117 8 ((D4 117 8) + 1)))
        ) FU D3) fun (b2 : Mem) =>
        some (mset b2 117 10 2)
    else
      Option.bind (@loop (Mem) (Mem) (fun s3 =>
        Option.bind (f10_see s3 (s3 117 8)) fun (a9 : Int) =>
        Option.bind (f10_in s3 (w32 a9) 97 122) fun (a10 : Int) =>
        if w32 a10 = 0 then
          some (Sum.inr s3)
        else
          some (Sum.inl (mset s3 117 8 ((s3 117 8) + 1)))
      ) FU D1) fun (b3 : Mem) =>
      some (mset b3 117 10 1)
set_option maxHeartbeats 4000000 in
theorem ok10_advance {l : Launch} {X : XT} {n : Nat} {D : Mem} {Q : Option Value → Nat → Rho → Mem → Prop} (hn : 147 ≤ n)  (h : wpo (f10_advance D) (fun a => Q none n rt a)) : MOK l y10_advance c10_advance 2 (none) { frames := 1, cells := 0, slots := 0, locals := 25 } 0 0 X [vR X 117] n rt D Q := by
  refine MOK_of 10 (by decide +kernel) rfl (lv := [(0, vR X 117)]) (Nat.le_of_ble_eq_true rfl) rfl (fun K hK F hnm => ?_)
  subst hK
  unfold f10_advance at h
  refine at_loopj (A := fun (s1 : Mem) => At K X (ZQ K X Q) 0 0 n rt 2 0 [(0, vR X 117)] [] s1) (B := fun (b1 : Mem) => At K X (ZQ K X Q) 0 0 n rt 2 39 [(0, vR X 117)] [] b1) h (fun b1 h => ?_) (fun s1 h => ?_)
  · refine r_aload_nR F 0 rfl rfl d10_advance_39 ?_
    refine r_aload_nR F 0 rfl rfl d10_advance_40 ?_
    refine r_getI F lf10_125 (vc117 hn) d10_advance_41 ?_
    refine r_putI F lf10_132 rfl rfl (vc117 hn) d10_advance_44 ?_
    refine r_aload_nR F 0 rfl rfl d10_advance_47 ?_
    refine r_aload_nR F 0 rfl rfl d10_advance_48 ?_
    refine at_name (B := fun (D1 : Mem) => At K X (ZQ K X Q) 0 0 n rt 2 49 [(0, vR X 117)] [vR X 117, vR X 117] D1) h (fun D1 h => ?_)
    refine r_getI F lf10_125 (vc117 hn) d10_advance_49 ?_
    replace h := wpo_bind h
    refine r_callV0 F lm10_128 mf10_see (vc117 hn) rfl (fr := 0) (lo := 0) (As := [vI (D1 117 8)]) (rest := []) ⟨Nat.le_of_ble_eq_true rfl, Nat.le_of_ble_eq_true rfl⟩ rfl (Nat.le_of_ble_eq_true rfl) ⟨Nat.zero_le _, Nat.zero_le _⟩ d10_advance_52 ?_
    refine ok10_see hn  (kI h (fun a3 h => ?_))
    refine r_istore_n F (lv' := [(1, vI a3), (0, vR X 117)]) rfl (Nat.le_of_ble_eq_true rfl) rfl d10_advance_55 ?_
    refine r_iload_n F 0 rfl rfl d10_advance_56 ?_
    refine r_iconst F (z := (-1)) d10_advance_57 ?_
    refine r_icmp_ne F (tgt := 69) d10_advance_58 (by decide) (fun hb => ?_) (fun hb => ?_)
    · replace h := wpo_neg h hb
      refine r_iload_n F 0 rfl rfl d10_advance_69 ?_
      refine r_i2l F d10_advance_70 ?_
      refine r_ldc2 F (z := 97) lc10_138 d10_advance_71 ?_
      refine r_ldc2 F (z := 122) lc10_140 d10_advance_74 ?_
      replace h := wpo_bind h
      refine r_callS0 F lm10_109 mf10_in rfl (fr := 0) (lo := 0) (As := [vL (w32 a3), vL 97, vL 122]) (rest := []) ⟨Nat.le_of_ble_eq_true rfl, Nat.le_of_ble_eq_true rfl⟩ rfl (Nat.le_of_ble_eq_true rfl) ⟨Nat.zero_le _, Nat.zero_le _⟩ d10_advance_77 ?_
      refine ok10_in hn  (kI h (fun a4 h => ?_))
      refine r_if_eq F (tgt := 125) d10_advance_80 (by decide) (fun hb => ?_) (fun hb => ?_)
      · replace h := wpo_pos h hb
        refine r_iload_n F 0 rfl rfl d10_advance_125 ?_
        refine r_i2l F d10_advance_126 ?_
        refine r_ldc2 F (z := 48) lc10_142 d10_advance_127 ?_
        refine r_ldc2 F (z := 57) lc10_144 d10_advance_130 ?_
        replace h := wpo_bind h
        refine r_callS0 F lm10_109 mf10_in rfl (fr := 0) (lo := 0) (As := [vL (w32 a3), vL 48, vL 57]) (rest := []) ⟨Nat.le_of_ble_eq_true rfl, Nat.le_of_ble_eq_true rfl⟩ rfl (Nat.le_of_ble_eq_true rfl) ⟨Nat.zero_le _, Nat.zero_le _⟩ d10_advance_133 ?_
        refine ok10_in hn  (kI h (fun a5 h => ?_))
        refine r_if_eq F (tgt := 214) d10_advance_136 (by decide) (fun hb => ?_) (fun hb => ?_)
        · replace h := wpo_pos h hb
          refine r_aload_nR F 1 rfl rfl d10_advance_214 ?_
          refine r_iload_n F 0 rfl rfl d10_advance_215 ?_
          refine r_bipush F (z := 59) (by decide) d10_advance_216 ?_
          refine at_join (B := fun (j1 : Int) => At K X (ZQ K X Q) 0 0 n rt 2 226 [(0, vR X 117)] [vI j1, vR X 117] D1) h (fun j1 h => ?_) (fun h => ?_)
          · refine r_putI F lf10_135 rfl rfl (vc117 hn) d10_advance_226 ?_
            refine r_aload_nR F 0 rfl rfl d10_advance_229 ?_
            refine r_dup F rfl d10_advance_230 ?_
            refine at_name (B := fun (D2 : Mem) => At K X (ZQ K X Q) 0 0 n rt 2 231 [(0, vR X 117)] [vR X 117, vR X 117] D2) h (fun D2 h => ?_)
            refine r_getI F lf10_125 (vc117 hn) d10_advance_231 ?_
            refine r_iconst F (z := 1) d10_advance_234 ?_
            refine r_iadd F d10_advance_235 ?_
            refine r_putI F lf10_125 rfl rfl (vc117 hn) d10_advance_236 ?_
            replace h := wpo_some h
            exact r_vret F h d10_advance_239
          · refine r_icmp_ne F (tgt := 225) d10_advance_218 (by decide) (fun hb => ?_) (fun hb => ?_)
            · replace h := wpo_neg h hb
              refine r_iconst F (z := 4) d10_advance_225 ?_
              refine r_weak [1] rfl ?_
              replace h := wpo_some h
              exact h
            · replace h := wpo_pos h hb
              refine r_iconst F (z := 3) d10_advance_221 ?_
              refine r_goto F (tgt := 226) (by decide) d10_advance_222 ?_
              refine r_weak [1] rfl ?_
              replace h := wpo_some h
              exact h
        · replace h := wpo_neg h hb
          refine r_aload_nR F 1 rfl rfl d10_advance_139 ?_
          refine r_iconst F (z := 0) d10_advance_140 ?_
          refine r_putI F lf10_146 rfl rfl (vc117 hn) d10_advance_141 ?_
          refine at_name (B := fun (D3 : Mem) => At K X (ZQ K X Q) 0 0 n rt 2 144 [(1, vI a3), (0, vR X 117)] [] D3) h (fun D3 h => ?_)
          refine r_weak [1] rfl ?_
          refine at_loopj (A := fun (s2 : Mem) => At K X (ZQ K X Q) 0 0 n rt 2 144 [(0, vR X 117)] [] s2) (B := fun (b2 : Mem) => At K X (ZQ K X Q) 0 0 n rt 2 206 [(0, vR X 117)] [] b2) h (fun b2 h => ?_) (fun s2 h => ?_)
          · refine r_aload_nR F 0 rfl rfl d10_advance_206 ?_
            refine r_iconst F (z := 2) d10_advance_207 ?_
            refine r_putI F lf10_135 rfl rfl (vc117 hn) d10_advance_208 ?_
            refine r_goto F (tgt := 239) (by decide) d10_advance_211 ?_
            replace h := wpo_some h
            exact r_vret F h d10_advance_239
          · refine r_aload_nR F 0 rfl rfl d10_advance_144 ?_
            refine r_aload_nR F 0 rfl rfl d10_advance_145 ?_
            refine r_getI F lf10_125 (vc117 hn) d10_advance_146 ?_
            replace h := wpo_bind h
            refine r_callV0 F lm10_128 mf10_see (vc117 hn) rfl (fr := 0) (lo := 0) (As := [vI (s2 117 8)]) (rest := []) ⟨Nat.le_of_ble_eq_true rfl, Nat.le_of_ble_eq_true rfl⟩ rfl (Nat.le_of_ble_eq_true rfl) ⟨Nat.zero_le _, Nat.zero_le _⟩ d10_advance_149 ?_
            refine ok10_see hn  (kI h (fun a6 h => ?_))
            refine r_i2l F d10_advance_152 ?_
            refine r_ldc2 F (z := 48) lc10_142 d10_advance_153 ?_
            refine r_ldc2 F (z := 57) lc10_144 d10_advance_156 ?_
            replace h := wpo_bind h
            refine r_callS0 F lm10_109 mf10_in rfl (fr := 0) (lo := 0) (As := [vL (w32 a6), vL 48, vL 57]) (rest := []) ⟨Nat.le_of_ble_eq_true rfl, Nat.le_of_ble_eq_true rfl⟩ rfl (Nat.le_of_ble_eq_true rfl) ⟨Nat.zero_le _, Nat.zero_le _⟩ d10_advance_159 ?_
            refine ok10_in hn  (kI h (fun a7 h => ?_))
            refine r_if_eq F (tgt := 206) d10_advance_162 (by decide) (fun hb => ?_) (fun hb => ?_)
            · replace h := wpo_pos h hb
              replace h := wpo_inr h
              exact h
            · replace h := wpo_neg h hb
              refine r_aload_nR F 0 rfl rfl d10_advance_165 ?_
              refine r_ldc F (z := 99999) lc10_149 d10_advance_166 ?_
              refine r_bipush F (z := 10) (by decide) d10_advance_168 ?_
              refine r_aload_nR F 0 rfl rfl d10_advance_170 ?_
              refine r_getI F lf10_146 (vc117 hn) d10_advance_171 ?_
              refine r_imul F d10_advance_174 ?_
              refine r_aload_nR F 0 rfl rfl d10_advance_175 ?_
              refine r_aload_nR F 0 rfl rfl d10_advance_176 ?_
              refine r_getI F lf10_125 (vc117 hn) d10_advance_177 ?_
              replace h := wpo_bind h
              refine r_callV0 F lm10_128 mf10_see (vc117 hn) rfl (fr := 0) (lo := 0) (As := [vI (s2 117 8)]) (rest := [vI (10 * (s2 117 11)), vI 99999, vR X 117]) ⟨Nat.le_of_ble_eq_true rfl, Nat.le_of_ble_eq_true rfl⟩ rfl (Nat.le_of_ble_eq_true rfl) ⟨Nat.zero_le _, Nat.zero_le _⟩ d10_advance_180 ?_
              refine ok10_see hn  (kI h (fun a8 h => ?_))
              refine r_iadd F d10_advance_183 ?_
              refine r_bipush F (z := 48) (by decide) d10_advance_184 ?_
              refine r_isub F d10_advance_186 ?_
              refine r_min F lm10_150 wm3 wm0 wm4 ⟨Nat.le_of_ble_eq_true rfl, Nat.le_of_ble_eq_true rfl, Nat.le_of_ble_eq_true rfl, Nat.le_of_ble_eq_true rfl⟩ d10_advance_187 ?_
              refine r_putI F lf10_146 rfl rfl (vc117 hn) d10_advance_190 ?_
              refine r_aload_nR F 0 rfl rfl d10_advance_193 ?_
              refine r_dup F rfl d10_advance_194 ?_
              refine at_name (B := fun (D4 : Mem) => At K X (ZQ K X Q) 0 0 n rt 2 195 [(0, vR X 117)] [vR X 117, vR X 117] D4) h (fun D4 h => ?_)
              refine r_getI F lf10_125 (vc117 hn) d10_advance_195 ?_
              refine r_iconst F (z := 1) d10_advance_198 ?_
              refine r_iadd F d10_advance_199 ?_
              refine r_putI F lf10_125 rfl rfl (vc117 hn) d10_advance_200 ?_
              refine r_goto F (tgt := 144) (by decide) d10_advance_203 ?_
              replace h := wpo_inl h
              exact h
      · replace h := wpo_neg h hb
        refine r_weak [1] rfl ?_
        refine at_loopj (A := fun (s3 : Mem) => At K X (ZQ K X Q) 0 0 n rt 2 83 [(0, vR X 117)] [] s3) (B := fun (b3 : Mem) => At K X (ZQ K X Q) 0 0 n rt 2 117 [(0, vR X 117)] [] b3) h (fun b3 h => ?_) (fun s3 h => ?_)
        · refine r_aload_nR F 0 rfl rfl d10_advance_117 ?_
          refine r_iconst F (z := 1) d10_advance_118 ?_
          refine r_putI F lf10_135 rfl rfl (vc117 hn) d10_advance_119 ?_
          refine r_goto F (tgt := 239) (by decide) d10_advance_122 ?_
          replace h := wpo_some h
          exact r_vret F h d10_advance_239
        · refine r_aload_nR F 0 rfl rfl d10_advance_83 ?_
          refine r_aload_nR F 0 rfl rfl d10_advance_84 ?_
          refine r_getI F lf10_125 (vc117 hn) d10_advance_85 ?_
          replace h := wpo_bind h
          refine r_callV0 F lm10_128 mf10_see (vc117 hn) rfl (fr := 0) (lo := 0) (As := [vI (s3 117 8)]) (rest := []) ⟨Nat.le_of_ble_eq_true rfl, Nat.le_of_ble_eq_true rfl⟩ rfl (Nat.le_of_ble_eq_true rfl) ⟨Nat.zero_le _, Nat.zero_le _⟩ d10_advance_88 ?_
          refine ok10_see hn  (kI h (fun a9 h => ?_))
          refine r_i2l F d10_advance_91 ?_
          refine r_ldc2 F (z := 97) lc10_138 d10_advance_92 ?_
          refine r_ldc2 F (z := 122) lc10_140 d10_advance_95 ?_
          replace h := wpo_bind h
          refine r_callS0 F lm10_109 mf10_in rfl (fr := 0) (lo := 0) (As := [vL (w32 a9), vL 97, vL 122]) (rest := []) ⟨Nat.le_of_ble_eq_true rfl, Nat.le_of_ble_eq_true rfl⟩ rfl (Nat.le_of_ble_eq_true rfl) ⟨Nat.zero_le _, Nat.zero_le _⟩ d10_advance_98 ?_
          refine ok10_in hn  (kI h (fun a10 h => ?_))
          refine r_if_eq F (tgt := 117) d10_advance_101 (by decide) (fun hb => ?_) (fun hb => ?_)
          · replace h := wpo_pos h hb
            replace h := wpo_inr h
            exact h
          · replace h := wpo_neg h hb
            refine r_aload_nR F 0 rfl rfl d10_advance_104 ?_
            refine r_dup F rfl d10_advance_105 ?_
            refine r_getI F lf10_125 (vc117 hn) d10_advance_106 ?_
            refine r_iconst F (z := 1) d10_advance_109 ?_
            refine r_iadd F d10_advance_110 ?_
            refine r_putI F lf10_125 rfl rfl (vc117 hn) d10_advance_111 ?_
            refine r_goto F (tgt := 83) (by decide) d10_advance_114 ?_
            replace h := wpo_inl h
            exact h
    · replace h := wpo_pos h hb
      refine r_aload_nR F 1 rfl rfl d10_advance_61 ?_
      refine r_iconst F (z := 0) d10_advance_62 ?_
      refine r_putI F lf10_135 rfl rfl (vc117 hn) d10_advance_63 ?_
      refine r_goto F (tgt := 239) (by decide) d10_advance_66 ?_
      replace h := wpo_some h
      exact r_vret F h d10_advance_239
  · refine r_aload_nR F 0 rfl rfl d10_advance_0 ?_
    refine r_aload_nR F 0 rfl rfl d10_advance_1 ?_
    refine r_getI F lf10_125 (vc117 hn) d10_advance_2 ?_
    replace h := wpo_bind h
    refine r_callV0 F lm10_128 mf10_see (vc117 hn) rfl (fr := 0) (lo := 0) (As := [vI (s1 117 8)]) (rest := []) ⟨Nat.le_of_ble_eq_true rfl, Nat.le_of_ble_eq_true rfl⟩ rfl (Nat.le_of_ble_eq_true rfl) ⟨Nat.zero_le _, Nat.zero_le _⟩ d10_advance_5 ?_
    refine ok10_see hn  (kI h (fun a1 h => ?_))
    refine r_bipush F (z := 32) (by decide) d10_advance_8 ?_
    refine r_icmp_eq F (tgt := 26) d10_advance_10 (by decide) (fun hb => ?_) (fun hb => ?_)
    · replace h := wpo_pos h hb
      refine r_aload_nR F 0 rfl rfl d10_advance_26 ?_
      refine r_dup F rfl d10_advance_27 ?_
      refine r_getI F lf10_125 (vc117 hn) d10_advance_28 ?_
      refine r_iconst F (z := 1) d10_advance_31 ?_
      refine r_iadd F d10_advance_32 ?_
      refine r_putI F lf10_125 rfl rfl (vc117 hn) d10_advance_33 ?_
      refine r_goto F (tgt := 0) (by decide) d10_advance_36 ?_
      replace h := wpo_inl h
      exact h
    · replace h := wpo_neg h hb
      refine r_aload_nR F 0 rfl rfl d10_advance_13 ?_
      refine r_aload_nR F 0 rfl rfl d10_advance_14 ?_
      refine r_getI F lf10_125 (vc117 hn) d10_advance_15 ?_
      replace h := wpo_bind h
      refine r_callV0 F lm10_128 mf10_see (vc117 hn) rfl (fr := 0) (lo := 0) (As := [vI (s1 117 8)]) (rest := []) ⟨Nat.le_of_ble_eq_true rfl, Nat.le_of_ble_eq_true rfl⟩ rfl (Nat.le_of_ble_eq_true rfl) ⟨Nat.zero_le _, Nat.zero_le _⟩ d10_advance_18 ?_
      refine ok10_see hn  (kI h (fun a2 h => ?_))
      refine r_bipush F (z := 10) (by decide) d10_advance_21 ?_
      refine r_icmp_ne F (tgt := 39) d10_advance_23 (by decide) (fun hb => ?_) (fun hb => ?_)
      · replace h := wpo_neg h hb
        replace h := wpo_inr h
        exact h
      · replace h := wpo_pos h hb
        refine r_aload_nR F 0 rfl rfl d10_advance_26 ?_
        refine r_dup F rfl d10_advance_27 ?_
        refine r_getI F lf10_125 (vc117 hn) d10_advance_28 ?_
        refine r_iconst F (z := 1) d10_advance_31 ?_
        refine r_iadd F d10_advance_32 ?_
        refine r_putI F lf10_125 rfl rfl (vc117 hn) d10_advance_33 ?_
        refine r_goto F (tgt := 0) (by decide) d10_advance_36 ?_
        replace h := wpo_inl h
        exact h
theorem d10_good_0 : decode c10_good 0 = .ok (.aload_n 0, 1) := by decide +kernel
theorem d10_good_1 : decode c10_good 1 = .ok (.getfield 156, 3) := by decide +kernel
theorem d10_good_4 : decode c10_good 4 = .ok (.ifCond .ne 7, 3) := by decide +kernel
theorem d10_good_7 : decode c10_good 7 = .ok (.iconst 1, 1) := by decide +kernel
theorem d10_good_8 : decode c10_good 8 = .ok (.goto 4, 3) := by decide +kernel
theorem d10_good_11 : decode c10_good 11 = .ok (.iconst 0, 1) := by decide +kernel
theorem d10_good_12 : decode c10_good 12 = .ok (.ireturn, 1) := by decide +kernel
def f10_good (D : Mem) : Option (Int) :=
  if w32 (D 117 12) = 0 then
    some 1
  else
    some 0
set_option maxHeartbeats 4000000 in
theorem ok10_good {l : Launch} {X : XT} {n : Nat} {D : Mem} {Q : Option Value → Nat → Rho → Mem → Prop} (hn : 147 ≤ n)  (h : wpo (f10_good D) (fun a => Q (some (vI a)) n rt D)) : MOK l y10_good c10_good 1 (some .boolean) { frames := 0, cells := 0, slots := 0, locals := 0 } 0 0 X [vR X 117] n rt D Q := by
  refine MOK_of 10 (by decide +kernel) rfl (lv := [(0, vR X 117)]) (Nat.le_of_ble_eq_true rfl) rfl (fun K hK F hnm => ?_)
  subst hK
  unfold f10_good at h
  refine r_aload_nR F 0 rfl rfl d10_good_0 ?_
  refine r_getI F lf10_156 (vc117 hn) d10_good_1 ?_
  refine r_if_ne F (tgt := 11) d10_good_4 (by decide) (fun hb => ?_) (fun hb => ?_)
  · replace h := wpo_neg h hb
    refine r_iconst F (z := 0) d10_good_11 ?_
    replace h := wpo_some h
    exact r_zret F (Or.inl rfl) h d10_good_12
  · replace h := wpo_pos h hb
    refine r_iconst F (z := 1) d10_good_7 ?_
    refine r_goto F (tgt := 12) (by decide) d10_good_8 ?_
    replace h := wpo_some h
    exact r_zret F (Or.inr rfl) h d10_good_12
theorem d10_errs_0 : decode c10_errs 0 = .ok (.aload_n 0, 1) := by decide +kernel
theorem d10_errs_1 : decode c10_errs 1 = .ok (.invokevirtual 159, 3) := by decide +kernel
theorem d10_errs_4 : decode c10_errs 4 = .ok (.ifCond .ne 4, 3) := by decide +kernel
theorem d10_errs_7 : decode c10_errs 7 = .ok (.return_, 1) := by decide +kernel
theorem d10_errs_8 : decode c10_errs 8 = .ok (.aload_n 0, 1) := by decide +kernel
theorem d10_errs_9 : decode c10_errs 9 = .ok (.iload_n 1, 1) := by decide +kernel
theorem d10_errs_10 : decode c10_errs 10 = .ok (.putfield 156, 3) := by decide +kernel
theorem d10_errs_13 : decode c10_errs 13 = .ok (.aload_n 0, 1) := by decide +kernel
theorem d10_errs_14 : decode c10_errs 14 = .ok (.aload_n 0, 1) := by decide +kernel
theorem d10_errs_15 : decode c10_errs 15 = .ok (.getfield 132, 3) := by decide +kernel
theorem d10_errs_18 : decode c10_errs 18 = .ok (.putfield 27, 3) := by decide +kernel
theorem d10_errs_21 : decode c10_errs 21 = .ok (.return_, 1) := by decide +kernel
def f10_errs (D : Mem) (p0 : Int) : Option (Mem) :=
  Option.bind (f10_good D) fun (a1 : Int) =>
  if w32 a1 = 0 then
    some D
  else
    Option.bind (some (mset D 117 12 p0)) fun (D1 : Mem) =>
    some (mset D1 117 13 (D1 117 9))
set_option maxHeartbeats 4000000 in
theorem ok10_errs {l : Launch} {X : XT} {n : Nat} {D : Mem} {Q : Option Value → Nat → Rho → Mem → Prop} (hn : 147 ≤ n) {p0 : Int}  (h : wpo (f10_errs D p0) (fun a => Q none n rt a)) : MOK l y10_errs c10_errs 2 (none) { frames := 1, cells := 0, slots := 0, locals := 20 } 0 0 X [vR X 117, vI p0] n rt D Q := by
  refine MOK_of 10 (by decide +kernel) rfl (lv := [(0, vR X 117), (1, vI p0)]) (Nat.le_of_ble_eq_true rfl) rfl (fun K hK F hnm => ?_)
  subst hK
  unfold f10_errs at h
  refine r_aload_nR F 0 rfl rfl d10_errs_0 ?_
  replace h := wpo_bind h
  refine r_callV0 F lm10_159 mf10_good (vc117 hn) rfl (fr := 0) (lo := 0) (As := []) (rest := []) ⟨Nat.le_of_ble_eq_true rfl, Nat.le_of_ble_eq_true rfl⟩ rfl (Nat.le_of_ble_eq_true rfl) ⟨Nat.zero_le _, Nat.zero_le _⟩ d10_errs_1 ?_
  refine ok10_good hn  (kI h (fun a1 h => ?_))
  refine r_if_ne F (tgt := 8) d10_errs_4 (by decide) (fun hb => ?_) (fun hb => ?_)
  · replace h := wpo_neg h hb
    refine r_aload_nR F 0 rfl rfl d10_errs_8 ?_
    refine r_iload_n F 1 rfl rfl d10_errs_9 ?_
    refine r_putI F lf10_156 rfl rfl (vc117 hn) d10_errs_10 ?_
    refine r_aload_nR F 0 rfl rfl d10_errs_13 ?_
    refine r_aload_nR F 0 rfl rfl d10_errs_14 ?_
    refine at_name (B := fun (D1 : Mem) => At K X (ZQ K X Q) 0 0 n rt 2 15 [(0, vR X 117), (1, vI p0)] [vR X 117, vR X 117] D1) h (fun D1 h => ?_)
    refine r_getI F lf10_132 (vc117 hn) d10_errs_15 ?_
    refine r_putI F lf10_27 rfl rfl (vc117 hn) d10_errs_18 ?_
    replace h := wpo_some h
    exact r_vret F h d10_errs_21
  · replace h := wpo_pos h hb
    replace h := wpo_some h
    exact r_vret F h d10_errs_7
theorem d10_is_0 : decode c10_is 0 = .ok (.aload_n 0, 1) := by decide +kernel
theorem d10_is_1 : decode c10_is 1 = .ok (.invokevirtual 159, 3) := by decide +kernel
theorem d10_is_4 : decode c10_is 4 = .ok (.ifCond .eq 31, 3) := by decide +kernel
theorem d10_is_7 : decode c10_is 7 = .ok (.aload_n 0, 1) := by decide +kernel
theorem d10_is_8 : decode c10_is 8 = .ok (.getfield 135, 3) := by decide +kernel
theorem d10_is_11 : decode c10_is 11 = .ok (.iconst 1, 1) := by decide +kernel
theorem d10_is_12 : decode c10_is 12 = .ok (.if_icmp .ne 23, 3) := by decide +kernel
theorem d10_is_15 : decode c10_is 15 = .ok (.aload_n 0, 1) := by decide +kernel
theorem d10_is_16 : decode c10_is 16 = .ok (.getfield 125, 3) := by decide +kernel
theorem d10_is_19 : decode c10_is 19 = .ok (.aload_n 0, 1) := by decide +kernel
theorem d10_is_20 : decode c10_is 20 = .ok (.getfield 132, 3) := by decide +kernel
theorem d10_is_23 : decode c10_is 23 = .ok (.isub, 1) := by decide +kernel
theorem d10_is_24 : decode c10_is 24 = .ok (.aload_n 1, 1) := by decide +kernel
theorem d10_is_25 : decode c10_is 25 = .ok (.invokevirtual 162, 3) := by decide +kernel
theorem d10_is_28 : decode c10_is 28 = .ok (.if_icmp .ne 7, 3) := by decide +kernel
theorem d10_is_31 : decode c10_is 31 = .ok (.iconst 1, 1) := by decide +kernel
theorem d10_is_32 : decode c10_is 32 = .ok (.goto 4, 3) := by decide +kernel
theorem d10_is_35 : decode c10_is 35 = .ok (.iconst 0, 1) := by decide +kernel
theorem d10_is_36 : decode c10_is 36 = .ok (.istore_n 2, 1) := by decide +kernel
theorem d10_is_37 : decode c10_is 37 = .ok (.iconst 0, 1) := by decide +kernel
theorem d10_is_38 : decode c10_is 38 = .ok (.istore_n 3, 1) := by decide +kernel
theorem d10_is_39 : decode c10_is 39 = .ok (.iload_n 3, 1) := by decide +kernel
theorem d10_is_40 : decode c10_is 40 = .ok (.aload_n 1, 1) := by decide +kernel
theorem d10_is_41 : decode c10_is 41 = .ok (.invokevirtual 162, 3) := by decide +kernel
theorem d10_is_44 : decode c10_is 44 = .ok (.if_icmp .ge 38, 3) := by decide +kernel
theorem d10_is_47 : decode c10_is 47 = .ok (.iload_n 2, 1) := by decide +kernel
theorem d10_is_48 : decode c10_is 48 = .ok (.ifCond .eq 34, 3) := by decide +kernel
theorem d10_is_51 : decode c10_is 51 = .ok (.aload_n 0, 1) := by decide +kernel
theorem d10_is_52 : decode c10_is 52 = .ok (.getfield 20, 3) := by decide +kernel
theorem d10_is_55 : decode c10_is 55 = .ok (.aload_n 0, 1) := by decide +kernel
theorem d10_is_56 : decode c10_is 56 = .ok (.getfield 132, 3) := by decide +kernel
theorem d10_is_59 : decode c10_is 59 = .ok (.iload_n 3, 1) := by decide +kernel
theorem d10_is_60 : decode c10_is 60 = .ok (.iadd, 1) := by decide +kernel
theorem d10_is_61 : decode c10_is 61 = .ok (.baload, 1) := by decide +kernel
theorem d10_is_62 : decode c10_is 62 = .ok (.aload_n 1, 1) := by decide +kernel
theorem d10_is_63 : decode c10_is 63 = .ok (.iload_n 3, 1) := by decide +kernel
theorem d10_is_64 : decode c10_is 64 = .ok (.invokevirtual 168, 3) := by decide +kernel
theorem d10_is_67 : decode c10_is 67 = .ok (.if_icmp .ne 7, 3) := by decide +kernel
theorem d10_is_70 : decode c10_is 70 = .ok (.iconst 1, 1) := by decide +kernel
theorem d10_is_71 : decode c10_is 71 = .ok (.goto 4, 3) := by decide +kernel
theorem d10_is_74 : decode c10_is 74 = .ok (.iconst 0, 1) := by decide +kernel
theorem d10_is_75 : decode c10_is 75 = .ok (.istore_n 2, 1) := by decide +kernel
theorem d10_is_76 : decode c10_is 76 = .ok (.iinc 3 1, 3) := by decide +kernel
theorem d10_is_79 : decode c10_is 79 = .ok (.goto (-40), 3) := by decide +kernel
theorem d10_is_82 : decode c10_is 82 = .ok (.iload_n 2, 1) := by decide +kernel
theorem d10_is_83 : decode c10_is 83 = .ok (.ireturn, 1) := by decide +kernel
def f10_is (D : Mem) (p0 : Nat) : Option (Int) :=
  Option.bind (f10_good D) fun (a1 : Int) =>
  Option.bind (
    if w32 a1 = 0 then
      some 0
    else
      if w32 (D 117 10) = w32 1 then
        if w32 ((D 117 8) - (D 117 9)) = w32 ((lenS.getD p0 0 : Nat) : Int) then
          some 1
        else
          some 0
      else
        some 0
  ) fun (j1 : Int) =>
  Option.bind (@loop (Int × Int) (Int) (fun s1 =>
    if w32 s1.2 < w32 ((lenS.getD p0 0 : Nat) : Int) then
      if w32 s1.1 = 0 then
        some (Sum.inr s1.1)
      else
        if 0 ≤ ((D 117 9) + s1.2) ∧ ((D 117 9) + s1.2) < 700 then
          if 0 ≤ s1.2 ∧ s1.2 < ((lenS.getD p0 0 : Nat) : Int) then
            Option.bind (
              if w32 (D 121 ((D 117 9) + s1.2).toNat) = w32 (chS p0 s1.2.toNat) then
                some 1
              else
                some 0
            ) fun (j2 : Int) =>
            some (Sum.inl (j2, (s1.2 + 1)))
          else none
        else none
    else
      some (Sum.inr s1.1)
  ) FU (j1, 0)) fun (b1 : Int) =>
  if b1 = 0 ∨ b1 = 1 then
    some b1
  else none
set_option maxHeartbeats 4000000 in
theorem ok10_is {l : Launch} {X : XT} {n : Nat} {D : Mem} {Q : Option Value → Nat → Rho → Mem → Prop} (hn : 147 ≤ n) {p0 : Nat} (hs0 : p0 < 13) (h : wpo (f10_is D p0) (fun a => Q (some (vI a)) n rt D)) : MOK l y10_is c10_is 4 (some .boolean) { frames := 4, cells := 0, slots := 0, locals := 85 } 0 0 X [vR X 117, vS X p0] n rt D Q := by
  refine MOK_of 10 (by decide +kernel) rfl (lv := [(0, vR X 117), (1, vS X p0)]) (Nat.le_of_ble_eq_true rfl) rfl (fun K hK F hnm => ?_)
  subst hK
  unfold f10_is at h
  refine r_aload_nR F 0 rfl rfl d10_is_0 ?_
  replace h := wpo_bind h
  refine r_callV0 F lm10_159 mf10_good (vc117 hn) rfl (fr := 0) (lo := 0) (As := []) (rest := []) ⟨Nat.le_of_ble_eq_true rfl, Nat.le_of_ble_eq_true rfl⟩ rfl (Nat.le_of_ble_eq_true rfl) ⟨Nat.zero_le _, Nat.zero_le _⟩ d10_is_1 ?_
  refine ok10_good hn  (kI h (fun a1 h => ?_))
  refine at_join (B := fun (j1 : Int) => At K X (ZQ K X Q) 0 0 n rt 4 36 [(0, vR X 117), (1, vS X p0)] [vI j1] D) h (fun j1 h => ?_) (fun h => ?_)
  · refine r_istore_n F (lv' := [(2, vI j1), (0, vR X 117), (1, vS X p0)]) rfl (Nat.le_of_ble_eq_true rfl) rfl d10_is_36 ?_
    refine r_iconst F (z := 0) d10_is_37 ?_
    refine r_istore_n F (lv' := [(3, vI 0), (2, vI j1), (0, vR X 117), (1, vS X p0)]) rfl (Nat.le_of_ble_eq_true rfl) rfl d10_is_38 ?_
    refine r_weak [2, 3, 1, 0] rfl ?_
    refine at_loopj (A := fun (s1 : Int × Int) => At K X (ZQ K X Q) 0 0 n rt 4 39 [(0, vR X 117), (1, vS X p0), (2, vI s1.1), (3, vI s1.2)] [] D) (B := fun (b1 : Int) => At K X (ZQ K X Q) 0 0 n rt 4 82 [(2, vI b1)] [] D) h (fun b1 h => ?_) (fun s1 h => ?_)
    · refine r_iload_n F 0 rfl rfl d10_is_82 ?_
      obtain ⟨hx3, h⟩ := wpo_chk h
      replace h := wpo_some h
      exact r_zret F hx3 h d10_is_83
    · refine r_iload_n F 3 rfl rfl d10_is_39 ?_
      refine r_aload_nS F 1 rfl rfl d10_is_40 ?_
      refine r_strlen F lk10_162 ⟨Nat.le_of_ble_eq_true rfl, Nat.le_of_ble_eq_true rfl⟩ (Nat.le_of_ble_eq_true rfl) ⟨Nat.zero_le _, Nat.zero_le _⟩ hs0 d10_is_41 ?_
      refine r_icmp_ge F (tgt := 82) d10_is_44 (by decide) (fun hb => ?_) (fun hb => ?_)
      · replace h := wpo_neg h hb
        refine r_weak [2] rfl ?_
        replace h := wpo_inr h
        exact h
      · replace h := wpo_pos h hb
        refine r_iload_n F 2 rfl rfl d10_is_47 ?_
        refine r_if_eq F (tgt := 82) d10_is_48 (by decide) (fun hb => ?_) (fun hb => ?_)
        · replace h := wpo_pos h hb
          refine r_weak [2] rfl ?_
          replace h := wpo_inr h
          exact h
        · replace h := wpo_neg h hb
          refine r_aload_nR F 0 rfl rfl d10_is_51 ?_
          refine r_getR F (z := 121) lf10_20 (vc117 hn) z117_4 d10_is_52 ?_
          refine r_aload_nR F 0 rfl rfl d10_is_55 ?_
          refine r_getI F lf10_132 (vc117 hn) d10_is_56 ?_
          refine r_iload_n F 3 rfl rfl d10_is_59 ?_
          refine r_iadd F d10_is_60 ?_
          obtain ⟨hx1, h⟩ := wpo_chk h
          refine r_bald F (vc121 hn) hx1 d10_is_61 ?_
          refine r_aload_nS F 1 rfl rfl d10_is_62 ?_
          refine r_iload_n F 3 rfl rfl d10_is_63 ?_
          obtain ⟨hx2, h⟩ := wpo_chk h
          refine r_strchr F lk10_168 ⟨Nat.le_of_ble_eq_true rfl, Nat.le_of_ble_eq_true rfl⟩ (Nat.le_of_ble_eq_true rfl) ⟨Nat.zero_le _, Nat.zero_le _⟩ hs0 hx2 d10_is_64 ?_
          refine at_join (B := fun (j2 : Int) => At K X (ZQ K X Q) 0 0 n rt 4 75 [(0, vR X 117), (1, vS X p0), (3, vI s1.2)] [vI j2] D) h (fun j2 h => ?_) (fun h => ?_)
          · refine r_istore_n F (lv' := [(2, vI j2), (0, vR X 117), (1, vS X p0), (3, vI s1.2)]) rfl (Nat.le_of_ble_eq_true rfl) rfl d10_is_75 ?_
            refine r_iinc F 3 (lv' := [(3, vI (s1.2 + 1)), (2, vI j2), (0, vR X 117), (1, vS X p0)]) rfl (Nat.le_of_ble_eq_true rfl) rfl d10_is_76 ?_
            refine r_goto F (tgt := 39) (by decide) d10_is_79 ?_
            refine r_weak [2, 3, 1, 0] rfl ?_
            replace h := wpo_inl h
            exact h
          · refine r_icmp_ne F (tgt := 74) d10_is_67 (by decide) (fun hb => ?_) (fun hb => ?_)
            · replace h := wpo_neg h hb
              refine r_iconst F (z := 0) d10_is_74 ?_
              refine r_weak [0, 1, 3] rfl ?_
              replace h := wpo_some h
              exact h
            · replace h := wpo_pos h hb
              refine r_iconst F (z := 1) d10_is_70 ?_
              refine r_goto F (tgt := 75) (by decide) d10_is_71 ?_
              refine r_weak [0, 1, 3] rfl ?_
              replace h := wpo_some h
              exact h
  · refine r_if_eq F (tgt := 35) d10_is_4 (by decide) (fun hb => ?_) (fun hb => ?_)
    · replace h := wpo_pos h hb
      refine r_iconst F (z := 0) d10_is_35 ?_
      replace h := wpo_some h
      exact h
    · replace h := wpo_neg h hb
      refine r_aload_nR F 0 rfl rfl d10_is_7 ?_
      refine r_getI F lf10_135 (vc117 hn) d10_is_8 ?_
      refine r_iconst F (z := 1) d10_is_11 ?_
      refine r_icmp_ne F (tgt := 35) d10_is_12 (by decide) (fun hb => ?_) (fun hb => ?_)
      · replace h := wpo_neg h hb
        refine r_iconst F (z := 0) d10_is_35 ?_
        replace h := wpo_some h
        exact h
      · replace h := wpo_pos h hb
        refine r_aload_nR F 0 rfl rfl d10_is_15 ?_
        refine r_getI F lf10_125 (vc117 hn) d10_is_16 ?_
        refine r_aload_nR F 0 rfl rfl d10_is_19 ?_
        refine r_getI F lf10_132 (vc117 hn) d10_is_20 ?_
        refine r_isub F d10_is_23 ?_
        refine r_aload_nS F 1 rfl rfl d10_is_24 ?_
        refine r_strlen F lk10_162 ⟨Nat.le_of_ble_eq_true rfl, Nat.le_of_ble_eq_true rfl⟩ (Nat.le_of_ble_eq_true rfl) ⟨Nat.zero_le _, Nat.zero_le _⟩ hs0 d10_is_25 ?_
        refine r_icmp_ne F (tgt := 35) d10_is_28 (by decide) (fun hb => ?_) (fun hb => ?_)
        · replace h := wpo_neg h hb
          refine r_iconst F (z := 0) d10_is_35 ?_
          replace h := wpo_some h
          exact h
        · replace h := wpo_pos h hb
          refine r_iconst F (z := 1) d10_is_31 ?_
          refine r_goto F (tgt := 36) (by decide) d10_is_32 ?_
          replace h := wpo_some h
          exact h
theorem d10_needs_0 : decode c10_needs 0 = .ok (.aload_n 0, 1) := by decide +kernel
theorem d10_needs_1 : decode c10_needs 1 = .ok (.aload_n 1, 1) := by decide +kernel
theorem d10_needs_2 : decode c10_needs 2 = .ok (.invokevirtual 172, 3) := by decide +kernel
theorem d10_needs_5 : decode c10_needs 5 = .ok (.istore_n 2, 1) := by decide +kernel
theorem d10_needs_6 : decode c10_needs 6 = .ok (.iload_n 2, 1) := by decide +kernel
theorem d10_needs_7 : decode c10_needs 7 = .ok (.ifCond .ne 8, 3) := by decide +kernel
theorem d10_needs_10 : decode c10_needs 10 = .ok (.aload_n 0, 1) := by decide +kernel
theorem d10_needs_11 : decode c10_needs 11 = .ok (.iconst 1, 1) := by decide +kernel
theorem d10_needs_12 : decode c10_needs 12 = .ok (.invokevirtual 176, 3) := by decide +kernel
theorem d10_needs_15 : decode c10_needs 15 = .ok (.iload_n 2, 1) := by decide +kernel
theorem d10_needs_16 : decode c10_needs 16 = .ok (.ifCond .eq 7, 3) := by decide +kernel
theorem d10_needs_19 : decode c10_needs 19 = .ok (.aload_n 0, 1) := by decide +kernel
theorem d10_needs_20 : decode c10_needs 20 = .ok (.invokevirtual 180, 3) := by decide +kernel
theorem d10_needs_23 : decode c10_needs 23 = .ok (.return_, 1) := by decide +kernel
def f10_needs (D : Mem) (p0 : Nat) : Option (Mem) :=
  Option.bind (f10_is D p0) fun (a1 : Int) =>
  Option.bind (
    if w32 a1 = 0 then
      Option.bind (f10_errs D 1) fun (a2 : Mem) =>
      some a2
    else
      some D
  ) fun (j1 : Mem) =>
  if w32 a1 = 0 then
    some j1
  else
    Option.bind (f10_advance j1) fun (a3 : Mem) =>
    some a3
set_option maxHeartbeats 4000000 in
theorem ok10_needs {l : Launch} {X : XT} {n : Nat} {D : Mem} {Q : Option Value → Nat → Rho → Mem → Prop} (hn : 147 ≤ n) {p0 : Nat} (hs0 : p0 < 13) (h : wpo (f10_needs D p0) (fun a => Q none n rt a)) : MOK l y10_needs c10_needs 3 (none) { frames := 5, cells := 0, slots := 0, locals := 108 } 0 0 X [vR X 117, vS X p0] n rt D Q := by
  refine MOK_of 10 (by decide +kernel) rfl (lv := [(0, vR X 117), (1, vS X p0)]) (Nat.le_of_ble_eq_true rfl) rfl (fun K hK F hnm => ?_)
  subst hK
  unfold f10_needs at h
  refine r_aload_nR F 0 rfl rfl d10_needs_0 ?_
  refine r_aload_nS F 1 rfl rfl d10_needs_1 ?_
  replace h := wpo_bind h
  refine r_callV0 F lm10_172 mf10_is (vc117 hn) rfl (fr := 4) (lo := 85) (As := [vS X p0]) (rest := []) ⟨Nat.le_of_ble_eq_true rfl, Nat.le_of_ble_eq_true rfl⟩ rfl (Nat.le_of_ble_eq_true rfl) ⟨Nat.zero_le _, Nat.zero_le _⟩ d10_needs_2 ?_
  refine ok10_is hn hs0 (kI h (fun a1 h => ?_))
  refine r_istore_n F (lv' := [(2, vI a1), (0, vR X 117), (1, vS X p0)]) rfl (Nat.le_of_ble_eq_true rfl) rfl d10_needs_5 ?_
  refine r_iload_n F 0 rfl rfl d10_needs_6 ?_
  refine at_join (B := fun (j1 : Mem) => At K X (ZQ K X Q) 0 0 n rt 3 15 [(0, vR X 117), (2, vI a1)] [] j1) h (fun j1 h => ?_) (fun h => ?_)
  · refine r_iload_n F 1 rfl rfl d10_needs_15 ?_
    refine r_if_eq F (tgt := 23) d10_needs_16 (by decide) (fun hb => ?_) (fun hb => ?_)
    · replace h := wpo_pos h hb
      replace h := wpo_some h
      exact r_vret F h d10_needs_23
    · replace h := wpo_neg h hb
      refine r_aload_nR F 0 rfl rfl d10_needs_19 ?_
      replace h := wpo_bind h
      refine r_callV0 F lm10_180 mf10_advance (vc117 hn) rfl (fr := 1) (lo := 25) (As := []) (rest := []) ⟨Nat.le_of_ble_eq_true rfl, Nat.le_of_ble_eq_true rfl⟩ rfl (Nat.le_of_ble_eq_true rfl) ⟨Nat.zero_le _, Nat.zero_le _⟩ d10_needs_20 ?_
      refine ok10_advance hn  (kVm h (fun a3 h => ?_))
      replace h := wpo_some h
      exact r_vret F h d10_needs_23
  · refine r_if_ne F (tgt := 15) d10_needs_7 (by decide) (fun hb => ?_) (fun hb => ?_)
    · replace h := wpo_neg h hb
      refine r_weak [1, 0] rfl ?_
      replace h := wpo_some h
      exact h
    · replace h := wpo_pos h hb
      refine r_aload_nR F 1 rfl rfl d10_needs_10 ?_
      refine r_iconst F (z := 1) d10_needs_11 ?_
      replace h := wpo_bind h
      refine r_callV0 F lm10_176 mf10_errs (vc117 hn) rfl (fr := 1) (lo := 20) (As := [vI 1]) (rest := []) ⟨Nat.le_of_ble_eq_true rfl, Nat.le_of_ble_eq_true rfl⟩ rfl (Nat.le_of_ble_eq_true rfl) ⟨Nat.zero_le _, Nat.zero_le _⟩ d10_needs_12 ?_
      refine ok10_errs hn  (kVm h (fun a2 h => ?_))
      refine r_weak [1, 0] rfl ?_
      replace h := wpo_some h
      exact h
theorem d10_told_0 : decode c10_told 0 = .ok (.aload_n 0, 1) := by decide +kernel
theorem d10_told_1 : decode c10_told 1 = .ok (.aload_n 1, 1) := by decide +kernel
theorem d10_told_2 : decode c10_told 2 = .ok (.invokevirtual 183, 3) := by decide +kernel
theorem d10_told_5 : decode c10_told 5 = .ok (.aload_n 0, 1) := by decide +kernel
theorem d10_told_6 : decode c10_told 6 = .ok (.invokevirtual 159, 3) := by decide +kernel
theorem d10_told_9 : decode c10_told 9 = .ok (.ifCond .eq 16, 3) := by decide +kernel
theorem d10_told_12 : decode c10_told 12 = .ok (.aload_n 0, 1) := by decide +kernel
theorem d10_told_13 : decode c10_told 13 = .ok (.getfield 135, 3) := by decide +kernel
theorem d10_told_16 : decode c10_told 16 = .ok (.iconst 2, 1) := by decide +kernel
theorem d10_told_17 : decode c10_told 17 = .ok (.if_icmp .eq 8, 3) := by decide +kernel
theorem d10_told_20 : decode c10_told 20 = .ok (.aload_n 0, 1) := by decide +kernel
theorem d10_told_21 : decode c10_told 21 = .ok (.iconst 1, 1) := by decide +kernel
theorem d10_told_22 : decode c10_told 22 = .ok (.invokevirtual 176, 3) := by decide +kernel
theorem d10_told_25 : decode c10_told 25 = .ok (.aload_n 0, 1) := by decide +kernel
theorem d10_told_26 : decode c10_told 26 = .ok (.invokevirtual 159, 3) := by decide +kernel
theorem d10_told_29 : decode c10_told 29 = .ok (.ifCond .eq 23, 3) := by decide +kernel
theorem d10_told_32 : decode c10_told 32 = .ok (.aload_n 0, 1) := by decide +kernel
theorem d10_told_33 : decode c10_told 33 = .ok (.getfield 146, 3) := by decide +kernel
theorem d10_told_36 : decode c10_told 36 = .ok (.i2l, 1) := by decide +kernel
theorem d10_told_37 : decode c10_told 37 = .ok (.iload_n 2, 1) := by decide +kernel
theorem d10_told_38 : decode c10_told 38 = .ok (.i2l, 1) := by decide +kernel
theorem d10_told_39 : decode c10_told 39 = .ok (.iload_n 3, 1) := by decide +kernel
theorem d10_told_40 : decode c10_told 40 = .ok (.i2l, 1) := by decide +kernel
theorem d10_told_41 : decode c10_told 41 = .ok (.invokestatic 109, 3) := by decide +kernel
theorem d10_told_44 : decode c10_told 44 = .ok (.ifCond .ne 8, 3) := by decide +kernel
theorem d10_told_47 : decode c10_told 47 = .ok (.aload_n 0, 1) := by decide +kernel
theorem d10_told_48 : decode c10_told 48 = .ok (.iconst 2, 1) := by decide +kernel
theorem d10_told_49 : decode c10_told 49 = .ok (.invokevirtual 176, 3) := by decide +kernel
theorem d10_told_52 : decode c10_told 52 = .ok (.aload_n 0, 1) := by decide +kernel
theorem d10_told_53 : decode c10_told 53 = .ok (.invokevirtual 159, 3) := by decide +kernel
theorem d10_told_56 : decode c10_told 56 = .ok (.ifCond .ne 5, 3) := by decide +kernel
theorem d10_told_59 : decode c10_told 59 = .ok (.iconst 0, 1) := by decide +kernel
theorem d10_told_60 : decode c10_told 60 = .ok (.ireturn, 1) := by decide +kernel
theorem d10_told_61 : decode c10_told 61 = .ok (.aload_n 0, 1) := by decide +kernel
theorem d10_told_62 : decode c10_told 62 = .ok (.getfield 146, 3) := by decide +kernel
theorem d10_told_65 : decode c10_told 65 = .ok (.istore 4, 2) := by decide +kernel
theorem d10_told_67 : decode c10_told 67 = .ok (.aload_n 0, 1) := by decide +kernel
theorem d10_told_68 : decode c10_told 68 = .ok (.invokevirtual 180, 3) := by decide +kernel
theorem d10_told_71 : decode c10_told 71 = .ok (.iload 4, 2) := by decide +kernel
theorem d10_told_73 : decode c10_told 73 = .ok (.ireturn, 1) := by decide +kernel
def f10_told (D : Mem) (p0 : Nat) (p1 : Int) (p2 : Int) : Option (Int × Mem) :=
  Option.bind (f10_needs D p0) fun (a1 : Mem) =>
  Option.bind (f10_good a1) fun (a2 : Int) =>
  Option.bind (
    if w32 a2 = 0 then
      some a1
    else
      if w32 (a1 117 10) = w32 2 then
        some a1
      else
        Option.bind (f10_errs a1 1) fun (a3 : Mem) =>
        some a3
  ) fun (j1 : Mem) =>
  Option.bind (f10_good j1) fun (a4 : Int) =>
  Option.bind (
    if w32 a4 = 0 then
      some j1
    else
      Option.bind (f10_in j1 (w32 (j1 117 11)) (w32 p1) (w32 p2)) fun (a5 : Int) =>
      if w32 a5 = 0 then
        Option.bind (f10_errs j1 2) fun (a6 : Mem) =>
        some a6
      else
        some j1
  ) fun (j2 : Mem) =>
  Option.bind (f10_good j2) fun (a7 : Int) =>
  if w32 a7 = 0 then
    some (0, j2)
  else
    Option.bind (f10_advance j2) fun (a8 : Mem) =>
    some ((j2 117 11), a8)
set_option maxHeartbeats 4000000 in
theorem ok10_told {l : Launch} {X : XT} {n : Nat} {D : Mem} {Q : Option Value → Nat → Rho → Mem → Prop} (hn : 147 ≤ n) {p0 : Nat} {p1 : Int} {p2 : Int} (hs0 : p0 < 13) (h : wpo (f10_told D p0 p1 p2) (fun a => Q (some (vI a.1)) n rt a.2)) : MOK l y10_told c10_told 5 (some .int) { frames := 6, cells := 0, slots := 0, locals := 130 } 0 0 X [vR X 117, vS X p0, vI p1, vI p2] n rt D Q := by
  refine MOK_of 10 (by decide +kernel) rfl (lv := [(0, vR X 117), (1, vS X p0), (2, vI p1), (3, vI p2)]) (Nat.le_of_ble_eq_true rfl) rfl (fun K hK F hnm => ?_)
  subst hK
  unfold f10_told at h
  refine r_aload_nR F 0 rfl rfl d10_told_0 ?_
  refine r_aload_nS F 1 rfl rfl d10_told_1 ?_
  replace h := wpo_bind h
  refine r_callV0 F lm10_183 mf10_needs (vc117 hn) rfl (fr := 5) (lo := 108) (As := [vS X p0]) (rest := []) ⟨Nat.le_of_ble_eq_true rfl, Nat.le_of_ble_eq_true rfl⟩ rfl (Nat.le_of_ble_eq_true rfl) ⟨Nat.zero_le _, Nat.zero_le _⟩ d10_told_2 ?_
  refine ok10_needs hn hs0 (kVm h (fun a1 h => ?_))
  refine r_aload_nR F 0 rfl rfl d10_told_5 ?_
  replace h := wpo_bind h
  refine r_callV0 F lm10_159 mf10_good (vc117 hn) rfl (fr := 0) (lo := 0) (As := []) (rest := []) ⟨Nat.le_of_ble_eq_true rfl, Nat.le_of_ble_eq_true rfl⟩ rfl (Nat.le_of_ble_eq_true rfl) ⟨Nat.zero_le _, Nat.zero_le _⟩ d10_told_6 ?_
  refine ok10_good hn  (kI h (fun a2 h => ?_))
  refine at_join (B := fun (j1 : Mem) => At K X (ZQ K X Q) 0 0 n rt 5 25 [(0, vR X 117), (2, vI p1), (3, vI p2)] [] j1) h (fun j1 h => ?_) (fun h => ?_)
  · refine r_aload_nR F 0 rfl rfl d10_told_25 ?_
    replace h := wpo_bind h
    refine r_callV0 F lm10_159 mf10_good (vc117 hn) rfl (fr := 0) (lo := 0) (As := []) (rest := []) ⟨Nat.le_of_ble_eq_true rfl, Nat.le_of_ble_eq_true rfl⟩ rfl (Nat.le_of_ble_eq_true rfl) ⟨Nat.zero_le _, Nat.zero_le _⟩ d10_told_26 ?_
    refine ok10_good hn  (kI h (fun a4 h => ?_))
    refine at_join (B := fun (j2 : Mem) => At K X (ZQ K X Q) 0 0 n rt 5 52 [(0, vR X 117)] [] j2) h (fun j2 h => ?_) (fun h => ?_)
    · refine r_aload_nR F 0 rfl rfl d10_told_52 ?_
      replace h := wpo_bind h
      refine r_callV0 F lm10_159 mf10_good (vc117 hn) rfl (fr := 0) (lo := 0) (As := []) (rest := []) ⟨Nat.le_of_ble_eq_true rfl, Nat.le_of_ble_eq_true rfl⟩ rfl (Nat.le_of_ble_eq_true rfl) ⟨Nat.zero_le _, Nat.zero_le _⟩ d10_told_53 ?_
      refine ok10_good hn  (kI h (fun a7 h => ?_))
      refine r_if_ne F (tgt := 61) d10_told_56 (by decide) (fun hb => ?_) (fun hb => ?_)
      · replace h := wpo_neg h hb
        refine r_aload_nR F 0 rfl rfl d10_told_61 ?_
        refine r_getI F lf10_146 (vc117 hn) d10_told_62 ?_
        refine r_istore F (lv' := [(4, vI (j2 117 11)), (0, vR X 117)]) (Nat.le_of_ble_eq_true rfl) rfl d10_told_65 ?_
        refine r_aload_nR F 1 rfl rfl d10_told_67 ?_
        replace h := wpo_bind h
        refine r_callV0 F lm10_180 mf10_advance (vc117 hn) rfl (fr := 1) (lo := 25) (As := []) (rest := []) ⟨Nat.le_of_ble_eq_true rfl, Nat.le_of_ble_eq_true rfl⟩ rfl (Nat.le_of_ble_eq_true rfl) ⟨Nat.zero_le _, Nat.zero_le _⟩ d10_told_68 ?_
        refine ok10_advance hn  (kVm h (fun a8 h => ?_))
        refine r_iload F 0 rfl d10_told_71 ?_
        replace h := wpo_some h
        exact r_iret F h d10_told_73
      · replace h := wpo_pos h hb
        refine r_iconst F (z := 0) d10_told_59 ?_
        replace h := wpo_some h
        exact r_iret F h d10_told_60
    · refine r_if_eq F (tgt := 52) d10_told_29 (by decide) (fun hb => ?_) (fun hb => ?_)
      · replace h := wpo_pos h hb
        refine r_weak [0] rfl ?_
        replace h := wpo_some h
        exact h
      · replace h := wpo_neg h hb
        refine r_aload_nR F 0 rfl rfl d10_told_32 ?_
        refine r_getI F lf10_146 (vc117 hn) d10_told_33 ?_
        refine r_i2l F d10_told_36 ?_
        refine r_iload_n F 1 rfl rfl d10_told_37 ?_
        refine r_i2l F d10_told_38 ?_
        refine r_iload_n F 2 rfl rfl d10_told_39 ?_
        refine r_i2l F d10_told_40 ?_
        replace h := wpo_bind h
        refine r_callS0 F lm10_109 mf10_in rfl (fr := 0) (lo := 0) (As := [vL (w32 (j1 117 11)), vL (w32 p1), vL (w32 p2)]) (rest := []) ⟨Nat.le_of_ble_eq_true rfl, Nat.le_of_ble_eq_true rfl⟩ rfl (Nat.le_of_ble_eq_true rfl) ⟨Nat.zero_le _, Nat.zero_le _⟩ d10_told_41 ?_
        refine ok10_in hn  (kI h (fun a5 h => ?_))
        refine r_if_ne F (tgt := 52) d10_told_44 (by decide) (fun hb => ?_) (fun hb => ?_)
        · replace h := wpo_neg h hb
          refine r_weak [0] rfl ?_
          replace h := wpo_some h
          exact h
        · replace h := wpo_pos h hb
          refine r_aload_nR F 0 rfl rfl d10_told_47 ?_
          refine r_iconst F (z := 2) d10_told_48 ?_
          replace h := wpo_bind h
          refine r_callV0 F lm10_176 mf10_errs (vc117 hn) rfl (fr := 1) (lo := 20) (As := [vI 2]) (rest := []) ⟨Nat.le_of_ble_eq_true rfl, Nat.le_of_ble_eq_true rfl⟩ rfl (Nat.le_of_ble_eq_true rfl) ⟨Nat.zero_le _, Nat.zero_le _⟩ d10_told_49 ?_
          refine ok10_errs hn  (kVm h (fun a6 h => ?_))
          refine r_weak [0] rfl ?_
          replace h := wpo_some h
          exact h
  · refine r_if_eq F (tgt := 25) d10_told_9 (by decide) (fun hb => ?_) (fun hb => ?_)
    · replace h := wpo_pos h hb
      refine r_weak [0, 2, 3] rfl ?_
      replace h := wpo_some h
      exact h
    · replace h := wpo_neg h hb
      refine r_aload_nR F 0 rfl rfl d10_told_12 ?_
      refine r_getI F lf10_135 (vc117 hn) d10_told_13 ?_
      refine r_iconst F (z := 2) d10_told_16 ?_
      refine r_icmp_eq F (tgt := 25) d10_told_17 (by decide) (fun hb => ?_) (fun hb => ?_)
      · replace h := wpo_pos h hb
        refine r_weak [0, 2, 3] rfl ?_
        replace h := wpo_some h
        exact h
      · replace h := wpo_neg h hb
        refine r_aload_nR F 0 rfl rfl d10_told_20 ?_
        refine r_iconst F (z := 1) d10_told_21 ?_
        replace h := wpo_bind h
        refine r_callV0 F lm10_176 mf10_errs (vc117 hn) rfl (fr := 1) (lo := 20) (As := [vI 1]) (rest := []) ⟨Nat.le_of_ble_eq_true rfl, Nat.le_of_ble_eq_true rfl⟩ rfl (Nat.le_of_ble_eq_true rfl) ⟨Nat.zero_le _, Nat.zero_le _⟩ d10_told_22 ?_
        refine ok10_errs hn  (kVm h (fun a3 h => ?_))
        refine r_weak [0, 2, 3] rfl ?_
        replace h := wpo_some h
        exact h
theorem d10_fault_0 : decode c10_fault 0 = .ok (.iload_n 1, 1) := by decide +kernel
theorem d10_fault_1 : decode c10_fault 1 = .ok (.ifCond .ne 10, 3) := by decide +kernel
theorem d10_fault_4 : decode c10_fault 4 = .ok (.aload_n 0, 1) := by decide +kernel
theorem d10_fault_5 : decode c10_fault 5 = .ok (.getfield 156, 3) := by decide +kernel
theorem d10_fault_8 : decode c10_fault 8 = .ok (.goto 16, 3) := by decide +kernel
theorem d10_fault_11 : decode c10_fault 11 = .ok (.iload_n 1, 1) := by decide +kernel
theorem d10_fault_12 : decode c10_fault 12 = .ok (.iconst 1, 1) := by decide +kernel
theorem d10_fault_13 : decode c10_fault 13 = .ok (.if_icmp .ne 10, 3) := by decide +kernel
theorem d10_fault_16 : decode c10_fault 16 = .ok (.aload_n 0, 1) := by decide +kernel
theorem d10_fault_17 : decode c10_fault 17 = .ok (.getfield 27, 3) := by decide +kernel
theorem d10_fault_20 : decode c10_fault 20 = .ok (.goto 4, 3) := by decide +kernel
theorem d10_fault_23 : decode c10_fault 23 = .ok (.iconst (-1), 1) := by decide +kernel
theorem d10_fault_24 : decode c10_fault 24 = .ok (.ireturn, 1) := by decide +kernel
def f10_fault (D : Mem) (p0 : Int) : Option (Int) :=
  if w32 p0 = 0 then
    some (D 117 12)
  else
    if w32 p0 = w32 1 then
      some (D 117 13)
    else
      some (-1)
set_option maxHeartbeats 4000000 in
theorem ok10_fault {l : Launch} {X : XT} {n : Nat} {D : Mem} {Q : Option Value → Nat → Rho → Mem → Prop} (hn : 147 ≤ n) {p0 : Int}  (h : wpo (f10_fault D p0) (fun a => Q (some (vI a)) n rt D)) : MOK l y10_fault c10_fault 2 (some .int) { frames := 0, cells := 0, slots := 0, locals := 0 } 0 0 X [vR X 117, vI p0] n rt D Q := by
  refine MOK_of 10 (by decide +kernel) rfl (lv := [(0, vR X 117), (1, vI p0)]) (Nat.le_of_ble_eq_true rfl) rfl (fun K hK F hnm => ?_)
  subst hK
  unfold f10_fault at h
  refine r_iload_n F 1 rfl rfl d10_fault_0 ?_
  refine r_if_ne F (tgt := 11) d10_fault_1 (by decide) (fun hb => ?_) (fun hb => ?_)
  · replace h := wpo_neg h hb
    refine r_iload_n F 1 rfl rfl d10_fault_11 ?_
    refine r_iconst F (z := 1) d10_fault_12 ?_
    refine r_icmp_ne F (tgt := 23) d10_fault_13 (by decide) (fun hb => ?_) (fun hb => ?_)
    · replace h := wpo_neg h hb
      refine r_iconst F (z := (-1)) d10_fault_23 ?_
      replace h := wpo_some h
      exact r_iret F h d10_fault_24
    · replace h := wpo_pos h hb
      refine r_aload_nR F 0 rfl rfl d10_fault_16 ?_
      refine r_getI F lf10_27 (vc117 hn) d10_fault_17 ?_
      refine r_goto F (tgt := 24) (by decide) d10_fault_20 ?_
      replace h := wpo_some h
      exact r_iret F h d10_fault_24
  · replace h := wpo_pos h hb
    refine r_aload_nR F 0 rfl rfl d10_fault_4 ?_
    refine r_getI F lf10_156 (vc117 hn) d10_fault_5 ?_
    refine r_goto F (tgt := 24) (by decide) d10_fault_8 ?_
    replace h := wpo_some h
    exact r_iret F h d10_fault_24
theorem d10_readFirst_0 : decode c10_readFirst 0 = .ok (.aload_n 0, 1) := by decide +kernel
theorem d10_readFirst_1 : decode c10_readFirst 1 = .ok (.ldc 187, 2) := by decide +kernel
theorem d10_readFirst_3 : decode c10_readFirst 3 = .ok (.invokevirtual 183, 3) := by decide +kernel
theorem d10_readFirst_6 : decode c10_readFirst 6 = .ok (.aload_n 0, 1) := by decide +kernel
theorem d10_readFirst_7 : decode c10_readFirst 7 = .ok (.getfield 31, 3) := by decide +kernel
theorem d10_readFirst_10 : decode c10_readFirst 10 = .ok (.iconst 0, 1) := by decide +kernel
theorem d10_readFirst_11 : decode c10_readFirst 11 = .ok (.aload_n 0, 1) := by decide +kernel
theorem d10_readFirst_12 : decode c10_readFirst 12 = .ok (.ldc 189, 2) := by decide +kernel
theorem d10_readFirst_14 : decode c10_readFirst 14 = .ok (.iconst 1, 1) := by decide +kernel
theorem d10_readFirst_15 : decode c10_readFirst 15 = .ok (.bipush 12, 2) := by decide +kernel
theorem d10_readFirst_17 : decode c10_readFirst 17 = .ok (.invokevirtual 191, 3) := by decide +kernel
theorem d10_readFirst_20 : decode c10_readFirst 20 = .ok (.iastore, 1) := by decide +kernel
theorem d10_readFirst_21 : decode c10_readFirst 21 = .ok (.aload_n 0, 1) := by decide +kernel
theorem d10_readFirst_22 : decode c10_readFirst 22 = .ok (.getfield 31, 3) := by decide +kernel
theorem d10_readFirst_25 : decode c10_readFirst 25 = .ok (.iconst 1, 1) := by decide +kernel
theorem d10_readFirst_26 : decode c10_readFirst 26 = .ok (.aload_n 0, 1) := by decide +kernel
theorem d10_readFirst_27 : decode c10_readFirst 27 = .ok (.ldc 195, 2) := by decide +kernel
theorem d10_readFirst_29 : decode c10_readFirst 29 = .ok (.iconst 1, 1) := by decide +kernel
theorem d10_readFirst_30 : decode c10_readFirst 30 = .ok (.bipush 60, 2) := by decide +kernel
theorem d10_readFirst_32 : decode c10_readFirst 32 = .ok (.invokevirtual 191, 3) := by decide +kernel
theorem d10_readFirst_35 : decode c10_readFirst 35 = .ok (.iastore, 1) := by decide +kernel
theorem d10_readFirst_36 : decode c10_readFirst 36 = .ok (.aload_n 0, 1) := by decide +kernel
theorem d10_readFirst_37 : decode c10_readFirst 37 = .ok (.getfield 31, 3) := by decide +kernel
theorem d10_readFirst_40 : decode c10_readFirst 40 = .ok (.iconst 2, 1) := by decide +kernel
theorem d10_readFirst_41 : decode c10_readFirst 41 = .ok (.aload_n 0, 1) := by decide +kernel
theorem d10_readFirst_42 : decode c10_readFirst 42 = .ok (.ldc 197, 2) := by decide +kernel
theorem d10_readFirst_44 : decode c10_readFirst 44 = .ok (.iconst 1, 1) := by decide +kernel
theorem d10_readFirst_45 : decode c10_readFirst 45 = .ok (.bipush 40, 2) := by decide +kernel
theorem d10_readFirst_47 : decode c10_readFirst 47 = .ok (.invokevirtual 191, 3) := by decide +kernel
theorem d10_readFirst_50 : decode c10_readFirst 50 = .ok (.iastore, 1) := by decide +kernel
theorem d10_readFirst_51 : decode c10_readFirst 51 = .ok (.aload_n 0, 1) := by decide +kernel
theorem d10_readFirst_52 : decode c10_readFirst 52 = .ok (.getfield 31, 3) := by decide +kernel
theorem d10_readFirst_55 : decode c10_readFirst 55 = .ok (.iconst 3, 1) := by decide +kernel
theorem d10_readFirst_56 : decode c10_readFirst 56 = .ok (.aload_n 0, 1) := by decide +kernel
theorem d10_readFirst_57 : decode c10_readFirst 57 = .ok (.ldc 199, 2) := by decide +kernel
theorem d10_readFirst_59 : decode c10_readFirst 59 = .ok (.iconst 1, 1) := by decide +kernel
theorem d10_readFirst_60 : decode c10_readFirst 60 = .ok (.bipush 20, 2) := by decide +kernel
theorem d10_readFirst_62 : decode c10_readFirst 62 = .ok (.invokevirtual 191, 3) := by decide +kernel
theorem d10_readFirst_65 : decode c10_readFirst 65 = .ok (.iastore, 1) := by decide +kernel
theorem d10_readFirst_66 : decode c10_readFirst 66 = .ok (.aload_n 0, 1) := by decide +kernel
theorem d10_readFirst_67 : decode c10_readFirst 67 = .ok (.getfield 31, 3) := by decide +kernel
theorem d10_readFirst_70 : decode c10_readFirst 70 = .ok (.iconst 4, 1) := by decide +kernel
theorem d10_readFirst_71 : decode c10_readFirst 71 = .ok (.aload_n 0, 1) := by decide +kernel
theorem d10_readFirst_72 : decode c10_readFirst 72 = .ok (.ldc 201, 2) := by decide +kernel
theorem d10_readFirst_74 : decode c10_readFirst 74 = .ok (.iconst 0, 1) := by decide +kernel
theorem d10_readFirst_75 : decode c10_readFirst 75 = .ok (.iconst 3, 1) := by decide +kernel
theorem d10_readFirst_76 : decode c10_readFirst 76 = .ok (.invokevirtual 191, 3) := by decide +kernel
theorem d10_readFirst_79 : decode c10_readFirst 79 = .ok (.iastore, 1) := by decide +kernel
theorem d10_readFirst_80 : decode c10_readFirst 80 = .ok (.aload_n 0, 1) := by decide +kernel
theorem d10_readFirst_81 : decode c10_readFirst 81 = .ok (.getfield 31, 3) := by decide +kernel
theorem d10_readFirst_84 : decode c10_readFirst 84 = .ok (.iconst 5, 1) := by decide +kernel
theorem d10_readFirst_85 : decode c10_readFirst 85 = .ok (.aload_n 0, 1) := by decide +kernel
theorem d10_readFirst_86 : decode c10_readFirst 86 = .ok (.ldc 203, 2) := by decide +kernel
theorem d10_readFirst_88 : decode c10_readFirst 88 = .ok (.iconst 0, 1) := by decide +kernel
theorem d10_readFirst_89 : decode c10_readFirst 89 = .ok (.bipush 99, 2) := by decide +kernel
theorem d10_readFirst_91 : decode c10_readFirst 91 = .ok (.invokevirtual 191, 3) := by decide +kernel
theorem d10_readFirst_94 : decode c10_readFirst 94 = .ok (.iastore, 1) := by decide +kernel
theorem d10_readFirst_95 : decode c10_readFirst 95 = .ok (.aload_n 0, 1) := by decide +kernel
theorem d10_readFirst_96 : decode c10_readFirst 96 = .ok (.getfield 31, 3) := by decide +kernel
theorem d10_readFirst_99 : decode c10_readFirst 99 = .ok (.bipush 6, 2) := by decide +kernel
theorem d10_readFirst_101 : decode c10_readFirst 101 = .ok (.aload_n 0, 1) := by decide +kernel
theorem d10_readFirst_102 : decode c10_readFirst 102 = .ok (.ldc 205, 2) := by decide +kernel
theorem d10_readFirst_104 : decode c10_readFirst 104 = .ok (.iconst 0, 1) := by decide +kernel
theorem d10_readFirst_105 : decode c10_readFirst 105 = .ok (.bipush 10, 2) := by decide +kernel
theorem d10_readFirst_107 : decode c10_readFirst 107 = .ok (.invokevirtual 191, 3) := by decide +kernel
theorem d10_readFirst_110 : decode c10_readFirst 110 = .ok (.iastore, 1) := by decide +kernel
theorem d10_readFirst_111 : decode c10_readFirst 111 = .ok (.return_, 1) := by decide +kernel
def f10_readFirst (D : Mem) : Option (Mem) :=
  Option.bind (f10_needs D 0) fun (a1 : Mem) =>
  Option.bind (f10_told a1 1 1 12) fun (a2 : Int × Mem) =>
  Option.bind (some (mset a2.2 123 0 a2.1)) fun (D1 : Mem) =>
  Option.bind (f10_told D1 2 1 60) fun (a3 : Int × Mem) =>
  Option.bind (some (mset a3.2 123 1 a3.1)) fun (D2 : Mem) =>
  Option.bind (f10_told D2 3 1 40) fun (a4 : Int × Mem) =>
  Option.bind (some (mset a4.2 123 2 a4.1)) fun (D3 : Mem) =>
  Option.bind (f10_told D3 4 1 20) fun (a5 : Int × Mem) =>
  Option.bind (some (mset a5.2 123 3 a5.1)) fun (D4 : Mem) =>
  Option.bind (f10_told D4 5 0 3) fun (a6 : Int × Mem) =>
  Option.bind (some (mset a6.2 123 4 a6.1)) fun (D5 : Mem) =>
  Option.bind (f10_told D5 6 0 99) fun (a7 : Int × Mem) =>
  Option.bind (some (mset a7.2 123 5 a7.1)) fun (D6 : Mem) =>
  Option.bind (f10_told D6 7 0 10) fun (a8 : Int × Mem) =>
  some (mset a8.2 123 6 a8.1)
set_option maxHeartbeats 4000000 in
theorem ok10_readFirst {l : Launch} {X : XT} {n : Nat} {D : Mem} {Q : Option Value → Nat → Rho → Mem → Prop} (hn : 147 ≤ n)  (h : wpo (f10_readFirst D) (fun a => Q none n rt a)) : MOK l y10_readFirst c10_readFirst 1 (none) { frames := 7, cells := 0, slots := 0, locals := 154 } 0 0 X [vR X 117] n rt D Q := by
  refine MOK_of 10 (by decide +kernel) rfl (lv := [(0, vR X 117)]) (Nat.le_of_ble_eq_true rfl) rfl (fun K hK F hnm => ?_)
  subst hK
  unfold f10_readFirst at h
  refine r_aload_nR F 0 rfl rfl d10_readFirst_0 ?_
  refine r_ldcS F (j := 0) (tx := "parish") lc10_187 d10_readFirst_1 ?_
  replace h := wpo_bind h
  refine r_callV0 F lm10_183 mf10_needs (vc117 hn) rfl (fr := 5) (lo := 108) (As := [vS X 0]) (rest := []) ⟨Nat.le_of_ble_eq_true rfl, Nat.le_of_ble_eq_true rfl⟩ rfl (Nat.le_of_ble_eq_true rfl) ⟨Nat.zero_le _, Nat.zero_le _⟩ d10_readFirst_3 ?_
  refine ok10_needs hn (Nat.le_of_ble_eq_true rfl) (kVm h (fun a1 h => ?_))
  refine r_aload_nR F 0 rfl rfl d10_readFirst_6 ?_
  refine r_getR F (z := 123) lf10_31 (vc117 hn) z117_14 d10_readFirst_7 ?_
  refine r_iconst F (z := 0) d10_readFirst_10 ?_
  refine r_aload_nR F 0 rfl rfl d10_readFirst_11 ?_
  refine r_ldcS F (j := 1) (tx := "nights") lc10_189 d10_readFirst_12 ?_
  refine r_iconst F (z := 1) d10_readFirst_14 ?_
  refine r_bipush F (z := 12) (by decide) d10_readFirst_15 ?_
  replace h := wpo_bind h
  refine r_callV0 F lm10_191 mf10_told (vc117 hn) rfl (fr := 6) (lo := 130) (As := [vS X 1, vI 1, vI 12]) (rest := [vI 0, vR X 123]) ⟨Nat.le_of_ble_eq_true rfl, Nat.le_of_ble_eq_true rfl⟩ rfl (Nat.le_of_ble_eq_true rfl) ⟨Nat.zero_le _, Nat.zero_le _⟩ d10_readFirst_17 ?_
  refine ok10_told hn (Nat.le_of_ble_eq_true rfl) (kIm h (fun a2 h => ?_))
  refine r_iastC F (j := 0) (vc123 hn) (by decide) rfl d10_readFirst_20 ?_
  refine r_aload_nR F 0 rfl rfl d10_readFirst_21 ?_
  refine r_getR F (z := 123) lf10_31 (vc117 hn) z117_14 d10_readFirst_22 ?_
  refine r_iconst F (z := 1) d10_readFirst_25 ?_
  refine r_aload_nR F 0 rfl rfl d10_readFirst_26 ?_
  refine r_ldcS F (j := 2) (tx := "room") lc10_195 d10_readFirst_27 ?_
  refine r_iconst F (z := 1) d10_readFirst_29 ?_
  refine r_bipush F (z := 60) (by decide) d10_readFirst_30 ?_
  refine at_name (B := fun (D1 : Mem) => At K X (ZQ K X Q) 0 0 n rt 1 32 [(0, vR X 117)] [vI 60, vI 1, vS X 2, vR X 117, vI 1, vR X 123] D1) h (fun D1 h => ?_)
  replace h := wpo_bind h
  refine r_callV0 F lm10_191 mf10_told (vc117 hn) rfl (fr := 6) (lo := 130) (As := [vS X 2, vI 1, vI 60]) (rest := [vI 1, vR X 123]) ⟨Nat.le_of_ble_eq_true rfl, Nat.le_of_ble_eq_true rfl⟩ rfl (Nat.le_of_ble_eq_true rfl) ⟨Nat.zero_le _, Nat.zero_le _⟩ d10_readFirst_32 ?_
  refine ok10_told hn (Nat.le_of_ble_eq_true rfl) (kIm h (fun a3 h => ?_))
  refine r_iastC F (j := 1) (vc123 hn) (by decide) rfl d10_readFirst_35 ?_
  refine r_aload_nR F 0 rfl rfl d10_readFirst_36 ?_
  refine r_getR F (z := 123) lf10_31 (vc117 hn) z117_14 d10_readFirst_37 ?_
  refine r_iconst F (z := 2) d10_readFirst_40 ?_
  refine r_aload_nR F 0 rfl rfl d10_readFirst_41 ?_
  refine r_ldcS F (j := 3) (tx := "tooth") lc10_197 d10_readFirst_42 ?_
  refine r_iconst F (z := 1) d10_readFirst_44 ?_
  refine r_bipush F (z := 40) (by decide) d10_readFirst_45 ?_
  refine at_name (B := fun (D2 : Mem) => At K X (ZQ K X Q) 0 0 n rt 1 47 [(0, vR X 117)] [vI 40, vI 1, vS X 3, vR X 117, vI 2, vR X 123] D2) h (fun D2 h => ?_)
  replace h := wpo_bind h
  refine r_callV0 F lm10_191 mf10_told (vc117 hn) rfl (fr := 6) (lo := 130) (As := [vS X 3, vI 1, vI 40]) (rest := [vI 2, vR X 123]) ⟨Nat.le_of_ble_eq_true rfl, Nat.le_of_ble_eq_true rfl⟩ rfl (Nat.le_of_ble_eq_true rfl) ⟨Nat.zero_le _, Nat.zero_le _⟩ d10_readFirst_47 ?_
  refine ok10_told hn (Nat.le_of_ble_eq_true rfl) (kIm h (fun a4 h => ?_))
  refine r_iastC F (j := 2) (vc123 hn) (by decide) rfl d10_readFirst_50 ?_
  refine r_aload_nR F 0 rfl rfl d10_readFirst_51 ?_
  refine r_getR F (z := 123) lf10_31 (vc117 hn) z117_14 d10_readFirst_52 ?_
  refine r_iconst F (z := 3) d10_readFirst_55 ?_
  refine r_aload_nR F 0 rfl rfl d10_readFirst_56 ?_
  refine r_ldcS F (j := 4) (tx := "teeth") lc10_199 d10_readFirst_57 ?_
  refine r_iconst F (z := 1) d10_readFirst_59 ?_
  refine r_bipush F (z := 20) (by decide) d10_readFirst_60 ?_
  refine at_name (B := fun (D3 : Mem) => At K X (ZQ K X Q) 0 0 n rt 1 62 [(0, vR X 117)] [vI 20, vI 1, vS X 4, vR X 117, vI 3, vR X 123] D3) h (fun D3 h => ?_)
  replace h := wpo_bind h
  refine r_callV0 F lm10_191 mf10_told (vc117 hn) rfl (fr := 6) (lo := 130) (As := [vS X 4, vI 1, vI 20]) (rest := [vI 3, vR X 123]) ⟨Nat.le_of_ble_eq_true rfl, Nat.le_of_ble_eq_true rfl⟩ rfl (Nat.le_of_ble_eq_true rfl) ⟨Nat.zero_le _, Nat.zero_le _⟩ d10_readFirst_62 ?_
  refine ok10_told hn (Nat.le_of_ble_eq_true rfl) (kIm h (fun a5 h => ?_))
  refine r_iastC F (j := 3) (vc123 hn) (by decide) rfl d10_readFirst_65 ?_
  refine r_aload_nR F 0 rfl rfl d10_readFirst_66 ?_
  refine r_getR F (z := 123) lf10_31 (vc117 hn) z117_14 d10_readFirst_67 ?_
  refine r_iconst F (z := 4) d10_readFirst_70 ?_
  refine r_aload_nR F 0 rfl rfl d10_readFirst_71 ?_
  refine r_ldcS F (j := 5) (tx := "rule") lc10_201 d10_readFirst_72 ?_
  refine r_iconst F (z := 0) d10_readFirst_74 ?_
  refine r_iconst F (z := 3) d10_readFirst_75 ?_
  refine at_name (B := fun (D4 : Mem) => At K X (ZQ K X Q) 0 0 n rt 1 76 [(0, vR X 117)] [vI 3, vI 0, vS X 5, vR X 117, vI 4, vR X 123] D4) h (fun D4 h => ?_)
  replace h := wpo_bind h
  refine r_callV0 F lm10_191 mf10_told (vc117 hn) rfl (fr := 6) (lo := 130) (As := [vS X 5, vI 0, vI 3]) (rest := [vI 4, vR X 123]) ⟨Nat.le_of_ble_eq_true rfl, Nat.le_of_ble_eq_true rfl⟩ rfl (Nat.le_of_ble_eq_true rfl) ⟨Nat.zero_le _, Nat.zero_le _⟩ d10_readFirst_76 ?_
  refine ok10_told hn (Nat.le_of_ble_eq_true rfl) (kIm h (fun a6 h => ?_))
  refine r_iastC F (j := 4) (vc123 hn) (by decide) rfl d10_readFirst_79 ?_
  refine r_aload_nR F 0 rfl rfl d10_readFirst_80 ?_
  refine r_getR F (z := 123) lf10_31 (vc117 hn) z117_14 d10_readFirst_81 ?_
  refine r_iconst F (z := 5) d10_readFirst_84 ?_
  refine r_aload_nR F 0 rfl rfl d10_readFirst_85 ?_
  refine r_ldcS F (j := 6) (tx := "pays") lc10_203 d10_readFirst_86 ?_
  refine r_iconst F (z := 0) d10_readFirst_88 ?_
  refine r_bipush F (z := 99) (by decide) d10_readFirst_89 ?_
  refine at_name (B := fun (D5 : Mem) => At K X (ZQ K X Q) 0 0 n rt 1 91 [(0, vR X 117)] [vI 99, vI 0, vS X 6, vR X 117, vI 5, vR X 123] D5) h (fun D5 h => ?_)
  replace h := wpo_bind h
  refine r_callV0 F lm10_191 mf10_told (vc117 hn) rfl (fr := 6) (lo := 130) (As := [vS X 6, vI 0, vI 99]) (rest := [vI 5, vR X 123]) ⟨Nat.le_of_ble_eq_true rfl, Nat.le_of_ble_eq_true rfl⟩ rfl (Nat.le_of_ble_eq_true rfl) ⟨Nat.zero_le _, Nat.zero_le _⟩ d10_readFirst_91 ?_
  refine ok10_told hn (Nat.le_of_ble_eq_true rfl) (kIm h (fun a7 h => ?_))
  refine r_iastC F (j := 5) (vc123 hn) (by decide) rfl d10_readFirst_94 ?_
  refine r_aload_nR F 0 rfl rfl d10_readFirst_95 ?_
  refine r_getR F (z := 123) lf10_31 (vc117 hn) z117_14 d10_readFirst_96 ?_
  refine r_bipush F (z := 6) (by decide) d10_readFirst_99 ?_
  refine r_aload_nR F 0 rfl rfl d10_readFirst_101 ?_
  refine r_ldcS F (j := 7) (tx := "odds") lc10_205 d10_readFirst_102 ?_
  refine r_iconst F (z := 0) d10_readFirst_104 ?_
  refine r_bipush F (z := 10) (by decide) d10_readFirst_105 ?_
  refine at_name (B := fun (D6 : Mem) => At K X (ZQ K X Q) 0 0 n rt 1 107 [(0, vR X 117)] [vI 10, vI 0, vS X 7, vR X 117, vI 6, vR X 123] D6) h (fun D6 h => ?_)
  replace h := wpo_bind h
  refine r_callV0 F lm10_191 mf10_told (vc117 hn) rfl (fr := 6) (lo := 130) (As := [vS X 7, vI 0, vI 10]) (rest := [vI 6, vR X 123]) ⟨Nat.le_of_ble_eq_true rfl, Nat.le_of_ble_eq_true rfl⟩ rfl (Nat.le_of_ble_eq_true rfl) ⟨Nat.zero_le _, Nat.zero_le _⟩ d10_readFirst_107 ?_
  refine ok10_told hn (Nat.le_of_ble_eq_true rfl) (kIm h (fun a8 h => ?_))
  refine r_iastC F (j := 6) (vc123 hn) (by decide) rfl d10_readFirst_110 ?_
  replace h := wpo_some h
  exact r_vret F h d10_readFirst_111
theorem d10_readPerson_0 : decode c10_readPerson 0 = .ok (.aload_n 0, 1) := by decide +kernel
theorem d10_readPerson_1 : decode c10_readPerson 1 = .ok (.ldc 207, 2) := by decide +kernel
theorem d10_readPerson_3 : decode c10_readPerson 3 = .ok (.invokevirtual 172, 3) := by decide +kernel
theorem d10_readPerson_6 : decode c10_readPerson 6 = .ok (.ifCond .eq 20, 3) := by decide +kernel
theorem d10_readPerson_9 : decode c10_readPerson 9 = .ok (.aload_n 0, 1) := by decide +kernel
theorem d10_readPerson_10 : decode c10_readPerson 10 = .ok (.getfield 31, 3) := by decide +kernel
theorem d10_readPerson_13 : decode c10_readPerson 13 = .ok (.bipush 7, 2) := by decide +kernel
theorem d10_readPerson_15 : decode c10_readPerson 15 = .ok (.iaload, 1) := by decide +kernel
theorem d10_readPerson_16 : decode c10_readPerson 16 = .ok (.bipush 8, 2) := by decide +kernel
theorem d10_readPerson_18 : decode c10_readPerson 18 = .ok (.if_icmp .ne 8, 3) := by decide +kernel
theorem d10_readPerson_21 : decode c10_readPerson 21 = .ok (.aload_n 0, 1) := by decide +kernel
theorem d10_readPerson_22 : decode c10_readPerson 22 = .ok (.iconst 3, 1) := by decide +kernel
theorem d10_readPerson_23 : decode c10_readPerson 23 = .ok (.invokevirtual 176, 3) := by decide +kernel
theorem d10_readPerson_26 : decode c10_readPerson 26 = .ok (.aload_n 0, 1) := by decide +kernel
theorem d10_readPerson_27 : decode c10_readPerson 27 = .ok (.ldc 207, 2) := by decide +kernel
theorem d10_readPerson_29 : decode c10_readPerson 29 = .ok (.invokevirtual 183, 3) := by decide +kernel
theorem d10_readPerson_32 : decode c10_readPerson 32 = .ok (.bipush 10, 2) := by decide +kernel
theorem d10_readPerson_34 : decode c10_readPerson 34 = .ok (.iconst 4, 1) := by decide +kernel
theorem d10_readPerson_35 : decode c10_readPerson 35 = .ok (.aload_n 0, 1) := by decide +kernel
theorem d10_readPerson_36 : decode c10_readPerson 36 = .ok (.getfield 31, 3) := by decide +kernel
theorem d10_readPerson_39 : decode c10_readPerson 39 = .ok (.bipush 7, 2) := by decide +kernel
theorem d10_readPerson_41 : decode c10_readPerson 41 = .ok (.iaload, 1) := by decide +kernel
theorem d10_readPerson_42 : decode c10_readPerson 42 = .ok (.imul, 1) := by decide +kernel
theorem d10_readPerson_43 : decode c10_readPerson 43 = .ok (.iadd, 1) := by decide +kernel
theorem d10_readPerson_44 : decode c10_readPerson 44 = .ok (.istore_n 1, 1) := by decide +kernel
theorem d10_readPerson_45 : decode c10_readPerson 45 = .ok (.aload_n 0, 1) := by decide +kernel
theorem d10_readPerson_46 : decode c10_readPerson 46 = .ok (.ldc 209, 2) := by decide +kernel
theorem d10_readPerson_48 : decode c10_readPerson 48 = .ok (.iconst 1, 1) := by decide +kernel
theorem d10_readPerson_49 : decode c10_readPerson 49 = .ok (.bipush 20, 2) := by decide +kernel
theorem d10_readPerson_51 : decode c10_readPerson 51 = .ok (.invokevirtual 191, 3) := by decide +kernel
theorem d10_readPerson_54 : decode c10_readPerson 54 = .ok (.istore_n 2, 1) := by decide +kernel
theorem d10_readPerson_55 : decode c10_readPerson 55 = .ok (.aload_n 0, 1) := by decide +kernel
theorem d10_readPerson_56 : decode c10_readPerson 56 = .ok (.ldc 211, 2) := by decide +kernel
theorem d10_readPerson_58 : decode c10_readPerson 58 = .ok (.iconst 0, 1) := by decide +kernel
theorem d10_readPerson_59 : decode c10_readPerson 59 = .ok (.bipush 11, 2) := by decide +kernel
theorem d10_readPerson_61 : decode c10_readPerson 61 = .ok (.invokevirtual 191, 3) := by decide +kernel
theorem d10_readPerson_64 : decode c10_readPerson 64 = .ok (.istore_n 3, 1) := by decide +kernel
theorem d10_readPerson_65 : decode c10_readPerson 65 = .ok (.aload_n 0, 1) := by decide +kernel
theorem d10_readPerson_66 : decode c10_readPerson 66 = .ok (.ldc 212, 2) := by decide +kernel
theorem d10_readPerson_68 : decode c10_readPerson 68 = .ok (.iconst 1, 1) := by decide +kernel
theorem d10_readPerson_69 : decode c10_readPerson 69 = .ok (.bipush 9, 2) := by decide +kernel
theorem d10_readPerson_71 : decode c10_readPerson 71 = .ok (.invokevirtual 191, 3) := by decide +kernel
theorem d10_readPerson_74 : decode c10_readPerson 74 = .ok (.istore 4, 2) := by decide +kernel
theorem d10_readPerson_76 : decode c10_readPerson 76 = .ok (.aload_n 0, 1) := by decide +kernel
theorem d10_readPerson_77 : decode c10_readPerson 77 = .ok (.ldc 214, 2) := by decide +kernel
theorem d10_readPerson_79 : decode c10_readPerson 79 = .ok (.iconst 0, 1) := by decide +kernel
theorem d10_readPerson_80 : decode c10_readPerson 80 = .ok (.bipush 20, 2) := by decide +kernel
theorem d10_readPerson_82 : decode c10_readPerson 82 = .ok (.invokevirtual 191, 3) := by decide +kernel
theorem d10_readPerson_85 : decode c10_readPerson 85 = .ok (.istore 5, 2) := by decide +kernel
theorem d10_readPerson_87 : decode c10_readPerson 87 = .ok (.aload_n 0, 1) := by decide +kernel
theorem d10_readPerson_88 : decode c10_readPerson 88 = .ok (.invokevirtual 159, 3) := by decide +kernel
theorem d10_readPerson_91 : decode c10_readPerson 91 = .ok (.ifCond .ne 4, 3) := by decide +kernel
theorem d10_readPerson_94 : decode c10_readPerson 94 = .ok (.return_, 1) := by decide +kernel
theorem d10_readPerson_95 : decode c10_readPerson 95 = .ok (.aload_n 0, 1) := by decide +kernel
theorem d10_readPerson_96 : decode c10_readPerson 96 = .ok (.getfield 31, 3) := by decide +kernel
theorem d10_readPerson_99 : decode c10_readPerson 99 = .ok (.iload_n 1, 1) := by decide +kernel
theorem d10_readPerson_100 : decode c10_readPerson 100 = .ok (.iconst 0, 1) := by decide +kernel
theorem d10_readPerson_101 : decode c10_readPerson 101 = .ok (.iadd, 1) := by decide +kernel
theorem d10_readPerson_102 : decode c10_readPerson 102 = .ok (.iload_n 2, 1) := by decide +kernel
theorem d10_readPerson_103 : decode c10_readPerson 103 = .ok (.iastore, 1) := by decide +kernel
theorem d10_readPerson_104 : decode c10_readPerson 104 = .ok (.aload_n 0, 1) := by decide +kernel
theorem d10_readPerson_105 : decode c10_readPerson 105 = .ok (.getfield 31, 3) := by decide +kernel
theorem d10_readPerson_108 : decode c10_readPerson 108 = .ok (.iload_n 1, 1) := by decide +kernel
theorem d10_readPerson_109 : decode c10_readPerson 109 = .ok (.iconst 1, 1) := by decide +kernel
theorem d10_readPerson_110 : decode c10_readPerson 110 = .ok (.iadd, 1) := by decide +kernel
theorem d10_readPerson_111 : decode c10_readPerson 111 = .ok (.iload_n 3, 1) := by decide +kernel
theorem d10_readPerson_112 : decode c10_readPerson 112 = .ok (.iastore, 1) := by decide +kernel
theorem d10_readPerson_113 : decode c10_readPerson 113 = .ok (.aload_n 0, 1) := by decide +kernel
theorem d10_readPerson_114 : decode c10_readPerson 114 = .ok (.getfield 31, 3) := by decide +kernel
theorem d10_readPerson_117 : decode c10_readPerson 117 = .ok (.iload_n 1, 1) := by decide +kernel
theorem d10_readPerson_118 : decode c10_readPerson 118 = .ok (.iconst 2, 1) := by decide +kernel
theorem d10_readPerson_119 : decode c10_readPerson 119 = .ok (.iadd, 1) := by decide +kernel
theorem d10_readPerson_120 : decode c10_readPerson 120 = .ok (.iload 4, 2) := by decide +kernel
theorem d10_readPerson_122 : decode c10_readPerson 122 = .ok (.iastore, 1) := by decide +kernel
theorem d10_readPerson_123 : decode c10_readPerson 123 = .ok (.aload_n 0, 1) := by decide +kernel
theorem d10_readPerson_124 : decode c10_readPerson 124 = .ok (.getfield 31, 3) := by decide +kernel
theorem d10_readPerson_127 : decode c10_readPerson 127 = .ok (.iload_n 1, 1) := by decide +kernel
theorem d10_readPerson_128 : decode c10_readPerson 128 = .ok (.iconst 3, 1) := by decide +kernel
theorem d10_readPerson_129 : decode c10_readPerson 129 = .ok (.iadd, 1) := by decide +kernel
theorem d10_readPerson_130 : decode c10_readPerson 130 = .ok (.iload 5, 2) := by decide +kernel
theorem d10_readPerson_132 : decode c10_readPerson 132 = .ok (.iastore, 1) := by decide +kernel
theorem d10_readPerson_133 : decode c10_readPerson 133 = .ok (.aload_n 0, 1) := by decide +kernel
theorem d10_readPerson_134 : decode c10_readPerson 134 = .ok (.getfield 31, 3) := by decide +kernel
theorem d10_readPerson_137 : decode c10_readPerson 137 = .ok (.bipush 7, 2) := by decide +kernel
theorem d10_readPerson_139 : decode c10_readPerson 139 = .ok (.dup2, 1) := by decide +kernel
theorem d10_readPerson_140 : decode c10_readPerson 140 = .ok (.iaload, 1) := by decide +kernel
theorem d10_readPerson_141 : decode c10_readPerson 141 = .ok (.iconst 1, 1) := by decide +kernel
theorem d10_readPerson_142 : decode c10_readPerson 142 = .ok (.iadd, 1) := by decide +kernel
theorem d10_readPerson_143 : decode c10_readPerson 143 = .ok (.iastore, 1) := by decide +kernel
theorem d10_readPerson_144 : decode c10_readPerson 144 = .ok (.return_, 1) := by decide +kernel
def f10_readPerson (D : Mem) : Option (Mem) :=
  Option.bind (f10_is D 8) fun (a1 : Int) =>
  Option.bind (
    if w32 a1 = 0 then
      some D
    else
      if w32 (D 123 7) = w32 8 then
        Option.bind (f10_errs D 3) fun (a2 : Mem) =>
        some a2
      else
        some D
  ) fun (j1 : Mem) =>
  Option.bind (f10_needs j1 8) fun (a3 : Mem) =>
  Option.bind (some (10 + (4 * (a3 123 7)))) fun (v1 : Int) =>
  Option.bind (f10_told a3 9 1 20) fun (a4 : Int × Mem) =>
  Option.bind (f10_told a4.2 10 0 11) fun (a5 : Int × Mem) =>
  Option.bind (f10_told a5.2 11 1 9) fun (a6 : Int × Mem) =>
  Option.bind (f10_told a6.2 12 0 20) fun (a7 : Int × Mem) =>
  Option.bind (f10_good a7.2) fun (a8 : Int) =>
  if w32 a8 = 0 then
    some a7.2
  else
    if 0 ≤ (v1 + 0) ∧ (v1 + 0) < 72 then
      Option.bind (some (mset a7.2 123 (v1 + 0).toNat a4.1)) fun (D1 : Mem) =>
      if 0 ≤ (v1 + 1) ∧ (v1 + 1) < 72 then
        Option.bind (some (mset D1 123 (v1 + 1).toNat a5.1)) fun (D2 : Mem) =>
        if 0 ≤ (v1 + 2) ∧ (v1 + 2) < 72 then
          Option.bind (some (mset D2 123 (v1 + 2).toNat a6.1)) fun (D3 : Mem) =>
          if 0 ≤ (v1 + 3) ∧ (v1 + 3) < 72 then
            Option.bind (some (mset D3 123 (v1 + 3).toNat a7.1)) fun (D4 : Mem) =>
            some (mset D4 123 7 ((D4 123 7) + 1))
          else none
        else none
      else none
    else none
set_option maxHeartbeats 4000000 in
theorem ok10_readPerson {l : Launch} {X : XT} {n : Nat} {D : Mem} {Q : Option Value → Nat → Rho → Mem → Prop} (hn : 147 ≤ n)  (h : wpo (f10_readPerson D) (fun a => Q none n rt a)) : MOK l y10_readPerson c10_readPerson 6 (none) { frames := 7, cells := 0, slots := 0, locals := 154 } 0 0 X [vR X 117] n rt D Q := by
  refine MOK_of 10 (by decide +kernel) rfl (lv := [(0, vR X 117)]) (Nat.le_of_ble_eq_true rfl) rfl (fun K hK F hnm => ?_)
  subst hK
  unfold f10_readPerson at h
  refine r_aload_nR F 0 rfl rfl d10_readPerson_0 ?_
  refine r_ldcS F (j := 8) (tx := "person") lc10_207 d10_readPerson_1 ?_
  replace h := wpo_bind h
  refine r_callV0 F lm10_172 mf10_is (vc117 hn) rfl (fr := 4) (lo := 85) (As := [vS X 8]) (rest := []) ⟨Nat.le_of_ble_eq_true rfl, Nat.le_of_ble_eq_true rfl⟩ rfl (Nat.le_of_ble_eq_true rfl) ⟨Nat.zero_le _, Nat.zero_le _⟩ d10_readPerson_3 ?_
  refine ok10_is hn (Nat.le_of_ble_eq_true rfl) (kI h (fun a1 h => ?_))
  refine at_join (B := fun (j1 : Mem) => At K X (ZQ K X Q) 0 0 n rt 6 26 [(0, vR X 117)] [] j1) h (fun j1 h => ?_) (fun h => ?_)
  · refine r_aload_nR F 0 rfl rfl d10_readPerson_26 ?_
    refine r_ldcS F (j := 8) (tx := "person") lc10_207 d10_readPerson_27 ?_
    replace h := wpo_bind h
    refine r_callV0 F lm10_183 mf10_needs (vc117 hn) rfl (fr := 5) (lo := 108) (As := [vS X 8]) (rest := []) ⟨Nat.le_of_ble_eq_true rfl, Nat.le_of_ble_eq_true rfl⟩ rfl (Nat.le_of_ble_eq_true rfl) ⟨Nat.zero_le _, Nat.zero_le _⟩ d10_readPerson_29 ?_
    refine ok10_needs hn (Nat.le_of_ble_eq_true rfl) (kVm h (fun a3 h => ?_))
    refine r_bipush F (z := 10) (by decide) d10_readPerson_32 ?_
    refine r_iconst F (z := 4) d10_readPerson_34 ?_
    refine r_aload_nR F 0 rfl rfl d10_readPerson_35 ?_
    refine r_getR F (z := 123) lf10_31 (vc117 hn) z117_14 d10_readPerson_36 ?_
    refine r_bipush F (z := 7) (by decide) d10_readPerson_39 ?_
    refine r_ialdC F (j := 7) (vc123 hn) (by decide) rfl d10_readPerson_41 ?_
    refine r_imul F d10_readPerson_42 ?_
    refine r_iadd F d10_readPerson_43 ?_
    refine r_istore_n F (lv' := [(1, vI (10 + (4 * (a3 123 7)))), (0, vR X 117)]) rfl (Nat.le_of_ble_eq_true rfl) rfl d10_readPerson_44 ?_
    refine at_name (B := fun (v1 : Int) => At K X (ZQ K X Q) 0 0 n rt 6 45 [(1, vI v1), (0, vR X 117)] [] a3) h (fun v1 h => ?_)
    refine r_aload_nR F 1 rfl rfl d10_readPerson_45 ?_
    refine r_ldcS F (j := 9) (tx := "ache") lc10_209 d10_readPerson_46 ?_
    refine r_iconst F (z := 1) d10_readPerson_48 ?_
    refine r_bipush F (z := 20) (by decide) d10_readPerson_49 ?_
    replace h := wpo_bind h
    refine r_callV0 F lm10_191 mf10_told (vc117 hn) rfl (fr := 6) (lo := 130) (As := [vS X 9, vI 1, vI 20]) (rest := []) ⟨Nat.le_of_ble_eq_true rfl, Nat.le_of_ble_eq_true rfl⟩ rfl (Nat.le_of_ble_eq_true rfl) ⟨Nat.zero_le _, Nat.zero_le _⟩ d10_readPerson_51 ?_
    refine ok10_told hn (Nat.le_of_ble_eq_true rfl) (kIm h (fun a4 h => ?_))
    refine r_istore_n F (lv' := [(2, vI a4.1), (1, vI v1), (0, vR X 117)]) rfl (Nat.le_of_ble_eq_true rfl) rfl d10_readPerson_54 ?_
    refine r_aload_nR F 2 rfl rfl d10_readPerson_55 ?_
    refine r_ldcS F (j := 10) (tx := "from") lc10_211 d10_readPerson_56 ?_
    refine r_iconst F (z := 0) d10_readPerson_58 ?_
    refine r_bipush F (z := 11) (by decide) d10_readPerson_59 ?_
    replace h := wpo_bind h
    refine r_callV0 F lm10_191 mf10_told (vc117 hn) rfl (fr := 6) (lo := 130) (As := [vS X 10, vI 0, vI 11]) (rest := []) ⟨Nat.le_of_ble_eq_true rfl, Nat.le_of_ble_eq_true rfl⟩ rfl (Nat.le_of_ble_eq_true rfl) ⟨Nat.zero_le _, Nat.zero_le _⟩ d10_readPerson_61 ?_
    refine ok10_told hn (Nat.le_of_ble_eq_true rfl) (kIm h (fun a5 h => ?_))
    refine r_istore_n F (lv' := [(3, vI a5.1), (2, vI a4.1), (1, vI v1), (0, vR X 117)]) rfl (Nat.le_of_ble_eq_true rfl) rfl d10_readPerson_64 ?_
    refine r_aload_nR F 3 rfl rfl d10_readPerson_65 ?_
    refine r_ldcS F (j := 11) (tx := "dear") lc10_212 d10_readPerson_66 ?_
    refine r_iconst F (z := 1) d10_readPerson_68 ?_
    refine r_bipush F (z := 9) (by decide) d10_readPerson_69 ?_
    replace h := wpo_bind h
    refine r_callV0 F lm10_191 mf10_told (vc117 hn) rfl (fr := 6) (lo := 130) (As := [vS X 11, vI 1, vI 9]) (rest := []) ⟨Nat.le_of_ble_eq_true rfl, Nat.le_of_ble_eq_true rfl⟩ rfl (Nat.le_of_ble_eq_true rfl) ⟨Nat.zero_le _, Nat.zero_le _⟩ d10_readPerson_71 ?_
    refine ok10_told hn (Nat.le_of_ble_eq_true rfl) (kIm h (fun a6 h => ?_))
    refine r_istore F (lv' := [(4, vI a6.1), (3, vI a5.1), (2, vI a4.1), (1, vI v1), (0, vR X 117)]) (Nat.le_of_ble_eq_true rfl) rfl d10_readPerson_74 ?_
    refine r_aload_nR F 4 rfl rfl d10_readPerson_76 ?_
    refine r_ldcS F (j := 12) (tx := "bears") lc10_214 d10_readPerson_77 ?_
    refine r_iconst F (z := 0) d10_readPerson_79 ?_
    refine r_bipush F (z := 20) (by decide) d10_readPerson_80 ?_
    replace h := wpo_bind h
    refine r_callV0 F lm10_191 mf10_told (vc117 hn) rfl (fr := 6) (lo := 130) (As := [vS X 12, vI 0, vI 20]) (rest := []) ⟨Nat.le_of_ble_eq_true rfl, Nat.le_of_ble_eq_true rfl⟩ rfl (Nat.le_of_ble_eq_true rfl) ⟨Nat.zero_le _, Nat.zero_le _⟩ d10_readPerson_82 ?_
    refine ok10_told hn (Nat.le_of_ble_eq_true rfl) (kIm h (fun a7 h => ?_))
    refine r_istore F (lv' := [(5, vI a7.1), (4, vI a6.1), (3, vI a5.1), (2, vI a4.1), (1, vI v1), (0, vR X 117)]) (Nat.le_of_ble_eq_true rfl) rfl d10_readPerson_85 ?_
    refine r_aload_nR F 5 rfl rfl d10_readPerson_87 ?_
    replace h := wpo_bind h
    refine r_callV0 F lm10_159 mf10_good (vc117 hn) rfl (fr := 0) (lo := 0) (As := []) (rest := []) ⟨Nat.le_of_ble_eq_true rfl, Nat.le_of_ble_eq_true rfl⟩ rfl (Nat.le_of_ble_eq_true rfl) ⟨Nat.zero_le _, Nat.zero_le _⟩ d10_readPerson_88 ?_
    refine ok10_good hn  (kI h (fun a8 h => ?_))
    refine r_if_ne F (tgt := 95) d10_readPerson_91 (by decide) (fun hb => ?_) (fun hb => ?_)
    · replace h := wpo_neg h hb
      refine r_aload_nR F 5 rfl rfl d10_readPerson_95 ?_
      refine r_getR F (z := 123) lf10_31 (vc117 hn) z117_14 d10_readPerson_96 ?_
      refine r_iload_n F 4 rfl rfl d10_readPerson_99 ?_
      refine r_iconst F (z := 0) d10_readPerson_100 ?_
      refine r_iadd F d10_readPerson_101 ?_
      refine r_iload_n F 3 rfl rfl d10_readPerson_102 ?_
      obtain ⟨hx1, h⟩ := wpo_chk h
      refine r_iast F (vc123 hn) hx1 d10_readPerson_103 ?_
      refine r_aload_nR F 5 rfl rfl d10_readPerson_104 ?_
      refine r_getR F (z := 123) lf10_31 (vc117 hn) z117_14 d10_readPerson_105 ?_
      refine r_iload_n F 4 rfl rfl d10_readPerson_108 ?_
      refine r_iconst F (z := 1) d10_readPerson_109 ?_
      refine r_iadd F d10_readPerson_110 ?_
      refine r_iload_n F 2 rfl rfl d10_readPerson_111 ?_
      refine at_name (B := fun (D1 : Mem) => At K X (ZQ K X Q) 0 0 n rt 6 112 [(5, vI a7.1), (4, vI a6.1), (3, vI a5.1), (2, vI a4.1), (1, vI v1), (0, vR X 117)] [vI a5.1, vI (v1 + 1), vR X 123] D1) h (fun D1 h => ?_)
      obtain ⟨hx2, h⟩ := wpo_chk h
      refine r_iast F (vc123 hn) hx2 d10_readPerson_112 ?_
      refine r_aload_nR F 5 rfl rfl d10_readPerson_113 ?_
      refine r_getR F (z := 123) lf10_31 (vc117 hn) z117_14 d10_readPerson_114 ?_
      refine r_iload_n F 4 rfl rfl d10_readPerson_117 ?_
      refine r_iconst F (z := 2) d10_readPerson_118 ?_
      refine r_iadd F d10_readPerson_119 ?_
      refine r_iload F 1 rfl d10_readPerson_120 ?_
      refine at_name (B := fun (D2 : Mem) => At K X (ZQ K X Q) 0 0 n rt 6 122 [(5, vI a7.1), (4, vI a6.1), (3, vI a5.1), (2, vI a4.1), (1, vI v1), (0, vR X 117)] [vI a6.1, vI (v1 + 2), vR X 123] D2) h (fun D2 h => ?_)
      obtain ⟨hx3, h⟩ := wpo_chk h
      refine r_iast F (vc123 hn) hx3 d10_readPerson_122 ?_
      refine r_aload_nR F 5 rfl rfl d10_readPerson_123 ?_
      refine r_getR F (z := 123) lf10_31 (vc117 hn) z117_14 d10_readPerson_124 ?_
      refine r_iload_n F 4 rfl rfl d10_readPerson_127 ?_
      refine r_iconst F (z := 3) d10_readPerson_128 ?_
      refine r_iadd F d10_readPerson_129 ?_
      refine r_iload F 0 rfl d10_readPerson_130 ?_
      refine at_name (B := fun (D3 : Mem) => At K X (ZQ K X Q) 0 0 n rt 6 132 [(5, vI a7.1), (4, vI a6.1), (3, vI a5.1), (2, vI a4.1), (1, vI v1), (0, vR X 117)] [vI a7.1, vI (v1 + 3), vR X 123] D3) h (fun D3 h => ?_)
      obtain ⟨hx4, h⟩ := wpo_chk h
      refine r_iast F (vc123 hn) hx4 d10_readPerson_132 ?_
      refine r_aload_nR F 5 rfl rfl d10_readPerson_133 ?_
      refine r_getR F (z := 123) lf10_31 (vc117 hn) z117_14 d10_readPerson_134 ?_
      refine r_bipush F (z := 7) (by decide) d10_readPerson_137 ?_
      refine r_dup2 F rfl rfl d10_readPerson_139 ?_
      refine at_name (B := fun (D4 : Mem) => At K X (ZQ K X Q) 0 0 n rt 6 140 [(5, vI a7.1), (4, vI a6.1), (3, vI a5.1), (2, vI a4.1), (1, vI v1), (0, vR X 117)] [vI 7, vR X 123, vI 7, vR X 123] D4) h (fun D4 h => ?_)
      refine r_ialdC F (j := 7) (vc123 hn) (by decide) rfl d10_readPerson_140 ?_
      refine r_iconst F (z := 1) d10_readPerson_141 ?_
      refine r_iadd F d10_readPerson_142 ?_
      refine r_iastC F (j := 7) (vc123 hn) (by decide) rfl d10_readPerson_143 ?_
      replace h := wpo_some h
      exact r_vret F h d10_readPerson_144
    · replace h := wpo_pos h hb
      replace h := wpo_some h
      exact r_vret F h d10_readPerson_94
  · refine r_if_eq F (tgt := 26) d10_readPerson_6 (by decide) (fun hb => ?_) (fun hb => ?_)
    · replace h := wpo_pos h hb
      replace h := wpo_some h
      exact h
    · replace h := wpo_neg h hb
      refine r_aload_nR F 0 rfl rfl d10_readPerson_9 ?_
      refine r_getR F (z := 123) lf10_31 (vc117 hn) z117_14 d10_readPerson_10 ?_
      refine r_bipush F (z := 7) (by decide) d10_readPerson_13 ?_
      refine r_ialdC F (j := 7) (vc123 hn) (by decide) rfl d10_readPerson_15 ?_
      refine r_bipush F (z := 8) (by decide) d10_readPerson_16 ?_
      refine r_icmp_ne F (tgt := 26) d10_readPerson_18 (by decide) (fun hb => ?_) (fun hb => ?_)
      · replace h := wpo_neg h hb
        replace h := wpo_some h
        exact h
      · replace h := wpo_pos h hb
        refine r_aload_nR F 0 rfl rfl d10_readPerson_21 ?_
        refine r_iconst F (z := 3) d10_readPerson_22 ?_
        replace h := wpo_bind h
        refine r_callV0 F lm10_176 mf10_errs (vc117 hn) rfl (fr := 1) (lo := 20) (As := [vI 3]) (rest := []) ⟨Nat.le_of_ble_eq_true rfl, Nat.le_of_ble_eq_true rfl⟩ rfl (Nat.le_of_ble_eq_true rfl) ⟨Nat.zero_le _, Nat.zero_le _⟩ d10_readPerson_23 ?_
        refine ok10_errs hn  (kVm h (fun a2 h => ?_))
        replace h := wpo_some h
        exact h
theorem d10_readLine_0 : decode c10_readLine 0 = .ok (.aload_n 0, 1) := by decide +kernel
theorem d10_readLine_1 : decode c10_readLine 1 = .ok (.getfield 31, 3) := by decide +kernel
theorem d10_readLine_4 : decode c10_readLine 4 = .ok (.bipush 9, 2) := by decide +kernel
theorem d10_readLine_6 : decode c10_readLine 6 = .ok (.iaload, 1) := by decide +kernel
theorem d10_readLine_7 : decode c10_readLine 7 = .ok (.ifCond .ne 10, 3) := by decide +kernel
theorem d10_readLine_10 : decode c10_readLine 10 = .ok (.aload_n 0, 1) := by decide +kernel
theorem d10_readLine_11 : decode c10_readLine 11 = .ok (.invokevirtual 216, 3) := by decide +kernel
theorem d10_readLine_14 : decode c10_readLine 14 = .ok (.goto 7, 3) := by decide +kernel
theorem d10_readLine_17 : decode c10_readLine 17 = .ok (.aload_n 0, 1) := by decide +kernel
theorem d10_readLine_18 : decode c10_readLine 18 = .ok (.invokevirtual 219, 3) := by decide +kernel
theorem d10_readLine_21 : decode c10_readLine 21 = .ok (.aload_n 0, 1) := by decide +kernel
theorem d10_readLine_22 : decode c10_readLine 22 = .ok (.invokevirtual 159, 3) := by decide +kernel
theorem d10_readLine_25 : decode c10_readLine 25 = .ok (.ifCond .eq 16, 3) := by decide +kernel
theorem d10_readLine_28 : decode c10_readLine 28 = .ok (.aload_n 0, 1) := by decide +kernel
theorem d10_readLine_29 : decode c10_readLine 29 = .ok (.getfield 135, 3) := by decide +kernel
theorem d10_readLine_32 : decode c10_readLine 32 = .ok (.iconst 3, 1) := by decide +kernel
theorem d10_readLine_33 : decode c10_readLine 33 = .ok (.if_icmp .eq 8, 3) := by decide +kernel
theorem d10_readLine_36 : decode c10_readLine 36 = .ok (.aload_n 0, 1) := by decide +kernel
theorem d10_readLine_37 : decode c10_readLine 37 = .ok (.iconst 1, 1) := by decide +kernel
theorem d10_readLine_38 : decode c10_readLine 38 = .ok (.invokevirtual 176, 3) := by decide +kernel
theorem d10_readLine_41 : decode c10_readLine 41 = .ok (.aload_n 0, 1) := by decide +kernel
theorem d10_readLine_42 : decode c10_readLine 42 = .ok (.invokevirtual 159, 3) := by decide +kernel
theorem d10_readLine_45 : decode c10_readLine 45 = .ok (.ifCond .eq 7, 3) := by decide +kernel
theorem d10_readLine_48 : decode c10_readLine 48 = .ok (.aload_n 0, 1) := by decide +kernel
theorem d10_readLine_49 : decode c10_readLine 49 = .ok (.invokevirtual 180, 3) := by decide +kernel
theorem d10_readLine_52 : decode c10_readLine 52 = .ok (.aload_n 0, 1) := by decide +kernel
theorem d10_readLine_53 : decode c10_readLine 53 = .ok (.getfield 31, 3) := by decide +kernel
theorem d10_readLine_56 : decode c10_readLine 56 = .ok (.bipush 9, 2) := by decide +kernel
theorem d10_readLine_58 : decode c10_readLine 58 = .ok (.dup2, 1) := by decide +kernel
theorem d10_readLine_59 : decode c10_readLine 59 = .ok (.iaload, 1) := by decide +kernel
theorem d10_readLine_60 : decode c10_readLine 60 = .ok (.iconst 1, 1) := by decide +kernel
theorem d10_readLine_61 : decode c10_readLine 61 = .ok (.iadd, 1) := by decide +kernel
theorem d10_readLine_62 : decode c10_readLine 62 = .ok (.iastore, 1) := by decide +kernel
theorem d10_readLine_63 : decode c10_readLine 63 = .ok (.return_, 1) := by decide +kernel
def f10_readLine (D : Mem) : Option (Mem) :=
  Option.bind (
    if w32 (D 123 9) = 0 then
      Option.bind (f10_readFirst D) fun (a2 : Mem) =>
      some a2
    else
      Option.bind (f10_readPerson D) fun (a1 : Mem) =>
      some a1
  ) fun (j1 : Mem) =>
  Option.bind (f10_good j1) fun (a3 : Int) =>
  Option.bind (
    if w32 a3 = 0 then
      some j1
    else
      if w32 (j1 117 10) = w32 3 then
        some j1
      else
        Option.bind (f10_errs j1 1) fun (a4 : Mem) =>
        some a4
  ) fun (j2 : Mem) =>
  Option.bind (f10_good j2) fun (a5 : Int) =>
  Option.bind (
    if w32 a5 = 0 then
      some j2
    else
      Option.bind (f10_advance j2) fun (a6 : Mem) =>
      some a6
  ) fun (j3 : Mem) =>
  some (mset j3 123 9 ((j3 123 9) + 1))
set_option maxHeartbeats 4000000 in
theorem ok10_readLine {l : Launch} {X : XT} {n : Nat} {D : Mem} {Q : Option Value → Nat → Rho → Mem → Prop} (hn : 147 ≤ n)  (h : wpo (f10_readLine D) (fun a => Q none n rt a)) : MOK l y10_readLine c10_readLine 1 (none) { frames := 8, cells := 0, slots := 0, locals := 179 } 0 0 X [vR X 117] n rt D Q := by
  refine MOK_of 10 (by decide +kernel) rfl (lv := [(0, vR X 117)]) (Nat.le_of_ble_eq_true rfl) rfl (fun K hK F hnm => ?_)
  subst hK
  unfold f10_readLine at h
  refine r_aload_nR F 0 rfl rfl d10_readLine_0 ?_
  refine r_getR F (z := 123) lf10_31 (vc117 hn) z117_14 d10_readLine_1 ?_
  refine r_bipush F (z := 9) (by decide) d10_readLine_4 ?_
  refine r_ialdC F (j := 9) (vc123 hn) (by decide) rfl d10_readLine_6 ?_
  refine at_join (B := fun (j1 : Mem) => At K X (ZQ K X Q) 0 0 n rt 1 21 [(0, vR X 117)] [] j1) h (fun j1 h => ?_) (fun h => ?_)
  · refine r_aload_nR F 0 rfl rfl d10_readLine_21 ?_
    replace h := wpo_bind h
    refine r_callV0 F lm10_159 mf10_good (vc117 hn) rfl (fr := 0) (lo := 0) (As := []) (rest := []) ⟨Nat.le_of_ble_eq_true rfl, Nat.le_of_ble_eq_true rfl⟩ rfl (Nat.le_of_ble_eq_true rfl) ⟨Nat.zero_le _, Nat.zero_le _⟩ d10_readLine_22 ?_
    refine ok10_good hn  (kI h (fun a3 h => ?_))
    refine at_join (B := fun (j2 : Mem) => At K X (ZQ K X Q) 0 0 n rt 1 41 [(0, vR X 117)] [] j2) h (fun j2 h => ?_) (fun h => ?_)
    · refine r_aload_nR F 0 rfl rfl d10_readLine_41 ?_
      replace h := wpo_bind h
      refine r_callV0 F lm10_159 mf10_good (vc117 hn) rfl (fr := 0) (lo := 0) (As := []) (rest := []) ⟨Nat.le_of_ble_eq_true rfl, Nat.le_of_ble_eq_true rfl⟩ rfl (Nat.le_of_ble_eq_true rfl) ⟨Nat.zero_le _, Nat.zero_le _⟩ d10_readLine_42 ?_
      refine ok10_good hn  (kI h (fun a5 h => ?_))
      refine at_join (B := fun (j3 : Mem) => At K X (ZQ K X Q) 0 0 n rt 1 52 [(0, vR X 117)] [] j3) h (fun j3 h => ?_) (fun h => ?_)
      · refine r_aload_nR F 0 rfl rfl d10_readLine_52 ?_
        refine r_getR F (z := 123) lf10_31 (vc117 hn) z117_14 d10_readLine_53 ?_
        refine r_bipush F (z := 9) (by decide) d10_readLine_56 ?_
        refine r_dup2 F rfl rfl d10_readLine_58 ?_
        refine r_ialdC F (j := 9) (vc123 hn) (by decide) rfl d10_readLine_59 ?_
        refine r_iconst F (z := 1) d10_readLine_60 ?_
        refine r_iadd F d10_readLine_61 ?_
        refine r_iastC F (j := 9) (vc123 hn) (by decide) rfl d10_readLine_62 ?_
        replace h := wpo_some h
        exact r_vret F h d10_readLine_63
      · refine r_if_eq F (tgt := 52) d10_readLine_45 (by decide) (fun hb => ?_) (fun hb => ?_)
        · replace h := wpo_pos h hb
          replace h := wpo_some h
          exact h
        · replace h := wpo_neg h hb
          refine r_aload_nR F 0 rfl rfl d10_readLine_48 ?_
          replace h := wpo_bind h
          refine r_callV0 F lm10_180 mf10_advance (vc117 hn) rfl (fr := 1) (lo := 25) (As := []) (rest := []) ⟨Nat.le_of_ble_eq_true rfl, Nat.le_of_ble_eq_true rfl⟩ rfl (Nat.le_of_ble_eq_true rfl) ⟨Nat.zero_le _, Nat.zero_le _⟩ d10_readLine_49 ?_
          refine ok10_advance hn  (kVm h (fun a6 h => ?_))
          replace h := wpo_some h
          exact h
    · refine r_if_eq F (tgt := 41) d10_readLine_25 (by decide) (fun hb => ?_) (fun hb => ?_)
      · replace h := wpo_pos h hb
        replace h := wpo_some h
        exact h
      · replace h := wpo_neg h hb
        refine r_aload_nR F 0 rfl rfl d10_readLine_28 ?_
        refine r_getI F lf10_135 (vc117 hn) d10_readLine_29 ?_
        refine r_iconst F (z := 3) d10_readLine_32 ?_
        refine r_icmp_eq F (tgt := 41) d10_readLine_33 (by decide) (fun hb => ?_) (fun hb => ?_)
        · replace h := wpo_pos h hb
          replace h := wpo_some h
          exact h
        · replace h := wpo_neg h hb
          refine r_aload_nR F 0 rfl rfl d10_readLine_36 ?_
          refine r_iconst F (z := 1) d10_readLine_37 ?_
          replace h := wpo_bind h
          refine r_callV0 F lm10_176 mf10_errs (vc117 hn) rfl (fr := 1) (lo := 20) (As := [vI 1]) (rest := []) ⟨Nat.le_of_ble_eq_true rfl, Nat.le_of_ble_eq_true rfl⟩ rfl (Nat.le_of_ble_eq_true rfl) ⟨Nat.zero_le _, Nat.zero_le _⟩ d10_readLine_38 ?_
          refine ok10_errs hn  (kVm h (fun a4 h => ?_))
          replace h := wpo_some h
          exact h
  · refine r_if_ne F (tgt := 17) d10_readLine_7 (by decide) (fun hb => ?_) (fun hb => ?_)
    · replace h := wpo_neg h hb
      refine r_aload_nR F 0 rfl rfl d10_readLine_17 ?_
      replace h := wpo_bind h
      refine r_callV0 F lm10_219 mf10_readPerson (vc117 hn) rfl (fr := 7) (lo := 154) (As := []) (rest := []) ⟨Nat.le_of_ble_eq_true rfl, Nat.le_of_ble_eq_true rfl⟩ rfl (Nat.le_of_ble_eq_true rfl) ⟨Nat.zero_le _, Nat.zero_le _⟩ d10_readLine_18 ?_
      refine ok10_readPerson hn  (kVm h (fun a1 h => ?_))
      replace h := wpo_some h
      exact h
    · replace h := wpo_pos h hb
      refine r_aload_nR F 0 rfl rfl d10_readLine_10 ?_
      replace h := wpo_bind h
      refine r_callV0 F lm10_216 mf10_readFirst (vc117 hn) rfl (fr := 7) (lo := 154) (As := []) (rest := []) ⟨Nat.le_of_ble_eq_true rfl, Nat.le_of_ble_eq_true rfl⟩ rfl (Nat.le_of_ble_eq_true rfl) ⟨Nat.zero_le _, Nat.zero_le _⟩ d10_readLine_11 ?_
      refine ok10_readFirst hn  (kVm h (fun a2 h => ?_))
      refine r_goto F (tgt := 21) (by decide) d10_readLine_14 ?_
      replace h := wpo_some h
      exact h
theorem d10_parish_0 : decode c10_parish 0 = .ok (.aload_n 0, 1) := by decide +kernel
theorem d10_parish_1 : decode c10_parish 1 = .ok (.aload_n 0, 1) := by decide +kernel
theorem d10_parish_2 : decode c10_parish 2 = .ok (.getfield 119, 3) := by decide +kernel
theorem d10_parish_5 : decode c10_parish 5 = .ok (.putfield 122, 3) := by decide +kernel
theorem d10_parish_8 : decode c10_parish 8 = .ok (.aload_n 0, 1) := by decide +kernel
theorem d10_parish_9 : decode c10_parish 9 = .ok (.iconst 0, 1) := by decide +kernel
theorem d10_parish_10 : decode c10_parish 10 = .ok (.putfield 119, 3) := by decide +kernel
theorem d10_parish_13 : decode c10_parish 13 = .ok (.aload_n 0, 1) := by decide +kernel
theorem d10_parish_14 : decode c10_parish 14 = .ok (.iconst 0, 1) := by decide +kernel
theorem d10_parish_15 : decode c10_parish 15 = .ok (.putfield 125, 3) := by decide +kernel
theorem d10_parish_18 : decode c10_parish 18 = .ok (.aload_n 0, 1) := by decide +kernel
theorem d10_parish_19 : decode c10_parish 19 = .ok (.iconst 0, 1) := by decide +kernel
theorem d10_parish_20 : decode c10_parish 20 = .ok (.putfield 156, 3) := by decide +kernel
theorem d10_parish_23 : decode c10_parish 23 = .ok (.aload_n 0, 1) := by decide +kernel
theorem d10_parish_24 : decode c10_parish 24 = .ok (.iconst (-1), 1) := by decide +kernel
theorem d10_parish_25 : decode c10_parish 25 = .ok (.putfield 27, 3) := by decide +kernel
theorem d10_parish_28 : decode c10_parish 28 = .ok (.iconst 0, 1) := by decide +kernel
theorem d10_parish_29 : decode c10_parish 29 = .ok (.istore_n 1, 1) := by decide +kernel
theorem d10_parish_30 : decode c10_parish 30 = .ok (.iload_n 1, 1) := by decide +kernel
theorem d10_parish_31 : decode c10_parish 31 = .ok (.bipush 72, 2) := by decide +kernel
theorem d10_parish_33 : decode c10_parish 33 = .ok (.if_icmp .ge 16, 3) := by decide +kernel
theorem d10_parish_36 : decode c10_parish 36 = .ok (.aload_n 0, 1) := by decide +kernel
theorem d10_parish_37 : decode c10_parish 37 = .ok (.getfield 31, 3) := by decide +kernel
theorem d10_parish_40 : decode c10_parish 40 = .ok (.iload_n 1, 1) := by decide +kernel
theorem d10_parish_41 : decode c10_parish 41 = .ok (.iconst 0, 1) := by decide +kernel
theorem d10_parish_42 : decode c10_parish 42 = .ok (.iastore, 1) := by decide +kernel
theorem d10_parish_43 : decode c10_parish 43 = .ok (.iinc 1 1, 3) := by decide +kernel
theorem d10_parish_46 : decode c10_parish 46 = .ok (.goto (-16), 3) := by decide +kernel
theorem d10_parish_49 : decode c10_parish 49 = .ok (.aload_n 0, 1) := by decide +kernel
theorem d10_parish_50 : decode c10_parish 50 = .ok (.invokevirtual 180, 3) := by decide +kernel
theorem d10_parish_53 : decode c10_parish 53 = .ok (.aload_n 0, 1) := by decide +kernel
theorem d10_parish_54 : decode c10_parish 54 = .ok (.invokevirtual 159, 3) := by decide +kernel
theorem d10_parish_57 : decode c10_parish 57 = .ok (.ifCond .eq 17, 3) := by decide +kernel
theorem d10_parish_60 : decode c10_parish 60 = .ok (.aload_n 0, 1) := by decide +kernel
theorem d10_parish_61 : decode c10_parish 61 = .ok (.getfield 135, 3) := by decide +kernel
theorem d10_parish_64 : decode c10_parish 64 = .ok (.ifCond .eq 10, 3) := by decide +kernel
theorem d10_parish_67 : decode c10_parish 67 = .ok (.aload_n 0, 1) := by decide +kernel
theorem d10_parish_68 : decode c10_parish 68 = .ok (.invokevirtual 222, 3) := by decide +kernel
theorem d10_parish_71 : decode c10_parish 71 = .ok (.goto (-18), 3) := by decide +kernel
theorem d10_parish_74 : decode c10_parish 74 = .ok (.aload_n 0, 1) := by decide +kernel
theorem d10_parish_75 : decode c10_parish 75 = .ok (.invokevirtual 159, 3) := by decide +kernel
theorem d10_parish_78 : decode c10_parish 78 = .ok (.ifCond .ne 6, 3) := by decide +kernel
theorem d10_parish_81 : decode c10_parish 81 = .ok (.bipush (-4), 2) := by decide +kernel
theorem d10_parish_83 : decode c10_parish 83 = .ok (.ireturn, 1) := by decide +kernel
theorem d10_parish_84 : decode c10_parish 84 = .ok (.iconst 0, 1) := by decide +kernel
theorem d10_parish_85 : decode c10_parish 85 = .ok (.istore_n 1, 1) := by decide +kernel
theorem d10_parish_86 : decode c10_parish 86 = .ok (.iload_n 1, 1) := by decide +kernel
theorem d10_parish_87 : decode c10_parish 87 = .ok (.bipush 72, 2) := by decide +kernel
theorem d10_parish_89 : decode c10_parish 89 = .ok (.if_icmp .ge 21, 3) := by decide +kernel
theorem d10_parish_92 : decode c10_parish 92 = .ok (.aload_n 0, 1) := by decide +kernel
theorem d10_parish_93 : decode c10_parish 93 = .ok (.getfield 9, 3) := by decide +kernel
theorem d10_parish_96 : decode c10_parish 96 = .ok (.iload_n 1, 1) := by decide +kernel
theorem d10_parish_97 : decode c10_parish 97 = .ok (.aload_n 0, 1) := by decide +kernel
theorem d10_parish_98 : decode c10_parish 98 = .ok (.getfield 31, 3) := by decide +kernel
theorem d10_parish_101 : decode c10_parish 101 = .ok (.iload_n 1, 1) := by decide +kernel
theorem d10_parish_102 : decode c10_parish 102 = .ok (.iaload, 1) := by decide +kernel
theorem d10_parish_103 : decode c10_parish 103 = .ok (.iastore, 1) := by decide +kernel
theorem d10_parish_104 : decode c10_parish 104 = .ok (.iinc 1 1, 3) := by decide +kernel
theorem d10_parish_107 : decode c10_parish 107 = .ok (.goto (-21), 3) := by decide +kernel
theorem d10_parish_110 : decode c10_parish 110 = .ok (.aload_n 0, 1) := by decide +kernel
theorem d10_parish_111 : decode c10_parish 111 = .ok (.getfield 9, 3) := by decide +kernel
theorem d10_parish_114 : decode c10_parish 114 = .ok (.bipush 9, 2) := by decide +kernel
theorem d10_parish_116 : decode c10_parish 116 = .ok (.iaload, 1) := by decide +kernel
theorem d10_parish_117 : decode c10_parish 117 = .ok (.ireturn, 1) := by decide +kernel
def f10_parish (D : Mem) : Option (Int × Mem) :=
  Option.bind (some (mset D 117 7 (D 117 5))) fun (D1 : Mem) =>
  Option.bind (some (mset D1 117 5 0)) fun (D2 : Mem) =>
  Option.bind (some (mset D2 117 8 0)) fun (D3 : Mem) =>
  Option.bind (some (mset D3 117 12 0)) fun (D4 : Mem) =>
  Option.bind (some (mset D4 117 13 (-1))) fun (D5 : Mem) =>
  Option.bind (@loop (Int × Mem) (Mem) (fun s1 =>
    if w32 s1.1 < w32 72 then
      if 0 ≤ s1.1 ∧ s1.1 < 72 then
        some (Sum.inl ((s1.1 + 1), (mset s1.2 123 s1.1.toNat 0)))
      else none
    else
      some (Sum.inr s1.2)
  ) FU (0, D5)) fun (b1 : Mem) =>
  Option.bind (f10_advance b1) fun (a1 : Mem) =>
  Option.bind (@loop (Mem) (Mem) (fun s2 =>
    Option.bind (f10_good s2) fun (a2 : Int) =>
    if w32 a2 = 0 then
      some (Sum.inr s2)
    else
      if w32 (s2 117 10) = 0 then
        some (Sum.inr s2)
      else
        Option.bind (f10_readLine s2) fun (a3 : Mem) =>
        some (Sum.inl a3)
  ) FU a1) fun (b2 : Mem) =>
  Option.bind (f10_good b2) fun (a4 : Int) =>
  if w32 a4 = 0 then
    some ((-4), b2)
  else
    Option.bind (@loop (Int × Mem) (Mem) (fun s3 =>
      if w32 s3.1 < w32 72 then
        if 0 ≤ s3.1 ∧ s3.1 < 72 then
          some (Sum.inl ((s3.1 + 1), (mset s3.2 118 s3.1.toNat (s3.2 123 s3.1.toNat))))
        else none
      else
        some (Sum.inr s3.2)
    ) FU (0, b2)) fun (b3 : Mem) =>
    some ((b3 118 9), b3)
set_option maxHeartbeats 4000000 in
theorem ok10_parish {l : Launch} {X : XT} {n : Nat} {D : Mem} {Q : Option Value → Nat → Rho → Mem → Prop} (hn : 147 ≤ n)  (h : wpo (f10_parish D) (fun a => Q (some (vI a.1)) n rt a.2)) : MOK l y10_parish c10_parish 2 (some .int) { frames := 9, cells := 0, slots := 0, locals := 199 } 0 0 X [vR X 117] n rt D Q := by
  refine MOK_of 10 (by decide +kernel) rfl (lv := [(0, vR X 117)]) (Nat.le_of_ble_eq_true rfl) rfl (fun K hK F hnm => ?_)
  subst hK
  unfold f10_parish at h
  refine r_aload_nR F 0 rfl rfl d10_parish_0 ?_
  refine r_aload_nR F 0 rfl rfl d10_parish_1 ?_
  refine r_getI F lf10_119 (vc117 hn) d10_parish_2 ?_
  refine r_putI F lf10_122 rfl rfl (vc117 hn) d10_parish_5 ?_
  refine r_aload_nR F 0 rfl rfl d10_parish_8 ?_
  refine r_iconst F (z := 0) d10_parish_9 ?_
  refine at_name (B := fun (D1 : Mem) => At K X (ZQ K X Q) 0 0 n rt 2 10 [(0, vR X 117)] [vI 0, vR X 117] D1) h (fun D1 h => ?_)
  refine r_putI F lf10_119 rfl rfl (vc117 hn) d10_parish_10 ?_
  refine r_aload_nR F 0 rfl rfl d10_parish_13 ?_
  refine r_iconst F (z := 0) d10_parish_14 ?_
  refine at_name (B := fun (D2 : Mem) => At K X (ZQ K X Q) 0 0 n rt 2 15 [(0, vR X 117)] [vI 0, vR X 117] D2) h (fun D2 h => ?_)
  refine r_putI F lf10_125 rfl rfl (vc117 hn) d10_parish_15 ?_
  refine r_aload_nR F 0 rfl rfl d10_parish_18 ?_
  refine r_iconst F (z := 0) d10_parish_19 ?_
  refine at_name (B := fun (D3 : Mem) => At K X (ZQ K X Q) 0 0 n rt 2 20 [(0, vR X 117)] [vI 0, vR X 117] D3) h (fun D3 h => ?_)
  refine r_putI F lf10_156 rfl rfl (vc117 hn) d10_parish_20 ?_
  refine r_aload_nR F 0 rfl rfl d10_parish_23 ?_
  refine r_iconst F (z := (-1)) d10_parish_24 ?_
  refine at_name (B := fun (D4 : Mem) => At K X (ZQ K X Q) 0 0 n rt 2 25 [(0, vR X 117)] [vI (-1), vR X 117] D4) h (fun D4 h => ?_)
  refine r_putI F lf10_27 rfl rfl (vc117 hn) d10_parish_25 ?_
  refine r_iconst F (z := 0) d10_parish_28 ?_
  refine r_istore_n F (lv' := [(1, vI 0), (0, vR X 117)]) rfl (Nat.le_of_ble_eq_true rfl) rfl d10_parish_29 ?_
  refine at_name (B := fun (D5 : Mem) => At K X (ZQ K X Q) 0 0 n rt 2 30 [(1, vI 0), (0, vR X 117)] [] D5) h (fun D5 h => ?_)
  refine r_weak [1, 0] rfl ?_
  refine at_loopj (A := fun (s1 : Int × Mem) => At K X (ZQ K X Q) 0 0 n rt 2 30 [(0, vR X 117), (1, vI s1.1)] [] s1.2) (B := fun (b1 : Mem) => At K X (ZQ K X Q) 0 0 n rt 2 49 [(0, vR X 117)] [] b1) h (fun b1 h => ?_) (fun s1 h => ?_)
  · refine r_aload_nR F 0 rfl rfl d10_parish_49 ?_
    replace h := wpo_bind h
    refine r_callV0 F lm10_180 mf10_advance (vc117 hn) rfl (fr := 1) (lo := 25) (As := []) (rest := []) ⟨Nat.le_of_ble_eq_true rfl, Nat.le_of_ble_eq_true rfl⟩ rfl (Nat.le_of_ble_eq_true rfl) ⟨Nat.zero_le _, Nat.zero_le _⟩ d10_parish_50 ?_
    refine ok10_advance hn  (kVm h (fun a1 h => ?_))
    refine at_loopj (A := fun (s2 : Mem) => At K X (ZQ K X Q) 0 0 n rt 2 53 [(0, vR X 117)] [] s2) (B := fun (b2 : Mem) => At K X (ZQ K X Q) 0 0 n rt 2 74 [(0, vR X 117)] [] b2) h (fun b2 h => ?_) (fun s2 h => ?_)
    · refine r_aload_nR F 0 rfl rfl d10_parish_74 ?_
      replace h := wpo_bind h
      refine r_callV0 F lm10_159 mf10_good (vc117 hn) rfl (fr := 0) (lo := 0) (As := []) (rest := []) ⟨Nat.le_of_ble_eq_true rfl, Nat.le_of_ble_eq_true rfl⟩ rfl (Nat.le_of_ble_eq_true rfl) ⟨Nat.zero_le _, Nat.zero_le _⟩ d10_parish_75 ?_
      refine ok10_good hn  (kI h (fun a4 h => ?_))
      refine r_if_ne F (tgt := 84) d10_parish_78 (by decide) (fun hb => ?_) (fun hb => ?_)
      · replace h := wpo_neg h hb
        refine r_iconst F (z := 0) d10_parish_84 ?_
        refine r_istore_n F (lv' := [(1, vI 0), (0, vR X 117)]) rfl (Nat.le_of_ble_eq_true rfl) rfl d10_parish_85 ?_
        refine r_weak [1, 0] rfl ?_
        refine at_loopj (A := fun (s3 : Int × Mem) => At K X (ZQ K X Q) 0 0 n rt 2 86 [(0, vR X 117), (1, vI s3.1)] [] s3.2) (B := fun (b3 : Mem) => At K X (ZQ K X Q) 0 0 n rt 2 110 [(0, vR X 117)] [] b3) h (fun b3 h => ?_) (fun s3 h => ?_)
        · refine r_aload_nR F 0 rfl rfl d10_parish_110 ?_
          refine r_getR F (z := 118) lf10_9 (vc117 hn) z117_1 d10_parish_111 ?_
          refine r_bipush F (z := 9) (by decide) d10_parish_114 ?_
          refine r_ialdC F (j := 9) (vc118 hn) (by decide) rfl d10_parish_116 ?_
          replace h := wpo_some h
          exact r_iret F h d10_parish_117
        · refine r_iload_n F 1 rfl rfl d10_parish_86 ?_
          refine r_bipush F (z := 72) (by decide) d10_parish_87 ?_
          refine r_icmp_ge F (tgt := 110) d10_parish_89 (by decide) (fun hb => ?_) (fun hb => ?_)
          · replace h := wpo_neg h hb
            refine r_weak [0] rfl ?_
            replace h := wpo_inr h
            exact h
          · replace h := wpo_pos h hb
            refine r_aload_nR F 0 rfl rfl d10_parish_92 ?_
            refine r_getR F (z := 118) lf10_9 (vc117 hn) z117_1 d10_parish_93 ?_
            refine r_iload_n F 1 rfl rfl d10_parish_96 ?_
            refine r_aload_nR F 0 rfl rfl d10_parish_97 ?_
            refine r_getR F (z := 123) lf10_31 (vc117 hn) z117_14 d10_parish_98 ?_
            refine r_iload_n F 1 rfl rfl d10_parish_101 ?_
            obtain ⟨hx2, h⟩ := wpo_chk h
            refine r_iald F (vc123 hn) hx2 d10_parish_102 ?_
            refine r_iast F (vc118 hn) hx2 d10_parish_103 ?_
            refine r_iinc F 1 (lv' := [(1, vI (s3.1 + 1)), (0, vR X 117)]) rfl (Nat.le_of_ble_eq_true rfl) rfl d10_parish_104 ?_
            refine r_goto F (tgt := 86) (by decide) d10_parish_107 ?_
            refine r_weak [1, 0] rfl ?_
            replace h := wpo_inl h
            exact h
      · replace h := wpo_pos h hb
        refine r_bipush F (z := (-4)) (by decide) d10_parish_81 ?_
        replace h := wpo_some h
        exact r_iret F h d10_parish_83
    · refine r_aload_nR F 0 rfl rfl d10_parish_53 ?_
      replace h := wpo_bind h
      refine r_callV0 F lm10_159 mf10_good (vc117 hn) rfl (fr := 0) (lo := 0) (As := []) (rest := []) ⟨Nat.le_of_ble_eq_true rfl, Nat.le_of_ble_eq_true rfl⟩ rfl (Nat.le_of_ble_eq_true rfl) ⟨Nat.zero_le _, Nat.zero_le _⟩ d10_parish_54 ?_
      refine ok10_good hn  (kI h (fun a2 h => ?_))
      refine r_if_eq F (tgt := 74) d10_parish_57 (by decide) (fun hb => ?_) (fun hb => ?_)
      · replace h := wpo_pos h hb
        replace h := wpo_inr h
        exact h
      · replace h := wpo_neg h hb
        refine r_aload_nR F 0 rfl rfl d10_parish_60 ?_
        refine r_getI F lf10_135 (vc117 hn) d10_parish_61 ?_
        refine r_if_eq F (tgt := 74) d10_parish_64 (by decide) (fun hb => ?_) (fun hb => ?_)
        · replace h := wpo_pos h hb
          replace h := wpo_inr h
          exact h
        · replace h := wpo_neg h hb
          refine r_aload_nR F 0 rfl rfl d10_parish_67 ?_
          replace h := wpo_bind h
          refine r_callV0 F lm10_222 mf10_readLine (vc117 hn) rfl (fr := 8) (lo := 179) (As := []) (rest := []) ⟨Nat.le_of_ble_eq_true rfl, Nat.le_of_ble_eq_true rfl⟩ rfl (Nat.le_of_ble_eq_true rfl) ⟨Nat.zero_le _, Nat.zero_le _⟩ d10_parish_68 ?_
          refine ok10_readLine hn  (kVm h (fun a3 h => ?_))
          refine r_goto F (tgt := 53) (by decide) d10_parish_71 ?_
          replace h := wpo_inl h
          exact h
  · refine r_iload_n F 1 rfl rfl d10_parish_30 ?_
    refine r_bipush F (z := 72) (by decide) d10_parish_31 ?_
    refine r_icmp_ge F (tgt := 49) d10_parish_33 (by decide) (fun hb => ?_) (fun hb => ?_)
    · replace h := wpo_neg h hb
      refine r_weak [0] rfl ?_
      replace h := wpo_inr h
      exact h
    · replace h := wpo_pos h hb
      refine r_aload_nR F 0 rfl rfl d10_parish_36 ?_
      refine r_getR F (z := 123) lf10_31 (vc117 hn) z117_14 d10_parish_37 ?_
      refine r_iload_n F 1 rfl rfl d10_parish_40 ?_
      refine r_iconst F (z := 0) d10_parish_41 ?_
      obtain ⟨hx1, h⟩ := wpo_chk h
      refine r_iast F (vc123 hn) hx1 d10_parish_42 ?_
      refine r_iinc F 1 (lv' := [(1, vI (s1.1 + 1)), (0, vR X 117)]) rfl (Nat.le_of_ble_eq_true rfl) rfl d10_parish_43 ?_
      refine r_goto F (tgt := 30) (by decide) d10_parish_46 ?_
      refine r_weak [1, 0] rfl ?_
      replace h := wpo_inl h
      exact h
theorem d10_of_0 : decode c10_of 0 = .ok (.aload_n 0, 1) := by decide +kernel
theorem d10_of_1 : decode c10_of 1 = .ok (.getfield 9, 3) := by decide +kernel
theorem d10_of_4 : decode c10_of 4 = .ok (.bipush 10, 2) := by decide +kernel
theorem d10_of_6 : decode c10_of 6 = .ok (.iconst 4, 1) := by decide +kernel
theorem d10_of_7 : decode c10_of 7 = .ok (.iload_n 1, 1) := by decide +kernel
theorem d10_of_8 : decode c10_of 8 = .ok (.imul, 1) := by decide +kernel
theorem d10_of_9 : decode c10_of 9 = .ok (.iadd, 1) := by decide +kernel
theorem d10_of_10 : decode c10_of 10 = .ok (.iload_n 2, 1) := by decide +kernel
theorem d10_of_11 : decode c10_of 11 = .ok (.iadd, 1) := by decide +kernel
theorem d10_of_12 : decode c10_of 12 = .ok (.iaload, 1) := by decide +kernel
theorem d10_of_13 : decode c10_of 13 = .ok (.ireturn, 1) := by decide +kernel
def f10_of (D : Mem) (p0 : Int) (p1 : Int) : Option (Int) :=
  if 0 ≤ ((10 + (4 * p0)) + p1) ∧ ((10 + (4 * p0)) + p1) < 72 then
    some (D 118 ((10 + (4 * p0)) + p1).toNat)
  else none
set_option maxHeartbeats 4000000 in
theorem ok10_of {l : Launch} {X : XT} {n : Nat} {D : Mem} {Q : Option Value → Nat → Rho → Mem → Prop} (hn : 147 ≤ n) {p0 : Int} {p1 : Int}  (h : wpo (f10_of D p0 p1) (fun a => Q (some (vI a)) n rt D)) : MOK l y10_of c10_of 3 (some .int) { frames := 0, cells := 0, slots := 0, locals := 0 } 0 0 X [vR X 117, vI p0, vI p1] n rt D Q := by
  refine MOK_of 10 (by decide +kernel) rfl (lv := [(0, vR X 117), (1, vI p0), (2, vI p1)]) (Nat.le_of_ble_eq_true rfl) rfl (fun K hK F hnm => ?_)
  subst hK
  unfold f10_of at h
  refine r_aload_nR F 0 rfl rfl d10_of_0 ?_
  refine r_getR F (z := 118) lf10_9 (vc117 hn) z117_1 d10_of_1 ?_
  refine r_bipush F (z := 10) (by decide) d10_of_4 ?_
  refine r_iconst F (z := 4) d10_of_6 ?_
  refine r_iload_n F 1 rfl rfl d10_of_7 ?_
  refine r_imul F d10_of_8 ?_
  refine r_iadd F d10_of_9 ?_
  refine r_iload_n F 2 rfl rfl d10_of_10 ?_
  refine r_iadd F d10_of_11 ?_
  obtain ⟨hx1, h⟩ := wpo_chk h
  refine r_iald F (vc118 hn) hx1 d10_of_12 ?_
  replace h := wpo_some h
  exact r_iret F h d10_of_13
theorem d10_asItIs_0 : decode c10_asItIs 0 = .ok (.iconst 0, 1) := by decide +kernel
theorem d10_asItIs_1 : decode c10_asItIs 1 = .ok (.istore_n 1, 1) := by decide +kernel
theorem d10_asItIs_2 : decode c10_asItIs 2 = .ok (.iload_n 1, 1) := by decide +kernel
theorem d10_asItIs_3 : decode c10_asItIs 3 = .ok (.bipush 8, 2) := by decide +kernel
theorem d10_asItIs_5 : decode c10_asItIs 5 = .ok (.if_icmp .ge 47, 3) := by decide +kernel
theorem d10_asItIs_8 : decode c10_asItIs 8 = .ok (.aload_n 0, 1) := by decide +kernel
theorem d10_asItIs_9 : decode c10_asItIs 9 = .ok (.getfield 34, 3) := by decide +kernel
theorem d10_asItIs_12 : decode c10_asItIs 12 = .ok (.iload_n 1, 1) := by decide +kernel
theorem d10_asItIs_13 : decode c10_asItIs 13 = .ok (.aload_n 0, 1) := by decide +kernel
theorem d10_asItIs_14 : decode c10_asItIs 14 = .ok (.iload_n 1, 1) := by decide +kernel
theorem d10_asItIs_15 : decode c10_asItIs 15 = .ok (.iconst 0, 1) := by decide +kernel
theorem d10_asItIs_16 : decode c10_asItIs 16 = .ok (.invokevirtual 225, 3) := by decide +kernel
theorem d10_asItIs_19 : decode c10_asItIs 19 = .ok (.iastore, 1) := by decide +kernel
theorem d10_asItIs_20 : decode c10_asItIs 20 = .ok (.aload_n 0, 1) := by decide +kernel
theorem d10_asItIs_21 : decode c10_asItIs 21 = .ok (.getfield 37, 3) := by decide +kernel
theorem d10_asItIs_24 : decode c10_asItIs 24 = .ok (.iload_n 1, 1) := by decide +kernel
theorem d10_asItIs_25 : decode c10_asItIs 25 = .ok (.aload_n 0, 1) := by decide +kernel
theorem d10_asItIs_26 : decode c10_asItIs 26 = .ok (.iload_n 1, 1) := by decide +kernel
theorem d10_asItIs_27 : decode c10_asItIs 27 = .ok (.iconst 1, 1) := by decide +kernel
theorem d10_asItIs_28 : decode c10_asItIs 28 = .ok (.invokevirtual 225, 3) := by decide +kernel
theorem d10_asItIs_31 : decode c10_asItIs 31 = .ok (.iastore, 1) := by decide +kernel
theorem d10_asItIs_32 : decode c10_asItIs 32 = .ok (.aload_n 0, 1) := by decide +kernel
theorem d10_asItIs_33 : decode c10_asItIs 33 = .ok (.getfield 40, 3) := by decide +kernel
theorem d10_asItIs_36 : decode c10_asItIs 36 = .ok (.iload_n 1, 1) := by decide +kernel
theorem d10_asItIs_37 : decode c10_asItIs 37 = .ok (.iconst 0, 1) := by decide +kernel
theorem d10_asItIs_38 : decode c10_asItIs 38 = .ok (.iastore, 1) := by decide +kernel
theorem d10_asItIs_39 : decode c10_asItIs 39 = .ok (.aload_n 0, 1) := by decide +kernel
theorem d10_asItIs_40 : decode c10_asItIs 40 = .ok (.getfield 43, 3) := by decide +kernel
theorem d10_asItIs_43 : decode c10_asItIs 43 = .ok (.iload_n 1, 1) := by decide +kernel
theorem d10_asItIs_44 : decode c10_asItIs 44 = .ok (.iconst 0, 1) := by decide +kernel
theorem d10_asItIs_45 : decode c10_asItIs 45 = .ok (.iastore, 1) := by decide +kernel
theorem d10_asItIs_46 : decode c10_asItIs 46 = .ok (.iinc 1 1, 3) := by decide +kernel
theorem d10_asItIs_49 : decode c10_asItIs 49 = .ok (.goto (-47), 3) := by decide +kernel
theorem d10_asItIs_52 : decode c10_asItIs 52 = .ok (.iconst 0, 1) := by decide +kernel
theorem d10_asItIs_53 : decode c10_asItIs 53 = .ok (.istore_n 1, 1) := by decide +kernel
theorem d10_asItIs_54 : decode c10_asItIs 54 = .ok (.iload_n 1, 1) := by decide +kernel
theorem d10_asItIs_55 : decode c10_asItIs 55 = .ok (.aload_n 0, 1) := by decide +kernel
theorem d10_asItIs_56 : decode c10_asItIs 56 = .ok (.getfield 9, 3) := by decide +kernel
theorem d10_asItIs_59 : decode c10_asItIs 59 = .ok (.bipush 8, 2) := by decide +kernel
theorem d10_asItIs_61 : decode c10_asItIs 61 = .ok (.iaload, 1) := by decide +kernel
theorem d10_asItIs_62 : decode c10_asItIs 62 = .ok (.if_icmp .ge 58, 3) := by decide +kernel
theorem d10_asItIs_65 : decode c10_asItIs 65 = .ok (.aload_n 0, 1) := by decide +kernel
theorem d10_asItIs_66 : decode c10_asItIs 66 = .ok (.getfield 9, 3) := by decide +kernel
theorem d10_asItIs_69 : decode c10_asItIs 69 = .ok (.bipush 42, 2) := by decide +kernel
theorem d10_asItIs_71 : decode c10_asItIs 71 = .ok (.iload_n 1, 1) := by decide +kernel
theorem d10_asItIs_72 : decode c10_asItIs 72 = .ok (.iadd, 1) := by decide +kernel
theorem d10_asItIs_73 : decode c10_asItIs 73 = .ok (.iaload, 1) := by decide +kernel
theorem d10_asItIs_74 : decode c10_asItIs 74 = .ok (.istore_n 2, 1) := by decide +kernel
theorem d10_asItIs_75 : decode c10_asItIs 75 = .ok (.iload_n 2, 1) := by decide +kernel
theorem d10_asItIs_76 : decode c10_asItIs 76 = .ok (.sipush 1000, 3) := by decide +kernel
theorem d10_asItIs_79 : decode c10_asItIs 79 = .ok (.if_icmp .ge 19, 3) := by decide +kernel
theorem d10_asItIs_82 : decode c10_asItIs 82 = .ok (.aload_n 0, 1) := by decide +kernel
theorem d10_asItIs_83 : decode c10_asItIs 83 = .ok (.getfield 34, 3) := by decide +kernel
theorem d10_asItIs_86 : decode c10_asItIs 86 = .ok (.iload_n 2, 1) := by decide +kernel
theorem d10_asItIs_87 : decode c10_asItIs 87 = .ok (.bipush 100, 2) := by decide +kernel
theorem d10_asItIs_89 : decode c10_asItIs 89 = .ok (.idiv, 1) := by decide +kernel
theorem d10_asItIs_90 : decode c10_asItIs 90 = .ok (.iload_n 2, 1) := by decide +kernel
theorem d10_asItIs_91 : decode c10_asItIs 91 = .ok (.bipush 100, 2) := by decide +kernel
theorem d10_asItIs_93 : decode c10_asItIs 93 = .ok (.irem, 1) := by decide +kernel
theorem d10_asItIs_94 : decode c10_asItIs 94 = .ok (.iastore, 1) := by decide +kernel
theorem d10_asItIs_95 : decode c10_asItIs 95 = .ok (.goto 19, 3) := by decide +kernel
theorem d10_asItIs_98 : decode c10_asItIs 98 = .ok (.aload_n 0, 1) := by decide +kernel
theorem d10_asItIs_99 : decode c10_asItIs 99 = .ok (.getfield 37, 3) := by decide +kernel
theorem d10_asItIs_102 : decode c10_asItIs 102 = .ok (.iload_n 2, 1) := by decide +kernel
theorem d10_asItIs_103 : decode c10_asItIs 103 = .ok (.bipush 100, 2) := by decide +kernel
theorem d10_asItIs_105 : decode c10_asItIs 105 = .ok (.idiv, 1) := by decide +kernel
theorem d10_asItIs_106 : decode c10_asItIs 106 = .ok (.bipush 10, 2) := by decide +kernel
theorem d10_asItIs_108 : decode c10_asItIs 108 = .ok (.isub, 1) := by decide +kernel
theorem d10_asItIs_109 : decode c10_asItIs 109 = .ok (.iload_n 2, 1) := by decide +kernel
theorem d10_asItIs_110 : decode c10_asItIs 110 = .ok (.bipush 100, 2) := by decide +kernel
theorem d10_asItIs_112 : decode c10_asItIs 112 = .ok (.irem, 1) := by decide +kernel
theorem d10_asItIs_113 : decode c10_asItIs 113 = .ok (.iastore, 1) := by decide +kernel
theorem d10_asItIs_114 : decode c10_asItIs 114 = .ok (.iinc 1 1, 3) := by decide +kernel
theorem d10_asItIs_117 : decode c10_asItIs 117 = .ok (.goto (-63), 3) := by decide +kernel
theorem d10_asItIs_120 : decode c10_asItIs 120 = .ok (.aload_n 0, 1) := by decide +kernel
theorem d10_asItIs_121 : decode c10_asItIs 121 = .ok (.aload_n 0, 1) := by decide +kernel
theorem d10_asItIs_122 : decode c10_asItIs 122 = .ok (.getfield 9, 3) := by decide +kernel
theorem d10_asItIs_125 : decode c10_asItIs 125 = .ok (.iconst 1, 1) := by decide +kernel
theorem d10_asItIs_126 : decode c10_asItIs 126 = .ok (.iaload, 1) := by decide +kernel
theorem d10_asItIs_127 : decode c10_asItIs 127 = .ok (.putfield 228, 3) := by decide +kernel
theorem d10_asItIs_130 : decode c10_asItIs 130 = .ok (.aload_n 0, 1) := by decide +kernel
theorem d10_asItIs_131 : decode c10_asItIs 131 = .ok (.aload_n 0, 1) := by decide +kernel
theorem d10_asItIs_132 : decode c10_asItIs 132 = .ok (.getfield 9, 3) := by decide +kernel
theorem d10_asItIs_135 : decode c10_asItIs 135 = .ok (.iconst 4, 1) := by decide +kernel
theorem d10_asItIs_136 : decode c10_asItIs 136 = .ok (.iaload, 1) := by decide +kernel
theorem d10_asItIs_137 : decode c10_asItIs 137 = .ok (.putfield 231, 3) := by decide +kernel
theorem d10_asItIs_140 : decode c10_asItIs 140 = .ok (.aload_n 0, 1) := by decide +kernel
theorem d10_asItIs_141 : decode c10_asItIs 141 = .ok (.iconst (-1), 1) := by decide +kernel
theorem d10_asItIs_142 : decode c10_asItIs 142 = .ok (.putfield 234, 3) := by decide +kernel
theorem d10_asItIs_145 : decode c10_asItIs 145 = .ok (.aload_n 0, 1) := by decide +kernel
theorem d10_asItIs_146 : decode c10_asItIs 146 = .ok (.iconst 0, 1) := by decide +kernel
theorem d10_asItIs_147 : decode c10_asItIs 147 = .ok (.putfield 237, 3) := by decide +kernel
theorem d10_asItIs_150 : decode c10_asItIs 150 = .ok (.return_, 1) := by decide +kernel
def f10_asItIs (D : Mem) : Option (Mem) :=
  Option.bind (@loop (Int × Mem) (Mem) (fun s1 =>
    if w32 s1.1 < w32 8 then
      Option.bind (f10_of s1.2 s1.1 0) fun (a1 : Int) =>
      if 0 ≤ s1.1 ∧ s1.1 < 8 then
        Option.bind (some (mset s1.2 124 s1.1.toNat a1)) fun (D1 : Mem) =>
        Option.bind (f10_of D1 s1.1 1) fun (a2 : Int) =>
        Option.bind (some (mset D1 125 s1.1.toNat a2)) fun (D2 : Mem) =>
        Option.bind (some (mset D2 126 s1.1.toNat 0)) fun (D3 : Mem) =>
        some (Sum.inl ((s1.1 + 1), (mset D3 127 s1.1.toNat 0)))
      else none
    else
      some (Sum.inr s1.2)
  ) FU (0, D)) fun (b1 : Mem) =>
  Option.bind (@loop (Int × Mem) (Mem) (fun s2 =>
    if w32 s2.1 < w32 (s2.2 118 8) then
      if 0 ≤ (42 + s2.1) ∧ (42 + s2.1) < 72 then
        Option.bind (some (s2.2 118 (42 + s2.1).toNat)) fun (v1 : Int) =>
        Option.bind (
          if w32 v1 < w32 1000 then
            if 0 ≤ (div32 v1 100) ∧ (div32 v1 100) < 8 then
              some (mset s2.2 124 (div32 v1 100).toNat (rem32 v1 100))
            else none
          else
            if 0 ≤ ((div32 v1 100) - 10) ∧ ((div32 v1 100) - 10) < 8 then
              some (mset s2.2 125 ((div32 v1 100) - 10).toNat (rem32 v1 100))
            else none
        ) fun (j1 : Mem) =>
        some (Sum.inl ((s2.1 + 1), j1))
      else none
    else
      some (Sum.inr s2.2)
  ) FU (0, b1)) fun (b2 : Mem) =>
  Option.bind (some (mset b2 117 19 (b2 118 1))) fun (D4 : Mem) =>
  Option.bind (some (mset D4 117 20 (D4 118 4))) fun (D5 : Mem) =>
  Option.bind (some (mset D5 117 21 (-1))) fun (D6 : Mem) =>
  some (mset D6 117 22 0)
set_option maxHeartbeats 4000000 in
theorem ok10_asItIs {l : Launch} {X : XT} {n : Nat} {D : Mem} {Q : Option Value → Nat → Rho → Mem → Prop} (hn : 147 ≤ n)  (h : wpo (f10_asItIs D) (fun a => Q none n rt a)) : MOK l y10_asItIs c10_asItIs 3 (none) { frames := 1, cells := 0, slots := 0, locals := 22 } 0 0 X [vR X 117] n rt D Q := by
  refine MOK_of 10 (by decide +kernel) rfl (lv := [(0, vR X 117)]) (Nat.le_of_ble_eq_true rfl) rfl (fun K hK F hnm => ?_)
  subst hK
  unfold f10_asItIs at h
  refine r_iconst F (z := 0) d10_asItIs_0 ?_
  refine r_istore_n F (lv' := [(1, vI 0), (0, vR X 117)]) rfl (Nat.le_of_ble_eq_true rfl) rfl d10_asItIs_1 ?_
  refine r_weak [1, 0] rfl ?_
  refine at_loopj (A := fun (s1 : Int × Mem) => At K X (ZQ K X Q) 0 0 n rt 3 2 [(0, vR X 117), (1, vI s1.1)] [] s1.2) (B := fun (b1 : Mem) => At K X (ZQ K X Q) 0 0 n rt 3 52 [(0, vR X 117)] [] b1) h (fun b1 h => ?_) (fun s1 h => ?_)
  · refine r_iconst F (z := 0) d10_asItIs_52 ?_
    refine r_istore_n F (lv' := [(1, vI 0), (0, vR X 117)]) rfl (Nat.le_of_ble_eq_true rfl) rfl d10_asItIs_53 ?_
    refine r_weak [1, 0] rfl ?_
    refine at_loopj (A := fun (s2 : Int × Mem) => At K X (ZQ K X Q) 0 0 n rt 3 54 [(0, vR X 117), (1, vI s2.1)] [] s2.2) (B := fun (b2 : Mem) => At K X (ZQ K X Q) 0 0 n rt 3 120 [(0, vR X 117)] [] b2) h (fun b2 h => ?_) (fun s2 h => ?_)
    · refine r_aload_nR F 0 rfl rfl d10_asItIs_120 ?_
      refine r_aload_nR F 0 rfl rfl d10_asItIs_121 ?_
      refine r_getR F (z := 118) lf10_9 (vc117 hn) z117_1 d10_asItIs_122 ?_
      refine r_iconst F (z := 1) d10_asItIs_125 ?_
      refine r_ialdC F (j := 1) (vc118 hn) (by decide) rfl d10_asItIs_126 ?_
      refine r_putI F lf10_228 rfl rfl (vc117 hn) d10_asItIs_127 ?_
      refine r_aload_nR F 0 rfl rfl d10_asItIs_130 ?_
      refine r_aload_nR F 0 rfl rfl d10_asItIs_131 ?_
      refine r_getR F (z := 118) lf10_9 (vc117 hn) z117_1 d10_asItIs_132 ?_
      refine r_iconst F (z := 4) d10_asItIs_135 ?_
      refine at_name (B := fun (D4 : Mem) => At K X (ZQ K X Q) 0 0 n rt 3 136 [(0, vR X 117)] [vI 4, vR X 118, vR X 117] D4) h (fun D4 h => ?_)
      refine r_ialdC F (j := 4) (vc118 hn) (by decide) rfl d10_asItIs_136 ?_
      refine r_putI F lf10_231 rfl rfl (vc117 hn) d10_asItIs_137 ?_
      refine r_aload_nR F 0 rfl rfl d10_asItIs_140 ?_
      refine r_iconst F (z := (-1)) d10_asItIs_141 ?_
      refine at_name (B := fun (D5 : Mem) => At K X (ZQ K X Q) 0 0 n rt 3 142 [(0, vR X 117)] [vI (-1), vR X 117] D5) h (fun D5 h => ?_)
      refine r_putI F lf10_234 rfl rfl (vc117 hn) d10_asItIs_142 ?_
      refine r_aload_nR F 0 rfl rfl d10_asItIs_145 ?_
      refine r_iconst F (z := 0) d10_asItIs_146 ?_
      refine at_name (B := fun (D6 : Mem) => At K X (ZQ K X Q) 0 0 n rt 3 147 [(0, vR X 117)] [vI 0, vR X 117] D6) h (fun D6 h => ?_)
      refine r_putI F lf10_237 rfl rfl (vc117 hn) d10_asItIs_147 ?_
      replace h := wpo_some h
      exact r_vret F h d10_asItIs_150
    · refine r_iload_n F 1 rfl rfl d10_asItIs_54 ?_
      refine r_aload_nR F 0 rfl rfl d10_asItIs_55 ?_
      refine r_getR F (z := 118) lf10_9 (vc117 hn) z117_1 d10_asItIs_56 ?_
      refine r_bipush F (z := 8) (by decide) d10_asItIs_59 ?_
      refine r_ialdC F (j := 8) (vc118 hn) (by decide) rfl d10_asItIs_61 ?_
      refine r_icmp_ge F (tgt := 120) d10_asItIs_62 (by decide) (fun hb => ?_) (fun hb => ?_)
      · replace h := wpo_neg h hb
        refine r_weak [0] rfl ?_
        replace h := wpo_inr h
        exact h
      · replace h := wpo_pos h hb
        refine r_aload_nR F 0 rfl rfl d10_asItIs_65 ?_
        refine r_getR F (z := 118) lf10_9 (vc117 hn) z117_1 d10_asItIs_66 ?_
        refine r_bipush F (z := 42) (by decide) d10_asItIs_69 ?_
        refine r_iload_n F 1 rfl rfl d10_asItIs_71 ?_
        refine r_iadd F d10_asItIs_72 ?_
        obtain ⟨hx2, h⟩ := wpo_chk h
        refine r_iald F (vc118 hn) hx2 d10_asItIs_73 ?_
        refine r_istore_n F (lv' := [(2, vI (s2.2 118 (42 + s2.1).toNat)), (0, vR X 117), (1, vI s2.1)]) rfl (Nat.le_of_ble_eq_true rfl) rfl d10_asItIs_74 ?_
        refine at_name (B := fun (v1 : Int) => At K X (ZQ K X Q) 0 0 n rt 3 75 [(2, vI v1), (0, vR X 117), (1, vI s2.1)] [] s2.2) h (fun v1 h => ?_)
        refine r_iload_n F 0 rfl rfl d10_asItIs_75 ?_
        refine r_sipush F (z := 1000) (by decide) d10_asItIs_76 ?_
        refine at_join (B := fun (j1 : Mem) => At K X (ZQ K X Q) 0 0 n rt 3 114 [(0, vR X 117), (1, vI s2.1)] [] j1) h (fun j1 h => ?_) (fun h => ?_)
        · refine r_iinc F 1 (lv' := [(1, vI (s2.1 + 1)), (0, vR X 117)]) rfl (Nat.le_of_ble_eq_true rfl) rfl d10_asItIs_114 ?_
          refine r_goto F (tgt := 54) (by decide) d10_asItIs_117 ?_
          refine r_weak [1, 0] rfl ?_
          replace h := wpo_inl h
          exact h
        · refine r_icmp_ge F (tgt := 98) d10_asItIs_79 (by decide) (fun hb => ?_) (fun hb => ?_)
          · replace h := wpo_neg h hb
            refine r_aload_nR F 1 rfl rfl d10_asItIs_98 ?_
            refine r_getR F (z := 125) lf10_37 (vc117 hn) z117_16 d10_asItIs_99 ?_
            refine r_iload_n F 0 rfl rfl d10_asItIs_102 ?_
            refine r_bipush F (z := 100) (by decide) d10_asItIs_103 ?_
            refine r_idiv F (by decide +kernel) d10_asItIs_105 ?_
            refine r_bipush F (z := 10) (by decide) d10_asItIs_106 ?_
            refine r_isub F d10_asItIs_108 ?_
            refine r_iload_n F 0 rfl rfl d10_asItIs_109 ?_
            refine r_bipush F (z := 100) (by decide) d10_asItIs_110 ?_
            refine r_irem F (by decide +kernel) d10_asItIs_112 ?_
            obtain ⟨hx3, h⟩ := wpo_chk h
            refine r_iast F (vc125 hn) hx3 d10_asItIs_113 ?_
            refine r_weak [1, 2] rfl ?_
            replace h := wpo_some h
            exact h
          · replace h := wpo_pos h hb
            refine r_aload_nR F 1 rfl rfl d10_asItIs_82 ?_
            refine r_getR F (z := 124) lf10_34 (vc117 hn) z117_15 d10_asItIs_83 ?_
            refine r_iload_n F 0 rfl rfl d10_asItIs_86 ?_
            refine r_bipush F (z := 100) (by decide) d10_asItIs_87 ?_
            refine r_idiv F (by decide +kernel) d10_asItIs_89 ?_
            refine r_iload_n F 0 rfl rfl d10_asItIs_90 ?_
            refine r_bipush F (z := 100) (by decide) d10_asItIs_91 ?_
            refine r_irem F (by decide +kernel) d10_asItIs_93 ?_
            obtain ⟨hx4, h⟩ := wpo_chk h
            refine r_iast F (vc124 hn) hx4 d10_asItIs_94 ?_
            refine r_goto F (tgt := 114) (by decide) d10_asItIs_95 ?_
            refine r_weak [1, 2] rfl ?_
            replace h := wpo_some h
            exact h
  · refine r_iload_n F 1 rfl rfl d10_asItIs_2 ?_
    refine r_bipush F (z := 8) (by decide) d10_asItIs_3 ?_
    refine r_icmp_ge F (tgt := 52) d10_asItIs_5 (by decide) (fun hb => ?_) (fun hb => ?_)
    · replace h := wpo_neg h hb
      refine r_weak [0] rfl ?_
      replace h := wpo_inr h
      exact h
    · replace h := wpo_pos h hb
      refine r_aload_nR F 0 rfl rfl d10_asItIs_8 ?_
      refine r_getR F (z := 124) lf10_34 (vc117 hn) z117_15 d10_asItIs_9 ?_
      refine r_iload_n F 1 rfl rfl d10_asItIs_12 ?_
      refine r_aload_nR F 0 rfl rfl d10_asItIs_13 ?_
      refine r_iload_n F 1 rfl rfl d10_asItIs_14 ?_
      refine r_iconst F (z := 0) d10_asItIs_15 ?_
      replace h := wpo_bind h
      refine r_callV0 F lm10_225 mf10_of (vc117 hn) rfl (fr := 0) (lo := 0) (As := [vI s1.1, vI 0]) (rest := [vI s1.1, vR X 124]) ⟨Nat.le_of_ble_eq_true rfl, Nat.le_of_ble_eq_true rfl⟩ rfl (Nat.le_of_ble_eq_true rfl) ⟨Nat.zero_le _, Nat.zero_le _⟩ d10_asItIs_16 ?_
      refine ok10_of hn  (kI h (fun a1 h => ?_))
      obtain ⟨hx1, h⟩ := wpo_chk h
      refine r_iast F (vc124 hn) hx1 d10_asItIs_19 ?_
      refine r_aload_nR F 0 rfl rfl d10_asItIs_20 ?_
      refine r_getR F (z := 125) lf10_37 (vc117 hn) z117_16 d10_asItIs_21 ?_
      refine r_iload_n F 1 rfl rfl d10_asItIs_24 ?_
      refine r_aload_nR F 0 rfl rfl d10_asItIs_25 ?_
      refine r_iload_n F 1 rfl rfl d10_asItIs_26 ?_
      refine r_iconst F (z := 1) d10_asItIs_27 ?_
      refine at_name (B := fun (D1 : Mem) => At K X (ZQ K X Q) 0 0 n rt 3 28 [(0, vR X 117), (1, vI s1.1)] [vI 1, vI s1.1, vR X 117, vI s1.1, vR X 125] D1) h (fun D1 h => ?_)
      replace h := wpo_bind h
      refine r_callV0 F lm10_225 mf10_of (vc117 hn) rfl (fr := 0) (lo := 0) (As := [vI s1.1, vI 1]) (rest := [vI s1.1, vR X 125]) ⟨Nat.le_of_ble_eq_true rfl, Nat.le_of_ble_eq_true rfl⟩ rfl (Nat.le_of_ble_eq_true rfl) ⟨Nat.zero_le _, Nat.zero_le _⟩ d10_asItIs_28 ?_
      refine ok10_of hn  (kI h (fun a2 h => ?_))
      refine r_iast F (vc125 hn) hx1 d10_asItIs_31 ?_
      refine r_aload_nR F 0 rfl rfl d10_asItIs_32 ?_
      refine r_getR F (z := 126) lf10_40 (vc117 hn) z117_17 d10_asItIs_33 ?_
      refine r_iload_n F 1 rfl rfl d10_asItIs_36 ?_
      refine r_iconst F (z := 0) d10_asItIs_37 ?_
      refine at_name (B := fun (D2 : Mem) => At K X (ZQ K X Q) 0 0 n rt 3 38 [(0, vR X 117), (1, vI s1.1)] [vI 0, vI s1.1, vR X 126] D2) h (fun D2 h => ?_)
      refine r_iast F (vc126 hn) hx1 d10_asItIs_38 ?_
      refine r_aload_nR F 0 rfl rfl d10_asItIs_39 ?_
      refine r_getR F (z := 127) lf10_43 (vc117 hn) z117_18 d10_asItIs_40 ?_
      refine r_iload_n F 1 rfl rfl d10_asItIs_43 ?_
      refine r_iconst F (z := 0) d10_asItIs_44 ?_
      refine at_name (B := fun (D3 : Mem) => At K X (ZQ K X Q) 0 0 n rt 3 45 [(0, vR X 117), (1, vI s1.1)] [vI 0, vI s1.1, vR X 127] D3) h (fun D3 h => ?_)
      refine r_iast F (vc127 hn) hx1 d10_asItIs_45 ?_
      refine r_iinc F 1 (lv' := [(1, vI (s1.1 + 1)), (0, vR X 117)]) rfl (Nat.le_of_ble_eq_true rfl) rfl d10_asItIs_46 ?_
      refine r_goto F (tgt := 2) (by decide) d10_asItIs_49 ?_
      refine r_weak [1, 0] rfl ?_
      replace h := wpo_inl h
      exact h
theorem d10_nights_0 : decode c10_nights 0 = .ok (.aload_n 0, 1) := by decide +kernel
theorem d10_nights_1 : decode c10_nights 1 = .ok (.getfield 9, 3) := by decide +kernel
theorem d10_nights_4 : decode c10_nights 4 = .ok (.iconst 0, 1) := by decide +kernel
theorem d10_nights_5 : decode c10_nights 5 = .ok (.iaload, 1) := by decide +kernel
theorem d10_nights_6 : decode c10_nights 6 = .ok (.ireturn, 1) := by decide +kernel
def f10_nights (D : Mem) : Option (Int) :=
  some (D 118 0)
set_option maxHeartbeats 4000000 in
theorem ok10_nights {l : Launch} {X : XT} {n : Nat} {D : Mem} {Q : Option Value → Nat → Rho → Mem → Prop} (hn : 147 ≤ n)  (h : wpo (f10_nights D) (fun a => Q (some (vI a)) n rt D)) : MOK l y10_nights c10_nights 1 (some .int) { frames := 0, cells := 0, slots := 0, locals := 0 } 0 0 X [vR X 117] n rt D Q := by
  refine MOK_of 10 (by decide +kernel) rfl (lv := [(0, vR X 117)]) (Nat.le_of_ble_eq_true rfl) rfl (fun K hK F hnm => ?_)
  subst hK
  unfold f10_nights at h
  refine r_aload_nR F 0 rfl rfl d10_nights_0 ?_
  refine r_getR F (z := 118) lf10_9 (vc117 hn) z117_1 d10_nights_1 ?_
  refine r_iconst F (z := 0) d10_nights_4 ?_
  refine r_ialdC F (j := 0) (vc118 hn) (by decide) rfl d10_nights_5 ?_
  replace h := wpo_some h
  exact r_iret F h d10_nights_6
theorem d10_costOf_0 : decode c10_costOf 0 = .ok (.aload_n 0, 1) := by decide +kernel
theorem d10_costOf_1 : decode c10_costOf 1 = .ok (.getfield 34, 3) := by decide +kernel
theorem d10_costOf_4 : decode c10_costOf 4 = .ok (.iload_n 1, 1) := by decide +kernel
theorem d10_costOf_5 : decode c10_costOf 5 = .ok (.iaload, 1) := by decide +kernel
theorem d10_costOf_6 : decode c10_costOf 6 = .ok (.aload_n 0, 1) := by decide +kernel
theorem d10_costOf_7 : decode c10_costOf 7 = .ok (.iload_n 1, 1) := by decide +kernel
theorem d10_costOf_8 : decode c10_costOf 8 = .ok (.iconst 2, 1) := by decide +kernel
theorem d10_costOf_9 : decode c10_costOf 9 = .ok (.invokevirtual 225, 3) := by decide +kernel
theorem d10_costOf_12 : decode c10_costOf 12 = .ok (.imul, 1) := by decide +kernel
theorem d10_costOf_13 : decode c10_costOf 13 = .ok (.ireturn, 1) := by decide +kernel
def f10_costOf (D : Mem) (p0 : Int) : Option (Int) :=
  if 0 ≤ p0 ∧ p0 < 8 then
    Option.bind (f10_of D p0 2) fun (a1 : Int) =>
    some ((D 124 p0.toNat) * a1)
  else none
set_option maxHeartbeats 4000000 in
theorem ok10_costOf {l : Launch} {X : XT} {n : Nat} {D : Mem} {Q : Option Value → Nat → Rho → Mem → Prop} (hn : 147 ≤ n) {p0 : Int}  (h : wpo (f10_costOf D p0) (fun a => Q (some (vI a)) n rt D)) : MOK l y10_costOf c10_costOf 2 (some .int) { frames := 1, cells := 0, slots := 0, locals := 22 } 0 0 X [vR X 117, vI p0] n rt D Q := by
  refine MOK_of 10 (by decide +kernel) rfl (lv := [(0, vR X 117), (1, vI p0)]) (Nat.le_of_ble_eq_true rfl) rfl (fun K hK F hnm => ?_)
  subst hK
  unfold f10_costOf at h
  refine r_aload_nR F 0 rfl rfl d10_costOf_0 ?_
  refine r_getR F (z := 124) lf10_34 (vc117 hn) z117_15 d10_costOf_1 ?_
  refine r_iload_n F 1 rfl rfl d10_costOf_4 ?_
  obtain ⟨hx1, h⟩ := wpo_chk h
  refine r_iald F (vc124 hn) hx1 d10_costOf_5 ?_
  refine r_aload_nR F 0 rfl rfl d10_costOf_6 ?_
  refine r_iload_n F 1 rfl rfl d10_costOf_7 ?_
  refine r_iconst F (z := 2) d10_costOf_8 ?_
  replace h := wpo_bind h
  refine r_callV0 F lm10_225 mf10_of (vc117 hn) rfl (fr := 0) (lo := 0) (As := [vI p0, vI 2]) (rest := [vI (D 124 p0.toNat)]) ⟨Nat.le_of_ble_eq_true rfl, Nat.le_of_ble_eq_true rfl⟩ rfl (Nat.le_of_ble_eq_true rfl) ⟨Nat.zero_le _, Nat.zero_le _⟩ d10_costOf_9 ?_
  refine ok10_of hn  (kI h (fun a1 h => ?_))
  refine r_imul F d10_costOf_12 ?_
  replace h := wpo_some h
  exact r_iret F h d10_costOf_13
theorem d10_hasAche_0 : decode c10_hasAche 0 = .ok (.iload_n 1, 1) := by decide +kernel
theorem d10_hasAche_1 : decode c10_hasAche 1 = .ok (.aload_n 0, 1) := by decide +kernel
theorem d10_hasAche_2 : decode c10_hasAche 2 = .ok (.getfield 234, 3) := by decide +kernel
theorem d10_hasAche_5 : decode c10_hasAche 5 = .ok (.if_icmp .eq 37, 3) := by decide +kernel
theorem d10_hasAche_8 : decode c10_hasAche 8 = .ok (.aload_n 0, 1) := by decide +kernel
theorem d10_hasAche_9 : decode c10_hasAche 9 = .ok (.getfield 37, 3) := by decide +kernel
theorem d10_hasAche_12 : decode c10_hasAche 12 = .ok (.iload_n 1, 1) := by decide +kernel
theorem d10_hasAche_13 : decode c10_hasAche 13 = .ok (.iaload, 1) := by decide +kernel
theorem d10_hasAche_14 : decode c10_hasAche 14 = .ok (.iload_n 2, 1) := by decide +kernel
theorem d10_hasAche_15 : decode c10_hasAche 15 = .ok (.if_icmp .gt 27, 3) := by decide +kernel
theorem d10_hasAche_18 : decode c10_hasAche 18 = .ok (.aload_n 0, 1) := by decide +kernel
theorem d10_hasAche_19 : decode c10_hasAche 19 = .ok (.getfield 46, 3) := by decide +kernel
theorem d10_hasAche_22 : decode c10_hasAche 22 = .ok (.iload_n 1, 1) := by decide +kernel
theorem d10_hasAche_23 : decode c10_hasAche 23 = .ok (.iaload, 1) := by decide +kernel
theorem d10_hasAche_24 : decode c10_hasAche 24 = .ok (.iconst (-1), 1) := by decide +kernel
theorem d10_hasAche_25 : decode c10_hasAche 25 = .ok (.if_icmp .eq 13, 3) := by decide +kernel
theorem d10_hasAche_28 : decode c10_hasAche 28 = .ok (.aload_n 0, 1) := by decide +kernel
theorem d10_hasAche_29 : decode c10_hasAche 29 = .ok (.getfield 46, 3) := by decide +kernel
theorem d10_hasAche_32 : decode c10_hasAche 32 = .ok (.iload_n 1, 1) := by decide +kernel
theorem d10_hasAche_33 : decode c10_hasAche 33 = .ok (.iaload, 1) := by decide +kernel
theorem d10_hasAche_34 : decode c10_hasAche 34 = .ok (.iload_n 2, 1) := by decide +kernel
theorem d10_hasAche_35 : decode c10_hasAche 35 = .ok (.if_icmp .le 7, 3) := by decide +kernel
theorem d10_hasAche_38 : decode c10_hasAche 38 = .ok (.iconst 1, 1) := by decide +kernel
theorem d10_hasAche_39 : decode c10_hasAche 39 = .ok (.goto 4, 3) := by decide +kernel
theorem d10_hasAche_42 : decode c10_hasAche 42 = .ok (.iconst 0, 1) := by decide +kernel
theorem d10_hasAche_43 : decode c10_hasAche 43 = .ok (.ireturn, 1) := by decide +kernel
def f10_hasAche (D : Mem) (p0 : Int) (p1 : Int) : Option (Int) :=
  if w32 p0 = w32 (D 117 21) then
    some 0
  else
    if 0 ≤ p0 ∧ p0 < 8 then
      if w32 p1 < w32 (D 125 p0.toNat) then
        some 0
      else
        if w32 (D 128 p0.toNat) = w32 (-1) then
          some 1
        else
          if w32 p1 < w32 (D 128 p0.toNat) then
            some 1
          else
            some 0
    else none
set_option maxHeartbeats 4000000 in
theorem ok10_hasAche {l : Launch} {X : XT} {n : Nat} {D : Mem} {Q : Option Value → Nat → Rho → Mem → Prop} (hn : 147 ≤ n) {p0 : Int} {p1 : Int}  (h : wpo (f10_hasAche D p0 p1) (fun a => Q (some (vI a)) n rt D)) : MOK l y10_hasAche c10_hasAche 3 (some .boolean) { frames := 0, cells := 0, slots := 0, locals := 0 } 0 0 X [vR X 117, vI p0, vI p1] n rt D Q := by
  refine MOK_of 10 (by decide +kernel) rfl (lv := [(0, vR X 117), (1, vI p0), (2, vI p1)]) (Nat.le_of_ble_eq_true rfl) rfl (fun K hK F hnm => ?_)
  subst hK
  unfold f10_hasAche at h
  refine r_iload_n F 1 rfl rfl d10_hasAche_0 ?_
  refine r_aload_nR F 0 rfl rfl d10_hasAche_1 ?_
  refine r_getI F lf10_234 (vc117 hn) d10_hasAche_2 ?_
  refine r_icmp_eq F (tgt := 42) d10_hasAche_5 (by decide) (fun hb => ?_) (fun hb => ?_)
  · replace h := wpo_pos h hb
    refine r_iconst F (z := 0) d10_hasAche_42 ?_
    replace h := wpo_some h
    exact r_zret F (Or.inl rfl) h d10_hasAche_43
  · replace h := wpo_neg h hb
    refine r_aload_nR F 0 rfl rfl d10_hasAche_8 ?_
    refine r_getR F (z := 125) lf10_37 (vc117 hn) z117_16 d10_hasAche_9 ?_
    refine r_iload_n F 1 rfl rfl d10_hasAche_12 ?_
    obtain ⟨hx1, h⟩ := wpo_chk h
    refine r_iald F (vc125 hn) hx1 d10_hasAche_13 ?_
    refine r_iload_n F 2 rfl rfl d10_hasAche_14 ?_
    refine r_icmp_gt F (tgt := 42) d10_hasAche_15 (by decide) (fun hb => ?_) (fun hb => ?_)
    · replace h := wpo_pos h hb
      refine r_iconst F (z := 0) d10_hasAche_42 ?_
      replace h := wpo_some h
      exact r_zret F (Or.inl rfl) h d10_hasAche_43
    · replace h := wpo_neg h hb
      refine r_aload_nR F 0 rfl rfl d10_hasAche_18 ?_
      refine r_getR F (z := 128) lf10_46 (vc117 hn) z117_23 d10_hasAche_19 ?_
      refine r_iload_n F 1 rfl rfl d10_hasAche_22 ?_
      refine r_iald F (vc128 hn) hx1 d10_hasAche_23 ?_
      refine r_iconst F (z := (-1)) d10_hasAche_24 ?_
      refine r_icmp_eq F (tgt := 38) d10_hasAche_25 (by decide) (fun hb => ?_) (fun hb => ?_)
      · replace h := wpo_pos h hb
        refine r_iconst F (z := 1) d10_hasAche_38 ?_
        refine r_goto F (tgt := 43) (by decide) d10_hasAche_39 ?_
        replace h := wpo_some h
        exact r_zret F (Or.inr rfl) h d10_hasAche_43
      · replace h := wpo_neg h hb
        refine r_aload_nR F 0 rfl rfl d10_hasAche_28 ?_
        refine r_getR F (z := 128) lf10_46 (vc117 hn) z117_23 d10_hasAche_29 ?_
        refine r_iload_n F 1 rfl rfl d10_hasAche_32 ?_
        refine r_iald F (vc128 hn) hx1 d10_hasAche_33 ?_
        refine r_iload_n F 2 rfl rfl d10_hasAche_34 ?_
        refine r_icmp_le F (tgt := 42) d10_hasAche_35 (by decide) (fun hb => ?_) (fun hb => ?_)
        · replace h := wpo_neg h hb
          refine r_iconst F (z := 0) d10_hasAche_42 ?_
          replace h := wpo_some h
          exact r_zret F (Or.inl rfl) h d10_hasAche_43
        · replace h := wpo_pos h hb
          refine r_iconst F (z := 1) d10_hasAche_38 ?_
          refine r_goto F (tgt := 43) (by decide) d10_hasAche_39 ?_
          replace h := wpo_some h
          exact r_zret F (Or.inr rfl) h d10_hasAche_43
theorem d10_keyOf_0 : decode c10_keyOf 0 = .ok (.aload_n 0, 1) := by decide +kernel
theorem d10_keyOf_1 : decode c10_keyOf 1 = .ok (.getfield 34, 3) := by decide +kernel
theorem d10_keyOf_4 : decode c10_keyOf 4 = .ok (.iload_n 1, 1) := by decide +kernel
theorem d10_keyOf_5 : decode c10_keyOf 5 = .ok (.iaload, 1) := by decide +kernel
theorem d10_keyOf_6 : decode c10_keyOf 6 = .ok (.aload_n 0, 1) := by decide +kernel
theorem d10_keyOf_7 : decode c10_keyOf 7 = .ok (.getfield 40, 3) := by decide +kernel
theorem d10_keyOf_10 : decode c10_keyOf 10 = .ok (.iload_n 1, 1) := by decide +kernel
theorem d10_keyOf_11 : decode c10_keyOf 11 = .ok (.iaload, 1) := by decide +kernel
theorem d10_keyOf_12 : decode c10_keyOf 12 = .ok (.iadd, 1) := by decide +kernel
theorem d10_keyOf_13 : decode c10_keyOf 13 = .ok (.istore_n 2, 1) := by decide +kernel
theorem d10_keyOf_14 : decode c10_keyOf 14 = .ok (.aload_n 0, 1) := by decide +kernel
theorem d10_keyOf_15 : decode c10_keyOf 15 = .ok (.getfield 231, 3) := by decide +kernel
theorem d10_keyOf_18 : decode c10_keyOf 18 = .ok (.iconst 1, 1) := by decide +kernel
theorem d10_keyOf_19 : decode c10_keyOf 19 = .ok (.if_icmp .ne 10, 3) := by decide +kernel
theorem d10_keyOf_22 : decode c10_keyOf 22 = .ok (.bipush 100, 2) := by decide +kernel
theorem d10_keyOf_24 : decode c10_keyOf 24 = .ok (.iload_n 2, 1) := by decide +kernel
theorem d10_keyOf_25 : decode c10_keyOf 25 = .ok (.isub, 1) := by decide +kernel
theorem d10_keyOf_26 : decode c10_keyOf 26 = .ok (.goto 33, 3) := by decide +kernel
theorem d10_keyOf_29 : decode c10_keyOf 29 = .ok (.aload_n 0, 1) := by decide +kernel
theorem d10_keyOf_30 : decode c10_keyOf 30 = .ok (.getfield 231, 3) := by decide +kernel
theorem d10_keyOf_33 : decode c10_keyOf 33 = .ok (.iconst 2, 1) := by decide +kernel
theorem d10_keyOf_34 : decode c10_keyOf 34 = .ok (.if_icmp .ne 7, 3) := by decide +kernel
theorem d10_keyOf_37 : decode c10_keyOf 37 = .ok (.iload_n 2, 1) := by decide +kernel
theorem d10_keyOf_38 : decode c10_keyOf 38 = .ok (.goto 21, 3) := by decide +kernel
theorem d10_keyOf_41 : decode c10_keyOf 41 = .ok (.aload_n 0, 1) := by decide +kernel
theorem d10_keyOf_42 : decode c10_keyOf 42 = .ok (.getfield 231, 3) := by decide +kernel
theorem d10_keyOf_45 : decode c10_keyOf 45 = .ok (.iconst 3, 1) := by decide +kernel
theorem d10_keyOf_46 : decode c10_keyOf 46 = .ok (.if_icmp .ne 12, 3) := by decide +kernel
theorem d10_keyOf_49 : decode c10_keyOf 49 = .ok (.aload_n 0, 1) := by decide +kernel
theorem d10_keyOf_50 : decode c10_keyOf 50 = .ok (.getfield 37, 3) := by decide +kernel
theorem d10_keyOf_53 : decode c10_keyOf 53 = .ok (.iload_n 1, 1) := by decide +kernel
theorem d10_keyOf_54 : decode c10_keyOf 54 = .ok (.iaload, 1) := by decide +kernel
theorem d10_keyOf_55 : decode c10_keyOf 55 = .ok (.goto 4, 3) := by decide +kernel
theorem d10_keyOf_58 : decode c10_keyOf 58 = .ok (.iconst 0, 1) := by decide +kernel
theorem d10_keyOf_59 : decode c10_keyOf 59 = .ok (.istore_n 3, 1) := by decide +kernel
theorem d10_keyOf_60 : decode c10_keyOf 60 = .ok (.bipush 10, 2) := by decide +kernel
theorem d10_keyOf_62 : decode c10_keyOf 62 = .ok (.iload_n 3, 1) := by decide +kernel
theorem d10_keyOf_63 : decode c10_keyOf 63 = .ok (.imul, 1) := by decide +kernel
theorem d10_keyOf_64 : decode c10_keyOf 64 = .ok (.iload_n 1, 1) := by decide +kernel
theorem d10_keyOf_65 : decode c10_keyOf 65 = .ok (.iadd, 1) := by decide +kernel
theorem d10_keyOf_66 : decode c10_keyOf 66 = .ok (.ireturn, 1) := by decide +kernel
def f10_keyOf (D : Mem) (p0 : Int) : Option (Int) :=
  if 0 ≤ p0 ∧ p0 < 8 then
    Option.bind (some ((D 124 p0.toNat) + (D 126 p0.toNat))) fun (v1 : Int) =>
    Option.bind (
      if w32 (D 117 20) = w32 1 then
        some (100 - v1)
      else
        if w32 (D 117 20) = w32 2 then
          some v1
        else
          if w32 (D 117 20) = w32 3 then
            some (D 125 p0.toNat)
          else
            some 0
    ) fun (j1 : Int) =>
    some ((10 * j1) + p0)
  else none
set_option maxHeartbeats 4000000 in
theorem ok10_keyOf {l : Launch} {X : XT} {n : Nat} {D : Mem} {Q : Option Value → Nat → Rho → Mem → Prop} (hn : 147 ≤ n) {p0 : Int}  (h : wpo (f10_keyOf D p0) (fun a => Q (some (vI a)) n rt D)) : MOK l y10_keyOf c10_keyOf 4 (some .int) { frames := 0, cells := 0, slots := 0, locals := 0 } 0 0 X [vR X 117, vI p0] n rt D Q := by
  refine MOK_of 10 (by decide +kernel) rfl (lv := [(0, vR X 117), (1, vI p0)]) (Nat.le_of_ble_eq_true rfl) rfl (fun K hK F hnm => ?_)
  subst hK
  unfold f10_keyOf at h
  refine r_aload_nR F 0 rfl rfl d10_keyOf_0 ?_
  refine r_getR F (z := 124) lf10_34 (vc117 hn) z117_15 d10_keyOf_1 ?_
  refine r_iload_n F 1 rfl rfl d10_keyOf_4 ?_
  obtain ⟨hx1, h⟩ := wpo_chk h
  refine r_iald F (vc124 hn) hx1 d10_keyOf_5 ?_
  refine r_aload_nR F 0 rfl rfl d10_keyOf_6 ?_
  refine r_getR F (z := 126) lf10_40 (vc117 hn) z117_17 d10_keyOf_7 ?_
  refine r_iload_n F 1 rfl rfl d10_keyOf_10 ?_
  refine r_iald F (vc126 hn) hx1 d10_keyOf_11 ?_
  refine r_iadd F d10_keyOf_12 ?_
  refine r_istore_n F (lv' := [(2, vI ((D 124 p0.toNat) + (D 126 p0.toNat))), (0, vR X 117), (1, vI p0)]) rfl (Nat.le_of_ble_eq_true rfl) rfl d10_keyOf_13 ?_
  refine at_name (B := fun (v1 : Int) => At K X (ZQ K X Q) 0 0 n rt 4 14 [(2, vI v1), (0, vR X 117), (1, vI p0)] [] D) h (fun v1 h => ?_)
  refine r_aload_nR F 1 rfl rfl d10_keyOf_14 ?_
  refine r_getI F lf10_231 (vc117 hn) d10_keyOf_15 ?_
  refine r_iconst F (z := 1) d10_keyOf_18 ?_
  refine at_join (B := fun (j1 : Int) => At K X (ZQ K X Q) 0 0 n rt 4 59 [(1, vI p0)] [vI j1] D) h (fun j1 h => ?_) (fun h => ?_)
  · refine r_istore_n F (lv' := [(3, vI j1), (1, vI p0)]) rfl (Nat.le_of_ble_eq_true rfl) rfl d10_keyOf_59 ?_
    refine r_bipush F (z := 10) (by decide) d10_keyOf_60 ?_
    refine r_iload_n F 0 rfl rfl d10_keyOf_62 ?_
    refine r_imul F d10_keyOf_63 ?_
    refine r_iload_n F 1 rfl rfl d10_keyOf_64 ?_
    refine r_iadd F d10_keyOf_65 ?_
    replace h := wpo_some h
    exact r_iret F h d10_keyOf_66
  · refine r_icmp_ne F (tgt := 29) d10_keyOf_19 (by decide) (fun hb => ?_) (fun hb => ?_)
    · replace h := wpo_neg h hb
      refine r_aload_nR F 1 rfl rfl d10_keyOf_29 ?_
      refine r_getI F lf10_231 (vc117 hn) d10_keyOf_30 ?_
      refine r_iconst F (z := 2) d10_keyOf_33 ?_
      refine r_icmp_ne F (tgt := 41) d10_keyOf_34 (by decide) (fun hb => ?_) (fun hb => ?_)
      · replace h := wpo_neg h hb
        refine r_aload_nR F 1 rfl rfl d10_keyOf_41 ?_
        refine r_getI F lf10_231 (vc117 hn) d10_keyOf_42 ?_
        refine r_iconst F (z := 3) d10_keyOf_45 ?_
        refine r_icmp_ne F (tgt := 58) d10_keyOf_46 (by decide) (fun hb => ?_) (fun hb => ?_)
        · replace h := wpo_neg h hb
          refine r_iconst F (z := 0) d10_keyOf_58 ?_
          refine r_weak [2] rfl ?_
          replace h := wpo_some h
          exact h
        · replace h := wpo_pos h hb
          refine r_aload_nR F 1 rfl rfl d10_keyOf_49 ?_
          refine r_getR F (z := 125) lf10_37 (vc117 hn) z117_16 d10_keyOf_50 ?_
          refine r_iload_n F 2 rfl rfl d10_keyOf_53 ?_
          refine r_iald F (vc125 hn) hx1 d10_keyOf_54 ?_
          refine r_goto F (tgt := 59) (by decide) d10_keyOf_55 ?_
          refine r_weak [2] rfl ?_
          replace h := wpo_some h
          exact h
      · replace h := wpo_pos h hb
        refine r_iload_n F 0 rfl rfl d10_keyOf_37 ?_
        refine r_goto F (tgt := 59) (by decide) d10_keyOf_38 ?_
        refine r_weak [2] rfl ?_
        replace h := wpo_some h
        exact h
    · replace h := wpo_pos h hb
      refine r_bipush F (z := 100) (by decide) d10_keyOf_22 ?_
      refine r_iload_n F 0 rfl rfl d10_keyOf_24 ?_
      refine r_isub F d10_keyOf_25 ?_
      refine r_goto F (tgt := 59) (by decide) d10_keyOf_26 ?_
      refine r_weak [2] rfl ?_
      replace h := wpo_some h
      exact h
theorem d10_nextOf_0 : decode c10_nextOf 0 = .ok (.iconst (-1), 1) := by decide +kernel
theorem d10_nextOf_1 : decode c10_nextOf 1 = .ok (.istore_n 2, 1) := by decide +kernel
theorem d10_nextOf_2 : decode c10_nextOf 2 = .ok (.iconst 0, 1) := by decide +kernel
theorem d10_nextOf_3 : decode c10_nextOf 3 = .ok (.istore_n 3, 1) := by decide +kernel
theorem d10_nextOf_4 : decode c10_nextOf 4 = .ok (.iload_n 3, 1) := by decide +kernel
theorem d10_nextOf_5 : decode c10_nextOf 5 = .ok (.aload_n 0, 1) := by decide +kernel
theorem d10_nextOf_6 : decode c10_nextOf 6 = .ok (.getfield 9, 3) := by decide +kernel
theorem d10_nextOf_9 : decode c10_nextOf 9 = .ok (.bipush 7, 2) := by decide +kernel
theorem d10_nextOf_11 : decode c10_nextOf 11 = .ok (.iaload, 1) := by decide +kernel
theorem d10_nextOf_12 : decode c10_nextOf 12 = .ok (.if_icmp .ge 38, 3) := by decide +kernel
theorem d10_nextOf_15 : decode c10_nextOf 15 = .ok (.iload_n 1, 1) := by decide +kernel
theorem d10_nextOf_16 : decode c10_nextOf 16 = .ok (.iload_n 3, 1) := by decide +kernel
theorem d10_nextOf_17 : decode c10_nextOf 17 = .ok (.invokestatic 240, 3) := by decide +kernel
theorem d10_nextOf_20 : decode c10_nextOf 20 = .ok (.iconst 1, 1) := by decide +kernel
theorem d10_nextOf_21 : decode c10_nextOf 21 = .ok (.if_icmp .ne 23, 3) := by decide +kernel
theorem d10_nextOf_24 : decode c10_nextOf 24 = .ok (.iload_n 2, 1) := by decide +kernel
theorem d10_nextOf_25 : decode c10_nextOf 25 = .ok (.iconst (-1), 1) := by decide +kernel
theorem d10_nextOf_26 : decode c10_nextOf 26 = .ok (.if_icmp .eq 16, 3) := by decide +kernel
theorem d10_nextOf_29 : decode c10_nextOf 29 = .ok (.aload_n 0, 1) := by decide +kernel
theorem d10_nextOf_30 : decode c10_nextOf 30 = .ok (.iload_n 3, 1) := by decide +kernel
theorem d10_nextOf_31 : decode c10_nextOf 31 = .ok (.invokevirtual 243, 3) := by decide +kernel
theorem d10_nextOf_34 : decode c10_nextOf 34 = .ok (.aload_n 0, 1) := by decide +kernel
theorem d10_nextOf_35 : decode c10_nextOf 35 = .ok (.iload_n 2, 1) := by decide +kernel
theorem d10_nextOf_36 : decode c10_nextOf 36 = .ok (.invokevirtual 243, 3) := by decide +kernel
theorem d10_nextOf_39 : decode c10_nextOf 39 = .ok (.if_icmp .ge 5, 3) := by decide +kernel
theorem d10_nextOf_42 : decode c10_nextOf 42 = .ok (.iload_n 3, 1) := by decide +kernel
theorem d10_nextOf_43 : decode c10_nextOf 43 = .ok (.istore_n 2, 1) := by decide +kernel
theorem d10_nextOf_44 : decode c10_nextOf 44 = .ok (.iinc 3 1, 3) := by decide +kernel
theorem d10_nextOf_47 : decode c10_nextOf 47 = .ok (.goto (-43), 3) := by decide +kernel
theorem d10_nextOf_50 : decode c10_nextOf 50 = .ok (.iload_n 2, 1) := by decide +kernel
theorem d10_nextOf_51 : decode c10_nextOf 51 = .ok (.ireturn, 1) := by decide +kernel
def f10_nextOf (D : Mem) (p0 : Int) : Option (Int) :=
  Option.bind (@loop (Int × Int) (Int) (fun s1 =>
    if w32 s1.2 < w32 (D 118 7) then
      Option.bind (f10_bit D p0 s1.2) fun (a1 : Int) =>
      Option.bind (
        if w32 a1 = w32 1 then
          if w32 s1.1 = w32 (-1) then
            some s1.2
          else
            Option.bind (f10_keyOf D s1.2) fun (a2 : Int) =>
            Option.bind (f10_keyOf D s1.1) fun (a3 : Int) =>
            if w32 a2 < w32 a3 then
              some s1.2
            else
              some s1.1
        else
          some s1.1
      ) fun (j1 : Int) =>
      some (Sum.inl (j1, (s1.2 + 1)))
    else
      some (Sum.inr s1.1)
  ) FU ((-1), 0)) fun (b1 : Int) =>
  some b1
set_option maxHeartbeats 4000000 in
theorem ok10_nextOf {l : Launch} {X : XT} {n : Nat} {D : Mem} {Q : Option Value → Nat → Rho → Mem → Prop} (hn : 147 ≤ n) {p0 : Int}  (h : wpo (f10_nextOf D p0) (fun a => Q (some (vI a)) n rt D)) : MOK l y10_nextOf c10_nextOf 4 (some .int) { frames := 1, cells := 0, slots := 0, locals := 23 } 0 0 X [vR X 117, vI p0] n rt D Q := by
  refine MOK_of 10 (by decide +kernel) rfl (lv := [(0, vR X 117), (1, vI p0)]) (Nat.le_of_ble_eq_true rfl) rfl (fun K hK F hnm => ?_)
  subst hK
  unfold f10_nextOf at h
  refine r_iconst F (z := (-1)) d10_nextOf_0 ?_
  refine r_istore_n F (lv' := [(2, vI (-1)), (0, vR X 117), (1, vI p0)]) rfl (Nat.le_of_ble_eq_true rfl) rfl d10_nextOf_1 ?_
  refine r_iconst F (z := 0) d10_nextOf_2 ?_
  refine r_istore_n F (lv' := [(3, vI 0), (2, vI (-1)), (0, vR X 117), (1, vI p0)]) rfl (Nat.le_of_ble_eq_true rfl) rfl d10_nextOf_3 ?_
  refine r_weak [2, 3, 1, 0] rfl ?_
  refine at_loopj (A := fun (s1 : Int × Int) => At K X (ZQ K X Q) 0 0 n rt 4 4 [(0, vR X 117), (1, vI p0), (2, vI s1.1), (3, vI s1.2)] [] D) (B := fun (b1 : Int) => At K X (ZQ K X Q) 0 0 n rt 4 50 [(2, vI b1)] [] D) h (fun b1 h => ?_) (fun s1 h => ?_)
  · refine r_iload_n F 0 rfl rfl d10_nextOf_50 ?_
    replace h := wpo_some h
    exact r_iret F h d10_nextOf_51
  · refine r_iload_n F 3 rfl rfl d10_nextOf_4 ?_
    refine r_aload_nR F 0 rfl rfl d10_nextOf_5 ?_
    refine r_getR F (z := 118) lf10_9 (vc117 hn) z117_1 d10_nextOf_6 ?_
    refine r_bipush F (z := 7) (by decide) d10_nextOf_9 ?_
    refine r_ialdC F (j := 7) (vc118 hn) (by decide) rfl d10_nextOf_11 ?_
    refine r_icmp_ge F (tgt := 50) d10_nextOf_12 (by decide) (fun hb => ?_) (fun hb => ?_)
    · replace h := wpo_neg h hb
      refine r_weak [2] rfl ?_
      replace h := wpo_inr h
      exact h
    · replace h := wpo_pos h hb
      refine r_iload_n F 1 rfl rfl d10_nextOf_15 ?_
      refine r_iload_n F 3 rfl rfl d10_nextOf_16 ?_
      replace h := wpo_bind h
      refine r_callS0 F lm10_240 mf10_bit rfl (fr := 0) (lo := 0) (As := [vI p0, vI s1.2]) (rest := []) ⟨Nat.le_of_ble_eq_true rfl, Nat.le_of_ble_eq_true rfl⟩ rfl (Nat.le_of_ble_eq_true rfl) ⟨Nat.zero_le _, Nat.zero_le _⟩ d10_nextOf_17 ?_
      refine ok10_bit hn  (kI h (fun a1 h => ?_))
      refine r_iconst F (z := 1) d10_nextOf_20 ?_
      refine at_join (B := fun (j1 : Int) => At K X (ZQ K X Q) 0 0 n rt 4 44 [(0, vR X 117), (1, vI p0), (2, vI j1), (3, vI s1.2)] [] D) h (fun j1 h => ?_) (fun h => ?_)
      · refine r_iinc F 3 (lv' := [(3, vI (s1.2 + 1)), (0, vR X 117), (1, vI p0), (2, vI j1)]) rfl (Nat.le_of_ble_eq_true rfl) rfl d10_nextOf_44 ?_
        refine r_goto F (tgt := 4) (by decide) d10_nextOf_47 ?_
        refine r_weak [1, 2, 3, 0] rfl ?_
        replace h := wpo_inl h
        exact h
      · refine r_icmp_ne F (tgt := 44) d10_nextOf_21 (by decide) (fun hb => ?_) (fun hb => ?_)
        · replace h := wpo_neg h hb
          replace h := wpo_some h
          exact h
        · replace h := wpo_pos h hb
          refine r_iload_n F 2 rfl rfl d10_nextOf_24 ?_
          refine r_iconst F (z := (-1)) d10_nextOf_25 ?_
          refine r_icmp_eq F (tgt := 42) d10_nextOf_26 (by decide) (fun hb => ?_) (fun hb => ?_)
          · replace h := wpo_pos h hb
            refine r_iload_n F 3 rfl rfl d10_nextOf_42 ?_
            refine r_istore_n F (lv' := [(2, vI s1.2), (0, vR X 117), (1, vI p0), (3, vI s1.2)]) rfl (Nat.le_of_ble_eq_true rfl) rfl d10_nextOf_43 ?_
            refine r_weak [1, 2, 0, 3] rfl ?_
            replace h := wpo_some h
            exact h
          · replace h := wpo_neg h hb
            refine r_aload_nR F 0 rfl rfl d10_nextOf_29 ?_
            refine r_iload_n F 3 rfl rfl d10_nextOf_30 ?_
            replace h := wpo_bind h
            refine r_callV0 F lm10_243 mf10_keyOf (vc117 hn) rfl (fr := 0) (lo := 0) (As := [vI s1.2]) (rest := []) ⟨Nat.le_of_ble_eq_true rfl, Nat.le_of_ble_eq_true rfl⟩ rfl (Nat.le_of_ble_eq_true rfl) ⟨Nat.zero_le _, Nat.zero_le _⟩ d10_nextOf_31 ?_
            refine ok10_keyOf hn  (kI h (fun a2 h => ?_))
            refine r_aload_nR F 0 rfl rfl d10_nextOf_34 ?_
            refine r_iload_n F 2 rfl rfl d10_nextOf_35 ?_
            replace h := wpo_bind h
            refine r_callV0 F lm10_243 mf10_keyOf (vc117 hn) rfl (fr := 0) (lo := 0) (As := [vI s1.1]) (rest := [vI a2]) ⟨Nat.le_of_ble_eq_true rfl, Nat.le_of_ble_eq_true rfl⟩ rfl (Nat.le_of_ble_eq_true rfl) ⟨Nat.zero_le _, Nat.zero_le _⟩ d10_nextOf_36 ?_
            refine ok10_keyOf hn  (kI h (fun a3 h => ?_))
            refine r_icmp_ge F (tgt := 44) d10_nextOf_39 (by decide) (fun hb => ?_) (fun hb => ?_)
            · replace h := wpo_neg h hb
              replace h := wpo_some h
              exact h
            · replace h := wpo_pos h hb
              refine r_iload_n F 3 rfl rfl d10_nextOf_42 ?_
              refine r_istore_n F (lv' := [(2, vI s1.2), (0, vR X 117), (1, vI p0), (3, vI s1.2)]) rfl (Nat.le_of_ble_eq_true rfl) rfl d10_nextOf_43 ?_
              refine r_weak [1, 2, 0, 3] rfl ?_
              replace h := wpo_some h
              exact h
theorem d10_goNight_0 : decode c10_goNight 0 = .ok (.aload_n 0, 1) := by decide +kernel
theorem d10_goNight_1 : decode c10_goNight 1 = .ok (.getfield 49, 3) := by decide +kernel
theorem d10_goNight_4 : decode c10_goNight 4 = .ok (.iload_n 1, 1) := by decide +kernel
theorem d10_goNight_5 : decode c10_goNight 5 = .ok (.aload_n 0, 1) := by decide +kernel
theorem d10_goNight_6 : decode c10_goNight 6 = .ok (.getfield 228, 3) := by decide +kernel
theorem d10_goNight_9 : decode c10_goNight 9 = .ok (.iastore, 1) := by decide +kernel
theorem d10_goNight_10 : decode c10_goNight 10 = .ok (.iconst 0, 1) := by decide +kernel
theorem d10_goNight_11 : decode c10_goNight 11 = .ok (.istore_n 3, 1) := by decide +kernel
theorem d10_goNight_12 : decode c10_goNight 12 = .ok (.iconst 0, 1) := by decide +kernel
theorem d10_goNight_13 : decode c10_goNight 13 = .ok (.istore 4, 2) := by decide +kernel
theorem d10_goNight_15 : decode c10_goNight 15 = .ok (.iload 4, 2) := by decide +kernel
theorem d10_goNight_17 : decode c10_goNight 17 = .ok (.aload_n 0, 1) := by decide +kernel
theorem d10_goNight_18 : decode c10_goNight 18 = .ok (.getfield 9, 3) := by decide +kernel
theorem d10_goNight_21 : decode c10_goNight 21 = .ok (.bipush 7, 2) := by decide +kernel
theorem d10_goNight_23 : decode c10_goNight 23 = .ok (.iaload, 1) := by decide +kernel
theorem d10_goNight_24 : decode c10_goNight 24 = .ok (.if_icmp .ge 53, 3) := by decide +kernel
theorem d10_goNight_27 : decode c10_goNight 27 = .ok (.iload_n 2, 1) := by decide +kernel
theorem d10_goNight_28 : decode c10_goNight 28 = .ok (.ifCond .eq 49, 3) := by decide +kernel
theorem d10_goNight_31 : decode c10_goNight 31 = .ok (.iload_n 3, 1) := by decide +kernel
theorem d10_goNight_32 : decode c10_goNight 32 = .ok (.aload_n 0, 1) := by decide +kernel
theorem d10_goNight_33 : decode c10_goNight 33 = .ok (.iload 4, 2) := by decide +kernel
theorem d10_goNight_35 : decode c10_goNight 35 = .ok (.iload_n 1, 1) := by decide +kernel
theorem d10_goNight_36 : decode c10_goNight 36 = .ok (.invokevirtual 246, 3) := by decide +kernel
theorem d10_goNight_39 : decode c10_goNight 39 = .ok (.ifCond .eq 29, 3) := by decide +kernel
theorem d10_goNight_42 : decode c10_goNight 42 = .ok (.iload_n 1, 1) := by decide +kernel
theorem d10_goNight_43 : decode c10_goNight 43 = .ok (.aload_n 0, 1) := by decide +kernel
theorem d10_goNight_44 : decode c10_goNight 44 = .ok (.getfield 37, 3) := by decide +kernel
theorem d10_goNight_47 : decode c10_goNight 47 = .ok (.iload 4, 2) := by decide +kernel
theorem d10_goNight_49 : decode c10_goNight 49 = .ok (.iaload, 1) := by decide +kernel
theorem d10_goNight_50 : decode c10_goNight 50 = .ok (.aload_n 0, 1) := by decide +kernel
theorem d10_goNight_51 : decode c10_goNight 51 = .ok (.getfield 43, 3) := by decide +kernel
theorem d10_goNight_54 : decode c10_goNight 54 = .ok (.iload 4, 2) := by decide +kernel
theorem d10_goNight_56 : decode c10_goNight 56 = .ok (.iaload, 1) := by decide +kernel
theorem d10_goNight_57 : decode c10_goNight 57 = .ok (.iadd, 1) := by decide +kernel
theorem d10_goNight_58 : decode c10_goNight 58 = .ok (.if_icmp .lt 10, 3) := by decide +kernel
theorem d10_goNight_61 : decode c10_goNight 61 = .ok (.iconst 1, 1) := by decide +kernel
theorem d10_goNight_62 : decode c10_goNight 62 = .ok (.iload 4, 2) := by decide +kernel
theorem d10_goNight_64 : decode c10_goNight 64 = .ok (.ishl, 1) := by decide +kernel
theorem d10_goNight_65 : decode c10_goNight 65 = .ok (.goto 4, 3) := by decide +kernel
theorem d10_goNight_68 : decode c10_goNight 68 = .ok (.iconst 0, 1) := by decide +kernel
theorem d10_goNight_69 : decode c10_goNight 69 = .ok (.ior, 1) := by decide +kernel
theorem d10_goNight_70 : decode c10_goNight 70 = .ok (.istore_n 3, 1) := by decide +kernel
theorem d10_goNight_71 : decode c10_goNight 71 = .ok (.iinc 4 1, 3) := by decide +kernel
theorem d10_goNight_74 : decode c10_goNight 74 = .ok (.goto (-59), 3) := by decide +kernel
theorem d10_goNight_77 : decode c10_goNight 77 = .ok (.iload_n 3, 1) := by decide +kernel
theorem d10_goNight_78 : decode c10_goNight 78 = .ok (.ifCond .eq 65, 3) := by decide +kernel
theorem d10_goNight_81 : decode c10_goNight 81 = .ok (.aload_n 0, 1) := by decide +kernel
theorem d10_goNight_82 : decode c10_goNight 82 = .ok (.iload_n 3, 1) := by decide +kernel
theorem d10_goNight_83 : decode c10_goNight 83 = .ok (.invokevirtual 250, 3) := by decide +kernel
theorem d10_goNight_86 : decode c10_goNight 86 = .ok (.istore 4, 2) := by decide +kernel
theorem d10_goNight_88 : decode c10_goNight 88 = .ok (.iload_n 3, 1) := by decide +kernel
theorem d10_goNight_89 : decode c10_goNight 89 = .ok (.iconst 1, 1) := by decide +kernel
theorem d10_goNight_90 : decode c10_goNight 90 = .ok (.iload 4, 2) := by decide +kernel
theorem d10_goNight_92 : decode c10_goNight 92 = .ok (.ishl, 1) := by decide +kernel
theorem d10_goNight_93 : decode c10_goNight 93 = .ok (.iconst (-1), 1) := by decide +kernel
theorem d10_goNight_94 : decode c10_goNight 94 = .ok (.ixor, 1) := by decide +kernel
theorem d10_goNight_95 : decode c10_goNight 95 = .ok (.iand, 1) := by decide +kernel
theorem d10_goNight_96 : decode c10_goNight 96 = .ok (.istore_n 3, 1) := by decide +kernel
theorem d10_goNight_97 : decode c10_goNight 97 = .ok (.aload_n 0, 1) := by decide +kernel
theorem d10_goNight_98 : decode c10_goNight 98 = .ok (.getfield 34, 3) := by decide +kernel
theorem d10_goNight_101 : decode c10_goNight 101 = .ok (.iload 4, 2) := by decide +kernel
theorem d10_goNight_103 : decode c10_goNight 103 = .ok (.iaload, 1) := by decide +kernel
theorem d10_goNight_104 : decode c10_goNight 104 = .ok (.aload_n 0, 1) := by decide +kernel
theorem d10_goNight_105 : decode c10_goNight 105 = .ok (.getfield 49, 3) := by decide +kernel
theorem d10_goNight_108 : decode c10_goNight 108 = .ok (.iload_n 1, 1) := by decide +kernel
theorem d10_goNight_109 : decode c10_goNight 109 = .ok (.iaload, 1) := by decide +kernel
theorem d10_goNight_110 : decode c10_goNight 110 = .ok (.if_icmp .le 6, 3) := by decide +kernel
theorem d10_goNight_113 : decode c10_goNight 113 = .ok (.goto (-36), 3) := by decide +kernel
theorem d10_goNight_116 : decode c10_goNight 116 = .ok (.aload_n 0, 1) := by decide +kernel
theorem d10_goNight_117 : decode c10_goNight 117 = .ok (.getfield 49, 3) := by decide +kernel
theorem d10_goNight_120 : decode c10_goNight 120 = .ok (.iload_n 1, 1) := by decide +kernel
theorem d10_goNight_121 : decode c10_goNight 121 = .ok (.dup2, 1) := by decide +kernel
theorem d10_goNight_122 : decode c10_goNight 122 = .ok (.iaload, 1) := by decide +kernel
theorem d10_goNight_123 : decode c10_goNight 123 = .ok (.aload_n 0, 1) := by decide +kernel
theorem d10_goNight_124 : decode c10_goNight 124 = .ok (.getfield 34, 3) := by decide +kernel
theorem d10_goNight_127 : decode c10_goNight 127 = .ok (.iload 4, 2) := by decide +kernel
theorem d10_goNight_129 : decode c10_goNight 129 = .ok (.iaload, 1) := by decide +kernel
theorem d10_goNight_130 : decode c10_goNight 130 = .ok (.isub, 1) := by decide +kernel
theorem d10_goNight_131 : decode c10_goNight 131 = .ok (.iastore, 1) := by decide +kernel
theorem d10_goNight_132 : decode c10_goNight 132 = .ok (.aload_n 0, 1) := by decide +kernel
theorem d10_goNight_133 : decode c10_goNight 133 = .ok (.getfield 46, 3) := by decide +kernel
theorem d10_goNight_136 : decode c10_goNight 136 = .ok (.iload 4, 2) := by decide +kernel
theorem d10_goNight_138 : decode c10_goNight 138 = .ok (.iload_n 1, 1) := by decide +kernel
theorem d10_goNight_139 : decode c10_goNight 139 = .ok (.iastore, 1) := by decide +kernel
theorem d10_goNight_140 : decode c10_goNight 140 = .ok (.goto (-63), 3) := by decide +kernel
theorem d10_goNight_143 : decode c10_goNight 143 = .ok (.iload_n 1, 1) := by decide +kernel
theorem d10_goNight_144 : decode c10_goNight 144 = .ok (.ifCond .ne 7, 3) := by decide +kernel
theorem d10_goNight_147 : decode c10_goNight 147 = .ok (.iconst 0, 1) := by decide +kernel
theorem d10_goNight_148 : decode c10_goNight 148 = .ok (.goto 11, 3) := by decide +kernel
theorem d10_goNight_151 : decode c10_goNight 151 = .ok (.aload_n 0, 1) := by decide +kernel
theorem d10_goNight_152 : decode c10_goNight 152 = .ok (.getfield 52, 3) := by decide +kernel
theorem d10_goNight_155 : decode c10_goNight 155 = .ok (.iload_n 1, 1) := by decide +kernel
theorem d10_goNight_156 : decode c10_goNight 156 = .ok (.iconst 1, 1) := by decide +kernel
theorem d10_goNight_157 : decode c10_goNight 157 = .ok (.isub, 1) := by decide +kernel
theorem d10_goNight_158 : decode c10_goNight 158 = .ok (.iaload, 1) := by decide +kernel
theorem d10_goNight_159 : decode c10_goNight 159 = .ok (.aload_n 0, 1) := by decide +kernel
theorem d10_goNight_160 : decode c10_goNight 160 = .ok (.getfield 228, 3) := by decide +kernel
theorem d10_goNight_163 : decode c10_goNight 163 = .ok (.iadd, 1) := by decide +kernel
theorem d10_goNight_164 : decode c10_goNight 164 = .ok (.aload_n 0, 1) := by decide +kernel
theorem d10_goNight_165 : decode c10_goNight 165 = .ok (.getfield 49, 3) := by decide +kernel
theorem d10_goNight_168 : decode c10_goNight 168 = .ok (.iload_n 1, 1) := by decide +kernel
theorem d10_goNight_169 : decode c10_goNight 169 = .ok (.iaload, 1) := by decide +kernel
theorem d10_goNight_170 : decode c10_goNight 170 = .ok (.isub, 1) := by decide +kernel
theorem d10_goNight_171 : decode c10_goNight 171 = .ok (.istore 4, 2) := by decide +kernel
theorem d10_goNight_173 : decode c10_goNight 173 = .ok (.iload_n 1, 1) := by decide +kernel
theorem d10_goNight_174 : decode c10_goNight 174 = .ok (.ifCond .ne 7, 3) := by decide +kernel
theorem d10_goNight_177 : decode c10_goNight 177 = .ok (.iconst 0, 1) := by decide +kernel
theorem d10_goNight_178 : decode c10_goNight 178 = .ok (.goto 11, 3) := by decide +kernel
theorem d10_goNight_181 : decode c10_goNight 181 = .ok (.aload_n 0, 1) := by decide +kernel
theorem d10_goNight_182 : decode c10_goNight 182 = .ok (.getfield 55, 3) := by decide +kernel
theorem d10_goNight_185 : decode c10_goNight 185 = .ok (.iload_n 1, 1) := by decide +kernel
theorem d10_goNight_186 : decode c10_goNight 186 = .ok (.iconst 1, 1) := by decide +kernel
theorem d10_goNight_187 : decode c10_goNight 187 = .ok (.isub, 1) := by decide +kernel
theorem d10_goNight_188 : decode c10_goNight 188 = .ok (.iaload, 1) := by decide +kernel
theorem d10_goNight_189 : decode c10_goNight 189 = .ok (.istore 5, 2) := by decide +kernel
theorem d10_goNight_191 : decode c10_goNight 191 = .ok (.aload_n 0, 1) := by decide +kernel
theorem d10_goNight_192 : decode c10_goNight 192 = .ok (.getfield 9, 3) := by decide +kernel
theorem d10_goNight_195 : decode c10_goNight 195 = .ok (.iconst 3, 1) := by decide +kernel
theorem d10_goNight_196 : decode c10_goNight 196 = .ok (.iaload, 1) := by decide +kernel
theorem d10_goNight_197 : decode c10_goNight 197 = .ok (.iload 5, 2) := by decide +kernel
theorem d10_goNight_199 : decode c10_goNight 199 = .ok (.isub, 1) := by decide +kernel
theorem d10_goNight_200 : decode c10_goNight 200 = .ok (.iload 4, 2) := by decide +kernel
theorem d10_goNight_202 : decode c10_goNight 202 = .ok (.aload_n 0, 1) := by decide +kernel
theorem d10_goNight_203 : decode c10_goNight 203 = .ok (.getfield 9, 3) := by decide +kernel
theorem d10_goNight_206 : decode c10_goNight 206 = .ok (.iconst 2, 1) := by decide +kernel
theorem d10_goNight_207 : decode c10_goNight 207 = .ok (.iaload, 1) := by decide +kernel
theorem d10_goNight_208 : decode c10_goNight 208 = .ok (.idiv, 1) := by decide +kernel
theorem d10_goNight_209 : decode c10_goNight 209 = .ok (.invokestatic 150, 3) := by decide +kernel
theorem d10_goNight_212 : decode c10_goNight 212 = .ok (.istore 6, 2) := by decide +kernel
theorem d10_goNight_214 : decode c10_goNight 214 = .ok (.aload_n 0, 1) := by decide +kernel
theorem d10_goNight_215 : decode c10_goNight 215 = .ok (.getfield 52, 3) := by decide +kernel
theorem d10_goNight_218 : decode c10_goNight 218 = .ok (.iload_n 1, 1) := by decide +kernel
theorem d10_goNight_219 : decode c10_goNight 219 = .ok (.iload 4, 2) := by decide +kernel
theorem d10_goNight_221 : decode c10_goNight 221 = .ok (.iload 6, 2) := by decide +kernel
theorem d10_goNight_223 : decode c10_goNight 223 = .ok (.aload_n 0, 1) := by decide +kernel
theorem d10_goNight_224 : decode c10_goNight 224 = .ok (.getfield 9, 3) := by decide +kernel
theorem d10_goNight_227 : decode c10_goNight 227 = .ok (.iconst 2, 1) := by decide +kernel
theorem d10_goNight_228 : decode c10_goNight 228 = .ok (.iaload, 1) := by decide +kernel
theorem d10_goNight_229 : decode c10_goNight 229 = .ok (.imul, 1) := by decide +kernel
theorem d10_goNight_230 : decode c10_goNight 230 = .ok (.isub, 1) := by decide +kernel
theorem d10_goNight_231 : decode c10_goNight 231 = .ok (.iastore, 1) := by decide +kernel
theorem d10_goNight_232 : decode c10_goNight 232 = .ok (.aload_n 0, 1) := by decide +kernel
theorem d10_goNight_233 : decode c10_goNight 233 = .ok (.getfield 55, 3) := by decide +kernel
theorem d10_goNight_236 : decode c10_goNight 236 = .ok (.iload_n 1, 1) := by decide +kernel
theorem d10_goNight_237 : decode c10_goNight 237 = .ok (.iload 5, 2) := by decide +kernel
theorem d10_goNight_239 : decode c10_goNight 239 = .ok (.iload 6, 2) := by decide +kernel
theorem d10_goNight_241 : decode c10_goNight 241 = .ok (.iadd, 1) := by decide +kernel
theorem d10_goNight_242 : decode c10_goNight 242 = .ok (.iastore, 1) := by decide +kernel
theorem d10_goNight_243 : decode c10_goNight 243 = .ok (.aload_n 0, 1) := by decide +kernel
theorem d10_goNight_244 : decode c10_goNight 244 = .ok (.getfield 253, 3) := by decide +kernel
theorem d10_goNight_247 : decode c10_goNight 247 = .ok (.iconst (-1), 1) := by decide +kernel
theorem d10_goNight_248 : decode c10_goNight 248 = .ok (.if_icmp .ne 23, 3) := by decide +kernel
theorem d10_goNight_251 : decode c10_goNight 251 = .ok (.aload_n 0, 1) := by decide +kernel
theorem d10_goNight_252 : decode c10_goNight 252 = .ok (.getfield 55, 3) := by decide +kernel
theorem d10_goNight_255 : decode c10_goNight 255 = .ok (.iload_n 1, 1) := by decide +kernel
theorem d10_goNight_256 : decode c10_goNight 256 = .ok (.iaload, 1) := by decide +kernel
theorem d10_goNight_257 : decode c10_goNight 257 = .ok (.aload_n 0, 1) := by decide +kernel
theorem d10_goNight_258 : decode c10_goNight 258 = .ok (.getfield 9, 3) := by decide +kernel
theorem d10_goNight_261 : decode c10_goNight 261 = .ok (.iconst 3, 1) := by decide +kernel
theorem d10_goNight_262 : decode c10_goNight 262 = .ok (.iaload, 1) := by decide +kernel
theorem d10_goNight_263 : decode c10_goNight 263 = .ok (.if_icmp .ne 8, 3) := by decide +kernel
theorem d10_goNight_266 : decode c10_goNight 266 = .ok (.aload_n 0, 1) := by decide +kernel
theorem d10_goNight_267 : decode c10_goNight 267 = .ok (.iload_n 1, 1) := by decide +kernel
theorem d10_goNight_268 : decode c10_goNight 268 = .ok (.putfield 253, 3) := by decide +kernel
theorem d10_goNight_271 : decode c10_goNight 271 = .ok (.return_, 1) := by decide +kernel
def f10_goNight (D : Mem) (p0 : Int) (p1 : Int) : Option (Mem) :=
  if 0 ≤ p0 ∧ p0 < 12 then
    Option.bind (some (mset D 129 p0.toNat (D 117 19))) fun (D1 : Mem) =>
    Option.bind (@loop (Int × Int) (Int) (fun s1 =>
      if w32 s1.2 < w32 (D1 118 7) then
        if w32 p1 = 0 then
          some (Sum.inr s1.1)
        else
          Option.bind (f10_hasAche D1 s1.2 p0) fun (a1 : Int) =>
          Option.bind (
            if w32 a1 = 0 then
              some 0
            else
              if 0 ≤ s1.2 ∧ s1.2 < 8 then
                if w32 p0 < w32 ((D1 125 s1.2.toNat) + (D1 127 s1.2.toNat)) then
                  some 0
                else
                  some (shl32 1 s1.2)
              else none
          ) fun (j1 : Int) =>
          some (Sum.inl ((or32 s1.1 j1), (s1.2 + 1)))
      else
        some (Sum.inr s1.1)
    ) FU (0, 0)) fun (b1 : Int) =>
    Option.bind (@loop (Int × Mem) (Mem) (fun s2 =>
      if w32 s2.1 = 0 then
        some (Sum.inr s2.2)
      else
        Option.bind (f10_nextOf s2.2 s2.1) fun (a2 : Int) =>
        Option.bind (some (and32 s2.1 (xor32 (shl32 1 a2) (-1)))) fun (v1 : Int) =>
        if 0 ≤ a2 ∧ a2 < 8 then
          if w32 (s2.2 129 p0.toNat) < w32 (s2.2 124 a2.toNat) then
            some (Sum.inl (v1, s2.2))
          else
            Option.bind (some (mset s2.2 129 p0.toNat ((s2.2 129 p0.toNat) - (s2.2 124 a2.toNat)))) fun (D2 : Mem) =>
            some (Sum.inl (v1, (mset D2 128 a2.toNat p0)))
        else none
    ) FU (b1, D1)) fun (b2 : Mem) =>
    Option.bind (
      if w32 p0 = 0 then
        some 0
      else
        if 0 ≤ (p0 - 1) ∧ (p0 - 1) < 12 then
          some (b2 130 (p0 - 1).toNat)
        else none
    ) fun (j2 : Int) =>
    Option.bind (some ((j2 + (b2 117 19)) - (b2 129 p0.toNat))) fun (v2 : Int) =>
    Option.bind (
      if w32 p0 = 0 then
        some 0
      else
        if 0 ≤ (p0 - 1) ∧ (p0 - 1) < 12 then
          some (b2 131 (p0 - 1).toNat)
        else none
    ) fun (j3 : Int) =>
    if ¬ w32 (b2 118 2) = 0 then
      Option.bind (some (min32 ((b2 118 3) - j3) (div32 v2 (b2 118 2)))) fun (v3 : Int) =>
      Option.bind (some (mset b2 130 p0.toNat (v2 - (v3 * (b2 118 2))))) fun (D3 : Mem) =>
      Option.bind (some (mset D3 131 p0.toNat (j3 + v3))) fun (D4 : Mem) =>
      if w32 (D4 117 27) = w32 (-1) then
        if w32 (D4 131 p0.toNat) = w32 (D4 118 3) then
          some (mset D4 117 27 p0)
        else
          some D4
      else
        some D4
    else none
  else none
set_option maxHeartbeats 4000000 in
theorem ok10_goNight {l : Launch} {X : XT} {n : Nat} {D : Mem} {Q : Option Value → Nat → Rho → Mem → Prop} (hn : 147 ≤ n) {p0 : Int} {p1 : Int}  (h : wpo (f10_goNight D p0 p1) (fun a => Q none n rt a)) : MOK l y10_goNight c10_goNight 7 (none) { frames := 2, cells := 0, slots := 0, locals := 46 } 0 0 X [vR X 117, vI p0, vI p1] n rt D Q := by
  refine MOK_of 10 (by decide +kernel) rfl (lv := [(0, vR X 117), (1, vI p0), (2, vI p1)]) (Nat.le_of_ble_eq_true rfl) rfl (fun K hK F hnm => ?_)
  subst hK
  unfold f10_goNight at h
  refine r_aload_nR F 0 rfl rfl d10_goNight_0 ?_
  refine r_getR F (z := 129) lf10_49 (vc117 hn) z117_24 d10_goNight_1 ?_
  refine r_iload_n F 1 rfl rfl d10_goNight_4 ?_
  refine r_aload_nR F 0 rfl rfl d10_goNight_5 ?_
  refine r_getI F lf10_228 (vc117 hn) d10_goNight_6 ?_
  obtain ⟨hx1, h⟩ := wpo_chk h
  refine r_iast F (vc129 hn) hx1 d10_goNight_9 ?_
  refine r_iconst F (z := 0) d10_goNight_10 ?_
  refine r_istore_n F (lv' := [(3, vI 0), (0, vR X 117), (1, vI p0), (2, vI p1)]) rfl (Nat.le_of_ble_eq_true rfl) rfl d10_goNight_11 ?_
  refine r_iconst F (z := 0) d10_goNight_12 ?_
  refine r_istore F (lv' := [(4, vI 0), (3, vI 0), (0, vR X 117), (1, vI p0), (2, vI p1)]) (Nat.le_of_ble_eq_true rfl) rfl d10_goNight_13 ?_
  refine at_name (B := fun (D1 : Mem) => At K X (ZQ K X Q) 0 0 n rt 7 15 [(4, vI 0), (3, vI 0), (0, vR X 117), (1, vI p0), (2, vI p1)] [] D1) h (fun D1 h => ?_)
  refine r_weak [2, 3, 4, 1, 0] rfl ?_
  refine at_loopj (A := fun (s1 : Int × Int) => At K X (ZQ K X Q) 0 0 n rt 7 15 [(0, vR X 117), (1, vI p0), (2, vI p1), (3, vI s1.1), (4, vI s1.2)] [] D1) (B := fun (b1 : Int) => At K X (ZQ K X Q) 0 0 n rt 7 77 [(0, vR X 117), (1, vI p0), (3, vI b1)] [] D1) h (fun b1 h => ?_) (fun s1 h => ?_)
  · refine at_loopj (A := fun (s2 : Int × Mem) => At K X (ZQ K X Q) 0 0 n rt 7 77 [(0, vR X 117), (1, vI p0), (3, vI s2.1)] [] s2.2) (B := fun (b2 : Mem) => At K X (ZQ K X Q) 0 0 n rt 7 143 [(0, vR X 117), (1, vI p0)] [] b2) h (fun b2 h => ?_) (fun s2 h => ?_)
    · refine r_iload_n F 1 rfl rfl d10_goNight_143 ?_
      refine at_join (B := fun (j2 : Int) => At K X (ZQ K X Q) 0 0 n rt 7 159 [(0, vR X 117), (1, vI p0)] [vI j2] b2) h (fun j2 h => ?_) (fun h => ?_)
      · refine r_aload_nR F 0 rfl rfl d10_goNight_159 ?_
        refine r_getI F lf10_228 (vc117 hn) d10_goNight_160 ?_
        refine r_iadd F d10_goNight_163 ?_
        refine r_aload_nR F 0 rfl rfl d10_goNight_164 ?_
        refine r_getR F (z := 129) lf10_49 (vc117 hn) z117_24 d10_goNight_165 ?_
        refine r_iload_n F 1 rfl rfl d10_goNight_168 ?_
        refine r_iald F (vc129 hn) hx1 d10_goNight_169 ?_
        refine r_isub F d10_goNight_170 ?_
        refine r_istore F (lv' := [(4, vI ((j2 + (b2 117 19)) - (b2 129 p0.toNat))), (0, vR X 117), (1, vI p0)]) (Nat.le_of_ble_eq_true rfl) rfl d10_goNight_171 ?_
        refine at_name (B := fun (v2 : Int) => At K X (ZQ K X Q) 0 0 n rt 7 173 [(4, vI v2), (0, vR X 117), (1, vI p0)] [] b2) h (fun v2 h => ?_)
        refine r_iload_n F 2 rfl rfl d10_goNight_173 ?_
        refine at_join (B := fun (j3 : Int) => At K X (ZQ K X Q) 0 0 n rt 7 189 [(0, vR X 117), (1, vI p0), (4, vI v2)] [vI j3] b2) h (fun j3 h => ?_) (fun h => ?_)
        · refine r_istore F (lv' := [(5, vI j3), (0, vR X 117), (1, vI p0), (4, vI v2)]) (Nat.le_of_ble_eq_true rfl) rfl d10_goNight_189 ?_
          refine r_aload_nR F 1 rfl rfl d10_goNight_191 ?_
          refine r_getR F (z := 118) lf10_9 (vc117 hn) z117_1 d10_goNight_192 ?_
          refine r_iconst F (z := 3) d10_goNight_195 ?_
          refine r_ialdC F (j := 3) (vc118 hn) (by decide) rfl d10_goNight_196 ?_
          refine r_iload F 0 rfl d10_goNight_197 ?_
          refine r_isub F d10_goNight_199 ?_
          refine r_iload F 3 rfl d10_goNight_200 ?_
          refine r_aload_nR F 1 rfl rfl d10_goNight_202 ?_
          refine r_getR F (z := 118) lf10_9 (vc117 hn) z117_1 d10_goNight_203 ?_
          refine r_iconst F (z := 2) d10_goNight_206 ?_
          refine r_ialdC F (j := 2) (vc118 hn) (by decide) rfl d10_goNight_207 ?_
          obtain ⟨hx6, h⟩ := wpo_chk h
          refine r_idiv F hx6 d10_goNight_208 ?_
          refine r_min F lm10_150 wm3 wm0 wm4 ⟨Nat.le_of_ble_eq_true rfl, Nat.le_of_ble_eq_true rfl, Nat.le_of_ble_eq_true rfl, Nat.le_of_ble_eq_true rfl⟩ d10_goNight_209 ?_
          refine r_istore F (lv' := [(6, vI (min32 ((b2 118 3) - j3) (div32 v2 (b2 118 2)))), (5, vI j3), (0, vR X 117), (1, vI p0), (4, vI v2)]) (Nat.le_of_ble_eq_true rfl) rfl d10_goNight_212 ?_
          refine at_name (B := fun (v3 : Int) => At K X (ZQ K X Q) 0 0 n rt 7 214 [(6, vI v3), (5, vI j3), (0, vR X 117), (1, vI p0), (4, vI v2)] [] b2) h (fun v3 h => ?_)
          refine r_aload_nR F 2 rfl rfl d10_goNight_214 ?_
          refine r_getR F (z := 130) lf10_52 (vc117 hn) z117_25 d10_goNight_215 ?_
          refine r_iload_n F 3 rfl rfl d10_goNight_218 ?_
          refine r_iload F 4 rfl d10_goNight_219 ?_
          refine r_iload F 0 rfl d10_goNight_221 ?_
          refine r_aload_nR F 2 rfl rfl d10_goNight_223 ?_
          refine r_getR F (z := 118) lf10_9 (vc117 hn) z117_1 d10_goNight_224 ?_
          refine r_iconst F (z := 2) d10_goNight_227 ?_
          refine r_ialdC F (j := 2) (vc118 hn) (by decide) rfl d10_goNight_228 ?_
          refine r_imul F d10_goNight_229 ?_
          refine r_isub F d10_goNight_230 ?_
          refine r_iast F (vc130 hn) hx1 d10_goNight_231 ?_
          refine r_aload_nR F 2 rfl rfl d10_goNight_232 ?_
          refine r_getR F (z := 131) lf10_55 (vc117 hn) z117_26 d10_goNight_233 ?_
          refine r_iload_n F 3 rfl rfl d10_goNight_236 ?_
          refine r_iload F 1 rfl d10_goNight_237 ?_
          refine r_iload F 0 rfl d10_goNight_239 ?_
          refine r_iadd F d10_goNight_241 ?_
          refine at_name (B := fun (D3 : Mem) => At K X (ZQ K X Q) 0 0 n rt 7 242 [(6, vI v3), (5, vI j3), (0, vR X 117), (1, vI p0), (4, vI v2)] [vI (j3 + v3), vI p0, vR X 131] D3) h (fun D3 h => ?_)
          refine r_iast F (vc131 hn) hx1 d10_goNight_242 ?_
          refine r_aload_nR F 2 rfl rfl d10_goNight_243 ?_
          refine at_name (B := fun (D4 : Mem) => At K X (ZQ K X Q) 0 0 n rt 7 244 [(6, vI v3), (5, vI j3), (0, vR X 117), (1, vI p0), (4, vI v2)] [vR X 117] D4) h (fun D4 h => ?_)
          refine r_getI F lf10_253 (vc117 hn) d10_goNight_244 ?_
          refine r_iconst F (z := (-1)) d10_goNight_247 ?_
          refine r_icmp_ne F (tgt := 271) d10_goNight_248 (by decide) (fun hb => ?_) (fun hb => ?_)
          · replace h := wpo_neg h hb
            replace h := wpo_some h
            exact r_vret F h d10_goNight_271
          · replace h := wpo_pos h hb
            refine r_aload_nR F 2 rfl rfl d10_goNight_251 ?_
            refine r_getR F (z := 131) lf10_55 (vc117 hn) z117_26 d10_goNight_252 ?_
            refine r_iload_n F 3 rfl rfl d10_goNight_255 ?_
            refine r_iald F (vc131 hn) hx1 d10_goNight_256 ?_
            refine r_aload_nR F 2 rfl rfl d10_goNight_257 ?_
            refine r_getR F (z := 118) lf10_9 (vc117 hn) z117_1 d10_goNight_258 ?_
            refine r_iconst F (z := 3) d10_goNight_261 ?_
            refine r_ialdC F (j := 3) (vc118 hn) (by decide) rfl d10_goNight_262 ?_
            refine r_icmp_ne F (tgt := 271) d10_goNight_263 (by decide) (fun hb => ?_) (fun hb => ?_)
            · replace h := wpo_neg h hb
              replace h := wpo_some h
              exact r_vret F h d10_goNight_271
            · replace h := wpo_pos h hb
              refine r_aload_nR F 2 rfl rfl d10_goNight_266 ?_
              refine r_iload_n F 3 rfl rfl d10_goNight_267 ?_
              refine r_putI F lf10_253 rfl rfl (vc117 hn) d10_goNight_268 ?_
              replace h := wpo_some h
              exact r_vret F h d10_goNight_271
        · refine r_if_ne F (tgt := 181) d10_goNight_174 (by decide) (fun hb => ?_) (fun hb => ?_)
          · replace h := wpo_neg h hb
            refine r_aload_nR F 1 rfl rfl d10_goNight_181 ?_
            refine r_getR F (z := 131) lf10_55 (vc117 hn) z117_26 d10_goNight_182 ?_
            refine r_iload_n F 2 rfl rfl d10_goNight_185 ?_
            refine r_iconst F (z := 1) d10_goNight_186 ?_
            refine r_isub F d10_goNight_187 ?_
            obtain ⟨hx5, h⟩ := wpo_chk h
            refine r_iald F (vc131 hn) hx5 d10_goNight_188 ?_
            refine r_weak [1, 2, 0] rfl ?_
            replace h := wpo_some h
            exact h
          · replace h := wpo_pos h hb
            refine r_iconst F (z := 0) d10_goNight_177 ?_
            refine r_goto F (tgt := 189) (by decide) d10_goNight_178 ?_
            refine r_weak [1, 2, 0] rfl ?_
            replace h := wpo_some h
            exact h
      · refine r_if_ne F (tgt := 151) d10_goNight_144 (by decide) (fun hb => ?_) (fun hb => ?_)
        · replace h := wpo_neg h hb
          refine r_aload_nR F 0 rfl rfl d10_goNight_151 ?_
          refine r_getR F (z := 130) lf10_52 (vc117 hn) z117_25 d10_goNight_152 ?_
          refine r_iload_n F 1 rfl rfl d10_goNight_155 ?_
          refine r_iconst F (z := 1) d10_goNight_156 ?_
          refine r_isub F d10_goNight_157 ?_
          obtain ⟨hx4, h⟩ := wpo_chk h
          refine r_iald F (vc130 hn) hx4 d10_goNight_158 ?_
          replace h := wpo_some h
          exact h
        · replace h := wpo_pos h hb
          refine r_iconst F (z := 0) d10_goNight_147 ?_
          refine r_goto F (tgt := 159) (by decide) d10_goNight_148 ?_
          replace h := wpo_some h
          exact h
    · refine r_iload_n F 2 rfl rfl d10_goNight_77 ?_
      refine r_if_eq F (tgt := 143) d10_goNight_78 (by decide) (fun hb => ?_) (fun hb => ?_)
      · replace h := wpo_pos h hb
        refine r_weak [0, 1] rfl ?_
        replace h := wpo_inr h
        exact h
      · replace h := wpo_neg h hb
        refine r_aload_nR F 0 rfl rfl d10_goNight_81 ?_
        refine r_iload_n F 2 rfl rfl d10_goNight_82 ?_
        replace h := wpo_bind h
        refine r_callV0 F lm10_250 mf10_nextOf (vc117 hn) rfl (fr := 1) (lo := 23) (As := [vI s2.1]) (rest := []) ⟨Nat.le_of_ble_eq_true rfl, Nat.le_of_ble_eq_true rfl⟩ rfl (Nat.le_of_ble_eq_true rfl) ⟨Nat.zero_le _, Nat.zero_le _⟩ d10_goNight_83 ?_
        refine ok10_nextOf hn  (kI h (fun a2 h => ?_))
        refine r_istore F (lv' := [(4, vI a2), (0, vR X 117), (1, vI p0), (3, vI s2.1)]) (Nat.le_of_ble_eq_true rfl) rfl d10_goNight_86 ?_
        refine r_iload_n F 3 rfl rfl d10_goNight_88 ?_
        refine r_iconst F (z := 1) d10_goNight_89 ?_
        refine r_iload F 0 rfl d10_goNight_90 ?_
        refine r_ishl F d10_goNight_92 ?_
        refine r_iconst F (z := (-1)) d10_goNight_93 ?_
        refine r_ixor F d10_goNight_94 ?_
        refine r_iand F d10_goNight_95 ?_
        refine r_istore_n F (lv' := [(3, vI (and32 s2.1 (xor32 (shl32 1 a2) (-1)))), (4, vI a2), (0, vR X 117), (1, vI p0)]) rfl (Nat.le_of_ble_eq_true rfl) rfl d10_goNight_96 ?_
        refine at_name (B := fun (v1 : Int) => At K X (ZQ K X Q) 0 0 n rt 7 97 [(3, vI v1), (4, vI a2), (0, vR X 117), (1, vI p0)] [] s2.2) h (fun v1 h => ?_)
        refine r_aload_nR F 2 rfl rfl d10_goNight_97 ?_
        refine r_getR F (z := 124) lf10_34 (vc117 hn) z117_15 d10_goNight_98 ?_
        refine r_iload F 1 rfl d10_goNight_101 ?_
        obtain ⟨hx3, h⟩ := wpo_chk h
        refine r_iald F (vc124 hn) hx3 d10_goNight_103 ?_
        refine r_aload_nR F 2 rfl rfl d10_goNight_104 ?_
        refine r_getR F (z := 129) lf10_49 (vc117 hn) z117_24 d10_goNight_105 ?_
        refine r_iload_n F 3 rfl rfl d10_goNight_108 ?_
        refine r_iald F (vc129 hn) hx1 d10_goNight_109 ?_
        refine r_icmp_le F (tgt := 116) d10_goNight_110 (by decide) (fun hb => ?_) (fun hb => ?_)
        · replace h := wpo_neg h hb
          refine r_aload_nR F 2 rfl rfl d10_goNight_116 ?_
          refine r_getR F (z := 129) lf10_49 (vc117 hn) z117_24 d10_goNight_117 ?_
          refine r_iload_n F 3 rfl rfl d10_goNight_120 ?_
          refine r_dup2 F rfl rfl d10_goNight_121 ?_
          refine r_iald F (vc129 hn) hx1 d10_goNight_122 ?_
          refine r_aload_nR F 2 rfl rfl d10_goNight_123 ?_
          refine r_getR F (z := 124) lf10_34 (vc117 hn) z117_15 d10_goNight_124 ?_
          refine r_iload F 1 rfl d10_goNight_127 ?_
          refine r_iald F (vc124 hn) hx3 d10_goNight_129 ?_
          refine r_isub F d10_goNight_130 ?_
          refine r_iast F (vc129 hn) hx1 d10_goNight_131 ?_
          refine r_aload_nR F 2 rfl rfl d10_goNight_132 ?_
          refine r_getR F (z := 128) lf10_46 (vc117 hn) z117_23 d10_goNight_133 ?_
          refine r_iload F 1 rfl d10_goNight_136 ?_
          refine r_iload_n F 3 rfl rfl d10_goNight_138 ?_
          refine at_name (B := fun (D2 : Mem) => At K X (ZQ K X Q) 0 0 n rt 7 139 [(3, vI v1), (4, vI a2), (0, vR X 117), (1, vI p0)] [vI p0, vI a2, vR X 128] D2) h (fun D2 h => ?_)
          refine r_iast F (vc128 hn) hx3 d10_goNight_139 ?_
          refine r_goto F (tgt := 77) (by decide) d10_goNight_140 ?_
          refine r_weak [2, 3, 0] rfl ?_
          replace h := wpo_inl h
          exact h
        · replace h := wpo_pos h hb
          refine r_goto F (tgt := 77) (by decide) d10_goNight_113 ?_
          refine r_weak [2, 3, 0] rfl ?_
          replace h := wpo_inl h
          exact h
  · refine r_iload F 4 rfl d10_goNight_15 ?_
    refine r_aload_nR F 0 rfl rfl d10_goNight_17 ?_
    refine r_getR F (z := 118) lf10_9 (vc117 hn) z117_1 d10_goNight_18 ?_
    refine r_bipush F (z := 7) (by decide) d10_goNight_21 ?_
    refine r_ialdC F (j := 7) (vc118 hn) (by decide) rfl d10_goNight_23 ?_
    refine r_icmp_ge F (tgt := 77) d10_goNight_24 (by decide) (fun hb => ?_) (fun hb => ?_)
    · replace h := wpo_neg h hb
      refine r_weak [0, 1, 3] rfl ?_
      replace h := wpo_inr h
      exact h
    · replace h := wpo_pos h hb
      refine r_iload_n F 2 rfl rfl d10_goNight_27 ?_
      refine r_if_eq F (tgt := 77) d10_goNight_28 (by decide) (fun hb => ?_) (fun hb => ?_)
      · replace h := wpo_pos h hb
        refine r_weak [0, 1, 3] rfl ?_
        replace h := wpo_inr h
        exact h
      · replace h := wpo_neg h hb
        refine r_iload_n F 3 rfl rfl d10_goNight_31 ?_
        refine r_aload_nR F 0 rfl rfl d10_goNight_32 ?_
        refine r_iload F 4 rfl d10_goNight_33 ?_
        refine r_iload_n F 1 rfl rfl d10_goNight_35 ?_
        replace h := wpo_bind h
        refine r_callV0 F lm10_246 mf10_hasAche (vc117 hn) rfl (fr := 0) (lo := 0) (As := [vI s1.2, vI p0]) (rest := [vI s1.1]) ⟨Nat.le_of_ble_eq_true rfl, Nat.le_of_ble_eq_true rfl⟩ rfl (Nat.le_of_ble_eq_true rfl) ⟨Nat.zero_le _, Nat.zero_le _⟩ d10_goNight_36 ?_
        refine ok10_hasAche hn  (kI h (fun a1 h => ?_))
        refine at_join (B := fun (j1 : Int) => At K X (ZQ K X Q) 0 0 n rt 7 69 [(0, vR X 117), (1, vI p0), (2, vI p1), (4, vI s1.2)] [vI j1, vI s1.1] D1) h (fun j1 h => ?_) (fun h => ?_)
        · refine r_ior F d10_goNight_69 ?_
          refine r_istore_n F (lv' := [(3, vI (or32 s1.1 j1)), (0, vR X 117), (1, vI p0), (2, vI p1), (4, vI s1.2)]) rfl (Nat.le_of_ble_eq_true rfl) rfl d10_goNight_70 ?_
          refine r_iinc F 4 (lv' := [(4, vI (s1.2 + 1)), (3, vI (or32 s1.1 j1)), (0, vR X 117), (1, vI p0), (2, vI p1)]) rfl (Nat.le_of_ble_eq_true rfl) rfl d10_goNight_71 ?_
          refine r_goto F (tgt := 15) (by decide) d10_goNight_74 ?_
          refine r_weak [2, 3, 4, 1, 0] rfl ?_
          replace h := wpo_inl h
          exact h
        · refine r_if_eq F (tgt := 68) d10_goNight_39 (by decide) (fun hb => ?_) (fun hb => ?_)
          · replace h := wpo_pos h hb
            refine r_iconst F (z := 0) d10_goNight_68 ?_
            refine r_weak [0, 1, 2, 4] rfl ?_
            replace h := wpo_some h
            exact h
          · replace h := wpo_neg h hb
            refine r_iload_n F 1 rfl rfl d10_goNight_42 ?_
            refine r_aload_nR F 0 rfl rfl d10_goNight_43 ?_
            refine r_getR F (z := 125) lf10_37 (vc117 hn) z117_16 d10_goNight_44 ?_
            refine r_iload F 4 rfl d10_goNight_47 ?_
            obtain ⟨hx2, h⟩ := wpo_chk h
            refine r_iald F (vc125 hn) hx2 d10_goNight_49 ?_
            refine r_aload_nR F 0 rfl rfl d10_goNight_50 ?_
            refine r_getR F (z := 127) lf10_43 (vc117 hn) z117_18 d10_goNight_51 ?_
            refine r_iload F 4 rfl d10_goNight_54 ?_
            refine r_iald F (vc127 hn) hx2 d10_goNight_56 ?_
            refine r_iadd F d10_goNight_57 ?_
            refine r_icmp_lt F (tgt := 68) d10_goNight_58 (by decide) (fun hb => ?_) (fun hb => ?_)
            · replace h := wpo_pos h hb
              refine r_iconst F (z := 0) d10_goNight_68 ?_
              refine r_weak [0, 1, 2, 4] rfl ?_
              replace h := wpo_some h
              exact h
            · replace h := wpo_neg h hb
              refine r_iconst F (z := 1) d10_goNight_61 ?_
              refine r_iload F 4 rfl d10_goNight_62 ?_
              refine r_ishl F d10_goNight_64 ?_
              refine r_goto F (tgt := 69) (by decide) d10_goNight_65 ?_
              refine r_weak [0, 1, 2, 4] rfl ?_
              replace h := wpo_some h
              exact h
