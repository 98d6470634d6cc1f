/-! METHODS, printed by wip/whole/gen/mkall.py -/
theorem d10_goNights_0 : decode c10_goNights 0 = .ok (.aload_n 0, 1) := by decide +kernel
theorem d10_goNights_1 : decode c10_goNights 1 = .ok (.iconst (-1), 1) := by decide +kernel
theorem d10_goNights_2 : decode c10_goNights 2 = .ok (.putfield 253, 3) := by decide +kernel
theorem d10_goNights_5 : decode c10_goNights 5 = .ok (.iconst 0, 1) := by decide +kernel
theorem d10_goNights_6 : decode c10_goNights 6 = .ok (.istore_n 1, 1) := by decide +kernel
theorem d10_goNights_7 : decode c10_goNights 7 = .ok (.iload_n 1, 1) := by decide +kernel
theorem d10_goNights_8 : decode c10_goNights 8 = .ok (.bipush 8, 2) := by decide +kernel
theorem d10_goNights_10 : decode c10_goNights 10 = .ok (.if_icmp .ge 16, 3) := by decide +kernel
theorem d10_goNights_13 : decode c10_goNights 13 = .ok (.aload_n 0, 1) := by decide +kernel
theorem d10_goNights_14 : decode c10_goNights 14 = .ok (.getfield 46, 3) := by decide +kernel
theorem d10_goNights_17 : decode c10_goNights 17 = .ok (.iload_n 1, 1) := by decide +kernel
theorem d10_goNights_18 : decode c10_goNights 18 = .ok (.iconst (-1), 1) := by decide +kernel
theorem d10_goNights_19 : decode c10_goNights 19 = .ok (.iastore, 1) := by decide +kernel
theorem d10_goNights_20 : decode c10_goNights 20 = .ok (.iinc 1 1, 3) := by decide +kernel
theorem d10_goNights_23 : decode c10_goNights 23 = .ok (.goto (-16), 3) := by decide +kernel
theorem d10_goNights_26 : decode c10_goNights 26 = .ok (.iconst 0, 1) := by decide +kernel
theorem d10_goNights_27 : decode c10_goNights 27 = .ok (.istore_n 1, 1) := by decide +kernel
theorem d10_goNights_28 : decode c10_goNights 28 = .ok (.iload_n 1, 1) := by decide +kernel
theorem d10_goNights_29 : decode c10_goNights 29 = .ok (.aload_n 0, 1) := by decide +kernel
theorem d10_goNights_30 : decode c10_goNights 30 = .ok (.invokevirtual 256, 3) := by decide +kernel
theorem d10_goNights_33 : decode c10_goNights 33 = .ok (.if_icmp .ge 35, 3) := by decide +kernel
theorem d10_goNights_36 : decode c10_goNights 36 = .ok (.aload_n 0, 1) := by decide +kernel
theorem d10_goNights_37 : decode c10_goNights 37 = .ok (.iload_n 1, 1) := by decide +kernel
theorem d10_goNights_38 : decode c10_goNights 38 = .ok (.iload_n 1, 1) := by decide +kernel
theorem d10_goNights_39 : decode c10_goNights 39 = .ok (.aload_n 0, 1) := by decide +kernel
theorem d10_goNights_40 : decode c10_goNights 40 = .ok (.getfield 237, 3) := by decide +kernel
theorem d10_goNights_43 : decode c10_goNights 43 = .ok (.if_icmp .lt 15, 3) := by decide +kernel
theorem d10_goNights_46 : decode c10_goNights 46 = .ok (.aload_n 0, 1) := by decide +kernel
theorem d10_goNights_47 : decode c10_goNights 47 = .ok (.getfield 253, 3) := by decide +kernel
theorem d10_goNights_50 : decode c10_goNights 50 = .ok (.iconst (-1), 1) := by decide +kernel
theorem d10_goNights_51 : decode c10_goNights 51 = .ok (.if_icmp .ne 7, 3) := by decide +kernel
theorem d10_goNights_54 : decode c10_goNights 54 = .ok (.iconst 1, 1) := by decide +kernel
theorem d10_goNights_55 : decode c10_goNights 55 = .ok (.goto 4, 3) := by decide +kernel
theorem d10_goNights_58 : decode c10_goNights 58 = .ok (.iconst 0, 1) := by decide +kernel
theorem d10_goNights_59 : decode c10_goNights 59 = .ok (.invokevirtual 258, 3) := by decide +kernel
theorem d10_goNights_62 : decode c10_goNights 62 = .ok (.iinc 1 1, 3) := by decide +kernel
theorem d10_goNights_65 : decode c10_goNights 65 = .ok (.goto (-37), 3) := by decide +kernel
theorem d10_goNights_68 : decode c10_goNights 68 = .ok (.return_, 1) := by decide +kernel
def f10_goNights (D : Mem) : Option (Mem) :=
  Option.bind (some (mset D 117 27 (-1))) fun (D1 : Mem) =>
  Option.bind (@loop (Int × Mem) (Mem) (fun s1 =>
    if w32 s1.1 < w32 8 then
      if 0 ≤ s1.1 ∧ s1.1 < 8 then
        some (Sum.inl ((s1.1 + 1), (mset s1.2 128 s1.1.toNat (-1))))
      else none
    else
      some (Sum.inr s1.2)
  ) FU (0, D1)) fun (b1 : Mem) =>
  Option.bind (@loop (Int × Mem) (Mem) (fun s2 =>
    Option.bind (f10_nights s2.2) fun (a1 : Int) =>
    if w32 s2.1 < w32 a1 then
      Option.bind (
        if w32 s2.1 < w32 (s2.2 117 22) then
          some 0
        else
          if w32 (s2.2 117 27) = w32 (-1) then
            some 1
          else
            some 0
      ) fun (j1 : Int) =>
      Option.bind (f10_goNight s2.2 s2.1 j1) fun (a2 : Mem) =>
      some (Sum.inl ((s2.1 + 1), a2))
    else
      some (Sum.inr s2.2)
  ) FU (0, b1)) fun (b2 : Mem) =>
  some b2
set_option maxHeartbeats 4000000 in
theorem ok10_goNights {l : Launch} {X : XT} {n : Nat} {D : Mem} {Q : Option Value → Nat → Rho → Mem → Prop} (hn : 147 ≤ n)  (h : wpo (f10_goNights D) (fun a => Q none n rt a)) : MOK l y10_goNights c10_goNights 2 (none) { frames := 3, cells := 0, slots := 0, locals := 72 } 0 0 X [vR X 117] n rt D Q := by
  refine MOK_of 10 (by decide +kernel) rfl (lv := [(0, vR X 117)]) (Nat.le_of_ble_eq_true rfl) rfl (fun K hK F hnm => ?_)
  subst hK
  unfold f10_goNights at h
  refine r_aload_nR F 0 rfl rfl d10_goNights_0 ?_
  refine r_iconst F (z := (-1)) d10_goNights_1 ?_
  refine r_putI F lf10_253 rfl rfl (vc117 hn) d10_goNights_2 ?_
  refine r_iconst F (z := 0) d10_goNights_5 ?_
  refine r_istore_n F (lv' := [(1, vI 0), (0, vR X 117)]) rfl (Nat.le_of_ble_eq_true rfl) rfl d10_goNights_6 ?_
  refine at_name (B := fun (D1 : Mem) => At K X (ZQ K X Q) 0 0 n rt 2 7 [(1, vI 0), (0, vR X 117)] [] D1) h (fun D1 h => ?_)
  refine r_weak [1, 0] rfl ?_
  refine at_loopj (A := fun (s1 : Int × Mem) => At K X (ZQ K X Q) 0 0 n rt 2 7 [(0, vR X 117), (1, vI s1.1)] [] s1.2) (B := fun (b1 : Mem) => At K X (ZQ K X Q) 0 0 n rt 2 26 [(0, vR X 117)] [] b1) h (fun b1 h => ?_) (fun s1 h => ?_)
  · refine r_iconst F (z := 0) d10_goNights_26 ?_
    refine r_istore_n F (lv' := [(1, vI 0), (0, vR X 117)]) rfl (Nat.le_of_ble_eq_true rfl) rfl d10_goNights_27 ?_
    refine r_weak [1, 0] rfl ?_
    refine at_loopj (A := fun (s2 : Int × Mem) => At K X (ZQ K X Q) 0 0 n rt 2 28 [(0, vR X 117), (1, vI s2.1)] [] s2.2) (B := fun (b2 : Mem) => At K X (ZQ K X Q) 0 0 n rt 2 68 [] [] b2) h (fun b2 h => ?_) (fun s2 h => ?_)
    · replace h := wpo_some h
      exact r_vret F h d10_goNights_68
    · refine r_iload_n F 1 rfl rfl d10_goNights_28 ?_
      refine r_aload_nR F 0 rfl rfl d10_goNights_29 ?_
      replace h := wpo_bind h
      refine r_callV0 F lm10_256 mf10_nights (vc117 hn) rfl (fr := 0) (lo := 0) (As := []) (rest := [vI s2.1]) ⟨Nat.le_of_ble_eq_true rfl, Nat.le_of_ble_eq_true rfl⟩ rfl (Nat.le_of_ble_eq_true rfl) ⟨Nat.zero_le _, Nat.zero_le _⟩ d10_goNights_30 ?_
      refine ok10_nights hn  (kI h (fun a1 h => ?_))
      refine r_icmp_ge F (tgt := 68) d10_goNights_33 (by decide) (fun hb => ?_) (fun hb => ?_)
      · replace h := wpo_neg h hb
        refine r_weak [] rfl ?_
        replace h := wpo_inr h
        exact h
      · replace h := wpo_pos h hb
        refine r_aload_nR F 0 rfl rfl d10_goNights_36 ?_
        refine r_iload_n F 1 rfl rfl d10_goNights_37 ?_
        refine r_iload_n F 1 rfl rfl d10_goNights_38 ?_
        refine r_aload_nR F 0 rfl rfl d10_goNights_39 ?_
        refine r_getI F lf10_237 (vc117 hn) d10_goNights_40 ?_
        refine at_join (B := fun (j1 : Int) => At K X (ZQ K X Q) 0 0 n rt 2 59 [(0, vR X 117), (1, vI s2.1)] [vI j1, vI s2.1, vR X 117] s2.2) h (fun j1 h => ?_) (fun h => ?_)
        · replace h := wpo_bind h
          refine r_callV0 F lm10_258 mf10_goNight (vc117 hn) rfl (fr := 2) (lo := 46) (As := [vI s2.1, vI j1]) (rest := []) ⟨Nat.le_of_ble_eq_true rfl, Nat.le_of_ble_eq_true rfl⟩ rfl (Nat.le_of_ble_eq_true rfl) ⟨Nat.zero_le _, Nat.zero_le _⟩ d10_goNights_59 ?_
          refine ok10_goNight hn  (kVm h (fun a2 h => ?_))
          refine r_iinc F 1 (lv' := [(1, vI (s2.1 + 1)), (0, vR X 117)]) rfl (Nat.le_of_ble_eq_true rfl) rfl d10_goNights_62 ?_
          refine r_goto F (tgt := 28) (by decide) d10_goNights_65 ?_
          refine r_weak [1, 0] rfl ?_
          replace h := wpo_inl h
          exact h
        · refine r_icmp_lt F (tgt := 58) d10_goNights_43 (by decide) (fun hb => ?_) (fun hb => ?_)
          · replace h := wpo_pos h hb
            refine r_iconst F (z := 0) d10_goNights_58 ?_
            replace h := wpo_some h
            exact h
          · replace h := wpo_neg h hb
            refine r_aload_nR F 0 rfl rfl d10_goNights_46 ?_
            refine r_getI F lf10_253 (vc117 hn) d10_goNights_47 ?_
            refine r_iconst F (z := (-1)) d10_goNights_50 ?_
            refine r_icmp_ne F (tgt := 58) d10_goNights_51 (by decide) (fun hb => ?_) (fun hb => ?_)
            · replace h := wpo_neg h hb
              refine r_iconst F (z := 0) d10_goNights_58 ?_
              replace h := wpo_some h
              exact h
            · replace h := wpo_pos h hb
              refine r_iconst F (z := 1) d10_goNights_54 ?_
              refine r_goto F (tgt := 59) (by decide) d10_goNights_55 ?_
              replace h := wpo_some h
              exact h
  · refine r_iload_n F 1 rfl rfl d10_goNights_7 ?_
    refine r_bipush F (z := 8) (by decide) d10_goNights_8 ?_
    refine r_icmp_ge F (tgt := 26) d10_goNights_10 (by decide) (fun hb => ?_) (fun hb => ?_)
    · replace h := wpo_neg h hb
      refine r_weak [0] rfl ?_
      replace h := wpo_inr h
      exact h
    · replace h := wpo_pos h hb
      refine r_aload_nR F 0 rfl rfl d10_goNights_13 ?_
      refine r_getR F (z := 128) lf10_46 (vc117 hn) z117_23 d10_goNights_14 ?_
      refine r_iload_n F 1 rfl rfl d10_goNights_17 ?_
      refine r_iconst F (z := (-1)) d10_goNights_18 ?_
      obtain ⟨hx1, h⟩ := wpo_chk h
      refine r_iast F (vc128 hn) hx1 d10_goNights_19 ?_
      refine r_iinc F 1 (lv' := [(1, vI (s1.1 + 1)), (0, vR X 117)]) rfl (Nat.le_of_ble_eq_true rfl) rfl d10_goNights_20 ?_
      refine r_goto F (tgt := 7) (by decide) d10_goNights_23 ?_
      refine r_weak [1, 0] rfl ?_
      replace h := wpo_inl h
      exact h
theorem d10_bearsBy_0 : decode c10_bearsBy 0 = .ok (.iload_n 1, 1) := by decide +kernel
theorem d10_bearsBy_1 : decode c10_bearsBy 1 = .ok (.aload_n 0, 1) := by decide +kernel
theorem d10_bearsBy_2 : decode c10_bearsBy 2 = .ok (.getfield 234, 3) := by decide +kernel
theorem d10_bearsBy_5 : decode c10_bearsBy 5 = .ok (.if_icmp .ne 5, 3) := by decide +kernel
theorem d10_bearsBy_8 : decode c10_bearsBy 8 = .ok (.iconst 0, 1) := by decide +kernel
theorem d10_bearsBy_9 : decode c10_bearsBy 9 = .ok (.ireturn, 1) := by decide +kernel
theorem d10_bearsBy_10 : decode c10_bearsBy 10 = .ok (.iload_n 2, 1) := by decide +kernel
theorem d10_bearsBy_11 : decode c10_bearsBy 11 = .ok (.iconst (-1), 1) := by decide +kernel
theorem d10_bearsBy_12 : decode c10_bearsBy 12 = .ok (.if_icmp .ne 10, 3) := by decide +kernel
theorem d10_bearsBy_15 : decode c10_bearsBy 15 = .ok (.aload_n 0, 1) := by decide +kernel
theorem d10_bearsBy_16 : decode c10_bearsBy 16 = .ok (.invokevirtual 256, 3) := by decide +kernel
theorem d10_bearsBy_19 : decode c10_bearsBy 19 = .ok (.goto 4, 3) := by decide +kernel
theorem d10_bearsBy_22 : decode c10_bearsBy 22 = .ok (.iload_n 2, 1) := by decide +kernel
theorem d10_bearsBy_23 : decode c10_bearsBy 23 = .ok (.istore_n 3, 1) := by decide +kernel
theorem d10_bearsBy_24 : decode c10_bearsBy 24 = .ok (.iconst 0, 1) := by decide +kernel
theorem d10_bearsBy_25 : decode c10_bearsBy 25 = .ok (.iload_n 3, 1) := by decide +kernel
theorem d10_bearsBy_26 : decode c10_bearsBy 26 = .ok (.aload_n 0, 1) := by decide +kernel
theorem d10_bearsBy_27 : decode c10_bearsBy 27 = .ok (.getfield 37, 3) := by decide +kernel
theorem d10_bearsBy_30 : decode c10_bearsBy 30 = .ok (.iload_n 1, 1) := by decide +kernel
theorem d10_bearsBy_31 : decode c10_bearsBy 31 = .ok (.iaload, 1) := by decide +kernel
theorem d10_bearsBy_32 : decode c10_bearsBy 32 = .ok (.isub, 1) := by decide +kernel
theorem d10_bearsBy_33 : decode c10_bearsBy 33 = .ok (.invokestatic 262, 3) := by decide +kernel
theorem d10_bearsBy_36 : decode c10_bearsBy 36 = .ok (.aload_n 0, 1) := by decide +kernel
theorem d10_bearsBy_37 : decode c10_bearsBy 37 = .ok (.iload_n 1, 1) := by decide +kernel
theorem d10_bearsBy_38 : decode c10_bearsBy 38 = .ok (.invokevirtual 265, 3) := by decide +kernel
theorem d10_bearsBy_41 : decode c10_bearsBy 41 = .ok (.imul, 1) := by decide +kernel
theorem d10_bearsBy_42 : decode c10_bearsBy 42 = .ok (.ireturn, 1) := by decide +kernel
def f10_bearsBy (D : Mem) (p0 : Int) (p1 : Int) : Option (Int) :=
  if w32 p0 = w32 (D 117 21) then
    some 0
  else
    Option.bind (
      if w32 p1 = w32 (-1) then
        Option.bind (f10_nights D) fun (a1 : Int) =>
        some a1
      else
        some p1
    ) fun (j1 : Int) =>
    if 0 ≤ p0 ∧ p0 < 8 then
      Option.bind (f10_costOf D p0) fun (a2 : Int) =>
      some ((max32 0 (j1 - (D 125 p0.toNat))) * a2)
    else none
set_option maxHeartbeats 4000000 in
theorem ok10_bearsBy {l : Launch} {X : XT} {n : Nat} {D : Mem} {Q : Option Value → Nat → Rho → Mem → Prop} (hn : 147 ≤ n) {p0 : Int} {p1 : Int}  (h : wpo (f10_bearsBy D p0 p1) (fun a => Q (some (vI a)) n rt D)) : MOK l y10_bearsBy c10_bearsBy 4 (some .int) { frames := 2, cells := 0, slots := 0, locals := 43 } 0 0 X [vR X 117, vI p0, vI p1] n rt D Q := by
  refine MOK_of 10 (by decide +kernel) rfl (lv := [(0, vR X 117), (1, vI p0), (2, vI p1)]) (Nat.le_of_ble_eq_true rfl) rfl (fun K hK F hnm => ?_)
  subst hK
  unfold f10_bearsBy at h
  refine r_iload_n F 1 rfl rfl d10_bearsBy_0 ?_
  refine r_aload_nR F 0 rfl rfl d10_bearsBy_1 ?_
  refine r_getI F lf10_234 (vc117 hn) d10_bearsBy_2 ?_
  refine r_icmp_ne F (tgt := 10) d10_bearsBy_5 (by decide) (fun hb => ?_) (fun hb => ?_)
  · replace h := wpo_neg h hb
    refine r_iload_n F 2 rfl rfl d10_bearsBy_10 ?_
    refine r_iconst F (z := (-1)) d10_bearsBy_11 ?_
    refine at_join (B := fun (j1 : Int) => At K X (ZQ K X Q) 0 0 n rt 4 23 [(0, vR X 117), (1, vI p0)] [vI j1] D) h (fun j1 h => ?_) (fun h => ?_)
    · refine r_istore_n F (lv' := [(3, vI j1), (0, vR X 117), (1, vI p0)]) rfl (Nat.le_of_ble_eq_true rfl) rfl d10_bearsBy_23 ?_
      refine r_iconst F (z := 0) d10_bearsBy_24 ?_
      refine r_iload_n F 0 rfl rfl d10_bearsBy_25 ?_
      refine r_aload_nR F 1 rfl rfl d10_bearsBy_26 ?_
      refine r_getR F (z := 125) lf10_37 (vc117 hn) z117_16 d10_bearsBy_27 ?_
      refine r_iload_n F 2 rfl rfl d10_bearsBy_30 ?_
      obtain ⟨hx1, h⟩ := wpo_chk h
      refine r_iald F (vc125 hn) hx1 d10_bearsBy_31 ?_
      refine r_isub F d10_bearsBy_32 ?_
      refine r_max F lm10_262 wm1 wm0 wm2 ⟨Nat.le_of_ble_eq_true rfl, Nat.le_of_ble_eq_true rfl, Nat.le_of_ble_eq_true rfl, Nat.le_of_ble_eq_true rfl⟩ d10_bearsBy_33 ?_
      refine r_aload_nR F 1 rfl rfl d10_bearsBy_36 ?_
      refine r_iload_n F 2 rfl rfl d10_bearsBy_37 ?_
      replace h := wpo_bind h
      refine r_callV0 F lm10_265 mf10_costOf (vc117 hn) rfl (fr := 1) (lo := 22) (As := [vI p0]) (rest := [vI (max32 0 (j1 - (D 125 p0.toNat)))]) ⟨Nat.le_of_ble_eq_true rfl, Nat.le_of_ble_eq_true rfl⟩ rfl (Nat.le_of_ble_eq_true rfl) ⟨Nat.zero_le _, Nat.zero_le _⟩ d10_bearsBy_38 ?_
      refine ok10_costOf hn  (kI h (fun a2 h => ?_))
      refine r_imul F d10_bearsBy_41 ?_
      replace h := wpo_some h
      exact r_iret F h d10_bearsBy_42
    · refine r_icmp_ne F (tgt := 22) d10_bearsBy_12 (by decide) (fun hb => ?_) (fun hb => ?_)
      · replace h := wpo_neg h hb
        refine r_iload_n F 2 rfl rfl d10_bearsBy_22 ?_
        refine r_weak [0, 1] rfl ?_
        replace h := wpo_some h
        exact h
      · replace h := wpo_pos h hb
        refine r_aload_nR F 0 rfl rfl d10_bearsBy_15 ?_
        replace h := wpo_bind h
        refine r_callV0 F lm10_256 mf10_nights (vc117 hn) rfl (fr := 0) (lo := 0) (As := []) (rest := []) ⟨Nat.le_of_ble_eq_true rfl, Nat.le_of_ble_eq_true rfl⟩ rfl (Nat.le_of_ble_eq_true rfl) ⟨Nat.zero_le _, Nat.zero_le _⟩ d10_bearsBy_16 ?_
        refine ok10_nights hn  (kI h (fun a1 h => ?_))
        refine r_goto F (tgt := 23) (by decide) d10_bearsBy_19 ?_
        refine r_weak [0, 1] rfl ?_
        replace h := wpo_some h
        exact h
  · replace h := wpo_pos h hb
    refine r_iconst F (z := 0) d10_bearsBy_8 ?_
    replace h := wpo_some h
    exact r_iret F h d10_bearsBy_9
theorem d10_bearsOf_0 : decode c10_bearsOf 0 = .ok (.aload_n 0, 1) := by decide +kernel
theorem d10_bearsOf_1 : decode c10_bearsOf 1 = .ok (.iload_n 1, 1) := by decide +kernel
theorem d10_bearsOf_2 : decode c10_bearsOf 2 = .ok (.aload_n 0, 1) := by decide +kernel
theorem d10_bearsOf_3 : decode c10_bearsOf 3 = .ok (.getfield 46, 3) := by decide +kernel
theorem d10_bearsOf_6 : decode c10_bearsOf 6 = .ok (.iload_n 1, 1) := by decide +kernel
theorem d10_bearsOf_7 : decode c10_bearsOf 7 = .ok (.iaload, 1) := by decide +kernel
theorem d10_bearsOf_8 : decode c10_bearsOf 8 = .ok (.invokevirtual 268, 3) := by decide +kernel
theorem d10_bearsOf_11 : decode c10_bearsOf 11 = .ok (.ireturn, 1) := by decide +kernel
def f10_bearsOf (D : Mem) (p0 : Int) : Option (Int) :=
  if 0 ≤ p0 ∧ p0 < 8 then
    Option.bind (f10_bearsBy D p0 (D 128 p0.toNat)) fun (a1 : Int) =>
    some a1
  else none
set_option maxHeartbeats 4000000 in
theorem ok10_bearsOf {l : Launch} {X : XT} {n : Nat} {D : Mem} {Q : Option Value → Nat → Rho → Mem → Prop} (hn : 147 ≤ n) {p0 : Int}  (h : wpo (f10_bearsOf D p0) (fun a => Q (some (vI a)) n rt D)) : MOK l y10_bearsOf c10_bearsOf 2 (some .int) { frames := 3, cells := 0, slots := 0, locals := 66 } 0 0 X [vR X 117, vI p0] n rt D Q := by
  refine MOK_of 10 (by decide +kernel) rfl (lv := [(0, vR X 117), (1, vI p0)]) (Nat.le_of_ble_eq_true rfl) rfl (fun K hK F hnm => ?_)
  subst hK
  unfold f10_bearsOf at h
  refine r_aload_nR F 0 rfl rfl d10_bearsOf_0 ?_
  refine r_iload_n F 1 rfl rfl d10_bearsOf_1 ?_
  refine r_aload_nR F 0 rfl rfl d10_bearsOf_2 ?_
  refine r_getR F (z := 128) lf10_46 (vc117 hn) z117_23 d10_bearsOf_3 ?_
  refine r_iload_n F 1 rfl rfl d10_bearsOf_6 ?_
  obtain ⟨hx1, h⟩ := wpo_chk h
  refine r_iald F (vc128 hn) hx1 d10_bearsOf_7 ?_
  replace h := wpo_bind h
  refine r_callV0 F lm10_268 mf10_bearsBy (vc117 hn) rfl (fr := 2) (lo := 43) (As := [vI p0, vI (D 128 p0.toNat)]) (rest := []) ⟨Nat.le_of_ble_eq_true rfl, Nat.le_of_ble_eq_true rfl⟩ rfl (Nat.le_of_ble_eq_true rfl) ⟨Nat.zero_le _, Nat.zero_le _⟩ d10_bearsOf_8 ?_
  refine ok10_bearsBy hn  (kI h (fun a1 h => ?_))
  replace h := wpo_some h
  exact r_iret F h d10_bearsOf_11
theorem d10_bearsAll_0 : decode c10_bearsAll 0 = .ok (.iconst 0, 1) := by decide +kernel
theorem d10_bearsAll_1 : decode c10_bearsAll 1 = .ok (.istore_n 1, 1) := by decide +kernel
theorem d10_bearsAll_2 : decode c10_bearsAll 2 = .ok (.iconst 0, 1) := by decide +kernel
theorem d10_bearsAll_3 : decode c10_bearsAll 3 = .ok (.istore_n 2, 1) := by decide +kernel
theorem d10_bearsAll_4 : decode c10_bearsAll 4 = .ok (.iload_n 2, 1) := by decide +kernel
theorem d10_bearsAll_5 : decode c10_bearsAll 5 = .ok (.aload_n 0, 1) := by decide +kernel
theorem d10_bearsAll_6 : decode c10_bearsAll 6 = .ok (.getfield 9, 3) := by decide +kernel
theorem d10_bearsAll_9 : decode c10_bearsAll 9 = .ok (.bipush 7, 2) := by decide +kernel
theorem d10_bearsAll_11 : decode c10_bearsAll 11 = .ok (.iaload, 1) := by decide +kernel
theorem d10_bearsAll_12 : decode c10_bearsAll 12 = .ok (.if_icmp .ge 17, 3) := by decide +kernel
theorem d10_bearsAll_15 : decode c10_bearsAll 15 = .ok (.iload_n 1, 1) := by decide +kernel
theorem d10_bearsAll_16 : decode c10_bearsAll 16 = .ok (.aload_n 0, 1) := by decide +kernel
theorem d10_bearsAll_17 : decode c10_bearsAll 17 = .ok (.iload_n 2, 1) := by decide +kernel
theorem d10_bearsAll_18 : decode c10_bearsAll 18 = .ok (.invokevirtual 271, 3) := by decide +kernel
theorem d10_bearsAll_21 : decode c10_bearsAll 21 = .ok (.iadd, 1) := by decide +kernel
theorem d10_bearsAll_22 : decode c10_bearsAll 22 = .ok (.istore_n 1, 1) := by decide +kernel
theorem d10_bearsAll_23 : decode c10_bearsAll 23 = .ok (.iinc 2 1, 3) := by decide +kernel
theorem d10_bearsAll_26 : decode c10_bearsAll 26 = .ok (.goto (-22), 3) := by decide +kernel
theorem d10_bearsAll_29 : decode c10_bearsAll 29 = .ok (.iload_n 1, 1) := by decide +kernel
theorem d10_bearsAll_30 : decode c10_bearsAll 30 = .ok (.ireturn, 1) := by decide +kernel
def f10_bearsAll (D : Mem) : Option (Int) :=
  Option.bind (@loop (Int × Int) (Int) (fun s1 =>
    if w32 s1.2 < w32 (D 118 7) then
      Option.bind (f10_bearsOf D s1.2) fun (a1 : Int) =>
      some (Sum.inl ((s1.1 + a1), (s1.2 + 1)))
    else
      some (Sum.inr s1.1)
  ) FU (0, 0)) fun (b1 : Int) =>
  some b1
set_option maxHeartbeats 4000000 in
theorem ok10_bearsAll {l : Launch} {X : XT} {n : Nat} {D : Mem} {Q : Option Value → Nat → Rho → Mem → Prop} (hn : 147 ≤ n)  (h : wpo (f10_bearsAll D) (fun a => Q (some (vI a)) n rt D)) : MOK l y10_bearsAll c10_bearsAll 3 (some .int) { frames := 4, cells := 0, slots := 0, locals := 87 } 0 0 X [vR X 117] n rt D Q := by
  refine MOK_of 10 (by decide +kernel) rfl (lv := [(0, vR X 117)]) (Nat.le_of_ble_eq_true rfl) rfl (fun K hK F hnm => ?_)
  subst hK
  unfold f10_bearsAll at h
  refine r_iconst F (z := 0) d10_bearsAll_0 ?_
  refine r_istore_n F (lv' := [(1, vI 0), (0, vR X 117)]) rfl (Nat.le_of_ble_eq_true rfl) rfl d10_bearsAll_1 ?_
  refine r_iconst F (z := 0) d10_bearsAll_2 ?_
  refine r_istore_n F (lv' := [(2, vI 0), (1, vI 0), (0, vR X 117)]) rfl (Nat.le_of_ble_eq_true rfl) rfl d10_bearsAll_3 ?_
  refine r_weak [2, 1, 0] rfl ?_
  refine at_loopj (A := fun (s1 : Int × Int) => At K X (ZQ K X Q) 0 0 n rt 3 4 [(0, vR X 117), (1, vI s1.1), (2, vI s1.2)] [] D) (B := fun (b1 : Int) => At K X (ZQ K X Q) 0 0 n rt 3 29 [(1, vI b1)] [] D) h (fun b1 h => ?_) (fun s1 h => ?_)
  · refine r_iload_n F 0 rfl rfl d10_bearsAll_29 ?_
    replace h := wpo_some h
    exact r_iret F h d10_bearsAll_30
  · refine r_iload_n F 2 rfl rfl d10_bearsAll_4 ?_
    refine r_aload_nR F 0 rfl rfl d10_bearsAll_5 ?_
    refine r_getR F (z := 118) lf10_9 (vc117 hn) z117_1 d10_bearsAll_6 ?_
    refine r_bipush F (z := 7) (by decide) d10_bearsAll_9 ?_
    refine r_ialdC F (j := 7) (vc118 hn) (by decide) rfl d10_bearsAll_11 ?_
    refine r_icmp_ge F (tgt := 29) d10_bearsAll_12 (by decide) (fun hb => ?_) (fun hb => ?_)
    · replace h := wpo_neg h hb
      refine r_weak [1] rfl ?_
      replace h := wpo_inr h
      exact h
    · replace h := wpo_pos h hb
      refine r_iload_n F 1 rfl rfl d10_bearsAll_15 ?_
      refine r_aload_nR F 0 rfl rfl d10_bearsAll_16 ?_
      refine r_iload_n F 2 rfl rfl d10_bearsAll_17 ?_
      replace h := wpo_bind h
      refine r_callV0 F lm10_271 mf10_bearsOf (vc117 hn) rfl (fr := 3) (lo := 66) (As := [vI s1.2]) (rest := [vI s1.1]) ⟨Nat.le_of_ble_eq_true rfl, Nat.le_of_ble_eq_true rfl⟩ rfl (Nat.le_of_ble_eq_true rfl) ⟨Nat.zero_le _, Nat.zero_le _⟩ d10_bearsAll_18 ?_
      refine ok10_bearsOf hn  (kI h (fun a1 h => ?_))
      refine r_iadd F d10_bearsAll_21 ?_
      refine r_istore_n F (lv' := [(1, vI (s1.1 + a1)), (0, vR X 117), (2, vI s1.2)]) rfl (Nat.le_of_ble_eq_true rfl) rfl d10_bearsAll_22 ?_
      refine r_iinc F 2 (lv' := [(2, vI (s1.2 + 1)), (1, vI (s1.1 + a1)), (0, vR X 117)]) rfl (Nat.le_of_ble_eq_true rfl) rfl d10_bearsAll_23 ?_
      refine r_goto F (tgt := 4) (by decide) d10_bearsAll_26 ?_
      refine r_weak [2, 1, 0] rfl ?_
      replace h := wpo_inl h
      exact h
theorem d10_asksParish_0 : decode c10_asksParish 0 = .ok (.aload_n 0, 1) := by decide +kernel
theorem d10_asksParish_1 : decode c10_asksParish 1 = .ok (.invokevirtual 274, 3) := by decide +kernel
theorem d10_asksParish_4 : decode c10_asksParish 4 = .ok (.aload_n 0, 1) := by decide +kernel
theorem d10_asksParish_5 : decode c10_asksParish 5 = .ok (.invokevirtual 277, 3) := by decide +kernel
theorem d10_asksParish_8 : decode c10_asksParish 8 = .ok (.aload_n 0, 1) := by decide +kernel
theorem d10_asksParish_9 : decode c10_asksParish 9 = .ok (.invokevirtual 113, 3) := by decide +kernel
theorem d10_asksParish_12 : decode c10_asksParish 12 = .ok (.ireturn, 1) := by decide +kernel
def f10_asksParish (D : Mem) : Option (Int × Mem) :=
  Option.bind (f10_asItIs D) fun (a1 : Mem) =>
  Option.bind (f10_goNights a1) fun (a2 : Mem) =>
  Option.bind (f10_isParish a2) fun (a3 : Int) =>
  if a3 = 0 ∨ a3 = 1 then
    some (a3, a2)
  else none
set_option maxHeartbeats 4000000 in
theorem ok10_asksParish {l : Launch} {X : XT} {n : Nat} {D : Mem} {Q : Option Value → Nat → Rho → Mem → Prop} (hn : 147 ≤ n)  (h : wpo (f10_asksParish D) (fun a => Q (some (vI a.1)) n rt a.2)) : MOK l y10_asksParish c10_asksParish 1 (some .boolean) { frames := 4, cells := 0, slots := 0, locals := 93 } 0 0 X [vR X 117] n rt D Q := by
  refine MOK_of 10 (by decide +kernel) rfl (lv := [(0, vR X 117)]) (Nat.le_of_ble_eq_true rfl) rfl (fun K hK F hnm => ?_)
  subst hK
  unfold f10_asksParish at h
  refine r_aload_nR F 0 rfl rfl d10_asksParish_0 ?_
  replace h := wpo_bind h
  refine r_callV0 F lm10_274 mf10_asItIs (vc117 hn) rfl (fr := 1) (lo := 22) (As := []) (rest := []) ⟨Nat.le_of_ble_eq_true rfl, Nat.le_of_ble_eq_true rfl⟩ rfl (Nat.le_of_ble_eq_true rfl) ⟨Nat.zero_le _, Nat.zero_le _⟩ d10_asksParish_1 ?_
  refine ok10_asItIs hn  (kVm h (fun a1 h => ?_))
  refine r_aload_nR F 0 rfl rfl d10_asksParish_4 ?_
  replace h := wpo_bind h
  refine r_callV0 F lm10_277 mf10_goNights (vc117 hn) rfl (fr := 3) (lo := 72) (As := []) (rest := []) ⟨Nat.le_of_ble_eq_true rfl, Nat.le_of_ble_eq_true rfl⟩ rfl (Nat.le_of_ble_eq_true rfl) ⟨Nat.zero_le _, Nat.zero_le _⟩ d10_asksParish_5 ?_
  refine ok10_goNights hn  (kVm h (fun a2 h => ?_))
  refine r_aload_nR F 0 rfl rfl d10_asksParish_8 ?_
  replace h := wpo_bind h
  refine r_callV0 F lm10_113 mf10_isParish (vc117 hn) rfl (fr := 0) (lo := 0) (As := []) (rest := []) ⟨Nat.le_of_ble_eq_true rfl, Nat.le_of_ble_eq_true rfl⟩ rfl (Nat.le_of_ble_eq_true rfl) ⟨Nat.zero_le _, Nat.zero_le _⟩ d10_asksParish_9 ?_
  refine ok10_isParish hn  (kI h (fun a3 h => ?_))
  obtain ⟨hx1, h⟩ := wpo_chk h
  replace h := wpo_some h
  exact r_zret F hx1 h d10_asksParish_12
theorem d10_asksPerson_0 : decode c10_asksPerson 0 = .ok (.aload_n 0, 1) := by decide +kernel
theorem d10_asksPerson_1 : decode c10_asksPerson 1 = .ok (.invokevirtual 280, 3) := by decide +kernel
theorem d10_asksPerson_4 : decode c10_asksPerson 4 = .ok (.pop, 1) := by decide +kernel
theorem d10_asksPerson_5 : decode c10_asksPerson 5 = .ok (.aload_n 0, 1) := by decide +kernel
theorem d10_asksPerson_6 : decode c10_asksPerson 6 = .ok (.iload_n 1, 1) := by decide +kernel
theorem d10_asksPerson_7 : decode c10_asksPerson 7 = .ok (.invokevirtual 283, 3) := by decide +kernel
theorem d10_asksPerson_10 : decode c10_asksPerson 10 = .ok (.ireturn, 1) := by decide +kernel
def f10_asksPerson (D : Mem) (p0 : Int) : Option (Int × Mem) :=
  Option.bind (f10_asksParish D) fun (a1 : Int × Mem) =>
  Option.bind (f10_isPerson a1.2 p0) fun (a2 : Int) =>
  if a2 = 0 ∨ a2 = 1 then
    some (a2, a1.2)
  else none
set_option maxHeartbeats 4000000 in
theorem ok10_asksPerson {l : Launch} {X : XT} {n : Nat} {D : Mem} {Q : Option Value → Nat → Rho → Mem → Prop} (hn : 147 ≤ n) {p0 : Int}  (h : wpo (f10_asksPerson D p0) (fun a => Q (some (vI a.1)) n rt a.2)) : MOK l y10_asksPerson c10_asksPerson 2 (some .boolean) { frames := 5, cells := 0, slots := 0, locals := 113 } 0 0 X [vR X 117, vI p0] n rt D Q := by
  refine MOK_of 10 (by decide +kernel) rfl (lv := [(0, vR X 117), (1, vI p0)]) (Nat.le_of_ble_eq_true rfl) rfl (fun K hK F hnm => ?_)
  subst hK
  unfold f10_asksPerson at h
  refine r_aload_nR F 0 rfl rfl d10_asksPerson_0 ?_
  replace h := wpo_bind h
  refine r_callV0 F lm10_280 mf10_asksParish (vc117 hn) rfl (fr := 4) (lo := 93) (As := []) (rest := []) ⟨Nat.le_of_ble_eq_true rfl, Nat.le_of_ble_eq_true rfl⟩ rfl (Nat.le_of_ble_eq_true rfl) ⟨Nat.zero_le _, Nat.zero_le _⟩ d10_asksPerson_1 ?_
  refine ok10_asksParish hn  (kIm h (fun a1 h => ?_))
  refine r_pop F rfl d10_asksPerson_4 ?_
  refine r_aload_nR F 0 rfl rfl d10_asksPerson_5 ?_
  refine r_iload_n F 1 rfl rfl d10_asksPerson_6 ?_
  replace h := wpo_bind h
  refine r_callV0 F lm10_283 mf10_isPerson (vc117 hn) rfl (fr := 1) (lo := 25) (As := [vI p0]) (rest := []) ⟨Nat.le_of_ble_eq_true rfl, Nat.le_of_ble_eq_true rfl⟩ rfl (Nat.le_of_ble_eq_true rfl) ⟨Nat.zero_le _, Nat.zero_le _⟩ d10_asksPerson_7 ?_
  refine ok10_isPerson hn  (kI h (fun a2 h => ?_))
  obtain ⟨hx1, h⟩ := wpo_chk h
  replace h := wpo_some h
  exact r_zret F hx1 h d10_asksPerson_10
theorem d10_asksNight_0 : decode c10_asksNight 0 = .ok (.aload_n 0, 1) := by decide +kernel
theorem d10_asksNight_1 : decode c10_asksNight 1 = .ok (.invokevirtual 280, 3) := by decide +kernel
theorem d10_asksNight_4 : decode c10_asksNight 4 = .ok (.pop, 1) := by decide +kernel
theorem d10_asksNight_5 : decode c10_asksNight 5 = .ok (.aload_n 0, 1) := by decide +kernel
theorem d10_asksNight_6 : decode c10_asksNight 6 = .ok (.iload_n 1, 1) := by decide +kernel
theorem d10_asksNight_7 : decode c10_asksNight 7 = .ok (.i2l, 1) := by decide +kernel
theorem d10_asksNight_8 : decode c10_asksNight 8 = .ok (.invokevirtual 287, 3) := by decide +kernel
theorem d10_asksNight_11 : decode c10_asksNight 11 = .ok (.ireturn, 1) := by decide +kernel
def f10_asksNight (D : Mem) (p0 : Int) : Option (Int × Mem) :=
  Option.bind (f10_asksParish D) fun (a1 : Int × Mem) =>
  Option.bind (f10_isNight a1.2 (w32 p0)) fun (a2 : Int) =>
  if a2 = 0 ∨ a2 = 1 then
    some (a2, a1.2)
  else none
set_option maxHeartbeats 4000000 in
theorem ok10_asksNight {l : Launch} {X : XT} {n : Nat} {D : Mem} {Q : Option Value → Nat → Rho → Mem → Prop} (hn : 147 ≤ n) {p0 : Int}  (h : wpo (f10_asksNight D p0) (fun a => Q (some (vI a.1)) n rt a.2)) : MOK l y10_asksNight c10_asksNight 2 (some .boolean) { frames := 5, cells := 0, slots := 0, locals := 113 } 0 0 X [vR X 117, vI p0] n rt D Q := by
  refine MOK_of 10 (by decide +kernel) rfl (lv := [(0, vR X 117), (1, vI p0)]) (Nat.le_of_ble_eq_true rfl) rfl (fun K hK F hnm => ?_)
  subst hK
  unfold f10_asksNight at h
  refine r_aload_nR F 0 rfl rfl d10_asksNight_0 ?_
  replace h := wpo_bind h
  refine r_callV0 F lm10_280 mf10_asksParish (vc117 hn) rfl (fr := 4) (lo := 93) (As := []) (rest := []) ⟨Nat.le_of_ble_eq_true rfl, Nat.le_of_ble_eq_true rfl⟩ rfl (Nat.le_of_ble_eq_true rfl) ⟨Nat.zero_le _, Nat.zero_le _⟩ d10_asksNight_1 ?_
  refine ok10_asksParish hn  (kIm h (fun a1 h => ?_))
  refine r_pop F rfl d10_asksNight_4 ?_
  refine r_aload_nR F 0 rfl rfl d10_asksNight_5 ?_
  refine r_iload_n F 1 rfl rfl d10_asksNight_6 ?_
  refine r_i2l F d10_asksNight_7 ?_
  replace h := wpo_bind h
  refine r_callV0 F lm10_287 mf10_isNight (vc117 hn) rfl (fr := 1) (lo := 25) (As := [vL (w32 p0)]) (rest := []) ⟨Nat.le_of_ble_eq_true rfl, Nat.le_of_ble_eq_true rfl⟩ rfl (Nat.le_of_ble_eq_true rfl) ⟨Nat.zero_le _, Nat.zero_le _⟩ d10_asksNight_8 ?_
  refine ok10_isNight hn  (kI h (fun a2 h => ?_))
  obtain ⟨hx1, h⟩ := wpo_chk h
  replace h := wpo_some h
  exact r_zret F hx1 h d10_asksNight_11
theorem d10_waitsIn_0 : decode c10_waitsIn 0 = .ok (.iconst 0, 1) := by decide +kernel
theorem d10_waitsIn_1 : decode c10_waitsIn 1 = .ok (.istore_n 2, 1) := by decide +kernel
theorem d10_waitsIn_2 : decode c10_waitsIn 2 = .ok (.iconst 0, 1) := by decide +kernel
theorem d10_waitsIn_3 : decode c10_waitsIn 3 = .ok (.istore_n 3, 1) := by decide +kernel
theorem d10_waitsIn_4 : decode c10_waitsIn 4 = .ok (.iload_n 3, 1) := by decide +kernel
theorem d10_waitsIn_5 : decode c10_waitsIn 5 = .ok (.aload_n 0, 1) := by decide +kernel
theorem d10_waitsIn_6 : decode c10_waitsIn 6 = .ok (.getfield 9, 3) := by decide +kernel
theorem d10_waitsIn_9 : decode c10_waitsIn 9 = .ok (.bipush 7, 2) := by decide +kernel
theorem d10_waitsIn_11 : decode c10_waitsIn 11 = .ok (.iaload, 1) := by decide +kernel
theorem d10_waitsIn_12 : decode c10_waitsIn 12 = .ok (.if_icmp .ge 28, 3) := by decide +kernel
theorem d10_waitsIn_15 : decode c10_waitsIn 15 = .ok (.iload_n 2, 1) := by decide +kernel
theorem d10_waitsIn_16 : decode c10_waitsIn 16 = .ok (.aload_n 0, 1) := by decide +kernel
theorem d10_waitsIn_17 : decode c10_waitsIn 17 = .ok (.iload_n 3, 1) := by decide +kernel
theorem d10_waitsIn_18 : decode c10_waitsIn 18 = .ok (.iload_n 1, 1) := by decide +kernel
theorem d10_waitsIn_19 : decode c10_waitsIn 19 = .ok (.invokevirtual 246, 3) := by decide +kernel
theorem d10_waitsIn_22 : decode c10_waitsIn 22 = .ok (.ifCond .eq 9, 3) := by decide +kernel
theorem d10_waitsIn_25 : decode c10_waitsIn 25 = .ok (.iconst 1, 1) := by decide +kernel
theorem d10_waitsIn_26 : decode c10_waitsIn 26 = .ok (.iload_n 3, 1) := by decide +kernel
theorem d10_waitsIn_27 : decode c10_waitsIn 27 = .ok (.ishl, 1) := by decide +kernel
theorem d10_waitsIn_28 : decode c10_waitsIn 28 = .ok (.goto 4, 3) := by decide +kernel
theorem d10_waitsIn_31 : decode c10_waitsIn 31 = .ok (.iconst 0, 1) := by decide +kernel
theorem d10_waitsIn_32 : decode c10_waitsIn 32 = .ok (.ior, 1) := by decide +kernel
theorem d10_waitsIn_33 : decode c10_waitsIn 33 = .ok (.istore_n 2, 1) := by decide +kernel
theorem d10_waitsIn_34 : decode c10_waitsIn 34 = .ok (.iinc 3 1, 3) := by decide +kernel
theorem d10_waitsIn_37 : decode c10_waitsIn 37 = .ok (.goto (-33), 3) := by decide +kernel
theorem d10_waitsIn_40 : decode c10_waitsIn 40 = .ok (.iload_n 2, 1) := by decide +kernel
theorem d10_waitsIn_41 : decode c10_waitsIn 41 = .ok (.ireturn, 1) := by decide +kernel
def f10_waitsIn (D : Mem) (p0 : Int) : Option (Int) :=
  Option.bind (@loop (Int × Int) (Int) (fun s1 =>
    if w32 s1.2 < w32 (D 118 7) then
      Option.bind (f10_hasAche D s1.2 p0) fun (a1 : Int) =>
      Option.bind (
        if w32 a1 = 0 then
          some 0
        else
          some (shl32 1 s1.2)
      ) fun (j1 : Int) =>
      some (Sum.inl ((or32 s1.1 j1), (s1.2 + 1)))
    else
      some (Sum.inr s1.1)
  ) FU (0, 0)) fun (b1 : Int) =>
  some b1
set_option maxHeartbeats 4000000 in
theorem ok10_waitsIn {l : Launch} {X : XT} {n : Nat} {D : Mem} {Q : Option Value → Nat → Rho → Mem → Prop} (hn : 147 ≤ n) {p0 : Int}  (h : wpo (f10_waitsIn D p0) (fun a => Q (some (vI a)) n rt D)) : MOK l y10_waitsIn c10_waitsIn 4 (some .int) { frames := 1, cells := 0, slots := 0, locals := 22 } 0 0 X [vR X 117, vI p0] n rt D Q := by
  refine MOK_of 10 (by decide +kernel) rfl (lv := [(0, vR X 117), (1, vI p0)]) (Nat.le_of_ble_eq_true rfl) rfl (fun K hK F hnm => ?_)
  subst hK
  unfold f10_waitsIn at h
  refine r_iconst F (z := 0) d10_waitsIn_0 ?_
  refine r_istore_n F (lv' := [(2, vI 0), (0, vR X 117), (1, vI p0)]) rfl (Nat.le_of_ble_eq_true rfl) rfl d10_waitsIn_1 ?_
  refine r_iconst F (z := 0) d10_waitsIn_2 ?_
  refine r_istore_n F (lv' := [(3, vI 0), (2, vI 0), (0, vR X 117), (1, vI p0)]) rfl (Nat.le_of_ble_eq_true rfl) rfl d10_waitsIn_3 ?_
  refine r_weak [2, 3, 1, 0] rfl ?_
  refine at_loopj (A := fun (s1 : Int × Int) => At K X (ZQ K X Q) 0 0 n rt 4 4 [(0, vR X 117), (1, vI p0), (2, vI s1.1), (3, vI s1.2)] [] D) (B := fun (b1 : Int) => At K X (ZQ K X Q) 0 0 n rt 4 40 [(2, vI b1)] [] D) h (fun b1 h => ?_) (fun s1 h => ?_)
  · refine r_iload_n F 0 rfl rfl d10_waitsIn_40 ?_
    replace h := wpo_some h
    exact r_iret F h d10_waitsIn_41
  · refine r_iload_n F 3 rfl rfl d10_waitsIn_4 ?_
    refine r_aload_nR F 0 rfl rfl d10_waitsIn_5 ?_
    refine r_getR F (z := 118) lf10_9 (vc117 hn) z117_1 d10_waitsIn_6 ?_
    refine r_bipush F (z := 7) (by decide) d10_waitsIn_9 ?_
    refine r_ialdC F (j := 7) (vc118 hn) (by decide) rfl d10_waitsIn_11 ?_
    refine r_icmp_ge F (tgt := 40) d10_waitsIn_12 (by decide) (fun hb => ?_) (fun hb => ?_)
    · replace h := wpo_neg h hb
      refine r_weak [2] rfl ?_
      replace h := wpo_inr h
      exact h
    · replace h := wpo_pos h hb
      refine r_iload_n F 2 rfl rfl d10_waitsIn_15 ?_
      refine r_aload_nR F 0 rfl rfl d10_waitsIn_16 ?_
      refine r_iload_n F 3 rfl rfl d10_waitsIn_17 ?_
      refine r_iload_n F 1 rfl rfl d10_waitsIn_18 ?_
      replace h := wpo_bind h
      refine r_callV0 F lm10_246 mf10_hasAche (vc117 hn) rfl (fr := 0) (lo := 0) (As := [vI s1.2, vI p0]) (rest := [vI s1.1]) ⟨Nat.le_of_ble_eq_true rfl, Nat.le_of_ble_eq_true rfl⟩ rfl (Nat.le_of_ble_eq_true rfl) ⟨Nat.zero_le _, Nat.zero_le _⟩ d10_waitsIn_19 ?_
      refine ok10_hasAche hn  (kI h (fun a1 h => ?_))
      refine at_join (B := fun (j1 : Int) => At K X (ZQ K X Q) 0 0 n rt 4 32 [(0, vR X 117), (1, vI p0), (3, vI s1.2)] [vI j1, vI s1.1] D) h (fun j1 h => ?_) (fun h => ?_)
      · refine r_ior F d10_waitsIn_32 ?_
        refine r_istore_n F (lv' := [(2, vI (or32 s1.1 j1)), (0, vR X 117), (1, vI p0), (3, vI s1.2)]) rfl (Nat.le_of_ble_eq_true rfl) rfl d10_waitsIn_33 ?_
        refine r_iinc F 3 (lv' := [(3, vI (s1.2 + 1)), (2, vI (or32 s1.1 j1)), (0, vR X 117), (1, vI p0)]) rfl (Nat.le_of_ble_eq_true rfl) rfl d10_waitsIn_34 ?_
        refine r_goto F (tgt := 4) (by decide) d10_waitsIn_37 ?_
        refine r_weak [2, 3, 1, 0] rfl ?_
        replace h := wpo_inl h
        exact h
      · refine r_if_eq F (tgt := 31) d10_waitsIn_22 (by decide) (fun hb => ?_) (fun hb => ?_)
        · replace h := wpo_pos h hb
          refine r_iconst F (z := 0) d10_waitsIn_31 ?_
          refine r_weak [0, 1, 3] rfl ?_
          replace h := wpo_some h
          exact h
        · replace h := wpo_neg h hb
          refine r_iconst F (z := 1) d10_waitsIn_25 ?_
          refine r_iload_n F 3 rfl rfl d10_waitsIn_26 ?_
          refine r_ishl F d10_waitsIn_27 ?_
          refine r_goto F (tgt := 32) (by decide) d10_waitsIn_28 ?_
          refine r_weak [0, 1, 3] rfl ?_
          replace h := wpo_some h
          exact h
theorem d10_givenIn_0 : decode c10_givenIn 0 = .ok (.iconst 0, 1) := by decide +kernel
theorem d10_givenIn_1 : decode c10_givenIn 1 = .ok (.istore_n 2, 1) := by decide +kernel
theorem d10_givenIn_2 : decode c10_givenIn 2 = .ok (.iconst 0, 1) := by decide +kernel
theorem d10_givenIn_3 : decode c10_givenIn 3 = .ok (.istore_n 3, 1) := by decide +kernel
theorem d10_givenIn_4 : decode c10_givenIn 4 = .ok (.iload_n 3, 1) := by decide +kernel
theorem d10_givenIn_5 : decode c10_givenIn 5 = .ok (.aload_n 0, 1) := by decide +kernel
theorem d10_givenIn_6 : decode c10_givenIn 6 = .ok (.getfield 9, 3) := by decide +kernel
theorem d10_givenIn_9 : decode c10_givenIn 9 = .ok (.bipush 7, 2) := by decide +kernel
theorem d10_givenIn_11 : decode c10_givenIn 11 = .ok (.iaload, 1) := by decide +kernel
theorem d10_givenIn_12 : decode c10_givenIn 12 = .ok (.if_icmp .ge 29, 3) := by decide +kernel
theorem d10_givenIn_15 : decode c10_givenIn 15 = .ok (.iload_n 2, 1) := by decide +kernel
theorem d10_givenIn_16 : decode c10_givenIn 16 = .ok (.aload_n 0, 1) := by decide +kernel
theorem d10_givenIn_17 : decode c10_givenIn 17 = .ok (.getfield 46, 3) := by decide +kernel
theorem d10_givenIn_20 : decode c10_givenIn 20 = .ok (.iload_n 3, 1) := by decide +kernel
theorem d10_givenIn_21 : decode c10_givenIn 21 = .ok (.iaload, 1) := by decide +kernel
theorem d10_givenIn_22 : decode c10_givenIn 22 = .ok (.iload_n 1, 1) := by decide +kernel
theorem d10_givenIn_23 : decode c10_givenIn 23 = .ok (.if_icmp .ne 9, 3) := by decide +kernel
theorem d10_givenIn_26 : decode c10_givenIn 26 = .ok (.iconst 1, 1) := by decide +kernel
theorem d10_givenIn_27 : decode c10_givenIn 27 = .ok (.iload_n 3, 1) := by decide +kernel
theorem d10_givenIn_28 : decode c10_givenIn 28 = .ok (.ishl, 1) := by decide +kernel
theorem d10_givenIn_29 : decode c10_givenIn 29 = .ok (.goto 4, 3) := by decide +kernel
theorem d10_givenIn_32 : decode c10_givenIn 32 = .ok (.iconst 0, 1) := by decide +kernel
theorem d10_givenIn_33 : decode c10_givenIn 33 = .ok (.ior, 1) := by decide +kernel
theorem d10_givenIn_34 : decode c10_givenIn 34 = .ok (.istore_n 2, 1) := by decide +kernel
theorem d10_givenIn_35 : decode c10_givenIn 35 = .ok (.iinc 3 1, 3) := by decide +kernel
theorem d10_givenIn_38 : decode c10_givenIn 38 = .ok (.goto (-34), 3) := by decide +kernel
theorem d10_givenIn_41 : decode c10_givenIn 41 = .ok (.iload_n 2, 1) := by decide +kernel
theorem d10_givenIn_42 : decode c10_givenIn 42 = .ok (.ireturn, 1) := by decide +kernel
def f10_givenIn (D : Mem) (p0 : Int) : Option (Int) :=
  Option.bind (@loop (Int × Int) (Int) (fun s1 =>
    if w32 s1.2 < w32 (D 118 7) then
      if 0 ≤ s1.2 ∧ s1.2 < 8 then
        Option.bind (
          if w32 (D 128 s1.2.toNat) = w32 p0 then
            some (shl32 1 s1.2)
          else
            some 0
        ) fun (j1 : Int) =>
        some (Sum.inl ((or32 s1.1 j1), (s1.2 + 1)))
      else none
    else
      some (Sum.inr s1.1)
  ) FU (0, 0)) fun (b1 : Int) =>
  some b1
set_option maxHeartbeats 4000000 in
theorem ok10_givenIn {l : Launch} {X : XT} {n : Nat} {D : Mem} {Q : Option Value → Nat → Rho → Mem → Prop} (hn : 147 ≤ n) {p0 : Int}  (h : wpo (f10_givenIn D p0) (fun a => Q (some (vI a)) n rt D)) : MOK l y10_givenIn c10_givenIn 4 (some .int) { frames := 0, cells := 0, slots := 0, locals := 0 } 0 0 X [vR X 117, vI p0] n rt D Q := by
  refine MOK_of 10 (by decide +kernel) rfl (lv := [(0, vR X 117), (1, vI p0)]) (Nat.le_of_ble_eq_true rfl) rfl (fun K hK F hnm => ?_)
  subst hK
  unfold f10_givenIn at h
  refine r_iconst F (z := 0) d10_givenIn_0 ?_
  refine r_istore_n F (lv' := [(2, vI 0), (0, vR X 117), (1, vI p0)]) rfl (Nat.le_of_ble_eq_true rfl) rfl d10_givenIn_1 ?_
  refine r_iconst F (z := 0) d10_givenIn_2 ?_
  refine r_istore_n F (lv' := [(3, vI 0), (2, vI 0), (0, vR X 117), (1, vI p0)]) rfl (Nat.le_of_ble_eq_true rfl) rfl d10_givenIn_3 ?_
  refine r_weak [2, 3, 1, 0] rfl ?_
  refine at_loopj (A := fun (s1 : Int × Int) => At K X (ZQ K X Q) 0 0 n rt 4 4 [(0, vR X 117), (1, vI p0), (2, vI s1.1), (3, vI s1.2)] [] D) (B := fun (b1 : Int) => At K X (ZQ K X Q) 0 0 n rt 4 41 [(2, vI b1)] [] D) h (fun b1 h => ?_) (fun s1 h => ?_)
  · refine r_iload_n F 0 rfl rfl d10_givenIn_41 ?_
    replace h := wpo_some h
    exact r_iret F h d10_givenIn_42
  · refine r_iload_n F 3 rfl rfl d10_givenIn_4 ?_
    refine r_aload_nR F 0 rfl rfl d10_givenIn_5 ?_
    refine r_getR F (z := 118) lf10_9 (vc117 hn) z117_1 d10_givenIn_6 ?_
    refine r_bipush F (z := 7) (by decide) d10_givenIn_9 ?_
    refine r_ialdC F (j := 7) (vc118 hn) (by decide) rfl d10_givenIn_11 ?_
    refine r_icmp_ge F (tgt := 41) d10_givenIn_12 (by decide) (fun hb => ?_) (fun hb => ?_)
    · replace h := wpo_neg h hb
      refine r_weak [2] rfl ?_
      replace h := wpo_inr h
      exact h
    · replace h := wpo_pos h hb
      refine r_iload_n F 2 rfl rfl d10_givenIn_15 ?_
      refine r_aload_nR F 0 rfl rfl d10_givenIn_16 ?_
      refine r_getR F (z := 128) lf10_46 (vc117 hn) z117_23 d10_givenIn_17 ?_
      refine r_iload_n F 3 rfl rfl d10_givenIn_20 ?_
      obtain ⟨hx1, h⟩ := wpo_chk h
      refine r_iald F (vc128 hn) hx1 d10_givenIn_21 ?_
      refine r_iload_n F 1 rfl rfl d10_givenIn_22 ?_
      refine at_join (B := fun (j1 : Int) => At K X (ZQ K X Q) 0 0 n rt 4 33 [(0, vR X 117), (1, vI p0), (3, vI s1.2)] [vI j1, vI s1.1] D) h (fun j1 h => ?_) (fun h => ?_)
      · refine r_ior F d10_givenIn_33 ?_
        refine r_istore_n F (lv' := [(2, vI (or32 s1.1 j1)), (0, vR X 117), (1, vI p0), (3, vI s1.2)]) rfl (Nat.le_of_ble_eq_true rfl) rfl d10_givenIn_34 ?_
        refine r_iinc F 3 (lv' := [(3, vI (s1.2 + 1)), (2, vI (or32 s1.1 j1)), (0, vR X 117), (1, vI p0)]) rfl (Nat.le_of_ble_eq_true rfl) rfl d10_givenIn_35 ?_
        refine r_goto F (tgt := 4) (by decide) d10_givenIn_38 ?_
        refine r_weak [2, 3, 1, 0] rfl ?_
        replace h := wpo_inl h
        exact h
      · refine r_icmp_ne F (tgt := 32) d10_givenIn_23 (by decide) (fun hb => ?_) (fun hb => ?_)
        · replace h := wpo_neg h hb
          refine r_iconst F (z := 0) d10_givenIn_32 ?_
          refine r_weak [0, 1, 3] rfl ?_
          replace h := wpo_some h
          exact h
        · replace h := wpo_pos h hb
          refine r_iconst F (z := 1) d10_givenIn_26 ?_
          refine r_iload_n F 3 rfl rfl d10_givenIn_27 ?_
          refine r_ishl F d10_givenIn_28 ?_
          refine r_goto F (tgt := 33) (by decide) d10_givenIn_29 ?_
          refine r_weak [0, 1, 3] rfl ?_
          replace h := wpo_some h
          exact h
theorem d10_person_0 : decode c10_person 0 = .ok (.aload_n 0, 1) := by decide +kernel
theorem d10_person_1 : decode c10_person 1 = .ok (.iload_n 1, 1) := by decide +kernel
theorem d10_person_2 : decode c10_person 2 = .ok (.invokevirtual 291, 3) := by decide +kernel
theorem d10_person_5 : decode c10_person 5 = .ok (.ifCond .eq 15, 3) := by decide +kernel
theorem d10_person_8 : decode c10_person 8 = .ok (.iload_n 2, 1) := by decide +kernel
theorem d10_person_9 : decode c10_person 9 = .ok (.i2l, 1) := by decide +kernel
theorem d10_person_10 : decode c10_person 10 = .ok (.lconst 0, 1) := by decide +kernel
theorem d10_person_11 : decode c10_person 11 = .ok (.ldc2_w 117, 3) := by decide +kernel
theorem d10_person_14 : decode c10_person 14 = .ok (.invokestatic 109, 3) := by decide +kernel
theorem d10_person_17 : decode c10_person 17 = .ok (.ifCond .ne 6, 3) := by decide +kernel
theorem d10_person_20 : decode c10_person 20 = .ok (.bipush (-2), 2) := by decide +kernel
theorem d10_person_22 : decode c10_person 22 = .ok (.ireturn, 1) := by decide +kernel
theorem d10_person_23 : decode c10_person 23 = .ok (.iload_n 2, 1) := by decide +kernel
theorem d10_person_24 : decode c10_person 24 = .ok (.ifCond .ne 12, 3) := by decide +kernel
theorem d10_person_27 : decode c10_person 27 = .ok (.aload_n 0, 1) := by decide +kernel
theorem d10_person_28 : decode c10_person 28 = .ok (.getfield 34, 3) := by decide +kernel
theorem d10_person_31 : decode c10_person 31 = .ok (.iload_n 1, 1) := by decide +kernel
theorem d10_person_32 : decode c10_person 32 = .ok (.iaload, 1) := by decide +kernel
theorem d10_person_33 : decode c10_person 33 = .ok (.goto 23, 3) := by decide +kernel
theorem d10_person_36 : decode c10_person 36 = .ok (.iload_n 2, 1) := by decide +kernel
theorem d10_person_37 : decode c10_person 37 = .ok (.iconst 1, 1) := by decide +kernel
theorem d10_person_38 : decode c10_person 38 = .ok (.if_icmp .ne 12, 3) := by decide +kernel
theorem d10_person_41 : decode c10_person 41 = .ok (.aload_n 0, 1) := by decide +kernel
theorem d10_person_42 : decode c10_person 42 = .ok (.getfield 37, 3) := by decide +kernel
theorem d10_person_45 : decode c10_person 45 = .ok (.iload_n 1, 1) := by decide +kernel
theorem d10_person_46 : decode c10_person 46 = .ok (.iaload, 1) := by decide +kernel
theorem d10_person_47 : decode c10_person 47 = .ok (.goto 9, 3) := by decide +kernel
theorem d10_person_50 : decode c10_person 50 = .ok (.aload_n 0, 1) := by decide +kernel
theorem d10_person_51 : decode c10_person 51 = .ok (.iload_n 1, 1) := by decide +kernel
theorem d10_person_52 : decode c10_person 52 = .ok (.iload_n 2, 1) := by decide +kernel
theorem d10_person_53 : decode c10_person 53 = .ok (.invokevirtual 225, 3) := by decide +kernel
theorem d10_person_56 : decode c10_person 56 = .ok (.ireturn, 1) := by decide +kernel
def f10_person (D : Mem) (p0 : Int) (p1 : Int) : Option (Int × Mem) :=
  Option.bind (f10_asksPerson D p0) fun (a1 : Int × Mem) =>
  if w32 a1.1 = 0 then
    some ((-2), a1.2)
  else
    Option.bind (f10_in a1.2 (w32 p1) 0 3) fun (a2 : Int) =>
    if w32 a2 = 0 then
      some ((-2), a1.2)
    else
      if w32 p1 = 0 then
        if 0 ≤ p0 ∧ p0 < 8 then
          some ((a1.2 124 p0.toNat), a1.2)
        else none
      else
        if w32 p1 = w32 1 then
          if 0 ≤ p0 ∧ p0 < 8 then
            some ((a1.2 125 p0.toNat), a1.2)
          else none
        else
          Option.bind (f10_of a1.2 p0 p1) fun (a3 : Int) =>
          some (a3, a1.2)
set_option maxHeartbeats 4000000 in
theorem ok10_person {l : Launch} {X : XT} {n : Nat} {D : Mem} {Q : Option Value → Nat → Rho → Mem → Prop} (hn : 147 ≤ n) {p0 : Int} {p1 : Int}  (h : wpo (f10_person D p0 p1) (fun a => Q (some (vI a.1)) n rt a.2)) : MOK l y10_person c10_person 3 (some .int) { frames := 6, cells := 0, slots := 0, locals := 134 } 0 0 X [vR X 117, vI p0, vI p1] n rt D Q := by
  refine MOK_of 10 (by decide +kernel) rfl (lv := [(0, vR X 117), (1, vI p0), (2, vI p1)]) (Nat.le_of_ble_eq_true rfl) rfl (fun K hK F hnm => ?_)
  subst hK
  unfold f10_person at h
  refine r_aload_nR F 0 rfl rfl d10_person_0 ?_
  refine r_iload_n F 1 rfl rfl d10_person_1 ?_
  replace h := wpo_bind h
  refine r_callV0 F lm10_291 mf10_asksPerson (vc117 hn) rfl (fr := 5) (lo := 113) (As := [vI p0]) (rest := []) ⟨Nat.le_of_ble_eq_true rfl, Nat.le_of_ble_eq_true rfl⟩ rfl (Nat.le_of_ble_eq_true rfl) ⟨Nat.zero_le _, Nat.zero_le _⟩ d10_person_2 ?_
  refine ok10_asksPerson hn  (kIm h (fun a1 h => ?_))
  refine r_if_eq F (tgt := 20) d10_person_5 (by decide) (fun hb => ?_) (fun hb => ?_)
  · replace h := wpo_pos h hb
    refine r_bipush F (z := (-2)) (by decide) d10_person_20 ?_
    replace h := wpo_some h
    exact r_iret F h d10_person_22
  · replace h := wpo_neg h hb
    refine r_iload_n F 2 rfl rfl d10_person_8 ?_
    refine r_i2l F d10_person_9 ?_
    refine r_lconst F (x := 0) (by decide) d10_person_10 ?_
    refine r_ldc2 F (z := 3) lc10_117 d10_person_11 ?_
    replace h := wpo_bind h
    refine r_callS0 F lm10_109 mf10_in rfl (fr := 0) (lo := 0) (As := [vL (w32 p1), vL 0, vL 3]) (rest := []) ⟨Nat.le_of_ble_eq_true rfl, Nat.le_of_ble_eq_true rfl⟩ rfl (Nat.le_of_ble_eq_true rfl) ⟨Nat.zero_le _, Nat.zero_le _⟩ d10_person_14 ?_
    refine ok10_in hn  (kI h (fun a2 h => ?_))
    refine r_if_ne F (tgt := 23) d10_person_17 (by decide) (fun hb => ?_) (fun hb => ?_)
    · replace h := wpo_neg h hb
      refine r_iload_n F 2 rfl rfl d10_person_23 ?_
      refine r_if_ne F (tgt := 36) d10_person_24 (by decide) (fun hb => ?_) (fun hb => ?_)
      · replace h := wpo_neg h hb
        refine r_iload_n F 2 rfl rfl d10_person_36 ?_
        refine r_iconst F (z := 1) d10_person_37 ?_
        refine r_icmp_ne F (tgt := 50) d10_person_38 (by decide) (fun hb => ?_) (fun hb => ?_)
        · replace h := wpo_neg h hb
          refine r_aload_nR F 0 rfl rfl d10_person_50 ?_
          refine r_iload_n F 1 rfl rfl d10_person_51 ?_
          refine r_iload_n F 2 rfl rfl d10_person_52 ?_
          replace h := wpo_bind h
          refine r_callV0 F lm10_225 mf10_of (vc117 hn) rfl (fr := 0) (lo := 0) (As := [vI p0, vI p1]) (rest := []) ⟨Nat.le_of_ble_eq_true rfl, Nat.le_of_ble_eq_true rfl⟩ rfl (Nat.le_of_ble_eq_true rfl) ⟨Nat.zero_le _, Nat.zero_le _⟩ d10_person_53 ?_
          refine ok10_of hn  (kI h (fun a3 h => ?_))
          replace h := wpo_some h
          exact r_iret F h d10_person_56
        · replace h := wpo_pos h hb
          refine r_aload_nR F 0 rfl rfl d10_person_41 ?_
          refine r_getR F (z := 125) lf10_37 (vc117 hn) z117_16 d10_person_42 ?_
          refine r_iload_n F 1 rfl rfl d10_person_45 ?_
          obtain ⟨hx1, h⟩ := wpo_chk h
          refine r_iald F (vc125 hn) hx1 d10_person_46 ?_
          refine r_goto F (tgt := 56) (by decide) d10_person_47 ?_
          replace h := wpo_some h
          exact r_iret F h d10_person_56
      · replace h := wpo_pos h hb
        refine r_aload_nR F 0 rfl rfl d10_person_27 ?_
        refine r_getR F (z := 124) lf10_34 (vc117 hn) z117_15 d10_person_28 ?_
        refine r_iload_n F 1 rfl rfl d10_person_31 ?_
        obtain ⟨hx2, h⟩ := wpo_chk h
        refine r_iald F (vc124 hn) hx2 d10_person_32 ?_
        refine r_goto F (tgt := 56) (by decide) d10_person_33 ?_
        replace h := wpo_some h
        exact r_iret F h d10_person_56
    · replace h := wpo_pos h hb
      refine r_bipush F (z := (-2)) (by decide) d10_person_20 ?_
      replace h := wpo_some h
      exact r_iret F h d10_person_22
theorem d10_gives_0 : decode c10_gives 0 = .ok (.aload_n 0, 1) := by decide +kernel
theorem d10_gives_1 : decode c10_gives 1 = .ok (.iload_n 1, 1) := by decide +kernel
theorem d10_gives_2 : decode c10_gives 2 = .ok (.invokevirtual 291, 3) := by decide +kernel
theorem d10_gives_5 : decode c10_gives 5 = .ok (.ifCond .eq 12, 3) := by decide +kernel
theorem d10_gives_8 : decode c10_gives 8 = .ok (.aload_n 0, 1) := by decide +kernel
theorem d10_gives_9 : decode c10_gives 9 = .ok (.getfield 46, 3) := by decide +kernel
theorem d10_gives_12 : decode c10_gives 12 = .ok (.iload_n 1, 1) := by decide +kernel
theorem d10_gives_13 : decode c10_gives 13 = .ok (.iaload, 1) := by decide +kernel
theorem d10_gives_14 : decode c10_gives 14 = .ok (.goto 5, 3) := by decide +kernel
theorem d10_gives_17 : decode c10_gives 17 = .ok (.bipush (-2), 2) := by decide +kernel
theorem d10_gives_19 : decode c10_gives 19 = .ok (.ireturn, 1) := by decide +kernel
def f10_gives (D : Mem) (p0 : Int) : Option (Int × Mem) :=
  Option.bind (f10_asksPerson D p0) fun (a1 : Int × Mem) =>
  if w32 a1.1 = 0 then
    some ((-2), a1.2)
  else
    if 0 ≤ p0 ∧ p0 < 8 then
      some ((a1.2 128 p0.toNat), a1.2)
    else none
set_option maxHeartbeats 4000000 in
theorem ok10_gives {l : Launch} {X : XT} {n : Nat} {D : Mem} {Q : Option Value → Nat → Rho → Mem → Prop} (hn : 147 ≤ n) {p0 : Int}  (h : wpo (f10_gives D p0) (fun a => Q (some (vI a.1)) n rt a.2)) : MOK l y10_gives c10_gives 2 (some .int) { frames := 6, cells := 0, slots := 0, locals := 134 } 0 0 X [vR X 117, vI p0] n rt D Q := by
  refine MOK_of 10 (by decide +kernel) rfl (lv := [(0, vR X 117), (1, vI p0)]) (Nat.le_of_ble_eq_true rfl) rfl (fun K hK F hnm => ?_)
  subst hK
  unfold f10_gives at h
  refine r_aload_nR F 0 rfl rfl d10_gives_0 ?_
  refine r_iload_n F 1 rfl rfl d10_gives_1 ?_
  replace h := wpo_bind h
  refine r_callV0 F lm10_291 mf10_asksPerson (vc117 hn) rfl (fr := 5) (lo := 113) (As := [vI p0]) (rest := []) ⟨Nat.le_of_ble_eq_true rfl, Nat.le_of_ble_eq_true rfl⟩ rfl (Nat.le_of_ble_eq_true rfl) ⟨Nat.zero_le _, Nat.zero_le _⟩ d10_gives_2 ?_
  refine ok10_asksPerson hn  (kIm h (fun a1 h => ?_))
  refine r_if_eq F (tgt := 17) d10_gives_5 (by decide) (fun hb => ?_) (fun hb => ?_)
  · replace h := wpo_pos h hb
    refine r_bipush F (z := (-2)) (by decide) d10_gives_17 ?_
    replace h := wpo_some h
    exact r_iret F h d10_gives_19
  · replace h := wpo_neg h hb
    refine r_aload_nR F 0 rfl rfl d10_gives_8 ?_
    refine r_getR F (z := 128) lf10_46 (vc117 hn) z117_23 d10_gives_9 ?_
    refine r_iload_n F 1 rfl rfl d10_gives_12 ?_
    obtain ⟨hx1, h⟩ := wpo_chk h
    refine r_iald F (vc128 hn) hx1 d10_gives_13 ?_
    refine r_goto F (tgt := 19) (by decide) d10_gives_14 ?_
    replace h := wpo_some h
    exact r_iret F h d10_gives_19
theorem d10_given_0 : decode c10_given 0 = .ok (.aload_n 0, 1) := by decide +kernel
theorem d10_given_1 : decode c10_given 1 = .ok (.iload_n 1, 1) := by decide +kernel
theorem d10_given_2 : decode c10_given 2 = .ok (.invokevirtual 294, 3) := by decide +kernel
theorem d10_given_5 : decode c10_given 5 = .ok (.ifCond .eq 11, 3) := by decide +kernel
theorem d10_given_8 : decode c10_given 8 = .ok (.aload_n 0, 1) := by decide +kernel
theorem d10_given_9 : decode c10_given 9 = .ok (.iload_n 1, 1) := by decide +kernel
theorem d10_given_10 : decode c10_given 10 = .ok (.invokevirtual 297, 3) := by decide +kernel
theorem d10_given_13 : decode c10_given 13 = .ok (.goto 5, 3) := by decide +kernel
theorem d10_given_16 : decode c10_given 16 = .ok (.bipush (-2), 2) := by decide +kernel
theorem d10_given_18 : decode c10_given 18 = .ok (.ireturn, 1) := by decide +kernel
def f10_given (D : Mem) (p0 : Int) : Option (Int × Mem) :=
  Option.bind (f10_asksNight D p0) fun (a1 : Int × Mem) =>
  if w32 a1.1 = 0 then
    some ((-2), a1.2)
  else
    Option.bind (f10_givenIn a1.2 p0) fun (a2 : Int) =>
    some (a2, a1.2)
set_option maxHeartbeats 4000000 in
theorem ok10_given {l : Launch} {X : XT} {n : Nat} {D : Mem} {Q : Option Value → Nat → Rho → Mem → Prop} (hn : 147 ≤ n) {p0 : Int}  (h : wpo (f10_given D p0) (fun a => Q (some (vI a.1)) n rt a.2)) : MOK l y10_given c10_given 2 (some .int) { frames := 6, cells := 0, slots := 0, locals := 134 } 0 0 X [vR X 117, vI p0] n rt D Q := by
  refine MOK_of 10 (by decide +kernel) rfl (lv := [(0, vR X 117), (1, vI p0)]) (Nat.le_of_ble_eq_true rfl) rfl (fun K hK F hnm => ?_)
  subst hK
  unfold f10_given at h
  refine r_aload_nR F 0 rfl rfl d10_given_0 ?_
  refine r_iload_n F 1 rfl rfl d10_given_1 ?_
  replace h := wpo_bind h
  refine r_callV0 F lm10_294 mf10_asksNight (vc117 hn) rfl (fr := 5) (lo := 113) (As := [vI p0]) (rest := []) ⟨Nat.le_of_ble_eq_true rfl, Nat.le_of_ble_eq_true rfl⟩ rfl (Nat.le_of_ble_eq_true rfl) ⟨Nat.zero_le _, Nat.zero_le _⟩ d10_given_2 ?_
  refine ok10_asksNight hn  (kIm h (fun a1 h => ?_))
  refine r_if_eq F (tgt := 16) d10_given_5 (by decide) (fun hb => ?_) (fun hb => ?_)
  · replace h := wpo_pos h hb
    refine r_bipush F (z := (-2)) (by decide) d10_given_16 ?_
    replace h := wpo_some h
    exact r_iret F h d10_given_18
  · replace h := wpo_neg h hb
    refine r_aload_nR F 0 rfl rfl d10_given_8 ?_
    refine r_iload_n F 1 rfl rfl d10_given_9 ?_
    replace h := wpo_bind h
    refine r_callV0 F lm10_297 mf10_givenIn (vc117 hn) rfl (fr := 0) (lo := 0) (As := [vI p0]) (rest := []) ⟨Nat.le_of_ble_eq_true rfl, Nat.le_of_ble_eq_true rfl⟩ rfl (Nat.le_of_ble_eq_true rfl) ⟨Nat.zero_le _, Nat.zero_le _⟩ d10_given_10 ?_
    refine ok10_givenIn hn  (kI h (fun a2 h => ?_))
    refine r_goto F (tgt := 18) (by decide) d10_given_13 ?_
    replace h := wpo_some h
    exact r_iret F h d10_given_18
theorem d10_waits_0 : decode c10_waits 0 = .ok (.aload_n 0, 1) := by decide +kernel
theorem d10_waits_1 : decode c10_waits 1 = .ok (.iload_n 1, 1) := by decide +kernel
theorem d10_waits_2 : decode c10_waits 2 = .ok (.invokevirtual 294, 3) := by decide +kernel
theorem d10_waits_5 : decode c10_waits 5 = .ok (.ifCond .eq 19, 3) := by decide +kernel
theorem d10_waits_8 : decode c10_waits 8 = .ok (.aload_n 0, 1) := by decide +kernel
theorem d10_waits_9 : decode c10_waits 9 = .ok (.iload_n 1, 1) := by decide +kernel
theorem d10_waits_10 : decode c10_waits 10 = .ok (.invokevirtual 300, 3) := by decide +kernel
theorem d10_waits_13 : decode c10_waits 13 = .ok (.aload_n 0, 1) := by decide +kernel
theorem d10_waits_14 : decode c10_waits 14 = .ok (.iload_n 1, 1) := by decide +kernel
theorem d10_waits_15 : decode c10_waits 15 = .ok (.invokevirtual 297, 3) := by decide +kernel
theorem d10_waits_18 : decode c10_waits 18 = .ok (.iconst (-1), 1) := by decide +kernel
theorem d10_waits_19 : decode c10_waits 19 = .ok (.ixor, 1) := by decide +kernel
theorem d10_waits_20 : decode c10_waits 20 = .ok (.iand, 1) := by decide +kernel
theorem d10_waits_21 : decode c10_waits 21 = .ok (.goto 5, 3) := by decide +kernel
theorem d10_waits_24 : decode c10_waits 24 = .ok (.bipush (-2), 2) := by decide +kernel
theorem d10_waits_26 : decode c10_waits 26 = .ok (.ireturn, 1) := by decide +kernel
def f10_waits (D : Mem) (p0 : Int) : Option (Int × Mem) :=
  Option.bind (f10_asksNight D p0) fun (a1 : Int × Mem) =>
  if w32 a1.1 = 0 then
    some ((-2), a1.2)
  else
    Option.bind (f10_waitsIn a1.2 p0) fun (a2 : Int) =>
    Option.bind (f10_givenIn a1.2 p0) fun (a3 : Int) =>
    some ((and32 a2 (xor32 a3 (-1))), a1.2)
set_option maxHeartbeats 4000000 in
theorem ok10_waits {l : Launch} {X : XT} {n : Nat} {D : Mem} {Q : Option Value → Nat → Rho → Mem → Prop} (hn : 147 ≤ n) {p0 : Int}  (h : wpo (f10_waits D p0) (fun a => Q (some (vI a.1)) n rt a.2)) : MOK l y10_waits c10_waits 2 (some .int) { frames := 6, cells := 0, slots := 0, locals := 134 } 0 0 X [vR X 117, vI p0] n rt D Q := by
  refine MOK_of 10 (by decide +kernel) rfl (lv := [(0, vR X 117), (1, vI p0)]) (Nat.le_of_ble_eq_true rfl) rfl (fun K hK F hnm => ?_)
  subst hK
  unfold f10_waits at h
  refine r_aload_nR F 0 rfl rfl d10_waits_0 ?_
  refine r_iload_n F 1 rfl rfl d10_waits_1 ?_
  replace h := wpo_bind h
  refine r_callV0 F lm10_294 mf10_asksNight (vc117 hn) rfl (fr := 5) (lo := 113) (As := [vI p0]) (rest := []) ⟨Nat.le_of_ble_eq_true rfl, Nat.le_of_ble_eq_true rfl⟩ rfl (Nat.le_of_ble_eq_true rfl) ⟨Nat.zero_le _, Nat.zero_le _⟩ d10_waits_2 ?_
  refine ok10_asksNight hn  (kIm h (fun a1 h => ?_))
  refine r_if_eq F (tgt := 24) d10_waits_5 (by decide) (fun hb => ?_) (fun hb => ?_)
  · replace h := wpo_pos h hb
    refine r_bipush F (z := (-2)) (by decide) d10_waits_24 ?_
    replace h := wpo_some h
    exact r_iret F h d10_waits_26
  · replace h := wpo_neg h hb
    refine r_aload_nR F 0 rfl rfl d10_waits_8 ?_
    refine r_iload_n F 1 rfl rfl d10_waits_9 ?_
    replace h := wpo_bind h
    refine r_callV0 F lm10_300 mf10_waitsIn (vc117 hn) rfl (fr := 1) (lo := 22) (As := [vI p0]) (rest := []) ⟨Nat.le_of_ble_eq_true rfl, Nat.le_of_ble_eq_true rfl⟩ rfl (Nat.le_of_ble_eq_true rfl) ⟨Nat.zero_le _, Nat.zero_le _⟩ d10_waits_10 ?_
    refine ok10_waitsIn hn  (kI h (fun a2 h => ?_))
    refine r_aload_nR F 0 rfl rfl d10_waits_13 ?_
    refine r_iload_n F 1 rfl rfl d10_waits_14 ?_
    replace h := wpo_bind h
    refine r_callV0 F lm10_297 mf10_givenIn (vc117 hn) rfl (fr := 0) (lo := 0) (As := [vI p0]) (rest := [vI a2]) ⟨Nat.le_of_ble_eq_true rfl, Nat.le_of_ble_eq_true rfl⟩ rfl (Nat.le_of_ble_eq_true rfl) ⟨Nat.zero_le _, Nat.zero_le _⟩ d10_waits_15 ?_
    refine ok10_givenIn hn  (kI h (fun a3 h => ?_))
    refine r_iconst F (z := (-1)) d10_waits_18 ?_
    refine r_ixor F d10_waits_19 ?_
    refine r_iand F d10_waits_20 ?_
    refine r_goto F (tgt := 26) (by decide) d10_waits_21 ?_
    replace h := wpo_some h
    exact r_iret F h d10_waits_26
theorem d10_left_0 : decode c10_left 0 = .ok (.aload_n 0, 1) := by decide +kernel
theorem d10_left_1 : decode c10_left 1 = .ok (.iload_n 1, 1) := by decide +kernel
theorem d10_left_2 : decode c10_left 2 = .ok (.invokevirtual 294, 3) := by decide +kernel
theorem d10_left_5 : decode c10_left 5 = .ok (.ifCond .eq 12, 3) := by decide +kernel
theorem d10_left_8 : decode c10_left 8 = .ok (.aload_n 0, 1) := by decide +kernel
theorem d10_left_9 : decode c10_left 9 = .ok (.getfield 49, 3) := by decide +kernel
theorem d10_left_12 : decode c10_left 12 = .ok (.iload_n 1, 1) := by decide +kernel
theorem d10_left_13 : decode c10_left 13 = .ok (.iaload, 1) := by decide +kernel
theorem d10_left_14 : decode c10_left 14 = .ok (.goto 5, 3) := by decide +kernel
theorem d10_left_17 : decode c10_left 17 = .ok (.bipush (-2), 2) := by decide +kernel
theorem d10_left_19 : decode c10_left 19 = .ok (.ireturn, 1) := by decide +kernel
def f10_left (D : Mem) (p0 : Int) : Option (Int × Mem) :=
  Option.bind (f10_asksNight D p0) fun (a1 : Int × Mem) =>
  if w32 a1.1 = 0 then
    some ((-2), a1.2)
  else
    if 0 ≤ p0 ∧ p0 < 12 then
      some ((a1.2 129 p0.toNat), a1.2)
    else none
set_option maxHeartbeats 4000000 in
theorem ok10_left {l : Launch} {X : XT} {n : Nat} {D : Mem} {Q : Option Value → Nat → Rho → Mem → Prop} (hn : 147 ≤ n) {p0 : Int}  (h : wpo (f10_left D p0) (fun a => Q (some (vI a.1)) n rt a.2)) : MOK l y10_left c10_left 2 (some .int) { frames := 6, cells := 0, slots := 0, locals := 134 } 0 0 X [vR X 117, vI p0] n rt D Q := by
  refine MOK_of 10 (by decide +kernel) rfl (lv := [(0, vR X 117), (1, vI p0)]) (Nat.le_of_ble_eq_true rfl) rfl (fun K hK F hnm => ?_)
  subst hK
  unfold f10_left at h
  refine r_aload_nR F 0 rfl rfl d10_left_0 ?_
  refine r_iload_n F 1 rfl rfl d10_left_1 ?_
  replace h := wpo_bind h
  refine r_callV0 F lm10_294 mf10_asksNight (vc117 hn) rfl (fr := 5) (lo := 113) (As := [vI p0]) (rest := []) ⟨Nat.le_of_ble_eq_true rfl, Nat.le_of_ble_eq_true rfl⟩ rfl (Nat.le_of_ble_eq_true rfl) ⟨Nat.zero_le _, Nat.zero_le _⟩ d10_left_2 ?_
  refine ok10_asksNight hn  (kIm h (fun a1 h => ?_))
  refine r_if_eq F (tgt := 17) d10_left_5 (by decide) (fun hb => ?_) (fun hb => ?_)
  · replace h := wpo_pos h hb
    refine r_bipush F (z := (-2)) (by decide) d10_left_17 ?_
    replace h := wpo_some h
    exact r_iret F h d10_left_19
  · replace h := wpo_neg h hb
    refine r_aload_nR F 0 rfl rfl d10_left_8 ?_
    refine r_getR F (z := 129) lf10_49 (vc117 hn) z117_24 d10_left_9 ?_
    refine r_iload_n F 1 rfl rfl d10_left_12 ?_
    obtain ⟨hx1, h⟩ := wpo_chk h
    refine r_iald F (vc129 hn) hx1 d10_left_13 ?_
    refine r_goto F (tgt := 19) (by decide) d10_left_14 ?_
    replace h := wpo_some h
    exact r_iret F h d10_left_19
theorem d10_bears_0 : decode c10_bears 0 = .ok (.aload_n 0, 1) := by decide +kernel
theorem d10_bears_1 : decode c10_bears 1 = .ok (.iload_n 1, 1) := by decide +kernel
theorem d10_bears_2 : decode c10_bears 2 = .ok (.invokevirtual 291, 3) := by decide +kernel
theorem d10_bears_5 : decode c10_bears 5 = .ok (.ifCond .eq 11, 3) := by decide +kernel
theorem d10_bears_8 : decode c10_bears 8 = .ok (.aload_n 0, 1) := by decide +kernel
theorem d10_bears_9 : decode c10_bears 9 = .ok (.iload_n 1, 1) := by decide +kernel
theorem d10_bears_10 : decode c10_bears 10 = .ok (.invokevirtual 271, 3) := by decide +kernel
theorem d10_bears_13 : decode c10_bears 13 = .ok (.goto 5, 3) := by decide +kernel
theorem d10_bears_16 : decode c10_bears 16 = .ok (.bipush (-2), 2) := by decide +kernel
theorem d10_bears_18 : decode c10_bears 18 = .ok (.ireturn, 1) := by decide +kernel
def f10_bears (D : Mem) (p0 : Int) : Option (Int × Mem) :=
  Option.bind (f10_asksPerson D p0) fun (a1 : Int × Mem) =>
  if w32 a1.1 = 0 then
    some ((-2), a1.2)
  else
    Option.bind (f10_bearsOf a1.2 p0) fun (a2 : Int) =>
    some (a2, a1.2)
set_option maxHeartbeats 4000000 in
theorem ok10_bears {l : Launch} {X : XT} {n : Nat} {D : Mem} {Q : Option Value → Nat → Rho → Mem → Prop} (hn : 147 ≤ n) {p0 : Int}  (h : wpo (f10_bears D p0) (fun a => Q (some (vI a.1)) n rt a.2)) : MOK l y10_bears c10_bears 2 (some .int) { frames := 6, cells := 0, slots := 0, locals := 134 } 0 0 X [vR X 117, vI p0] n rt D Q := by
  refine MOK_of 10 (by decide +kernel) rfl (lv := [(0, vR X 117), (1, vI p0)]) (Nat.le_of_ble_eq_true rfl) rfl (fun K hK F hnm => ?_)
  subst hK
  unfold f10_bears at h
  refine r_aload_nR F 0 rfl rfl d10_bears_0 ?_
  refine r_iload_n F 1 rfl rfl d10_bears_1 ?_
  replace h := wpo_bind h
  refine r_callV0 F lm10_291 mf10_asksPerson (vc117 hn) rfl (fr := 5) (lo := 113) (As := [vI p0]) (rest := []) ⟨Nat.le_of_ble_eq_true rfl, Nat.le_of_ble_eq_true rfl⟩ rfl (Nat.le_of_ble_eq_true rfl) ⟨Nat.zero_le _, Nat.zero_le _⟩ d10_bears_2 ?_
  refine ok10_asksPerson hn  (kIm h (fun a1 h => ?_))
  refine r_if_eq F (tgt := 16) d10_bears_5 (by decide) (fun hb => ?_) (fun hb => ?_)
  · replace h := wpo_pos h hb
    refine r_bipush F (z := (-2)) (by decide) d10_bears_16 ?_
    replace h := wpo_some h
    exact r_iret F h d10_bears_18
  · replace h := wpo_neg h hb
    refine r_aload_nR F 0 rfl rfl d10_bears_8 ?_
    refine r_iload_n F 1 rfl rfl d10_bears_9 ?_
    replace h := wpo_bind h
    refine r_callV0 F lm10_271 mf10_bearsOf (vc117 hn) rfl (fr := 3) (lo := 66) (As := [vI p0]) (rest := []) ⟨Nat.le_of_ble_eq_true rfl, Nat.le_of_ble_eq_true rfl⟩ rfl (Nat.le_of_ble_eq_true rfl) ⟨Nat.zero_le _, Nat.zero_le _⟩ d10_bears_10 ?_
    refine ok10_bearsOf hn  (kI h (fun a2 h => ?_))
    refine r_goto F (tgt := 18) (by decide) d10_bears_13 ?_
    replace h := wpo_some h
    exact r_iret F h d10_bears_18
theorem d10_groans_0 : decode c10_groans 0 = .ok (.aload_n 0, 1) := by decide +kernel
theorem d10_groans_1 : decode c10_groans 1 = .ok (.iload_n 1, 1) := by decide +kernel
theorem d10_groans_2 : decode c10_groans 2 = .ok (.invokevirtual 294, 3) := by decide +kernel
theorem d10_groans_5 : decode c10_groans 5 = .ok (.ifCond .ne 6, 3) := by decide +kernel
theorem d10_groans_8 : decode c10_groans 8 = .ok (.bipush (-2), 2) := by decide +kernel
theorem d10_groans_10 : decode c10_groans 10 = .ok (.ireturn, 1) := by decide +kernel
theorem d10_groans_11 : decode c10_groans 11 = .ok (.iconst 0, 1) := by decide +kernel
theorem d10_groans_12 : decode c10_groans 12 = .ok (.istore_n 2, 1) := by decide +kernel
theorem d10_groans_13 : decode c10_groans 13 = .ok (.iconst 0, 1) := by decide +kernel
theorem d10_groans_14 : decode c10_groans 14 = .ok (.istore_n 3, 1) := by decide +kernel
theorem d10_groans_15 : decode c10_groans 15 = .ok (.iload_n 3, 1) := by decide +kernel
theorem d10_groans_16 : decode c10_groans 16 = .ok (.aload_n 0, 1) := by decide +kernel
theorem d10_groans_17 : decode c10_groans 17 = .ok (.getfield 9, 3) := by decide +kernel
theorem d10_groans_20 : decode c10_groans 20 = .ok (.bipush 7, 2) := by decide +kernel
theorem d10_groans_22 : decode c10_groans 22 = .ok (.iaload, 1) := by decide +kernel
theorem d10_groans_23 : decode c10_groans 23 = .ok (.if_icmp .ge 27, 3) := by decide +kernel
theorem d10_groans_26 : decode c10_groans 26 = .ok (.iload_n 2, 1) := by decide +kernel
theorem d10_groans_27 : decode c10_groans 27 = .ok (.aload_n 0, 1) := by decide +kernel
theorem d10_groans_28 : decode c10_groans 28 = .ok (.iload_n 1, 1) := by decide +kernel
theorem d10_groans_29 : decode c10_groans 29 = .ok (.invokevirtual 300, 3) := by decide +kernel
theorem d10_groans_32 : decode c10_groans 32 = .ok (.iload_n 3, 1) := by decide +kernel
theorem d10_groans_33 : decode c10_groans 33 = .ok (.invokestatic 240, 3) := by decide +kernel
theorem d10_groans_36 : decode c10_groans 36 = .ok (.aload_n 0, 1) := by decide +kernel
theorem d10_groans_37 : decode c10_groans 37 = .ok (.iload_n 3, 1) := by decide +kernel
theorem d10_groans_38 : decode c10_groans 38 = .ok (.invokevirtual 265, 3) := by decide +kernel
theorem d10_groans_41 : decode c10_groans 41 = .ok (.imul, 1) := by decide +kernel
theorem d10_groans_42 : decode c10_groans 42 = .ok (.iadd, 1) := by decide +kernel
theorem d10_groans_43 : decode c10_groans 43 = .ok (.istore_n 2, 1) := by decide +kernel
theorem d10_groans_44 : decode c10_groans 44 = .ok (.iinc 3 1, 3) := by decide +kernel
theorem d10_groans_47 : decode c10_groans 47 = .ok (.goto (-32), 3) := by decide +kernel
theorem d10_groans_50 : decode c10_groans 50 = .ok (.iload_n 2, 1) := by decide +kernel
theorem d10_groans_51 : decode c10_groans 51 = .ok (.ireturn, 1) := by decide +kernel
def f10_groans (D : Mem) (p0 : Int) : Option (Int × Mem) :=
  Option.bind (f10_asksNight D p0) fun (a1 : Int × Mem) =>
  if w32 a1.1 = 0 then
    some ((-2), a1.2)
  else
    Option.bind (@loop (Int × Int) (Int) (fun s1 =>
      if w32 s1.2 < w32 (a1.2 118 7) then
        Option.bind (f10_waitsIn a1.2 p0) fun (a2 : Int) =>
        Option.bind (f10_bit a1.2 a2 s1.2) fun (a3 : Int) =>
        Option.bind (f10_costOf a1.2 s1.2) fun (a4 : Int) =>
        Option.bind (some (s1.1 + (a3 * a4))) fun (v1 : Int) =>
        some (Sum.inl (v1, (s1.2 + 1)))
      else
        some (Sum.inr s1.1)
    ) FU (0, 0)) fun (b1 : Int) =>
    some (b1, a1.2)
set_option maxHeartbeats 4000000 in
theorem ok10_groans {l : Launch} {X : XT} {n : Nat} {D : Mem} {Q : Option Value → Nat → Rho → Mem → Prop} (hn : 147 ≤ n) {p0 : Int}  (h : wpo (f10_groans D p0) (fun a => Q (some (vI a.1)) n rt a.2)) : MOK l y10_groans c10_groans 4 (some .int) { frames := 6, cells := 0, slots := 0, locals := 134 } 0 0 X [vR X 117, vI p0] n rt D Q := by
  refine MOK_of 10 (by decide +kernel) rfl (lv := [(0, vR X 117), (1, vI p0)]) (Nat.le_of_ble_eq_true rfl) rfl (fun K hK F hnm => ?_)
  subst hK
  unfold f10_groans at h
  refine r_aload_nR F 0 rfl rfl d10_groans_0 ?_
  refine r_iload_n F 1 rfl rfl d10_groans_1 ?_
  replace h := wpo_bind h
  refine r_callV0 F lm10_294 mf10_asksNight (vc117 hn) rfl (fr := 5) (lo := 113) (As := [vI p0]) (rest := []) ⟨Nat.le_of_ble_eq_true rfl, Nat.le_of_ble_eq_true rfl⟩ rfl (Nat.le_of_ble_eq_true rfl) ⟨Nat.zero_le _, Nat.zero_le _⟩ d10_groans_2 ?_
  refine ok10_asksNight hn  (kIm h (fun a1 h => ?_))
  refine r_if_ne F (tgt := 11) d10_groans_5 (by decide) (fun hb => ?_) (fun hb => ?_)
  · replace h := wpo_neg h hb
    refine r_iconst F (z := 0) d10_groans_11 ?_
    refine r_istore_n F (lv' := [(2, vI 0), (0, vR X 117), (1, vI p0)]) rfl (Nat.le_of_ble_eq_true rfl) rfl d10_groans_12 ?_
    refine r_iconst F (z := 0) d10_groans_13 ?_
    refine r_istore_n F (lv' := [(3, vI 0), (2, vI 0), (0, vR X 117), (1, vI p0)]) rfl (Nat.le_of_ble_eq_true rfl) rfl d10_groans_14 ?_
    refine r_weak [2, 3, 1, 0] rfl ?_
    refine at_loopj (A := fun (s1 : Int × Int) => At K X (ZQ K X Q) 0 0 n rt 4 15 [(0, vR X 117), (1, vI p0), (2, vI s1.1), (3, vI s1.2)] [] a1.2) (B := fun (b1 : Int) => At K X (ZQ K X Q) 0 0 n rt 4 50 [(2, vI b1)] [] a1.2) h (fun b1 h => ?_) (fun s1 h => ?_)
    · refine r_iload_n F 0 rfl rfl d10_groans_50 ?_
      replace h := wpo_some h
      exact r_iret F h d10_groans_51
    · refine r_iload_n F 3 rfl rfl d10_groans_15 ?_
      refine r_aload_nR F 0 rfl rfl d10_groans_16 ?_
      refine r_getR F (z := 118) lf10_9 (vc117 hn) z117_1 d10_groans_17 ?_
      refine r_bipush F (z := 7) (by decide) d10_groans_20 ?_
      refine r_ialdC F (j := 7) (vc118 hn) (by decide) rfl d10_groans_22 ?_
      refine r_icmp_ge F (tgt := 50) d10_groans_23 (by decide) (fun hb => ?_) (fun hb => ?_)
      · replace h := wpo_neg h hb
        refine r_weak [2] rfl ?_
        replace h := wpo_inr h
        exact h
      · replace h := wpo_pos h hb
        refine r_iload_n F 2 rfl rfl d10_groans_26 ?_
        refine r_aload_nR F 0 rfl rfl d10_groans_27 ?_
        refine r_iload_n F 1 rfl rfl d10_groans_28 ?_
        replace h := wpo_bind h
        refine r_callV0 F lm10_300 mf10_waitsIn (vc117 hn) rfl (fr := 1) (lo := 22) (As := [vI p0]) (rest := [vI s1.1]) ⟨Nat.le_of_ble_eq_true rfl, Nat.le_of_ble_eq_true rfl⟩ rfl (Nat.le_of_ble_eq_true rfl) ⟨Nat.zero_le _, Nat.zero_le _⟩ d10_groans_29 ?_
        refine ok10_waitsIn hn  (kI h (fun a2 h => ?_))
        refine r_iload_n F 3 rfl rfl d10_groans_32 ?_
        replace h := wpo_bind h
        refine r_callS0 F lm10_240 mf10_bit rfl (fr := 0) (lo := 0) (As := [vI a2, vI s1.2]) (rest := [vI s1.1]) ⟨Nat.le_of_ble_eq_true rfl, Nat.le_of_ble_eq_true rfl⟩ rfl (Nat.le_of_ble_eq_true rfl) ⟨Nat.zero_le _, Nat.zero_le _⟩ d10_groans_33 ?_
        refine ok10_bit hn  (kI h (fun a3 h => ?_))
        refine r_aload_nR F 0 rfl rfl d10_groans_36 ?_
        refine r_iload_n F 3 rfl rfl d10_groans_37 ?_
        replace h := wpo_bind h
        refine r_callV0 F lm10_265 mf10_costOf (vc117 hn) rfl (fr := 1) (lo := 22) (As := [vI s1.2]) (rest := [vI a3, vI s1.1]) ⟨Nat.le_of_ble_eq_true rfl, Nat.le_of_ble_eq_true rfl⟩ rfl (Nat.le_of_ble_eq_true rfl) ⟨Nat.zero_le _, Nat.zero_le _⟩ d10_groans_38 ?_
        refine ok10_costOf hn  (kI h (fun a4 h => ?_))
        refine r_imul F d10_groans_41 ?_
        refine r_iadd F d10_groans_42 ?_
        refine r_istore_n F (lv' := [(2, vI (s1.1 + (a3 * a4))), (0, vR X 117), (1, vI p0), (3, vI s1.2)]) rfl (Nat.le_of_ble_eq_true rfl) rfl d10_groans_43 ?_
        refine at_name (B := fun (v1 : Int) => At K X (ZQ K X Q) 0 0 n rt 4 44 [(2, vI v1), (0, vR X 117), (1, vI p0), (3, vI s1.2)] [] a1.2) h (fun v1 h => ?_)
        refine r_iinc F 3 (lv' := [(3, vI (s1.2 + 1)), (2, vI v1), (0, vR X 117), (1, vI p0)]) rfl (Nat.le_of_ble_eq_true rfl) rfl d10_groans_44 ?_
        refine r_goto F (tgt := 15) (by decide) d10_groans_47 ?_
        refine r_weak [2, 3, 1, 0] rfl ?_
        replace h := wpo_inl h
        exact h
  · replace h := wpo_pos h hb
    refine r_bipush F (z := (-2)) (by decide) d10_groans_8 ?_
    replace h := wpo_some h
    exact r_iret F h d10_groans_10
theorem d10_all_0 : decode c10_all 0 = .ok (.aload_n 0, 1) := by decide +kernel
theorem d10_all_1 : decode c10_all 1 = .ok (.invokevirtual 280, 3) := by decide +kernel
theorem d10_all_4 : decode c10_all 4 = .ok (.ifCond .eq 10, 3) := by decide +kernel
theorem d10_all_7 : decode c10_all 7 = .ok (.aload_n 0, 1) := by decide +kernel
theorem d10_all_8 : decode c10_all 8 = .ok (.invokevirtual 303, 3) := by decide +kernel
theorem d10_all_11 : decode c10_all 11 = .ok (.goto 5, 3) := by decide +kernel
theorem d10_all_14 : decode c10_all 14 = .ok (.bipush (-2), 2) := by decide +kernel
theorem d10_all_16 : decode c10_all 16 = .ok (.ireturn, 1) := by decide +kernel
def f10_all (D : Mem) : Option (Int × Mem) :=
  Option.bind (f10_asksParish D) fun (a1 : Int × Mem) =>
  if w32 a1.1 = 0 then
    some ((-2), a1.2)
  else
    Option.bind (f10_bearsAll a1.2) fun (a2 : Int) =>
    some (a2, a1.2)
set_option maxHeartbeats 4000000 in
theorem ok10_all {l : Launch} {X : XT} {n : Nat} {D : Mem} {Q : Option Value → Nat → Rho → Mem → Prop} (hn : 147 ≤ n)  (h : wpo (f10_all D) (fun a => Q (some (vI a.1)) n rt a.2)) : MOK l y10_all c10_all 1 (some .int) { frames := 5, cells := 0, slots := 0, locals := 113 } 0 0 X [vR X 117] n rt D Q := by
  refine MOK_of 10 (by decide +kernel) rfl (lv := [(0, vR X 117)]) (Nat.le_of_ble_eq_true rfl) rfl (fun K hK F hnm => ?_)
  subst hK
  unfold f10_all at h
  refine r_aload_nR F 0 rfl rfl d10_all_0 ?_
  replace h := wpo_bind h
  refine r_callV0 F lm10_280 mf10_asksParish (vc117 hn) rfl (fr := 4) (lo := 93) (As := []) (rest := []) ⟨Nat.le_of_ble_eq_true rfl, Nat.le_of_ble_eq_true rfl⟩ rfl (Nat.le_of_ble_eq_true rfl) ⟨Nat.zero_le _, Nat.zero_le _⟩ d10_all_1 ?_
  refine ok10_asksParish hn  (kIm h (fun a1 h => ?_))
  refine r_if_eq F (tgt := 14) d10_all_4 (by decide) (fun hb => ?_) (fun hb => ?_)
  · replace h := wpo_pos h hb
    refine r_bipush F (z := (-2)) (by decide) d10_all_14 ?_
    replace h := wpo_some h
    exact r_iret F h d10_all_16
  · replace h := wpo_neg h hb
    refine r_aload_nR F 0 rfl rfl d10_all_7 ?_
    replace h := wpo_bind h
    refine r_callV0 F lm10_303 mf10_bearsAll (vc117 hn) rfl (fr := 4) (lo := 87) (As := []) (rest := []) ⟨Nat.le_of_ble_eq_true rfl, Nat.le_of_ble_eq_true rfl⟩ rfl (Nat.le_of_ble_eq_true rfl) ⟨Nat.zero_le _, Nat.zero_le _⟩ d10_all_8 ?_
    refine ok10_bearsAll hn  (kI h (fun a2 h => ?_))
    refine r_goto F (tgt := 16) (by decide) d10_all_11 ?_
    replace h := wpo_some h
    exact r_iret F h d10_all_16
theorem d10_worst_0 : decode c10_worst 0 = .ok (.aload_n 0, 1) := by decide +kernel
theorem d10_worst_1 : decode c10_worst 1 = .ok (.invokevirtual 280, 3) := by decide +kernel
theorem d10_worst_4 : decode c10_worst 4 = .ok (.ifCond .ne 6, 3) := by decide +kernel
theorem d10_worst_7 : decode c10_worst 7 = .ok (.bipush (-2), 2) := by decide +kernel
theorem d10_worst_9 : decode c10_worst 9 = .ok (.ireturn, 1) := by decide +kernel
theorem d10_worst_10 : decode c10_worst 10 = .ok (.iconst (-1), 1) := by decide +kernel
theorem d10_worst_11 : decode c10_worst 11 = .ok (.istore_n 1, 1) := by decide +kernel
theorem d10_worst_12 : decode c10_worst 12 = .ok (.iconst 0, 1) := by decide +kernel
theorem d10_worst_13 : decode c10_worst 13 = .ok (.istore_n 2, 1) := by decide +kernel
theorem d10_worst_14 : decode c10_worst 14 = .ok (.iconst 0, 1) := by decide +kernel
theorem d10_worst_15 : decode c10_worst 15 = .ok (.istore_n 3, 1) := by decide +kernel
theorem d10_worst_16 : decode c10_worst 16 = .ok (.iload_n 3, 1) := by decide +kernel
theorem d10_worst_17 : decode c10_worst 17 = .ok (.aload_n 0, 1) := by decide +kernel
theorem d10_worst_18 : decode c10_worst 18 = .ok (.getfield 9, 3) := by decide +kernel
theorem d10_worst_21 : decode c10_worst 21 = .ok (.bipush 7, 2) := by decide +kernel
theorem d10_worst_23 : decode c10_worst 23 = .ok (.iaload, 1) := by decide +kernel
theorem d10_worst_24 : decode c10_worst 24 = .ok (.if_icmp .ge 29, 3) := by decide +kernel
theorem d10_worst_27 : decode c10_worst 27 = .ok (.aload_n 0, 1) := by decide +kernel
theorem d10_worst_28 : decode c10_worst 28 = .ok (.iload_n 3, 1) := by decide +kernel
theorem d10_worst_29 : decode c10_worst 29 = .ok (.invokevirtual 271, 3) := by decide +kernel
theorem d10_worst_32 : decode c10_worst 32 = .ok (.iload_n 2, 1) := by decide +kernel
theorem d10_worst_33 : decode c10_worst 33 = .ok (.if_icmp .gt 6, 3) := by decide +kernel
theorem d10_worst_36 : decode c10_worst 36 = .ok (.goto 11, 3) := by decide +kernel
theorem d10_worst_39 : decode c10_worst 39 = .ok (.aload_n 0, 1) := by decide +kernel
theorem d10_worst_40 : decode c10_worst 40 = .ok (.iload_n 3, 1) := by decide +kernel
theorem d10_worst_41 : decode c10_worst 41 = .ok (.invokevirtual 271, 3) := by decide +kernel
theorem d10_worst_44 : decode c10_worst 44 = .ok (.istore_n 2, 1) := by decide +kernel
theorem d10_worst_45 : decode c10_worst 45 = .ok (.iload_n 3, 1) := by decide +kernel
theorem d10_worst_46 : decode c10_worst 46 = .ok (.istore_n 1, 1) := by decide +kernel
theorem d10_worst_47 : decode c10_worst 47 = .ok (.iinc 3 1, 3) := by decide +kernel
theorem d10_worst_50 : decode c10_worst 50 = .ok (.goto (-34), 3) := by decide +kernel
theorem d10_worst_53 : decode c10_worst 53 = .ok (.iload_n 1, 1) := by decide +kernel
theorem d10_worst_54 : decode c10_worst 54 = .ok (.ireturn, 1) := by decide +kernel
def f10_worst (D : Mem) : Option (Int × Mem) :=
  Option.bind (f10_asksParish D) fun (a1 : Int × Mem) =>
  if w32 a1.1 = 0 then
    some ((-2), a1.2)
  else
    Option.bind (@loop (Int × Int × Int) (Int) (fun s1 =>
      if w32 s1.2.2 < w32 (a1.2 118 7) then
        Option.bind (f10_bearsOf a1.2 s1.2.2) fun (a2 : Int) =>
        Option.bind (
          if w32 s1.2.1 < w32 a2 then
            Option.bind (f10_bearsOf a1.2 s1.2.2) fun (a3 : Int) =>
            some (s1.2.2, a3)
          else
            some (s1.1, s1.2.1)
        ) fun (j1 : Int × Int) =>
        some (Sum.inl (j1.1, j1.2, (s1.2.2 + 1)))
      else
        some (Sum.inr s1.1)
    ) FU ((-1), 0, 0)) fun (b1 : Int) =>
    some (b1, a1.2)
set_option maxHeartbeats 4000000 in
theorem ok10_worst {l : Launch} {X : XT} {n : Nat} {D : Mem} {Q : Option Value → Nat → Rho → Mem → Prop} (hn : 147 ≤ n)  (h : wpo (f10_worst D) (fun a => Q (some (vI a.1)) n rt a.2)) : MOK l y10_worst c10_worst 4 (some .int) { frames := 5, cells := 0, slots := 0, locals := 113 } 0 0 X [vR X 117] n rt D Q := by
  refine MOK_of 10 (by decide +kernel) rfl (lv := [(0, vR X 117)]) (Nat.le_of_ble_eq_true rfl) rfl (fun K hK F hnm => ?_)
  subst hK
  unfold f10_worst at h
  refine r_aload_nR F 0 rfl rfl d10_worst_0 ?_
  replace h := wpo_bind h
  refine r_callV0 F lm10_280 mf10_asksParish (vc117 hn) rfl (fr := 4) (lo := 93) (As := []) (rest := []) ⟨Nat.le_of_ble_eq_true rfl, Nat.le_of_ble_eq_true rfl⟩ rfl (Nat.le_of_ble_eq_true rfl) ⟨Nat.zero_le _, Nat.zero_le _⟩ d10_worst_1 ?_
  refine ok10_asksParish hn  (kIm h (fun a1 h => ?_))
  refine r_if_ne F (tgt := 10) d10_worst_4 (by decide) (fun hb => ?_) (fun hb => ?_)
  · replace h := wpo_neg h hb
    refine r_iconst F (z := (-1)) d10_worst_10 ?_
    refine r_istore_n F (lv' := [(1, vI (-1)), (0, vR X 117)]) rfl (Nat.le_of_ble_eq_true rfl) rfl d10_worst_11 ?_
    refine r_iconst F (z := 0) d10_worst_12 ?_
    refine r_istore_n F (lv' := [(2, vI 0), (1, vI (-1)), (0, vR X 117)]) rfl (Nat.le_of_ble_eq_true rfl) rfl d10_worst_13 ?_
    refine r_iconst F (z := 0) d10_worst_14 ?_
    refine r_istore_n F (lv' := [(3, vI 0), (2, vI 0), (1, vI (-1)), (0, vR X 117)]) rfl (Nat.le_of_ble_eq_true rfl) rfl d10_worst_15 ?_
    refine r_weak [3, 2, 1, 0] rfl ?_
    refine at_loopj (A := fun (s1 : Int × Int × Int) => At K X (ZQ K X Q) 0 0 n rt 4 16 [(0, vR X 117), (1, vI s1.1), (2, vI s1.2.1), (3, vI s1.2.2)] [] a1.2) (B := fun (b1 : Int) => At K X (ZQ K X Q) 0 0 n rt 4 53 [(1, vI b1)] [] a1.2) h (fun b1 h => ?_) (fun s1 h => ?_)
    · refine r_iload_n F 0 rfl rfl d10_worst_53 ?_
      replace h := wpo_some h
      exact r_iret F h d10_worst_54
    · refine r_iload_n F 3 rfl rfl d10_worst_16 ?_
      refine r_aload_nR F 0 rfl rfl d10_worst_17 ?_
      refine r_getR F (z := 118) lf10_9 (vc117 hn) z117_1 d10_worst_18 ?_
      refine r_bipush F (z := 7) (by decide) d10_worst_21 ?_
      refine r_ialdC F (j := 7) (vc118 hn) (by decide) rfl d10_worst_23 ?_
      refine r_icmp_ge F (tgt := 53) d10_worst_24 (by decide) (fun hb => ?_) (fun hb => ?_)
      · replace h := wpo_neg h hb
        refine r_weak [1] rfl ?_
        replace h := wpo_inr h
        exact h
      · replace h := wpo_pos h hb
        refine r_aload_nR F 0 rfl rfl d10_worst_27 ?_
        refine r_iload_n F 3 rfl rfl d10_worst_28 ?_
        replace h := wpo_bind h
        refine r_callV0 F lm10_271 mf10_bearsOf (vc117 hn) rfl (fr := 3) (lo := 66) (As := [vI s1.2.2]) (rest := []) ⟨Nat.le_of_ble_eq_true rfl, Nat.le_of_ble_eq_true rfl⟩ rfl (Nat.le_of_ble_eq_true rfl) ⟨Nat.zero_le _, Nat.zero_le _⟩ d10_worst_29 ?_
        refine ok10_bearsOf hn  (kI h (fun a2 h => ?_))
        refine r_iload_n F 2 rfl rfl d10_worst_32 ?_
        refine at_join (B := fun (j1 : Int × Int) => At K X (ZQ K X Q) 0 0 n rt 4 47 [(0, vR X 117), (1, vI j1.1), (2, vI j1.2), (3, vI s1.2.2)] [] a1.2) h (fun j1 h => ?_) (fun h => ?_)
        · refine r_iinc F 3 (lv' := [(3, vI (s1.2.2 + 1)), (0, vR X 117), (1, vI j1.1), (2, vI j1.2)]) rfl (Nat.le_of_ble_eq_true rfl) rfl d10_worst_47 ?_
          refine r_goto F (tgt := 16) (by decide) d10_worst_50 ?_
          refine r_weak [1, 2, 3, 0] rfl ?_
          replace h := wpo_inl h
          exact h
        · refine r_icmp_gt F (tgt := 39) d10_worst_33 (by decide) (fun hb => ?_) (fun hb => ?_)
          · replace h := wpo_pos h hb
            refine r_aload_nR F 0 rfl rfl d10_worst_39 ?_
            refine r_iload_n F 3 rfl rfl d10_worst_40 ?_
            replace h := wpo_bind h
            refine r_callV0 F lm10_271 mf10_bearsOf (vc117 hn) rfl (fr := 3) (lo := 66) (As := [vI s1.2.2]) (rest := []) ⟨Nat.le_of_ble_eq_true rfl, Nat.le_of_ble_eq_true rfl⟩ rfl (Nat.le_of_ble_eq_true rfl) ⟨Nat.zero_le _, Nat.zero_le _⟩ d10_worst_41 ?_
            refine ok10_bearsOf hn  (kI h (fun a3 h => ?_))
            refine r_istore_n F (lv' := [(2, vI a3), (0, vR X 117), (1, vI s1.1), (3, vI s1.2.2)]) rfl (Nat.le_of_ble_eq_true rfl) rfl d10_worst_44 ?_
            refine r_iload_n F 3 rfl rfl d10_worst_45 ?_
            refine r_istore_n F (lv' := [(1, vI s1.2.2), (2, vI a3), (0, vR X 117), (3, vI s1.2.2)]) rfl (Nat.le_of_ble_eq_true rfl) rfl d10_worst_46 ?_
            refine r_weak [2, 0, 1, 3] rfl ?_
            replace h := wpo_some h
            exact h
          · replace h := wpo_neg h hb
            refine r_goto F (tgt := 47) (by decide) d10_worst_36 ?_
            replace h := wpo_some h
            exact h
  · replace h := wpo_pos h hb
    refine r_bipush F (z := (-2)) (by decide) d10_worst_7 ?_
    replace h := wpo_some h
    exact r_iret F h d10_worst_9
theorem d10_crowded_0 : decode c10_crowded 0 = .ok (.aload_n 0, 1) := by decide +kernel
theorem d10_crowded_1 : decode c10_crowded 1 = .ok (.invokevirtual 280, 3) := by decide +kernel
theorem d10_crowded_4 : decode c10_crowded 4 = .ok (.ifCond .ne 6, 3) := by decide +kernel
theorem d10_crowded_7 : decode c10_crowded 7 = .ok (.bipush (-2), 2) := by decide +kernel
theorem d10_crowded_9 : decode c10_crowded 9 = .ok (.ireturn, 1) := by decide +kernel
theorem d10_crowded_10 : decode c10_crowded 10 = .ok (.iconst 0, 1) := by decide +kernel
theorem d10_crowded_11 : decode c10_crowded 11 = .ok (.istore_n 1, 1) := by decide +kernel
theorem d10_crowded_12 : decode c10_crowded 12 = .ok (.iload_n 1, 1) := by decide +kernel
theorem d10_crowded_13 : decode c10_crowded 13 = .ok (.aload_n 0, 1) := by decide +kernel
theorem d10_crowded_14 : decode c10_crowded 14 = .ok (.invokevirtual 256, 3) := by decide +kernel
theorem d10_crowded_17 : decode c10_crowded 17 = .ok (.if_icmp .ge 19, 3) := by decide +kernel
theorem d10_crowded_20 : decode c10_crowded 20 = .ok (.aload_n 0, 1) := by decide +kernel
theorem d10_crowded_21 : decode c10_crowded 21 = .ok (.iload_n 1, 1) := by decide +kernel
theorem d10_crowded_22 : decode c10_crowded 22 = .ok (.invokevirtual 300, 3) := by decide +kernel
theorem d10_crowded_25 : decode c10_crowded 25 = .ok (.ifCond .eq 5, 3) := by decide +kernel
theorem d10_crowded_28 : decode c10_crowded 28 = .ok (.iload_n 1, 1) := by decide +kernel
theorem d10_crowded_29 : decode c10_crowded 29 = .ok (.ireturn, 1) := by decide +kernel
theorem d10_crowded_30 : decode c10_crowded 30 = .ok (.iinc 1 1, 3) := by decide +kernel
theorem d10_crowded_33 : decode c10_crowded 33 = .ok (.goto (-21), 3) := by decide +kernel
theorem d10_crowded_36 : decode c10_crowded 36 = .ok (.iconst (-1), 1) := by decide +kernel
theorem d10_crowded_37 : decode c10_crowded 37 = .ok (.ireturn, 1) := by decide +kernel
def f10_crowded (D : Mem) : Option (Int × Mem) :=
  Option.bind (f10_asksParish D) fun (a1 : Int × Mem) =>
  if w32 a1.1 = 0 then
    some ((-2), a1.2)
  else
    Option.bind (@loop (Int) ((Unit) ⊕ (Int × Mem)) (fun s1 =>
      Option.bind (f10_nights a1.2) fun (a2 : Int) =>
      if w32 s1 < w32 a2 then
        Option.bind (f10_waitsIn a1.2 s1) fun (a3 : Int) =>
        if w32 a3 = 0 then
          some (Sum.inl (s1 + 1))
        else
          some (Sum.inr (Sum.inr (s1, a1.2)))
      else
        some (Sum.inr (Sum.inl ()))
    ) FU 0) (fun z => Sum.elim (fun (b1 : Unit) =>
      some ((-1), a1.2)
    ) (fun rv => some rv) z)
set_option maxHeartbeats 4000000 in
theorem ok10_crowded {l : Launch} {X : XT} {n : Nat} {D : Mem} {Q : Option Value → Nat → Rho → Mem → Prop} (hn : 147 ≤ n)  (h : wpo (f10_crowded D) (fun a => Q (some (vI a.1)) n rt a.2)) : MOK l y10_crowded c10_crowded 2 (some .int) { frames := 5, cells := 0, slots := 0, locals := 113 } 0 0 X [vR X 117] n rt D Q := by
  refine MOK_of 10 (by decide +kernel) rfl (lv := [(0, vR X 117)]) (Nat.le_of_ble_eq_true rfl) rfl (fun K hK F hnm => ?_)
  subst hK
  unfold f10_crowded at h
  refine r_aload_nR F 0 rfl rfl d10_crowded_0 ?_
  replace h := wpo_bind h
  refine r_callV0 F lm10_280 mf10_asksParish (vc117 hn) rfl (fr := 4) (lo := 93) (As := []) (rest := []) ⟨Nat.le_of_ble_eq_true rfl, Nat.le_of_ble_eq_true rfl⟩ rfl (Nat.le_of_ble_eq_true rfl) ⟨Nat.zero_le _, Nat.zero_le _⟩ d10_crowded_1 ?_
  refine ok10_asksParish hn  (kIm h (fun a1 h => ?_))
  refine r_if_ne F (tgt := 10) d10_crowded_4 (by decide) (fun hb => ?_) (fun hb => ?_)
  · replace h := wpo_neg h hb
    refine r_iconst F (z := 0) d10_crowded_10 ?_
    refine r_istore_n F (lv' := [(1, vI 0), (0, vR X 117)]) rfl (Nat.le_of_ble_eq_true rfl) rfl d10_crowded_11 ?_
    refine r_weak [1, 0] rfl ?_
    refine at_loopj (A := fun (s1 : Int) => At K X (ZQ K X Q) 0 0 n rt 2 12 [(0, vR X 117), (1, vI s1)] [] a1.2) (B := Sum.elim (fun (b1 : Unit) => At K X (ZQ K X Q) 0 0 n rt 2 36 [] [] a1.2) (fun rv => Q (some (vI rv.1)) n rt rv.2)) h (fun z h => ?_) (fun s1 h => ?_)
    · rcases z with b1 | rv
      · replace h := elim_l h
        refine el_li ?_
        refine r_iconst F (z := (-1)) d10_crowded_36 ?_
        replace h := wpo_some h
        exact r_iret F h d10_crowded_37
      · replace h := elim_r h
        replace h := wpo_some h
        exact el_ri h
    · refine r_iload_n F 1 rfl rfl d10_crowded_12 ?_
      refine r_aload_nR F 0 rfl rfl d10_crowded_13 ?_
      replace h := wpo_bind h
      refine r_callV0 F lm10_256 mf10_nights (vc117 hn) rfl (fr := 0) (lo := 0) (As := []) (rest := [vI s1]) ⟨Nat.le_of_ble_eq_true rfl, Nat.le_of_ble_eq_true rfl⟩ rfl (Nat.le_of_ble_eq_true rfl) ⟨Nat.zero_le _, Nat.zero_le _⟩ d10_crowded_14 ?_
      refine ok10_nights hn  (kI h (fun a2 h => ?_))
      refine r_icmp_ge F (tgt := 36) d10_crowded_17 (by decide) (fun hb => ?_) (fun hb => ?_)
      · replace h := wpo_neg h hb
        refine r_weak [] rfl ?_
        replace h := wpo_inr h
        replace h := el_l h
        exact h
      · replace h := wpo_pos h hb
        refine r_aload_nR F 0 rfl rfl d10_crowded_20 ?_
        refine r_iload_n F 1 rfl rfl d10_crowded_21 ?_
        replace h := wpo_bind h
        refine r_callV0 F lm10_300 mf10_waitsIn (vc117 hn) rfl (fr := 1) (lo := 22) (As := [vI s1]) (rest := []) ⟨Nat.le_of_ble_eq_true rfl, Nat.le_of_ble_eq_true rfl⟩ rfl (Nat.le_of_ble_eq_true rfl) ⟨Nat.zero_le _, Nat.zero_le _⟩ d10_crowded_22 ?_
        refine ok10_waitsIn hn  (kI h (fun a3 h => ?_))
        refine r_if_eq F (tgt := 30) d10_crowded_25 (by decide) (fun hb => ?_) (fun hb => ?_)
        · replace h := wpo_pos h hb
          refine r_iinc F 1 (lv' := [(1, vI (s1 + 1)), (0, vR X 117)]) rfl (Nat.le_of_ble_eq_true rfl) rfl d10_crowded_30 ?_
          refine r_goto F (tgt := 12) (by decide) d10_crowded_33 ?_
          refine r_weak [1, 0] rfl ?_
          replace h := wpo_inl h
          exact h
        · replace h := wpo_neg h hb
          refine r_iload_n F 1 rfl rfl d10_crowded_28 ?_
          replace h := el_r (wpo_inr h)
          exact r_iret F h d10_crowded_29
  · replace h := wpo_pos h hb
    refine r_bipush F (z := (-2)) (by decide) d10_crowded_7 ?_
    replace h := wpo_some h
    exact r_iret F h d10_crowded_9
theorem d10_holds_0 : decode c10_holds 0 = .ok (.aload_n 0, 1) := by decide +kernel
theorem d10_holds_1 : decode c10_holds 1 = .ok (.iload_n 1, 1) := by decide +kernel
theorem d10_holds_2 : decode c10_holds 2 = .ok (.invokevirtual 294, 3) := by decide +kernel
theorem d10_holds_5 : decode c10_holds 5 = .ok (.ifCond .eq 12, 3) := by decide +kernel
theorem d10_holds_8 : decode c10_holds 8 = .ok (.aload_n 0, 1) := by decide +kernel
theorem d10_holds_9 : decode c10_holds 9 = .ok (.getfield 52, 3) := by decide +kernel
theorem d10_holds_12 : decode c10_holds 12 = .ok (.iload_n 1, 1) := by decide +kernel
theorem d10_holds_13 : decode c10_holds 13 = .ok (.iaload, 1) := by decide +kernel
theorem d10_holds_14 : decode c10_holds 14 = .ok (.goto 5, 3) := by decide +kernel
theorem d10_holds_17 : decode c10_holds 17 = .ok (.bipush (-2), 2) := by decide +kernel
theorem d10_holds_19 : decode c10_holds 19 = .ok (.ireturn, 1) := by decide +kernel
def f10_holds (D : Mem) (p0 : Int) : Option (Int × Mem) :=
  Option.bind (f10_asksNight D p0) fun (a1 : Int × Mem) =>
  if w32 a1.1 = 0 then
    some ((-2), a1.2)
  else
    if 0 ≤ p0 ∧ p0 < 12 then
      some ((a1.2 130 p0.toNat), a1.2)
    else none
set_option maxHeartbeats 4000000 in
theorem ok10_holds {l : Launch} {X : XT} {n : Nat} {D : Mem} {Q : Option Value → Nat → Rho → Mem → Prop} (hn : 147 ≤ n) {p0 : Int}  (h : wpo (f10_holds D p0) (fun a => Q (some (vI a.1)) n rt a.2)) : MOK l y10_holds c10_holds 2 (some .int) { frames := 6, cells := 0, slots := 0, locals := 134 } 0 0 X [vR X 117, vI p0] n rt D Q := by
  refine MOK_of 10 (by decide +kernel) rfl (lv := [(0, vR X 117), (1, vI p0)]) (Nat.le_of_ble_eq_true rfl) rfl (fun K hK F hnm => ?_)
  subst hK
  unfold f10_holds at h
  refine r_aload_nR F 0 rfl rfl d10_holds_0 ?_
  refine r_iload_n F 1 rfl rfl d10_holds_1 ?_
  replace h := wpo_bind h
  refine r_callV0 F lm10_294 mf10_asksNight (vc117 hn) rfl (fr := 5) (lo := 113) (As := [vI p0]) (rest := []) ⟨Nat.le_of_ble_eq_true rfl, Nat.le_of_ble_eq_true rfl⟩ rfl (Nat.le_of_ble_eq_true rfl) ⟨Nat.zero_le _, Nat.zero_le _⟩ d10_holds_2 ?_
  refine ok10_asksNight hn  (kIm h (fun a1 h => ?_))
  refine r_if_eq F (tgt := 17) d10_holds_5 (by decide) (fun hb => ?_) (fun hb => ?_)
  · replace h := wpo_pos h hb
    refine r_bipush F (z := (-2)) (by decide) d10_holds_17 ?_
    replace h := wpo_some h
    exact r_iret F h d10_holds_19
  · replace h := wpo_neg h hb
    refine r_aload_nR F 0 rfl rfl d10_holds_8 ?_
    refine r_getR F (z := 130) lf10_52 (vc117 hn) z117_25 d10_holds_9 ?_
    refine r_iload_n F 1 rfl rfl d10_holds_12 ?_
    obtain ⟨hx1, h⟩ := wpo_chk h
    refine r_iald F (vc130 hn) hx1 d10_holds_13 ?_
    refine r_goto F (tgt := 19) (by decide) d10_holds_14 ?_
    replace h := wpo_some h
    exact r_iret F h d10_holds_19
theorem d10_cut_0 : decode c10_cut 0 = .ok (.aload_n 0, 1) := by decide +kernel
theorem d10_cut_1 : decode c10_cut 1 = .ok (.iload_n 1, 1) := by decide +kernel
theorem d10_cut_2 : decode c10_cut 2 = .ok (.invokevirtual 294, 3) := by decide +kernel
theorem d10_cut_5 : decode c10_cut 5 = .ok (.ifCond .eq 12, 3) := by decide +kernel
theorem d10_cut_8 : decode c10_cut 8 = .ok (.aload_n 0, 1) := by decide +kernel
theorem d10_cut_9 : decode c10_cut 9 = .ok (.getfield 55, 3) := by decide +kernel
theorem d10_cut_12 : decode c10_cut 12 = .ok (.iload_n 1, 1) := by decide +kernel
theorem d10_cut_13 : decode c10_cut 13 = .ok (.iaload, 1) := by decide +kernel
theorem d10_cut_14 : decode c10_cut 14 = .ok (.goto 5, 3) := by decide +kernel
theorem d10_cut_17 : decode c10_cut 17 = .ok (.bipush (-2), 2) := by decide +kernel
theorem d10_cut_19 : decode c10_cut 19 = .ok (.ireturn, 1) := by decide +kernel
def f10_cut (D : Mem) (p0 : Int) : Option (Int × Mem) :=
  Option.bind (f10_asksNight D p0) fun (a1 : Int × Mem) =>
  if w32 a1.1 = 0 then
    some ((-2), a1.2)
  else
    if 0 ≤ p0 ∧ p0 < 12 then
      some ((a1.2 131 p0.toNat), a1.2)
    else none
set_option maxHeartbeats 4000000 in
theorem ok10_cut {l : Launch} {X : XT} {n : Nat} {D : Mem} {Q : Option Value → Nat → Rho → Mem → Prop} (hn : 147 ≤ n) {p0 : Int}  (h : wpo (f10_cut D p0) (fun a => Q (some (vI a.1)) n rt a.2)) : MOK l y10_cut c10_cut 2 (some .int) { frames := 6, cells := 0, slots := 0, locals := 134 } 0 0 X [vR X 117, vI p0] n rt D Q := by
  refine MOK_of 10 (by decide +kernel) rfl (lv := [(0, vR X 117), (1, vI p0)]) (Nat.le_of_ble_eq_true rfl) rfl (fun K hK F hnm => ?_)
  subst hK
  unfold f10_cut at h
  refine r_aload_nR F 0 rfl rfl d10_cut_0 ?_
  refine r_iload_n F 1 rfl rfl d10_cut_1 ?_
  replace h := wpo_bind h
  refine r_callV0 F lm10_294 mf10_asksNight (vc117 hn) rfl (fr := 5) (lo := 113) (As := [vI p0]) (rest := []) ⟨Nat.le_of_ble_eq_true rfl, Nat.le_of_ble_eq_true rfl⟩ rfl (Nat.le_of_ble_eq_true rfl) ⟨Nat.zero_le _, Nat.zero_le _⟩ d10_cut_2 ?_
  refine ok10_asksNight hn  (kIm h (fun a1 h => ?_))
  refine r_if_eq F (tgt := 17) d10_cut_5 (by decide) (fun hb => ?_) (fun hb => ?_)
  · replace h := wpo_pos h hb
    refine r_bipush F (z := (-2)) (by decide) d10_cut_17 ?_
    replace h := wpo_some h
    exact r_iret F h d10_cut_19
  · replace h := wpo_neg h hb
    refine r_aload_nR F 0 rfl rfl d10_cut_8 ?_
    refine r_getR F (z := 131) lf10_55 (vc117 hn) z117_26 d10_cut_9 ?_
    refine r_iload_n F 1 rfl rfl d10_cut_12 ?_
    obtain ⟨hx1, h⟩ := wpo_chk h
    refine r_iald F (vc131 hn) hx1 d10_cut_13 ?_
    refine r_goto F (tgt := 19) (by decide) d10_cut_14 ?_
    replace h := wpo_some h
    exact r_iret F h d10_cut_19
theorem d10_feast_0 : decode c10_feast 0 = .ok (.aload_n 0, 1) := by decide +kernel
theorem d10_feast_1 : decode c10_feast 1 = .ok (.invokevirtual 280, 3) := by decide +kernel
theorem d10_feast_4 : decode c10_feast 4 = .ok (.ifCond .eq 10, 3) := by decide +kernel
theorem d10_feast_7 : decode c10_feast 7 = .ok (.aload_n 0, 1) := by decide +kernel
theorem d10_feast_8 : decode c10_feast 8 = .ok (.getfield 253, 3) := by decide +kernel
theorem d10_feast_11 : decode c10_feast 11 = .ok (.goto 5, 3) := by decide +kernel
theorem d10_feast_14 : decode c10_feast 14 = .ok (.bipush (-2), 2) := by decide +kernel
theorem d10_feast_16 : decode c10_feast 16 = .ok (.ireturn, 1) := by decide +kernel
def f10_feast (D : Mem) : Option (Int × Mem) :=
  Option.bind (f10_asksParish D) fun (a1 : Int × Mem) =>
  if w32 a1.1 = 0 then
    some ((-2), a1.2)
  else
    some ((a1.2 117 27), a1.2)
set_option maxHeartbeats 4000000 in
theorem ok10_feast {l : Launch} {X : XT} {n : Nat} {D : Mem} {Q : Option Value → Nat → Rho → Mem → Prop} (hn : 147 ≤ n)  (h : wpo (f10_feast D) (fun a => Q (some (vI a.1)) n rt a.2)) : MOK l y10_feast c10_feast 1 (some .int) { frames := 5, cells := 0, slots := 0, locals := 113 } 0 0 X [vR X 117] n rt D Q := by
  refine MOK_of 10 (by decide +kernel) rfl (lv := [(0, vR X 117)]) (Nat.le_of_ble_eq_true rfl) rfl (fun K hK F hnm => ?_)
  subst hK
  unfold f10_feast at h
  refine r_aload_nR F 0 rfl rfl d10_feast_0 ?_
  replace h := wpo_bind h
  refine r_callV0 F lm10_280 mf10_asksParish (vc117 hn) rfl (fr := 4) (lo := 93) (As := []) (rest := []) ⟨Nat.le_of_ble_eq_true rfl, Nat.le_of_ble_eq_true rfl⟩ rfl (Nat.le_of_ble_eq_true rfl) ⟨Nat.zero_le _, Nat.zero_le _⟩ d10_feast_1 ?_
  refine ok10_asksParish hn  (kIm h (fun a1 h => ?_))
  refine r_if_eq F (tgt := 14) d10_feast_4 (by decide) (fun hb => ?_) (fun hb => ?_)
  · replace h := wpo_pos h hb
    refine r_bipush F (z := (-2)) (by decide) d10_feast_14 ?_
    replace h := wpo_some h
    exact r_iret F h d10_feast_16
  · replace h := wpo_neg h hb
    refine r_aload_nR F 0 rfl rfl d10_feast_7 ?_
    refine r_getI F lf10_253 (vc117 hn) d10_feast_8 ?_
    refine r_goto F (tgt := 16) (by decide) d10_feast_11 ?_
    replace h := wpo_some h
    exact r_iret F h d10_feast_16
theorem d10_paid_0 : decode c10_paid 0 = .ok (.aload_n 0, 1) := by decide +kernel
theorem d10_paid_1 : decode c10_paid 1 = .ok (.invokevirtual 280, 3) := by decide +kernel
theorem d10_paid_4 : decode c10_paid 4 = .ok (.ifCond .eq 24, 3) := by decide +kernel
theorem d10_paid_7 : decode c10_paid 7 = .ok (.aload_n 0, 1) := by decide +kernel
theorem d10_paid_8 : decode c10_paid 8 = .ok (.getfield 55, 3) := by decide +kernel
theorem d10_paid_11 : decode c10_paid 11 = .ok (.aload_n 0, 1) := by decide +kernel
theorem d10_paid_12 : decode c10_paid 12 = .ok (.invokevirtual 256, 3) := by decide +kernel
theorem d10_paid_15 : decode c10_paid 15 = .ok (.iconst 1, 1) := by decide +kernel
theorem d10_paid_16 : decode c10_paid 16 = .ok (.isub, 1) := by decide +kernel
theorem d10_paid_17 : decode c10_paid 17 = .ok (.iaload, 1) := by decide +kernel
theorem d10_paid_18 : decode c10_paid 18 = .ok (.aload_n 0, 1) := by decide +kernel
theorem d10_paid_19 : decode c10_paid 19 = .ok (.getfield 9, 3) := by decide +kernel
theorem d10_paid_22 : decode c10_paid 22 = .ok (.iconst 5, 1) := by decide +kernel
theorem d10_paid_23 : decode c10_paid 23 = .ok (.iaload, 1) := by decide +kernel
theorem d10_paid_24 : decode c10_paid 24 = .ok (.imul, 1) := by decide +kernel
theorem d10_paid_25 : decode c10_paid 25 = .ok (.goto 5, 3) := by decide +kernel
theorem d10_paid_28 : decode c10_paid 28 = .ok (.bipush (-2), 2) := by decide +kernel
theorem d10_paid_30 : decode c10_paid 30 = .ok (.ireturn, 1) := by decide +kernel
def f10_paid (D : Mem) : Option (Int × Mem) :=
  Option.bind (f10_asksParish D) fun (a1 : Int × Mem) =>
  if w32 a1.1 = 0 then
    some ((-2), a1.2)
  else
    Option.bind (f10_nights a1.2) fun (a2 : Int) =>
    if 0 ≤ (a2 - 1) ∧ (a2 - 1) < 12 then
      some (((a1.2 131 (a2 - 1).toNat) * (a1.2 118 5)), a1.2)
    else none
set_option maxHeartbeats 4000000 in
theorem ok10_paid {l : Launch} {X : XT} {n : Nat} {D : Mem} {Q : Option Value → Nat → Rho → Mem → Prop} (hn : 147 ≤ n)  (h : wpo (f10_paid D) (fun a => Q (some (vI a.1)) n rt a.2)) : MOK l y10_paid c10_paid 1 (some .int) { frames := 5, cells := 0, slots := 0, locals := 113 } 0 0 X [vR X 117] n rt D Q := by
  refine MOK_of 10 (by decide +kernel) rfl (lv := [(0, vR X 117)]) (Nat.le_of_ble_eq_true rfl) rfl (fun K hK F hnm => ?_)
  subst hK
  unfold f10_paid at h
  refine r_aload_nR F 0 rfl rfl d10_paid_0 ?_
  replace h := wpo_bind h
  refine r_callV0 F lm10_280 mf10_asksParish (vc117 hn) rfl (fr := 4) (lo := 93) (As := []) (rest := []) ⟨Nat.le_of_ble_eq_true rfl, Nat.le_of_ble_eq_true rfl⟩ rfl (Nat.le_of_ble_eq_true rfl) ⟨Nat.zero_le _, Nat.zero_le _⟩ d10_paid_1 ?_
  refine ok10_asksParish hn  (kIm h (fun a1 h => ?_))
  refine r_if_eq F (tgt := 28) d10_paid_4 (by decide) (fun hb => ?_) (fun hb => ?_)
  · replace h := wpo_pos h hb
    refine r_bipush F (z := (-2)) (by decide) d10_paid_28 ?_
    replace h := wpo_some h
    exact r_iret F h d10_paid_30
  · replace h := wpo_neg h hb
    refine r_aload_nR F 0 rfl rfl d10_paid_7 ?_
    refine r_getR F (z := 131) lf10_55 (vc117 hn) z117_26 d10_paid_8 ?_
    refine r_aload_nR F 0 rfl rfl d10_paid_11 ?_
    replace h := wpo_bind h
    refine r_callV0 F lm10_256 mf10_nights (vc117 hn) rfl (fr := 0) (lo := 0) (As := []) (rest := [vR X 131]) ⟨Nat.le_of_ble_eq_true rfl, Nat.le_of_ble_eq_true rfl⟩ rfl (Nat.le_of_ble_eq_true rfl) ⟨Nat.zero_le _, Nat.zero_le _⟩ d10_paid_12 ?_
    refine ok10_nights hn  (kI h (fun a2 h => ?_))
    refine r_iconst F (z := 1) d10_paid_15 ?_
    refine r_isub F d10_paid_16 ?_
    obtain ⟨hx1, h⟩ := wpo_chk h
    refine r_iald F (vc131 hn) hx1 d10_paid_17 ?_
    refine r_aload_nR F 0 rfl rfl d10_paid_18 ?_
    refine r_getR F (z := 118) lf10_9 (vc117 hn) z117_1 d10_paid_19 ?_
    refine r_iconst F (z := 5) d10_paid_22 ?_
    refine r_ialdC F (j := 5) (vc118 hn) (by decide) rfl d10_paid_23 ?_
    refine r_imul F d10_paid_24 ?_
    refine r_goto F (tgt := 30) (by decide) d10_paid_25 ?_
    replace h := wpo_some h
    exact r_iret F h d10_paid_30
theorem d10_quiet_0 : decode c10_quiet 0 = .ok (.aload_n 0, 1) := by decide +kernel
theorem d10_quiet_1 : decode c10_quiet 1 = .ok (.invokevirtual 280, 3) := by decide +kernel
theorem d10_quiet_4 : decode c10_quiet 4 = .ok (.ifCond .ne 6, 3) := by decide +kernel
theorem d10_quiet_7 : decode c10_quiet 7 = .ok (.bipush (-2), 2) := by decide +kernel
theorem d10_quiet_9 : decode c10_quiet 9 = .ok (.ireturn, 1) := by decide +kernel
theorem d10_quiet_10 : decode c10_quiet 10 = .ok (.iconst 0, 1) := by decide +kernel
theorem d10_quiet_11 : decode c10_quiet 11 = .ok (.istore_n 1, 1) := by decide +kernel
theorem d10_quiet_12 : decode c10_quiet 12 = .ok (.iconst 0, 1) := by decide +kernel
theorem d10_quiet_13 : decode c10_quiet 13 = .ok (.istore_n 2, 1) := by decide +kernel
theorem d10_quiet_14 : decode c10_quiet 14 = .ok (.iload_n 2, 1) := by decide +kernel
theorem d10_quiet_15 : decode c10_quiet 15 = .ok (.aload_n 0, 1) := by decide +kernel
theorem d10_quiet_16 : decode c10_quiet 16 = .ok (.invokevirtual 256, 3) := by decide +kernel
theorem d10_quiet_19 : decode c10_quiet 19 = .ok (.if_icmp .ge 27, 3) := by decide +kernel
theorem d10_quiet_22 : decode c10_quiet 22 = .ok (.iload_n 1, 1) := by decide +kernel
theorem d10_quiet_23 : decode c10_quiet 23 = .ok (.aload_n 0, 1) := by decide +kernel
theorem d10_quiet_24 : decode c10_quiet 24 = .ok (.iload_n 2, 1) := by decide +kernel
theorem d10_quiet_25 : decode c10_quiet 25 = .ok (.invokevirtual 300, 3) := by decide +kernel
theorem d10_quiet_28 : decode c10_quiet 28 = .ok (.ifCond .ne 9, 3) := by decide +kernel
theorem d10_quiet_31 : decode c10_quiet 31 = .ok (.iconst 1, 1) := by decide +kernel
theorem d10_quiet_32 : decode c10_quiet 32 = .ok (.iload_n 2, 1) := by decide +kernel
theorem d10_quiet_33 : decode c10_quiet 33 = .ok (.ishl, 1) := by decide +kernel
theorem d10_quiet_34 : decode c10_quiet 34 = .ok (.goto 4, 3) := by decide +kernel
theorem d10_quiet_37 : decode c10_quiet 37 = .ok (.iconst 0, 1) := by decide +kernel
theorem d10_quiet_38 : decode c10_quiet 38 = .ok (.ior, 1) := by decide +kernel
theorem d10_quiet_39 : decode c10_quiet 39 = .ok (.istore_n 1, 1) := by decide +kernel
theorem d10_quiet_40 : decode c10_quiet 40 = .ok (.iinc 2 1, 3) := by decide +kernel
theorem d10_quiet_43 : decode c10_quiet 43 = .ok (.goto (-29), 3) := by decide +kernel
theorem d10_quiet_46 : decode c10_quiet 46 = .ok (.iload_n 1, 1) := by decide +kernel
theorem d10_quiet_47 : decode c10_quiet 47 = .ok (.ireturn, 1) := by decide +kernel
def f10_quiet (D : Mem) : Option (Int × Mem) :=
  Option.bind (f10_asksParish D) fun (a1 : Int × Mem) =>
  if w32 a1.1 = 0 then
    some ((-2), a1.2)
  else
    Option.bind (@loop (Int × Int) (Int) (fun s1 =>
      Option.bind (f10_nights a1.2) fun (a2 : Int) =>
      if w32 s1.2 < w32 a2 then
        Option.bind (f10_waitsIn a1.2 s1.2) fun (a3 : Int) =>
        Option.bind (
          if w32 a3 = 0 then
            some (shl32 1 s1.2)
          else
            some 0
        ) fun (j1 : Int) =>
        some (Sum.inl ((or32 s1.1 j1), (s1.2 + 1)))
      else
        some (Sum.inr s1.1)
    ) FU (0, 0)) fun (b1 : Int) =>
    some (b1, a1.2)
set_option maxHeartbeats 4000000 in
theorem ok10_quiet {l : Launch} {X : XT} {n : Nat} {D : Mem} {Q : Option Value → Nat → Rho → Mem → Prop} (hn : 147 ≤ n)  (h : wpo (f10_quiet D) (fun a => Q (some (vI a.1)) n rt a.2)) : MOK l y10_quiet c10_quiet 3 (some .int) { frames := 5, cells := 0, slots := 0, locals := 113 } 0 0 X [vR X 117] n rt D Q := by
  refine MOK_of 10 (by decide +kernel) rfl (lv := [(0, vR X 117)]) (Nat.le_of_ble_eq_true rfl) rfl (fun K hK F hnm => ?_)
  subst hK
  unfold f10_quiet at h
  refine r_aload_nR F 0 rfl rfl d10_quiet_0 ?_
  replace h := wpo_bind h
  refine r_callV0 F lm10_280 mf10_asksParish (vc117 hn) rfl (fr := 4) (lo := 93) (As := []) (rest := []) ⟨Nat.le_of_ble_eq_true rfl, Nat.le_of_ble_eq_true rfl⟩ rfl (Nat.le_of_ble_eq_true rfl) ⟨Nat.zero_le _, Nat.zero_le _⟩ d10_quiet_1 ?_
  refine ok10_asksParish hn  (kIm h (fun a1 h => ?_))
  refine r_if_ne F (tgt := 10) d10_quiet_4 (by decide) (fun hb => ?_) (fun hb => ?_)
  · replace h := wpo_neg h hb
    refine r_iconst F (z := 0) d10_quiet_10 ?_
    refine r_istore_n F (lv' := [(1, vI 0), (0, vR X 117)]) rfl (Nat.le_of_ble_eq_true rfl) rfl d10_quiet_11 ?_
    refine r_iconst F (z := 0) d10_quiet_12 ?_
    refine r_istore_n F (lv' := [(2, vI 0), (1, vI 0), (0, vR X 117)]) rfl (Nat.le_of_ble_eq_true rfl) rfl d10_quiet_13 ?_
    refine r_weak [2, 1, 0] rfl ?_
    refine at_loopj (A := fun (s1 : Int × Int) => At K X (ZQ K X Q) 0 0 n rt 3 14 [(0, vR X 117), (1, vI s1.1), (2, vI s1.2)] [] a1.2) (B := fun (b1 : Int) => At K X (ZQ K X Q) 0 0 n rt 3 46 [(1, vI b1)] [] a1.2) h (fun b1 h => ?_) (fun s1 h => ?_)
    · refine r_iload_n F 0 rfl rfl d10_quiet_46 ?_
      replace h := wpo_some h
      exact r_iret F h d10_quiet_47
    · refine r_iload_n F 2 rfl rfl d10_quiet_14 ?_
      refine r_aload_nR F 0 rfl rfl d10_quiet_15 ?_
      replace h := wpo_bind h
      refine r_callV0 F lm10_256 mf10_nights (vc117 hn) rfl (fr := 0) (lo := 0) (As := []) (rest := [vI s1.2]) ⟨Nat.le_of_ble_eq_true rfl, Nat.le_of_ble_eq_true rfl⟩ rfl (Nat.le_of_ble_eq_true rfl) ⟨Nat.zero_le _, Nat.zero_le _⟩ d10_quiet_16 ?_
      refine ok10_nights hn  (kI h (fun a2 h => ?_))
      refine r_icmp_ge F (tgt := 46) d10_quiet_19 (by decide) (fun hb => ?_) (fun hb => ?_)
      · replace h := wpo_neg h hb
        refine r_weak [1] rfl ?_
        replace h := wpo_inr h
        exact h
      · replace h := wpo_pos h hb
        refine r_iload_n F 1 rfl rfl d10_quiet_22 ?_
        refine r_aload_nR F 0 rfl rfl d10_quiet_23 ?_
        refine r_iload_n F 2 rfl rfl d10_quiet_24 ?_
        replace h := wpo_bind h
        refine r_callV0 F lm10_300 mf10_waitsIn (vc117 hn) rfl (fr := 1) (lo := 22) (As := [vI s1.2]) (rest := [vI s1.1]) ⟨Nat.le_of_ble_eq_true rfl, Nat.le_of_ble_eq_true rfl⟩ rfl (Nat.le_of_ble_eq_true rfl) ⟨Nat.zero_le _, Nat.zero_le _⟩ d10_quiet_25 ?_
        refine ok10_waitsIn hn  (kI h (fun a3 h => ?_))
        refine at_join (B := fun (j1 : Int) => At K X (ZQ K X Q) 0 0 n rt 3 38 [(0, vR X 117), (2, vI s1.2)] [vI j1, vI s1.1] a1.2) h (fun j1 h => ?_) (fun h => ?_)
        · refine r_ior F d10_quiet_38 ?_
          refine r_istore_n F (lv' := [(1, vI (or32 s1.1 j1)), (0, vR X 117), (2, vI s1.2)]) rfl (Nat.le_of_ble_eq_true rfl) rfl d10_quiet_39 ?_
          refine r_iinc F 2 (lv' := [(2, vI (s1.2 + 1)), (1, vI (or32 s1.1 j1)), (0, vR X 117)]) rfl (Nat.le_of_ble_eq_true rfl) rfl d10_quiet_40 ?_
          refine r_goto F (tgt := 14) (by decide) d10_quiet_43 ?_
          refine r_weak [2, 1, 0] rfl ?_
          replace h := wpo_inl h
          exact h
        · refine r_if_ne F (tgt := 37) d10_quiet_28 (by decide) (fun hb => ?_) (fun hb => ?_)
          · replace h := wpo_neg h hb
            refine r_iconst F (z := 0) d10_quiet_37 ?_
            refine r_weak [0, 2] rfl ?_
            replace h := wpo_some h
            exact h
          · replace h := wpo_pos h hb
            refine r_iconst F (z := 1) d10_quiet_31 ?_
            refine r_iload_n F 2 rfl rfl d10_quiet_32 ?_
            refine r_ishl F d10_quiet_33 ?_
            refine r_goto F (tgt := 38) (by decide) d10_quiet_34 ?_
            refine r_weak [0, 2] rfl ?_
            replace h := wpo_some h
            exact h
  · replace h := wpo_pos h hb
    refine r_bipush F (z := (-2)) (by decide) d10_quiet_7 ?_
    replace h := wpo_some h
    exact r_iret F h d10_quiet_9
theorem d10_kept_0 : decode c10_kept 0 = .ok (.aload_n 0, 1) := by decide +kernel
theorem d10_kept_1 : decode c10_kept 1 = .ok (.invokevirtual 280, 3) := by decide +kernel
theorem d10_kept_4 : decode c10_kept 4 = .ok (.ifCond .eq 11, 3) := by decide +kernel
theorem d10_kept_7 : decode c10_kept 7 = .ok (.aload_n 0, 1) := by decide +kernel
theorem d10_kept_8 : decode c10_kept 8 = .ok (.iconst (-1), 1) := by decide +kernel
theorem d10_kept_9 : decode c10_kept 9 = .ok (.invokevirtual 297, 3) := by decide +kernel
theorem d10_kept_12 : decode c10_kept 12 = .ok (.goto 5, 3) := by decide +kernel
theorem d10_kept_15 : decode c10_kept 15 = .ok (.bipush (-2), 2) := by decide +kernel
theorem d10_kept_17 : decode c10_kept 17 = .ok (.ireturn, 1) := by decide +kernel
def f10_kept (D : Mem) : Option (Int × Mem) :=
  Option.bind (f10_asksParish D) fun (a1 : Int × Mem) =>
  if w32 a1.1 = 0 then
    some ((-2), a1.2)
  else
    Option.bind (f10_givenIn a1.2 (-1)) fun (a2 : Int) =>
    some (a2, a1.2)
set_option maxHeartbeats 4000000 in
theorem ok10_kept {l : Launch} {X : XT} {n : Nat} {D : Mem} {Q : Option Value → Nat → Rho → Mem → Prop} (hn : 147 ≤ n)  (h : wpo (f10_kept D) (fun a => Q (some (vI a.1)) n rt a.2)) : MOK l y10_kept c10_kept 1 (some .int) { frames := 5, cells := 0, slots := 0, locals := 113 } 0 0 X [vR X 117] n rt D Q := by
  refine MOK_of 10 (by decide +kernel) rfl (lv := [(0, vR X 117)]) (Nat.le_of_ble_eq_true rfl) rfl (fun K hK F hnm => ?_)
  subst hK
  unfold f10_kept at h
  refine r_aload_nR F 0 rfl rfl d10_kept_0 ?_
  replace h := wpo_bind h
  refine r_callV0 F lm10_280 mf10_asksParish (vc117 hn) rfl (fr := 4) (lo := 93) (As := []) (rest := []) ⟨Nat.le_of_ble_eq_true rfl, Nat.le_of_ble_eq_true rfl⟩ rfl (Nat.le_of_ble_eq_true rfl) ⟨Nat.zero_le _, Nat.zero_le _⟩ d10_kept_1 ?_
  refine ok10_asksParish hn  (kIm h (fun a1 h => ?_))
  refine r_if_eq F (tgt := 15) d10_kept_4 (by decide) (fun hb => ?_) (fun hb => ?_)
  · replace h := wpo_pos h hb
    refine r_bipush F (z := (-2)) (by decide) d10_kept_15 ?_
    replace h := wpo_some h
    exact r_iret F h d10_kept_17
  · replace h := wpo_neg h hb
    refine r_aload_nR F 0 rfl rfl d10_kept_7 ?_
    refine r_iconst F (z := (-1)) d10_kept_8 ?_
    replace h := wpo_bind h
    refine r_callV0 F lm10_297 mf10_givenIn (vc117 hn) rfl (fr := 0) (lo := 0) (As := [vI (-1)]) (rest := []) ⟨Nat.le_of_ble_eq_true rfl, Nat.le_of_ble_eq_true rfl⟩ rfl (Nat.le_of_ble_eq_true rfl) ⟨Nat.zero_le _, Nat.zero_le _⟩ d10_kept_9 ?_
    refine ok10_givenIn hn  (kI h (fun a2 h => ?_))
    refine r_goto F (tgt := 17) (by decide) d10_kept_12 ?_
    replace h := wpo_some h
    exact r_iret F h d10_kept_17
theorem d10_idle_0 : decode c10_idle 0 = .ok (.aload_n 0, 1) := by decide +kernel
theorem d10_idle_1 : decode c10_idle 1 = .ok (.invokevirtual 280, 3) := by decide +kernel
theorem d10_idle_4 : decode c10_idle 4 = .ok (.ifCond .ne 6, 3) := by decide +kernel
theorem d10_idle_7 : decode c10_idle 7 = .ok (.bipush (-2), 2) := by decide +kernel
theorem d10_idle_9 : decode c10_idle 9 = .ok (.ireturn, 1) := by decide +kernel
theorem d10_idle_10 : decode c10_idle 10 = .ok (.iconst 0, 1) := by decide +kernel
theorem d10_idle_11 : decode c10_idle 11 = .ok (.istore_n 1, 1) := by decide +kernel
theorem d10_idle_12 : decode c10_idle 12 = .ok (.iconst 0, 1) := by decide +kernel
theorem d10_idle_13 : decode c10_idle 13 = .ok (.istore_n 2, 1) := by decide +kernel
theorem d10_idle_14 : decode c10_idle 14 = .ok (.iload_n 2, 1) := by decide +kernel
theorem d10_idle_15 : decode c10_idle 15 = .ok (.aload_n 0, 1) := by decide +kernel
theorem d10_idle_16 : decode c10_idle 16 = .ok (.invokevirtual 256, 3) := by decide +kernel
theorem d10_idle_19 : decode c10_idle 19 = .ok (.if_icmp .ge 27, 3) := by decide +kernel
theorem d10_idle_22 : decode c10_idle 22 = .ok (.iload_n 1, 1) := by decide +kernel
theorem d10_idle_23 : decode c10_idle 23 = .ok (.aload_n 0, 1) := by decide +kernel
theorem d10_idle_24 : decode c10_idle 24 = .ok (.iload_n 2, 1) := by decide +kernel
theorem d10_idle_25 : decode c10_idle 25 = .ok (.invokevirtual 297, 3) := by decide +kernel
theorem d10_idle_28 : decode c10_idle 28 = .ok (.ifCond .ne 9, 3) := by decide +kernel
theorem d10_idle_31 : decode c10_idle 31 = .ok (.iconst 1, 1) := by decide +kernel
theorem d10_idle_32 : decode c10_idle 32 = .ok (.iload_n 2, 1) := by decide +kernel
theorem d10_idle_33 : decode c10_idle 33 = .ok (.ishl, 1) := by decide +kernel
theorem d10_idle_34 : decode c10_idle 34 = .ok (.goto 4, 3) := by decide +kernel
theorem d10_idle_37 : decode c10_idle 37 = .ok (.iconst 0, 1) := by decide +kernel
theorem d10_idle_38 : decode c10_idle 38 = .ok (.ior, 1) := by decide +kernel
theorem d10_idle_39 : decode c10_idle 39 = .ok (.istore_n 1, 1) := by decide +kernel
theorem d10_idle_40 : decode c10_idle 40 = .ok (.iinc 2 1, 3) := by decide +kernel
theorem d10_idle_43 : decode c10_idle 43 = .ok (.goto (-29), 3) := by decide +kernel
theorem d10_idle_46 : decode c10_idle 46 = .ok (.iload_n 1, 1) := by decide +kernel
theorem d10_idle_47 : decode c10_idle 47 = .ok (.ireturn, 1) := by decide +kernel
def f10_idle (D : Mem) : Option (Int × Mem) :=
  Option.bind (f10_asksParish D) fun (a1 : Int × Mem) =>
  if w32 a1.1 = 0 then
    some ((-2), a1.2)
  else
    Option.bind (@loop (Int × Int) (Int) (fun s1 =>
      Option.bind (f10_nights a1.2) fun (a2 : Int) =>
      if w32 s1.2 < w32 a2 then
        Option.bind (f10_givenIn a1.2 s1.2) fun (a3 : Int) =>
        Option.bind (
          if w32 a3 = 0 then
            some (shl32 1 s1.2)
          else
            some 0
        ) fun (j1 : Int) =>
        some (Sum.inl ((or32 s1.1 j1), (s1.2 + 1)))
      else
        some (Sum.inr s1.1)
    ) FU (0, 0)) fun (b1 : Int) =>
    some (b1, a1.2)
set_option maxHeartbeats 4000000 in
theorem ok10_idle {l : Launch} {X : XT} {n : Nat} {D : Mem} {Q : Option Value → Nat → Rho → Mem → Prop} (hn : 147 ≤ n)  (h : wpo (f10_idle D) (fun a => Q (some (vI a.1)) n rt a.2)) : MOK l y10_idle c10_idle 3 (some .int) { frames := 5, cells := 0, slots := 0, locals := 113 } 0 0 X [vR X 117] n rt D Q := by
  refine MOK_of 10 (by decide +kernel) rfl (lv := [(0, vR X 117)]) (Nat.le_of_ble_eq_true rfl) rfl (fun K hK F hnm => ?_)
  subst hK
  unfold f10_idle at h
  refine r_aload_nR F 0 rfl rfl d10_idle_0 ?_
  replace h := wpo_bind h
  refine r_callV0 F lm10_280 mf10_asksParish (vc117 hn) rfl (fr := 4) (lo := 93) (As := []) (rest := []) ⟨Nat.le_of_ble_eq_true rfl, Nat.le_of_ble_eq_true rfl⟩ rfl (Nat.le_of_ble_eq_true rfl) ⟨Nat.zero_le _, Nat.zero_le _⟩ d10_idle_1 ?_
  refine ok10_asksParish hn  (kIm h (fun a1 h => ?_))
  refine r_if_ne F (tgt := 10) d10_idle_4 (by decide) (fun hb => ?_) (fun hb => ?_)
  · replace h := wpo_neg h hb
    refine r_iconst F (z := 0) d10_idle_10 ?_
    refine r_istore_n F (lv' := [(1, vI 0), (0, vR X 117)]) rfl (Nat.le_of_ble_eq_true rfl) rfl d10_idle_11 ?_
    refine r_iconst F (z := 0) d10_idle_12 ?_
    refine r_istore_n F (lv' := [(2, vI 0), (1, vI 0), (0, vR X 117)]) rfl (Nat.le_of_ble_eq_true rfl) rfl d10_idle_13 ?_
    refine r_weak [2, 1, 0] rfl ?_
    refine at_loopj (A := fun (s1 : Int × Int) => At K X (ZQ K X Q) 0 0 n rt 3 14 [(0, vR X 117), (1, vI s1.1), (2, vI s1.2)] [] a1.2) (B := fun (b1 : Int) => At K X (ZQ K X Q) 0 0 n rt 3 46 [(1, vI b1)] [] a1.2) h (fun b1 h => ?_) (fun s1 h => ?_)
    · refine r_iload_n F 0 rfl rfl d10_idle_46 ?_
      replace h := wpo_some h
      exact r_iret F h d10_idle_47
    · refine r_iload_n F 2 rfl rfl d10_idle_14 ?_
      refine r_aload_nR F 0 rfl rfl d10_idle_15 ?_
      replace h := wpo_bind h
      refine r_callV0 F lm10_256 mf10_nights (vc117 hn) rfl (fr := 0) (lo := 0) (As := []) (rest := [vI s1.2]) ⟨Nat.le_of_ble_eq_true rfl, Nat.le_of_ble_eq_true rfl⟩ rfl (Nat.le_of_ble_eq_true rfl) ⟨Nat.zero_le _, Nat.zero_le _⟩ d10_idle_16 ?_
      refine ok10_nights hn  (kI h (fun a2 h => ?_))
      refine r_icmp_ge F (tgt := 46) d10_idle_19 (by decide) (fun hb => ?_) (fun hb => ?_)
      · replace h := wpo_neg h hb
        refine r_weak [1] rfl ?_
        replace h := wpo_inr h
        exact h
      · replace h := wpo_pos h hb
        refine r_iload_n F 1 rfl rfl d10_idle_22 ?_
        refine r_aload_nR F 0 rfl rfl d10_idle_23 ?_
        refine r_iload_n F 2 rfl rfl d10_idle_24 ?_
        replace h := wpo_bind h
        refine r_callV0 F lm10_297 mf10_givenIn (vc117 hn) rfl (fr := 0) (lo := 0) (As := [vI s1.2]) (rest := [vI s1.1]) ⟨Nat.le_of_ble_eq_true rfl, Nat.le_of_ble_eq_true rfl⟩ rfl (Nat.le_of_ble_eq_true rfl) ⟨Nat.zero_le _, Nat.zero_le _⟩ d10_idle_25 ?_
        refine ok10_givenIn hn  (kI h (fun a3 h => ?_))
        refine at_join (B := fun (j1 : Int) => At K X (ZQ K X Q) 0 0 n rt 3 38 [(0, vR X 117), (2, vI s1.2)] [vI j1, vI s1.1] a1.2) h (fun j1 h => ?_) (fun h => ?_)
        · refine r_ior F d10_idle_38 ?_
          refine r_istore_n F (lv' := [(1, vI (or32 s1.1 j1)), (0, vR X 117), (2, vI s1.2)]) rfl (Nat.le_of_ble_eq_true rfl) rfl d10_idle_39 ?_
          refine r_iinc F 2 (lv' := [(2, vI (s1.2 + 1)), (1, vI (or32 s1.1 j1)), (0, vR X 117)]) rfl (Nat.le_of_ble_eq_true rfl) rfl d10_idle_40 ?_
          refine r_goto F (tgt := 14) (by decide) d10_idle_43 ?_
          refine r_weak [2, 1, 0] rfl ?_
          replace h := wpo_inl h
          exact h
        · refine r_if_ne F (tgt := 37) d10_idle_28 (by decide) (fun hb => ?_) (fun hb => ?_)
          · replace h := wpo_neg h hb
            refine r_iconst F (z := 0) d10_idle_37 ?_
            refine r_weak [0, 2] rfl ?_
            replace h := wpo_some h
            exact h
          · replace h := wpo_pos h hb
            refine r_iconst F (z := 1) d10_idle_31 ?_
            refine r_iload_n F 2 rfl rfl d10_idle_32 ?_
            refine r_ishl F d10_idle_33 ?_
            refine r_goto F (tgt := 38) (by decide) d10_idle_34 ?_
            refine r_weak [0, 2] rfl ?_
            replace h := wpo_some h
            exact h
  · replace h := wpo_pos h hb
    refine r_bipush F (z := (-2)) (by decide) d10_idle_7 ?_
    replace h := wpo_some h
    exact r_iret F h d10_idle_9
theorem d10_big_0 : decode c10_big 0 = .ok (.aload_n 0, 1) := by decide +kernel
theorem d10_big_1 : decode c10_big 1 = .ok (.iload_n 1, 1) := by decide +kernel
theorem d10_big_2 : decode c10_big 2 = .ok (.invokevirtual 294, 3) := by decide +kernel
theorem d10_big_5 : decode c10_big 5 = .ok (.ifCond .ne 6, 3) := by decide +kernel
theorem d10_big_8 : decode c10_big 8 = .ok (.bipush (-2), 2) := by decide +kernel
theorem d10_big_10 : decode c10_big 10 = .ok (.ireturn, 1) := by decide +kernel
theorem d10_big_11 : decode c10_big 11 = .ok (.iconst (-1), 1) := by decide +kernel
theorem d10_big_12 : decode c10_big 12 = .ok (.istore_n 2, 1) := by decide +kernel
theorem d10_big_13 : decode c10_big 13 = .ok (.iconst 0, 1) := by decide +kernel
theorem d10_big_14 : decode c10_big 14 = .ok (.istore_n 3, 1) := by decide +kernel
theorem d10_big_15 : decode c10_big 15 = .ok (.iload_n 3, 1) := by decide +kernel
theorem d10_big_16 : decode c10_big 16 = .ok (.aload_n 0, 1) := by decide +kernel
theorem d10_big_17 : decode c10_big 17 = .ok (.getfield 9, 3) := by decide +kernel
theorem d10_big_20 : decode c10_big 20 = .ok (.bipush 7, 2) := by decide +kernel
theorem d10_big_22 : decode c10_big 22 = .ok (.iaload, 1) := by decide +kernel
theorem d10_big_23 : decode c10_big 23 = .ok (.if_icmp .ge 41, 3) := by decide +kernel
theorem d10_big_26 : decode c10_big 26 = .ok (.aload_n 0, 1) := by decide +kernel
theorem d10_big_27 : decode c10_big 27 = .ok (.getfield 46, 3) := by decide +kernel
theorem d10_big_30 : decode c10_big 30 = .ok (.iload_n 3, 1) := by decide +kernel
theorem d10_big_31 : decode c10_big 31 = .ok (.iaload, 1) := by decide +kernel
theorem d10_big_32 : decode c10_big 32 = .ok (.iload_n 1, 1) := by decide +kernel
theorem d10_big_33 : decode c10_big 33 = .ok (.if_icmp .ne 25, 3) := by decide +kernel
theorem d10_big_36 : decode c10_big 36 = .ok (.iload_n 2, 1) := by decide +kernel
theorem d10_big_37 : decode c10_big 37 = .ok (.iconst (-1), 1) := by decide +kernel
theorem d10_big_38 : decode c10_big 38 = .ok (.if_icmp .eq 18, 3) := by decide +kernel
theorem d10_big_41 : decode c10_big 41 = .ok (.aload_n 0, 1) := by decide +kernel
theorem d10_big_42 : decode c10_big 42 = .ok (.getfield 34, 3) := by decide +kernel
theorem d10_big_45 : decode c10_big 45 = .ok (.iload_n 3, 1) := by decide +kernel
theorem d10_big_46 : decode c10_big 46 = .ok (.iaload, 1) := by decide +kernel
theorem d10_big_47 : decode c10_big 47 = .ok (.aload_n 0, 1) := by decide +kernel
theorem d10_big_48 : decode c10_big 48 = .ok (.getfield 34, 3) := by decide +kernel
theorem d10_big_51 : decode c10_big 51 = .ok (.iload_n 2, 1) := by decide +kernel
theorem d10_big_52 : decode c10_big 52 = .ok (.iaload, 1) := by decide +kernel
theorem d10_big_53 : decode c10_big 53 = .ok (.if_icmp .le 5, 3) := by decide +kernel
theorem d10_big_56 : decode c10_big 56 = .ok (.iload_n 3, 1) := by decide +kernel
theorem d10_big_57 : decode c10_big 57 = .ok (.istore_n 2, 1) := by decide +kernel
theorem d10_big_58 : decode c10_big 58 = .ok (.iinc 3 1, 3) := by decide +kernel
theorem d10_big_61 : decode c10_big 61 = .ok (.goto (-46), 3) := by decide +kernel
theorem d10_big_64 : decode c10_big 64 = .ok (.iload_n 2, 1) := by decide +kernel
theorem d10_big_65 : decode c10_big 65 = .ok (.ireturn, 1) := by decide +kernel
def f10_big (D : Mem) (p0 : Int) : Option (Int × Mem) :=
  Option.bind (f10_asksNight D p0) fun (a1 : Int × Mem) =>
  if w32 a1.1 = 0 then
    some ((-2), a1.2)
  else
    Option.bind (@loop (Int × Int) (Int) (fun s1 =>
      if w32 s1.2 < w32 (a1.2 118 7) then
        if 0 ≤ s1.2 ∧ s1.2 < 8 then
          Option.bind (
            if w32 (a1.2 128 s1.2.toNat) = w32 p0 then
              if w32 s1.1 = w32 (-1) then
                some s1.2
              else
                if 0 ≤ s1.1 ∧ s1.1 < 8 then
                  if w32 (a1.2 124 s1.1.toNat) < w32 (a1.2 124 s1.2.toNat) then
                    some s1.2
                  else
                    some s1.1
                else none
            else
              some s1.1
          ) fun (j1 : Int) =>
          some (Sum.inl (j1, (s1.2 + 1)))
        else none
      else
        some (Sum.inr s1.1)
    ) FU ((-1), 0)) fun (b1 : Int) =>
    some (b1, a1.2)
set_option maxHeartbeats 4000000 in
theorem ok10_big {l : Launch} {X : XT} {n : Nat} {D : Mem} {Q : Option Value → Nat → Rho → Mem → Prop} (hn : 147 ≤ n) {p0 : Int}  (h : wpo (f10_big D p0) (fun a => Q (some (vI a.1)) n rt a.2)) : MOK l y10_big c10_big 4 (some .int) { frames := 6, cells := 0, slots := 0, locals := 134 } 0 0 X [vR X 117, vI p0] n rt D Q := by
  refine MOK_of 10 (by decide +kernel) rfl (lv := [(0, vR X 117), (1, vI p0)]) (Nat.le_of_ble_eq_true rfl) rfl (fun K hK F hnm => ?_)
  subst hK
  unfold f10_big at h
  refine r_aload_nR F 0 rfl rfl d10_big_0 ?_
  refine r_iload_n F 1 rfl rfl d10_big_1 ?_
  replace h := wpo_bind h
  refine r_callV0 F lm10_294 mf10_asksNight (vc117 hn) rfl (fr := 5) (lo := 113) (As := [vI p0]) (rest := []) ⟨Nat.le_of_ble_eq_true rfl, Nat.le_of_ble_eq_true rfl⟩ rfl (Nat.le_of_ble_eq_true rfl) ⟨Nat.zero_le _, Nat.zero_le _⟩ d10_big_2 ?_
  refine ok10_asksNight hn  (kIm h (fun a1 h => ?_))
  refine r_if_ne F (tgt := 11) d10_big_5 (by decide) (fun hb => ?_) (fun hb => ?_)
  · replace h := wpo_neg h hb
    refine r_iconst F (z := (-1)) d10_big_11 ?_
    refine r_istore_n F (lv' := [(2, vI (-1)), (0, vR X 117), (1, vI p0)]) rfl (Nat.le_of_ble_eq_true rfl) rfl d10_big_12 ?_
    refine r_iconst F (z := 0) d10_big_13 ?_
    refine r_istore_n F (lv' := [(3, vI 0), (2, vI (-1)), (0, vR X 117), (1, vI p0)]) rfl (Nat.le_of_ble_eq_true rfl) rfl d10_big_14 ?_
    refine r_weak [2, 3, 1, 0] rfl ?_
    refine at_loopj (A := fun (s1 : Int × Int) => At K X (ZQ K X Q) 0 0 n rt 4 15 [(0, vR X 117), (1, vI p0), (2, vI s1.1), (3, vI s1.2)] [] a1.2) (B := fun (b1 : Int) => At K X (ZQ K X Q) 0 0 n rt 4 64 [(2, vI b1)] [] a1.2) h (fun b1 h => ?_) (fun s1 h => ?_)
    · refine r_iload_n F 0 rfl rfl d10_big_64 ?_
      replace h := wpo_some h
      exact r_iret F h d10_big_65
    · refine r_iload_n F 3 rfl rfl d10_big_15 ?_
      refine r_aload_nR F 0 rfl rfl d10_big_16 ?_
      refine r_getR F (z := 118) lf10_9 (vc117 hn) z117_1 d10_big_17 ?_
      refine r_bipush F (z := 7) (by decide) d10_big_20 ?_
      refine r_ialdC F (j := 7) (vc118 hn) (by decide) rfl d10_big_22 ?_
      refine r_icmp_ge F (tgt := 64) d10_big_23 (by decide) (fun hb => ?_) (fun hb => ?_)
      · replace h := wpo_neg h hb
        refine r_weak [2] rfl ?_
        replace h := wpo_inr h
        exact h
      · replace h := wpo_pos h hb
        refine r_aload_nR F 0 rfl rfl d10_big_26 ?_
        refine r_getR F (z := 128) lf10_46 (vc117 hn) z117_23 d10_big_27 ?_
        refine r_iload_n F 3 rfl rfl d10_big_30 ?_
        obtain ⟨hx1, h⟩ := wpo_chk h
        refine r_iald F (vc128 hn) hx1 d10_big_31 ?_
        refine r_iload_n F 1 rfl rfl d10_big_32 ?_
        refine at_join (B := fun (j1 : Int) => At K X (ZQ K X Q) 0 0 n rt 4 58 [(0, vR X 117), (1, vI p0), (2, vI j1), (3, vI s1.2)] [] a1.2) h (fun j1 h => ?_) (fun h => ?_)
        · refine r_iinc F 3 (lv' := [(3, vI (s1.2 + 1)), (0, vR X 117), (1, vI p0), (2, vI j1)]) rfl (Nat.le_of_ble_eq_true rfl) rfl d10_big_58 ?_
          refine r_goto F (tgt := 15) (by decide) d10_big_61 ?_
          refine r_weak [1, 2, 3, 0] rfl ?_
          replace h := wpo_inl h
          exact h
        · refine r_icmp_ne F (tgt := 58) d10_big_33 (by decide) (fun hb => ?_) (fun hb => ?_)
          · replace h := wpo_neg h hb
            replace h := wpo_some h
            exact h
          · replace h := wpo_pos h hb
            refine r_iload_n F 2 rfl rfl d10_big_36 ?_
            refine r_iconst F (z := (-1)) d10_big_37 ?_
            refine r_icmp_eq F (tgt := 56) d10_big_38 (by decide) (fun hb => ?_) (fun hb => ?_)
            · replace h := wpo_pos h hb
              refine r_iload_n F 3 rfl rfl d10_big_56 ?_
              refine r_istore_n F (lv' := [(2, vI s1.2), (0, vR X 117), (1, vI p0), (3, vI s1.2)]) rfl (Nat.le_of_ble_eq_true rfl) rfl d10_big_57 ?_
              refine r_weak [1, 2, 0, 3] rfl ?_
              replace h := wpo_some h
              exact h
            · replace h := wpo_neg h hb
              refine r_aload_nR F 0 rfl rfl d10_big_41 ?_
              refine r_getR F (z := 124) lf10_34 (vc117 hn) z117_15 d10_big_42 ?_
              refine r_iload_n F 3 rfl rfl d10_big_45 ?_
              refine r_iald F (vc124 hn) hx1 d10_big_46 ?_
              refine r_aload_nR F 0 rfl rfl d10_big_47 ?_
              refine r_getR F (z := 124) lf10_34 (vc117 hn) z117_15 d10_big_48 ?_
              refine r_iload_n F 2 rfl rfl d10_big_51 ?_
              obtain ⟨hx2, h⟩ := wpo_chk h
              refine r_iald F (vc124 hn) hx2 d10_big_52 ?_
              refine r_icmp_le F (tgt := 58) d10_big_53 (by decide) (fun hb => ?_) (fun hb => ?_)
              · replace h := wpo_neg h hb
                replace h := wpo_some h
                exact h
              · replace h := wpo_pos h hb
                refine r_iload_n F 3 rfl rfl d10_big_56 ?_
                refine r_istore_n F (lv' := [(2, vI s1.2), (0, vR X 117), (1, vI p0), (3, vI s1.2)]) rfl (Nat.le_of_ble_eq_true rfl) rfl d10_big_57 ?_
                refine r_weak [1, 2, 0, 3] rfl ?_
                replace h := wpo_some h
                exact h
  · replace h := wpo_pos h hb
    refine r_bipush F (z := (-2)) (by decide) d10_big_8 ?_
    replace h := wpo_some h
    exact r_iret F h d10_big_10
theorem d10_suits_0 : decode c10_suits 0 = .ok (.aload_n 0, 1) := by decide +kernel
theorem d10_suits_1 : decode c10_suits 1 = .ok (.iload_n 1, 1) := by decide +kernel
theorem d10_suits_2 : decode c10_suits 2 = .ok (.invokevirtual 291, 3) := by decide +kernel
theorem d10_suits_5 : decode c10_suits 5 = .ok (.ifCond .ne 6, 3) := by decide +kernel
theorem d10_suits_8 : decode c10_suits 8 = .ok (.bipush (-2), 2) := by decide +kernel
theorem d10_suits_10 : decode c10_suits 10 = .ok (.ireturn, 1) := by decide +kernel
theorem d10_suits_11 : decode c10_suits 11 = .ok (.iconst (-1), 1) := by decide +kernel
theorem d10_suits_12 : decode c10_suits 12 = .ok (.istore_n 2, 1) := by decide +kernel
theorem d10_suits_13 : decode c10_suits 13 = .ok (.ldc_w 306, 3) := by decide +kernel
theorem d10_suits_16 : decode c10_suits 16 = .ok (.istore_n 3, 1) := by decide +kernel
theorem d10_suits_17 : decode c10_suits 17 = .ok (.iconst 0, 1) := by decide +kernel
theorem d10_suits_18 : decode c10_suits 18 = .ok (.istore 4, 2) := by decide +kernel
theorem d10_suits_20 : decode c10_suits 20 = .ok (.iload 4, 2) := by decide +kernel
theorem d10_suits_22 : decode c10_suits 22 = .ok (.bipush 12, 2) := by decide +kernel
theorem d10_suits_24 : decode c10_suits 24 = .ok (.if_icmp .ge 40, 3) := by decide +kernel
theorem d10_suits_27 : decode c10_suits 27 = .ok (.aload_n 0, 1) := by decide +kernel
theorem d10_suits_28 : decode c10_suits 28 = .ok (.getfield 37, 3) := by decide +kernel
theorem d10_suits_31 : decode c10_suits 31 = .ok (.iload_n 1, 1) := by decide +kernel
theorem d10_suits_32 : decode c10_suits 32 = .ok (.iload 4, 2) := by decide +kernel
theorem d10_suits_34 : decode c10_suits 34 = .ok (.iastore, 1) := by decide +kernel
theorem d10_suits_35 : decode c10_suits 35 = .ok (.aload_n 0, 1) := by decide +kernel
theorem d10_suits_36 : decode c10_suits 36 = .ok (.invokevirtual 277, 3) := by decide +kernel
theorem d10_suits_39 : decode c10_suits 39 = .ok (.aload_n 0, 1) := by decide +kernel
theorem d10_suits_40 : decode c10_suits 40 = .ok (.invokevirtual 303, 3) := by decide +kernel
theorem d10_suits_43 : decode c10_suits 43 = .ok (.iload_n 3, 1) := by decide +kernel
theorem d10_suits_44 : decode c10_suits 44 = .ok (.if_icmp .lt 6, 3) := by decide +kernel
theorem d10_suits_47 : decode c10_suits 47 = .ok (.goto 11, 3) := by decide +kernel
theorem d10_suits_50 : decode c10_suits 50 = .ok (.aload_n 0, 1) := by decide +kernel
theorem d10_suits_51 : decode c10_suits 51 = .ok (.invokevirtual 303, 3) := by decide +kernel
theorem d10_suits_54 : decode c10_suits 54 = .ok (.istore_n 3, 1) := by decide +kernel
theorem d10_suits_55 : decode c10_suits 55 = .ok (.iload 4, 2) := by decide +kernel
theorem d10_suits_57 : decode c10_suits 57 = .ok (.istore_n 2, 1) := by decide +kernel
theorem d10_suits_58 : decode c10_suits 58 = .ok (.iinc 4 1, 3) := by decide +kernel
theorem d10_suits_61 : decode c10_suits 61 = .ok (.goto (-41), 3) := by decide +kernel
theorem d10_suits_64 : decode c10_suits 64 = .ok (.iload_n 2, 1) := by decide +kernel
theorem d10_suits_65 : decode c10_suits 65 = .ok (.ireturn, 1) := by decide +kernel
def f10_suits (D : Mem) (p0 : Int) : Option (Int × Mem) :=
  Option.bind (f10_asksPerson D p0) fun (a1 : Int × Mem) =>
  if w32 a1.1 = 0 then
    some ((-2), a1.2)
  else
    Option.bind (@loop (Int × Int × Int × Mem) (Int × Mem) (fun s1 =>
      if w32 s1.2.2.1 < w32 12 then
        if 0 ≤ p0 ∧ p0 < 8 then
          Option.bind (some (mset s1.2.2.2 125 p0.toNat s1.2.2.1)) fun (D1 : Mem) =>
          Option.bind (f10_goNights D1) fun (a2 : Mem) =>
          Option.bind (f10_bearsAll a2) fun (a3 : Int) =>
          Option.bind (
            if w32 a3 < w32 s1.2.1 then
              Option.bind (f10_bearsAll a2) fun (a4 : Int) =>
              some (s1.2.2.1, a4)
            else
              some (s1.1, s1.2.1)
          ) fun (j1 : Int × Int) =>
          some (Sum.inl (j1.1, j1.2, (s1.2.2.1 + 1), a2))
        else none
      else
        some (Sum.inr (s1.1, s1.2.2.2))
    ) FU ((-1), 1000000000, 0, a1.2)) fun (b1 : Int × Mem) =>
    some (b1.1, b1.2)
set_option maxHeartbeats 4000000 in
theorem ok10_suits {l : Launch} {X : XT} {n : Nat} {D : Mem} {Q : Option Value → Nat → Rho → Mem → Prop} (hn : 147 ≤ n) {p0 : Int}  (h : wpo (f10_suits D p0) (fun a => Q (some (vI a.1)) n rt a.2)) : MOK l y10_suits c10_suits 5 (some .int) { frames := 6, cells := 0, slots := 0, locals := 134 } 0 0 X [vR X 117, vI p0] n rt D Q := by
  refine MOK_of 10 (by decide +kernel) rfl (lv := [(0, vR X 117), (1, vI p0)]) (Nat.le_of_ble_eq_true rfl) rfl (fun K hK F hnm => ?_)
  subst hK
  unfold f10_suits at h
  refine r_aload_nR F 0 rfl rfl d10_suits_0 ?_
  refine r_iload_n F 1 rfl rfl d10_suits_1 ?_
  replace h := wpo_bind h
  refine r_callV0 F lm10_291 mf10_asksPerson (vc117 hn) rfl (fr := 5) (lo := 113) (As := [vI p0]) (rest := []) ⟨Nat.le_of_ble_eq_true rfl, Nat.le_of_ble_eq_true rfl⟩ rfl (Nat.le_of_ble_eq_true rfl) ⟨Nat.zero_le _, Nat.zero_le _⟩ d10_suits_2 ?_
  refine ok10_asksPerson hn  (kIm h (fun a1 h => ?_))
  refine r_if_ne F (tgt := 11) d10_suits_5 (by decide) (fun hb => ?_) (fun hb => ?_)
  · replace h := wpo_neg h hb
    refine r_iconst F (z := (-1)) d10_suits_11 ?_
    refine r_istore_n F (lv' := [(2, vI (-1)), (0, vR X 117), (1, vI p0)]) rfl (Nat.le_of_ble_eq_true rfl) rfl d10_suits_12 ?_
    refine r_ldcw F (z := 1000000000) lc10_306 d10_suits_13 ?_
    refine r_istore_n F (lv' := [(3, vI 1000000000), (2, vI (-1)), (0, vR X 117), (1, vI p0)]) rfl (Nat.le_of_ble_eq_true rfl) rfl d10_suits_16 ?_
    refine r_iconst F (z := 0) d10_suits_17 ?_
    refine r_istore F (lv' := [(4, vI 0), (3, vI 1000000000), (2, vI (-1)), (0, vR X 117), (1, vI p0)]) (Nat.le_of_ble_eq_true rfl) rfl d10_suits_18 ?_
    refine r_weak [3, 4, 2, 1, 0] rfl ?_
    refine at_loopj (A := fun (s1 : Int × Int × Int × Mem) => At K X (ZQ K X Q) 0 0 n rt 5 20 [(0, vR X 117), (1, vI p0), (2, vI s1.1), (3, vI s1.2.1), (4, vI s1.2.2.1)] [] s1.2.2.2) (B := fun (b1 : Int × Mem) => At K X (ZQ K X Q) 0 0 n rt 5 64 [(2, vI b1.1)] [] b1.2) h (fun b1 h => ?_) (fun s1 h => ?_)
    · refine r_iload_n F 0 rfl rfl d10_suits_64 ?_
      replace h := wpo_some h
      exact r_iret F h d10_suits_65
    · refine r_iload F 4 rfl d10_suits_20 ?_
      refine r_bipush F (z := 12) (by decide) d10_suits_22 ?_
      refine r_icmp_ge F (tgt := 64) d10_suits_24 (by decide) (fun hb => ?_) (fun hb => ?_)
      · replace h := wpo_neg h hb
        refine r_weak [2] rfl ?_
        replace h := wpo_inr h
        exact h
      · replace h := wpo_pos h hb
        refine r_aload_nR F 0 rfl rfl d10_suits_27 ?_
        refine r_getR F (z := 125) lf10_37 (vc117 hn) z117_16 d10_suits_28 ?_
        refine r_iload_n F 1 rfl rfl d10_suits_31 ?_
        refine r_iload F 4 rfl d10_suits_32 ?_
        obtain ⟨hx1, h⟩ := wpo_chk h
        refine r_iast F (vc125 hn) hx1 d10_suits_34 ?_
        refine r_aload_nR F 0 rfl rfl d10_suits_35 ?_
        refine at_name (B := fun (D1 : Mem) => At K X (ZQ K X Q) 0 0 n rt 5 36 [(0, vR X 117), (1, vI p0), (2, vI s1.1), (3, vI s1.2.1), (4, vI s1.2.2.1)] [vR X 117] D1) h (fun D1 h => ?_)
        replace h := wpo_bind h
        refine r_callV0 F lm10_277 mf10_goNights (vc117 hn) rfl (fr := 3) (lo := 72) (As := []) (rest := []) ⟨Nat.le_of_ble_eq_true rfl, Nat.le_of_ble_eq_true rfl⟩ rfl (Nat.le_of_ble_eq_true rfl) ⟨Nat.zero_le _, Nat.zero_le _⟩ d10_suits_36 ?_
        refine ok10_goNights hn  (kVm h (fun a2 h => ?_))
        refine r_aload_nR F 0 rfl rfl d10_suits_39 ?_
        replace h := wpo_bind h
        refine r_callV0 F lm10_303 mf10_bearsAll (vc117 hn) rfl (fr := 4) (lo := 87) (As := []) (rest := []) ⟨Nat.le_of_ble_eq_true rfl, Nat.le_of_ble_eq_true rfl⟩ rfl (Nat.le_of_ble_eq_true rfl) ⟨Nat.zero_le _, Nat.zero_le _⟩ d10_suits_40 ?_
        refine ok10_bearsAll hn  (kI h (fun a3 h => ?_))
        refine r_iload_n F 3 rfl rfl d10_suits_43 ?_
        refine at_join (B := fun (j1 : Int × Int) => At K X (ZQ K X Q) 0 0 n rt 5 58 [(0, vR X 117), (1, vI p0), (2, vI j1.1), (3, vI j1.2), (4, vI s1.2.2.1)] [] a2) h (fun j1 h => ?_) (fun h => ?_)
        · refine r_iinc F 4 (lv' := [(4, vI (s1.2.2.1 + 1)), (0, vR X 117), (1, vI p0), (2, vI j1.1), (3, vI j1.2)]) rfl (Nat.le_of_ble_eq_true rfl) rfl d10_suits_58 ?_
          refine r_goto F (tgt := 20) (by decide) d10_suits_61 ?_
          refine r_weak [1, 2, 3, 4, 0] rfl ?_
          replace h := wpo_inl h
          exact h
        · refine r_icmp_lt F (tgt := 50) d10_suits_44 (by decide) (fun hb => ?_) (fun hb => ?_)
          · replace h := wpo_pos h hb
            refine r_aload_nR F 0 rfl rfl d10_suits_50 ?_
            replace h := wpo_bind h
            refine r_callV0 F lm10_303 mf10_bearsAll (vc117 hn) rfl (fr := 4) (lo := 87) (As := []) (rest := []) ⟨Nat.le_of_ble_eq_true rfl, Nat.le_of_ble_eq_true rfl⟩ rfl (Nat.le_of_ble_eq_true rfl) ⟨Nat.zero_le _, Nat.zero_le _⟩ d10_suits_51 ?_
            refine ok10_bearsAll hn  (kI h (fun a4 h => ?_))
            refine r_istore_n F (lv' := [(3, vI a4), (0, vR X 117), (1, vI p0), (2, vI s1.1), (4, vI s1.2.2.1)]) rfl (Nat.le_of_ble_eq_true rfl) rfl d10_suits_54 ?_
            refine r_iload F 4 rfl d10_suits_55 ?_
            refine r_istore_n F (lv' := [(2, vI s1.2.2.1), (3, vI a4), (0, vR X 117), (1, vI p0), (4, vI s1.2.2.1)]) rfl (Nat.le_of_ble_eq_true rfl) rfl d10_suits_57 ?_
            refine r_weak [2, 3, 0, 1, 4] rfl ?_
            replace h := wpo_some h
            exact h
          · replace h := wpo_neg h hb
            refine r_goto F (tgt := 58) (by decide) d10_suits_47 ?_
            replace h := wpo_some h
            exact h
  · replace h := wpo_pos h hb
    refine r_bipush F (z := (-2)) (by decide) d10_suits_8 ?_
    replace h := wpo_some h
    exact r_iret F h d10_suits_10
theorem d10_last_0 : decode c10_last 0 = .ok (.aload_n 0, 1) := by decide +kernel
theorem d10_last_1 : decode c10_last 1 = .ok (.invokevirtual 280, 3) := by decide +kernel
theorem d10_last_4 : decode c10_last 4 = .ok (.ifCond .ne 6, 3) := by decide +kernel
theorem d10_last_7 : decode c10_last 7 = .ok (.bipush (-2), 2) := by decide +kernel
theorem d10_last_9 : decode c10_last 9 = .ok (.ireturn, 1) := by decide +kernel
theorem d10_last_10 : decode c10_last 10 = .ok (.iconst (-1), 1) := by decide +kernel
theorem d10_last_11 : decode c10_last 11 = .ok (.istore_n 1, 1) := by decide +kernel
theorem d10_last_12 : decode c10_last 12 = .ok (.iconst 0, 1) := by decide +kernel
theorem d10_last_13 : decode c10_last 13 = .ok (.istore_n 2, 1) := by decide +kernel
theorem d10_last_14 : decode c10_last 14 = .ok (.iload_n 2, 1) := by decide +kernel
theorem d10_last_15 : decode c10_last 15 = .ok (.aload_n 0, 1) := by decide +kernel
theorem d10_last_16 : decode c10_last 16 = .ok (.getfield 9, 3) := by decide +kernel
theorem d10_last_19 : decode c10_last 19 = .ok (.bipush 7, 2) := by decide +kernel
theorem d10_last_21 : decode c10_last 21 = .ok (.iaload, 1) := by decide +kernel
theorem d10_last_22 : decode c10_last 22 = .ok (.if_icmp .ge 20, 3) := by decide +kernel
theorem d10_last_25 : decode c10_last 25 = .ok (.iload_n 1, 1) := by decide +kernel
theorem d10_last_26 : decode c10_last 26 = .ok (.aload_n 0, 1) := by decide +kernel
theorem d10_last_27 : decode c10_last 27 = .ok (.getfield 46, 3) := by decide +kernel
theorem d10_last_30 : decode c10_last 30 = .ok (.iload_n 2, 1) := by decide +kernel
theorem d10_last_31 : decode c10_last 31 = .ok (.iaload, 1) := by decide +kernel
theorem d10_last_32 : decode c10_last 32 = .ok (.invokestatic 262, 3) := by decide +kernel
theorem d10_last_35 : decode c10_last 35 = .ok (.istore_n 1, 1) := by decide +kernel
theorem d10_last_36 : decode c10_last 36 = .ok (.iinc 2 1, 3) := by decide +kernel
theorem d10_last_39 : decode c10_last 39 = .ok (.goto (-25), 3) := by decide +kernel
theorem d10_last_42 : decode c10_last 42 = .ok (.iload_n 1, 1) := by decide +kernel
theorem d10_last_43 : decode c10_last 43 = .ok (.ireturn, 1) := by decide +kernel
def f10_last (D : Mem) : Option (Int × Mem) :=
  Option.bind (f10_asksParish D) fun (a1 : Int × Mem) =>
  if w32 a1.1 = 0 then
    some ((-2), a1.2)
  else
    Option.bind (@loop (Int × Int) (Int) (fun s1 =>
      if w32 s1.2 < w32 (a1.2 118 7) then
        if 0 ≤ s1.2 ∧ s1.2 < 8 then
          Option.bind (some (max32 s1.1 (a1.2 128 s1.2.toNat))) fun (v1 : Int) =>
          some (Sum.inl (v1, (s1.2 + 1)))
        else none
      else
        some (Sum.inr s1.1)
    ) FU ((-1), 0)) fun (b1 : Int) =>
    some (b1, a1.2)
set_option maxHeartbeats 4000000 in
theorem ok10_last {l : Launch} {X : XT} {n : Nat} {D : Mem} {Q : Option Value → Nat → Rho → Mem → Prop} (hn : 147 ≤ n)  (h : wpo (f10_last D) (fun a => Q (some (vI a.1)) n rt a.2)) : MOK l y10_last c10_last 3 (some .int) { frames := 5, cells := 0, slots := 0, locals := 113 } 0 0 X [vR X 117] n rt D Q := by
  refine MOK_of 10 (by decide +kernel) rfl (lv := [(0, vR X 117)]) (Nat.le_of_ble_eq_true rfl) rfl (fun K hK F hnm => ?_)
  subst hK
  unfold f10_last at h
  refine r_aload_nR F 0 rfl rfl d10_last_0 ?_
  replace h := wpo_bind h
  refine r_callV0 F lm10_280 mf10_asksParish (vc117 hn) rfl (fr := 4) (lo := 93) (As := []) (rest := []) ⟨Nat.le_of_ble_eq_true rfl, Nat.le_of_ble_eq_true rfl⟩ rfl (Nat.le_of_ble_eq_true rfl) ⟨Nat.zero_le _, Nat.zero_le _⟩ d10_last_1 ?_
  refine ok10_asksParish hn  (kIm h (fun a1 h => ?_))
  refine r_if_ne F (tgt := 10) d10_last_4 (by decide) (fun hb => ?_) (fun hb => ?_)
  · replace h := wpo_neg h hb
    refine r_iconst F (z := (-1)) d10_last_10 ?_
    refine r_istore_n F (lv' := [(1, vI (-1)), (0, vR X 117)]) rfl (Nat.le_of_ble_eq_true rfl) rfl d10_last_11 ?_
    refine r_iconst F (z := 0) d10_last_12 ?_
    refine r_istore_n F (lv' := [(2, vI 0), (1, vI (-1)), (0, vR X 117)]) rfl (Nat.le_of_ble_eq_true rfl) rfl d10_last_13 ?_
    refine r_weak [2, 1, 0] rfl ?_
    refine at_loopj (A := fun (s1 : Int × Int) => At K X (ZQ K X Q) 0 0 n rt 3 14 [(0, vR X 117), (1, vI s1.1), (2, vI s1.2)] [] a1.2) (B := fun (b1 : Int) => At K X (ZQ K X Q) 0 0 n rt 3 42 [(1, vI b1)] [] a1.2) h (fun b1 h => ?_) (fun s1 h => ?_)
    · refine r_iload_n F 0 rfl rfl d10_last_42 ?_
      replace h := wpo_some h
      exact r_iret F h d10_last_43
    · refine r_iload_n F 2 rfl rfl d10_last_14 ?_
      refine r_aload_nR F 0 rfl rfl d10_last_15 ?_
      refine r_getR F (z := 118) lf10_9 (vc117 hn) z117_1 d10_last_16 ?_
      refine r_bipush F (z := 7) (by decide) d10_last_19 ?_
      refine r_ialdC F (j := 7) (vc118 hn) (by decide) rfl d10_last_21 ?_
      refine r_icmp_ge F (tgt := 42) d10_last_22 (by decide) (fun hb => ?_) (fun hb => ?_)
      · replace h := wpo_neg h hb
        refine r_weak [1] rfl ?_
        replace h := wpo_inr h
        exact h
      · replace h := wpo_pos h hb
        refine r_iload_n F 1 rfl rfl d10_last_25 ?_
        refine r_aload_nR F 0 rfl rfl d10_last_26 ?_
        refine r_getR F (z := 128) lf10_46 (vc117 hn) z117_23 d10_last_27 ?_
        refine r_iload_n F 2 rfl rfl d10_last_30 ?_
        obtain ⟨hx1, h⟩ := wpo_chk h
        refine r_iald F (vc128 hn) hx1 d10_last_31 ?_
        refine r_max F lm10_262 wm1 wm0 wm2 ⟨Nat.le_of_ble_eq_true rfl, Nat.le_of_ble_eq_true rfl, Nat.le_of_ble_eq_true rfl, Nat.le_of_ble_eq_true rfl⟩ d10_last_32 ?_
        refine r_istore_n F (lv' := [(1, vI (max32 s1.1 (a1.2 128 s1.2.toNat))), (0, vR X 117), (2, vI s1.2)]) rfl (Nat.le_of_ble_eq_true rfl) rfl d10_last_35 ?_
        refine at_name (B := fun (v1 : Int) => At K X (ZQ K X Q) 0 0 n rt 3 36 [(1, vI v1), (0, vR X 117), (2, vI s1.2)] [] a1.2) h (fun v1 h => ?_)
        refine r_iinc F 2 (lv' := [(2, vI (s1.2 + 1)), (1, vI v1), (0, vR X 117)]) rfl (Nat.le_of_ble_eq_true rfl) rfl d10_last_36 ?_
        refine r_goto F (tgt := 14) (by decide) d10_last_39 ?_
        refine r_weak [2, 1, 0] rfl ?_
        replace h := wpo_inl h
        exact h
  · replace h := wpo_pos h hb
    refine r_bipush F (z := (-2)) (by decide) d10_last_7 ?_
    replace h := wpo_some h
    exact r_iret F h d10_last_9
theorem d10_gap_0 : decode c10_gap 0 = .ok (.aload_n 0, 1) := by decide +kernel
theorem d10_gap_1 : decode c10_gap 1 = .ok (.iload_n 1, 1) := by decide +kernel
theorem d10_gap_2 : decode c10_gap 2 = .ok (.invokevirtual 291, 3) := by decide +kernel
theorem d10_gap_5 : decode c10_gap 5 = .ok (.ifCond .ne 6, 3) := by decide +kernel
theorem d10_gap_8 : decode c10_gap 8 = .ok (.bipush (-2), 2) := by decide +kernel
theorem d10_gap_10 : decode c10_gap 10 = .ok (.ireturn, 1) := by decide +kernel
theorem d10_gap_11 : decode c10_gap 11 = .ok (.aload_n 0, 1) := by decide +kernel
theorem d10_gap_12 : decode c10_gap 12 = .ok (.getfield 46, 3) := by decide +kernel
theorem d10_gap_15 : decode c10_gap 15 = .ok (.iload_n 1, 1) := by decide +kernel
theorem d10_gap_16 : decode c10_gap 16 = .ok (.iaload, 1) := by decide +kernel
theorem d10_gap_17 : decode c10_gap 17 = .ok (.iconst (-1), 1) := by decide +kernel
theorem d10_gap_18 : decode c10_gap 18 = .ok (.if_icmp .ne 7, 3) := by decide +kernel
theorem d10_gap_21 : decode c10_gap 21 = .ok (.iconst (-1), 1) := by decide +kernel
theorem d10_gap_22 : decode c10_gap 22 = .ok (.goto 16, 3) := by decide +kernel
theorem d10_gap_25 : decode c10_gap 25 = .ok (.aload_n 0, 1) := by decide +kernel
theorem d10_gap_26 : decode c10_gap 26 = .ok (.getfield 46, 3) := by decide +kernel
theorem d10_gap_29 : decode c10_gap 29 = .ok (.iload_n 1, 1) := by decide +kernel
theorem d10_gap_30 : decode c10_gap 30 = .ok (.iaload, 1) := by decide +kernel
theorem d10_gap_31 : decode c10_gap 31 = .ok (.aload_n 0, 1) := by decide +kernel
theorem d10_gap_32 : decode c10_gap 32 = .ok (.getfield 37, 3) := by decide +kernel
theorem d10_gap_35 : decode c10_gap 35 = .ok (.iload_n 1, 1) := by decide +kernel
theorem d10_gap_36 : decode c10_gap 36 = .ok (.iaload, 1) := by decide +kernel
theorem d10_gap_37 : decode c10_gap 37 = .ok (.isub, 1) := by decide +kernel
theorem d10_gap_38 : decode c10_gap 38 = .ok (.ireturn, 1) := by decide +kernel
def f10_gap (D : Mem) (p0 : Int) : Option (Int × Mem) :=
  Option.bind (f10_asksPerson D p0) fun (a1 : Int × Mem) =>
  if w32 a1.1 = 0 then
    some ((-2), a1.2)
  else
    if 0 ≤ p0 ∧ p0 < 8 then
      if w32 (a1.2 128 p0.toNat) = w32 (-1) then
        some ((-1), a1.2)
      else
        some (((a1.2 128 p0.toNat) - (a1.2 125 p0.toNat)), a1.2)
    else none
set_option maxHeartbeats 4000000 in
theorem ok10_gap {l : Launch} {X : XT} {n : Nat} {D : Mem} {Q : Option Value → Nat → Rho → Mem → Prop} (hn : 147 ≤ n) {p0 : Int}  (h : wpo (f10_gap D p0) (fun a => Q (some (vI a.1)) n rt a.2)) : MOK l y10_gap c10_gap 2 (some .int) { frames := 6, cells := 0, slots := 0, locals := 134 } 0 0 X [vR X 117, vI p0] n rt D Q := by
  refine MOK_of 10 (by decide +kernel) rfl (lv := [(0, vR X 117), (1, vI p0)]) (Nat.le_of_ble_eq_true rfl) rfl (fun K hK F hnm => ?_)
  subst hK
  unfold f10_gap at h
  refine r_aload_nR F 0 rfl rfl d10_gap_0 ?_
  refine r_iload_n F 1 rfl rfl d10_gap_1 ?_
  replace h := wpo_bind h
  refine r_callV0 F lm10_291 mf10_asksPerson (vc117 hn) rfl (fr := 5) (lo := 113) (As := [vI p0]) (rest := []) ⟨Nat.le_of_ble_eq_true rfl, Nat.le_of_ble_eq_true rfl⟩ rfl (Nat.le_of_ble_eq_true rfl) ⟨Nat.zero_le _, Nat.zero_le _⟩ d10_gap_2 ?_
  refine ok10_asksPerson hn  (kIm h (fun a1 h => ?_))
  refine r_if_ne F (tgt := 11) d10_gap_5 (by decide) (fun hb => ?_) (fun hb => ?_)
  · replace h := wpo_neg h hb
    refine r_aload_nR F 0 rfl rfl d10_gap_11 ?_
    refine r_getR F (z := 128) lf10_46 (vc117 hn) z117_23 d10_gap_12 ?_
    refine r_iload_n F 1 rfl rfl d10_gap_15 ?_
    obtain ⟨hx1, h⟩ := wpo_chk h
    refine r_iald F (vc128 hn) hx1 d10_gap_16 ?_
    refine r_iconst F (z := (-1)) d10_gap_17 ?_
    refine r_icmp_ne F (tgt := 25) d10_gap_18 (by decide) (fun hb => ?_) (fun hb => ?_)
    · replace h := wpo_neg h hb
      refine r_aload_nR F 0 rfl rfl d10_gap_25 ?_
      refine r_getR F (z := 128) lf10_46 (vc117 hn) z117_23 d10_gap_26 ?_
      refine r_iload_n F 1 rfl rfl d10_gap_29 ?_
      refine r_iald F (vc128 hn) hx1 d10_gap_30 ?_
      refine r_aload_nR F 0 rfl rfl d10_gap_31 ?_
      refine r_getR F (z := 125) lf10_37 (vc117 hn) z117_16 d10_gap_32 ?_
      refine r_iload_n F 1 rfl rfl d10_gap_35 ?_
      refine r_iald F (vc125 hn) hx1 d10_gap_36 ?_
      refine r_isub F d10_gap_37 ?_
      replace h := wpo_some h
      exact r_iret F h d10_gap_38
    · replace h := wpo_pos h hb
      refine r_iconst F (z := (-1)) d10_gap_21 ?_
      refine r_goto F (tgt := 38) (by decide) d10_gap_22 ?_
      replace h := wpo_some h
      exact r_iret F h d10_gap_38
  · replace h := wpo_pos h hb
    refine r_bipush F (z := (-2)) (by decide) d10_gap_8 ?_
    replace h := wpo_some h
    exact r_iret F h d10_gap_10
theorem d10_keepBore_0 : decode c10_keepBore 0 = .ok (.iconst 0, 1) := by decide +kernel
theorem d10_keepBore_1 : decode c10_keepBore 1 = .ok (.istore_n 1, 1) := by decide +kernel
theorem d10_keepBore_2 : decode c10_keepBore 2 = .ok (.iload_n 1, 1) := by decide +kernel
theorem d10_keepBore_3 : decode c10_keepBore 3 = .ok (.aload_n 0, 1) := by decide +kernel
theorem d10_keepBore_4 : decode c10_keepBore 4 = .ok (.getfield 9, 3) := by decide +kernel
theorem d10_keepBore_7 : decode c10_keepBore 7 = .ok (.bipush 7, 2) := by decide +kernel
theorem d10_keepBore_9 : decode c10_keepBore 9 = .ok (.iaload, 1) := by decide +kernel
theorem d10_keepBore_10 : decode c10_keepBore 10 = .ok (.if_icmp .ge 20, 3) := by decide +kernel
theorem d10_keepBore_13 : decode c10_keepBore 13 = .ok (.aload_n 0, 1) := by decide +kernel
theorem d10_keepBore_14 : decode c10_keepBore 14 = .ok (.getfield 58, 3) := by decide +kernel
theorem d10_keepBore_17 : decode c10_keepBore 17 = .ok (.iload_n 1, 1) := by decide +kernel
theorem d10_keepBore_18 : decode c10_keepBore 18 = .ok (.aload_n 0, 1) := by decide +kernel
theorem d10_keepBore_19 : decode c10_keepBore 19 = .ok (.iload_n 1, 1) := by decide +kernel
theorem d10_keepBore_20 : decode c10_keepBore 20 = .ok (.invokevirtual 271, 3) := by decide +kernel
theorem d10_keepBore_23 : decode c10_keepBore 23 = .ok (.iastore, 1) := by decide +kernel
theorem d10_keepBore_24 : decode c10_keepBore 24 = .ok (.iinc 1 1, 3) := by decide +kernel
theorem d10_keepBore_27 : decode c10_keepBore 27 = .ok (.goto (-25), 3) := by decide +kernel
theorem d10_keepBore_30 : decode c10_keepBore 30 = .ok (.return_, 1) := by decide +kernel
def f10_keepBore (D : Mem) : Option (Mem) :=
  Option.bind (@loop (Int × Mem) (Mem) (fun s1 =>
    if w32 s1.1 < w32 (s1.2 118 7) then
      Option.bind (f10_bearsOf s1.2 s1.1) fun (a1 : Int) =>
      if 0 ≤ s1.1 ∧ s1.1 < 8 then
        some (Sum.inl ((s1.1 + 1), (mset s1.2 132 s1.1.toNat a1)))
      else none
    else
      some (Sum.inr s1.2)
  ) FU (0, D)) fun (b1 : Mem) =>
  some b1
set_option maxHeartbeats 4000000 in
theorem ok10_keepBore {l : Launch} {X : XT} {n : Nat} {D : Mem} {Q : Option Value → Nat → Rho → Mem → Prop} (hn : 147 ≤ n)  (h : wpo (f10_keepBore D) (fun a => Q none n rt a)) : MOK l y10_keepBore c10_keepBore 2 (none) { frames := 4, cells := 0, slots := 0, locals := 87 } 0 0 X [vR X 117] n rt D Q := by
  refine MOK_of 10 (by decide +kernel) rfl (lv := [(0, vR X 117)]) (Nat.le_of_ble_eq_true rfl) rfl (fun K hK F hnm => ?_)
  subst hK
  unfold f10_keepBore at h
  refine r_iconst F (z := 0) d10_keepBore_0 ?_
  refine r_istore_n F (lv' := [(1, vI 0), (0, vR X 117)]) rfl (Nat.le_of_ble_eq_true rfl) rfl d10_keepBore_1 ?_
  refine r_weak [1, 0] rfl ?_
  refine at_loopj (A := fun (s1 : Int × Mem) => At K X (ZQ K X Q) 0 0 n rt 2 2 [(0, vR X 117), (1, vI s1.1)] [] s1.2) (B := fun (b1 : Mem) => At K X (ZQ K X Q) 0 0 n rt 2 30 [] [] b1) h (fun b1 h => ?_) (fun s1 h => ?_)
  · replace h := wpo_some h
    exact r_vret F h d10_keepBore_30
  · refine r_iload_n F 1 rfl rfl d10_keepBore_2 ?_
    refine r_aload_nR F 0 rfl rfl d10_keepBore_3 ?_
    refine r_getR F (z := 118) lf10_9 (vc117 hn) z117_1 d10_keepBore_4 ?_
    refine r_bipush F (z := 7) (by decide) d10_keepBore_7 ?_
    refine r_ialdC F (j := 7) (vc118 hn) (by decide) rfl d10_keepBore_9 ?_
    refine r_icmp_ge F (tgt := 30) d10_keepBore_10 (by decide) (fun hb => ?_) (fun hb => ?_)
    · replace h := wpo_neg h hb
      refine r_weak [] rfl ?_
      replace h := wpo_inr h
      exact h
    · replace h := wpo_pos h hb
      refine r_aload_nR F 0 rfl rfl d10_keepBore_13 ?_
      refine r_getR F (z := 132) lf10_58 (vc117 hn) z117_28 d10_keepBore_14 ?_
      refine r_iload_n F 1 rfl rfl d10_keepBore_17 ?_
      refine r_aload_nR F 0 rfl rfl d10_keepBore_18 ?_
      refine r_iload_n F 1 rfl rfl d10_keepBore_19 ?_
      replace h := wpo_bind h
      refine r_callV0 F lm10_271 mf10_bearsOf (vc117 hn) rfl (fr := 3) (lo := 66) (As := [vI s1.1]) (rest := [vI s1.1, vR X 132]) ⟨Nat.le_of_ble_eq_true rfl, Nat.le_of_ble_eq_true rfl⟩ rfl (Nat.le_of_ble_eq_true rfl) ⟨Nat.zero_le _, Nat.zero_le _⟩ d10_keepBore_20 ?_
      refine ok10_bearsOf hn  (kI h (fun a1 h => ?_))
      obtain ⟨hx1, h⟩ := wpo_chk h
      refine r_iast F (vc132 hn) hx1 d10_keepBore_23 ?_
      refine r_iinc F 1 (lv' := [(1, vI (s1.1 + 1)), (0, vR X 117)]) rfl (Nat.le_of_ble_eq_true rfl) rfl d10_keepBore_24 ?_
      refine r_goto F (tgt := 2) (by decide) d10_keepBore_27 ?_
      refine r_weak [1, 0] rfl ?_
      replace h := wpo_inl h
      exact h
theorem d10_without_0 : decode c10_without 0 = .ok (.aload_n 0, 1) := by decide +kernel
theorem d10_without_1 : decode c10_without 1 = .ok (.iload_n 1, 1) := by decide +kernel
theorem d10_without_2 : decode c10_without 2 = .ok (.invokevirtual 291, 3) := by decide +kernel
theorem d10_without_5 : decode c10_without 5 = .ok (.ifCond .ne 6, 3) := by decide +kernel
theorem d10_without_8 : decode c10_without 8 = .ok (.bipush (-2), 2) := by decide +kernel
theorem d10_without_10 : decode c10_without 10 = .ok (.ireturn, 1) := by decide +kernel
theorem d10_without_11 : decode c10_without 11 = .ok (.aload_n 0, 1) := by decide +kernel
theorem d10_without_12 : decode c10_without 12 = .ok (.iload_n 1, 1) := by decide +kernel
theorem d10_without_13 : decode c10_without 13 = .ok (.putfield 234, 3) := by decide +kernel
theorem d10_without_16 : decode c10_without 16 = .ok (.aload_n 0, 1) := by decide +kernel
theorem d10_without_17 : decode c10_without 17 = .ok (.invokevirtual 277, 3) := by decide +kernel
theorem d10_without_20 : decode c10_without 20 = .ok (.aload_n 0, 1) := by decide +kernel
theorem d10_without_21 : decode c10_without 21 = .ok (.invokevirtual 303, 3) := by decide +kernel
theorem d10_without_24 : decode c10_without 24 = .ok (.ireturn, 1) := by decide +kernel
def f10_without (D : Mem) (p0 : Int) : Option (Int × Mem) :=
  Option.bind (f10_asksPerson D p0) fun (a1 : Int × Mem) =>
  if w32 a1.1 = 0 then
    some ((-2), a1.2)
  else
    Option.bind (some (mset a1.2 117 21 p0)) fun (D1 : Mem) =>
    Option.bind (f10_goNights D1) fun (a2 : Mem) =>
    Option.bind (f10_bearsAll a2) fun (a3 : Int) =>
    some (a3, a2)
set_option maxHeartbeats 4000000 in
theorem ok10_without {l : Launch} {X : XT} {n : Nat} {D : Mem} {Q : Option Value → Nat → Rho → Mem → Prop} (hn : 147 ≤ n) {p0 : Int}  (h : wpo (f10_without D p0) (fun a => Q (some (vI a.1)) n rt a.2)) : MOK l y10_without c10_without 2 (some .int) { frames := 6, cells := 0, slots := 0, locals := 134 } 0 0 X [vR X 117, vI p0] n rt D Q := by
  refine MOK_of 10 (by decide +kernel) rfl (lv := [(0, vR X 117), (1, vI p0)]) (Nat.le_of_ble_eq_true rfl) rfl (fun K hK F hnm => ?_)
  subst hK
  unfold f10_without at h
  refine r_aload_nR F 0 rfl rfl d10_without_0 ?_
  refine r_iload_n F 1 rfl rfl d10_without_1 ?_
  replace h := wpo_bind h
  refine r_callV0 F lm10_291 mf10_asksPerson (vc117 hn) rfl (fr := 5) (lo := 113) (As := [vI p0]) (rest := []) ⟨Nat.le_of_ble_eq_true rfl, Nat.le_of_ble_eq_true rfl⟩ rfl (Nat.le_of_ble_eq_true rfl) ⟨Nat.zero_le _, Nat.zero_le _⟩ d10_without_2 ?_
  refine ok10_asksPerson hn  (kIm h (fun a1 h => ?_))
  refine r_if_ne F (tgt := 11) d10_without_5 (by decide) (fun hb => ?_) (fun hb => ?_)
  · replace h := wpo_neg h hb
    refine r_aload_nR F 0 rfl rfl d10_without_11 ?_
    refine r_iload_n F 1 rfl rfl d10_without_12 ?_
    refine r_putI F lf10_234 rfl rfl (vc117 hn) d10_without_13 ?_
    refine r_aload_nR F 0 rfl rfl d10_without_16 ?_
    refine at_name (B := fun (D1 : Mem) => At K X (ZQ K X Q) 0 0 n rt 2 17 [(0, vR X 117), (1, vI p0)] [vR X 117] D1) h (fun D1 h => ?_)
    replace h := wpo_bind h
    refine r_callV0 F lm10_277 mf10_goNights (vc117 hn) rfl (fr := 3) (lo := 72) (As := []) (rest := []) ⟨Nat.le_of_ble_eq_true rfl, Nat.le_of_ble_eq_true rfl⟩ rfl (Nat.le_of_ble_eq_true rfl) ⟨Nat.zero_le _, Nat.zero_le _⟩ d10_without_17 ?_
    refine ok10_goNights hn  (kVm h (fun a2 h => ?_))
    refine r_aload_nR F 0 rfl rfl d10_without_20 ?_
    replace h := wpo_bind h
    refine r_callV0 F lm10_303 mf10_bearsAll (vc117 hn) rfl (fr := 4) (lo := 87) (As := []) (rest := []) ⟨Nat.le_of_ble_eq_true rfl, Nat.le_of_ble_eq_true rfl⟩ rfl (Nat.le_of_ble_eq_true rfl) ⟨Nat.zero_le _, Nat.zero_le _⟩ d10_without_21 ?_
    refine ok10_bearsAll hn  (kI h (fun a3 h => ?_))
    replace h := wpo_some h
    exact r_iret F h d10_without_24
  · replace h := wpo_pos h hb
    refine r_bipush F (z := (-2)) (by decide) d10_without_8 ?_
    replace h := wpo_some h
    exact r_iret F h d10_without_10
theorem d10_blocks_0 : decode c10_blocks 0 = .ok (.aload_n 0, 1) := by decide +kernel
theorem d10_blocks_1 : decode c10_blocks 1 = .ok (.iload_n 1, 1) := by decide +kernel
theorem d10_blocks_2 : decode c10_blocks 2 = .ok (.invokevirtual 291, 3) := by decide +kernel
theorem d10_blocks_5 : decode c10_blocks 5 = .ok (.ifCond .ne 6, 3) := by decide +kernel
theorem d10_blocks_8 : decode c10_blocks 8 = .ok (.bipush (-2), 2) := by decide +kernel
theorem d10_blocks_10 : decode c10_blocks 10 = .ok (.ireturn, 1) := by decide +kernel
theorem d10_blocks_11 : decode c10_blocks 11 = .ok (.aload_n 0, 1) := by decide +kernel
theorem d10_blocks_12 : decode c10_blocks 12 = .ok (.invokevirtual 307, 3) := by decide +kernel
theorem d10_blocks_15 : decode c10_blocks 15 = .ok (.aload_n 0, 1) := by decide +kernel
theorem d10_blocks_16 : decode c10_blocks 16 = .ok (.iload_n 1, 1) := by decide +kernel
theorem d10_blocks_17 : decode c10_blocks 17 = .ok (.putfield 234, 3) := by decide +kernel
theorem d10_blocks_20 : decode c10_blocks 20 = .ok (.aload_n 0, 1) := by decide +kernel
theorem d10_blocks_21 : decode c10_blocks 21 = .ok (.invokevirtual 277, 3) := by decide +kernel
theorem d10_blocks_24 : decode c10_blocks 24 = .ok (.iconst 0, 1) := by decide +kernel
theorem d10_blocks_25 : decode c10_blocks 25 = .ok (.istore_n 2, 1) := by decide +kernel
theorem d10_blocks_26 : decode c10_blocks 26 = .ok (.iconst 0, 1) := by decide +kernel
theorem d10_blocks_27 : decode c10_blocks 27 = .ok (.istore_n 3, 1) := by decide +kernel
theorem d10_blocks_28 : decode c10_blocks 28 = .ok (.iload_n 3, 1) := by decide +kernel
theorem d10_blocks_29 : decode c10_blocks 29 = .ok (.aload_n 0, 1) := by decide +kernel
theorem d10_blocks_30 : decode c10_blocks 30 = .ok (.getfield 9, 3) := by decide +kernel
theorem d10_blocks_33 : decode c10_blocks 33 = .ok (.bipush 7, 2) := by decide +kernel
theorem d10_blocks_35 : decode c10_blocks 35 = .ok (.iaload, 1) := by decide +kernel
theorem d10_blocks_36 : decode c10_blocks 36 = .ok (.if_icmp .ge 38, 3) := by decide +kernel
theorem d10_blocks_39 : decode c10_blocks 39 = .ok (.iload_n 2, 1) := by decide +kernel
theorem d10_blocks_40 : decode c10_blocks 40 = .ok (.iload_n 3, 1) := by decide +kernel
theorem d10_blocks_41 : decode c10_blocks 41 = .ok (.iload_n 1, 1) := by decide +kernel
theorem d10_blocks_42 : decode c10_blocks 42 = .ok (.if_icmp .eq 23, 3) := by decide +kernel
theorem d10_blocks_45 : decode c10_blocks 45 = .ok (.aload_n 0, 1) := by decide +kernel
theorem d10_blocks_46 : decode c10_blocks 46 = .ok (.iload_n 3, 1) := by decide +kernel
theorem d10_blocks_47 : decode c10_blocks 47 = .ok (.invokevirtual 271, 3) := by decide +kernel
theorem d10_blocks_50 : decode c10_blocks 50 = .ok (.aload_n 0, 1) := by decide +kernel
theorem d10_blocks_51 : decode c10_blocks 51 = .ok (.getfield 58, 3) := by decide +kernel
theorem d10_blocks_54 : decode c10_blocks 54 = .ok (.iload_n 3, 1) := by decide +kernel
theorem d10_blocks_55 : decode c10_blocks 55 = .ok (.iaload, 1) := by decide +kernel
theorem d10_blocks_56 : decode c10_blocks 56 = .ok (.if_icmp .ge 9, 3) := by decide +kernel
theorem d10_blocks_59 : decode c10_blocks 59 = .ok (.iconst 1, 1) := by decide +kernel
theorem d10_blocks_60 : decode c10_blocks 60 = .ok (.iload_n 3, 1) := by decide +kernel
theorem d10_blocks_61 : decode c10_blocks 61 = .ok (.ishl, 1) := by decide +kernel
theorem d10_blocks_62 : decode c10_blocks 62 = .ok (.goto 4, 3) := by decide +kernel
theorem d10_blocks_65 : decode c10_blocks 65 = .ok (.iconst 0, 1) := by decide +kernel
theorem d10_blocks_66 : decode c10_blocks 66 = .ok (.ior, 1) := by decide +kernel
theorem d10_blocks_67 : decode c10_blocks 67 = .ok (.istore_n 2, 1) := by decide +kernel
theorem d10_blocks_68 : decode c10_blocks 68 = .ok (.iinc 3 1, 3) := by decide +kernel
theorem d10_blocks_71 : decode c10_blocks 71 = .ok (.goto (-43), 3) := by decide +kernel
theorem d10_blocks_74 : decode c10_blocks 74 = .ok (.iload_n 2, 1) := by decide +kernel
theorem d10_blocks_75 : decode c10_blocks 75 = .ok (.ireturn, 1) := by decide +kernel
def f10_blocks (D : Mem) (p0 : Int) : Option (Int × Mem) :=
  Option.bind (f10_asksPerson D p0) fun (a1 : Int × Mem) =>
  if w32 a1.1 = 0 then
    some ((-2), a1.2)
  else
    Option.bind (f10_keepBore a1.2) fun (a2 : Mem) =>
    Option.bind (some (mset a2 117 21 p0)) fun (D1 : Mem) =>
    Option.bind (f10_goNights D1) fun (a3 : Mem) =>
    Option.bind (@loop (Int × Int) (Int) (fun s1 =>
      if w32 s1.2 < w32 (a3 118 7) then
        Option.bind (
          if w32 s1.2 = w32 p0 then
            some 0
          else
            Option.bind (f10_bearsOf a3 s1.2) fun (a4 : Int) =>
            if 0 ≤ s1.2 ∧ s1.2 < 8 then
              if w32 a4 < w32 (a3 132 s1.2.toNat) then
                some (shl32 1 s1.2)
              else
                some 0
            else none
        ) fun (j1 : Int) =>
        some (Sum.inl ((or32 s1.1 j1), (s1.2 + 1)))
      else
        some (Sum.inr s1.1)
    ) FU (0, 0)) fun (b1 : Int) =>
    some (b1, a3)
set_option maxHeartbeats 4000000 in
theorem ok10_blocks {l : Launch} {X : XT} {n : Nat} {D : Mem} {Q : Option Value → Nat → Rho → Mem → Prop} (hn : 147 ≤ n) {p0 : Int}  (h : wpo (f10_blocks D p0) (fun a => Q (some (vI a.1)) n rt a.2)) : MOK l y10_blocks c10_blocks 4 (some .int) { frames := 6, cells := 0, slots := 0, locals := 134 } 0 0 X [vR X 117, vI p0] n rt D Q := by
  refine MOK_of 10 (by decide +kernel) rfl (lv := [(0, vR X 117), (1, vI p0)]) (Nat.le_of_ble_eq_true rfl) rfl (fun K hK F hnm => ?_)
  subst hK
  unfold f10_blocks at h
  refine r_aload_nR F 0 rfl rfl d10_blocks_0 ?_
  refine r_iload_n F 1 rfl rfl d10_blocks_1 ?_
  replace h := wpo_bind h
  refine r_callV0 F lm10_291 mf10_asksPerson (vc117 hn) rfl (fr := 5) (lo := 113) (As := [vI p0]) (rest := []) ⟨Nat.le_of_ble_eq_true rfl, Nat.le_of_ble_eq_true rfl⟩ rfl (Nat.le_of_ble_eq_true rfl) ⟨Nat.zero_le _, Nat.zero_le _⟩ d10_blocks_2 ?_
  refine ok10_asksPerson hn  (kIm h (fun a1 h => ?_))
  refine r_if_ne F (tgt := 11) d10_blocks_5 (by decide) (fun hb => ?_) (fun hb => ?_)
  · replace h := wpo_neg h hb
    refine r_aload_nR F 0 rfl rfl d10_blocks_11 ?_
    replace h := wpo_bind h
    refine r_callV0 F lm10_307 mf10_keepBore (vc117 hn) rfl (fr := 4) (lo := 87) (As := []) (rest := []) ⟨Nat.le_of_ble_eq_true rfl, Nat.le_of_ble_eq_true rfl⟩ rfl (Nat.le_of_ble_eq_true rfl) ⟨Nat.zero_le _, Nat.zero_le _⟩ d10_blocks_12 ?_
    refine ok10_keepBore hn  (kVm h (fun a2 h => ?_))
    refine r_aload_nR F 0 rfl rfl d10_blocks_15 ?_
    refine r_iload_n F 1 rfl rfl d10_blocks_16 ?_
    refine r_putI F lf10_234 rfl rfl (vc117 hn) d10_blocks_17 ?_
    refine r_aload_nR F 0 rfl rfl d10_blocks_20 ?_
    refine at_name (B := fun (D1 : Mem) => At K X (ZQ K X Q) 0 0 n rt 4 21 [(0, vR X 117), (1, vI p0)] [vR X 117] D1) h (fun D1 h => ?_)
    replace h := wpo_bind h
    refine r_callV0 F lm10_277 mf10_goNights (vc117 hn) rfl (fr := 3) (lo := 72) (As := []) (rest := []) ⟨Nat.le_of_ble_eq_true rfl, Nat.le_of_ble_eq_true rfl⟩ rfl (Nat.le_of_ble_eq_true rfl) ⟨Nat.zero_le _, Nat.zero_le _⟩ d10_blocks_21 ?_
    refine ok10_goNights hn  (kVm h (fun a3 h => ?_))
    refine r_iconst F (z := 0) d10_blocks_24 ?_
    refine r_istore_n F (lv' := [(2, vI 0), (0, vR X 117), (1, vI p0)]) rfl (Nat.le_of_ble_eq_true rfl) rfl d10_blocks_25 ?_
    refine r_iconst F (z := 0) d10_blocks_26 ?_
    refine r_istore_n F (lv' := [(3, vI 0), (2, vI 0), (0, vR X 117), (1, vI p0)]) rfl (Nat.le_of_ble_eq_true rfl) rfl d10_blocks_27 ?_
    refine r_weak [2, 3, 1, 0] rfl ?_
    refine at_loopj (A := fun (s1 : Int × Int) => At K X (ZQ K X Q) 0 0 n rt 4 28 [(0, vR X 117), (1, vI p0), (2, vI s1.1), (3, vI s1.2)] [] a3) (B := fun (b1 : Int) => At K X (ZQ K X Q) 0 0 n rt 4 74 [(2, vI b1)] [] a3) h (fun b1 h => ?_) (fun s1 h => ?_)
    · refine r_iload_n F 0 rfl rfl d10_blocks_74 ?_
      replace h := wpo_some h
      exact r_iret F h d10_blocks_75
    · refine r_iload_n F 3 rfl rfl d10_blocks_28 ?_
      refine r_aload_nR F 0 rfl rfl d10_blocks_29 ?_
      refine r_getR F (z := 118) lf10_9 (vc117 hn) z117_1 d10_blocks_30 ?_
      refine r_bipush F (z := 7) (by decide) d10_blocks_33 ?_
      refine r_ialdC F (j := 7) (vc118 hn) (by decide) rfl d10_blocks_35 ?_
      refine r_icmp_ge F (tgt := 74) d10_blocks_36 (by decide) (fun hb => ?_) (fun hb => ?_)
      · replace h := wpo_neg h hb
        refine r_weak [2] rfl ?_
        replace h := wpo_inr h
        exact h
      · replace h := wpo_pos h hb
        refine r_iload_n F 2 rfl rfl d10_blocks_39 ?_
        refine r_iload_n F 3 rfl rfl d10_blocks_40 ?_
        refine r_iload_n F 1 rfl rfl d10_blocks_41 ?_
        refine at_join (B := fun (j1 : Int) => At K X (ZQ K X Q) 0 0 n rt 4 66 [(0, vR X 117), (1, vI p0), (3, vI s1.2)] [vI j1, vI s1.1] a3) h (fun j1 h => ?_) (fun h => ?_)
        · refine r_ior F d10_blocks_66 ?_
          refine r_istore_n F (lv' := [(2, vI (or32 s1.1 j1)), (0, vR X 117), (1, vI p0), (3, vI s1.2)]) rfl (Nat.le_of_ble_eq_true rfl) rfl d10_blocks_67 ?_
          refine r_iinc F 3 (lv' := [(3, vI (s1.2 + 1)), (2, vI (or32 s1.1 j1)), (0, vR X 117), (1, vI p0)]) rfl (Nat.le_of_ble_eq_true rfl) rfl d10_blocks_68 ?_
          refine r_goto F (tgt := 28) (by decide) d10_blocks_71 ?_
          refine r_weak [2, 3, 1, 0] rfl ?_
          replace h := wpo_inl h
          exact h
        · refine r_icmp_eq F (tgt := 65) d10_blocks_42 (by decide) (fun hb => ?_) (fun hb => ?_)
          · replace h := wpo_pos h hb
            refine r_iconst F (z := 0) d10_blocks_65 ?_
            refine r_weak [0, 1, 3] rfl ?_
            replace h := wpo_some h
            exact h
          · replace h := wpo_neg h hb
            refine r_aload_nR F 0 rfl rfl d10_blocks_45 ?_
            refine r_iload_n F 3 rfl rfl d10_blocks_46 ?_
            replace h := wpo_bind h
            refine r_callV0 F lm10_271 mf10_bearsOf (vc117 hn) rfl (fr := 3) (lo := 66) (As := [vI s1.2]) (rest := [vI s1.1]) ⟨Nat.le_of_ble_eq_true rfl, Nat.le_of_ble_eq_true rfl⟩ rfl (Nat.le_of_ble_eq_true rfl) ⟨Nat.zero_le _, Nat.zero_le _⟩ d10_blocks_47 ?_
            refine ok10_bearsOf hn  (kI h (fun a4 h => ?_))
            refine r_aload_nR F 0 rfl rfl d10_blocks_50 ?_
            refine r_getR F (z := 132) lf10_58 (vc117 hn) z117_28 d10_blocks_51 ?_
            refine r_iload_n F 3 rfl rfl d10_blocks_54 ?_
            obtain ⟨hx1, h⟩ := wpo_chk h
            refine r_iald F (vc132 hn) hx1 d10_blocks_55 ?_
            refine r_icmp_ge F (tgt := 65) d10_blocks_56 (by decide) (fun hb => ?_) (fun hb => ?_)
            · replace h := wpo_neg h hb
              refine r_iconst F (z := 0) d10_blocks_65 ?_
              refine r_weak [0, 1, 3] rfl ?_
              replace h := wpo_some h
              exact h
            · replace h := wpo_pos h hb
              refine r_iconst F (z := 1) d10_blocks_59 ?_
              refine r_iload_n F 3 rfl rfl d10_blocks_60 ?_
              refine r_ishl F d10_blocks_61 ?_
              refine r_goto F (tgt := 66) (by decide) d10_blocks_62 ?_
              refine r_weak [0, 1, 3] rfl ?_
              replace h := wpo_some h
              exact h
  · replace h := wpo_pos h hb
    refine r_bipush F (z := (-2)) (by decide) d10_blocks_8 ?_
    replace h := wpo_some h
    exact r_iret F h d10_blocks_10
theorem d10_when_0 : decode c10_when 0 = .ok (.aload_n 0, 1) := by decide +kernel
theorem d10_when_1 : decode c10_when 1 = .ok (.invokevirtual 280, 3) := by decide +kernel
theorem d10_when_4 : decode c10_when 4 = .ok (.ifCond .eq 15, 3) := by decide +kernel
theorem d10_when_7 : decode c10_when 7 = .ok (.iload_n 1, 1) := by decide +kernel
theorem d10_when_8 : decode c10_when 8 = .ok (.i2l, 1) := by decide +kernel
theorem d10_when_9 : decode c10_when 9 = .ok (.lconst 1, 1) := by decide +kernel
theorem d10_when_10 : decode c10_when 10 = .ok (.ldc2_w 310, 3) := by decide +kernel
theorem d10_when_13 : decode c10_when 13 = .ok (.invokestatic 109, 3) := by decide +kernel
theorem d10_when_16 : decode c10_when 16 = .ok (.ifCond .ne 6, 3) := by decide +kernel
theorem d10_when_19 : decode c10_when 19 = .ok (.bipush (-2), 2) := by decide +kernel
theorem d10_when_21 : decode c10_when 21 = .ok (.ireturn, 1) := by decide +kernel
theorem d10_when_22 : decode c10_when 22 = .ok (.iconst 0, 1) := by decide +kernel
theorem d10_when_23 : decode c10_when 23 = .ok (.istore_n 2, 1) := by decide +kernel
theorem d10_when_24 : decode c10_when 24 = .ok (.iload_n 2, 1) := by decide +kernel
theorem d10_when_25 : decode c10_when 25 = .ok (.aload_n 0, 1) := by decide +kernel
theorem d10_when_26 : decode c10_when 26 = .ok (.invokevirtual 256, 3) := by decide +kernel
theorem d10_when_29 : decode c10_when 29 = .ok (.if_icmp .ge 21, 3) := by decide +kernel
theorem d10_when_32 : decode c10_when 32 = .ok (.aload_n 0, 1) := by decide +kernel
theorem d10_when_33 : decode c10_when 33 = .ok (.getfield 55, 3) := by decide +kernel
theorem d10_when_36 : decode c10_when 36 = .ok (.iload_n 2, 1) := by decide +kernel
theorem d10_when_37 : decode c10_when 37 = .ok (.iaload, 1) := by decide +kernel
theorem d10_when_38 : decode c10_when 38 = .ok (.iload_n 1, 1) := by decide +kernel
theorem d10_when_39 : decode c10_when 39 = .ok (.if_icmp .lt 5, 3) := by decide +kernel
theorem d10_when_42 : decode c10_when 42 = .ok (.iload_n 2, 1) := by decide +kernel
theorem d10_when_43 : decode c10_when 43 = .ok (.ireturn, 1) := by decide +kernel
theorem d10_when_44 : decode c10_when 44 = .ok (.iinc 2 1, 3) := by decide +kernel
theorem d10_when_47 : decode c10_when 47 = .ok (.goto (-23), 3) := by decide +kernel
theorem d10_when_50 : decode c10_when 50 = .ok (.iconst (-1), 1) := by decide +kernel
theorem d10_when_51 : decode c10_when 51 = .ok (.ireturn, 1) := by decide +kernel
def f10_when (D : Mem) (p0 : Int) : Option (Int × Mem) :=
  Option.bind (f10_asksParish D) fun (a1 : Int × Mem) =>
  if w32 a1.1 = 0 then
    some ((-2), a1.2)
  else
    Option.bind (f10_in a1.2 (w32 p0) 1 20) fun (a2 : Int) =>
    if w32 a2 = 0 then
      some ((-2), a1.2)
    else
      Option.bind (@loop (Int) ((Unit) ⊕ (Int × Mem)) (fun s1 =>
        Option.bind (f10_nights a1.2) fun (a3 : Int) =>
        if w32 s1 < w32 a3 then
          if 0 ≤ s1 ∧ s1 < 12 then
            if w32 (a1.2 131 s1.toNat) < w32 p0 then
              some (Sum.inl (s1 + 1))
            else
              some (Sum.inr (Sum.inr (s1, a1.2)))
          else none
        else
          some (Sum.inr (Sum.inl ()))
      ) FU 0) (fun z => Sum.elim (fun (b1 : Unit) =>
        some ((-1), a1.2)
      ) (fun rv => some rv) z)
set_option maxHeartbeats 4000000 in
theorem ok10_when {l : Launch} {X : XT} {n : Nat} {D : Mem} {Q : Option Value → Nat → Rho → Mem → Prop} (hn : 147 ≤ n) {p0 : Int}  (h : wpo (f10_when D p0) (fun a => Q (some (vI a.1)) n rt a.2)) : MOK l y10_when c10_when 3 (some .int) { frames := 5, cells := 0, slots := 0, locals := 113 } 0 0 X [vR X 117, vI p0] n rt D Q := by
  refine MOK_of 10 (by decide +kernel) rfl (lv := [(0, vR X 117), (1, vI p0)]) (Nat.le_of_ble_eq_true rfl) rfl (fun K hK F hnm => ?_)
  subst hK
  unfold f10_when at h
  refine r_aload_nR F 0 rfl rfl d10_when_0 ?_
  replace h := wpo_bind h
  refine r_callV0 F lm10_280 mf10_asksParish (vc117 hn) rfl (fr := 4) (lo := 93) (As := []) (rest := []) ⟨Nat.le_of_ble_eq_true rfl, Nat.le_of_ble_eq_true rfl⟩ rfl (Nat.le_of_ble_eq_true rfl) ⟨Nat.zero_le _, Nat.zero_le _⟩ d10_when_1 ?_
  refine ok10_asksParish hn  (kIm h (fun a1 h => ?_))
  refine r_if_eq F (tgt := 19) d10_when_4 (by decide) (fun hb => ?_) (fun hb => ?_)
  · replace h := wpo_pos h hb
    refine r_bipush F (z := (-2)) (by decide) d10_when_19 ?_
    replace h := wpo_some h
    exact r_iret F h d10_when_21
  · replace h := wpo_neg h hb
    refine r_iload_n F 1 rfl rfl d10_when_7 ?_
    refine r_i2l F d10_when_8 ?_
    refine r_lconst F (x := 1) (by decide) d10_when_9 ?_
    refine r_ldc2 F (z := 20) lc10_310 d10_when_10 ?_
    replace h := wpo_bind h
    refine r_callS0 F lm10_109 mf10_in rfl (fr := 0) (lo := 0) (As := [vL (w32 p0), vL 1, vL 20]) (rest := []) ⟨Nat.le_of_ble_eq_true rfl, Nat.le_of_ble_eq_true rfl⟩ rfl (Nat.le_of_ble_eq_true rfl) ⟨Nat.zero_le _, Nat.zero_le _⟩ d10_when_13 ?_
    refine ok10_in hn  (kI h (fun a2 h => ?_))
    refine r_if_ne F (tgt := 22) d10_when_16 (by decide) (fun hb => ?_) (fun hb => ?_)
    · replace h := wpo_neg h hb
      refine r_iconst F (z := 0) d10_when_22 ?_
      refine r_istore_n F (lv' := [(2, vI 0), (0, vR X 117), (1, vI p0)]) rfl (Nat.le_of_ble_eq_true rfl) rfl d10_when_23 ?_
      refine r_weak [1, 2, 0] rfl ?_
      refine at_loopj (A := fun (s1 : Int) => At K X (ZQ K X Q) 0 0 n rt 3 24 [(0, vR X 117), (1, vI p0), (2, vI s1)] [] a1.2) (B := Sum.elim (fun (b1 : Unit) => At K X (ZQ K X Q) 0 0 n rt 3 50 [] [] a1.2) (fun rv => Q (some (vI rv.1)) n rt rv.2)) h (fun z h => ?_) (fun s1 h => ?_)
      · rcases z with b1 | rv
        · replace h := elim_l h
          refine el_li ?_
          refine r_iconst F (z := (-1)) d10_when_50 ?_
          replace h := wpo_some h
          exact r_iret F h d10_when_51
        · replace h := elim_r h
          replace h := wpo_some h
          exact el_ri h
      · refine r_iload_n F 2 rfl rfl d10_when_24 ?_
        refine r_aload_nR F 0 rfl rfl d10_when_25 ?_
        replace h := wpo_bind h
        refine r_callV0 F lm10_256 mf10_nights (vc117 hn) rfl (fr := 0) (lo := 0) (As := []) (rest := [vI s1]) ⟨Nat.le_of_ble_eq_true rfl, Nat.le_of_ble_eq_true rfl⟩ rfl (Nat.le_of_ble_eq_true rfl) ⟨Nat.zero_le _, Nat.zero_le _⟩ d10_when_26 ?_
        refine ok10_nights hn  (kI h (fun a3 h => ?_))
        refine r_icmp_ge F (tgt := 50) d10_when_29 (by decide) (fun hb => ?_) (fun hb => ?_)
        · replace h := wpo_neg h hb
          refine r_weak [] rfl ?_
          replace h := wpo_inr h
          replace h := el_l h
          exact h
        · replace h := wpo_pos h hb
          refine r_aload_nR F 0 rfl rfl d10_when_32 ?_
          refine r_getR F (z := 131) lf10_55 (vc117 hn) z117_26 d10_when_33 ?_
          refine r_iload_n F 2 rfl rfl d10_when_36 ?_
          obtain ⟨hx1, h⟩ := wpo_chk h
          refine r_iald F (vc131 hn) hx1 d10_when_37 ?_
          refine r_iload_n F 1 rfl rfl d10_when_38 ?_
          refine r_icmp_lt F (tgt := 44) d10_when_39 (by decide) (fun hb => ?_) (fun hb => ?_)
          · replace h := wpo_pos h hb
            refine r_iinc F 2 (lv' := [(2, vI (s1 + 1)), (0, vR X 117), (1, vI p0)]) rfl (Nat.le_of_ble_eq_true rfl) rfl d10_when_44 ?_
            refine r_goto F (tgt := 24) (by decide) d10_when_47 ?_
            refine r_weak [1, 2, 0] rfl ?_
            replace h := wpo_inl h
            exact h
          · replace h := wpo_neg h hb
            refine r_iload_n F 2 rfl rfl d10_when_42 ?_
            replace h := el_r (wpo_inr h)
            exact r_iret F h d10_when_43
    · replace h := wpo_pos h hb
      refine r_bipush F (z := (-2)) (by decide) d10_when_19 ?_
      replace h := wpo_some h
      exact r_iret F h d10_when_21
theorem d10_divisor_0 : decode c10_divisor 0 = .ok (.lload_n 0, 1) := by decide +kernel
theorem d10_divisor_1 : decode c10_divisor 1 = .ok (.lstore 4, 2) := by decide +kernel
theorem d10_divisor_3 : decode c10_divisor 3 = .ok (.lload_n 2, 1) := by decide +kernel
theorem d10_divisor_4 : decode c10_divisor 4 = .ok (.lstore 6, 2) := by decide +kernel
theorem d10_divisor_6 : decode c10_divisor 6 = .ok (.lload 6, 2) := by decide +kernel
theorem d10_divisor_8 : decode c10_divisor 8 = .ok (.lconst 0, 1) := by decide +kernel
theorem d10_divisor_9 : decode c10_divisor 9 = .ok (.lcmp, 1) := by decide +kernel
theorem d10_divisor_10 : decode c10_divisor 10 = .ok (.ifCond .eq 21, 3) := by decide +kernel
theorem d10_divisor_13 : decode c10_divisor 13 = .ok (.lload 4, 2) := by decide +kernel
theorem d10_divisor_15 : decode c10_divisor 15 = .ok (.lload 6, 2) := by decide +kernel
theorem d10_divisor_17 : decode c10_divisor 17 = .ok (.lrem, 1) := by decide +kernel
theorem d10_divisor_18 : decode c10_divisor 18 = .ok (.lstore 8, 2) := by decide +kernel
theorem d10_divisor_20 : decode c10_divisor 20 = .ok (.lload 6, 2) := by decide +kernel
theorem d10_divisor_22 : decode c10_divisor 22 = .ok (.lstore 4, 2) := by decide +kernel
theorem d10_divisor_24 : decode c10_divisor 24 = .ok (.lload 8, 2) := by decide +kernel
theorem d10_divisor_26 : decode c10_divisor 26 = .ok (.lstore 6, 2) := by decide +kernel
theorem d10_divisor_28 : decode c10_divisor 28 = .ok (.goto (-22), 3) := by decide +kernel
theorem d10_divisor_31 : decode c10_divisor 31 = .ok (.lload 4, 2) := by decide +kernel
theorem d10_divisor_33 : decode c10_divisor 33 = .ok (.lreturn, 1) := by decide +kernel
def f10_divisor (D : Mem) (p0 : Int) (p1 : Int) : Option (Int) :=
  Option.bind (@loop (Int × Int) (Int) (fun s1 =>
    if w64 s1.2 = w64 0 then
      some (Sum.inr s1.1)
    else
      if ¬ w64 s1.2 = 0 then
        Option.bind (some (rem64 s1.1 s1.2)) fun (v1 : Int) =>
        some (Sum.inl (s1.2, v1))
      else none
  ) FU (p0, p1)) fun (b1 : Int) =>
  some b1
set_option maxHeartbeats 4000000 in
theorem ok10_divisor {l : Launch} {X : XT} {n : Nat} {D : Mem} {Q : Option Value → Nat → Rho → Mem → Prop} (hn : 147 ≤ n) {p0 : Int} {p1 : Int}  (h : wpo (f10_divisor D p0 p1) (fun a => Q (some (vL a)) n rt D)) : MOK l y10_divisor c10_divisor 10 (some .long) { frames := 0, cells := 0, slots := 0, locals := 0 } 0 0 X [vL p0, vL p1] n rt D Q := by
  refine MOK_of 10 (by decide +kernel) rfl (lv := [(0, vL p0), (2, vL p1)]) (Nat.le_of_ble_eq_true rfl) rfl (fun K hK F hnm => ?_)
  subst hK
  unfold f10_divisor at h
  refine r_lload_n F 0 rfl rfl d10_divisor_0 ?_
  refine r_lstore F (lv' := [(4, vL p0), (0, vL p0), (2, vL p1)]) (Nat.le_of_ble_eq_true rfl) rfl d10_divisor_1 ?_
  refine r_lload_n F 2 rfl rfl d10_divisor_3 ?_
  refine r_lstore F (lv' := [(6, vL p1), (4, vL p0), (0, vL p0), (2, vL p1)]) (Nat.le_of_ble_eq_true rfl) rfl d10_divisor_4 ?_
  refine r_weak [1, 0] rfl ?_
  refine at_loopj (A := fun (s1 : Int × Int) => At K X (ZQ K X Q) 0 0 n rt 10 6 [(4, vL s1.1), (6, vL s1.2)] [] D) (B := fun (b1 : Int) => At K X (ZQ K X Q) 0 0 n rt 10 31 [(4, vL b1)] [] D) h (fun b1 h => ?_) (fun s1 h => ?_)
  · refine r_lload F 0 rfl d10_divisor_31 ?_
    replace h := wpo_some h
    exact r_lret F h d10_divisor_33
  · refine r_lload F 1 rfl d10_divisor_6 ?_
    refine r_lconst F (x := 0) (by decide) d10_divisor_8 ?_
    refine r_lc_eq F (tgt := 31) d10_divisor_9 d10_divisor_10 (by decide) (fun hb => ?_) (fun hb => ?_)
    · replace h := wpo_pos h hb
      refine r_weak [0] rfl ?_
      replace h := wpo_inr h
      exact h
    · replace h := wpo_neg h hb
      refine r_lload F 0 rfl d10_divisor_13 ?_
      refine r_lload F 1 rfl d10_divisor_15 ?_
      obtain ⟨hx1, h⟩ := wpo_chk h
      refine r_lrem F hx1 d10_divisor_17 ?_
      refine r_lstore F (lv' := [(8, vL (rem64 s1.1 s1.2)), (4, vL s1.1), (6, vL s1.2)]) (Nat.le_of_ble_eq_true rfl) rfl d10_divisor_18 ?_
      refine at_name (B := fun (v1 : Int) => At K X (ZQ K X Q) 0 0 n rt 10 20 [(8, vL v1), (4, vL s1.1), (6, vL s1.2)] [] D) h (fun v1 h => ?_)
      refine r_lload F 2 rfl d10_divisor_20 ?_
      refine r_lstore F (lv' := [(4, vL s1.2), (8, vL v1), (6, vL s1.2)]) (Nat.le_of_ble_eq_true rfl) rfl d10_divisor_22 ?_
      refine r_lload F 1 rfl d10_divisor_24 ?_
      refine r_lstore F (lv' := [(6, vL v1), (4, vL s1.2), (8, vL v1)]) (Nat.le_of_ble_eq_true rfl) rfl d10_divisor_26 ?_
      refine r_goto F (tgt := 6) (by decide) d10_divisor_28 ?_
      refine r_weak [1, 0] rfl ?_
      replace h := wpo_inl h
      exact h
theorem d10_part_0 : decode c10_part 0 = .ok (.iload 4, 2) := by decide +kernel
theorem d10_part_2 : decode c10_part 2 = .ok (.ifCond .ne 7, 3) := by decide +kernel
theorem d10_part_5 : decode c10_part 5 = .ok (.lload_n 0, 1) := by decide +kernel
theorem d10_part_6 : decode c10_part 6 = .ok (.goto 4, 3) := by decide +kernel
theorem d10_part_9 : decode c10_part 9 = .ok (.lload_n 2, 1) := by decide +kernel
theorem d10_part_10 : decode c10_part 10 = .ok (.lload_n 0, 1) := by decide +kernel
theorem d10_part_11 : decode c10_part 11 = .ok (.lload_n 2, 1) := by decide +kernel
theorem d10_part_12 : decode c10_part 12 = .ok (.invokestatic 312, 3) := by decide +kernel
theorem d10_part_15 : decode c10_part 15 = .ok (.ldiv, 1) := by decide +kernel
theorem d10_part_16 : decode c10_part 16 = .ok (.lreturn, 1) := by decide +kernel
def f10_part (D : Mem) (p0 : Int) (p1 : Int) (p2 : Int) : Option (Int) :=
  Option.bind (
    if w32 p2 = 0 then
      some p0
    else
      some p1
  ) fun (j1 : Int) =>
  Option.bind (f10_divisor D p0 p1) fun (a1 : Int) =>
  if ¬ w64 a1 = 0 then
    some (div64 j1 a1)
  else none
set_option maxHeartbeats 4000000 in
theorem ok10_part {l : Launch} {X : XT} {n : Nat} {D : Mem} {Q : Option Value → Nat → Rho → Mem → Prop} (hn : 147 ≤ n) {p0 : Int} {p1 : Int} {p2 : Int}  (h : wpo (f10_part D p0 p1 p2) (fun a => Q (some (vL a)) n rt D)) : MOK l y10_part c10_part 5 (some .long) { frames := 1, cells := 0, slots := 0, locals := 29 } 0 0 X [vL p0, vL p1, vI p2] n rt D Q := by
  refine MOK_of 10 (by decide +kernel) rfl (lv := [(0, vL p0), (2, vL p1), (4, vI p2)]) (Nat.le_of_ble_eq_true rfl) rfl (fun K hK F hnm => ?_)
  subst hK
  unfold f10_part at h
  refine r_iload F 2 rfl d10_part_0 ?_
  refine at_join (B := fun (j1 : Int) => At K X (ZQ K X Q) 0 0 n rt 5 10 [(0, vL p0), (2, vL p1)] [vL j1] D) h (fun j1 h => ?_) (fun h => ?_)
  · refine r_lload_n F 0 rfl rfl d10_part_10 ?_
    refine r_lload_n F 1 rfl rfl d10_part_11 ?_
    replace h := wpo_bind h
    refine r_callS0 F lm10_312 mf10_divisor rfl (fr := 0) (lo := 0) (As := [vL p0, vL p1]) (rest := [vL j1]) ⟨Nat.le_of_ble_eq_true rfl, Nat.le_of_ble_eq_true rfl⟩ rfl (Nat.le_of_ble_eq_true rfl) ⟨Nat.zero_le _, Nat.zero_le _⟩ d10_part_12 ?_
    refine ok10_divisor hn  (kL h (fun a1 h => ?_))
    obtain ⟨hx1, h⟩ := wpo_chk h
    refine r_ldiv F hx1 d10_part_15 ?_
    replace h := wpo_some h
    exact r_lret F h d10_part_16
  · refine r_if_ne F (tgt := 9) d10_part_2 (by decide) (fun hb => ?_) (fun hb => ?_)
    · replace h := wpo_neg h hb
      refine r_lload_n F 1 rfl rfl d10_part_9 ?_
      refine r_weak [0, 1] rfl ?_
      replace h := wpo_some h
      exact h
    · replace h := wpo_pos h hb
      refine r_lload_n F 0 rfl rfl d10_part_5 ?_
      refine r_goto F (tgt := 10) (by decide) d10_part_6 ?_
      refine r_weak [0, 1] rfl ?_
      replace h := wpo_some h
      exact h
theorem d10_share_0 : decode c10_share 0 = .ok (.aload_n 0, 1) := by decide +kernel
theorem d10_share_1 : decode c10_share 1 = .ok (.iload_n 1, 1) := by decide +kernel
theorem d10_share_2 : decode c10_share 2 = .ok (.invokevirtual 291, 3) := by decide +kernel
theorem d10_share_5 : decode c10_share 5 = .ok (.ifCond .eq 13, 3) := by decide +kernel
theorem d10_share_8 : decode c10_share 8 = .ok (.iload_n 2, 1) := by decide +kernel
theorem d10_share_9 : decode c10_share 9 = .ok (.i2l, 1) := by decide +kernel
theorem d10_share_10 : decode c10_share 10 = .ok (.lconst 0, 1) := by decide +kernel
theorem d10_share_11 : decode c10_share 11 = .ok (.lconst 1, 1) := by decide +kernel
theorem d10_share_12 : decode c10_share 12 = .ok (.invokestatic 109, 3) := by decide +kernel
theorem d10_share_15 : decode c10_share 15 = .ok (.ifCond .ne 6, 3) := by decide +kernel
theorem d10_share_18 : decode c10_share 18 = .ok (.bipush (-2), 2) := by decide +kernel
theorem d10_share_20 : decode c10_share 20 = .ok (.ireturn, 1) := by decide +kernel
theorem d10_share_21 : decode c10_share 21 = .ok (.aload_n 0, 1) := by decide +kernel
theorem d10_share_22 : decode c10_share 22 = .ok (.invokevirtual 303, 3) := by decide +kernel
theorem d10_share_25 : decode c10_share 25 = .ok (.ifCond .ne 7, 3) := by decide +kernel
theorem d10_share_28 : decode c10_share 28 = .ok (.iconst (-1), 1) := by decide +kernel
theorem d10_share_29 : decode c10_share 29 = .ok (.goto 19, 3) := by decide +kernel
theorem d10_share_32 : decode c10_share 32 = .ok (.aload_n 0, 1) := by decide +kernel
theorem d10_share_33 : decode c10_share 33 = .ok (.iload_n 1, 1) := by decide +kernel
theorem d10_share_34 : decode c10_share 34 = .ok (.invokevirtual 271, 3) := by decide +kernel
theorem d10_share_37 : decode c10_share 37 = .ok (.i2l, 1) := by decide +kernel
theorem d10_share_38 : decode c10_share 38 = .ok (.aload_n 0, 1) := by decide +kernel
theorem d10_share_39 : decode c10_share 39 = .ok (.invokevirtual 303, 3) := by decide +kernel
theorem d10_share_42 : decode c10_share 42 = .ok (.i2l, 1) := by decide +kernel
theorem d10_share_43 : decode c10_share 43 = .ok (.iload_n 2, 1) := by decide +kernel
theorem d10_share_44 : decode c10_share 44 = .ok (.invokestatic 316, 3) := by decide +kernel
theorem d10_share_47 : decode c10_share 47 = .ok (.l2i, 1) := by decide +kernel
theorem d10_share_48 : decode c10_share 48 = .ok (.ireturn, 1) := by decide +kernel
def f10_share (D : Mem) (p0 : Int) (p1 : Int) : Option (Int × Mem) :=
  Option.bind (f10_asksPerson D p0) fun (a1 : Int × Mem) =>
  if w32 a1.1 = 0 then
    some ((-2), a1.2)
  else
    Option.bind (f10_in a1.2 (w32 p1) 0 1) fun (a2 : Int) =>
    if w32 a2 = 0 then
      some ((-2), a1.2)
    else
      Option.bind (f10_bearsAll a1.2) fun (a3 : Int) =>
      if w32 a3 = 0 then
        some ((-1), a1.2)
      else
        Option.bind (f10_bearsOf a1.2 p0) fun (a4 : Int) =>
        Option.bind (f10_bearsAll a1.2) fun (a5 : Int) =>
        Option.bind (f10_part a1.2 (w32 a4) (w32 a5) p1) fun (a6 : Int) =>
        some (a6, a1.2)
set_option maxHeartbeats 4000000 in
theorem ok10_share {l : Launch} {X : XT} {n : Nat} {D : Mem} {Q : Option Value → Nat → Rho → Mem → Prop} (hn : 147 ≤ n) {p0 : Int} {p1 : Int}  (h : wpo (f10_share D p0 p1) (fun a => Q (some (vI a.1)) n rt a.2)) : MOK l y10_share c10_share 3 (some .int) { frames := 6, cells := 0, slots := 0, locals := 134 } 0 0 X [vR X 117, vI p0, vI p1] n rt D Q := by
  refine MOK_of 10 (by decide +kernel) rfl (lv := [(0, vR X 117), (1, vI p0), (2, vI p1)]) (Nat.le_of_ble_eq_true rfl) rfl (fun K hK F hnm => ?_)
  subst hK
  unfold f10_share at h
  refine r_aload_nR F 0 rfl rfl d10_share_0 ?_
  refine r_iload_n F 1 rfl rfl d10_share_1 ?_
  replace h := wpo_bind h
  refine r_callV0 F lm10_291 mf10_asksPerson (vc117 hn) rfl (fr := 5) (lo := 113) (As := [vI p0]) (rest := []) ⟨Nat.le_of_ble_eq_true rfl, Nat.le_of_ble_eq_true rfl⟩ rfl (Nat.le_of_ble_eq_true rfl) ⟨Nat.zero_le _, Nat.zero_le _⟩ d10_share_2 ?_
  refine ok10_asksPerson hn  (kIm h (fun a1 h => ?_))
  refine r_if_eq F (tgt := 18) d10_share_5 (by decide) (fun hb => ?_) (fun hb => ?_)
  · replace h := wpo_pos h hb
    refine r_bipush F (z := (-2)) (by decide) d10_share_18 ?_
    replace h := wpo_some h
    exact r_iret F h d10_share_20
  · replace h := wpo_neg h hb
    refine r_iload_n F 2 rfl rfl d10_share_8 ?_
    refine r_i2l F d10_share_9 ?_
    refine r_lconst F (x := 0) (by decide) d10_share_10 ?_
    refine r_lconst F (x := 1) (by decide) d10_share_11 ?_
    replace h := wpo_bind h
    refine r_callS0 F lm10_109 mf10_in rfl (fr := 0) (lo := 0) (As := [vL (w32 p1), vL 0, vL 1]) (rest := []) ⟨Nat.le_of_ble_eq_true rfl, Nat.le_of_ble_eq_true rfl⟩ rfl (Nat.le_of_ble_eq_true rfl) ⟨Nat.zero_le _, Nat.zero_le _⟩ d10_share_12 ?_
    refine ok10_in hn  (kI h (fun a2 h => ?_))
    refine r_if_ne F (tgt := 21) d10_share_15 (by decide) (fun hb => ?_) (fun hb => ?_)
    · replace h := wpo_neg h hb
      refine r_aload_nR F 0 rfl rfl d10_share_21 ?_
      replace h := wpo_bind h
      refine r_callV0 F lm10_303 mf10_bearsAll (vc117 hn) rfl (fr := 4) (lo := 87) (As := []) (rest := []) ⟨Nat.le_of_ble_eq_true rfl, Nat.le_of_ble_eq_true rfl⟩ rfl (Nat.le_of_ble_eq_true rfl) ⟨Nat.zero_le _, Nat.zero_le _⟩ d10_share_22 ?_
      refine ok10_bearsAll hn  (kI h (fun a3 h => ?_))
      refine r_if_ne F (tgt := 32) d10_share_25 (by decide) (fun hb => ?_) (fun hb => ?_)
      · replace h := wpo_neg h hb
        refine r_aload_nR F 0 rfl rfl d10_share_32 ?_
        refine r_iload_n F 1 rfl rfl d10_share_33 ?_
        replace h := wpo_bind h
        refine r_callV0 F lm10_271 mf10_bearsOf (vc117 hn) rfl (fr := 3) (lo := 66) (As := [vI p0]) (rest := []) ⟨Nat.le_of_ble_eq_true rfl, Nat.le_of_ble_eq_true rfl⟩ rfl (Nat.le_of_ble_eq_true rfl) ⟨Nat.zero_le _, Nat.zero_le _⟩ d10_share_34 ?_
        refine ok10_bearsOf hn  (kI h (fun a4 h => ?_))
        refine r_i2l F d10_share_37 ?_
        refine r_aload_nR F 0 rfl rfl d10_share_38 ?_
        replace h := wpo_bind h
        refine r_callV0 F lm10_303 mf10_bearsAll (vc117 hn) rfl (fr := 4) (lo := 87) (As := []) (rest := [vL (w32 a4)]) ⟨Nat.le_of_ble_eq_true rfl, Nat.le_of_ble_eq_true rfl⟩ rfl (Nat.le_of_ble_eq_true rfl) ⟨Nat.zero_le _, Nat.zero_le _⟩ d10_share_39 ?_
        refine ok10_bearsAll hn  (kI h (fun a5 h => ?_))
        refine r_i2l F d10_share_42 ?_
        refine r_iload_n F 2 rfl rfl d10_share_43 ?_
        replace h := wpo_bind h
        refine r_callS0 F lm10_316 mf10_part rfl (fr := 1) (lo := 29) (As := [vL (w32 a4), vL (w32 a5), vI p1]) (rest := []) ⟨Nat.le_of_ble_eq_true rfl, Nat.le_of_ble_eq_true rfl⟩ rfl (Nat.le_of_ble_eq_true rfl) ⟨Nat.zero_le _, Nat.zero_le _⟩ d10_share_44 ?_
        refine ok10_part hn  (kL h (fun a6 h => ?_))
        refine r_l2i F d10_share_47 ?_
        replace h := wpo_some h
        exact r_iret F h d10_share_48
      · replace h := wpo_pos h hb
        refine r_iconst F (z := (-1)) d10_share_28 ?_
        refine r_goto F (tgt := 48) (by decide) d10_share_29 ?_
        replace h := wpo_some h
        exact r_iret F h d10_share_48
    · replace h := wpo_pos h hb
      refine r_bipush F (z := (-2)) (by decide) d10_share_18 ?_
      replace h := wpo_some h
      exact r_iret F h d10_share_20
theorem d10_wide_0 : decode c10_wide 0 = .ok (.aload_n 0, 1) := by decide +kernel
theorem d10_wide_1 : decode c10_wide 1 = .ok (.invokevirtual 280, 3) := by decide +kernel
theorem d10_wide_4 : decode c10_wide 4 = .ok (.ifCond .ne 6, 3) := by decide +kernel
theorem d10_wide_7 : decode c10_wide 7 = .ok (.bipush (-2), 2) := by decide +kernel
theorem d10_wide_9 : decode c10_wide 9 = .ok (.ireturn, 1) := by decide +kernel
theorem d10_wide_10 : decode c10_wide 10 = .ok (.aload_n 0, 1) := by decide +kernel
theorem d10_wide_11 : decode c10_wide 11 = .ok (.iconst 1, 1) := by decide +kernel
theorem d10_wide_12 : decode c10_wide 12 = .ok (.putfield 228, 3) := by decide +kernel
theorem d10_wide_15 : decode c10_wide 15 = .ok (.aload_n 0, 1) := by decide +kernel
theorem d10_wide_16 : decode c10_wide 16 = .ok (.getfield 228, 3) := by decide +kernel
theorem d10_wide_19 : decode c10_wide 19 = .ok (.sipush 160, 3) := by decide +kernel
theorem d10_wide_22 : decode c10_wide 22 = .ok (.if_icmp .gt 32, 3) := by decide +kernel
theorem d10_wide_25 : decode c10_wide 25 = .ok (.aload_n 0, 1) := by decide +kernel
theorem d10_wide_26 : decode c10_wide 26 = .ok (.invokevirtual 277, 3) := by decide +kernel
theorem d10_wide_29 : decode c10_wide 29 = .ok (.aload_n 0, 1) := by decide +kernel
theorem d10_wide_30 : decode c10_wide 30 = .ok (.invokevirtual 303, 3) := by decide +kernel
theorem d10_wide_33 : decode c10_wide 33 = .ok (.ifCond .ne 8, 3) := by decide +kernel
theorem d10_wide_36 : decode c10_wide 36 = .ok (.aload_n 0, 1) := by decide +kernel
theorem d10_wide_37 : decode c10_wide 37 = .ok (.getfield 228, 3) := by decide +kernel
theorem d10_wide_40 : decode c10_wide 40 = .ok (.ireturn, 1) := by decide +kernel
theorem d10_wide_41 : decode c10_wide 41 = .ok (.aload_n 0, 1) := by decide +kernel
theorem d10_wide_42 : decode c10_wide 42 = .ok (.dup, 1) := by decide +kernel
theorem d10_wide_43 : decode c10_wide 43 = .ok (.getfield 228, 3) := by decide +kernel
theorem d10_wide_46 : decode c10_wide 46 = .ok (.iconst 1, 1) := by decide +kernel
theorem d10_wide_47 : decode c10_wide 47 = .ok (.iadd, 1) := by decide +kernel
theorem d10_wide_48 : decode c10_wide 48 = .ok (.putfield 228, 3) := by decide +kernel
theorem d10_wide_51 : decode c10_wide 51 = .ok (.goto (-36), 3) := by decide +kernel
theorem d10_wide_54 : decode c10_wide 54 = .ok (.iconst (-1), 1) := by decide +kernel
theorem d10_wide_55 : decode c10_wide 55 = .ok (.ireturn, 1) := by decide +kernel
def f10_wide (D : Mem) : Option (Int × Mem) :=
  Option.bind (f10_asksParish D) fun (a1 : Int × Mem) =>
  if w32 a1.1 = 0 then
    some ((-2), a1.2)
  else
    Option.bind (some (mset a1.2 117 19 1)) fun (D1 : Mem) =>
    Option.bind (@loop (Mem) ((Mem) ⊕ (Int × Mem)) (fun s1 =>
      if w32 160 < w32 (s1 117 19) then
        some (Sum.inr (Sum.inl s1))
      else
        Option.bind (f10_goNights s1) fun (a2 : Mem) =>
        Option.bind (f10_bearsAll a2) fun (a3 : Int) =>
        if w32 a3 = 0 then
          some (Sum.inr (Sum.inr ((a2 117 19), a2)))
        else
          some (Sum.inl (mset a2 117 19 ((a2 117 19) + 1)))
    ) FU D1) (fun z => Sum.elim (fun (b1 : Mem) =>
      some ((-1), b1)
    ) (fun rv => some rv) z)
set_option maxHeartbeats 4000000 in
theorem ok10_wide {l : Launch} {X : XT} {n : Nat} {D : Mem} {Q : Option Value → Nat → Rho → Mem → Prop} (hn : 147 ≤ n)  (h : wpo (f10_wide D) (fun a => Q (some (vI a.1)) n rt a.2)) : MOK l y10_wide c10_wide 1 (some .int) { frames := 5, cells := 0, slots := 0, locals := 113 } 0 0 X [vR X 117] n rt D Q := by
  refine MOK_of 10 (by decide +kernel) rfl (lv := [(0, vR X 117)]) (Nat.le_of_ble_eq_true rfl) rfl (fun K hK F hnm => ?_)
  subst hK
  unfold f10_wide at h
  refine r_aload_nR F 0 rfl rfl d10_wide_0 ?_
  replace h := wpo_bind h
  refine r_callV0 F lm10_280 mf10_asksParish (vc117 hn) rfl (fr := 4) (lo := 93) (As := []) (rest := []) ⟨Nat.le_of_ble_eq_true rfl, Nat.le_of_ble_eq_true rfl⟩ rfl (Nat.le_of_ble_eq_true rfl) ⟨Nat.zero_le _, Nat.zero_le _⟩ d10_wide_1 ?_
  refine ok10_asksParish hn  (kIm h (fun a1 h => ?_))
  refine r_if_ne F (tgt := 10) d10_wide_4 (by decide) (fun hb => ?_) (fun hb => ?_)
  · replace h := wpo_neg h hb
    refine r_aload_nR F 0 rfl rfl d10_wide_10 ?_
    refine r_iconst F (z := 1) d10_wide_11 ?_
    refine r_putI F lf10_228 rfl rfl (vc117 hn) d10_wide_12 ?_
    refine at_name (B := fun (D1 : Mem) => At K X (ZQ K X Q) 0 0 n rt 1 15 [(0, vR X 117)] [] D1) h (fun D1 h => ?_)
    refine at_loopj (A := fun (s1 : Mem) => At K X (ZQ K X Q) 0 0 n rt 1 15 [(0, vR X 117)] [] s1) (B := Sum.elim (fun (b1 : Mem) => At K X (ZQ K X Q) 0 0 n rt 1 54 [] [] b1) (fun rv => Q (some (vI rv.1)) n rt rv.2)) h (fun z h => ?_) (fun s1 h => ?_)
    · rcases z with b1 | rv
      · replace h := elim_l h
        refine el_li ?_
        refine r_iconst F (z := (-1)) d10_wide_54 ?_
        replace h := wpo_some h
        exact r_iret F h d10_wide_55
      · replace h := elim_r h
        replace h := wpo_some h
        exact el_ri h
    · refine r_aload_nR F 0 rfl rfl d10_wide_15 ?_
      refine r_getI F lf10_228 (vc117 hn) d10_wide_16 ?_
      refine r_sipush F (z := 160) (by decide) d10_wide_19 ?_
      refine r_icmp_gt F (tgt := 54) d10_wide_22 (by decide) (fun hb => ?_) (fun hb => ?_)
      · replace h := wpo_pos h hb
        refine r_weak [] rfl ?_
        replace h := wpo_inr h
        replace h := el_l h
        exact h
      · replace h := wpo_neg h hb
        refine r_aload_nR F 0 rfl rfl d10_wide_25 ?_
        replace h := wpo_bind h
        refine r_callV0 F lm10_277 mf10_goNights (vc117 hn) rfl (fr := 3) (lo := 72) (As := []) (rest := []) ⟨Nat.le_of_ble_eq_true rfl, Nat.le_of_ble_eq_true rfl⟩ rfl (Nat.le_of_ble_eq_true rfl) ⟨Nat.zero_le _, Nat.zero_le _⟩ d10_wide_26 ?_
        refine ok10_goNights hn  (kVm h (fun a2 h => ?_))
        refine r_aload_nR F 0 rfl rfl d10_wide_29 ?_
        replace h := wpo_bind h
        refine r_callV0 F lm10_303 mf10_bearsAll (vc117 hn) rfl (fr := 4) (lo := 87) (As := []) (rest := []) ⟨Nat.le_of_ble_eq_true rfl, Nat.le_of_ble_eq_true rfl⟩ rfl (Nat.le_of_ble_eq_true rfl) ⟨Nat.zero_le _, Nat.zero_le _⟩ d10_wide_30 ?_
        refine ok10_bearsAll hn  (kI h (fun a3 h => ?_))
        refine r_if_ne F (tgt := 41) d10_wide_33 (by decide) (fun hb => ?_) (fun hb => ?_)
        · replace h := wpo_neg h hb
          refine r_aload_nR F 0 rfl rfl d10_wide_41 ?_
          refine r_dup F rfl d10_wide_42 ?_
          refine r_getI F lf10_228 (vc117 hn) d10_wide_43 ?_
          refine r_iconst F (z := 1) d10_wide_46 ?_
          refine r_iadd F d10_wide_47 ?_
          refine r_putI F lf10_228 rfl rfl (vc117 hn) d10_wide_48 ?_
          refine r_goto F (tgt := 15) (by decide) d10_wide_51 ?_
          replace h := wpo_inl h
          exact h
        · replace h := wpo_pos h hb
          refine r_aload_nR F 0 rfl rfl d10_wide_36 ?_
          refine r_getI F lf10_228 (vc117 hn) d10_wide_37 ?_
          replace h := el_r (wpo_inr h)
          exact r_iret F h d10_wide_40
  · replace h := wpo_pos h hb
    refine r_bipush F (z := (-2)) (by decide) d10_wide_7 ?_
    replace h := wpo_some h
    exact r_iret F h d10_wide_9
theorem d10_allPersons_0 : decode c10_allPersons 0 = .ok (.iconst 1, 1) := by decide +kernel
theorem d10_allPersons_1 : decode c10_allPersons 1 = .ok (.aload_n 0, 1) := by decide +kernel
theorem d10_allPersons_2 : decode c10_allPersons 2 = .ok (.getfield 9, 3) := by decide +kernel
theorem d10_allPersons_5 : decode c10_allPersons 5 = .ok (.bipush 7, 2) := by decide +kernel
theorem d10_allPersons_7 : decode c10_allPersons 7 = .ok (.iaload, 1) := by decide +kernel
theorem d10_allPersons_8 : decode c10_allPersons 8 = .ok (.ishl, 1) := by decide +kernel
theorem d10_allPersons_9 : decode c10_allPersons 9 = .ok (.iconst 1, 1) := by decide +kernel
theorem d10_allPersons_10 : decode c10_allPersons 10 = .ok (.isub, 1) := by decide +kernel
theorem d10_allPersons_11 : decode c10_allPersons 11 = .ok (.ireturn, 1) := by decide +kernel
def f10_allPersons (D : Mem) : Option (Int) :=
  some ((shl32 1 (D 118 7)) - 1)
set_option maxHeartbeats 4000000 in
theorem ok10_allPersons {l : Launch} {X : XT} {n : Nat} {D : Mem} {Q : Option Value → Nat → Rho → Mem → Prop} (hn : 147 ≤ n)  (h : wpo (f10_allPersons D) (fun a => Q (some (vI a)) n rt D)) : MOK l y10_allPersons c10_allPersons 1 (some .int) { frames := 0, cells := 0, slots := 0, locals := 0 } 0 0 X [vR X 117] n rt D Q := by
  refine MOK_of 10 (by decide +kernel) rfl (lv := [(0, vR X 117)]) (Nat.le_of_ble_eq_true rfl) rfl (fun K hK F hnm => ?_)
  subst hK
  unfold f10_allPersons at h
  refine r_iconst F (z := 1) d10_allPersons_0 ?_
  refine r_aload_nR F 0 rfl rfl d10_allPersons_1 ?_
  refine r_getR F (z := 118) lf10_9 (vc117 hn) z117_1 d10_allPersons_2 ?_
  refine r_bipush F (z := 7) (by decide) d10_allPersons_5 ?_
  refine r_ialdC F (j := 7) (vc118 hn) (by decide) rfl d10_allPersons_7 ?_
  refine r_ishl F d10_allPersons_8 ?_
  refine r_iconst F (z := 1) d10_allPersons_9 ?_
  refine r_isub F d10_allPersons_10 ?_
  replace h := wpo_some h
  exact r_iret F h d10_allPersons_11
theorem d10_laySums_0 : decode c10_laySums 0 = .ok (.iconst 0, 1) := by decide +kernel
theorem d10_laySums_1 : decode c10_laySums 1 = .ok (.istore_n 1, 1) := by decide +kernel
theorem d10_laySums_2 : decode c10_laySums 2 = .ok (.iload_n 1, 1) := by decide +kernel
theorem d10_laySums_3 : decode c10_laySums 3 = .ok (.aload_n 0, 1) := by decide +kernel
theorem d10_laySums_4 : decode c10_laySums 4 = .ok (.invokevirtual 320, 3) := by decide +kernel
theorem d10_laySums_7 : decode c10_laySums 7 = .ok (.if_icmp .gt 83, 3) := by decide +kernel
theorem d10_laySums_10 : decode c10_laySums 10 = .ok (.aload_n 0, 1) := by decide +kernel
theorem d10_laySums_11 : decode c10_laySums 11 = .ok (.getfield 61, 3) := by decide +kernel
theorem d10_laySums_14 : decode c10_laySums 14 = .ok (.iload_n 1, 1) := by decide +kernel
theorem d10_laySums_15 : decode c10_laySums 15 = .ok (.iconst 0, 1) := by decide +kernel
theorem d10_laySums_16 : decode c10_laySums 16 = .ok (.iastore, 1) := by decide +kernel
theorem d10_laySums_17 : decode c10_laySums 17 = .ok (.aload_n 0, 1) := by decide +kernel
theorem d10_laySums_18 : decode c10_laySums 18 = .ok (.getfield 64, 3) := by decide +kernel
theorem d10_laySums_21 : decode c10_laySums 21 = .ok (.iload_n 1, 1) := by decide +kernel
theorem d10_laySums_22 : decode c10_laySums 22 = .ok (.iconst 0, 1) := by decide +kernel
theorem d10_laySums_23 : decode c10_laySums 23 = .ok (.iastore, 1) := by decide +kernel
theorem d10_laySums_24 : decode c10_laySums 24 = .ok (.iconst 0, 1) := by decide +kernel
theorem d10_laySums_25 : decode c10_laySums 25 = .ok (.istore_n 2, 1) := by decide +kernel
theorem d10_laySums_26 : decode c10_laySums 26 = .ok (.iload_n 2, 1) := by decide +kernel
theorem d10_laySums_27 : decode c10_laySums 27 = .ok (.aload_n 0, 1) := by decide +kernel
theorem d10_laySums_28 : decode c10_laySums 28 = .ok (.getfield 9, 3) := by decide +kernel
theorem d10_laySums_31 : decode c10_laySums 31 = .ok (.bipush 7, 2) := by decide +kernel
theorem d10_laySums_33 : decode c10_laySums 33 = .ok (.iaload, 1) := by decide +kernel
theorem d10_laySums_34 : decode c10_laySums 34 = .ok (.if_icmp .ge 50, 3) := by decide +kernel
theorem d10_laySums_37 : decode c10_laySums 37 = .ok (.aload_n 0, 1) := by decide +kernel
theorem d10_laySums_38 : decode c10_laySums 38 = .ok (.getfield 61, 3) := by decide +kernel
theorem d10_laySums_41 : decode c10_laySums 41 = .ok (.iload_n 1, 1) := by decide +kernel
theorem d10_laySums_42 : decode c10_laySums 42 = .ok (.dup2, 1) := by decide +kernel
theorem d10_laySums_43 : decode c10_laySums 43 = .ok (.iaload, 1) := by decide +kernel
theorem d10_laySums_44 : decode c10_laySums 44 = .ok (.iload_n 1, 1) := by decide +kernel
theorem d10_laySums_45 : decode c10_laySums 45 = .ok (.iload_n 2, 1) := by decide +kernel
theorem d10_laySums_46 : decode c10_laySums 46 = .ok (.invokestatic 240, 3) := by decide +kernel
theorem d10_laySums_49 : decode c10_laySums 49 = .ok (.aload_n 0, 1) := by decide +kernel
theorem d10_laySums_50 : decode c10_laySums 50 = .ok (.getfield 34, 3) := by decide +kernel
theorem d10_laySums_53 : decode c10_laySums 53 = .ok (.iload_n 2, 1) := by decide +kernel
theorem d10_laySums_54 : decode c10_laySums 54 = .ok (.iaload, 1) := by decide +kernel
theorem d10_laySums_55 : decode c10_laySums 55 = .ok (.imul, 1) := by decide +kernel
theorem d10_laySums_56 : decode c10_laySums 56 = .ok (.iadd, 1) := by decide +kernel
theorem d10_laySums_57 : decode c10_laySums 57 = .ok (.iastore, 1) := by decide +kernel
theorem d10_laySums_58 : decode c10_laySums 58 = .ok (.aload_n 0, 1) := by decide +kernel
theorem d10_laySums_59 : decode c10_laySums 59 = .ok (.getfield 64, 3) := by decide +kernel
theorem d10_laySums_62 : decode c10_laySums 62 = .ok (.iload_n 1, 1) := by decide +kernel
theorem d10_laySums_63 : decode c10_laySums 63 = .ok (.dup2, 1) := by decide +kernel
theorem d10_laySums_64 : decode c10_laySums 64 = .ok (.iaload, 1) := by decide +kernel
theorem d10_laySums_65 : decode c10_laySums 65 = .ok (.iload_n 1, 1) := by decide +kernel
theorem d10_laySums_66 : decode c10_laySums 66 = .ok (.iload_n 2, 1) := by decide +kernel
theorem d10_laySums_67 : decode c10_laySums 67 = .ok (.invokestatic 240, 3) := by decide +kernel
theorem d10_laySums_70 : decode c10_laySums 70 = .ok (.aload_n 0, 1) := by decide +kernel
theorem d10_laySums_71 : decode c10_laySums 71 = .ok (.iload_n 2, 1) := by decide +kernel
theorem d10_laySums_72 : decode c10_laySums 72 = .ok (.invokevirtual 265, 3) := by decide +kernel
theorem d10_laySums_75 : decode c10_laySums 75 = .ok (.imul, 1) := by decide +kernel
theorem d10_laySums_76 : decode c10_laySums 76 = .ok (.iadd, 1) := by decide +kernel
theorem d10_laySums_77 : decode c10_laySums 77 = .ok (.iastore, 1) := by decide +kernel
theorem d10_laySums_78 : decode c10_laySums 78 = .ok (.iinc 2 1, 3) := by decide +kernel
theorem d10_laySums_81 : decode c10_laySums 81 = .ok (.goto (-55), 3) := by decide +kernel
theorem d10_laySums_84 : decode c10_laySums 84 = .ok (.iinc 1 1, 3) := by decide +kernel
theorem d10_laySums_87 : decode c10_laySums 87 = .ok (.goto (-85), 3) := by decide +kernel
theorem d10_laySums_90 : decode c10_laySums 90 = .ok (.return_, 1) := by decide +kernel
def f10_laySums (D : Mem) : Option (Mem) :=
  Option.bind (@loop (Int × Mem) (Mem) (fun s1 =>
    Option.bind (f10_allPersons s1.2) fun (a1 : Int) =>
    if w32 a1 < w32 s1.1 then
      some (Sum.inr s1.2)
    else
      if 0 ≤ s1.1 ∧ s1.1 < 256 then
        Option.bind (some (mset s1.2 133 s1.1.toNat 0)) fun (D1 : Mem) =>
        Option.bind (some (mset D1 134 s1.1.toNat 0)) fun (D2 : Mem) =>
        Option.bind (@loop (Int × Mem) (Mem) (fun s2 =>
          if w32 s2.1 < w32 (s2.2 118 7) then
            Option.bind (f10_bit s2.2 s1.1 s2.1) fun (a2 : Int) =>
            if 0 ≤ s2.1 ∧ s2.1 < 8 then
              Option.bind (some (mset s2.2 133 s1.1.toNat ((s2.2 133 s1.1.toNat) + (a2 * (s2.2 124 s2.1.toNat))))) fun (D3 : Mem) =>
              Option.bind (f10_bit D3 s1.1 s2.1) fun (a3 : Int) =>
              Option.bind (f10_costOf D3 s2.1) fun (a4 : Int) =>
              some (Sum.inl ((s2.1 + 1), (mset D3 134 s1.1.toNat ((D3 134 s1.1.toNat) + (a3 * a4)))))
            else none
          else
            some (Sum.inr s2.2)
        ) FU (0, D2)) fun (b2 : Mem) =>
        some (Sum.inl ((s1.1 + 1), b2))
      else none
  ) FU (0, D)) fun (b1 : Mem) =>
  some b1
set_option maxHeartbeats 4000000 in
theorem ok10_laySums {l : Launch} {X : XT} {n : Nat} {D : Mem} {Q : Option Value → Nat → Rho → Mem → Prop} (hn : 147 ≤ n)  (h : wpo (f10_laySums D) (fun a => Q none n rt a)) : MOK l y10_laySums c10_laySums 3 (none) { frames := 2, cells := 0, slots := 0, locals := 43 } 0 0 X [vR X 117] n rt D Q := by
  refine MOK_of 10 (by decide +kernel) rfl (lv := [(0, vR X 117)]) (Nat.le_of_ble_eq_true rfl) rfl (fun K hK F hnm => ?_)
  subst hK
  unfold f10_laySums at h
  refine r_iconst F (z := 0) d10_laySums_0 ?_
  refine r_istore_n F (lv' := [(1, vI 0), (0, vR X 117)]) rfl (Nat.le_of_ble_eq_true rfl) rfl d10_laySums_1 ?_
  refine r_weak [1, 0] rfl ?_
  refine at_loopj (A := fun (s1 : Int × Mem) => At K X (ZQ K X Q) 0 0 n rt 3 2 [(0, vR X 117), (1, vI s1.1)] [] s1.2) (B := fun (b1 : Mem) => At K X (ZQ K X Q) 0 0 n rt 3 90 [] [] b1) h (fun b1 h => ?_) (fun s1 h => ?_)
  · replace h := wpo_some h
    exact r_vret F h d10_laySums_90
  · refine r_iload_n F 1 rfl rfl d10_laySums_2 ?_
    refine r_aload_nR F 0 rfl rfl d10_laySums_3 ?_
    replace h := wpo_bind h
    refine r_callV0 F lm10_320 mf10_allPersons (vc117 hn) rfl (fr := 0) (lo := 0) (As := []) (rest := [vI s1.1]) ⟨Nat.le_of_ble_eq_true rfl, Nat.le_of_ble_eq_true rfl⟩ rfl (Nat.le_of_ble_eq_true rfl) ⟨Nat.zero_le _, Nat.zero_le _⟩ d10_laySums_4 ?_
    refine ok10_allPersons hn  (kI h (fun a1 h => ?_))
    refine r_icmp_gt F (tgt := 90) d10_laySums_7 (by decide) (fun hb => ?_) (fun hb => ?_)
    · replace h := wpo_pos h hb
      refine r_weak [] rfl ?_
      replace h := wpo_inr h
      exact h
    · replace h := wpo_neg h hb
      refine r_aload_nR F 0 rfl rfl d10_laySums_10 ?_
      refine r_getR F (z := 133) lf10_61 (vc117 hn) z117_29 d10_laySums_11 ?_
      refine r_iload_n F 1 rfl rfl d10_laySums_14 ?_
      refine r_iconst F (z := 0) d10_laySums_15 ?_
      obtain ⟨hx1, h⟩ := wpo_chk h
      refine r_iast F (vc133 hn) hx1 d10_laySums_16 ?_
      refine r_aload_nR F 0 rfl rfl d10_laySums_17 ?_
      refine r_getR F (z := 134) lf10_64 (vc117 hn) z117_30 d10_laySums_18 ?_
      refine r_iload_n F 1 rfl rfl d10_laySums_21 ?_
      refine r_iconst F (z := 0) d10_laySums_22 ?_
      refine at_name (B := fun (D1 : Mem) => At K X (ZQ K X Q) 0 0 n rt 3 23 [(0, vR X 117), (1, vI s1.1)] [vI 0, vI s1.1, vR X 134] D1) h (fun D1 h => ?_)
      refine r_iast F (vc134 hn) hx1 d10_laySums_23 ?_
      refine r_iconst F (z := 0) d10_laySums_24 ?_
      refine r_istore_n F (lv' := [(2, vI 0), (0, vR X 117), (1, vI s1.1)]) rfl (Nat.le_of_ble_eq_true rfl) rfl d10_laySums_25 ?_
      refine at_name (B := fun (D2 : Mem) => At K X (ZQ K X Q) 0 0 n rt 3 26 [(2, vI 0), (0, vR X 117), (1, vI s1.1)] [] D2) h (fun D2 h => ?_)
      refine r_weak [1, 2, 0] rfl ?_
      refine at_loopj (A := fun (s2 : Int × Mem) => At K X (ZQ K X Q) 0 0 n rt 3 26 [(0, vR X 117), (1, vI s1.1), (2, vI s2.1)] [] s2.2) (B := fun (b2 : Mem) => At K X (ZQ K X Q) 0 0 n rt 3 84 [(0, vR X 117), (1, vI s1.1)] [] b2) h (fun b2 h => ?_) (fun s2 h => ?_)
      · refine r_iinc F 1 (lv' := [(1, vI (s1.1 + 1)), (0, vR X 117)]) rfl (Nat.le_of_ble_eq_true rfl) rfl d10_laySums_84 ?_
        refine r_goto F (tgt := 2) (by decide) d10_laySums_87 ?_
        refine r_weak [1, 0] rfl ?_
        replace h := wpo_inl h
        exact h
      · refine r_iload_n F 2 rfl rfl d10_laySums_26 ?_
        refine r_aload_nR F 0 rfl rfl d10_laySums_27 ?_
        refine r_getR F (z := 118) lf10_9 (vc117 hn) z117_1 d10_laySums_28 ?_
        refine r_bipush F (z := 7) (by decide) d10_laySums_31 ?_
        refine r_ialdC F (j := 7) (vc118 hn) (by decide) rfl d10_laySums_33 ?_
        refine r_icmp_ge F (tgt := 84) d10_laySums_34 (by decide) (fun hb => ?_) (fun hb => ?_)
        · replace h := wpo_neg h hb
          refine r_weak [0, 1] rfl ?_
          replace h := wpo_inr h
          exact h
        · replace h := wpo_pos h hb
          refine r_aload_nR F 0 rfl rfl d10_laySums_37 ?_
          refine r_getR F (z := 133) lf10_61 (vc117 hn) z117_29 d10_laySums_38 ?_
          refine r_iload_n F 1 rfl rfl d10_laySums_41 ?_
          refine r_dup2 F rfl rfl d10_laySums_42 ?_
          refine r_iald F (vc133 hn) hx1 d10_laySums_43 ?_
          refine r_iload_n F 1 rfl rfl d10_laySums_44 ?_
          refine r_iload_n F 2 rfl rfl d10_laySums_45 ?_
          replace h := wpo_bind h
          refine r_callS0 F lm10_240 mf10_bit rfl (fr := 0) (lo := 0) (As := [vI s1.1, vI s2.1]) (rest := [vI (s2.2 133 s1.1.toNat), vI s1.1, vR X 133]) ⟨Nat.le_of_ble_eq_true rfl, Nat.le_of_ble_eq_true rfl⟩ rfl (Nat.le_of_ble_eq_true rfl) ⟨Nat.zero_le _, Nat.zero_le _⟩ d10_laySums_46 ?_
          refine ok10_bit hn  (kI h (fun a2 h => ?_))
          refine r_aload_nR F 0 rfl rfl d10_laySums_49 ?_
          refine r_getR F (z := 124) lf10_34 (vc117 hn) z117_15 d10_laySums_50 ?_
          refine r_iload_n F 2 rfl rfl d10_laySums_53 ?_
          obtain ⟨hx2, h⟩ := wpo_chk h
          refine r_iald F (vc124 hn) hx2 d10_laySums_54 ?_
          refine r_imul F d10_laySums_55 ?_
          refine r_iadd F d10_laySums_56 ?_
          refine r_iast F (vc133 hn) hx1 d10_laySums_57 ?_
          refine r_aload_nR F 0 rfl rfl d10_laySums_58 ?_
          refine r_getR F (z := 134) lf10_64 (vc117 hn) z117_30 d10_laySums_59 ?_
          refine r_iload_n F 1 rfl rfl d10_laySums_62 ?_
          refine r_dup2 F rfl rfl d10_laySums_63 ?_
          refine at_name (B := fun (D3 : Mem) => At K X (ZQ K X Q) 0 0 n rt 3 64 [(0, vR X 117), (1, vI s1.1), (2, vI s2.1)] [vI s1.1, vR X 134, vI s1.1, vR X 134] D3) h (fun D3 h => ?_)
          refine r_iald F (vc134 hn) hx1 d10_laySums_64 ?_
          refine r_iload_n F 1 rfl rfl d10_laySums_65 ?_
          refine r_iload_n F 2 rfl rfl d10_laySums_66 ?_
          replace h := wpo_bind h
          refine r_callS0 F lm10_240 mf10_bit rfl (fr := 0) (lo := 0) (As := [vI s1.1, vI s2.1]) (rest := [vI (D3 134 s1.1.toNat), vI s1.1, vR X 134]) ⟨Nat.le_of_ble_eq_true rfl, Nat.le_of_ble_eq_true rfl⟩ rfl (Nat.le_of_ble_eq_true rfl) ⟨Nat.zero_le _, Nat.zero_le _⟩ d10_laySums_67 ?_
          refine ok10_bit hn  (kI h (fun a3 h => ?_))
          refine r_aload_nR F 0 rfl rfl d10_laySums_70 ?_
          refine r_iload_n F 2 rfl rfl d10_laySums_71 ?_
          replace h := wpo_bind h
          refine r_callV0 F lm10_265 mf10_costOf (vc117 hn) rfl (fr := 1) (lo := 22) (As := [vI s2.1]) (rest := [vI a3, vI (D3 134 s1.1.toNat), vI s1.1, vR X 134]) ⟨Nat.le_of_ble_eq_true rfl, Nat.le_of_ble_eq_true rfl⟩ rfl (Nat.le_of_ble_eq_true rfl) ⟨Nat.zero_le _, Nat.zero_le _⟩ d10_laySums_72 ?_
          refine ok10_costOf hn  (kI h (fun a4 h => ?_))
          refine r_imul F d10_laySums_75 ?_
          refine r_iadd F d10_laySums_76 ?_
          refine r_iast F (vc134 hn) hx1 d10_laySums_77 ?_
          refine r_iinc F 2 (lv' := [(2, vI (s2.1 + 1)), (0, vR X 117), (1, vI s1.1)]) rfl (Nat.le_of_ble_eq_true rfl) rfl d10_laySums_78 ?_
          refine r_goto F (tgt := 26) (by decide) d10_laySums_81 ?_
          refine r_weak [1, 2, 0] rfl ?_
          replace h := wpo_inl h
          exact h
theorem d10_mild_0 : decode c10_mild 0 = .ok (.aload_n 0, 1) := by decide +kernel
theorem d10_mild_1 : decode c10_mild 1 = .ok (.invokevirtual 274, 3) := by decide +kernel
theorem d10_mild_4 : decode c10_mild 4 = .ok (.aload_n 0, 1) := by decide +kernel
theorem d10_mild_5 : decode c10_mild 5 = .ok (.invokevirtual 113, 3) := by decide +kernel
theorem d10_mild_8 : decode c10_mild 8 = .ok (.ifCond .eq 15, 3) := by decide +kernel
theorem d10_mild_11 : decode c10_mild 11 = .ok (.iload_n 1, 1) := by decide +kernel
theorem d10_mild_12 : decode c10_mild 12 = .ok (.i2l, 1) := by decide +kernel
theorem d10_mild_13 : decode c10_mild 13 = .ok (.lconst 0, 1) := by decide +kernel
theorem d10_mild_14 : decode c10_mild 14 = .ok (.ldc2_w 323, 3) := by decide +kernel
theorem d10_mild_17 : decode c10_mild 17 = .ok (.invokestatic 109, 3) := by decide +kernel
theorem d10_mild_20 : decode c10_mild 20 = .ok (.ifCond .ne 6, 3) := by decide +kernel
theorem d10_mild_23 : decode c10_mild 23 = .ok (.bipush (-2), 2) := by decide +kernel
theorem d10_mild_25 : decode c10_mild 25 = .ok (.ireturn, 1) := by decide +kernel
theorem d10_mild_26 : decode c10_mild 26 = .ok (.aload_n 0, 1) := by decide +kernel
theorem d10_mild_27 : decode c10_mild 27 = .ok (.invokevirtual 325, 3) := by decide +kernel
theorem d10_mild_30 : decode c10_mild 30 = .ok (.iconst 0, 1) := by decide +kernel
theorem d10_mild_31 : decode c10_mild 31 = .ok (.istore_n 2, 1) := by decide +kernel
theorem d10_mild_32 : decode c10_mild 32 = .ok (.iconst 0, 1) := by decide +kernel
theorem d10_mild_33 : decode c10_mild 33 = .ok (.istore_n 3, 1) := by decide +kernel
theorem d10_mild_34 : decode c10_mild 34 = .ok (.iload_n 3, 1) := by decide +kernel
theorem d10_mild_35 : decode c10_mild 35 = .ok (.aload_n 0, 1) := by decide +kernel
theorem d10_mild_36 : decode c10_mild 36 = .ok (.invokevirtual 320, 3) := by decide +kernel
theorem d10_mild_39 : decode c10_mild 39 = .ok (.if_icmp .gt 28, 3) := by decide +kernel
theorem d10_mild_42 : decode c10_mild 42 = .ok (.aload_n 0, 1) := by decide +kernel
theorem d10_mild_43 : decode c10_mild 43 = .ok (.getfield 61, 3) := by decide +kernel
theorem d10_mild_46 : decode c10_mild 46 = .ok (.iload_n 3, 1) := by decide +kernel
theorem d10_mild_47 : decode c10_mild 47 = .ok (.iaload, 1) := by decide +kernel
theorem d10_mild_48 : decode c10_mild 48 = .ok (.iload_n 1, 1) := by decide +kernel
theorem d10_mild_49 : decode c10_mild 49 = .ok (.if_icmp .gt 12, 3) := by decide +kernel
theorem d10_mild_52 : decode c10_mild 52 = .ok (.iload_n 2, 1) := by decide +kernel
theorem d10_mild_53 : decode c10_mild 53 = .ok (.iload_n 3, 1) := by decide +kernel
theorem d10_mild_54 : decode c10_mild 54 = .ok (.invokestatic 328, 3) := by decide +kernel
theorem d10_mild_57 : decode c10_mild 57 = .ok (.invokestatic 262, 3) := by decide +kernel
theorem d10_mild_60 : decode c10_mild 60 = .ok (.istore_n 2, 1) := by decide +kernel
theorem d10_mild_61 : decode c10_mild 61 = .ok (.iinc 3 1, 3) := by decide +kernel
theorem d10_mild_64 : decode c10_mild 64 = .ok (.goto (-30), 3) := by decide +kernel
theorem d10_mild_67 : decode c10_mild 67 = .ok (.iload_n 2, 1) := by decide +kernel
theorem d10_mild_68 : decode c10_mild 68 = .ok (.ireturn, 1) := by decide +kernel
def f10_mild (D : Mem) (p0 : Int) : Option (Int × Mem) :=
  Option.bind (f10_asItIs D) fun (a1 : Mem) =>
  Option.bind (f10_isParish a1) fun (a2 : Int) =>
  if w32 a2 = 0 then
    some ((-2), a1)
  else
    Option.bind (f10_in a1 (w32 p0) 0 160) fun (a3 : Int) =>
    if w32 a3 = 0 then
      some ((-2), a1)
    else
      Option.bind (f10_laySums a1) fun (a4 : Mem) =>
      Option.bind (@loop (Int × Int) (Int) (fun s1 =>
        Option.bind (f10_allPersons a4) fun (a5 : Int) =>
        if w32 a5 < w32 s1.2 then
          some (Sum.inr s1.1)
        else
          if 0 ≤ s1.2 ∧ s1.2 < 256 then
            Option.bind (
              if w32 p0 < w32 (a4 133 s1.2.toNat) then
                some s1.1
              else
                Option.bind (f10_bits a4 s1.2) fun (a6 : Int) =>
                some (max32 s1.1 a6)
            ) fun (j1 : Int) =>
            some (Sum.inl (j1, (s1.2 + 1)))
          else none
      ) FU (0, 0)) fun (b1 : Int) =>
      some (b1, a4)
set_option maxHeartbeats 4000000 in
theorem ok10_mild {l : Launch} {X : XT} {n : Nat} {D : Mem} {Q : Option Value → Nat → Rho → Mem → Prop} (hn : 147 ≤ n) {p0 : Int}  (h : wpo (f10_mild D p0) (fun a => Q (some (vI a.1)) n rt a.2)) : MOK l y10_mild c10_mild 4 (some .int) { frames := 3, cells := 0, slots := 0, locals := 65 } 0 0 X [vR X 117, vI p0] n rt D Q := by
  refine MOK_of 10 (by decide +kernel) rfl (lv := [(0, vR X 117), (1, vI p0)]) (Nat.le_of_ble_eq_true rfl) rfl (fun K hK F hnm => ?_)
  subst hK
  unfold f10_mild at h
  refine r_aload_nR F 0 rfl rfl d10_mild_0 ?_
  replace h := wpo_bind h
  refine r_callV0 F lm10_274 mf10_asItIs (vc117 hn) rfl (fr := 1) (lo := 22) (As := []) (rest := []) ⟨Nat.le_of_ble_eq_true rfl, Nat.le_of_ble_eq_true rfl⟩ rfl (Nat.le_of_ble_eq_true rfl) ⟨Nat.zero_le _, Nat.zero_le _⟩ d10_mild_1 ?_
  refine ok10_asItIs hn  (kVm h (fun a1 h => ?_))
  refine r_aload_nR F 0 rfl rfl d10_mild_4 ?_
  replace h := wpo_bind h
  refine r_callV0 F lm10_113 mf10_isParish (vc117 hn) rfl (fr := 0) (lo := 0) (As := []) (rest := []) ⟨Nat.le_of_ble_eq_true rfl, Nat.le_of_ble_eq_true rfl⟩ rfl (Nat.le_of_ble_eq_true rfl) ⟨Nat.zero_le _, Nat.zero_le _⟩ d10_mild_5 ?_
  refine ok10_isParish hn  (kI h (fun a2 h => ?_))
  refine r_if_eq F (tgt := 23) d10_mild_8 (by decide) (fun hb => ?_) (fun hb => ?_)
  · replace h := wpo_pos h hb
    refine r_bipush F (z := (-2)) (by decide) d10_mild_23 ?_
    replace h := wpo_some h
    exact r_iret F h d10_mild_25
  · replace h := wpo_neg h hb
    refine r_iload_n F 1 rfl rfl d10_mild_11 ?_
    refine r_i2l F d10_mild_12 ?_
    refine r_lconst F (x := 0) (by decide) d10_mild_13 ?_
    refine r_ldc2 F (z := 160) lc10_323 d10_mild_14 ?_
    replace h := wpo_bind h
    refine r_callS0 F lm10_109 mf10_in rfl (fr := 0) (lo := 0) (As := [vL (w32 p0), vL 0, vL 160]) (rest := []) ⟨Nat.le_of_ble_eq_true rfl, Nat.le_of_ble_eq_true rfl⟩ rfl (Nat.le_of_ble_eq_true rfl) ⟨Nat.zero_le _, Nat.zero_le _⟩ d10_mild_17 ?_
    refine ok10_in hn  (kI h (fun a3 h => ?_))
    refine r_if_ne F (tgt := 26) d10_mild_20 (by decide) (fun hb => ?_) (fun hb => ?_)
    · replace h := wpo_neg h hb
      refine r_aload_nR F 0 rfl rfl d10_mild_26 ?_
      replace h := wpo_bind h
      refine r_callV0 F lm10_325 mf10_laySums (vc117 hn) rfl (fr := 2) (lo := 43) (As := []) (rest := []) ⟨Nat.le_of_ble_eq_true rfl, Nat.le_of_ble_eq_true rfl⟩ rfl (Nat.le_of_ble_eq_true rfl) ⟨Nat.zero_le _, Nat.zero_le _⟩ d10_mild_27 ?_
      refine ok10_laySums hn  (kVm h (fun a4 h => ?_))
      refine r_iconst F (z := 0) d10_mild_30 ?_
      refine r_istore_n F (lv' := [(2, vI 0), (0, vR X 117), (1, vI p0)]) rfl (Nat.le_of_ble_eq_true rfl) rfl d10_mild_31 ?_
      refine r_iconst F (z := 0) d10_mild_32 ?_
      refine r_istore_n F (lv' := [(3, vI 0), (2, vI 0), (0, vR X 117), (1, vI p0)]) rfl (Nat.le_of_ble_eq_true rfl) rfl d10_mild_33 ?_
      refine r_weak [2, 3, 1, 0] rfl ?_
      refine at_loopj (A := fun (s1 : Int × Int) => At K X (ZQ K X Q) 0 0 n rt 4 34 [(0, vR X 117), (1, vI p0), (2, vI s1.1), (3, vI s1.2)] [] a4) (B := fun (b1 : Int) => At K X (ZQ K X Q) 0 0 n rt 4 67 [(2, vI b1)] [] a4) h (fun b1 h => ?_) (fun s1 h => ?_)
      · refine r_iload_n F 0 rfl rfl d10_mild_67 ?_
        replace h := wpo_some h
        exact r_iret F h d10_mild_68
      · refine r_iload_n F 3 rfl rfl d10_mild_34 ?_
        refine r_aload_nR F 0 rfl rfl d10_mild_35 ?_
        replace h := wpo_bind h
        refine r_callV0 F lm10_320 mf10_allPersons (vc117 hn) rfl (fr := 0) (lo := 0) (As := []) (rest := [vI s1.2]) ⟨Nat.le_of_ble_eq_true rfl, Nat.le_of_ble_eq_true rfl⟩ rfl (Nat.le_of_ble_eq_true rfl) ⟨Nat.zero_le _, Nat.zero_le _⟩ d10_mild_36 ?_
        refine ok10_allPersons hn  (kI h (fun a5 h => ?_))
        refine r_icmp_gt F (tgt := 67) d10_mild_39 (by decide) (fun hb => ?_) (fun hb => ?_)
        · replace h := wpo_pos h hb
          refine r_weak [2] rfl ?_
          replace h := wpo_inr h
          exact h
        · replace h := wpo_neg h hb
          refine r_aload_nR F 0 rfl rfl d10_mild_42 ?_
          refine r_getR F (z := 133) lf10_61 (vc117 hn) z117_29 d10_mild_43 ?_
          refine r_iload_n F 3 rfl rfl d10_mild_46 ?_
          obtain ⟨hx1, h⟩ := wpo_chk h
          refine r_iald F (vc133 hn) hx1 d10_mild_47 ?_
          refine r_iload_n F 1 rfl rfl d10_mild_48 ?_
          refine at_join (B := fun (j1 : Int) => At K X (ZQ K X Q) 0 0 n rt 4 61 [(0, vR X 117), (1, vI p0), (2, vI j1), (3, vI s1.2)] [] a4) h (fun j1 h => ?_) (fun h => ?_)
          · refine r_iinc F 3 (lv' := [(3, vI (s1.2 + 1)), (0, vR X 117), (1, vI p0), (2, vI j1)]) rfl (Nat.le_of_ble_eq_true rfl) rfl d10_mild_61 ?_
            refine r_goto F (tgt := 34) (by decide) d10_mild_64 ?_
            refine r_weak [1, 2, 3, 0] rfl ?_
            replace h := wpo_inl h
            exact h
          · refine r_icmp_gt F (tgt := 61) d10_mild_49 (by decide) (fun hb => ?_) (fun hb => ?_)
            · replace h := wpo_pos h hb
              replace h := wpo_some h
              exact h
            · replace h := wpo_neg h hb
              refine r_iload_n F 2 rfl rfl d10_mild_52 ?_
              refine r_iload_n F 3 rfl rfl d10_mild_53 ?_
              replace h := wpo_bind h
              refine r_callS0 F lm10_328 mf10_bits rfl (fr := 0) (lo := 0) (As := [vI s1.2]) (rest := [vI s1.1]) ⟨Nat.le_of_ble_eq_true rfl, Nat.le_of_ble_eq_true rfl⟩ rfl (Nat.le_of_ble_eq_true rfl) ⟨Nat.zero_le _, Nat.zero_le _⟩ d10_mild_54 ?_
              refine ok10_bits hn  (kI h (fun a6 h => ?_))
              refine r_max F lm10_262 wm1 wm0 wm2 ⟨Nat.le_of_ble_eq_true rfl, Nat.le_of_ble_eq_true rfl, Nat.le_of_ble_eq_true rfl, Nat.le_of_ble_eq_true rfl⟩ d10_mild_57 ?_
              refine r_istore_n F (lv' := [(2, vI (max32 s1.1 a6)), (0, vR X 117), (1, vI p0), (3, vI s1.2)]) rfl (Nat.le_of_ble_eq_true rfl) rfl d10_mild_60 ?_
              refine r_weak [1, 2, 0, 3] rfl ?_
              replace h := wpo_some h
              exact h
    · replace h := wpo_pos h hb
      refine r_bipush F (z := (-2)) (by decide) d10_mild_23 ?_
      replace h := wpo_some h
      exact r_iret F h d10_mild_25
theorem d10_state_0 : decode c10_state 0 = .ok (.sipush 256, 3) := by decide +kernel
theorem d10_state_3 : decode c10_state 3 = .ok (.iload_n 0, 1) := by decide +kernel
theorem d10_state_4 : decode c10_state 4 = .ok (.imul, 1) := by decide +kernel
theorem d10_state_5 : decode c10_state 5 = .ok (.iload_n 1, 1) := by decide +kernel
theorem d10_state_6 : decode c10_state 6 = .ok (.iadd, 1) := by decide +kernel
theorem d10_state_7 : decode c10_state 7 = .ok (.ireturn, 1) := by decide +kernel
def f10_state (D : Mem) (p0 : Int) (p1 : Int) : Option (Int) :=
  some ((256 * p0) + p1)
set_option maxHeartbeats 4000000 in
theorem ok10_state {l : Launch} {X : XT} {n : Nat} {D : Mem} {Q : Option Value → Nat → Rho → Mem → Prop} (hn : 147 ≤ n) {p0 : Int} {p1 : Int}  (h : wpo (f10_state D p0 p1) (fun a => Q (some (vI a)) n rt D)) : MOK l y10_state c10_state 2 (some .int) { frames := 0, cells := 0, slots := 0, locals := 0 } 0 0 X [vI p0, vI p1] n rt D Q := by
  refine MOK_of 10 (by decide +kernel) rfl (lv := [(0, vI p0), (1, vI p1)]) (Nat.le_of_ble_eq_true rfl) rfl (fun K hK F hnm => ?_)
  subst hK
  unfold f10_state at h
  refine r_sipush F (z := 256) (by decide) d10_state_0 ?_
  refine r_iload_n F 0 rfl rfl d10_state_3 ?_
  refine r_imul F d10_state_4 ?_
  refine r_iload_n F 1 rfl rfl d10_state_5 ?_
  refine r_iadd F d10_state_6 ?_
  replace h := wpo_some h
  exact r_iret F h d10_state_7
theorem d10_layWho_0 : decode c10_layWho 0 = .ok (.aload_n 0, 1) := by decide +kernel
theorem d10_layWho_1 : decode c10_layWho 1 = .ok (.iconst 0, 1) := by decide +kernel
theorem d10_layWho_2 : decode c10_layWho 2 = .ok (.putfield 331, 3) := by decide +kernel
theorem d10_layWho_5 : decode c10_layWho 5 = .ok (.aload_n 0, 1) := by decide +kernel
theorem d10_layWho_6 : decode c10_layWho 6 = .ok (.iconst 0, 1) := by decide +kernel
theorem d10_layWho_7 : decode c10_layWho 7 = .ok (.putfield 334, 3) := by decide +kernel
theorem d10_layWho_10 : decode c10_layWho 10 = .ok (.aload_n 0, 1) := by decide +kernel
theorem d10_layWho_11 : decode c10_layWho 11 = .ok (.iconst 0, 1) := by decide +kernel
theorem d10_layWho_12 : decode c10_layWho 12 = .ok (.putfield 337, 3) := by decide +kernel
theorem d10_layWho_15 : decode c10_layWho 15 = .ok (.iconst 0, 1) := by decide +kernel
theorem d10_layWho_16 : decode c10_layWho 16 = .ok (.istore_n 2, 1) := by decide +kernel
theorem d10_layWho_17 : decode c10_layWho 17 = .ok (.iload_n 2, 1) := by decide +kernel
theorem d10_layWho_18 : decode c10_layWho 18 = .ok (.aload_n 0, 1) := by decide +kernel
theorem d10_layWho_19 : decode c10_layWho 19 = .ok (.getfield 9, 3) := by decide +kernel
theorem d10_layWho_22 : decode c10_layWho 22 = .ok (.bipush 7, 2) := by decide +kernel
theorem d10_layWho_24 : decode c10_layWho 24 = .ok (.iaload, 1) := by decide +kernel
theorem d10_layWho_25 : decode c10_layWho 25 = .ok (.if_icmp .ge 108, 3) := by decide +kernel
theorem d10_layWho_28 : decode c10_layWho 28 = .ok (.aload_n 0, 1) := by decide +kernel
theorem d10_layWho_29 : decode c10_layWho 29 = .ok (.dup, 1) := by decide +kernel
theorem d10_layWho_30 : decode c10_layWho 30 = .ok (.getfield 331, 3) := by decide +kernel
theorem d10_layWho_33 : decode c10_layWho 33 = .ok (.aload_n 0, 1) := by decide +kernel
theorem d10_layWho_34 : decode c10_layWho 34 = .ok (.getfield 37, 3) := by decide +kernel
theorem d10_layWho_37 : decode c10_layWho 37 = .ok (.iload_n 2, 1) := by decide +kernel
theorem d10_layWho_38 : decode c10_layWho 38 = .ok (.iaload, 1) := by decide +kernel
theorem d10_layWho_39 : decode c10_layWho 39 = .ok (.iload_n 1, 1) := by decide +kernel
theorem d10_layWho_40 : decode c10_layWho 40 = .ok (.if_icmp .gt 9, 3) := by decide +kernel
theorem d10_layWho_43 : decode c10_layWho 43 = .ok (.iconst 1, 1) := by decide +kernel
theorem d10_layWho_44 : decode c10_layWho 44 = .ok (.iload_n 2, 1) := by decide +kernel
theorem d10_layWho_45 : decode c10_layWho 45 = .ok (.ishl, 1) := by decide +kernel
theorem d10_layWho_46 : decode c10_layWho 46 = .ok (.goto 4, 3) := by decide +kernel
theorem d10_layWho_49 : decode c10_layWho 49 = .ok (.iconst 0, 1) := by decide +kernel
theorem d10_layWho_50 : decode c10_layWho 50 = .ok (.ior, 1) := by decide +kernel
theorem d10_layWho_51 : decode c10_layWho 51 = .ok (.putfield 331, 3) := by decide +kernel
theorem d10_layWho_54 : decode c10_layWho 54 = .ok (.aload_n 0, 1) := by decide +kernel
theorem d10_layWho_55 : decode c10_layWho 55 = .ok (.dup, 1) := by decide +kernel
theorem d10_layWho_56 : decode c10_layWho 56 = .ok (.getfield 334, 3) := by decide +kernel
theorem d10_layWho_59 : decode c10_layWho 59 = .ok (.aload_n 0, 1) := by decide +kernel
theorem d10_layWho_60 : decode c10_layWho 60 = .ok (.getfield 37, 3) := by decide +kernel
theorem d10_layWho_63 : decode c10_layWho 63 = .ok (.iload_n 2, 1) := by decide +kernel
theorem d10_layWho_64 : decode c10_layWho 64 = .ok (.iaload, 1) := by decide +kernel
theorem d10_layWho_65 : decode c10_layWho 65 = .ok (.iload_n 1, 1) := by decide +kernel
theorem d10_layWho_66 : decode c10_layWho 66 = .ok (.if_icmp .gt 30, 3) := by decide +kernel
theorem d10_layWho_69 : decode c10_layWho 69 = .ok (.aload_n 0, 1) := by decide +kernel
theorem d10_layWho_70 : decode c10_layWho 70 = .ok (.getfield 74, 3) := by decide +kernel
theorem d10_layWho_73 : decode c10_layWho 73 = .ok (.iload_n 2, 1) := by decide +kernel
theorem d10_layWho_74 : decode c10_layWho 74 = .ok (.iaload, 1) := by decide +kernel
theorem d10_layWho_75 : decode c10_layWho 75 = .ok (.bipush (-2), 2) := by decide +kernel
theorem d10_layWho_77 : decode c10_layWho 77 = .ok (.if_icmp .eq 13, 3) := by decide +kernel
theorem d10_layWho_80 : decode c10_layWho 80 = .ok (.aload_n 0, 1) := by decide +kernel
theorem d10_layWho_81 : decode c10_layWho 81 = .ok (.getfield 74, 3) := by decide +kernel
theorem d10_layWho_84 : decode c10_layWho 84 = .ok (.iload_n 2, 1) := by decide +kernel
theorem d10_layWho_85 : decode c10_layWho 85 = .ok (.iaload, 1) := by decide +kernel
theorem d10_layWho_86 : decode c10_layWho 86 = .ok (.iload_n 1, 1) := by decide +kernel
theorem d10_layWho_87 : decode c10_layWho 87 = .ok (.if_icmp .ne 9, 3) := by decide +kernel
theorem d10_layWho_90 : decode c10_layWho 90 = .ok (.iconst 1, 1) := by decide +kernel
theorem d10_layWho_91 : decode c10_layWho 91 = .ok (.iload_n 2, 1) := by decide +kernel
theorem d10_layWho_92 : decode c10_layWho 92 = .ok (.ishl, 1) := by decide +kernel
theorem d10_layWho_93 : decode c10_layWho 93 = .ok (.goto 4, 3) := by decide +kernel
theorem d10_layWho_96 : decode c10_layWho 96 = .ok (.iconst 0, 1) := by decide +kernel
theorem d10_layWho_97 : decode c10_layWho 97 = .ok (.ior, 1) := by decide +kernel
theorem d10_layWho_98 : decode c10_layWho 98 = .ok (.putfield 334, 3) := by decide +kernel
theorem d10_layWho_101 : decode c10_layWho 101 = .ok (.aload_n 0, 1) := by decide +kernel
theorem d10_layWho_102 : decode c10_layWho 102 = .ok (.dup, 1) := by decide +kernel
theorem d10_layWho_103 : decode c10_layWho 103 = .ok (.getfield 337, 3) := by decide +kernel
theorem d10_layWho_106 : decode c10_layWho 106 = .ok (.aload_n 0, 1) := by decide +kernel
theorem d10_layWho_107 : decode c10_layWho 107 = .ok (.getfield 74, 3) := by decide +kernel
theorem d10_layWho_110 : decode c10_layWho 110 = .ok (.iload_n 2, 1) := by decide +kernel
theorem d10_layWho_111 : decode c10_layWho 111 = .ok (.iaload, 1) := by decide +kernel
theorem d10_layWho_112 : decode c10_layWho 112 = .ok (.iload_n 1, 1) := by decide +kernel
theorem d10_layWho_113 : decode c10_layWho 113 = .ok (.if_icmp .ne 9, 3) := by decide +kernel
theorem d10_layWho_116 : decode c10_layWho 116 = .ok (.iconst 1, 1) := by decide +kernel
theorem d10_layWho_117 : decode c10_layWho 117 = .ok (.iload_n 2, 1) := by decide +kernel
theorem d10_layWho_118 : decode c10_layWho 118 = .ok (.ishl, 1) := by decide +kernel
theorem d10_layWho_119 : decode c10_layWho 119 = .ok (.goto 4, 3) := by decide +kernel
theorem d10_layWho_122 : decode c10_layWho 122 = .ok (.iconst 0, 1) := by decide +kernel
theorem d10_layWho_123 : decode c10_layWho 123 = .ok (.ior, 1) := by decide +kernel
theorem d10_layWho_124 : decode c10_layWho 124 = .ok (.putfield 337, 3) := by decide +kernel
theorem d10_layWho_127 : decode c10_layWho 127 = .ok (.iinc 2 1, 3) := by decide +kernel
theorem d10_layWho_130 : decode c10_layWho 130 = .ok (.goto (-113), 3) := by decide +kernel
theorem d10_layWho_133 : decode c10_layWho 133 = .ok (.return_, 1) := by decide +kernel
def f10_layWho (D : Mem) (p0 : Int) : Option (Mem) :=
  Option.bind (some (mset D 117 34 0)) fun (D1 : Mem) =>
  Option.bind (some (mset D1 117 35 0)) fun (D2 : Mem) =>
  Option.bind (some (mset D2 117 36 0)) fun (D3 : Mem) =>
  Option.bind (@loop (Int × Mem) (Mem) (fun s1 =>
    if w32 s1.1 < w32 (s1.2 118 7) then
      if 0 ≤ s1.1 ∧ s1.1 < 8 then
        Option.bind (
          if w32 p0 < w32 (s1.2 125 s1.1.toNat) then
            some 0
          else
            some (shl32 1 s1.1)
        ) fun (j1 : Int) =>
        Option.bind (some (mset s1.2 117 34 (or32 (s1.2 117 34) j1))) fun (D4 : Mem) =>
        Option.bind (
          if w32 p0 < w32 (D4 125 s1.1.toNat) then
            some 0
          else
            if w32 (D4 137 s1.1.toNat) = w32 (-2) then
              some (shl32 1 s1.1)
            else
              if w32 (D4 137 s1.1.toNat) = w32 p0 then
                some (shl32 1 s1.1)
              else
                some 0
        ) fun (j2 : Int) =>
        Option.bind (some (mset D4 117 35 (or32 (D4 117 35) j2))) fun (D5 : Mem) =>
        Option.bind (
          if w32 (D5 137 s1.1.toNat) = w32 p0 then
            some (shl32 1 s1.1)
          else
            some 0
        ) fun (j3 : Int) =>
        some (Sum.inl ((s1.1 + 1), (mset D5 117 36 (or32 (D5 117 36) j3))))
      else none
    else
      some (Sum.inr s1.2)
  ) FU (0, D3)) fun (b1 : Mem) =>
  some b1
set_option maxHeartbeats 4000000 in
theorem ok10_layWho {l : Launch} {X : XT} {n : Nat} {D : Mem} {Q : Option Value → Nat → Rho → Mem → Prop} (hn : 147 ≤ n) {p0 : Int}  (h : wpo (f10_layWho D p0) (fun a => Q none n rt a)) : MOK l y10_layWho c10_layWho 3 (none) { frames := 0, cells := 0, slots := 0, locals := 0 } 0 0 X [vR X 117, vI p0] n rt D Q := by
  refine MOK_of 10 (by decide +kernel) rfl (lv := [(0, vR X 117), (1, vI p0)]) (Nat.le_of_ble_eq_true rfl) rfl (fun K hK F hnm => ?_)
  subst hK
  unfold f10_layWho at h
  refine r_aload_nR F 0 rfl rfl d10_layWho_0 ?_
  refine r_iconst F (z := 0) d10_layWho_1 ?_
  refine r_putI F lf10_331 rfl rfl (vc117 hn) d10_layWho_2 ?_
  refine r_aload_nR F 0 rfl rfl d10_layWho_5 ?_
  refine r_iconst F (z := 0) d10_layWho_6 ?_
  refine at_name (B := fun (D1 : Mem) => At K X (ZQ K X Q) 0 0 n rt 3 7 [(0, vR X 117), (1, vI p0)] [vI 0, vR X 117] D1) h (fun D1 h => ?_)
  refine r_putI F lf10_334 rfl rfl (vc117 hn) d10_layWho_7 ?_
  refine r_aload_nR F 0 rfl rfl d10_layWho_10 ?_
  refine r_iconst F (z := 0) d10_layWho_11 ?_
  refine at_name (B := fun (D2 : Mem) => At K X (ZQ K X Q) 0 0 n rt 3 12 [(0, vR X 117), (1, vI p0)] [vI 0, vR X 117] D2) h (fun D2 h => ?_)
  refine r_putI F lf10_337 rfl rfl (vc117 hn) d10_layWho_12 ?_
  refine r_iconst F (z := 0) d10_layWho_15 ?_
  refine r_istore_n F (lv' := [(2, vI 0), (0, vR X 117), (1, vI p0)]) rfl (Nat.le_of_ble_eq_true rfl) rfl d10_layWho_16 ?_
  refine at_name (B := fun (D3 : Mem) => At K X (ZQ K X Q) 0 0 n rt 3 17 [(2, vI 0), (0, vR X 117), (1, vI p0)] [] D3) h (fun D3 h => ?_)
  refine r_weak [1, 2, 0] rfl ?_
  refine at_loopj (A := fun (s1 : Int × Mem) => At K X (ZQ K X Q) 0 0 n rt 3 17 [(0, vR X 117), (1, vI p0), (2, vI s1.1)] [] s1.2) (B := fun (b1 : Mem) => At K X (ZQ K X Q) 0 0 n rt 3 133 [] [] b1) h (fun b1 h => ?_) (fun s1 h => ?_)
  · replace h := wpo_some h
    exact r_vret F h d10_layWho_133
  · refine r_iload_n F 2 rfl rfl d10_layWho_17 ?_
    refine r_aload_nR F 0 rfl rfl d10_layWho_18 ?_
    refine r_getR F (z := 118) lf10_9 (vc117 hn) z117_1 d10_layWho_19 ?_
    refine r_bipush F (z := 7) (by decide) d10_layWho_22 ?_
    refine r_ialdC F (j := 7) (vc118 hn) (by decide) rfl d10_layWho_24 ?_
    refine r_icmp_ge F (tgt := 133) d10_layWho_25 (by decide) (fun hb => ?_) (fun hb => ?_)
    · replace h := wpo_neg h hb
      refine r_weak [] rfl ?_
      replace h := wpo_inr h
      exact h
    · replace h := wpo_pos h hb
      refine r_aload_nR F 0 rfl rfl d10_layWho_28 ?_
      refine r_dup F rfl d10_layWho_29 ?_
      refine r_getI F lf10_331 (vc117 hn) d10_layWho_30 ?_
      refine r_aload_nR F 0 rfl rfl d10_layWho_33 ?_
      refine r_getR F (z := 125) lf10_37 (vc117 hn) z117_16 d10_layWho_34 ?_
      refine r_iload_n F 2 rfl rfl d10_layWho_37 ?_
      obtain ⟨hx1, h⟩ := wpo_chk h
      refine r_iald F (vc125 hn) hx1 d10_layWho_38 ?_
      refine r_iload_n F 1 rfl rfl d10_layWho_39 ?_
      refine at_join (B := fun (j1 : Int) => At K X (ZQ K X Q) 0 0 n rt 3 50 [(0, vR X 117), (1, vI p0), (2, vI s1.1)] [vI j1, vI (s1.2 117 34), vR X 117] s1.2) h (fun j1 h => ?_) (fun h => ?_)
      · refine r_ior F d10_layWho_50 ?_
        refine r_putI F lf10_331 rfl rfl (vc117 hn) d10_layWho_51 ?_
        refine r_aload_nR F 0 rfl rfl d10_layWho_54 ?_
        refine r_dup F rfl d10_layWho_55 ?_
        refine at_name (B := fun (D4 : Mem) => At K X (ZQ K X Q) 0 0 n rt 3 56 [(0, vR X 117), (1, vI p0), (2, vI s1.1)] [vR X 117, vR X 117] D4) h (fun D4 h => ?_)
        refine r_getI F lf10_334 (vc117 hn) d10_layWho_56 ?_
        refine r_aload_nR F 0 rfl rfl d10_layWho_59 ?_
        refine r_getR F (z := 125) lf10_37 (vc117 hn) z117_16 d10_layWho_60 ?_
        refine r_iload_n F 2 rfl rfl d10_layWho_63 ?_
        refine r_iald F (vc125 hn) hx1 d10_layWho_64 ?_
        refine r_iload_n F 1 rfl rfl d10_layWho_65 ?_
        refine at_join (B := fun (j2 : Int) => At K X (ZQ K X Q) 0 0 n rt 3 97 [(0, vR X 117), (1, vI p0), (2, vI s1.1)] [vI j2, vI (D4 117 35), vR X 117] D4) h (fun j2 h => ?_) (fun h => ?_)
        · refine r_ior F d10_layWho_97 ?_
          refine r_putI F lf10_334 rfl rfl (vc117 hn) d10_layWho_98 ?_
          refine r_aload_nR F 0 rfl rfl d10_layWho_101 ?_
          refine r_dup F rfl d10_layWho_102 ?_
          refine at_name (B := fun (D5 : Mem) => At K X (ZQ K X Q) 0 0 n rt 3 103 [(0, vR X 117), (1, vI p0), (2, vI s1.1)] [vR X 117, vR X 117] D5) h (fun D5 h => ?_)
          refine r_getI F lf10_337 (vc117 hn) d10_layWho_103 ?_
          refine r_aload_nR F 0 rfl rfl d10_layWho_106 ?_
          refine r_getR F (z := 137) lf10_74 (vc117 hn) z117_33 d10_layWho_107 ?_
          refine r_iload_n F 2 rfl rfl d10_layWho_110 ?_
          refine r_iald F (vc137 hn) hx1 d10_layWho_111 ?_
          refine r_iload_n F 1 rfl rfl d10_layWho_112 ?_
          refine at_join (B := fun (j3 : Int) => At K X (ZQ K X Q) 0 0 n rt 3 123 [(0, vR X 117), (1, vI p0), (2, vI s1.1)] [vI j3, vI (D5 117 36), vR X 117] D5) h (fun j3 h => ?_) (fun h => ?_)
          · refine r_ior F d10_layWho_123 ?_
            refine r_putI F lf10_337 rfl rfl (vc117 hn) d10_layWho_124 ?_
            refine r_iinc F 2 (lv' := [(2, vI (s1.1 + 1)), (0, vR X 117), (1, vI p0)]) rfl (Nat.le_of_ble_eq_true rfl) rfl d10_layWho_127 ?_
            refine r_goto F (tgt := 17) (by decide) d10_layWho_130 ?_
            refine r_weak [1, 2, 0] rfl ?_
            replace h := wpo_inl h
            exact h
          · refine r_icmp_ne F (tgt := 122) d10_layWho_113 (by decide) (fun hb => ?_) (fun hb => ?_)
            · replace h := wpo_neg h hb
              refine r_iconst F (z := 0) d10_layWho_122 ?_
              replace h := wpo_some h
              exact h
            · replace h := wpo_pos h hb
              refine r_iconst F (z := 1) d10_layWho_116 ?_
              refine r_iload_n F 2 rfl rfl d10_layWho_117 ?_
              refine r_ishl F d10_layWho_118 ?_
              refine r_goto F (tgt := 123) (by decide) d10_layWho_119 ?_
              replace h := wpo_some h
              exact h
        · refine r_icmp_gt F (tgt := 96) d10_layWho_66 (by decide) (fun hb => ?_) (fun hb => ?_)
          · replace h := wpo_pos h hb
            refine r_iconst F (z := 0) d10_layWho_96 ?_
            replace h := wpo_some h
            exact h
          · replace h := wpo_neg h hb
            refine r_aload_nR F 0 rfl rfl d10_layWho_69 ?_
            refine r_getR F (z := 137) lf10_74 (vc117 hn) z117_33 d10_layWho_70 ?_
            refine r_iload_n F 2 rfl rfl d10_layWho_73 ?_
            refine r_iald F (vc137 hn) hx1 d10_layWho_74 ?_
            refine r_bipush F (z := (-2)) (by decide) d10_layWho_75 ?_
            refine r_icmp_eq F (tgt := 90) d10_layWho_77 (by decide) (fun hb => ?_) (fun hb => ?_)
            · replace h := wpo_pos h hb
              refine r_iconst F (z := 1) d10_layWho_90 ?_
              refine r_iload_n F 2 rfl rfl d10_layWho_91 ?_
              refine r_ishl F d10_layWho_92 ?_
              refine r_goto F (tgt := 97) (by decide) d10_layWho_93 ?_
              replace h := wpo_some h
              exact h
            · replace h := wpo_neg h hb
              refine r_aload_nR F 0 rfl rfl d10_layWho_80 ?_
              refine r_getR F (z := 137) lf10_74 (vc117 hn) z117_33 d10_layWho_81 ?_
              refine r_iload_n F 2 rfl rfl d10_layWho_84 ?_
              refine r_iald F (vc137 hn) hx1 d10_layWho_85 ?_
              refine r_iload_n F 1 rfl rfl d10_layWho_86 ?_
              refine r_icmp_ne F (tgt := 96) d10_layWho_87 (by decide) (fun hb => ?_) (fun hb => ?_)
              · replace h := wpo_neg h hb
                refine r_iconst F (z := 0) d10_layWho_96 ?_
                replace h := wpo_some h
                exact h
              · replace h := wpo_pos h hb
                refine r_iconst F (z := 1) d10_layWho_90 ?_
                refine r_iload_n F 2 rfl rfl d10_layWho_91 ?_
                refine r_ishl F d10_layWho_92 ?_
                refine r_goto F (tgt := 97) (by decide) d10_layWho_93 ?_
                replace h := wpo_some h
                exact h
      · refine r_icmp_gt F (tgt := 49) d10_layWho_40 (by decide) (fun hb => ?_) (fun hb => ?_)
        · replace h := wpo_pos h hb
          refine r_iconst F (z := 0) d10_layWho_49 ?_
          replace h := wpo_some h
          exact h
        · replace h := wpo_neg h hb
          refine r_iconst F (z := 1) d10_layWho_43 ?_
          refine r_iload_n F 2 rfl rfl d10_layWho_44 ?_
          refine r_ishl F d10_layWho_45 ?_
          refine r_goto F (tgt := 50) (by decide) d10_layWho_46 ?_
          replace h := wpo_some h
          exact h
theorem d10_layState_0 : decode c10_layState 0 = .ok (.aload_n 0, 1) := by decide +kernel
theorem d10_layState_1 : decode c10_layState 1 = .ok (.getfield 334, 3) := by decide +kernel
theorem d10_layState_4 : decode c10_layState 4 = .ok (.iload_n 2, 1) := by decide +kernel
theorem d10_layState_5 : decode c10_layState 5 = .ok (.iconst (-1), 1) := by decide +kernel
theorem d10_layState_6 : decode c10_layState 6 = .ok (.ixor, 1) := by decide +kernel
theorem d10_layState_7 : decode c10_layState 7 = .ok (.iand, 1) := by decide +kernel
theorem d10_layState_8 : decode c10_layState 8 = .ok (.istore_n 3, 1) := by decide +kernel
theorem d10_layState_9 : decode c10_layState 9 = .ok (.ldc_w 306, 3) := by decide +kernel
theorem d10_layState_12 : decode c10_layState 12 = .ok (.istore 4, 2) := by decide +kernel
theorem d10_layState_14 : decode c10_layState 14 = .ok (.lconst 0, 1) := by decide +kernel
theorem d10_layState_15 : decode c10_layState 15 = .ok (.lstore 5, 2) := by decide +kernel
theorem d10_layState_17 : decode c10_layState 17 = .ok (.iload_n 3, 1) := by decide +kernel
theorem d10_layState_18 : decode c10_layState 18 = .ok (.istore 7, 2) := by decide +kernel
theorem d10_layState_20 : decode c10_layState 20 = .ok (.iconst 1, 1) := by decide +kernel
theorem d10_layState_21 : decode c10_layState 21 = .ok (.istore 8, 2) := by decide +kernel
theorem d10_layState_23 : decode c10_layState 23 = .ok (.iload 8, 2) := by decide +kernel
theorem d10_layState_25 : decode c10_layState 25 = .ok (.ifCond .eq 182, 3) := by decide +kernel
theorem d10_layState_28 : decode c10_layState 28 = .ok (.iload_n 1, 1) := by decide +kernel
theorem d10_layState_29 : decode c10_layState 29 = .ok (.iconst 1, 1) := by decide +kernel
theorem d10_layState_30 : decode c10_layState 30 = .ok (.iadd, 1) := by decide +kernel
theorem d10_layState_31 : decode c10_layState 31 = .ok (.iload_n 2, 1) := by decide +kernel
theorem d10_layState_32 : decode c10_layState 32 = .ok (.iload 7, 2) := by decide +kernel
theorem d10_layState_34 : decode c10_layState 34 = .ok (.ior, 1) := by decide +kernel
theorem d10_layState_35 : decode c10_layState 35 = .ok (.invokestatic 340, 3) := by decide +kernel
theorem d10_layState_38 : decode c10_layState 38 = .ok (.istore 9, 2) := by decide +kernel
theorem d10_layState_40 : decode c10_layState 40 = .ok (.aload_n 0, 1) := by decide +kernel
theorem d10_layState_41 : decode c10_layState 41 = .ok (.getfield 337, 3) := by decide +kernel
theorem d10_layState_44 : decode c10_layState 44 = .ok (.iload 7, 2) := by decide +kernel
theorem d10_layState_46 : decode c10_layState 46 = .ok (.iconst (-1), 1) := by decide +kernel
theorem d10_layState_47 : decode c10_layState 47 = .ok (.ixor, 1) := by decide +kernel
theorem d10_layState_48 : decode c10_layState 48 = .ok (.iand, 1) := by decide +kernel
theorem d10_layState_49 : decode c10_layState 49 = .ok (.ifCond .ne 59, 3) := by decide +kernel
theorem d10_layState_52 : decode c10_layState 52 = .ok (.aload_n 0, 1) := by decide +kernel
theorem d10_layState_53 : decode c10_layState 53 = .ok (.getfield 61, 3) := by decide +kernel
theorem d10_layState_56 : decode c10_layState 56 = .ok (.iload 7, 2) := by decide +kernel
theorem d10_layState_58 : decode c10_layState 58 = .ok (.iaload, 1) := by decide +kernel
theorem d10_layState_59 : decode c10_layState 59 = .ok (.aload_n 0, 1) := by decide +kernel
theorem d10_layState_60 : decode c10_layState 60 = .ok (.getfield 228, 3) := by decide +kernel
theorem d10_layState_63 : decode c10_layState 63 = .ok (.if_icmp .gt 45, 3) := by decide +kernel
theorem d10_layState_66 : decode c10_layState 66 = .ok (.aload_n 0, 1) := by decide +kernel
theorem d10_layState_67 : decode c10_layState 67 = .ok (.getfield 61, 3) := by decide +kernel
theorem d10_layState_70 : decode c10_layState 70 = .ok (.iload_n 2, 1) := by decide +kernel
theorem d10_layState_71 : decode c10_layState 71 = .ok (.iload 7, 2) := by decide +kernel
theorem d10_layState_73 : decode c10_layState 73 = .ok (.ior, 1) := by decide +kernel
theorem d10_layState_74 : decode c10_layState 74 = .ok (.iaload, 1) := by decide +kernel
theorem d10_layState_75 : decode c10_layState 75 = .ok (.aload_n 0, 1) := by decide +kernel
theorem d10_layState_76 : decode c10_layState 76 = .ok (.getfield 9, 3) := by decide +kernel
theorem d10_layState_79 : decode c10_layState 79 = .ok (.iconst 2, 1) := by decide +kernel
theorem d10_layState_80 : decode c10_layState 80 = .ok (.iaload, 1) := by decide +kernel
theorem d10_layState_81 : decode c10_layState 81 = .ok (.aload_n 0, 1) := by decide +kernel
theorem d10_layState_82 : decode c10_layState 82 = .ok (.getfield 9, 3) := by decide +kernel
theorem d10_layState_85 : decode c10_layState 85 = .ok (.iconst 3, 1) := by decide +kernel
theorem d10_layState_86 : decode c10_layState 86 = .ok (.iaload, 1) := by decide +kernel
theorem d10_layState_87 : decode c10_layState 87 = .ok (.imul, 1) := by decide +kernel
theorem d10_layState_88 : decode c10_layState 88 = .ok (.if_icmp .gt 20, 3) := by decide +kernel
theorem d10_layState_91 : decode c10_layState 91 = .ok (.aload_n 0, 1) := by decide +kernel
theorem d10_layState_92 : decode c10_layState 92 = .ok (.getfield 67, 3) := by decide +kernel
theorem d10_layState_95 : decode c10_layState 95 = .ok (.iload 9, 2) := by decide +kernel
theorem d10_layState_97 : decode c10_layState 97 = .ok (.iaload, 1) := by decide +kernel
theorem d10_layState_98 : decode c10_layState 98 = .ok (.ldc_w 306, 3) := by decide +kernel
theorem d10_layState_101 : decode c10_layState 101 = .ok (.if_icmp .ge 7, 3) := by decide +kernel
theorem d10_layState_104 : decode c10_layState 104 = .ok (.iconst 1, 1) := by decide +kernel
theorem d10_layState_105 : decode c10_layState 105 = .ok (.goto 4, 3) := by decide +kernel
theorem d10_layState_108 : decode c10_layState 108 = .ok (.iconst 0, 1) := by decide +kernel
theorem d10_layState_109 : decode c10_layState 109 = .ok (.istore 10, 2) := by decide +kernel
theorem d10_layState_111 : decode c10_layState 111 = .ok (.iload 10, 2) := by decide +kernel
theorem d10_layState_113 : decode c10_layState 113 = .ok (.ifCond .eq 71, 3) := by decide +kernel
theorem d10_layState_116 : decode c10_layState 116 = .ok (.aload_n 0, 1) := by decide +kernel
theorem d10_layState_117 : decode c10_layState 117 = .ok (.getfield 64, 3) := by decide +kernel
theorem d10_layState_120 : decode c10_layState 120 = .ok (.aload_n 0, 1) := by decide +kernel
theorem d10_layState_121 : decode c10_layState 121 = .ok (.getfield 331, 3) := by decide +kernel
theorem d10_layState_124 : decode c10_layState 124 = .ok (.iload_n 2, 1) := by decide +kernel
theorem d10_layState_125 : decode c10_layState 125 = .ok (.iload 7, 2) := by decide +kernel
theorem d10_layState_127 : decode c10_layState 127 = .ok (.ior, 1) := by decide +kernel
theorem d10_layState_128 : decode c10_layState 128 = .ok (.iconst (-1), 1) := by decide +kernel
theorem d10_layState_129 : decode c10_layState 129 = .ok (.ixor, 1) := by decide +kernel
theorem d10_layState_130 : decode c10_layState 130 = .ok (.iand, 1) := by decide +kernel
theorem d10_layState_131 : decode c10_layState 131 = .ok (.iaload, 1) := by decide +kernel
theorem d10_layState_132 : decode c10_layState 132 = .ok (.aload_n 0, 1) := by decide +kernel
theorem d10_layState_133 : decode c10_layState 133 = .ok (.getfield 67, 3) := by decide +kernel
theorem d10_layState_136 : decode c10_layState 136 = .ok (.iload 9, 2) := by decide +kernel
theorem d10_layState_138 : decode c10_layState 138 = .ok (.iaload, 1) := by decide +kernel
theorem d10_layState_139 : decode c10_layState 139 = .ok (.iadd, 1) := by decide +kernel
theorem d10_layState_140 : decode c10_layState 140 = .ok (.istore 11, 2) := by decide +kernel
theorem d10_layState_142 : decode c10_layState 142 = .ok (.iload 11, 2) := by decide +kernel
theorem d10_layState_144 : decode c10_layState 144 = .ok (.iload 4, 2) := by decide +kernel
theorem d10_layState_146 : decode c10_layState 146 = .ok (.if_icmp .ge 6, 3) := by decide +kernel
theorem d10_layState_149 : decode c10_layState 149 = .ok (.lconst 0, 1) := by decide +kernel
theorem d10_layState_150 : decode c10_layState 150 = .ok (.lstore 5, 2) := by decide +kernel
theorem d10_layState_152 : decode c10_layState 152 = .ok (.iload 4, 2) := by decide +kernel
theorem d10_layState_154 : decode c10_layState 154 = .ok (.iload 11, 2) := by decide +kernel
theorem d10_layState_156 : decode c10_layState 156 = .ok (.invokestatic 150, 3) := by decide +kernel
theorem d10_layState_159 : decode c10_layState 159 = .ok (.istore 4, 2) := by decide +kernel
theorem d10_layState_161 : decode c10_layState 161 = .ok (.lload 5, 2) := by decide +kernel
theorem d10_layState_163 : decode c10_layState 163 = .ok (.iload 11, 2) := by decide +kernel
theorem d10_layState_165 : decode c10_layState 165 = .ok (.iload 4, 2) := by decide +kernel
theorem d10_layState_167 : decode c10_layState 167 = .ok (.if_icmp .ne 13, 3) := by decide +kernel
theorem d10_layState_170 : decode c10_layState 170 = .ok (.aload_n 0, 1) := by decide +kernel
theorem d10_layState_171 : decode c10_layState 171 = .ok (.getfield 70, 3) := by decide +kernel
theorem d10_layState_174 : decode c10_layState 174 = .ok (.iload 9, 2) := by decide +kernel
theorem d10_layState_176 : decode c10_layState 176 = .ok (.laload, 1) := by decide +kernel
theorem d10_layState_177 : decode c10_layState 177 = .ok (.goto 4, 3) := by decide +kernel
theorem d10_layState_180 : decode c10_layState 180 = .ok (.lconst 0, 1) := by decide +kernel
theorem d10_layState_181 : decode c10_layState 181 = .ok (.ladd, 1) := by decide +kernel
theorem d10_layState_182 : decode c10_layState 182 = .ok (.lstore 5, 2) := by decide +kernel
theorem d10_layState_184 : decode c10_layState 184 = .ok (.iload 7, 2) := by decide +kernel
theorem d10_layState_186 : decode c10_layState 186 = .ok (.ifCond .eq 7, 3) := by decide +kernel
theorem d10_layState_189 : decode c10_layState 189 = .ok (.iconst 1, 1) := by decide +kernel
theorem d10_layState_190 : decode c10_layState 190 = .ok (.goto 4, 3) := by decide +kernel
theorem d10_layState_193 : decode c10_layState 193 = .ok (.iconst 0, 1) := by decide +kernel
theorem d10_layState_194 : decode c10_layState 194 = .ok (.istore 8, 2) := by decide +kernel
theorem d10_layState_196 : decode c10_layState 196 = .ok (.iload 7, 2) := by decide +kernel
theorem d10_layState_198 : decode c10_layState 198 = .ok (.iconst 1, 1) := by decide +kernel
theorem d10_layState_199 : decode c10_layState 199 = .ok (.isub, 1) := by decide +kernel
theorem d10_layState_200 : decode c10_layState 200 = .ok (.iload_n 3, 1) := by decide +kernel
theorem d10_layState_201 : decode c10_layState 201 = .ok (.iand, 1) := by decide +kernel
theorem d10_layState_202 : decode c10_layState 202 = .ok (.istore 7, 2) := by decide +kernel
theorem d10_layState_204 : decode c10_layState 204 = .ok (.goto (-181), 3) := by decide +kernel
theorem d10_layState_207 : decode c10_layState 207 = .ok (.aload_n 0, 1) := by decide +kernel
theorem d10_layState_208 : decode c10_layState 208 = .ok (.getfield 67, 3) := by decide +kernel
theorem d10_layState_211 : decode c10_layState 211 = .ok (.iload_n 1, 1) := by decide +kernel
theorem d10_layState_212 : decode c10_layState 212 = .ok (.iload_n 2, 1) := by decide +kernel
theorem d10_layState_213 : decode c10_layState 213 = .ok (.invokestatic 340, 3) := by decide +kernel
theorem d10_layState_216 : decode c10_layState 216 = .ok (.iload 4, 2) := by decide +kernel
theorem d10_layState_218 : decode c10_layState 218 = .ok (.iastore, 1) := by decide +kernel
theorem d10_layState_219 : decode c10_layState 219 = .ok (.aload_n 0, 1) := by decide +kernel
theorem d10_layState_220 : decode c10_layState 220 = .ok (.getfield 70, 3) := by decide +kernel
theorem d10_layState_223 : decode c10_layState 223 = .ok (.iload_n 1, 1) := by decide +kernel
theorem d10_layState_224 : decode c10_layState 224 = .ok (.iload_n 2, 1) := by decide +kernel
theorem d10_layState_225 : decode c10_layState 225 = .ok (.invokestatic 340, 3) := by decide +kernel
theorem d10_layState_228 : decode c10_layState 228 = .ok (.lload 5, 2) := by decide +kernel
theorem d10_layState_230 : decode c10_layState 230 = .ok (.lastore, 1) := by decide +kernel
theorem d10_layState_231 : decode c10_layState 231 = .ok (.return_, 1) := by decide +kernel
def f10_layState (D : Mem) (p0 : Int) (p1 : Int) : Option (Mem) :=
  Option.bind (some (and32 (D 117 35) (xor32 p1 (-1)))) fun (v1 : Int) =>
  Option.bind (@loop (Int × Int × Int × Int) (Int × Int) (fun s1 =>
    if w32 s1.2.2.2 = 0 then
      some (Sum.inr (s1.1, s1.2.1))
    else
      Option.bind (f10_state D (p0 + 1) (or32 p1 s1.2.2.1)) fun (a1 : Int) =>
      Option.bind (
        if w32 (and32 (D 117 36) (xor32 s1.2.2.1 (-1))) = 0 then
          if 0 ≤ s1.2.2.1 ∧ s1.2.2.1 < 256 then
            if w32 (D 117 19) < w32 (D 133 s1.2.2.1.toNat) then
              some 0
            else
              if 0 ≤ (or32 p1 s1.2.2.1) ∧ (or32 p1 s1.2.2.1) < 256 then
                if w32 ((D 118 2) * (D 118 3)) < w32 (D 133 (or32 p1 s1.2.2.1).toNat) then
                  some 0
                else
                  if 0 ≤ a1 ∧ a1 < 3328 then
                    if w32 (D 135 a1.toNat) < w32 1000000000 then
                      some 1
                    else
                      some 0
                  else none
              else none
          else none
        else
          some 0
      ) fun (j1 : Int) =>
      Option.bind (
        if w32 j1 = 0 then
          some (s1.1, s1.2.1)
        else
          if 0 ≤ (and32 (D 117 34) (xor32 (or32 p1 s1.2.2.1) (-1))) ∧ (and32 (D 117 34) (xor32 (or32 p1 s1.2.2.1) (-1))) < 256 then
            if 0 ≤ a1 ∧ a1 < 3328 then
              Option.bind (some ((D 134 (and32 (D 117 34) (xor32 (or32 p1 s1.2.2.1) (-1))).toNat) + (D 135 a1.toNat))) fun (v2 : Int) =>
              Option.bind (
                if w32 v2 < w32 s1.1 then
                  some 0
                else
                  some s1.2.1
              ) fun (j3 : Int) =>
              Option.bind (
                if w32 v2 = w32 (min32 s1.1 v2) then
                  some (D 136 a1.toNat)
                else
                  some 0
              ) fun (j4 : Int) =>
              some ((min32 s1.1 v2), (j3 + j4))
            else none
          else none
      ) fun (j2 : Int × Int) =>
      Option.bind (
        if w32 s1.2.2.1 = 0 then
          some 0
        else
          some 1
      ) fun (j5 : Int) =>
      some (Sum.inl (j2.1, j2.2, (and32 (s1.2.2.1 - 1) v1), j5))
  ) FU (1000000000, 0, v1, 1)) fun (b1 : Int × Int) =>
  Option.bind (f10_state D p0 p1) fun (a2 : Int) =>
  if 0 ≤ a2 ∧ a2 < 3328 then
    Option.bind (some (mset D 135 a2.toNat b1.1)) fun (D1 : Mem) =>
    Option.bind (f10_state D1 p0 p1) fun (a3 : Int) =>
    if 0 ≤ a3 ∧ a3 < 3328 then
      some (mset D1 136 a3.toNat b1.2)
    else none
  else none
set_option maxHeartbeats 4000000 in
theorem ok10_layState {l : Launch} {X : XT} {n : Nat} {D : Mem} {Q : Option Value → Nat → Rho → Mem → Prop} (hn : 147 ≤ n) {p0 : Int} {p1 : Int}  (h : wpo (f10_layState D p0 p1) (fun a => Q none n rt a)) : MOK l y10_layState c10_layState 12 (none) { frames := 1, cells := 0, slots := 0, locals := 23 } 0 0 X [vR X 117, vI p0, vI p1] n rt D Q := by
  refine MOK_of 10 (by decide +kernel) rfl (lv := [(0, vR X 117), (1, vI p0), (2, vI p1)]) (Nat.le_of_ble_eq_true rfl) rfl (fun K hK F hnm => ?_)
  subst hK
  unfold f10_layState at h
  refine r_aload_nR F 0 rfl rfl d10_layState_0 ?_
  refine r_getI F lf10_334 (vc117 hn) d10_layState_1 ?_
  refine r_iload_n F 2 rfl rfl d10_layState_4 ?_
  refine r_iconst F (z := (-1)) d10_layState_5 ?_
  refine r_ixor F d10_layState_6 ?_
  refine r_iand F d10_layState_7 ?_
  refine r_istore_n F (lv' := [(3, vI (and32 (D 117 35) (xor32 p1 (-1)))), (0, vR X 117), (1, vI p0), (2, vI p1)]) rfl (Nat.le_of_ble_eq_true rfl) rfl d10_layState_8 ?_
  refine at_name (B := fun (v1 : Int) => At K X (ZQ K X Q) 0 0 n rt 12 9 [(3, vI v1), (0, vR X 117), (1, vI p0), (2, vI p1)] [] D) h (fun v1 h => ?_)
  refine r_ldcw F (z := 1000000000) lc10_306 d10_layState_9 ?_
  refine r_istore F (lv' := [(4, vI 1000000000), (3, vI v1), (0, vR X 117), (1, vI p0), (2, vI p1)]) (Nat.le_of_ble_eq_true rfl) rfl d10_layState_12 ?_
  refine r_lconst F (x := 0) (by decide) d10_layState_14 ?_
  refine r_lstore F (lv' := [(5, vL 0), (4, vI 1000000000), (3, vI v1), (0, vR X 117), (1, vI p0), (2, vI p1)]) (Nat.le_of_ble_eq_true rfl) rfl d10_layState_15 ?_
  refine r_iload_n F 2 rfl rfl d10_layState_17 ?_
  refine r_istore F (lv' := [(7, vI v1), (5, vL 0), (4, vI 1000000000), (3, vI v1), (0, vR X 117), (1, vI p0), (2, vI p1)]) (Nat.le_of_ble_eq_true rfl) rfl d10_layState_18 ?_
  refine r_iconst F (z := 1) d10_layState_20 ?_
  refine r_istore F (lv' := [(8, vI 1), (7, vI v1), (5, vL 0), (4, vI 1000000000), (3, vI v1), (0, vR X 117), (1, vI p0), (2, vI p1)]) (Nat.le_of_ble_eq_true rfl) rfl d10_layState_21 ?_
  refine r_weak [5, 6, 7, 4, 3, 2, 1, 0] rfl ?_
  refine at_loopj (A := fun (s1 : Int × Int × Int × Int) => At K X (ZQ K X Q) 0 0 n rt 12 23 [(0, vR X 117), (1, vI p0), (2, vI p1), (3, vI v1), (4, vI s1.1), (5, vL s1.2.1), (7, vI s1.2.2.1), (8, vI s1.2.2.2)] [] D) (B := fun (b1 : Int × Int) => At K X (ZQ K X Q) 0 0 n rt 12 207 [(0, vR X 117), (1, vI p0), (2, vI p1), (4, vI b1.1), (5, vL b1.2)] [] D) h (fun b1 h => ?_) (fun s1 h => ?_)
  · refine r_aload_nR F 0 rfl rfl d10_layState_207 ?_
    refine r_getR F (z := 135) lf10_67 (vc117 hn) z117_31 d10_layState_208 ?_
    refine r_iload_n F 1 rfl rfl d10_layState_211 ?_
    refine r_iload_n F 2 rfl rfl d10_layState_212 ?_
    replace h := wpo_bind h
    refine r_callS0 F lm10_340 mf10_state rfl (fr := 0) (lo := 0) (As := [vI p0, vI p1]) (rest := [vR X 135]) ⟨Nat.le_of_ble_eq_true rfl, Nat.le_of_ble_eq_true rfl⟩ rfl (Nat.le_of_ble_eq_true rfl) ⟨Nat.zero_le _, Nat.zero_le _⟩ d10_layState_213 ?_
    refine ok10_state hn  (kI h (fun a2 h => ?_))
    refine r_iload F 3 rfl d10_layState_216 ?_
    obtain ⟨hx6, h⟩ := wpo_chk h
    refine r_iast F (vc135 hn) hx6 d10_layState_218 ?_
    refine r_aload_nR F 0 rfl rfl d10_layState_219 ?_
    refine r_getR F (z := 136) lf10_70 (vc117 hn) z117_32 d10_layState_220 ?_
    refine r_iload_n F 1 rfl rfl d10_layState_223 ?_
    refine r_iload_n F 2 rfl rfl d10_layState_224 ?_
    refine at_name (B := fun (D1 : Mem) => At K X (ZQ K X Q) 0 0 n rt 12 225 [(0, vR X 117), (1, vI p0), (2, vI p1), (4, vI b1.1), (5, vL b1.2)] [vI p1, vI p0, vR X 136] D1) h (fun D1 h => ?_)
    replace h := wpo_bind h
    refine r_callS0 F lm10_340 mf10_state rfl (fr := 0) (lo := 0) (As := [vI p0, vI p1]) (rest := [vR X 136]) ⟨Nat.le_of_ble_eq_true rfl, Nat.le_of_ble_eq_true rfl⟩ rfl (Nat.le_of_ble_eq_true rfl) ⟨Nat.zero_le _, Nat.zero_le _⟩ d10_layState_225 ?_
    refine ok10_state hn  (kI h (fun a3 h => ?_))
    refine r_lload F 4 rfl d10_layState_228 ?_
    obtain ⟨hx7, h⟩ := wpo_chk h
    refine r_last F (vc136 hn) hx7 d10_layState_230 ?_
    replace h := wpo_some h
    exact r_vret F h d10_layState_231
  · refine r_iload F 7 rfl d10_layState_23 ?_
    refine r_if_eq F (tgt := 207) d10_layState_25 (by decide) (fun hb => ?_) (fun hb => ?_)
    · replace h := wpo_pos h hb
      refine r_weak [0, 1, 2, 4, 5] rfl ?_
      replace h := wpo_inr h
      exact h
    · replace h := wpo_neg h hb
      refine r_iload_n F 1 rfl rfl d10_layState_28 ?_
      refine r_iconst F (z := 1) d10_layState_29 ?_
      refine r_iadd F d10_layState_30 ?_
      refine r_iload_n F 2 rfl rfl d10_layState_31 ?_
      refine r_iload F 6 rfl d10_layState_32 ?_
      refine r_ior F d10_layState_34 ?_
      replace h := wpo_bind h
      refine r_callS0 F lm10_340 mf10_state rfl (fr := 0) (lo := 0) (As := [vI (p0 + 1), vI (or32 p1 s1.2.2.1)]) (rest := []) ⟨Nat.le_of_ble_eq_true rfl, Nat.le_of_ble_eq_true rfl⟩ rfl (Nat.le_of_ble_eq_true rfl) ⟨Nat.zero_le _, Nat.zero_le _⟩ d10_layState_35 ?_
      refine ok10_state hn  (kI h (fun a1 h => ?_))
      refine r_istore F (lv' := [(9, vI a1), (0, vR X 117), (1, vI p0), (2, vI p1), (3, vI v1), (4, vI s1.1), (5, vL s1.2.1), (7, vI s1.2.2.1), (8, vI s1.2.2.2)]) (Nat.le_of_ble_eq_true rfl) rfl d10_layState_38 ?_
      refine r_aload_nR F 1 rfl rfl d10_layState_40 ?_
      refine r_getI F lf10_337 (vc117 hn) d10_layState_41 ?_
      refine r_iload F 7 rfl d10_layState_44 ?_
      refine r_iconst F (z := (-1)) d10_layState_46 ?_
      refine r_ixor F d10_layState_47 ?_
      refine r_iand F d10_layState_48 ?_
      refine at_join (B := fun (j1 : Int) => At K X (ZQ K X Q) 0 0 n rt 12 109 [(0, vR X 117), (1, vI p0), (2, vI p1), (3, vI v1), (4, vI s1.1), (5, vL s1.2.1), (7, vI s1.2.2.1), (9, vI a1)] [vI j1] D) h (fun j1 h => ?_) (fun h => ?_)
      · refine r_istore F (lv' := [(10, vI j1), (0, vR X 117), (1, vI p0), (2, vI p1), (3, vI v1), (4, vI s1.1), (5, vL s1.2.1), (7, vI s1.2.2.1), (9, vI a1)]) (Nat.le_of_ble_eq_true rfl) rfl d10_layState_109 ?_
        refine r_iload F 0 rfl d10_layState_111 ?_
        refine at_join (B := fun (j2 : Int × Int) => At K X (ZQ K X Q) 0 0 n rt 12 184 [(0, vR X 117), (1, vI p0), (2, vI p1), (3, vI v1), (4, vI j2.1), (5, vL j2.2), (7, vI s1.2.2.1)] [] D) h (fun j2 h => ?_) (fun h => ?_)
        · refine r_iload F 6 rfl d10_layState_184 ?_
          refine at_join (B := fun (j5 : Int) => At K X (ZQ K X Q) 0 0 n rt 12 194 [(0, vR X 117), (1, vI p0), (2, vI p1), (3, vI v1), (4, vI j2.1), (5, vL j2.2), (7, vI s1.2.2.1)] [vI j5] D) h (fun j5 h => ?_) (fun h => ?_)
          · refine r_istore F (lv' := [(8, vI j5), (0, vR X 117), (1, vI p0), (2, vI p1), (3, vI v1), (4, vI j2.1), (5, vL j2.2), (7, vI s1.2.2.1)]) (Nat.le_of_ble_eq_true rfl) rfl d10_layState_194 ?_
            refine r_iload F 7 rfl d10_layState_196 ?_
            refine r_iconst F (z := 1) d10_layState_198 ?_
            refine r_isub F d10_layState_199 ?_
            refine r_iload_n F 4 rfl rfl d10_layState_200 ?_
            refine r_iand F d10_layState_201 ?_
            refine r_istore F (lv' := [(7, vI (and32 (s1.2.2.1 - 1) v1)), (8, vI j5), (0, vR X 117), (1, vI p0), (2, vI p1), (3, vI v1), (4, vI j2.1), (5, vL j2.2)]) (Nat.le_of_ble_eq_true rfl) rfl d10_layState_202 ?_
            refine r_goto F (tgt := 23) (by decide) d10_layState_204 ?_
            refine r_weak [2, 3, 4, 5, 6, 7, 0, 1] rfl ?_
            replace h := wpo_inl h
            exact h
          · refine r_if_eq F (tgt := 193) d10_layState_186 (by decide) (fun hb => ?_) (fun hb => ?_)
            · replace h := wpo_pos h hb
              refine r_iconst F (z := 0) d10_layState_193 ?_
              replace h := wpo_some h
              exact h
            · replace h := wpo_neg h hb
              refine r_iconst F (z := 1) d10_layState_189 ?_
              refine r_goto F (tgt := 194) (by decide) d10_layState_190 ?_
              replace h := wpo_some h
              exact h
        · refine r_if_eq F (tgt := 184) d10_layState_113 (by decide) (fun hb => ?_) (fun hb => ?_)
          · replace h := wpo_pos h hb
            refine r_weak [1, 2, 3, 4, 5, 6, 7] rfl ?_
            replace h := wpo_some h
            exact h
          · replace h := wpo_neg h hb
            refine r_aload_nR F 1 rfl rfl d10_layState_116 ?_
            refine r_getR F (z := 134) lf10_64 (vc117 hn) z117_30 d10_layState_117 ?_
            refine r_aload_nR F 1 rfl rfl d10_layState_120 ?_
            refine r_getI F lf10_331 (vc117 hn) d10_layState_121 ?_
            refine r_iload_n F 3 rfl rfl d10_layState_124 ?_
            refine r_iload F 7 rfl d10_layState_125 ?_
            refine r_ior F d10_layState_127 ?_
            refine r_iconst F (z := (-1)) d10_layState_128 ?_
            refine r_ixor F d10_layState_129 ?_
            refine r_iand F d10_layState_130 ?_
            obtain ⟨hx4, h⟩ := wpo_chk h
            refine r_iald F (vc134 hn) hx4 d10_layState_131 ?_
            refine r_aload_nR F 1 rfl rfl d10_layState_132 ?_
            refine r_getR F (z := 135) lf10_67 (vc117 hn) z117_31 d10_layState_133 ?_
            refine r_iload F 8 rfl d10_layState_136 ?_
            obtain ⟨hx5, h⟩ := wpo_chk h
            refine r_iald F (vc135 hn) hx5 d10_layState_138 ?_
            refine r_iadd F d10_layState_139 ?_
            refine r_istore F (lv' := [(11, vI ((D 134 (and32 (D 117 34) (xor32 (or32 p1 s1.2.2.1) (-1))).toNat) + (D 135 a1.toNat))), (10, vI j1), (0, vR X 117), (1, vI p0), (2, vI p1), (3, vI v1), (4, vI s1.1), (5, vL s1.2.1), (7, vI s1.2.2.1), (9, vI a1)]) (Nat.le_of_ble_eq_true rfl) rfl d10_layState_140 ?_
            refine at_name (B := fun (v2 : Int) => At K X (ZQ K X Q) 0 0 n rt 12 142 [(11, vI v2), (10, vI j1), (0, vR X 117), (1, vI p0), (2, vI p1), (3, vI v1), (4, vI s1.1), (5, vL s1.2.1), (7, vI s1.2.2.1), (9, vI a1)] [] D) h (fun v2 h => ?_)
            refine r_iload F 0 rfl d10_layState_142 ?_
            refine r_iload F 6 rfl d10_layState_144 ?_
            refine at_join (B := fun (j3 : Int) => At K X (ZQ K X Q) 0 0 n rt 12 152 [(0, vR X 117), (1, vI p0), (2, vI p1), (3, vI v1), (4, vI s1.1), (5, vL j3), (7, vI s1.2.2.1), (9, vI a1), (11, vI v2)] [] D) h (fun j3 h => ?_) (fun h => ?_)
            · refine r_iload F 4 rfl d10_layState_152 ?_
              refine r_iload F 8 rfl d10_layState_154 ?_
              refine r_min F lm10_150 wm3 wm0 wm4 ⟨Nat.le_of_ble_eq_true rfl, Nat.le_of_ble_eq_true rfl, Nat.le_of_ble_eq_true rfl, Nat.le_of_ble_eq_true rfl⟩ d10_layState_156 ?_
              refine r_istore F (lv' := [(4, vI (min32 s1.1 v2)), (0, vR X 117), (1, vI p0), (2, vI p1), (3, vI v1), (5, vL j3), (7, vI s1.2.2.1), (9, vI a1), (11, vI v2)]) (Nat.le_of_ble_eq_true rfl) rfl d10_layState_159 ?_
              refine r_lload F 5 rfl d10_layState_161 ?_
              refine r_iload F 8 rfl d10_layState_163 ?_
              refine r_iload F 0 rfl d10_layState_165 ?_
              refine at_join (B := fun (j4 : Int) => At K X (ZQ K X Q) 0 0 n rt 12 181 [(0, vR X 117), (1, vI p0), (2, vI p1), (3, vI v1), (4, vI (min32 s1.1 v2)), (7, vI s1.2.2.1)] [vL j4, vL j3] D) h (fun j4 h => ?_) (fun h => ?_)
              · refine r_ladd F d10_layState_181 ?_
                refine r_lstore F (lv' := [(5, vL (j3 + j4)), (0, vR X 117), (1, vI p0), (2, vI p1), (3, vI v1), (4, vI (min32 s1.1 v2)), (7, vI s1.2.2.1)]) (Nat.le_of_ble_eq_true rfl) rfl d10_layState_182 ?_
                refine r_weak [1, 2, 3, 4, 5, 0, 6] rfl ?_
                replace h := wpo_some h
                exact h
              · refine r_icmp_ne F (tgt := 180) d10_layState_167 (by decide) (fun hb => ?_) (fun hb => ?_)
                · replace h := wpo_neg h hb
                  refine r_lconst F (x := 0) (by decide) d10_layState_180 ?_
                  refine r_weak [1, 2, 3, 4, 0, 6] rfl ?_
                  replace h := wpo_some h
                  exact h
                · replace h := wpo_pos h hb
                  refine r_aload_nR F 1 rfl rfl d10_layState_170 ?_
                  refine r_getR F (z := 136) lf10_70 (vc117 hn) z117_32 d10_layState_171 ?_
                  refine r_iload F 7 rfl d10_layState_174 ?_
                  refine r_lald F (vc136 hn) hx5 d10_layState_176 ?_
                  refine r_goto F (tgt := 181) (by decide) d10_layState_177 ?_
                  refine r_weak [1, 2, 3, 4, 0, 6] rfl ?_
                  replace h := wpo_some h
                  exact h
            · refine r_icmp_ge F (tgt := 152) d10_layState_146 (by decide) (fun hb => ?_) (fun hb => ?_)
              · replace h := wpo_neg h hb
                refine r_weak [2, 3, 4, 5, 6, 7, 8, 9, 0] rfl ?_
                replace h := wpo_some h
                exact h
              · replace h := wpo_pos h hb
                refine r_lconst F (x := 0) (by decide) d10_layState_149 ?_
                refine r_lstore F (lv' := [(5, vL 0), (11, vI v2), (10, vI j1), (0, vR X 117), (1, vI p0), (2, vI p1), (3, vI v1), (4, vI s1.1), (7, vI s1.2.2.1), (9, vI a1)]) (Nat.le_of_ble_eq_true rfl) rfl d10_layState_150 ?_
                refine r_weak [3, 4, 5, 6, 7, 0, 8, 9, 1] rfl ?_
                replace h := wpo_some h
                exact h
      · refine r_if_ne F (tgt := 108) d10_layState_49 (by decide) (fun hb => ?_) (fun hb => ?_)
        · replace h := wpo_neg h hb
          refine r_iconst F (z := 0) d10_layState_108 ?_
          refine r_weak [1, 2, 3, 4, 5, 6, 7, 0] rfl ?_
          replace h := wpo_some h
          exact h
        · replace h := wpo_pos h hb
          refine r_aload_nR F 1 rfl rfl d10_layState_52 ?_
          refine r_getR F (z := 133) lf10_61 (vc117 hn) z117_29 d10_layState_53 ?_
          refine r_iload F 7 rfl d10_layState_56 ?_
          obtain ⟨hx1, h⟩ := wpo_chk h
          refine r_iald F (vc133 hn) hx1 d10_layState_58 ?_
          refine r_aload_nR F 1 rfl rfl d10_layState_59 ?_
          refine r_getI F lf10_228 (vc117 hn) d10_layState_60 ?_
          refine r_icmp_gt F (tgt := 108) d10_layState_63 (by decide) (fun hb => ?_) (fun hb => ?_)
          · replace h := wpo_pos h hb
            refine r_iconst F (z := 0) d10_layState_108 ?_
            refine r_weak [1, 2, 3, 4, 5, 6, 7, 0] rfl ?_
            replace h := wpo_some h
            exact h
          · replace h := wpo_neg h hb
            refine r_aload_nR F 1 rfl rfl d10_layState_66 ?_
            refine r_getR F (z := 133) lf10_61 (vc117 hn) z117_29 d10_layState_67 ?_
            refine r_iload_n F 3 rfl rfl d10_layState_70 ?_
            refine r_iload F 7 rfl d10_layState_71 ?_
            refine r_ior F d10_layState_73 ?_
            obtain ⟨hx2, h⟩ := wpo_chk h
            refine r_iald F (vc133 hn) hx2 d10_layState_74 ?_
            refine r_aload_nR F 1 rfl rfl d10_layState_75 ?_
            refine r_getR F (z := 118) lf10_9 (vc117 hn) z117_1 d10_layState_76 ?_
            refine r_iconst F (z := 2) d10_layState_79 ?_
            refine r_ialdC F (j := 2) (vc118 hn) (by decide) rfl d10_layState_80 ?_
            refine r_aload_nR F 1 rfl rfl d10_layState_81 ?_
            refine r_getR F (z := 118) lf10_9 (vc117 hn) z117_1 d10_layState_82 ?_
            refine r_iconst F (z := 3) d10_layState_85 ?_
            refine r_ialdC F (j := 3) (vc118 hn) (by decide) rfl d10_layState_86 ?_
            refine r_imul F d10_layState_87 ?_
            refine r_icmp_gt F (tgt := 108) d10_layState_88 (by decide) (fun hb => ?_) (fun hb => ?_)
            · replace h := wpo_pos h hb
              refine r_iconst F (z := 0) d10_layState_108 ?_
              refine r_weak [1, 2, 3, 4, 5, 6, 7, 0] rfl ?_
              replace h := wpo_some h
              exact h
            · replace h := wpo_neg h hb
              refine r_aload_nR F 1 rfl rfl d10_layState_91 ?_
              refine r_getR F (z := 135) lf10_67 (vc117 hn) z117_31 d10_layState_92 ?_
              refine r_iload F 0 rfl d10_layState_95 ?_
              obtain ⟨hx3, h⟩ := wpo_chk h
              refine r_iald F (vc135 hn) hx3 d10_layState_97 ?_
              refine r_ldcw F (z := 1000000000) lc10_306 d10_layState_98 ?_
              refine r_icmp_ge F (tgt := 108) d10_layState_101 (by decide) (fun hb => ?_) (fun hb => ?_)
              · replace h := wpo_neg h hb
                refine r_iconst F (z := 0) d10_layState_108 ?_
                refine r_weak [1, 2, 3, 4, 5, 6, 7, 0] rfl ?_
                replace h := wpo_some h
                exact h
              · replace h := wpo_pos h hb
                refine r_iconst F (z := 1) d10_layState_104 ?_
                refine r_goto F (tgt := 109) (by decide) d10_layState_105 ?_
                refine r_weak [1, 2, 3, 4, 5, 6, 7, 0] rfl ?_
                replace h := wpo_some h
                exact h
