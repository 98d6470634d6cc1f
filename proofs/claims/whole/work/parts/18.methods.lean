/-! METHODS, printed by wip/whole/gen/mkall.py -/
theorem d10_leaveOf_0 : decode c10_leaveOf 0 = .ok (.iconst 0, 1) := by decide +kernel
theorem d10_leaveOf_1 : decode c10_leaveOf 1 = .ok (.istore_n 2, 1) := by decide +kernel
theorem d10_leaveOf_2 : decode c10_leaveOf 2 = .ok (.iload_n 2, 1) := by decide +kernel
theorem d10_leaveOf_3 : decode c10_leaveOf 3 = .ok (.aload_n 0, 1) := by decide +kernel
theorem d10_leaveOf_4 : decode c10_leaveOf 4 = .ok (.invokevirtual 320, 3) := by decide +kernel
theorem d10_leaveOf_7 : decode c10_leaveOf 7 = .ok (.if_icmp .gt 45, 3) := by decide +kernel
theorem d10_leaveOf_10 : decode c10_leaveOf 10 = .ok (.aload_n 0, 1) := by decide +kernel
theorem d10_leaveOf_11 : decode c10_leaveOf 11 = .ok (.getfield 86, 3) := by decide +kernel
theorem d10_leaveOf_14 : decode c10_leaveOf 14 = .ok (.iload_n 2, 1) := by decide +kernel
theorem d10_leaveOf_15 : decode c10_leaveOf 15 = .ok (.iaload, 1) := by decide +kernel
theorem d10_leaveOf_16 : decode c10_leaveOf 16 = .ok (.ldc_w 306, 3) := by decide +kernel
theorem d10_leaveOf_19 : decode c10_leaveOf 19 = .ok (.if_icmp .ge 27, 3) := by decide +kernel
theorem d10_leaveOf_22 : decode c10_leaveOf 22 = .ok (.aload_n 0, 1) := by decide +kernel
theorem d10_leaveOf_23 : decode c10_leaveOf 23 = .ok (.iload_n 1, 1) := by decide +kernel
theorem d10_leaveOf_24 : decode c10_leaveOf 24 = .ok (.iload_n 2, 1) := by decide +kernel
theorem d10_leaveOf_25 : decode c10_leaveOf 25 = .ok (.invokevirtual 412, 3) := by decide +kernel
theorem d10_leaveOf_28 : decode c10_leaveOf 28 = .ok (.aload_n 0, 1) := by decide +kernel
theorem d10_leaveOf_29 : decode c10_leaveOf 29 = .ok (.getfield 9, 3) := by decide +kernel
theorem d10_leaveOf_32 : decode c10_leaveOf 32 = .ok (.iconst 5, 1) := by decide +kernel
theorem d10_leaveOf_33 : decode c10_leaveOf 33 = .ok (.iaload, 1) := by decide +kernel
theorem d10_leaveOf_34 : decode c10_leaveOf 34 = .ok (.aload_n 0, 1) := by decide +kernel
theorem d10_leaveOf_35 : decode c10_leaveOf 35 = .ok (.getfield 86, 3) := by decide +kernel
theorem d10_leaveOf_38 : decode c10_leaveOf 38 = .ok (.iload_n 2, 1) := by decide +kernel
theorem d10_leaveOf_39 : decode c10_leaveOf 39 = .ok (.iaload, 1) := by decide +kernel
theorem d10_leaveOf_40 : decode c10_leaveOf 40 = .ok (.imul, 1) := by decide +kernel
theorem d10_leaveOf_41 : decode c10_leaveOf 41 = .ok (.if_icmp .le 5, 3) := by decide +kernel
theorem d10_leaveOf_44 : decode c10_leaveOf 44 = .ok (.iload_n 2, 1) := by decide +kernel
theorem d10_leaveOf_45 : decode c10_leaveOf 45 = .ok (.ireturn, 1) := by decide +kernel
theorem d10_leaveOf_46 : decode c10_leaveOf 46 = .ok (.iinc 2 1, 3) := by decide +kernel
theorem d10_leaveOf_49 : decode c10_leaveOf 49 = .ok (.goto (-47), 3) := by decide +kernel
theorem d10_leaveOf_52 : decode c10_leaveOf 52 = .ok (.iconst (-1), 1) := by decide +kernel
theorem d10_leaveOf_53 : decode c10_leaveOf 53 = .ok (.ireturn, 1) := by decide +kernel
def f10_leaveOf (D : Mem) (p0 : Int) : Option (Int) :=
  Option.bind (@loop (Int) ((Unit) ⊕ (Int)) (fun s1 =>
    Option.bind (f10_allPersons D) fun (a1 : Int) =>
    if w32 a1 < w32 s1 then
      some (Sum.inr (Sum.inl ()))
    else
      if 0 ≤ s1 ∧ s1 < 256 then
        if w32 (D 141 s1.toNat) < w32 1000000000 then
          Option.bind (f10_sharesOf D p0 s1) fun (a2 : Int) =>
          if w32 ((D 118 5) * (D 141 s1.toNat)) < w32 a2 then
            some (Sum.inr (Sum.inr s1))
          else
            some (Sum.inl (s1 + 1))
        else
          some (Sum.inl (s1 + 1))
      else none
  ) FU 0) (fun z => Sum.elim (fun (b1 : Unit) =>
    some (-1)
  ) (fun rv => some rv) z)
set_option maxHeartbeats 4000000 in
theorem ok10_leaveOf {l : Launch} {X : XT} {n : Nat} {D : Mem} {Q : Option Value → Nat → Rho → Mem → Prop} (hn : 147 ≤ n) {p0 : Int}  (h : wpo (f10_leaveOf D p0) (fun a => Q (some (vI a)) n rt D)) : MOK l y10_leaveOf c10_leaveOf 3 (some .int) { frames := 2, cells := 0, slots := 0, locals := 46 } 0 0 X [vR X 117, vI p0] n rt D Q := by
  refine MOK_of 10 (by decide +kernel) rfl (lv := [(0, vR X 117), (1, vI p0)]) (Nat.le_of_ble_eq_true rfl) rfl (fun K hK F hnm => ?_)
  subst hK
  unfold f10_leaveOf at h
  refine r_iconst F (z := 0) d10_leaveOf_0 ?_
  refine r_istore_n F (lv' := [(2, vI 0), (0, vR X 117), (1, vI p0)]) rfl (Nat.le_of_ble_eq_true rfl) rfl d10_leaveOf_1 ?_
  refine r_weak [1, 2, 0] rfl ?_
  refine at_loopj (A := fun (s1 : Int) => At K X (ZQ K X Q) 0 0 n rt 3 2 [(0, vR X 117), (1, vI p0), (2, vI s1)] [] D) (B := Sum.elim (fun (b1 : Unit) => At K X (ZQ K X Q) 0 0 n rt 3 52 [] [] D) (fun rv => Q (some (vI rv)) n rt D)) h (fun z h => ?_) (fun s1 h => ?_)
  · rcases z with b1 | rv
    · replace h := elim_l h
      refine el_li ?_
      refine r_iconst F (z := (-1)) d10_leaveOf_52 ?_
      replace h := wpo_some h
      exact r_iret F h d10_leaveOf_53
    · replace h := elim_r h
      replace h := wpo_some h
      exact el_ri h
  · refine r_iload_n F 2 rfl rfl d10_leaveOf_2 ?_
    refine r_aload_nR F 0 rfl rfl d10_leaveOf_3 ?_
    replace h := wpo_bind h
    refine r_callV0 F lm10_320 mf10_allPersons (vc117 hn) rfl (fr := 0) (lo := 0) (As := []) (rest := [vI s1]) ⟨Nat.le_of_ble_eq_true rfl, Nat.le_of_ble_eq_true rfl⟩ rfl (Nat.le_of_ble_eq_true rfl) ⟨Nat.zero_le _, Nat.zero_le _⟩ d10_leaveOf_4 ?_
    refine ok10_allPersons hn  (kI h (fun a1 h => ?_))
    refine r_icmp_gt F (tgt := 52) d10_leaveOf_7 (by decide) (fun hb => ?_) (fun hb => ?_)
    · replace h := wpo_pos h hb
      refine r_weak [] rfl ?_
      replace h := wpo_inr h
      replace h := el_l h
      exact h
    · replace h := wpo_neg h hb
      refine r_aload_nR F 0 rfl rfl d10_leaveOf_10 ?_
      refine r_getR F (z := 141) lf10_86 (vc117 hn) z117_41 d10_leaveOf_11 ?_
      refine r_iload_n F 2 rfl rfl d10_leaveOf_14 ?_
      obtain ⟨hx1, h⟩ := wpo_chk h
      refine r_iald F (vc141 hn) hx1 d10_leaveOf_15 ?_
      refine r_ldcw F (z := 1000000000) lc10_306 d10_leaveOf_16 ?_
      refine r_icmp_ge F (tgt := 46) d10_leaveOf_19 (by decide) (fun hb => ?_) (fun hb => ?_)
      · replace h := wpo_neg h hb
        refine r_iinc F 2 (lv' := [(2, vI (s1 + 1)), (0, vR X 117), (1, vI p0)]) rfl (Nat.le_of_ble_eq_true rfl) rfl d10_leaveOf_46 ?_
        refine r_goto F (tgt := 2) (by decide) d10_leaveOf_49 ?_
        refine r_weak [1, 2, 0] rfl ?_
        replace h := wpo_inl h
        exact h
      · replace h := wpo_pos h hb
        refine r_aload_nR F 0 rfl rfl d10_leaveOf_22 ?_
        refine r_iload_n F 1 rfl rfl d10_leaveOf_23 ?_
        refine r_iload_n F 2 rfl rfl d10_leaveOf_24 ?_
        replace h := wpo_bind h
        refine r_callV0 F lm10_412 mf10_sharesOf (vc117 hn) rfl (fr := 1) (lo := 22) (As := [vI p0, vI s1]) (rest := []) ⟨Nat.le_of_ble_eq_true rfl, Nat.le_of_ble_eq_true rfl⟩ rfl (Nat.le_of_ble_eq_true rfl) ⟨Nat.zero_le _, Nat.zero_le _⟩ d10_leaveOf_25 ?_
        refine ok10_sharesOf hn  (kI h (fun a2 h => ?_))
        refine r_aload_nR F 0 rfl rfl d10_leaveOf_28 ?_
        refine r_getR F (z := 118) lf10_9 (vc117 hn) z117_1 d10_leaveOf_29 ?_
        refine r_iconst F (z := 5) d10_leaveOf_32 ?_
        refine r_ialdC F (j := 5) (vc118 hn) (by decide) rfl d10_leaveOf_33 ?_
        refine r_aload_nR F 0 rfl rfl d10_leaveOf_34 ?_
        refine r_getR F (z := 141) lf10_86 (vc117 hn) z117_41 d10_leaveOf_35 ?_
        refine r_iload_n F 2 rfl rfl d10_leaveOf_38 ?_
        refine r_iald F (vc141 hn) hx1 d10_leaveOf_39 ?_
        refine r_imul F d10_leaveOf_40 ?_
        refine r_icmp_le F (tgt := 46) d10_leaveOf_41 (by decide) (fun hb => ?_) (fun hb => ?_)
        · replace h := wpo_neg h hb
          refine r_iinc F 2 (lv' := [(2, vI (s1 + 1)), (0, vR X 117), (1, vI p0)]) rfl (Nat.le_of_ble_eq_true rfl) rfl d10_leaveOf_46 ?_
          refine r_goto F (tgt := 2) (by decide) d10_leaveOf_49 ?_
          refine r_weak [1, 2, 0] rfl ?_
          replace h := wpo_inl h
          exact h
        · replace h := wpo_pos h hb
          refine r_iload_n F 2 rfl rfl d10_leaveOf_44 ?_
          replace h := el_r (wpo_inr h)
          exact r_iret F h d10_leaveOf_45
theorem d10_leave_0 : decode c10_leave 0 = .ok (.aload_n 0, 1) := by decide +kernel
theorem d10_leave_1 : decode c10_leave 1 = .ok (.iload_n 1, 1) := by decide +kernel
theorem d10_leave_2 : decode c10_leave 2 = .ok (.invokevirtual 415, 3) := by decide +kernel
theorem d10_leave_5 : decode c10_leave 5 = .ok (.istore_n 2, 1) := by decide +kernel
theorem d10_leave_6 : decode c10_leave 6 = .ok (.iload_n 2, 1) := by decide +kernel
theorem d10_leave_7 : decode c10_leave 7 = .ok (.ifCond .ge 7, 3) := by decide +kernel
theorem d10_leave_10 : decode c10_leave 10 = .ok (.iload_n 2, 1) := by decide +kernel
theorem d10_leave_11 : decode c10_leave 11 = .ok (.goto 8, 3) := by decide +kernel
theorem d10_leave_14 : decode c10_leave 14 = .ok (.aload_n 0, 1) := by decide +kernel
theorem d10_leave_15 : decode c10_leave 15 = .ok (.iload_n 1, 1) := by decide +kernel
theorem d10_leave_16 : decode c10_leave 16 = .ok (.invokevirtual 418, 3) := by decide +kernel
theorem d10_leave_19 : decode c10_leave 19 = .ok (.ireturn, 1) := by decide +kernel
def f10_leave (D : Mem) (p0 : Int) : Option (Int × Mem) :=
  Option.bind (f10_askShares D p0) fun (a1 : Int × Mem) =>
  if w32 a1.1 < 0 then
    some (a1.1, a1.2)
  else
    Option.bind (f10_leaveOf a1.2 p0) fun (a2 : Int) =>
    some (a2, a1.2)
set_option maxHeartbeats 4000000 in
theorem ok10_leave {l : Launch} {X : XT} {n : Nat} {D : Mem} {Q : Option Value → Nat → Rho → Mem → Prop} (hn : 147 ≤ n) {p0 : Int}  (h : wpo (f10_leave D p0) (fun a => Q (some (vI a.1)) n rt a.2)) : MOK l y10_leave c10_leave 3 (some .int) { frames := 6, cells := 0, slots := 0, locals := 129 } 0 0 X [vR X 117, vI p0] n rt D Q := by
  refine MOK_of 10 (by decide +kernel) rfl (lv := [(0, vR X 117), (1, vI p0)]) (Nat.le_of_ble_eq_true rfl) rfl (fun K hK F hnm => ?_)
  subst hK
  unfold f10_leave at h
  refine r_aload_nR F 0 rfl rfl d10_leave_0 ?_
  refine r_iload_n F 1 rfl rfl d10_leave_1 ?_
  replace h := wpo_bind h
  refine r_callV0 F lm10_415 mf10_askShares (vc117 hn) rfl (fr := 5) (lo := 107) (As := [vI p0]) (rest := []) ⟨Nat.le_of_ble_eq_true rfl, Nat.le_of_ble_eq_true rfl⟩ rfl (Nat.le_of_ble_eq_true rfl) ⟨Nat.zero_le _, Nat.zero_le _⟩ d10_leave_2 ?_
  refine ok10_askShares hn  (kIm h (fun a1 h => ?_))
  refine r_istore_n F (lv' := [(2, vI a1.1), (0, vR X 117), (1, vI p0)]) rfl (Nat.le_of_ble_eq_true rfl) rfl d10_leave_5 ?_
  refine r_iload_n F 0 rfl rfl d10_leave_6 ?_
  refine r_if_ge F (tgt := 14) d10_leave_7 (by decide) (fun hb => ?_) (fun hb => ?_)
  · replace h := wpo_neg h hb
    refine r_aload_nR F 1 rfl rfl d10_leave_14 ?_
    refine r_iload_n F 2 rfl rfl d10_leave_15 ?_
    replace h := wpo_bind h
    refine r_callV0 F lm10_418 mf10_leaveOf (vc117 hn) rfl (fr := 2) (lo := 46) (As := [vI p0]) (rest := []) ⟨Nat.le_of_ble_eq_true rfl, Nat.le_of_ble_eq_true rfl⟩ rfl (Nat.le_of_ble_eq_true rfl) ⟨Nat.zero_le _, Nat.zero_le _⟩ d10_leave_16 ?_
    refine ok10_leaveOf hn  (kI h (fun a2 h => ?_))
    replace h := wpo_some h
    exact r_iret F h d10_leave_19
  · replace h := wpo_pos h hb
    refine r_iload_n F 0 rfl rfl d10_leave_10 ?_
    refine r_goto F (tgt := 19) (by decide) d10_leave_11 ?_
    replace h := wpo_some h
    exact r_iret F h d10_leave_19
theorem d10_fair_0 : decode c10_fair 0 = .ok (.aload_n 0, 1) := by decide +kernel
theorem d10_fair_1 : decode c10_fair 1 = .ok (.iload_n 1, 1) := by decide +kernel
theorem d10_fair_2 : decode c10_fair 2 = .ok (.invokevirtual 415, 3) := by decide +kernel
theorem d10_fair_5 : decode c10_fair 5 = .ok (.istore_n 2, 1) := by decide +kernel
theorem d10_fair_6 : decode c10_fair 6 = .ok (.iload_n 2, 1) := by decide +kernel
theorem d10_fair_7 : decode c10_fair 7 = .ok (.ifCond .ge 5, 3) := by decide +kernel
theorem d10_fair_10 : decode c10_fair 10 = .ok (.iload_n 2, 1) := by decide +kernel
theorem d10_fair_11 : decode c10_fair 11 = .ok (.ireturn, 1) := by decide +kernel
theorem d10_fair_12 : decode c10_fair 12 = .ok (.aload_n 0, 1) := by decide +kernel
theorem d10_fair_13 : decode c10_fair 13 = .ok (.getfield 86, 3) := by decide +kernel
theorem d10_fair_16 : decode c10_fair 16 = .ok (.aload_n 0, 1) := by decide +kernel
theorem d10_fair_17 : decode c10_fair 17 = .ok (.invokevirtual 320, 3) := by decide +kernel
theorem d10_fair_20 : decode c10_fair 20 = .ok (.iaload, 1) := by decide +kernel
theorem d10_fair_21 : decode c10_fair 21 = .ok (.istore_n 3, 1) := by decide +kernel
theorem d10_fair_22 : decode c10_fair 22 = .ok (.iload_n 3, 1) := by decide +kernel
theorem d10_fair_23 : decode c10_fair 23 = .ok (.ldc_w 306, 3) := by decide +kernel
theorem d10_fair_26 : decode c10_fair 26 = .ok (.if_icmp .ge 36, 3) := by decide +kernel
theorem d10_fair_29 : decode c10_fair 29 = .ok (.aload_n 0, 1) := by decide +kernel
theorem d10_fair_30 : decode c10_fair 30 = .ok (.iload_n 1, 1) := by decide +kernel
theorem d10_fair_31 : decode c10_fair 31 = .ok (.aload_n 0, 1) := by decide +kernel
theorem d10_fair_32 : decode c10_fair 32 = .ok (.invokevirtual 320, 3) := by decide +kernel
theorem d10_fair_35 : decode c10_fair 35 = .ok (.invokevirtual 412, 3) := by decide +kernel
theorem d10_fair_38 : decode c10_fair 38 = .ok (.aload_n 0, 1) := by decide +kernel
theorem d10_fair_39 : decode c10_fair 39 = .ok (.getfield 9, 3) := by decide +kernel
theorem d10_fair_42 : decode c10_fair 42 = .ok (.iconst 5, 1) := by decide +kernel
theorem d10_fair_43 : decode c10_fair 43 = .ok (.iaload, 1) := by decide +kernel
theorem d10_fair_44 : decode c10_fair 44 = .ok (.iload_n 3, 1) := by decide +kernel
theorem d10_fair_45 : decode c10_fair 45 = .ok (.imul, 1) := by decide +kernel
theorem d10_fair_46 : decode c10_fair 46 = .ok (.if_icmp .ne 16, 3) := by decide +kernel
theorem d10_fair_49 : decode c10_fair 49 = .ok (.aload_n 0, 1) := by decide +kernel
theorem d10_fair_50 : decode c10_fair 50 = .ok (.iload_n 1, 1) := by decide +kernel
theorem d10_fair_51 : decode c10_fair 51 = .ok (.invokevirtual 418, 3) := by decide +kernel
theorem d10_fair_54 : decode c10_fair 54 = .ok (.iconst (-1), 1) := by decide +kernel
theorem d10_fair_55 : decode c10_fair 55 = .ok (.if_icmp .ne 7, 3) := by decide +kernel
theorem d10_fair_58 : decode c10_fair 58 = .ok (.iconst 1, 1) := by decide +kernel
theorem d10_fair_59 : decode c10_fair 59 = .ok (.goto 4, 3) := by decide +kernel
theorem d10_fair_62 : decode c10_fair 62 = .ok (.iconst 0, 1) := by decide +kernel
theorem d10_fair_63 : decode c10_fair 63 = .ok (.ireturn, 1) := by decide +kernel
def f10_fair (D : Mem) (p0 : Int) : Option (Int × Mem) :=
  Option.bind (f10_askShares D p0) fun (a1 : Int × Mem) =>
  if w32 a1.1 < 0 then
    some (a1.1, a1.2)
  else
    Option.bind (f10_allPersons a1.2) fun (a2 : Int) =>
    if 0 ≤ a2 ∧ a2 < 256 then
      Option.bind (some (a1.2 141 a2.toNat)) fun (v1 : Int) =>
      if w32 v1 < w32 1000000000 then
        Option.bind (f10_allPersons a1.2) fun (a3 : Int) =>
        Option.bind (f10_sharesOf a1.2 p0 a3) fun (a4 : Int) =>
        if w32 a4 = w32 ((a1.2 118 5) * v1) then
          Option.bind (f10_leaveOf a1.2 p0) fun (a5 : Int) =>
          if w32 a5 = w32 (-1) then
            some (1, a1.2)
          else
            some (0, a1.2)
        else
          some (0, a1.2)
      else
        some (0, a1.2)
    else none
set_option maxHeartbeats 4000000 in
theorem ok10_fair {l : Launch} {X : XT} {n : Nat} {D : Mem} {Q : Option Value → Nat → Rho → Mem → Prop} (hn : 147 ≤ n) {p0 : Int}  (h : wpo (f10_fair D p0) (fun a => Q (some (vI a.1)) n rt a.2)) : MOK l y10_fair c10_fair 4 (some .int) { frames := 6, cells := 0, slots := 0, locals := 129 } 0 0 X [vR X 117, vI p0] n rt D Q := by
  refine MOK_of 10 (by decide +kernel) rfl (lv := [(0, vR X 117), (1, vI p0)]) (Nat.le_of_ble_eq_true rfl) rfl (fun K hK F hnm => ?_)
  subst hK
  unfold f10_fair at h
  refine r_aload_nR F 0 rfl rfl d10_fair_0 ?_
  refine r_iload_n F 1 rfl rfl d10_fair_1 ?_
  replace h := wpo_bind h
  refine r_callV0 F lm10_415 mf10_askShares (vc117 hn) rfl (fr := 5) (lo := 107) (As := [vI p0]) (rest := []) ⟨Nat.le_of_ble_eq_true rfl, Nat.le_of_ble_eq_true rfl⟩ rfl (Nat.le_of_ble_eq_true rfl) ⟨Nat.zero_le _, Nat.zero_le _⟩ d10_fair_2 ?_
  refine ok10_askShares hn  (kIm h (fun a1 h => ?_))
  refine r_istore_n F (lv' := [(2, vI a1.1), (0, vR X 117), (1, vI p0)]) rfl (Nat.le_of_ble_eq_true rfl) rfl d10_fair_5 ?_
  refine r_iload_n F 0 rfl rfl d10_fair_6 ?_
  refine r_if_ge F (tgt := 12) d10_fair_7 (by decide) (fun hb => ?_) (fun hb => ?_)
  · replace h := wpo_neg h hb
    refine r_aload_nR F 1 rfl rfl d10_fair_12 ?_
    refine r_getR F (z := 141) lf10_86 (vc117 hn) z117_41 d10_fair_13 ?_
    refine r_aload_nR F 1 rfl rfl d10_fair_16 ?_
    replace h := wpo_bind h
    refine r_callV0 F lm10_320 mf10_allPersons (vc117 hn) rfl (fr := 0) (lo := 0) (As := []) (rest := [vR X 141]) ⟨Nat.le_of_ble_eq_true rfl, Nat.le_of_ble_eq_true rfl⟩ rfl (Nat.le_of_ble_eq_true rfl) ⟨Nat.zero_le _, Nat.zero_le _⟩ d10_fair_17 ?_
    refine ok10_allPersons hn  (kI h (fun a2 h => ?_))
    obtain ⟨hx1, h⟩ := wpo_chk h
    refine r_iald F (vc141 hn) hx1 d10_fair_20 ?_
    refine r_istore_n F (lv' := [(3, vI (a1.2 141 a2.toNat)), (2, vI a1.1), (0, vR X 117), (1, vI p0)]) rfl (Nat.le_of_ble_eq_true rfl) rfl d10_fair_21 ?_
    refine at_name (B := fun (v1 : Int) => At K X (ZQ K X Q) 0 0 n rt 4 22 [(3, vI v1), (2, vI a1.1), (0, vR X 117), (1, vI p0)] [] a1.2) h (fun v1 h => ?_)
    refine r_iload_n F 0 rfl rfl d10_fair_22 ?_
    refine r_ldcw F (z := 1000000000) lc10_306 d10_fair_23 ?_
    refine r_icmp_ge F (tgt := 62) d10_fair_26 (by decide) (fun hb => ?_) (fun hb => ?_)
    · replace h := wpo_neg h hb
      refine r_iconst F (z := 0) d10_fair_62 ?_
      replace h := wpo_some h
      exact r_iret F h d10_fair_63
    · replace h := wpo_pos h hb
      refine r_aload_nR F 2 rfl rfl d10_fair_29 ?_
      refine r_iload_n F 3 rfl rfl d10_fair_30 ?_
      refine r_aload_nR F 2 rfl rfl d10_fair_31 ?_
      replace h := wpo_bind h
      refine r_callV0 F lm10_320 mf10_allPersons (vc117 hn) rfl (fr := 0) (lo := 0) (As := []) (rest := [vI p0, vR X 117]) ⟨Nat.le_of_ble_eq_true rfl, Nat.le_of_ble_eq_true rfl⟩ rfl (Nat.le_of_ble_eq_true rfl) ⟨Nat.zero_le _, Nat.zero_le _⟩ d10_fair_32 ?_
      refine ok10_allPersons hn  (kI h (fun a3 h => ?_))
      replace h := wpo_bind h
      refine r_callV0 F lm10_412 mf10_sharesOf (vc117 hn) rfl (fr := 1) (lo := 22) (As := [vI p0, vI a3]) (rest := []) ⟨Nat.le_of_ble_eq_true rfl, Nat.le_of_ble_eq_true rfl⟩ rfl (Nat.le_of_ble_eq_true rfl) ⟨Nat.zero_le _, Nat.zero_le _⟩ d10_fair_35 ?_
      refine ok10_sharesOf hn  (kI h (fun a4 h => ?_))
      refine r_aload_nR F 2 rfl rfl d10_fair_38 ?_
      refine r_getR F (z := 118) lf10_9 (vc117 hn) z117_1 d10_fair_39 ?_
      refine r_iconst F (z := 5) d10_fair_42 ?_
      refine r_ialdC F (j := 5) (vc118 hn) (by decide) rfl d10_fair_43 ?_
      refine r_iload_n F 0 rfl rfl d10_fair_44 ?_
      refine r_imul F d10_fair_45 ?_
      refine r_icmp_ne F (tgt := 62) d10_fair_46 (by decide) (fun hb => ?_) (fun hb => ?_)
      · replace h := wpo_neg h hb
        refine r_iconst F (z := 0) d10_fair_62 ?_
        replace h := wpo_some h
        exact r_iret F h d10_fair_63
      · replace h := wpo_pos h hb
        refine r_aload_nR F 2 rfl rfl d10_fair_49 ?_
        refine r_iload_n F 3 rfl rfl d10_fair_50 ?_
        replace h := wpo_bind h
        refine r_callV0 F lm10_418 mf10_leaveOf (vc117 hn) rfl (fr := 2) (lo := 46) (As := [vI p0]) (rest := []) ⟨Nat.le_of_ble_eq_true rfl, Nat.le_of_ble_eq_true rfl⟩ rfl (Nat.le_of_ble_eq_true rfl) ⟨Nat.zero_le _, Nat.zero_le _⟩ d10_fair_51 ?_
        refine ok10_leaveOf hn  (kI h (fun a5 h => ?_))
        refine r_iconst F (z := (-1)) d10_fair_54 ?_
        refine r_icmp_ne F (tgt := 62) d10_fair_55 (by decide) (fun hb => ?_) (fun hb => ?_)
        · replace h := wpo_neg h hb
          refine r_iconst F (z := 0) d10_fair_62 ?_
          replace h := wpo_some h
          exact r_iret F h d10_fair_63
        · replace h := wpo_pos h hb
          refine r_iconst F (z := 1) d10_fair_58 ?_
          refine r_goto F (tgt := 63) (by decide) d10_fair_59 ?_
          replace h := wpo_some h
          exact r_iret F h d10_fair_63
  · replace h := wpo_pos h hb
    refine r_iload_n F 0 rfl rfl d10_fair_10 ?_
    replace h := wpo_some h
    exact r_iret F h d10_fair_11
theorem d10_heldBy_0 : decode c10_heldBy 0 = .ok (.aload_n 0, 1) := by decide +kernel
theorem d10_heldBy_1 : decode c10_heldBy 1 = .ok (.getfield 89, 3) := by decide +kernel
theorem d10_heldBy_4 : decode c10_heldBy 4 = .ok (.iconst 2, 1) := by decide +kernel
theorem d10_heldBy_5 : decode c10_heldBy 5 = .ok (.iconst 4, 1) := by decide +kernel
theorem d10_heldBy_6 : decode c10_heldBy 6 = .ok (.iload_n 1, 1) := by decide +kernel
theorem d10_heldBy_7 : decode c10_heldBy 7 = .ok (.imul, 1) := by decide +kernel
theorem d10_heldBy_8 : decode c10_heldBy 8 = .ok (.iload_n 2, 1) := by decide +kernel
theorem d10_heldBy_9 : decode c10_heldBy 9 = .ok (.iadd, 1) := by decide +kernel
theorem d10_heldBy_10 : decode c10_heldBy 10 = .ok (.imul, 1) := by decide +kernel
theorem d10_heldBy_11 : decode c10_heldBy 11 = .ok (.iload_n 3, 1) := by decide +kernel
theorem d10_heldBy_12 : decode c10_heldBy 12 = .ok (.iadd, 1) := by decide +kernel
theorem d10_heldBy_13 : decode c10_heldBy 13 = .ok (.iaload, 1) := by decide +kernel
theorem d10_heldBy_14 : decode c10_heldBy 14 = .ok (.ireturn, 1) := by decide +kernel
def f10_heldBy (D : Mem) (p0 : Int) (p1 : Int) (p2 : Int) : Option (Int) :=
  if 0 ≤ ((2 * ((4 * p0) + p1)) + p2) ∧ ((2 * ((4 * p0) + p1)) + p2) < 32 then
    some (D 142 ((2 * ((4 * p0) + p1)) + p2).toNat)
  else none
set_option maxHeartbeats 4000000 in
theorem ok10_heldBy {l : Launch} {X : XT} {n : Nat} {D : Mem} {Q : Option Value → Nat → Rho → Mem → Prop} (hn : 147 ≤ n) {p0 : Int} {p1 : Int} {p2 : Int}  (h : wpo (f10_heldBy D p0 p1 p2) (fun a => Q (some (vI a)) n rt D)) : MOK l y10_heldBy c10_heldBy 4 (some .int) { frames := 0, cells := 0, slots := 0, locals := 0 } 0 0 X [vR X 117, vI p0, vI p1, vI p2] n rt D Q := by
  refine MOK_of 10 (by decide +kernel) rfl (lv := [(0, vR X 117), (1, vI p0), (2, vI p1), (3, vI p2)]) (Nat.le_of_ble_eq_true rfl) rfl (fun K hK F hnm => ?_)
  subst hK
  unfold f10_heldBy at h
  refine r_aload_nR F 0 rfl rfl d10_heldBy_0 ?_
  refine r_getR F (z := 142) lf10_89 (vc117 hn) z117_42 d10_heldBy_1 ?_
  refine r_iconst F (z := 2) d10_heldBy_4 ?_
  refine r_iconst F (z := 4) d10_heldBy_5 ?_
  refine r_iload_n F 1 rfl rfl d10_heldBy_6 ?_
  refine r_imul F d10_heldBy_7 ?_
  refine r_iload_n F 2 rfl rfl d10_heldBy_8 ?_
  refine r_iadd F d10_heldBy_9 ?_
  refine r_imul F d10_heldBy_10 ?_
  refine r_iload_n F 3 rfl rfl d10_heldBy_11 ?_
  refine r_iadd F d10_heldBy_12 ?_
  obtain ⟨hx1, h⟩ := wpo_chk h
  refine r_iald F (vc142 hn) hx1 d10_heldBy_13 ?_
  replace h := wpo_some h
  exact r_iret F h d10_heldBy_14
theorem d10_layHeld_0 : decode c10_layHeld 0 = .ok (.aload_n 0, 1) := by decide +kernel
theorem d10_layHeld_1 : decode c10_layHeld 1 = .ok (.invokevirtual 274, 3) := by decide +kernel
theorem d10_layHeld_4 : decode c10_layHeld 4 = .ok (.aload_n 0, 1) := by decide +kernel
theorem d10_layHeld_5 : decode c10_layHeld 5 = .ok (.iload_n 1, 1) := by decide +kernel
theorem d10_layHeld_6 : decode c10_layHeld 6 = .ok (.invokevirtual 283, 3) := by decide +kernel
theorem d10_layHeld_9 : decode c10_layHeld 9 = .ok (.ifCond .eq 16, 3) := by decide +kernel
theorem d10_layHeld_12 : decode c10_layHeld 12 = .ok (.aload_n 0, 1) := by decide +kernel
theorem d10_layHeld_13 : decode c10_layHeld 13 = .ok (.iload_n 2, 1) := by decide +kernel
theorem d10_layHeld_14 : decode c10_layHeld 14 = .ok (.invokevirtual 283, 3) := by decide +kernel
theorem d10_layHeld_17 : decode c10_layHeld 17 = .ok (.ifCond .eq 8, 3) := by decide +kernel
theorem d10_layHeld_20 : decode c10_layHeld 20 = .ok (.iload_n 1, 1) := by decide +kernel
theorem d10_layHeld_21 : decode c10_layHeld 21 = .ok (.iload_n 2, 1) := by decide +kernel
theorem d10_layHeld_22 : decode c10_layHeld 22 = .ok (.if_icmp .ne 5, 3) := by decide +kernel
theorem d10_layHeld_25 : decode c10_layHeld 25 = .ok (.iconst 0, 1) := by decide +kernel
theorem d10_layHeld_26 : decode c10_layHeld 26 = .ok (.ireturn, 1) := by decide +kernel
theorem d10_layHeld_27 : decode c10_layHeld 27 = .ok (.iconst 0, 1) := by decide +kernel
theorem d10_layHeld_28 : decode c10_layHeld 28 = .ok (.istore_n 3, 1) := by decide +kernel
theorem d10_layHeld_29 : decode c10_layHeld 29 = .ok (.iload_n 3, 1) := by decide +kernel
theorem d10_layHeld_30 : decode c10_layHeld 30 = .ok (.bipush 16, 2) := by decide +kernel
theorem d10_layHeld_32 : decode c10_layHeld 32 = .ok (.if_icmp .ge 59, 3) := by decide +kernel
theorem d10_layHeld_35 : decode c10_layHeld 35 = .ok (.aload_n 0, 1) := by decide +kernel
theorem d10_layHeld_36 : decode c10_layHeld 36 = .ok (.getfield 43, 3) := by decide +kernel
theorem d10_layHeld_39 : decode c10_layHeld 39 = .ok (.iload_n 1, 1) := by decide +kernel
theorem d10_layHeld_40 : decode c10_layHeld 40 = .ok (.iload_n 3, 1) := by decide +kernel
theorem d10_layHeld_41 : decode c10_layHeld 41 = .ok (.iconst 4, 1) := by decide +kernel
theorem d10_layHeld_42 : decode c10_layHeld 42 = .ok (.idiv, 1) := by decide +kernel
theorem d10_layHeld_43 : decode c10_layHeld 43 = .ok (.iastore, 1) := by decide +kernel
theorem d10_layHeld_44 : decode c10_layHeld 44 = .ok (.aload_n 0, 1) := by decide +kernel
theorem d10_layHeld_45 : decode c10_layHeld 45 = .ok (.getfield 43, 3) := by decide +kernel
theorem d10_layHeld_48 : decode c10_layHeld 48 = .ok (.iload_n 2, 1) := by decide +kernel
theorem d10_layHeld_49 : decode c10_layHeld 49 = .ok (.iload_n 3, 1) := by decide +kernel
theorem d10_layHeld_50 : decode c10_layHeld 50 = .ok (.iconst 4, 1) := by decide +kernel
theorem d10_layHeld_51 : decode c10_layHeld 51 = .ok (.irem, 1) := by decide +kernel
theorem d10_layHeld_52 : decode c10_layHeld 52 = .ok (.iastore, 1) := by decide +kernel
theorem d10_layHeld_53 : decode c10_layHeld 53 = .ok (.aload_n 0, 1) := by decide +kernel
theorem d10_layHeld_54 : decode c10_layHeld 54 = .ok (.invokevirtual 277, 3) := by decide +kernel
theorem d10_layHeld_57 : decode c10_layHeld 57 = .ok (.aload_n 0, 1) := by decide +kernel
theorem d10_layHeld_58 : decode c10_layHeld 58 = .ok (.getfield 89, 3) := by decide +kernel
theorem d10_layHeld_61 : decode c10_layHeld 61 = .ok (.iconst 2, 1) := by decide +kernel
theorem d10_layHeld_62 : decode c10_layHeld 62 = .ok (.iload_n 3, 1) := by decide +kernel
theorem d10_layHeld_63 : decode c10_layHeld 63 = .ok (.imul, 1) := by decide +kernel
theorem d10_layHeld_64 : decode c10_layHeld 64 = .ok (.aload_n 0, 1) := by decide +kernel
theorem d10_layHeld_65 : decode c10_layHeld 65 = .ok (.iload_n 1, 1) := by decide +kernel
theorem d10_layHeld_66 : decode c10_layHeld 66 = .ok (.invokevirtual 271, 3) := by decide +kernel
theorem d10_layHeld_69 : decode c10_layHeld 69 = .ok (.iastore, 1) := by decide +kernel
theorem d10_layHeld_70 : decode c10_layHeld 70 = .ok (.aload_n 0, 1) := by decide +kernel
theorem d10_layHeld_71 : decode c10_layHeld 71 = .ok (.getfield 89, 3) := by decide +kernel
theorem d10_layHeld_74 : decode c10_layHeld 74 = .ok (.iconst 2, 1) := by decide +kernel
theorem d10_layHeld_75 : decode c10_layHeld 75 = .ok (.iload_n 3, 1) := by decide +kernel
theorem d10_layHeld_76 : decode c10_layHeld 76 = .ok (.imul, 1) := by decide +kernel
theorem d10_layHeld_77 : decode c10_layHeld 77 = .ok (.iconst 1, 1) := by decide +kernel
theorem d10_layHeld_78 : decode c10_layHeld 78 = .ok (.iadd, 1) := by decide +kernel
theorem d10_layHeld_79 : decode c10_layHeld 79 = .ok (.aload_n 0, 1) := by decide +kernel
theorem d10_layHeld_80 : decode c10_layHeld 80 = .ok (.iload_n 2, 1) := by decide +kernel
theorem d10_layHeld_81 : decode c10_layHeld 81 = .ok (.invokevirtual 271, 3) := by decide +kernel
theorem d10_layHeld_84 : decode c10_layHeld 84 = .ok (.iastore, 1) := by decide +kernel
theorem d10_layHeld_85 : decode c10_layHeld 85 = .ok (.iinc 3 1, 3) := by decide +kernel
theorem d10_layHeld_88 : decode c10_layHeld 88 = .ok (.goto (-59), 3) := by decide +kernel
theorem d10_layHeld_91 : decode c10_layHeld 91 = .ok (.iconst 1, 1) := by decide +kernel
theorem d10_layHeld_92 : decode c10_layHeld 92 = .ok (.ireturn, 1) := by decide +kernel
def f10_layHeld (D : Mem) (p0 : Int) (p1 : Int) : Option (Int × Mem) :=
  Option.bind (f10_asItIs D) fun (a1 : Mem) =>
  Option.bind (f10_isPerson a1 p0) fun (a2 : Int) =>
  if w32 a2 = 0 then
    some (0, a1)
  else
    Option.bind (f10_isPerson a1 p1) fun (a3 : Int) =>
    if w32 a3 = 0 then
      some (0, a1)
    else
      if w32 p0 = w32 p1 then
        some (0, a1)
      else
        Option.bind (@loop (Int × Mem) (Mem) (fun s1 =>
          if w32 s1.1 < w32 16 then
            if 0 ≤ p0 ∧ p0 < 8 then
              Option.bind (some (mset s1.2 127 p0.toNat (div32 s1.1 4))) fun (D1 : Mem) =>
              if 0 ≤ p1 ∧ p1 < 8 then
                Option.bind (some (mset D1 127 p1.toNat (rem32 s1.1 4))) fun (D2 : Mem) =>
                Option.bind (f10_goNights D2) fun (a4 : Mem) =>
                Option.bind (f10_bearsOf a4 p0) fun (a5 : Int) =>
                if 0 ≤ (2 * s1.1) ∧ (2 * s1.1) < 32 then
                  Option.bind (some (mset a4 142 (2 * s1.1).toNat a5)) fun (D3 : Mem) =>
                  Option.bind (f10_bearsOf D3 p1) fun (a6 : Int) =>
                  if 0 ≤ ((2 * s1.1) + 1) ∧ ((2 * s1.1) + 1) < 32 then
                    some (Sum.inl ((s1.1 + 1), (mset D3 142 ((2 * s1.1) + 1).toNat a6)))
                  else none
                else none
              else none
            else none
          else
            some (Sum.inr s1.2)
        ) FU (0, a1)) fun (b1 : Mem) =>
        some (1, b1)
set_option maxHeartbeats 4000000 in
theorem ok10_layHeld {l : Launch} {X : XT} {n : Nat} {D : Mem} {Q : Option Value → Nat → Rho → Mem → Prop} (hn : 147 ≤ n) {p0 : Int} {p1 : Int}  (h : wpo (f10_layHeld D p0 p1) (fun a => Q (some (vI a.1)) n rt a.2)) : MOK l y10_layHeld c10_layHeld 4 (some .boolean) { frames := 4, cells := 0, slots := 0, locals := 93 } 0 0 X [vR X 117, vI p0, vI p1] n rt D Q := by
  refine MOK_of 10 (by decide +kernel) rfl (lv := [(0, vR X 117), (1, vI p0), (2, vI p1)]) (Nat.le_of_ble_eq_true rfl) rfl (fun K hK F hnm => ?_)
  subst hK
  unfold f10_layHeld at h
  refine r_aload_nR F 0 rfl rfl d10_layHeld_0 ?_
  replace h := wpo_bind h
  refine r_callV0 F lm10_274 mf10_asItIs (vc117 hn) rfl (fr := 1) (lo := 22) (As := []) (rest := []) ⟨Nat.le_of_ble_eq_true rfl, Nat.le_of_ble_eq_true rfl⟩ rfl (Nat.le_of_ble_eq_true rfl) ⟨Nat.zero_le _, Nat.zero_le _⟩ d10_layHeld_1 ?_
  refine ok10_asItIs hn  (kVm h (fun a1 h => ?_))
  refine r_aload_nR F 0 rfl rfl d10_layHeld_4 ?_
  refine r_iload_n F 1 rfl rfl d10_layHeld_5 ?_
  replace h := wpo_bind h
  refine r_callV0 F lm10_283 mf10_isPerson (vc117 hn) rfl (fr := 1) (lo := 25) (As := [vI p0]) (rest := []) ⟨Nat.le_of_ble_eq_true rfl, Nat.le_of_ble_eq_true rfl⟩ rfl (Nat.le_of_ble_eq_true rfl) ⟨Nat.zero_le _, Nat.zero_le _⟩ d10_layHeld_6 ?_
  refine ok10_isPerson hn  (kI h (fun a2 h => ?_))
  refine r_if_eq F (tgt := 25) d10_layHeld_9 (by decide) (fun hb => ?_) (fun hb => ?_)
  · replace h := wpo_pos h hb
    refine r_iconst F (z := 0) d10_layHeld_25 ?_
    replace h := wpo_some h
    exact r_zret F (Or.inl rfl) h d10_layHeld_26
  · replace h := wpo_neg h hb
    refine r_aload_nR F 0 rfl rfl d10_layHeld_12 ?_
    refine r_iload_n F 2 rfl rfl d10_layHeld_13 ?_
    replace h := wpo_bind h
    refine r_callV0 F lm10_283 mf10_isPerson (vc117 hn) rfl (fr := 1) (lo := 25) (As := [vI p1]) (rest := []) ⟨Nat.le_of_ble_eq_true rfl, Nat.le_of_ble_eq_true rfl⟩ rfl (Nat.le_of_ble_eq_true rfl) ⟨Nat.zero_le _, Nat.zero_le _⟩ d10_layHeld_14 ?_
    refine ok10_isPerson hn  (kI h (fun a3 h => ?_))
    refine r_if_eq F (tgt := 25) d10_layHeld_17 (by decide) (fun hb => ?_) (fun hb => ?_)
    · replace h := wpo_pos h hb
      refine r_iconst F (z := 0) d10_layHeld_25 ?_
      replace h := wpo_some h
      exact r_zret F (Or.inl rfl) h d10_layHeld_26
    · replace h := wpo_neg h hb
      refine r_iload_n F 1 rfl rfl d10_layHeld_20 ?_
      refine r_iload_n F 2 rfl rfl d10_layHeld_21 ?_
      refine r_icmp_ne F (tgt := 27) d10_layHeld_22 (by decide) (fun hb => ?_) (fun hb => ?_)
      · replace h := wpo_neg h hb
        refine r_iconst F (z := 0) d10_layHeld_27 ?_
        refine r_istore_n F (lv' := [(3, vI 0), (0, vR X 117), (1, vI p0), (2, vI p1)]) rfl (Nat.le_of_ble_eq_true rfl) rfl d10_layHeld_28 ?_
        refine r_weak [1, 2, 3, 0] rfl ?_
        refine at_loopj (A := fun (s1 : Int × Mem) => At K X (ZQ K X Q) 0 0 n rt 4 29 [(0, vR X 117), (1, vI p0), (2, vI p1), (3, vI s1.1)] [] s1.2) (B := fun (b1 : Mem) => At K X (ZQ K X Q) 0 0 n rt 4 91 [] [] b1) h (fun b1 h => ?_) (fun s1 h => ?_)
        · refine r_iconst F (z := 1) d10_layHeld_91 ?_
          replace h := wpo_some h
          exact r_zret F (Or.inr rfl) h d10_layHeld_92
        · refine r_iload_n F 3 rfl rfl d10_layHeld_29 ?_
          refine r_bipush F (z := 16) (by decide) d10_layHeld_30 ?_
          refine r_icmp_ge F (tgt := 91) d10_layHeld_32 (by decide) (fun hb => ?_) (fun hb => ?_)
          · replace h := wpo_neg h hb
            refine r_weak [] rfl ?_
            replace h := wpo_inr h
            exact h
          · replace h := wpo_pos h hb
            refine r_aload_nR F 0 rfl rfl d10_layHeld_35 ?_
            refine r_getR F (z := 127) lf10_43 (vc117 hn) z117_18 d10_layHeld_36 ?_
            refine r_iload_n F 1 rfl rfl d10_layHeld_39 ?_
            refine r_iload_n F 3 rfl rfl d10_layHeld_40 ?_
            refine r_iconst F (z := 4) d10_layHeld_41 ?_
            refine r_idiv F (by decide +kernel) d10_layHeld_42 ?_
            obtain ⟨hx1, h⟩ := wpo_chk h
            refine r_iast F (vc127 hn) hx1 d10_layHeld_43 ?_
            refine r_aload_nR F 0 rfl rfl d10_layHeld_44 ?_
            refine r_getR F (z := 127) lf10_43 (vc117 hn) z117_18 d10_layHeld_45 ?_
            refine r_iload_n F 2 rfl rfl d10_layHeld_48 ?_
            refine r_iload_n F 3 rfl rfl d10_layHeld_49 ?_
            refine r_iconst F (z := 4) d10_layHeld_50 ?_
            refine r_irem F (by decide +kernel) d10_layHeld_51 ?_
            refine at_name (B := fun (D1 : Mem) => At K X (ZQ K X Q) 0 0 n rt 4 52 [(0, vR X 117), (1, vI p0), (2, vI p1), (3, vI s1.1)] [vI (rem32 s1.1 4), vI p1, vR X 127] D1) h (fun D1 h => ?_)
            obtain ⟨hx2, h⟩ := wpo_chk h
            refine r_iast F (vc127 hn) hx2 d10_layHeld_52 ?_
            refine r_aload_nR F 0 rfl rfl d10_layHeld_53 ?_
            refine at_name (B := fun (D2 : Mem) => At K X (ZQ K X Q) 0 0 n rt 4 54 [(0, vR X 117), (1, vI p0), (2, vI p1), (3, vI s1.1)] [vR X 117] D2) h (fun D2 h => ?_)
            replace h := wpo_bind h
            refine r_callV0 F lm10_277 mf10_goNights (vc117 hn) rfl (fr := 3) (lo := 72) (As := []) (rest := []) ⟨Nat.le_of_ble_eq_true rfl, Nat.le_of_ble_eq_true rfl⟩ rfl (Nat.le_of_ble_eq_true rfl) ⟨Nat.zero_le _, Nat.zero_le _⟩ d10_layHeld_54 ?_
            refine ok10_goNights hn  (kVm h (fun a4 h => ?_))
            refine r_aload_nR F 0 rfl rfl d10_layHeld_57 ?_
            refine r_getR F (z := 142) lf10_89 (vc117 hn) z117_42 d10_layHeld_58 ?_
            refine r_iconst F (z := 2) d10_layHeld_61 ?_
            refine r_iload_n F 3 rfl rfl d10_layHeld_62 ?_
            refine r_imul F d10_layHeld_63 ?_
            refine r_aload_nR F 0 rfl rfl d10_layHeld_64 ?_
            refine r_iload_n F 1 rfl rfl d10_layHeld_65 ?_
            replace h := wpo_bind h
            refine r_callV0 F lm10_271 mf10_bearsOf (vc117 hn) rfl (fr := 3) (lo := 66) (As := [vI p0]) (rest := [vI (2 * s1.1), vR X 142]) ⟨Nat.le_of_ble_eq_true rfl, Nat.le_of_ble_eq_true rfl⟩ rfl (Nat.le_of_ble_eq_true rfl) ⟨Nat.zero_le _, Nat.zero_le _⟩ d10_layHeld_66 ?_
            refine ok10_bearsOf hn  (kI h (fun a5 h => ?_))
            obtain ⟨hx3, h⟩ := wpo_chk h
            refine r_iast F (vc142 hn) hx3 d10_layHeld_69 ?_
            refine r_aload_nR F 0 rfl rfl d10_layHeld_70 ?_
            refine r_getR F (z := 142) lf10_89 (vc117 hn) z117_42 d10_layHeld_71 ?_
            refine r_iconst F (z := 2) d10_layHeld_74 ?_
            refine r_iload_n F 3 rfl rfl d10_layHeld_75 ?_
            refine r_imul F d10_layHeld_76 ?_
            refine r_iconst F (z := 1) d10_layHeld_77 ?_
            refine r_iadd F d10_layHeld_78 ?_
            refine r_aload_nR F 0 rfl rfl d10_layHeld_79 ?_
            refine r_iload_n F 2 rfl rfl d10_layHeld_80 ?_
            refine at_name (B := fun (D3 : Mem) => At K X (ZQ K X Q) 0 0 n rt 4 81 [(0, vR X 117), (1, vI p0), (2, vI p1), (3, vI s1.1)] [vI p1, vR X 117, vI ((2 * s1.1) + 1), vR X 142] D3) h (fun D3 h => ?_)
            replace h := wpo_bind h
            refine r_callV0 F lm10_271 mf10_bearsOf (vc117 hn) rfl (fr := 3) (lo := 66) (As := [vI p1]) (rest := [vI ((2 * s1.1) + 1), vR X 142]) ⟨Nat.le_of_ble_eq_true rfl, Nat.le_of_ble_eq_true rfl⟩ rfl (Nat.le_of_ble_eq_true rfl) ⟨Nat.zero_le _, Nat.zero_le _⟩ d10_layHeld_81 ?_
            refine ok10_bearsOf hn  (kI h (fun a6 h => ?_))
            obtain ⟨hx4, h⟩ := wpo_chk h
            refine r_iast F (vc142 hn) hx4 d10_layHeld_84 ?_
            refine r_iinc F 3 (lv' := [(3, vI (s1.1 + 1)), (0, vR X 117), (1, vI p0), (2, vI p1)]) rfl (Nat.le_of_ble_eq_true rfl) rfl d10_layHeld_85 ?_
            refine r_goto F (tgt := 29) (by decide) d10_layHeld_88 ?_
            refine r_weak [1, 2, 3, 0] rfl ?_
            replace h := wpo_inl h
            exact h
      · replace h := wpo_pos h hb
        refine r_iconst F (z := 0) d10_layHeld_25 ?_
        replace h := wpo_some h
        exact r_zret F (Or.inl rfl) h d10_layHeld_26
theorem d10_isRest_0 : decode c10_isRest 0 = .ok (.iconst 0, 1) := by decide +kernel
theorem d10_isRest_1 : decode c10_isRest 1 = .ok (.istore_n 3, 1) := by decide +kernel
theorem d10_isRest_2 : decode c10_isRest 2 = .ok (.iload_n 3, 1) := by decide +kernel
theorem d10_isRest_3 : decode c10_isRest 3 = .ok (.iconst 4, 1) := by decide +kernel
theorem d10_isRest_4 : decode c10_isRest 4 = .ok (.if_icmp .ge 45, 3) := by decide +kernel
theorem d10_isRest_7 : decode c10_isRest 7 = .ok (.aload_n 0, 1) := by decide +kernel
theorem d10_isRest_8 : decode c10_isRest 8 = .ok (.iload_n 3, 1) := by decide +kernel
theorem d10_isRest_9 : decode c10_isRest 9 = .ok (.iload_n 2, 1) := by decide +kernel
theorem d10_isRest_10 : decode c10_isRest 10 = .ok (.iconst 0, 1) := by decide +kernel
theorem d10_isRest_11 : decode c10_isRest 11 = .ok (.invokevirtual 421, 3) := by decide +kernel
theorem d10_isRest_14 : decode c10_isRest 14 = .ok (.aload_n 0, 1) := by decide +kernel
theorem d10_isRest_15 : decode c10_isRest 15 = .ok (.iload_n 1, 1) := by decide +kernel
theorem d10_isRest_16 : decode c10_isRest 16 = .ok (.iload_n 2, 1) := by decide +kernel
theorem d10_isRest_17 : decode c10_isRest 17 = .ok (.iconst 0, 1) := by decide +kernel
theorem d10_isRest_18 : decode c10_isRest 18 = .ok (.invokevirtual 421, 3) := by decide +kernel
theorem d10_isRest_21 : decode c10_isRest 21 = .ok (.if_icmp .lt 20, 3) := by decide +kernel
theorem d10_isRest_24 : decode c10_isRest 24 = .ok (.aload_n 0, 1) := by decide +kernel
theorem d10_isRest_25 : decode c10_isRest 25 = .ok (.iload_n 1, 1) := by decide +kernel
theorem d10_isRest_26 : decode c10_isRest 26 = .ok (.iload_n 3, 1) := by decide +kernel
theorem d10_isRest_27 : decode c10_isRest 27 = .ok (.iconst 1, 1) := by decide +kernel
theorem d10_isRest_28 : decode c10_isRest 28 = .ok (.invokevirtual 421, 3) := by decide +kernel
theorem d10_isRest_31 : decode c10_isRest 31 = .ok (.aload_n 0, 1) := by decide +kernel
theorem d10_isRest_32 : decode c10_isRest 32 = .ok (.iload_n 1, 1) := by decide +kernel
theorem d10_isRest_33 : decode c10_isRest 33 = .ok (.iload_n 2, 1) := by decide +kernel
theorem d10_isRest_34 : decode c10_isRest 34 = .ok (.iconst 1, 1) := by decide +kernel
theorem d10_isRest_35 : decode c10_isRest 35 = .ok (.invokevirtual 421, 3) := by decide +kernel
theorem d10_isRest_38 : decode c10_isRest 38 = .ok (.if_icmp .ge 5, 3) := by decide +kernel
theorem d10_isRest_41 : decode c10_isRest 41 = .ok (.iconst 0, 1) := by decide +kernel
theorem d10_isRest_42 : decode c10_isRest 42 = .ok (.ireturn, 1) := by decide +kernel
theorem d10_isRest_43 : decode c10_isRest 43 = .ok (.iinc 3 1, 3) := by decide +kernel
theorem d10_isRest_46 : decode c10_isRest 46 = .ok (.goto (-44), 3) := by decide +kernel
theorem d10_isRest_49 : decode c10_isRest 49 = .ok (.iconst 1, 1) := by decide +kernel
theorem d10_isRest_50 : decode c10_isRest 50 = .ok (.ireturn, 1) := by decide +kernel
def f10_isRest (D : Mem) (p0 : Int) (p1 : Int) : Option (Int) :=
  Option.bind (@loop (Int) ((Unit) ⊕ (Int)) (fun s1 =>
    if w32 s1 < w32 4 then
      Option.bind (f10_heldBy D s1 p1 0) fun (a1 : Int) =>
      Option.bind (f10_heldBy D p0 p1 0) fun (a2 : Int) =>
      if w32 a1 < w32 a2 then
        some (Sum.inr (Sum.inr 0))
      else
        Option.bind (f10_heldBy D p0 s1 1) fun (a3 : Int) =>
        Option.bind (f10_heldBy D p0 p1 1) fun (a4 : Int) =>
        if w32 a3 < w32 a4 then
          some (Sum.inr (Sum.inr 0))
        else
          some (Sum.inl (s1 + 1))
    else
      some (Sum.inr (Sum.inl ()))
  ) FU 0) (fun z => Sum.elim (fun (b1 : Unit) =>
    some 1
  ) (fun rv => some rv) z)
set_option maxHeartbeats 4000000 in
theorem ok10_isRest {l : Launch} {X : XT} {n : Nat} {D : Mem} {Q : Option Value → Nat → Rho → Mem → Prop} (hn : 147 ≤ n) {p0 : Int} {p1 : Int}  (h : wpo (f10_isRest D p0 p1) (fun a => Q (some (vI a)) n rt D)) : MOK l y10_isRest c10_isRest 4 (some .boolean) { frames := 1, cells := 0, slots := 0, locals := 23 } 0 0 X [vR X 117, vI p0, vI p1] n rt D Q := by
  refine MOK_of 10 (by decide +kernel) rfl (lv := [(0, vR X 117), (1, vI p0), (2, vI p1)]) (Nat.le_of_ble_eq_true rfl) rfl (fun K hK F hnm => ?_)
  subst hK
  unfold f10_isRest at h
  refine r_iconst F (z := 0) d10_isRest_0 ?_
  refine r_istore_n F (lv' := [(3, vI 0), (0, vR X 117), (1, vI p0), (2, vI p1)]) rfl (Nat.le_of_ble_eq_true rfl) rfl d10_isRest_1 ?_
  refine r_weak [1, 2, 3, 0] rfl ?_
  refine at_loopj (A := fun (s1 : Int) => At K X (ZQ K X Q) 0 0 n rt 4 2 [(0, vR X 117), (1, vI p0), (2, vI p1), (3, vI s1)] [] D) (B := Sum.elim (fun (b1 : Unit) => At K X (ZQ K X Q) 0 0 n rt 4 49 [] [] D) (fun rv => Q (some (vI rv)) n rt D)) h (fun z h => ?_) (fun s1 h => ?_)
  · rcases z with b1 | rv
    · replace h := elim_l h
      refine el_li ?_
      refine r_iconst F (z := 1) d10_isRest_49 ?_
      replace h := wpo_some h
      exact r_zret F (Or.inr rfl) h d10_isRest_50
    · replace h := elim_r h
      replace h := wpo_some h
      exact el_ri h
  · refine r_iload_n F 3 rfl rfl d10_isRest_2 ?_
    refine r_iconst F (z := 4) d10_isRest_3 ?_
    refine r_icmp_ge F (tgt := 49) d10_isRest_4 (by decide) (fun hb => ?_) (fun hb => ?_)
    · replace h := wpo_neg h hb
      refine r_weak [] rfl ?_
      replace h := wpo_inr h
      replace h := el_l h
      exact h
    · replace h := wpo_pos h hb
      refine r_aload_nR F 0 rfl rfl d10_isRest_7 ?_
      refine r_iload_n F 3 rfl rfl d10_isRest_8 ?_
      refine r_iload_n F 2 rfl rfl d10_isRest_9 ?_
      refine r_iconst F (z := 0) d10_isRest_10 ?_
      replace h := wpo_bind h
      refine r_callV0 F lm10_421 mf10_heldBy (vc117 hn) rfl (fr := 0) (lo := 0) (As := [vI s1, vI p1, vI 0]) (rest := []) ⟨Nat.le_of_ble_eq_true rfl, Nat.le_of_ble_eq_true rfl⟩ rfl (Nat.le_of_ble_eq_true rfl) ⟨Nat.zero_le _, Nat.zero_le _⟩ d10_isRest_11 ?_
      refine ok10_heldBy hn  (kI h (fun a1 h => ?_))
      refine r_aload_nR F 0 rfl rfl d10_isRest_14 ?_
      refine r_iload_n F 1 rfl rfl d10_isRest_15 ?_
      refine r_iload_n F 2 rfl rfl d10_isRest_16 ?_
      refine r_iconst F (z := 0) d10_isRest_17 ?_
      replace h := wpo_bind h
      refine r_callV0 F lm10_421 mf10_heldBy (vc117 hn) rfl (fr := 0) (lo := 0) (As := [vI p0, vI p1, vI 0]) (rest := [vI a1]) ⟨Nat.le_of_ble_eq_true rfl, Nat.le_of_ble_eq_true rfl⟩ rfl (Nat.le_of_ble_eq_true rfl) ⟨Nat.zero_le _, Nat.zero_le _⟩ d10_isRest_18 ?_
      refine ok10_heldBy hn  (kI h (fun a2 h => ?_))
      refine r_icmp_lt F (tgt := 41) d10_isRest_21 (by decide) (fun hb => ?_) (fun hb => ?_)
      · replace h := wpo_pos h hb
        refine r_iconst F (z := 0) d10_isRest_41 ?_
        replace h := el_r (wpo_inr h)
        exact r_zret F (Or.inl rfl) h d10_isRest_42
      · replace h := wpo_neg h hb
        refine r_aload_nR F 0 rfl rfl d10_isRest_24 ?_
        refine r_iload_n F 1 rfl rfl d10_isRest_25 ?_
        refine r_iload_n F 3 rfl rfl d10_isRest_26 ?_
        refine r_iconst F (z := 1) d10_isRest_27 ?_
        replace h := wpo_bind h
        refine r_callV0 F lm10_421 mf10_heldBy (vc117 hn) rfl (fr := 0) (lo := 0) (As := [vI p0, vI s1, vI 1]) (rest := []) ⟨Nat.le_of_ble_eq_true rfl, Nat.le_of_ble_eq_true rfl⟩ rfl (Nat.le_of_ble_eq_true rfl) ⟨Nat.zero_le _, Nat.zero_le _⟩ d10_isRest_28 ?_
        refine ok10_heldBy hn  (kI h (fun a3 h => ?_))
        refine r_aload_nR F 0 rfl rfl d10_isRest_31 ?_
        refine r_iload_n F 1 rfl rfl d10_isRest_32 ?_
        refine r_iload_n F 2 rfl rfl d10_isRest_33 ?_
        refine r_iconst F (z := 1) d10_isRest_34 ?_
        replace h := wpo_bind h
        refine r_callV0 F lm10_421 mf10_heldBy (vc117 hn) rfl (fr := 0) (lo := 0) (As := [vI p0, vI p1, vI 1]) (rest := [vI a3]) ⟨Nat.le_of_ble_eq_true rfl, Nat.le_of_ble_eq_true rfl⟩ rfl (Nat.le_of_ble_eq_true rfl) ⟨Nat.zero_le _, Nat.zero_le _⟩ d10_isRest_35 ?_
        refine ok10_heldBy hn  (kI h (fun a4 h => ?_))
        refine r_icmp_ge F (tgt := 43) d10_isRest_38 (by decide) (fun hb => ?_) (fun hb => ?_)
        · replace h := wpo_neg h hb
          refine r_iinc F 3 (lv' := [(3, vI (s1 + 1)), (0, vR X 117), (1, vI p0), (2, vI p1)]) rfl (Nat.le_of_ble_eq_true rfl) rfl d10_isRest_43 ?_
          refine r_goto F (tgt := 2) (by decide) d10_isRest_46 ?_
          refine r_weak [1, 2, 3, 0] rfl ?_
          replace h := wpo_inl h
          exact h
        · replace h := wpo_pos h hb
          refine r_iconst F (z := 0) d10_isRest_41 ?_
          replace h := el_r (wpo_inr h)
          exact r_zret F (Or.inl rfl) h d10_isRest_42
theorem d10_rests_0 : decode c10_rests 0 = .ok (.aload_n 0, 1) := by decide +kernel
theorem d10_rests_1 : decode c10_rests 1 = .ok (.iload_n 1, 1) := by decide +kernel
theorem d10_rests_2 : decode c10_rests 2 = .ok (.iload_n 2, 1) := by decide +kernel
theorem d10_rests_3 : decode c10_rests 3 = .ok (.invokevirtual 424, 3) := by decide +kernel
theorem d10_rests_6 : decode c10_rests 6 = .ok (.ifCond .ne 6, 3) := by decide +kernel
theorem d10_rests_9 : decode c10_rests 9 = .ok (.bipush (-2), 2) := by decide +kernel
theorem d10_rests_11 : decode c10_rests 11 = .ok (.ireturn, 1) := by decide +kernel
theorem d10_rests_12 : decode c10_rests 12 = .ok (.iconst 0, 1) := by decide +kernel
theorem d10_rests_13 : decode c10_rests 13 = .ok (.istore_n 3, 1) := by decide +kernel
theorem d10_rests_14 : decode c10_rests 14 = .ok (.iconst 0, 1) := by decide +kernel
theorem d10_rests_15 : decode c10_rests 15 = .ok (.istore 4, 2) := by decide +kernel
theorem d10_rests_17 : decode c10_rests 17 = .ok (.iload 4, 2) := by decide +kernel
theorem d10_rests_19 : decode c10_rests 19 = .ok (.bipush 16, 2) := by decide +kernel
theorem d10_rests_21 : decode c10_rests 21 = .ok (.if_icmp .ge 32, 3) := by decide +kernel
theorem d10_rests_24 : decode c10_rests 24 = .ok (.iload_n 3, 1) := by decide +kernel
theorem d10_rests_25 : decode c10_rests 25 = .ok (.aload_n 0, 1) := by decide +kernel
theorem d10_rests_26 : decode c10_rests 26 = .ok (.iload 4, 2) := by decide +kernel
theorem d10_rests_28 : decode c10_rests 28 = .ok (.iconst 4, 1) := by decide +kernel
theorem d10_rests_29 : decode c10_rests 29 = .ok (.idiv, 1) := by decide +kernel
theorem d10_rests_30 : decode c10_rests 30 = .ok (.iload 4, 2) := by decide +kernel
theorem d10_rests_32 : decode c10_rests 32 = .ok (.iconst 4, 1) := by decide +kernel
theorem d10_rests_33 : decode c10_rests 33 = .ok (.irem, 1) := by decide +kernel
theorem d10_rests_34 : decode c10_rests 34 = .ok (.invokevirtual 427, 3) := by decide +kernel
theorem d10_rests_37 : decode c10_rests 37 = .ok (.ifCond .eq 7, 3) := by decide +kernel
theorem d10_rests_40 : decode c10_rests 40 = .ok (.iconst 1, 1) := by decide +kernel
theorem d10_rests_41 : decode c10_rests 41 = .ok (.goto 4, 3) := by decide +kernel
theorem d10_rests_44 : decode c10_rests 44 = .ok (.iconst 0, 1) := by decide +kernel
theorem d10_rests_45 : decode c10_rests 45 = .ok (.iadd, 1) := by decide +kernel
theorem d10_rests_46 : decode c10_rests 46 = .ok (.istore_n 3, 1) := by decide +kernel
theorem d10_rests_47 : decode c10_rests 47 = .ok (.iinc 4 1, 3) := by decide +kernel
theorem d10_rests_50 : decode c10_rests 50 = .ok (.goto (-33), 3) := by decide +kernel
theorem d10_rests_53 : decode c10_rests 53 = .ok (.iload_n 3, 1) := by decide +kernel
theorem d10_rests_54 : decode c10_rests 54 = .ok (.ireturn, 1) := by decide +kernel
def f10_rests (D : Mem) (p0 : Int) (p1 : Int) : Option (Int × Mem) :=
  Option.bind (f10_layHeld D p0 p1) fun (a1 : Int × Mem) =>
  if w32 a1.1 = 0 then
    some ((-2), a1.2)
  else
    Option.bind (@loop (Int × Int) (Int) (fun s1 =>
      if w32 s1.2 < w32 16 then
        Option.bind (f10_isRest a1.2 (div32 s1.2 4) (rem32 s1.2 4)) fun (a2 : Int) =>
        Option.bind (
          if w32 a2 = 0 then
            some 0
          else
            some 1
        ) fun (j1 : Int) =>
        some (Sum.inl ((s1.1 + j1), (s1.2 + 1)))
      else
        some (Sum.inr s1.1)
    ) FU (0, 0)) fun (b1 : Int) =>
    some (b1, a1.2)
set_option maxHeartbeats 4000000 in
theorem ok10_rests {l : Launch} {X : XT} {n : Nat} {D : Mem} {Q : Option Value → Nat → Rho → Mem → Prop} (hn : 147 ≤ n) {p0 : Int} {p1 : Int}  (h : wpo (f10_rests D p0 p1) (fun a => Q (some (vI a.1)) n rt a.2)) : MOK l y10_rests c10_rests 5 (some .int) { frames := 5, cells := 0, slots := 0, locals := 116 } 0 0 X [vR X 117, vI p0, vI p1] n rt D Q := by
  refine MOK_of 10 (by decide +kernel) rfl (lv := [(0, vR X 117), (1, vI p0), (2, vI p1)]) (Nat.le_of_ble_eq_true rfl) rfl (fun K hK F hnm => ?_)
  subst hK
  unfold f10_rests at h
  refine r_aload_nR F 0 rfl rfl d10_rests_0 ?_
  refine r_iload_n F 1 rfl rfl d10_rests_1 ?_
  refine r_iload_n F 2 rfl rfl d10_rests_2 ?_
  replace h := wpo_bind h
  refine r_callV0 F lm10_424 mf10_layHeld (vc117 hn) rfl (fr := 4) (lo := 93) (As := [vI p0, vI p1]) (rest := []) ⟨Nat.le_of_ble_eq_true rfl, Nat.le_of_ble_eq_true rfl⟩ rfl (Nat.le_of_ble_eq_true rfl) ⟨Nat.zero_le _, Nat.zero_le _⟩ d10_rests_3 ?_
  refine ok10_layHeld hn  (kIm h (fun a1 h => ?_))
  refine r_if_ne F (tgt := 12) d10_rests_6 (by decide) (fun hb => ?_) (fun hb => ?_)
  · replace h := wpo_neg h hb
    refine r_iconst F (z := 0) d10_rests_12 ?_
    refine r_istore_n F (lv' := [(3, vI 0), (0, vR X 117), (1, vI p0), (2, vI p1)]) rfl (Nat.le_of_ble_eq_true rfl) rfl d10_rests_13 ?_
    refine r_iconst F (z := 0) d10_rests_14 ?_
    refine r_istore F (lv' := [(4, vI 0), (3, vI 0), (0, vR X 117), (1, vI p0), (2, vI p1)]) (Nat.le_of_ble_eq_true rfl) rfl d10_rests_15 ?_
    refine r_weak [2, 1, 0] rfl ?_
    refine at_loopj (A := fun (s1 : Int × Int) => At K X (ZQ K X Q) 0 0 n rt 5 17 [(0, vR X 117), (3, vI s1.1), (4, vI s1.2)] [] a1.2) (B := fun (b1 : Int) => At K X (ZQ K X Q) 0 0 n rt 5 53 [(3, vI b1)] [] a1.2) h (fun b1 h => ?_) (fun s1 h => ?_)
    · refine r_iload_n F 0 rfl rfl d10_rests_53 ?_
      replace h := wpo_some h
      exact r_iret F h d10_rests_54
    · refine r_iload F 2 rfl d10_rests_17 ?_
      refine r_bipush F (z := 16) (by decide) d10_rests_19 ?_
      refine r_icmp_ge F (tgt := 53) d10_rests_21 (by decide) (fun hb => ?_) (fun hb => ?_)
      · replace h := wpo_neg h hb
        refine r_weak [1] rfl ?_
        replace h := wpo_inr h
        exact h
      · replace h := wpo_pos h hb
        refine r_iload_n F 1 rfl rfl d10_rests_24 ?_
        refine r_aload_nR F 0 rfl rfl d10_rests_25 ?_
        refine r_iload F 2 rfl d10_rests_26 ?_
        refine r_iconst F (z := 4) d10_rests_28 ?_
        refine r_idiv F (by decide +kernel) d10_rests_29 ?_
        refine r_iload F 2 rfl d10_rests_30 ?_
        refine r_iconst F (z := 4) d10_rests_32 ?_
        refine r_irem F (by decide +kernel) d10_rests_33 ?_
        replace h := wpo_bind h
        refine r_callV0 F lm10_427 mf10_isRest (vc117 hn) rfl (fr := 1) (lo := 23) (As := [vI (div32 s1.2 4), vI (rem32 s1.2 4)]) (rest := [vI s1.1]) ⟨Nat.le_of_ble_eq_true rfl, Nat.le_of_ble_eq_true rfl⟩ rfl (Nat.le_of_ble_eq_true rfl) ⟨Nat.zero_le _, Nat.zero_le _⟩ d10_rests_34 ?_
        refine ok10_isRest hn  (kI h (fun a2 h => ?_))
        refine at_join (B := fun (j1 : Int) => At K X (ZQ K X Q) 0 0 n rt 5 45 [(0, vR X 117), (4, vI s1.2)] [vI j1, vI s1.1] a1.2) h (fun j1 h => ?_) (fun h => ?_)
        · refine r_iadd F d10_rests_45 ?_
          refine r_istore_n F (lv' := [(3, vI (s1.1 + j1)), (0, vR X 117), (4, vI s1.2)]) rfl (Nat.le_of_ble_eq_true rfl) rfl d10_rests_46 ?_
          refine r_iinc F 2 (lv' := [(4, vI (s1.2 + 1)), (3, vI (s1.1 + j1)), (0, vR X 117)]) rfl (Nat.le_of_ble_eq_true rfl) rfl d10_rests_47 ?_
          refine r_goto F (tgt := 17) (by decide) d10_rests_50 ?_
          refine r_weak [2, 1, 0] rfl ?_
          replace h := wpo_inl h
          exact h
        · refine r_if_eq F (tgt := 44) d10_rests_37 (by decide) (fun hb => ?_) (fun hb => ?_)
          · replace h := wpo_pos h hb
            refine r_iconst F (z := 0) d10_rests_44 ?_
            refine r_weak [0, 2] rfl ?_
            replace h := wpo_some h
            exact h
          · replace h := wpo_neg h hb
            refine r_iconst F (z := 1) d10_rests_40 ?_
            refine r_goto F (tgt := 45) (by decide) d10_rests_41 ?_
            refine r_weak [0, 2] rfl ?_
            replace h := wpo_some h
            exact h
  · replace h := wpo_pos h hb
    refine r_bipush F (z := (-2)) (by decide) d10_rests_9 ?_
    replace h := wpo_some h
    exact r_iret F h d10_rests_11
theorem d10_rest_0 : decode c10_rest 0 = .ok (.aload_n 0, 1) := by decide +kernel
theorem d10_rest_1 : decode c10_rest 1 = .ok (.iload_n 1, 1) := by decide +kernel
theorem d10_rest_2 : decode c10_rest 2 = .ok (.iload_n 2, 1) := by decide +kernel
theorem d10_rest_3 : decode c10_rest 3 = .ok (.invokevirtual 424, 3) := by decide +kernel
theorem d10_rest_6 : decode c10_rest 6 = .ok (.ifCond .ne 6, 3) := by decide +kernel
theorem d10_rest_9 : decode c10_rest 9 = .ok (.bipush (-2), 2) := by decide +kernel
theorem d10_rest_11 : decode c10_rest 11 = .ok (.ireturn, 1) := by decide +kernel
theorem d10_rest_12 : decode c10_rest 12 = .ok (.iconst 0, 1) := by decide +kernel
theorem d10_rest_13 : decode c10_rest 13 = .ok (.istore_n 3, 1) := by decide +kernel
theorem d10_rest_14 : decode c10_rest 14 = .ok (.iload_n 3, 1) := by decide +kernel
theorem d10_rest_15 : decode c10_rest 15 = .ok (.bipush 16, 2) := by decide +kernel
theorem d10_rest_17 : decode c10_rest 17 = .ok (.if_icmp .ge 33, 3) := by decide +kernel
theorem d10_rest_20 : decode c10_rest 20 = .ok (.aload_n 0, 1) := by decide +kernel
theorem d10_rest_21 : decode c10_rest 21 = .ok (.iload_n 3, 1) := by decide +kernel
theorem d10_rest_22 : decode c10_rest 22 = .ok (.iconst 4, 1) := by decide +kernel
theorem d10_rest_23 : decode c10_rest 23 = .ok (.idiv, 1) := by decide +kernel
theorem d10_rest_24 : decode c10_rest 24 = .ok (.iload_n 3, 1) := by decide +kernel
theorem d10_rest_25 : decode c10_rest 25 = .ok (.iconst 4, 1) := by decide +kernel
theorem d10_rest_26 : decode c10_rest 26 = .ok (.irem, 1) := by decide +kernel
theorem d10_rest_27 : decode c10_rest 27 = .ok (.invokevirtual 427, 3) := by decide +kernel
theorem d10_rest_30 : decode c10_rest 30 = .ok (.ifCond .eq 14, 3) := by decide +kernel
theorem d10_rest_33 : decode c10_rest 33 = .ok (.bipush 10, 2) := by decide +kernel
theorem d10_rest_35 : decode c10_rest 35 = .ok (.iload_n 3, 1) := by decide +kernel
theorem d10_rest_36 : decode c10_rest 36 = .ok (.iconst 4, 1) := by decide +kernel
theorem d10_rest_37 : decode c10_rest 37 = .ok (.idiv, 1) := by decide +kernel
theorem d10_rest_38 : decode c10_rest 38 = .ok (.imul, 1) := by decide +kernel
theorem d10_rest_39 : decode c10_rest 39 = .ok (.iload_n 3, 1) := by decide +kernel
theorem d10_rest_40 : decode c10_rest 40 = .ok (.iconst 4, 1) := by decide +kernel
theorem d10_rest_41 : decode c10_rest 41 = .ok (.irem, 1) := by decide +kernel
theorem d10_rest_42 : decode c10_rest 42 = .ok (.iadd, 1) := by decide +kernel
theorem d10_rest_43 : decode c10_rest 43 = .ok (.ireturn, 1) := by decide +kernel
theorem d10_rest_44 : decode c10_rest 44 = .ok (.iinc 3 1, 3) := by decide +kernel
theorem d10_rest_47 : decode c10_rest 47 = .ok (.goto (-33), 3) := by decide +kernel
theorem d10_rest_50 : decode c10_rest 50 = .ok (.iconst (-1), 1) := by decide +kernel
theorem d10_rest_51 : decode c10_rest 51 = .ok (.ireturn, 1) := by decide +kernel
def f10_rest (D : Mem) (p0 : Int) (p1 : Int) : Option (Int × Mem) :=
  Option.bind (f10_layHeld D p0 p1) fun (a1 : Int × Mem) =>
  if w32 a1.1 = 0 then
    some ((-2), a1.2)
  else
    Option.bind (@loop (Int) ((Unit) ⊕ (Int × Mem)) (fun s1 =>
      if w32 s1 < w32 16 then
        Option.bind (f10_isRest a1.2 (div32 s1 4) (rem32 s1 4)) fun (a2 : Int) =>
        if w32 a2 = 0 then
          some (Sum.inl (s1 + 1))
        else
          some (Sum.inr (Sum.inr (((10 * (div32 s1 4)) + (rem32 s1 4)), a1.2)))
      else
        some (Sum.inr (Sum.inl ()))
    ) FU 0) (fun z => Sum.elim (fun (b1 : Unit) =>
      some ((-1), a1.2)
    ) (fun rv => some rv) z)
set_option maxHeartbeats 4000000 in
theorem ok10_rest {l : Launch} {X : XT} {n : Nat} {D : Mem} {Q : Option Value → Nat → Rho → Mem → Prop} (hn : 147 ≤ n) {p0 : Int} {p1 : Int}  (h : wpo (f10_rest D p0 p1) (fun a => Q (some (vI a.1)) n rt a.2)) : MOK l y10_rest c10_rest 4 (some .int) { frames := 5, cells := 0, slots := 0, locals := 116 } 0 0 X [vR X 117, vI p0, vI p1] n rt D Q := by
  refine MOK_of 10 (by decide +kernel) rfl (lv := [(0, vR X 117), (1, vI p0), (2, vI p1)]) (Nat.le_of_ble_eq_true rfl) rfl (fun K hK F hnm => ?_)
  subst hK
  unfold f10_rest at h
  refine r_aload_nR F 0 rfl rfl d10_rest_0 ?_
  refine r_iload_n F 1 rfl rfl d10_rest_1 ?_
  refine r_iload_n F 2 rfl rfl d10_rest_2 ?_
  replace h := wpo_bind h
  refine r_callV0 F lm10_424 mf10_layHeld (vc117 hn) rfl (fr := 4) (lo := 93) (As := [vI p0, vI p1]) (rest := []) ⟨Nat.le_of_ble_eq_true rfl, Nat.le_of_ble_eq_true rfl⟩ rfl (Nat.le_of_ble_eq_true rfl) ⟨Nat.zero_le _, Nat.zero_le _⟩ d10_rest_3 ?_
  refine ok10_layHeld hn  (kIm h (fun a1 h => ?_))
  refine r_if_ne F (tgt := 12) d10_rest_6 (by decide) (fun hb => ?_) (fun hb => ?_)
  · replace h := wpo_neg h hb
    refine r_iconst F (z := 0) d10_rest_12 ?_
    refine r_istore_n F (lv' := [(3, vI 0), (0, vR X 117), (1, vI p0), (2, vI p1)]) rfl (Nat.le_of_ble_eq_true rfl) rfl d10_rest_13 ?_
    refine r_weak [1, 0] rfl ?_
    refine at_loopj (A := fun (s1 : Int) => At K X (ZQ K X Q) 0 0 n rt 4 14 [(0, vR X 117), (3, vI s1)] [] a1.2) (B := Sum.elim (fun (b1 : Unit) => At K X (ZQ K X Q) 0 0 n rt 4 50 [] [] a1.2) (fun rv => Q (some (vI rv.1)) n rt rv.2)) h (fun z h => ?_) (fun s1 h => ?_)
    · rcases z with b1 | rv
      · replace h := elim_l h
        refine el_li ?_
        refine r_iconst F (z := (-1)) d10_rest_50 ?_
        replace h := wpo_some h
        exact r_iret F h d10_rest_51
      · replace h := elim_r h
        replace h := wpo_some h
        exact el_ri h
    · refine r_iload_n F 1 rfl rfl d10_rest_14 ?_
      refine r_bipush F (z := 16) (by decide) d10_rest_15 ?_
      refine r_icmp_ge F (tgt := 50) d10_rest_17 (by decide) (fun hb => ?_) (fun hb => ?_)
      · replace h := wpo_neg h hb
        refine r_weak [] rfl ?_
        replace h := wpo_inr h
        replace h := el_l h
        exact h
      · replace h := wpo_pos h hb
        refine r_aload_nR F 0 rfl rfl d10_rest_20 ?_
        refine r_iload_n F 1 rfl rfl d10_rest_21 ?_
        refine r_iconst F (z := 4) d10_rest_22 ?_
        refine r_idiv F (by decide +kernel) d10_rest_23 ?_
        refine r_iload_n F 1 rfl rfl d10_rest_24 ?_
        refine r_iconst F (z := 4) d10_rest_25 ?_
        refine r_irem F (by decide +kernel) d10_rest_26 ?_
        replace h := wpo_bind h
        refine r_callV0 F lm10_427 mf10_isRest (vc117 hn) rfl (fr := 1) (lo := 23) (As := [vI (div32 s1 4), vI (rem32 s1 4)]) (rest := []) ⟨Nat.le_of_ble_eq_true rfl, Nat.le_of_ble_eq_true rfl⟩ rfl (Nat.le_of_ble_eq_true rfl) ⟨Nat.zero_le _, Nat.zero_le _⟩ d10_rest_27 ?_
        refine ok10_isRest hn  (kI h (fun a2 h => ?_))
        refine r_if_eq F (tgt := 44) d10_rest_30 (by decide) (fun hb => ?_) (fun hb => ?_)
        · replace h := wpo_pos h hb
          refine r_iinc F 1 (lv' := [(3, vI (s1 + 1)), (0, vR X 117)]) rfl (Nat.le_of_ble_eq_true rfl) rfl d10_rest_44 ?_
          refine r_goto F (tgt := 14) (by decide) d10_rest_47 ?_
          refine r_weak [1, 0] rfl ?_
          replace h := wpo_inl h
          exact h
        · replace h := wpo_neg h hb
          refine r_bipush F (z := 10) (by decide) d10_rest_33 ?_
          refine r_iload_n F 1 rfl rfl d10_rest_35 ?_
          refine r_iconst F (z := 4) d10_rest_36 ?_
          refine r_idiv F (by decide +kernel) d10_rest_37 ?_
          refine r_imul F d10_rest_38 ?_
          refine r_iload_n F 1 rfl rfl d10_rest_39 ?_
          refine r_iconst F (z := 4) d10_rest_40 ?_
          refine r_irem F (by decide +kernel) d10_rest_41 ?_
          refine r_iadd F d10_rest_42 ?_
          replace h := el_r (wpo_inr h)
          exact r_iret F h d10_rest_43
  · replace h := wpo_pos h hb
    refine r_bipush F (z := (-2)) (by decide) d10_rest_9 ?_
    replace h := wpo_some h
    exact r_iret F h d10_rest_11
theorem d10_holding_0 : decode c10_holding 0 = .ok (.iload_n 3, 1) := by decide +kernel
theorem d10_holding_1 : decode c10_holding 1 = .ok (.i2l, 1) := by decide +kernel
theorem d10_holding_2 : decode c10_holding 2 = .ok (.lconst 0, 1) := by decide +kernel
theorem d10_holding_3 : decode c10_holding 3 = .ok (.ldc2_w 117, 3) := by decide +kernel
theorem d10_holding_6 : decode c10_holding 6 = .ok (.invokestatic 109, 3) := by decide +kernel
theorem d10_holding_9 : decode c10_holding 9 = .ok (.ifCond .eq 36, 3) := by decide +kernel
theorem d10_holding_12 : decode c10_holding 12 = .ok (.iload 4, 2) := by decide +kernel
theorem d10_holding_14 : decode c10_holding 14 = .ok (.i2l, 1) := by decide +kernel
theorem d10_holding_15 : decode c10_holding 15 = .ok (.lconst 0, 1) := by decide +kernel
theorem d10_holding_16 : decode c10_holding 16 = .ok (.ldc2_w 117, 3) := by decide +kernel
theorem d10_holding_19 : decode c10_holding 19 = .ok (.invokestatic 109, 3) := by decide +kernel
theorem d10_holding_22 : decode c10_holding 22 = .ok (.ifCond .eq 23, 3) := by decide +kernel
theorem d10_holding_25 : decode c10_holding 25 = .ok (.aload_n 0, 1) := by decide +kernel
theorem d10_holding_26 : decode c10_holding 26 = .ok (.iload_n 1, 1) := by decide +kernel
theorem d10_holding_27 : decode c10_holding 27 = .ok (.iload_n 2, 1) := by decide +kernel
theorem d10_holding_28 : decode c10_holding 28 = .ok (.invokevirtual 424, 3) := by decide +kernel
theorem d10_holding_31 : decode c10_holding 31 = .ok (.ifCond .eq 14, 3) := by decide +kernel
theorem d10_holding_34 : decode c10_holding 34 = .ok (.aload_n 0, 1) := by decide +kernel
theorem d10_holding_35 : decode c10_holding 35 = .ok (.iload_n 3, 1) := by decide +kernel
theorem d10_holding_36 : decode c10_holding 36 = .ok (.iload 4, 2) := by decide +kernel
theorem d10_holding_38 : decode c10_holding 38 = .ok (.iconst 0, 1) := by decide +kernel
theorem d10_holding_39 : decode c10_holding 39 = .ok (.invokevirtual 421, 3) := by decide +kernel
theorem d10_holding_42 : decode c10_holding 42 = .ok (.goto 5, 3) := by decide +kernel
theorem d10_holding_45 : decode c10_holding 45 = .ok (.bipush (-2), 2) := by decide +kernel
theorem d10_holding_47 : decode c10_holding 47 = .ok (.ireturn, 1) := by decide +kernel
def f10_holding (D : Mem) (p0 : Int) (p1 : Int) (p2 : Int) (p3 : Int) : Option (Int × Mem) :=
  Option.bind (f10_in D (w32 p2) 0 3) fun (a1 : Int) =>
  if w32 a1 = 0 then
    some ((-2), D)
  else
    Option.bind (f10_in D (w32 p3) 0 3) fun (a2 : Int) =>
    if w32 a2 = 0 then
      some ((-2), D)
    else
      Option.bind (f10_layHeld D p0 p1) fun (a3 : Int × Mem) =>
      if w32 a3.1 = 0 then
        some ((-2), a3.2)
      else
        Option.bind (f10_heldBy a3.2 p2 p3 0) fun (a4 : Int) =>
        some (a4, a3.2)
set_option maxHeartbeats 4000000 in
theorem ok10_holding {l : Launch} {X : XT} {n : Nat} {D : Mem} {Q : Option Value → Nat → Rho → Mem → Prop} (hn : 147 ≤ n) {p0 : Int} {p1 : Int} {p2 : Int} {p3 : Int}  (h : wpo (f10_holding D p0 p1 p2 p3) (fun a => Q (some (vI a.1)) n rt a.2)) : MOK l y10_holding c10_holding 5 (some .int) { frames := 5, cells := 0, slots := 0, locals := 116 } 0 0 X [vR X 117, vI p0, vI p1, vI p2, vI p3] n rt D Q := by
  refine MOK_of 10 (by decide +kernel) rfl (lv := [(0, vR X 117), (1, vI p0), (2, vI p1), (3, vI p2), (4, vI p3)]) (Nat.le_of_ble_eq_true rfl) rfl (fun K hK F hnm => ?_)
  subst hK
  unfold f10_holding at h
  refine r_iload_n F 3 rfl rfl d10_holding_0 ?_
  refine r_i2l F d10_holding_1 ?_
  refine r_lconst F (x := 0) (by decide) d10_holding_2 ?_
  refine r_ldc2 F (z := 3) lc10_117 d10_holding_3 ?_
  replace h := wpo_bind h
  refine r_callS0 F lm10_109 mf10_in rfl (fr := 0) (lo := 0) (As := [vL (w32 p2), vL 0, vL 3]) (rest := []) ⟨Nat.le_of_ble_eq_true rfl, Nat.le_of_ble_eq_true rfl⟩ rfl (Nat.le_of_ble_eq_true rfl) ⟨Nat.zero_le _, Nat.zero_le _⟩ d10_holding_6 ?_
  refine ok10_in hn  (kI h (fun a1 h => ?_))
  refine r_if_eq F (tgt := 45) d10_holding_9 (by decide) (fun hb => ?_) (fun hb => ?_)
  · replace h := wpo_pos h hb
    refine r_bipush F (z := (-2)) (by decide) d10_holding_45 ?_
    replace h := wpo_some h
    exact r_iret F h d10_holding_47
  · replace h := wpo_neg h hb
    refine r_iload F 4 rfl d10_holding_12 ?_
    refine r_i2l F d10_holding_14 ?_
    refine r_lconst F (x := 0) (by decide) d10_holding_15 ?_
    refine r_ldc2 F (z := 3) lc10_117 d10_holding_16 ?_
    replace h := wpo_bind h
    refine r_callS0 F lm10_109 mf10_in rfl (fr := 0) (lo := 0) (As := [vL (w32 p3), vL 0, vL 3]) (rest := []) ⟨Nat.le_of_ble_eq_true rfl, Nat.le_of_ble_eq_true rfl⟩ rfl (Nat.le_of_ble_eq_true rfl) ⟨Nat.zero_le _, Nat.zero_le _⟩ d10_holding_19 ?_
    refine ok10_in hn  (kI h (fun a2 h => ?_))
    refine r_if_eq F (tgt := 45) d10_holding_22 (by decide) (fun hb => ?_) (fun hb => ?_)
    · replace h := wpo_pos h hb
      refine r_bipush F (z := (-2)) (by decide) d10_holding_45 ?_
      replace h := wpo_some h
      exact r_iret F h d10_holding_47
    · replace h := wpo_neg h hb
      refine r_aload_nR F 0 rfl rfl d10_holding_25 ?_
      refine r_iload_n F 1 rfl rfl d10_holding_26 ?_
      refine r_iload_n F 2 rfl rfl d10_holding_27 ?_
      replace h := wpo_bind h
      refine r_callV0 F lm10_424 mf10_layHeld (vc117 hn) rfl (fr := 4) (lo := 93) (As := [vI p0, vI p1]) (rest := []) ⟨Nat.le_of_ble_eq_true rfl, Nat.le_of_ble_eq_true rfl⟩ rfl (Nat.le_of_ble_eq_true rfl) ⟨Nat.zero_le _, Nat.zero_le _⟩ d10_holding_28 ?_
      refine ok10_layHeld hn  (kIm h (fun a3 h => ?_))
      refine r_if_eq F (tgt := 45) d10_holding_31 (by decide) (fun hb => ?_) (fun hb => ?_)
      · replace h := wpo_pos h hb
        refine r_bipush F (z := (-2)) (by decide) d10_holding_45 ?_
        replace h := wpo_some h
        exact r_iret F h d10_holding_47
      · replace h := wpo_neg h hb
        refine r_aload_nR F 0 rfl rfl d10_holding_34 ?_
        refine r_iload_n F 3 rfl rfl d10_holding_35 ?_
        refine r_iload F 4 rfl d10_holding_36 ?_
        refine r_iconst F (z := 0) d10_holding_38 ?_
        replace h := wpo_bind h
        refine r_callV0 F lm10_421 mf10_heldBy (vc117 hn) rfl (fr := 0) (lo := 0) (As := [vI p2, vI p3, vI 0]) (rest := []) ⟨Nat.le_of_ble_eq_true rfl, Nat.le_of_ble_eq_true rfl⟩ rfl (Nat.le_of_ble_eq_true rfl) ⟨Nat.zero_le _, Nat.zero_le _⟩ d10_holding_39 ?_
        refine ok10_heldBy hn  (kI h (fun a4 h => ?_))
        refine r_goto F (tgt := 47) (by decide) d10_holding_42 ?_
        replace h := wpo_some h
        exact r_iret F h d10_holding_47
theorem d10_power_0 : decode c10_power 0 = .ok (.lconst 1, 1) := by decide +kernel
theorem d10_power_1 : decode c10_power 1 = .ok (.lstore_n 3, 1) := by decide +kernel
theorem d10_power_2 : decode c10_power 2 = .ok (.iconst 0, 1) := by decide +kernel
theorem d10_power_3 : decode c10_power 3 = .ok (.istore 5, 2) := by decide +kernel
theorem d10_power_5 : decode c10_power 5 = .ok (.iload 5, 2) := by decide +kernel
theorem d10_power_7 : decode c10_power 7 = .ok (.iload_n 2, 1) := by decide +kernel
theorem d10_power_8 : decode c10_power 8 = .ok (.if_icmp .ge 13, 3) := by decide +kernel
theorem d10_power_11 : decode c10_power 11 = .ok (.lload_n 3, 1) := by decide +kernel
theorem d10_power_12 : decode c10_power 12 = .ok (.lload_n 0, 1) := by decide +kernel
theorem d10_power_13 : decode c10_power 13 = .ok (.lmul, 1) := by decide +kernel
theorem d10_power_14 : decode c10_power 14 = .ok (.lstore_n 3, 1) := by decide +kernel
theorem d10_power_15 : decode c10_power 15 = .ok (.iinc 5 1, 3) := by decide +kernel
theorem d10_power_18 : decode c10_power 18 = .ok (.goto (-13), 3) := by decide +kernel
theorem d10_power_21 : decode c10_power 21 = .ok (.lload_n 3, 1) := by decide +kernel
theorem d10_power_22 : decode c10_power 22 = .ok (.lreturn, 1) := by decide +kernel
def f10_power (D : Mem) (p0 : Int) (p1 : Int) : Option (Int) :=
  Option.bind (@loop (Int × Int) (Int) (fun s1 =>
    if w32 s1.2 < w32 p1 then
      some (Sum.inl ((s1.1 * p0), (s1.2 + 1)))
    else
      some (Sum.inr s1.1)
  ) FU (1, 0)) fun (b1 : Int) =>
  some b1
set_option maxHeartbeats 4000000 in
theorem ok10_power {l : Launch} {X : XT} {n : Nat} {D : Mem} {Q : Option Value → Nat → Rho → Mem → Prop} (hn : 147 ≤ n) {p0 : Int} {p1 : Int}  (h : wpo (f10_power D p0 p1) (fun a => Q (some (vL a)) n rt D)) : MOK l y10_power c10_power 6 (some .long) { frames := 0, cells := 0, slots := 0, locals := 0 } 0 0 X [vL p0, vI p1] n rt D Q := by
  refine MOK_of 10 (by decide +kernel) rfl (lv := [(0, vL p0), (2, vI p1)]) (Nat.le_of_ble_eq_true rfl) rfl (fun K hK F hnm => ?_)
  subst hK
  unfold f10_power at h
  refine r_lconst F (x := 1) (by decide) d10_power_0 ?_
  refine r_lstore_n F (lv' := [(3, vL 1), (0, vL p0), (2, vI p1)]) rfl (Nat.le_of_ble_eq_true rfl) rfl d10_power_1 ?_
  refine r_iconst F (z := 0) d10_power_2 ?_
  refine r_istore F (lv' := [(5, vI 0), (3, vL 1), (0, vL p0), (2, vI p1)]) (Nat.le_of_ble_eq_true rfl) rfl d10_power_3 ?_
  refine r_weak [2, 3, 1, 0] rfl ?_
  refine at_loopj (A := fun (s1 : Int × Int) => At K X (ZQ K X Q) 0 0 n rt 6 5 [(0, vL p0), (2, vI p1), (3, vL s1.1), (5, vI s1.2)] [] D) (B := fun (b1 : Int) => At K X (ZQ K X Q) 0 0 n rt 6 21 [(3, vL b1)] [] D) h (fun b1 h => ?_) (fun s1 h => ?_)
  · refine r_lload_n F 0 rfl rfl d10_power_21 ?_
    replace h := wpo_some h
    exact r_lret F h d10_power_22
  · refine r_iload F 3 rfl d10_power_5 ?_
    refine r_iload_n F 1 rfl rfl d10_power_7 ?_
    refine r_icmp_ge F (tgt := 21) d10_power_8 (by decide) (fun hb => ?_) (fun hb => ?_)
    · replace h := wpo_neg h hb
      refine r_weak [2] rfl ?_
      replace h := wpo_inr h
      exact h
    · replace h := wpo_pos h hb
      refine r_lload_n F 2 rfl rfl d10_power_11 ?_
      refine r_lload_n F 0 rfl rfl d10_power_12 ?_
      refine r_lmul F d10_power_13 ?_
      refine r_lstore_n F (lv' := [(3, vL (s1.1 * p0)), (0, vL p0), (2, vI p1), (5, vI s1.2)]) rfl (Nat.le_of_ble_eq_true rfl) rfl d10_power_14 ?_
      refine r_iinc F 3 (lv' := [(5, vI (s1.2 + 1)), (3, vL (s1.1 * p0)), (0, vL p0), (2, vI p1)]) rfl (Nat.le_of_ble_eq_true rfl) rfl d10_power_15 ?_
      refine r_goto F (tgt := 5) (by decide) d10_power_18 ?_
      refine r_weak [2, 3, 1, 0] rfl ?_
      replace h := wpo_inl h
      exact h
theorem d10_born_0 : decode c10_born 0 = .ok (.aload_n 0, 1) := by decide +kernel
theorem d10_born_1 : decode c10_born 1 = .ok (.iload_n 1, 1) := by decide +kernel
theorem d10_born_2 : decode c10_born 2 = .ok (.i2l, 1) := by decide +kernel
theorem d10_born_3 : decode c10_born 3 = .ok (.invokevirtual 287, 3) := by decide +kernel
theorem d10_born_6 : decode c10_born 6 = .ok (.ifCond .eq 13, 3) := by decide +kernel
theorem d10_born_9 : decode c10_born 9 = .ok (.iload_n 2, 1) := by decide +kernel
theorem d10_born_10 : decode c10_born 10 = .ok (.i2l, 1) := by decide +kernel
theorem d10_born_11 : decode c10_born 11 = .ok (.lconst 0, 1) := by decide +kernel
theorem d10_born_12 : decode c10_born 12 = .ok (.lconst 1, 1) := by decide +kernel
theorem d10_born_13 : decode c10_born 13 = .ok (.invokestatic 109, 3) := by decide +kernel
theorem d10_born_16 : decode c10_born 16 = .ok (.ifCond .ne 7, 3) := by decide +kernel
theorem d10_born_19 : decode c10_born 19 = .ok (.ldc2_w 356, 3) := by decide +kernel
theorem d10_born_22 : decode c10_born 22 = .ok (.lreturn, 1) := by decide +kernel
theorem d10_born_23 : decode c10_born 23 = .ok (.ldc2_w 430, 3) := by decide +kernel
theorem d10_born_26 : decode c10_born 26 = .ok (.iload_n 1, 1) := by decide +kernel
theorem d10_born_27 : decode c10_born 27 = .ok (.iconst 1, 1) := by decide +kernel
theorem d10_born_28 : decode c10_born 28 = .ok (.iadd, 1) := by decide +kernel
theorem d10_born_29 : decode c10_born 29 = .ok (.invokestatic 432, 3) := by decide +kernel
theorem d10_born_32 : decode c10_born 32 = .ok (.lstore_n 3, 1) := by decide +kernel
theorem d10_born_33 : decode c10_born 33 = .ok (.lload_n 3, 1) := by decide +kernel
theorem d10_born_34 : decode c10_born 34 = .ok (.bipush 10, 2) := by decide +kernel
theorem d10_born_36 : decode c10_born 36 = .ok (.aload_n 0, 1) := by decide +kernel
theorem d10_born_37 : decode c10_born 37 = .ok (.getfield 9, 3) := by decide +kernel
theorem d10_born_40 : decode c10_born 40 = .ok (.bipush 6, 2) := by decide +kernel
theorem d10_born_42 : decode c10_born 42 = .ok (.iaload, 1) := by decide +kernel
theorem d10_born_43 : decode c10_born 43 = .ok (.isub, 1) := by decide +kernel
theorem d10_born_44 : decode c10_born 44 = .ok (.i2l, 1) := by decide +kernel
theorem d10_born_45 : decode c10_born 45 = .ok (.iload_n 1, 1) := by decide +kernel
theorem d10_born_46 : decode c10_born 46 = .ok (.iconst 1, 1) := by decide +kernel
theorem d10_born_47 : decode c10_born 47 = .ok (.iadd, 1) := by decide +kernel
theorem d10_born_48 : decode c10_born 48 = .ok (.invokestatic 432, 3) := by decide +kernel
theorem d10_born_51 : decode c10_born 51 = .ok (.lsub, 1) := by decide +kernel
theorem d10_born_52 : decode c10_born 52 = .ok (.lload_n 3, 1) := by decide +kernel
theorem d10_born_53 : decode c10_born 53 = .ok (.iload_n 2, 1) := by decide +kernel
theorem d10_born_54 : decode c10_born 54 = .ok (.invokestatic 316, 3) := by decide +kernel
theorem d10_born_57 : decode c10_born 57 = .ok (.lreturn, 1) := by decide +kernel
def f10_born (D : Mem) (p0 : Int) (p1 : Int) : Option (Int) :=
  Option.bind (f10_isNight D (w32 p0)) fun (a1 : Int) =>
  if w32 a1 = 0 then
    some (-2)
  else
    Option.bind (f10_in D (w32 p1) 0 1) fun (a2 : Int) =>
    if w32 a2 = 0 then
      some (-2)
    else
      Option.bind (f10_power D 10 (p0 + 1)) fun (a3 : Int) =>
      Option.bind (f10_power D (w32 (10 - (D 118 6))) (p0 + 1)) fun (a4 : Int) =>
      Option.bind (f10_part D (a3 - a4) a3 p1) fun (a5 : Int) =>
      some a5
set_option maxHeartbeats 4000000 in
theorem ok10_born {l : Launch} {X : XT} {n : Nat} {D : Mem} {Q : Option Value → Nat → Rho → Mem → Prop} (hn : 147 ≤ n) {p0 : Int} {p1 : Int}  (h : wpo (f10_born D p0 p1) (fun a => Q (some (vL a)) n rt D)) : MOK l y10_born c10_born 5 (some .long) { frames := 2, cells := 0, slots := 0, locals := 53 } 0 0 X [vR X 117, vI p0, vI p1] n rt D Q := by
  refine MOK_of 10 (by decide +kernel) rfl (lv := [(0, vR X 117), (1, vI p0), (2, vI p1)]) (Nat.le_of_ble_eq_true rfl) rfl (fun K hK F hnm => ?_)
  subst hK
  unfold f10_born at h
  refine r_aload_nR F 0 rfl rfl d10_born_0 ?_
  refine r_iload_n F 1 rfl rfl d10_born_1 ?_
  refine r_i2l F d10_born_2 ?_
  replace h := wpo_bind h
  refine r_callV0 F lm10_287 mf10_isNight (vc117 hn) rfl (fr := 1) (lo := 25) (As := [vL (w32 p0)]) (rest := []) ⟨Nat.le_of_ble_eq_true rfl, Nat.le_of_ble_eq_true rfl⟩ rfl (Nat.le_of_ble_eq_true rfl) ⟨Nat.zero_le _, Nat.zero_le _⟩ d10_born_3 ?_
  refine ok10_isNight hn  (kI h (fun a1 h => ?_))
  refine r_if_eq F (tgt := 19) d10_born_6 (by decide) (fun hb => ?_) (fun hb => ?_)
  · replace h := wpo_pos h hb
    refine r_ldc2 F (z := (-2)) lc10_356 d10_born_19 ?_
    replace h := wpo_some h
    exact r_lret F h d10_born_22
  · replace h := wpo_neg h hb
    refine r_iload_n F 2 rfl rfl d10_born_9 ?_
    refine r_i2l F d10_born_10 ?_
    refine r_lconst F (x := 0) (by decide) d10_born_11 ?_
    refine r_lconst F (x := 1) (by decide) d10_born_12 ?_
    replace h := wpo_bind h
    refine r_callS0 F lm10_109 mf10_in rfl (fr := 0) (lo := 0) (As := [vL (w32 p1), vL 0, vL 1]) (rest := []) ⟨Nat.le_of_ble_eq_true rfl, Nat.le_of_ble_eq_true rfl⟩ rfl (Nat.le_of_ble_eq_true rfl) ⟨Nat.zero_le _, Nat.zero_le _⟩ d10_born_13 ?_
    refine ok10_in hn  (kI h (fun a2 h => ?_))
    refine r_if_ne F (tgt := 23) d10_born_16 (by decide) (fun hb => ?_) (fun hb => ?_)
    · replace h := wpo_neg h hb
      refine r_ldc2 F (z := 10) lc10_430 d10_born_23 ?_
      refine r_iload_n F 1 rfl rfl d10_born_26 ?_
      refine r_iconst F (z := 1) d10_born_27 ?_
      refine r_iadd F d10_born_28 ?_
      replace h := wpo_bind h
      refine r_callS0 F lm10_432 mf10_power rfl (fr := 0) (lo := 0) (As := [vL 10, vI (p0 + 1)]) (rest := []) ⟨Nat.le_of_ble_eq_true rfl, Nat.le_of_ble_eq_true rfl⟩ rfl (Nat.le_of_ble_eq_true rfl) ⟨Nat.zero_le _, Nat.zero_le _⟩ d10_born_29 ?_
      refine ok10_power hn  (kL h (fun a3 h => ?_))
      refine r_lstore_n F (lv' := [(3, vL a3), (0, vR X 117), (1, vI p0), (2, vI p1)]) rfl (Nat.le_of_ble_eq_true rfl) rfl d10_born_32 ?_
      refine r_lload_n F 0 rfl rfl d10_born_33 ?_
      refine r_bipush F (z := 10) (by decide) d10_born_34 ?_
      refine r_aload_nR F 1 rfl rfl d10_born_36 ?_
      refine r_getR F (z := 118) lf10_9 (vc117 hn) z117_1 d10_born_37 ?_
      refine r_bipush F (z := 6) (by decide) d10_born_40 ?_
      refine r_ialdC F (j := 6) (vc118 hn) (by decide) rfl d10_born_42 ?_
      refine r_isub F d10_born_43 ?_
      refine r_i2l F d10_born_44 ?_
      refine r_iload_n F 2 rfl rfl d10_born_45 ?_
      refine r_iconst F (z := 1) d10_born_46 ?_
      refine r_iadd F d10_born_47 ?_
      replace h := wpo_bind h
      refine r_callS0 F lm10_432 mf10_power rfl (fr := 0) (lo := 0) (As := [vL (w32 (10 - (D 118 6))), vI (p0 + 1)]) (rest := [vL a3]) ⟨Nat.le_of_ble_eq_true rfl, Nat.le_of_ble_eq_true rfl⟩ rfl (Nat.le_of_ble_eq_true rfl) ⟨Nat.zero_le _, Nat.zero_le _⟩ d10_born_48 ?_
      refine ok10_power hn  (kL h (fun a4 h => ?_))
      refine r_lsub F d10_born_51 ?_
      refine r_lload_n F 0 rfl rfl d10_born_52 ?_
      refine r_iload_n F 3 rfl rfl d10_born_53 ?_
      replace h := wpo_bind h
      refine r_callS0 F lm10_316 mf10_part rfl (fr := 1) (lo := 29) (As := [vL (a3 - a4), vL a3, vI p1]) (rest := []) ⟨Nat.le_of_ble_eq_true rfl, Nat.le_of_ble_eq_true rfl⟩ rfl (Nat.le_of_ble_eq_true rfl) ⟨Nat.zero_le _, Nat.zero_le _⟩ d10_born_54 ?_
      refine ok10_part hn  (kL h (fun a5 h => ?_))
      replace h := wpo_some h
      exact r_lret F h d10_born_57
    · replace h := wpo_pos h hb
      refine r_ldc2 F (z := (-2)) lc10_356 d10_born_19 ?_
      replace h := wpo_some h
      exact r_lret F h d10_born_22
theorem d10_lateBy_0 : decode c10_lateBy 0 = .ok (.aload_n 0, 1) := by decide +kernel
theorem d10_lateBy_1 : decode c10_lateBy 1 = .ok (.iload_n 1, 1) := by decide +kernel
theorem d10_lateBy_2 : decode c10_lateBy 2 = .ok (.putfield 237, 3) := by decide +kernel
theorem d10_lateBy_5 : decode c10_lateBy 5 = .ok (.aload_n 0, 1) := by decide +kernel
theorem d10_lateBy_6 : decode c10_lateBy 6 = .ok (.invokevirtual 277, 3) := by decide +kernel
theorem d10_lateBy_9 : decode c10_lateBy 9 = .ok (.aload_n 0, 1) := by decide +kernel
theorem d10_lateBy_10 : decode c10_lateBy 10 = .ok (.invokevirtual 303, 3) := by decide +kernel
theorem d10_lateBy_13 : decode c10_lateBy 13 = .ok (.ireturn, 1) := by decide +kernel
def f10_lateBy (D : Mem) (p0 : Int) : Option (Int × Mem) :=
  Option.bind (some (mset D 117 22 p0)) fun (D1 : Mem) =>
  Option.bind (f10_goNights D1) fun (a1 : Mem) =>
  Option.bind (f10_bearsAll a1) fun (a2 : Int) =>
  some (a2, a1)
set_option maxHeartbeats 4000000 in
theorem ok10_lateBy {l : Launch} {X : XT} {n : Nat} {D : Mem} {Q : Option Value → Nat → Rho → Mem → Prop} (hn : 147 ≤ n) {p0 : Int}  (h : wpo (f10_lateBy D p0) (fun a => Q (some (vI a.1)) n rt a.2)) : MOK l y10_lateBy c10_lateBy 2 (some .int) { frames := 5, cells := 0, slots := 0, locals := 109 } 0 0 X [vR X 117, vI p0] n rt D Q := by
  refine MOK_of 10 (by decide +kernel) rfl (lv := [(0, vR X 117), (1, vI p0)]) (Nat.le_of_ble_eq_true rfl) rfl (fun K hK F hnm => ?_)
  subst hK
  unfold f10_lateBy at h
  refine r_aload_nR F 0 rfl rfl d10_lateBy_0 ?_
  refine r_iload_n F 1 rfl rfl d10_lateBy_1 ?_
  refine r_putI F lf10_237 rfl rfl (vc117 hn) d10_lateBy_2 ?_
  refine r_aload_nR F 0 rfl rfl d10_lateBy_5 ?_
  refine at_name (B := fun (D1 : Mem) => At K X (ZQ K X Q) 0 0 n rt 2 6 [(0, vR X 117), (1, vI p0)] [vR X 117] D1) h (fun D1 h => ?_)
  replace h := wpo_bind h
  refine r_callV0 F lm10_277 mf10_goNights (vc117 hn) rfl (fr := 3) (lo := 72) (As := []) (rest := []) ⟨Nat.le_of_ble_eq_true rfl, Nat.le_of_ble_eq_true rfl⟩ rfl (Nat.le_of_ble_eq_true rfl) ⟨Nat.zero_le _, Nat.zero_le _⟩ d10_lateBy_6 ?_
  refine ok10_goNights hn  (kVm h (fun a1 h => ?_))
  refine r_aload_nR F 0 rfl rfl d10_lateBy_9 ?_
  replace h := wpo_bind h
  refine r_callV0 F lm10_303 mf10_bearsAll (vc117 hn) rfl (fr := 4) (lo := 87) (As := []) (rest := []) ⟨Nat.le_of_ble_eq_true rfl, Nat.le_of_ble_eq_true rfl⟩ rfl (Nat.le_of_ble_eq_true rfl) ⟨Nat.zero_le _, Nat.zero_le _⟩ d10_lateBy_10 ?_
  refine ok10_bearsAll hn  (kI h (fun a2 h => ?_))
  replace h := wpo_some h
  exact r_iret F h d10_lateBy_13
theorem d10_late_0 : decode c10_late 0 = .ok (.aload_n 0, 1) := by decide +kernel
theorem d10_late_1 : decode c10_late 1 = .ok (.invokevirtual 274, 3) := by decide +kernel
theorem d10_late_4 : decode c10_late 4 = .ok (.aload_n 0, 1) := by decide +kernel
theorem d10_late_5 : decode c10_late 5 = .ok (.iload_n 1, 1) := by decide +kernel
theorem d10_late_6 : decode c10_late 6 = .ok (.i2l, 1) := by decide +kernel
theorem d10_late_7 : decode c10_late 7 = .ok (.invokevirtual 287, 3) := by decide +kernel
theorem d10_late_10 : decode c10_late 10 = .ok (.ifCond .eq 11, 3) := by decide +kernel
theorem d10_late_13 : decode c10_late 13 = .ok (.aload_n 0, 1) := by decide +kernel
theorem d10_late_14 : decode c10_late 14 = .ok (.iload_n 1, 1) := by decide +kernel
theorem d10_late_15 : decode c10_late 15 = .ok (.invokevirtual 436, 3) := by decide +kernel
theorem d10_late_18 : decode c10_late 18 = .ok (.goto 5, 3) := by decide +kernel
theorem d10_late_21 : decode c10_late 21 = .ok (.bipush (-2), 2) := by decide +kernel
theorem d10_late_23 : decode c10_late 23 = .ok (.ireturn, 1) := by decide +kernel
def f10_late (D : Mem) (p0 : Int) : Option (Int × Mem) :=
  Option.bind (f10_asItIs D) fun (a1 : Mem) =>
  Option.bind (f10_isNight a1 (w32 p0)) fun (a2 : Int) =>
  if w32 a2 = 0 then
    some ((-2), a1)
  else
    Option.bind (f10_lateBy a1 p0) fun (a3 : Int × Mem) =>
    some (a3.1, a3.2)
set_option maxHeartbeats 4000000 in
theorem ok10_late {l : Launch} {X : XT} {n : Nat} {D : Mem} {Q : Option Value → Nat → Rho → Mem → Prop} (hn : 147 ≤ n) {p0 : Int}  (h : wpo (f10_late D p0) (fun a => Q (some (vI a.1)) n rt a.2)) : MOK l y10_late c10_late 2 (some .int) { frames := 6, cells := 0, slots := 0, locals := 130 } 0 0 X [vR X 117, vI p0] n rt D Q := by
  refine MOK_of 10 (by decide +kernel) rfl (lv := [(0, vR X 117), (1, vI p0)]) (Nat.le_of_ble_eq_true rfl) rfl (fun K hK F hnm => ?_)
  subst hK
  unfold f10_late at h
  refine r_aload_nR F 0 rfl rfl d10_late_0 ?_
  replace h := wpo_bind h
  refine r_callV0 F lm10_274 mf10_asItIs (vc117 hn) rfl (fr := 1) (lo := 22) (As := []) (rest := []) ⟨Nat.le_of_ble_eq_true rfl, Nat.le_of_ble_eq_true rfl⟩ rfl (Nat.le_of_ble_eq_true rfl) ⟨Nat.zero_le _, Nat.zero_le _⟩ d10_late_1 ?_
  refine ok10_asItIs hn  (kVm h (fun a1 h => ?_))
  refine r_aload_nR F 0 rfl rfl d10_late_4 ?_
  refine r_iload_n F 1 rfl rfl d10_late_5 ?_
  refine r_i2l F d10_late_6 ?_
  replace h := wpo_bind h
  refine r_callV0 F lm10_287 mf10_isNight (vc117 hn) rfl (fr := 1) (lo := 25) (As := [vL (w32 p0)]) (rest := []) ⟨Nat.le_of_ble_eq_true rfl, Nat.le_of_ble_eq_true rfl⟩ rfl (Nat.le_of_ble_eq_true rfl) ⟨Nat.zero_le _, Nat.zero_le _⟩ d10_late_7 ?_
  refine ok10_isNight hn  (kI h (fun a2 h => ?_))
  refine r_if_eq F (tgt := 21) d10_late_10 (by decide) (fun hb => ?_) (fun hb => ?_)
  · replace h := wpo_pos h hb
    refine r_bipush F (z := (-2)) (by decide) d10_late_21 ?_
    replace h := wpo_some h
    exact r_iret F h d10_late_23
  · replace h := wpo_neg h hb
    refine r_aload_nR F 0 rfl rfl d10_late_13 ?_
    refine r_iload_n F 1 rfl rfl d10_late_14 ?_
    replace h := wpo_bind h
    refine r_callV0 F lm10_436 mf10_lateBy (vc117 hn) rfl (fr := 5) (lo := 109) (As := [vI p0]) (rest := []) ⟨Nat.le_of_ble_eq_true rfl, Nat.le_of_ble_eq_true rfl⟩ rfl (Nat.le_of_ble_eq_true rfl) ⟨Nat.zero_le _, Nat.zero_le _⟩ d10_late_15 ?_
    refine ok10_lateBy hn  (kIm h (fun a3 h => ?_))
    refine r_goto F (tgt := 23) (by decide) d10_late_18 ?_
    replace h := wpo_some h
    exact r_iret F h d10_late_23
theorem d10_mean_0 : decode c10_mean 0 = .ok (.aload_n 0, 1) := by decide +kernel
theorem d10_mean_1 : decode c10_mean 1 = .ok (.invokevirtual 274, 3) := by decide +kernel
theorem d10_mean_4 : decode c10_mean 4 = .ok (.aload_n 0, 1) := by decide +kernel
theorem d10_mean_5 : decode c10_mean 5 = .ok (.invokevirtual 113, 3) := by decide +kernel
theorem d10_mean_8 : decode c10_mean 8 = .ok (.ifCond .eq 13, 3) := by decide +kernel
theorem d10_mean_11 : decode c10_mean 11 = .ok (.iload_n 1, 1) := by decide +kernel
theorem d10_mean_12 : decode c10_mean 12 = .ok (.i2l, 1) := by decide +kernel
theorem d10_mean_13 : decode c10_mean 13 = .ok (.lconst 0, 1) := by decide +kernel
theorem d10_mean_14 : decode c10_mean 14 = .ok (.lconst 1, 1) := by decide +kernel
theorem d10_mean_15 : decode c10_mean 15 = .ok (.invokestatic 109, 3) := by decide +kernel
theorem d10_mean_18 : decode c10_mean 18 = .ok (.ifCond .ne 7, 3) := by decide +kernel
theorem d10_mean_21 : decode c10_mean 21 = .ok (.ldc2_w 356, 3) := by decide +kernel
theorem d10_mean_24 : decode c10_mean 24 = .ok (.lreturn, 1) := by decide +kernel
theorem d10_mean_25 : decode c10_mean 25 = .ok (.lconst 0, 1) := by decide +kernel
theorem d10_mean_26 : decode c10_mean 26 = .ok (.lstore_n 2, 1) := by decide +kernel
theorem d10_mean_27 : decode c10_mean 27 = .ok (.iconst 0, 1) := by decide +kernel
theorem d10_mean_28 : decode c10_mean 28 = .ok (.istore 4, 2) := by decide +kernel
theorem d10_mean_30 : decode c10_mean 30 = .ok (.iload 4, 2) := by decide +kernel
theorem d10_mean_32 : decode c10_mean 32 = .ok (.aload_n 0, 1) := by decide +kernel
theorem d10_mean_33 : decode c10_mean 33 = .ok (.invokevirtual 256, 3) := by decide +kernel
theorem d10_mean_36 : decode c10_mean 36 = .ok (.if_icmp .ge 61, 3) := by decide +kernel
theorem d10_mean_39 : decode c10_mean 39 = .ok (.lload_n 2, 1) := by decide +kernel
theorem d10_mean_40 : decode c10_mean 40 = .ok (.bipush 10, 2) := by decide +kernel
theorem d10_mean_42 : decode c10_mean 42 = .ok (.aload_n 0, 1) := by decide +kernel
theorem d10_mean_43 : decode c10_mean 43 = .ok (.getfield 9, 3) := by decide +kernel
theorem d10_mean_46 : decode c10_mean 46 = .ok (.bipush 6, 2) := by decide +kernel
theorem d10_mean_48 : decode c10_mean 48 = .ok (.iaload, 1) := by decide +kernel
theorem d10_mean_49 : decode c10_mean 49 = .ok (.isub, 1) := by decide +kernel
theorem d10_mean_50 : decode c10_mean 50 = .ok (.i2l, 1) := by decide +kernel
theorem d10_mean_51 : decode c10_mean 51 = .ok (.iload 4, 2) := by decide +kernel
theorem d10_mean_53 : decode c10_mean 53 = .ok (.invokestatic 432, 3) := by decide +kernel
theorem d10_mean_56 : decode c10_mean 56 = .ok (.aload_n 0, 1) := by decide +kernel
theorem d10_mean_57 : decode c10_mean 57 = .ok (.getfield 9, 3) := by decide +kernel
theorem d10_mean_60 : decode c10_mean 60 = .ok (.bipush 6, 2) := by decide +kernel
theorem d10_mean_62 : decode c10_mean 62 = .ok (.iaload, 1) := by decide +kernel
theorem d10_mean_63 : decode c10_mean 63 = .ok (.i2l, 1) := by decide +kernel
theorem d10_mean_64 : decode c10_mean 64 = .ok (.lmul, 1) := by decide +kernel
theorem d10_mean_65 : decode c10_mean 65 = .ok (.ldc2_w 430, 3) := by decide +kernel
theorem d10_mean_68 : decode c10_mean 68 = .ok (.aload_n 0, 1) := by decide +kernel
theorem d10_mean_69 : decode c10_mean 69 = .ok (.invokevirtual 256, 3) := by decide +kernel
theorem d10_mean_72 : decode c10_mean 72 = .ok (.iload 4, 2) := by decide +kernel
theorem d10_mean_74 : decode c10_mean 74 = .ok (.isub, 1) := by decide +kernel
theorem d10_mean_75 : decode c10_mean 75 = .ok (.iconst 1, 1) := by decide +kernel
theorem d10_mean_76 : decode c10_mean 76 = .ok (.isub, 1) := by decide +kernel
theorem d10_mean_77 : decode c10_mean 77 = .ok (.invokestatic 432, 3) := by decide +kernel
theorem d10_mean_80 : decode c10_mean 80 = .ok (.lmul, 1) := by decide +kernel
theorem d10_mean_81 : decode c10_mean 81 = .ok (.aload_n 0, 1) := by decide +kernel
theorem d10_mean_82 : decode c10_mean 82 = .ok (.iload 4, 2) := by decide +kernel
theorem d10_mean_84 : decode c10_mean 84 = .ok (.invokevirtual 436, 3) := by decide +kernel
theorem d10_mean_87 : decode c10_mean 87 = .ok (.i2l, 1) := by decide +kernel
theorem d10_mean_88 : decode c10_mean 88 = .ok (.lmul, 1) := by decide +kernel
theorem d10_mean_89 : decode c10_mean 89 = .ok (.ladd, 1) := by decide +kernel
theorem d10_mean_90 : decode c10_mean 90 = .ok (.lstore_n 2, 1) := by decide +kernel
theorem d10_mean_91 : decode c10_mean 91 = .ok (.iinc 4 1, 3) := by decide +kernel
theorem d10_mean_94 : decode c10_mean 94 = .ok (.goto (-64), 3) := by decide +kernel
theorem d10_mean_97 : decode c10_mean 97 = .ok (.lload_n 2, 1) := by decide +kernel
theorem d10_mean_98 : decode c10_mean 98 = .ok (.bipush 10, 2) := by decide +kernel
theorem d10_mean_100 : decode c10_mean 100 = .ok (.aload_n 0, 1) := by decide +kernel
theorem d10_mean_101 : decode c10_mean 101 = .ok (.getfield 9, 3) := by decide +kernel
theorem d10_mean_104 : decode c10_mean 104 = .ok (.bipush 6, 2) := by decide +kernel
theorem d10_mean_106 : decode c10_mean 106 = .ok (.iaload, 1) := by decide +kernel
theorem d10_mean_107 : decode c10_mean 107 = .ok (.isub, 1) := by decide +kernel
theorem d10_mean_108 : decode c10_mean 108 = .ok (.i2l, 1) := by decide +kernel
theorem d10_mean_109 : decode c10_mean 109 = .ok (.aload_n 0, 1) := by decide +kernel
theorem d10_mean_110 : decode c10_mean 110 = .ok (.invokevirtual 256, 3) := by decide +kernel
theorem d10_mean_113 : decode c10_mean 113 = .ok (.invokestatic 432, 3) := by decide +kernel
theorem d10_mean_116 : decode c10_mean 116 = .ok (.aload_n 0, 1) := by decide +kernel
theorem d10_mean_117 : decode c10_mean 117 = .ok (.aload_n 0, 1) := by decide +kernel
theorem d10_mean_118 : decode c10_mean 118 = .ok (.invokevirtual 256, 3) := by decide +kernel
theorem d10_mean_121 : decode c10_mean 121 = .ok (.invokevirtual 436, 3) := by decide +kernel
theorem d10_mean_124 : decode c10_mean 124 = .ok (.i2l, 1) := by decide +kernel
theorem d10_mean_125 : decode c10_mean 125 = .ok (.lmul, 1) := by decide +kernel
theorem d10_mean_126 : decode c10_mean 126 = .ok (.ladd, 1) := by decide +kernel
theorem d10_mean_127 : decode c10_mean 127 = .ok (.lstore_n 2, 1) := by decide +kernel
theorem d10_mean_128 : decode c10_mean 128 = .ok (.lload_n 2, 1) := by decide +kernel
theorem d10_mean_129 : decode c10_mean 129 = .ok (.ldc2_w 430, 3) := by decide +kernel
theorem d10_mean_132 : decode c10_mean 132 = .ok (.aload_n 0, 1) := by decide +kernel
theorem d10_mean_133 : decode c10_mean 133 = .ok (.invokevirtual 256, 3) := by decide +kernel
theorem d10_mean_136 : decode c10_mean 136 = .ok (.invokestatic 432, 3) := by decide +kernel
theorem d10_mean_139 : decode c10_mean 139 = .ok (.iload_n 1, 1) := by decide +kernel
theorem d10_mean_140 : decode c10_mean 140 = .ok (.invokestatic 316, 3) := by decide +kernel
theorem d10_mean_143 : decode c10_mean 143 = .ok (.lreturn, 1) := by decide +kernel
def f10_mean (D : Mem) (p0 : Int) : Option (Int × Mem) :=
  Option.bind (f10_asItIs D) fun (a1 : Mem) =>
  Option.bind (f10_isParish a1) fun (a2 : Int) =>
  if w32 a2 = 0 then
    some ((-2), a1)
  else
    Option.bind (f10_in a1 (w32 p0) 0 1) fun (a3 : Int) =>
    if w32 a3 = 0 then
      some ((-2), a1)
    else
      Option.bind (@loop (Int × Int × Mem) (Int × Mem) (fun s1 =>
        Option.bind (f10_nights s1.2.2) fun (a4 : Int) =>
        if w32 s1.2.1 < w32 a4 then
          Option.bind (f10_power s1.2.2 (w32 (10 - (s1.2.2 118 6))) s1.2.1) fun (a5 : Int) =>
          Option.bind (f10_nights s1.2.2) fun (a6 : Int) =>
          Option.bind (f10_power s1.2.2 10 ((a6 - s1.2.1) - 1)) fun (a7 : Int) =>
          Option.bind (f10_lateBy s1.2.2 s1.2.1) fun (a8 : Int × Mem) =>
          Option.bind (some (s1.1 + (((a5 * (w32 (s1.2.2 118 6))) * a7) * (w32 a8.1)))) fun (v1 : Int) =>
          some (Sum.inl (v1, (s1.2.1 + 1), a8.2))
        else
          some (Sum.inr (s1.1, s1.2.2))
      ) FU (0, 0, a1)) fun (b1 : Int × Mem) =>
      Option.bind (f10_nights b1.2) fun (a9 : Int) =>
      Option.bind (f10_power b1.2 (w32 (10 - (b1.2 118 6))) a9) fun (a10 : Int) =>
      Option.bind (f10_nights b1.2) fun (a11 : Int) =>
      Option.bind (f10_lateBy b1.2 a11) fun (a12 : Int × Mem) =>
      Option.bind (some (b1.1 + (a10 * (w32 a12.1)))) fun (v2 : Int) =>
      Option.bind (f10_nights a12.2) fun (a13 : Int) =>
      Option.bind (f10_power a12.2 10 a13) fun (a14 : Int) =>
      Option.bind (f10_part a12.2 v2 a14 p0) fun (a15 : Int) =>
      some (a15, a12.2)
set_option maxHeartbeats 4000000 in
theorem ok10_mean {l : Launch} {X : XT} {n : Nat} {D : Mem} {Q : Option Value → Nat → Rho → Mem → Prop} (hn : 147 ≤ n) {p0 : Int}  (h : wpo (f10_mean D p0) (fun a => Q (some (vL a.1)) n rt a.2)) : MOK l y10_mean c10_mean 5 (some .long) { frames := 6, cells := 0, slots := 0, locals := 130 } 0 0 X [vR X 117, vI p0] n rt D Q := by
  refine MOK_of 10 (by decide +kernel) rfl (lv := [(0, vR X 117), (1, vI p0)]) (Nat.le_of_ble_eq_true rfl) rfl (fun K hK F hnm => ?_)
  subst hK
  unfold f10_mean at h
  refine r_aload_nR F 0 rfl rfl d10_mean_0 ?_
  replace h := wpo_bind h
  refine r_callV0 F lm10_274 mf10_asItIs (vc117 hn) rfl (fr := 1) (lo := 22) (As := []) (rest := []) ⟨Nat.le_of_ble_eq_true rfl, Nat.le_of_ble_eq_true rfl⟩ rfl (Nat.le_of_ble_eq_true rfl) ⟨Nat.zero_le _, Nat.zero_le _⟩ d10_mean_1 ?_
  refine ok10_asItIs hn  (kVm h (fun a1 h => ?_))
  refine r_aload_nR F 0 rfl rfl d10_mean_4 ?_
  replace h := wpo_bind h
  refine r_callV0 F lm10_113 mf10_isParish (vc117 hn) rfl (fr := 0) (lo := 0) (As := []) (rest := []) ⟨Nat.le_of_ble_eq_true rfl, Nat.le_of_ble_eq_true rfl⟩ rfl (Nat.le_of_ble_eq_true rfl) ⟨Nat.zero_le _, Nat.zero_le _⟩ d10_mean_5 ?_
  refine ok10_isParish hn  (kI h (fun a2 h => ?_))
  refine r_if_eq F (tgt := 21) d10_mean_8 (by decide) (fun hb => ?_) (fun hb => ?_)
  · replace h := wpo_pos h hb
    refine r_ldc2 F (z := (-2)) lc10_356 d10_mean_21 ?_
    replace h := wpo_some h
    exact r_lret F h d10_mean_24
  · replace h := wpo_neg h hb
    refine r_iload_n F 1 rfl rfl d10_mean_11 ?_
    refine r_i2l F d10_mean_12 ?_
    refine r_lconst F (x := 0) (by decide) d10_mean_13 ?_
    refine r_lconst F (x := 1) (by decide) d10_mean_14 ?_
    replace h := wpo_bind h
    refine r_callS0 F lm10_109 mf10_in rfl (fr := 0) (lo := 0) (As := [vL (w32 p0), vL 0, vL 1]) (rest := []) ⟨Nat.le_of_ble_eq_true rfl, Nat.le_of_ble_eq_true rfl⟩ rfl (Nat.le_of_ble_eq_true rfl) ⟨Nat.zero_le _, Nat.zero_le _⟩ d10_mean_15 ?_
    refine ok10_in hn  (kI h (fun a3 h => ?_))
    refine r_if_ne F (tgt := 25) d10_mean_18 (by decide) (fun hb => ?_) (fun hb => ?_)
    · replace h := wpo_neg h hb
      refine r_lconst F (x := 0) (by decide) d10_mean_25 ?_
      refine r_lstore_n F (lv' := [(2, vL 0), (0, vR X 117), (1, vI p0)]) rfl (Nat.le_of_ble_eq_true rfl) rfl d10_mean_26 ?_
      refine r_iconst F (z := 0) d10_mean_27 ?_
      refine r_istore F (lv' := [(4, vI 0), (2, vL 0), (0, vR X 117), (1, vI p0)]) (Nat.le_of_ble_eq_true rfl) rfl d10_mean_28 ?_
      refine r_weak [2, 3, 1, 0] rfl ?_
      refine at_loopj (A := fun (s1 : Int × Int × Mem) => At K X (ZQ K X Q) 0 0 n rt 5 30 [(0, vR X 117), (1, vI p0), (2, vL s1.1), (4, vI s1.2.1)] [] s1.2.2) (B := fun (b1 : Int × Mem) => At K X (ZQ K X Q) 0 0 n rt 5 97 [(0, vR X 117), (1, vI p0), (2, vL b1.1)] [] b1.2) h (fun b1 h => ?_) (fun s1 h => ?_)
      · refine r_lload_n F 2 rfl rfl d10_mean_97 ?_
        refine r_bipush F (z := 10) (by decide) d10_mean_98 ?_
        refine r_aload_nR F 0 rfl rfl d10_mean_100 ?_
        refine r_getR F (z := 118) lf10_9 (vc117 hn) z117_1 d10_mean_101 ?_
        refine r_bipush F (z := 6) (by decide) d10_mean_104 ?_
        refine r_ialdC F (j := 6) (vc118 hn) (by decide) rfl d10_mean_106 ?_
        refine r_isub F d10_mean_107 ?_
        refine r_i2l F d10_mean_108 ?_
        refine r_aload_nR F 0 rfl rfl d10_mean_109 ?_
        replace h := wpo_bind h
        refine r_callV0 F lm10_256 mf10_nights (vc117 hn) rfl (fr := 0) (lo := 0) (As := []) (rest := [vL (w32 (10 - (b1.2 118 6))), vL b1.1]) ⟨Nat.le_of_ble_eq_true rfl, Nat.le_of_ble_eq_true rfl⟩ rfl (Nat.le_of_ble_eq_true rfl) ⟨Nat.zero_le _, Nat.zero_le _⟩ d10_mean_110 ?_
        refine ok10_nights hn  (kI h (fun a9 h => ?_))
        replace h := wpo_bind h
        refine r_callS0 F lm10_432 mf10_power rfl (fr := 0) (lo := 0) (As := [vL (w32 (10 - (b1.2 118 6))), vI a9]) (rest := [vL b1.1]) ⟨Nat.le_of_ble_eq_true rfl, Nat.le_of_ble_eq_true rfl⟩ rfl (Nat.le_of_ble_eq_true rfl) ⟨Nat.zero_le _, Nat.zero_le _⟩ d10_mean_113 ?_
        refine ok10_power hn  (kL h (fun a10 h => ?_))
        refine r_aload_nR F 0 rfl rfl d10_mean_116 ?_
        refine r_aload_nR F 0 rfl rfl d10_mean_117 ?_
        replace h := wpo_bind h
        refine r_callV0 F lm10_256 mf10_nights (vc117 hn) rfl (fr := 0) (lo := 0) (As := []) (rest := [vR X 117, vL a10, vL b1.1]) ⟨Nat.le_of_ble_eq_true rfl, Nat.le_of_ble_eq_true rfl⟩ rfl (Nat.le_of_ble_eq_true rfl) ⟨Nat.zero_le _, Nat.zero_le _⟩ d10_mean_118 ?_
        refine ok10_nights hn  (kI h (fun a11 h => ?_))
        replace h := wpo_bind h
        refine r_callV0 F lm10_436 mf10_lateBy (vc117 hn) rfl (fr := 5) (lo := 109) (As := [vI a11]) (rest := [vL a10, vL b1.1]) ⟨Nat.le_of_ble_eq_true rfl, Nat.le_of_ble_eq_true rfl⟩ rfl (Nat.le_of_ble_eq_true rfl) ⟨Nat.zero_le _, Nat.zero_le _⟩ d10_mean_121 ?_
        refine ok10_lateBy hn  (kIm h (fun a12 h => ?_))
        refine r_i2l F d10_mean_124 ?_
        refine r_lmul F d10_mean_125 ?_
        refine r_ladd F d10_mean_126 ?_
        refine r_lstore_n F (lv' := [(2, vL (b1.1 + (a10 * (w32 a12.1)))), (0, vR X 117), (1, vI p0)]) rfl (Nat.le_of_ble_eq_true rfl) rfl d10_mean_127 ?_
        refine at_name (B := fun (v2 : Int) => At K X (ZQ K X Q) 0 0 n rt 5 128 [(2, vL v2), (0, vR X 117), (1, vI p0)] [] a12.2) h (fun v2 h => ?_)
        refine r_lload_n F 0 rfl rfl d10_mean_128 ?_
        refine r_ldc2 F (z := 10) lc10_430 d10_mean_129 ?_
        refine r_aload_nR F 1 rfl rfl d10_mean_132 ?_
        replace h := wpo_bind h
        refine r_callV0 F lm10_256 mf10_nights (vc117 hn) rfl (fr := 0) (lo := 0) (As := []) (rest := [vL 10, vL v2]) ⟨Nat.le_of_ble_eq_true rfl, Nat.le_of_ble_eq_true rfl⟩ rfl (Nat.le_of_ble_eq_true rfl) ⟨Nat.zero_le _, Nat.zero_le _⟩ d10_mean_133 ?_
        refine ok10_nights hn  (kI h (fun a13 h => ?_))
        replace h := wpo_bind h
        refine r_callS0 F lm10_432 mf10_power rfl (fr := 0) (lo := 0) (As := [vL 10, vI a13]) (rest := [vL v2]) ⟨Nat.le_of_ble_eq_true rfl, Nat.le_of_ble_eq_true rfl⟩ rfl (Nat.le_of_ble_eq_true rfl) ⟨Nat.zero_le _, Nat.zero_le _⟩ d10_mean_136 ?_
        refine ok10_power hn  (kL h (fun a14 h => ?_))
        refine r_iload_n F 2 rfl rfl d10_mean_139 ?_
        replace h := wpo_bind h
        refine r_callS0 F lm10_316 mf10_part rfl (fr := 1) (lo := 29) (As := [vL v2, vL a14, vI p0]) (rest := []) ⟨Nat.le_of_ble_eq_true rfl, Nat.le_of_ble_eq_true rfl⟩ rfl (Nat.le_of_ble_eq_true rfl) ⟨Nat.zero_le _, Nat.zero_le _⟩ d10_mean_140 ?_
        refine ok10_part hn  (kL h (fun a15 h => ?_))
        replace h := wpo_some h
        exact r_lret F h d10_mean_143
      · refine r_iload F 3 rfl d10_mean_30 ?_
        refine r_aload_nR F 0 rfl rfl d10_mean_32 ?_
        replace h := wpo_bind h
        refine r_callV0 F lm10_256 mf10_nights (vc117 hn) rfl (fr := 0) (lo := 0) (As := []) (rest := [vI s1.2.1]) ⟨Nat.le_of_ble_eq_true rfl, Nat.le_of_ble_eq_true rfl⟩ rfl (Nat.le_of_ble_eq_true rfl) ⟨Nat.zero_le _, Nat.zero_le _⟩ d10_mean_33 ?_
        refine ok10_nights hn  (kI h (fun a4 h => ?_))
        refine r_icmp_ge F (tgt := 97) d10_mean_36 (by decide) (fun hb => ?_) (fun hb => ?_)
        · replace h := wpo_neg h hb
          refine r_weak [0, 1, 2] rfl ?_
          replace h := wpo_inr h
          exact h
        · replace h := wpo_pos h hb
          refine r_lload_n F 2 rfl rfl d10_mean_39 ?_
          refine r_bipush F (z := 10) (by decide) d10_mean_40 ?_
          refine r_aload_nR F 0 rfl rfl d10_mean_42 ?_
          refine r_getR F (z := 118) lf10_9 (vc117 hn) z117_1 d10_mean_43 ?_
          refine r_bipush F (z := 6) (by decide) d10_mean_46 ?_
          refine r_ialdC F (j := 6) (vc118 hn) (by decide) rfl d10_mean_48 ?_
          refine r_isub F d10_mean_49 ?_
          refine r_i2l F d10_mean_50 ?_
          refine r_iload F 3 rfl d10_mean_51 ?_
          replace h := wpo_bind h
          refine r_callS0 F lm10_432 mf10_power rfl (fr := 0) (lo := 0) (As := [vL (w32 (10 - (s1.2.2 118 6))), vI s1.2.1]) (rest := [vL s1.1]) ⟨Nat.le_of_ble_eq_true rfl, Nat.le_of_ble_eq_true rfl⟩ rfl (Nat.le_of_ble_eq_true rfl) ⟨Nat.zero_le _, Nat.zero_le _⟩ d10_mean_53 ?_
          refine ok10_power hn  (kL h (fun a5 h => ?_))
          refine r_aload_nR F 0 rfl rfl d10_mean_56 ?_
          refine r_getR F (z := 118) lf10_9 (vc117 hn) z117_1 d10_mean_57 ?_
          refine r_bipush F (z := 6) (by decide) d10_mean_60 ?_
          refine r_ialdC F (j := 6) (vc118 hn) (by decide) rfl d10_mean_62 ?_
          refine r_i2l F d10_mean_63 ?_
          refine r_lmul F d10_mean_64 ?_
          refine r_ldc2 F (z := 10) lc10_430 d10_mean_65 ?_
          refine r_aload_nR F 0 rfl rfl d10_mean_68 ?_
          replace h := wpo_bind h
          refine r_callV0 F lm10_256 mf10_nights (vc117 hn) rfl (fr := 0) (lo := 0) (As := []) (rest := [vL 10, vL (a5 * (w32 (s1.2.2 118 6))), vL s1.1]) ⟨Nat.le_of_ble_eq_true rfl, Nat.le_of_ble_eq_true rfl⟩ rfl (Nat.le_of_ble_eq_true rfl) ⟨Nat.zero_le _, Nat.zero_le _⟩ d10_mean_69 ?_
          refine ok10_nights hn  (kI h (fun a6 h => ?_))
          refine r_iload F 3 rfl d10_mean_72 ?_
          refine r_isub F d10_mean_74 ?_
          refine r_iconst F (z := 1) d10_mean_75 ?_
          refine r_isub F d10_mean_76 ?_
          replace h := wpo_bind h
          refine r_callS0 F lm10_432 mf10_power rfl (fr := 0) (lo := 0) (As := [vL 10, vI ((a6 - s1.2.1) - 1)]) (rest := [vL (a5 * (w32 (s1.2.2 118 6))), vL s1.1]) ⟨Nat.le_of_ble_eq_true rfl, Nat.le_of_ble_eq_true rfl⟩ rfl (Nat.le_of_ble_eq_true rfl) ⟨Nat.zero_le _, Nat.zero_le _⟩ d10_mean_77 ?_
          refine ok10_power hn  (kL h (fun a7 h => ?_))
          refine r_lmul F d10_mean_80 ?_
          refine r_aload_nR F 0 rfl rfl d10_mean_81 ?_
          refine r_iload F 3 rfl d10_mean_82 ?_
          replace h := wpo_bind h
          refine r_callV0 F lm10_436 mf10_lateBy (vc117 hn) rfl (fr := 5) (lo := 109) (As := [vI s1.2.1]) (rest := [vL ((a5 * (w32 (s1.2.2 118 6))) * a7), vL s1.1]) ⟨Nat.le_of_ble_eq_true rfl, Nat.le_of_ble_eq_true rfl⟩ rfl (Nat.le_of_ble_eq_true rfl) ⟨Nat.zero_le _, Nat.zero_le _⟩ d10_mean_84 ?_
          refine ok10_lateBy hn  (kIm h (fun a8 h => ?_))
          refine r_i2l F d10_mean_87 ?_
          refine r_lmul F d10_mean_88 ?_
          refine r_ladd F d10_mean_89 ?_
          refine r_lstore_n F (lv' := [(2, vL (s1.1 + (((a5 * (w32 (s1.2.2 118 6))) * a7) * (w32 a8.1)))), (0, vR X 117), (1, vI p0), (4, vI s1.2.1)]) rfl (Nat.le_of_ble_eq_true rfl) rfl d10_mean_90 ?_
          refine at_name (B := fun (v1 : Int) => At K X (ZQ K X Q) 0 0 n rt 5 91 [(2, vL v1), (0, vR X 117), (1, vI p0), (4, vI s1.2.1)] [] a8.2) h (fun v1 h => ?_)
          refine r_iinc F 3 (lv' := [(4, vI (s1.2.1 + 1)), (2, vL v1), (0, vR X 117), (1, vI p0)]) rfl (Nat.le_of_ble_eq_true rfl) rfl d10_mean_91 ?_
          refine r_goto F (tgt := 30) (by decide) d10_mean_94 ?_
          refine r_weak [2, 3, 1, 0] rfl ?_
          replace h := wpo_inl h
          exact h
    · replace h := wpo_pos h hb
      refine r_ldc2 F (z := (-2)) lc10_356 d10_mean_21 ?_
      replace h := wpo_some h
      exact r_lret F h d10_mean_24
theorem d10_keepAct_0 : decode c10_keepAct 0 = .ok (.aload_n 0, 1) := by decide +kernel
theorem d10_keepAct_1 : decode c10_keepAct 1 = .ok (.getfield 9, 3) := by decide +kernel
theorem d10_keepAct_4 : decode c10_keepAct 4 = .ok (.bipush 8, 2) := by decide +kernel
theorem d10_keepAct_6 : decode c10_keepAct 6 = .ok (.iaload, 1) := by decide +kernel
theorem d10_keepAct_7 : decode c10_keepAct 7 = .ok (.bipush 30, 2) := by decide +kernel
theorem d10_keepAct_9 : decode c10_keepAct 9 = .ok (.if_icmp .ne 6, 3) := by decide +kernel
theorem d10_keepAct_12 : decode c10_keepAct 12 = .ok (.bipush (-5), 2) := by decide +kernel
theorem d10_keepAct_14 : decode c10_keepAct 14 = .ok (.ireturn, 1) := by decide +kernel
theorem d10_keepAct_15 : decode c10_keepAct 15 = .ok (.aload_n 0, 1) := by decide +kernel
theorem d10_keepAct_16 : decode c10_keepAct 16 = .ok (.getfield 9, 3) := by decide +kernel
theorem d10_keepAct_19 : decode c10_keepAct 19 = .ok (.bipush 42, 2) := by decide +kernel
theorem d10_keepAct_21 : decode c10_keepAct 21 = .ok (.aload_n 0, 1) := by decide +kernel
theorem d10_keepAct_22 : decode c10_keepAct 22 = .ok (.getfield 9, 3) := by decide +kernel
theorem d10_keepAct_25 : decode c10_keepAct 25 = .ok (.bipush 8, 2) := by decide +kernel
theorem d10_keepAct_27 : decode c10_keepAct 27 = .ok (.iaload, 1) := by decide +kernel
theorem d10_keepAct_28 : decode c10_keepAct 28 = .ok (.iadd, 1) := by decide +kernel
theorem d10_keepAct_29 : decode c10_keepAct 29 = .ok (.iload_n 1, 1) := by decide +kernel
theorem d10_keepAct_30 : decode c10_keepAct 30 = .ok (.iastore, 1) := by decide +kernel
theorem d10_keepAct_31 : decode c10_keepAct 31 = .ok (.aload_n 0, 1) := by decide +kernel
theorem d10_keepAct_32 : decode c10_keepAct 32 = .ok (.getfield 9, 3) := by decide +kernel
theorem d10_keepAct_35 : decode c10_keepAct 35 = .ok (.bipush 8, 2) := by decide +kernel
theorem d10_keepAct_37 : decode c10_keepAct 37 = .ok (.dup2, 1) := by decide +kernel
theorem d10_keepAct_38 : decode c10_keepAct 38 = .ok (.iaload, 1) := by decide +kernel
theorem d10_keepAct_39 : decode c10_keepAct 39 = .ok (.iconst 1, 1) := by decide +kernel
theorem d10_keepAct_40 : decode c10_keepAct 40 = .ok (.iadd, 1) := by decide +kernel
theorem d10_keepAct_41 : decode c10_keepAct 41 = .ok (.iastore, 1) := by decide +kernel
theorem d10_keepAct_42 : decode c10_keepAct 42 = .ok (.iload_n 2, 1) := by decide +kernel
theorem d10_keepAct_43 : decode c10_keepAct 43 = .ok (.ireturn, 1) := by decide +kernel
def f10_keepAct (D : Mem) (p0 : Int) (p1 : Int) : Option (Int × Mem) :=
  if w32 (D 118 8) = w32 30 then
    some ((-5), D)
  else
    if 0 ≤ (42 + (D 118 8)) ∧ (42 + (D 118 8)) < 72 then
      Option.bind (some (mset D 118 (42 + (D 118 8)).toNat p0)) fun (D1 : Mem) =>
      some (p1, (mset D1 118 8 ((D1 118 8) + 1)))
    else none
set_option maxHeartbeats 4000000 in
theorem ok10_keepAct {l : Launch} {X : XT} {n : Nat} {D : Mem} {Q : Option Value → Nat → Rho → Mem → Prop} (hn : 147 ≤ n) {p0 : Int} {p1 : Int}  (h : wpo (f10_keepAct D p0 p1) (fun a => Q (some (vI a.1)) n rt a.2)) : MOK l y10_keepAct c10_keepAct 3 (some .int) { frames := 0, cells := 0, slots := 0, locals := 0 } 0 0 X [vR X 117, vI p0, vI p1] n rt D Q := by
  refine MOK_of 10 (by decide +kernel) rfl (lv := [(0, vR X 117), (1, vI p0), (2, vI p1)]) (Nat.le_of_ble_eq_true rfl) rfl (fun K hK F hnm => ?_)
  subst hK
  unfold f10_keepAct at h
  refine r_aload_nR F 0 rfl rfl d10_keepAct_0 ?_
  refine r_getR F (z := 118) lf10_9 (vc117 hn) z117_1 d10_keepAct_1 ?_
  refine r_bipush F (z := 8) (by decide) d10_keepAct_4 ?_
  refine r_ialdC F (j := 8) (vc118 hn) (by decide) rfl d10_keepAct_6 ?_
  refine r_bipush F (z := 30) (by decide) d10_keepAct_7 ?_
  refine r_icmp_ne F (tgt := 15) d10_keepAct_9 (by decide) (fun hb => ?_) (fun hb => ?_)
  · replace h := wpo_neg h hb
    refine r_aload_nR F 0 rfl rfl d10_keepAct_15 ?_
    refine r_getR F (z := 118) lf10_9 (vc117 hn) z117_1 d10_keepAct_16 ?_
    refine r_bipush F (z := 42) (by decide) d10_keepAct_19 ?_
    refine r_aload_nR F 0 rfl rfl d10_keepAct_21 ?_
    refine r_getR F (z := 118) lf10_9 (vc117 hn) z117_1 d10_keepAct_22 ?_
    refine r_bipush F (z := 8) (by decide) d10_keepAct_25 ?_
    refine r_ialdC F (j := 8) (vc118 hn) (by decide) rfl d10_keepAct_27 ?_
    refine r_iadd F d10_keepAct_28 ?_
    refine r_iload_n F 1 rfl rfl d10_keepAct_29 ?_
    obtain ⟨hx1, h⟩ := wpo_chk h
    refine r_iast F (vc118 hn) hx1 d10_keepAct_30 ?_
    refine r_aload_nR F 0 rfl rfl d10_keepAct_31 ?_
    refine r_getR F (z := 118) lf10_9 (vc117 hn) z117_1 d10_keepAct_32 ?_
    refine r_bipush F (z := 8) (by decide) d10_keepAct_35 ?_
    refine r_dup2 F rfl rfl d10_keepAct_37 ?_
    refine at_name (B := fun (D1 : Mem) => At K X (ZQ K X Q) 0 0 n rt 3 38 [(0, vR X 117), (1, vI p0), (2, vI p1)] [vI 8, vR X 118, vI 8, vR X 118] D1) h (fun D1 h => ?_)
    refine r_ialdC F (j := 8) (vc118 hn) (by decide) rfl d10_keepAct_38 ?_
    refine r_iconst F (z := 1) d10_keepAct_39 ?_
    refine r_iadd F d10_keepAct_40 ?_
    refine r_iastC F (j := 8) (vc118 hn) (by decide) rfl d10_keepAct_41 ?_
    refine r_iload_n F 2 rfl rfl d10_keepAct_42 ?_
    replace h := wpo_some h
    exact r_iret F h d10_keepAct_43
  · replace h := wpo_pos h hb
    refine r_bipush F (z := (-5)) (by decide) d10_keepAct_12 ?_
    replace h := wpo_some h
    exact r_iret F h d10_keepAct_14
theorem d10_ache_0 : decode c10_ache 0 = .ok (.aload_n 0, 1) := by decide +kernel
theorem d10_ache_1 : decode c10_ache 1 = .ok (.invokevirtual 274, 3) := by decide +kernel
theorem d10_ache_4 : decode c10_ache 4 = .ok (.aload_n 0, 1) := by decide +kernel
theorem d10_ache_5 : decode c10_ache 5 = .ok (.iload_n 1, 1) := by decide +kernel
theorem d10_ache_6 : decode c10_ache 6 = .ok (.invokevirtual 283, 3) := by decide +kernel
theorem d10_ache_9 : decode c10_ache 9 = .ok (.ifCond .eq 34, 3) := by decide +kernel
theorem d10_ache_12 : decode c10_ache 12 = .ok (.iload_n 2, 1) := by decide +kernel
theorem d10_ache_13 : decode c10_ache 13 = .ok (.i2l, 1) := by decide +kernel
theorem d10_ache_14 : decode c10_ache 14 = .ok (.lconst 1, 1) := by decide +kernel
theorem d10_ache_15 : decode c10_ache 15 = .ok (.ldc2_w 310, 3) := by decide +kernel
theorem d10_ache_18 : decode c10_ache 18 = .ok (.invokestatic 109, 3) := by decide +kernel
theorem d10_ache_21 : decode c10_ache 21 = .ok (.ifCond .eq 22, 3) := by decide +kernel
theorem d10_ache_24 : decode c10_ache 24 = .ok (.aload_n 0, 1) := by decide +kernel
theorem d10_ache_25 : decode c10_ache 25 = .ok (.bipush 100, 2) := by decide +kernel
theorem d10_ache_27 : decode c10_ache 27 = .ok (.iload_n 1, 1) := by decide +kernel
theorem d10_ache_28 : decode c10_ache 28 = .ok (.imul, 1) := by decide +kernel
theorem d10_ache_29 : decode c10_ache 29 = .ok (.iload_n 2, 1) := by decide +kernel
theorem d10_ache_30 : decode c10_ache 30 = .ok (.iadd, 1) := by decide +kernel
theorem d10_ache_31 : decode c10_ache 31 = .ok (.aload_n 0, 1) := by decide +kernel
theorem d10_ache_32 : decode c10_ache 32 = .ok (.getfield 34, 3) := by decide +kernel
theorem d10_ache_35 : decode c10_ache 35 = .ok (.iload_n 1, 1) := by decide +kernel
theorem d10_ache_36 : decode c10_ache 36 = .ok (.iaload, 1) := by decide +kernel
theorem d10_ache_37 : decode c10_ache 37 = .ok (.invokevirtual 439, 3) := by decide +kernel
theorem d10_ache_40 : decode c10_ache 40 = .ok (.goto 5, 3) := by decide +kernel
theorem d10_ache_43 : decode c10_ache 43 = .ok (.bipush (-2), 2) := by decide +kernel
theorem d10_ache_45 : decode c10_ache 45 = .ok (.ireturn, 1) := by decide +kernel
def f10_ache (D : Mem) (p0 : Int) (p1 : Int) : Option (Int × Mem) :=
  Option.bind (f10_asItIs D) fun (a1 : Mem) =>
  Option.bind (f10_isPerson a1 p0) fun (a2 : Int) =>
  if w32 a2 = 0 then
    some ((-2), a1)
  else
    Option.bind (f10_in a1 (w32 p1) 1 20) fun (a3 : Int) =>
    if w32 a3 = 0 then
      some ((-2), a1)
    else
      if 0 ≤ p0 ∧ p0 < 8 then
        Option.bind (f10_keepAct a1 ((100 * p0) + p1) (a1 124 p0.toNat)) fun (a4 : Int × Mem) =>
        some (a4.1, a4.2)
      else none
set_option maxHeartbeats 4000000 in
theorem ok10_ache {l : Launch} {X : XT} {n : Nat} {D : Mem} {Q : Option Value → Nat → Rho → Mem → Prop} (hn : 147 ≤ n) {p0 : Int} {p1 : Int}  (h : wpo (f10_ache D p0 p1) (fun a => Q (some (vI a.1)) n rt a.2)) : MOK l y10_ache c10_ache 3 (some .int) { frames := 2, cells := 0, slots := 0, locals := 46 } 0 0 X [vR X 117, vI p0, vI p1] n rt D Q := by
  refine MOK_of 10 (by decide +kernel) rfl (lv := [(0, vR X 117), (1, vI p0), (2, vI p1)]) (Nat.le_of_ble_eq_true rfl) rfl (fun K hK F hnm => ?_)
  subst hK
  unfold f10_ache at h
  refine r_aload_nR F 0 rfl rfl d10_ache_0 ?_
  replace h := wpo_bind h
  refine r_callV0 F lm10_274 mf10_asItIs (vc117 hn) rfl (fr := 1) (lo := 22) (As := []) (rest := []) ⟨Nat.le_of_ble_eq_true rfl, Nat.le_of_ble_eq_true rfl⟩ rfl (Nat.le_of_ble_eq_true rfl) ⟨Nat.zero_le _, Nat.zero_le _⟩ d10_ache_1 ?_
  refine ok10_asItIs hn  (kVm h (fun a1 h => ?_))
  refine r_aload_nR F 0 rfl rfl d10_ache_4 ?_
  refine r_iload_n F 1 rfl rfl d10_ache_5 ?_
  replace h := wpo_bind h
  refine r_callV0 F lm10_283 mf10_isPerson (vc117 hn) rfl (fr := 1) (lo := 25) (As := [vI p0]) (rest := []) ⟨Nat.le_of_ble_eq_true rfl, Nat.le_of_ble_eq_true rfl⟩ rfl (Nat.le_of_ble_eq_true rfl) ⟨Nat.zero_le _, Nat.zero_le _⟩ d10_ache_6 ?_
  refine ok10_isPerson hn  (kI h (fun a2 h => ?_))
  refine r_if_eq F (tgt := 43) d10_ache_9 (by decide) (fun hb => ?_) (fun hb => ?_)
  · replace h := wpo_pos h hb
    refine r_bipush F (z := (-2)) (by decide) d10_ache_43 ?_
    replace h := wpo_some h
    exact r_iret F h d10_ache_45
  · replace h := wpo_neg h hb
    refine r_iload_n F 2 rfl rfl d10_ache_12 ?_
    refine r_i2l F d10_ache_13 ?_
    refine r_lconst F (x := 1) (by decide) d10_ache_14 ?_
    refine r_ldc2 F (z := 20) lc10_310 d10_ache_15 ?_
    replace h := wpo_bind h
    refine r_callS0 F lm10_109 mf10_in rfl (fr := 0) (lo := 0) (As := [vL (w32 p1), vL 1, vL 20]) (rest := []) ⟨Nat.le_of_ble_eq_true rfl, Nat.le_of_ble_eq_true rfl⟩ rfl (Nat.le_of_ble_eq_true rfl) ⟨Nat.zero_le _, Nat.zero_le _⟩ d10_ache_18 ?_
    refine ok10_in hn  (kI h (fun a3 h => ?_))
    refine r_if_eq F (tgt := 43) d10_ache_21 (by decide) (fun hb => ?_) (fun hb => ?_)
    · replace h := wpo_pos h hb
      refine r_bipush F (z := (-2)) (by decide) d10_ache_43 ?_
      replace h := wpo_some h
      exact r_iret F h d10_ache_45
    · replace h := wpo_neg h hb
      refine r_aload_nR F 0 rfl rfl d10_ache_24 ?_
      refine r_bipush F (z := 100) (by decide) d10_ache_25 ?_
      refine r_iload_n F 1 rfl rfl d10_ache_27 ?_
      refine r_imul F d10_ache_28 ?_
      refine r_iload_n F 2 rfl rfl d10_ache_29 ?_
      refine r_iadd F d10_ache_30 ?_
      refine r_aload_nR F 0 rfl rfl d10_ache_31 ?_
      refine r_getR F (z := 124) lf10_34 (vc117 hn) z117_15 d10_ache_32 ?_
      refine r_iload_n F 1 rfl rfl d10_ache_35 ?_
      obtain ⟨hx1, h⟩ := wpo_chk h
      refine r_iald F (vc124 hn) hx1 d10_ache_36 ?_
      replace h := wpo_bind h
      refine r_callV0 F lm10_439 mf10_keepAct (vc117 hn) rfl (fr := 0) (lo := 0) (As := [vI ((100 * p0) + p1), vI (a1 124 p0.toNat)]) (rest := []) ⟨Nat.le_of_ble_eq_true rfl, Nat.le_of_ble_eq_true rfl⟩ rfl (Nat.le_of_ble_eq_true rfl) ⟨Nat.zero_le _, Nat.zero_le _⟩ d10_ache_37 ?_
      refine ok10_keepAct hn  (kIm h (fun a4 h => ?_))
      refine r_goto F (tgt := 45) (by decide) d10_ache_40 ?_
      replace h := wpo_some h
      exact r_iret F h d10_ache_45
theorem d10_comes_0 : decode c10_comes 0 = .ok (.aload_n 0, 1) := by decide +kernel
theorem d10_comes_1 : decode c10_comes 1 = .ok (.invokevirtual 274, 3) := by decide +kernel
theorem d10_comes_4 : decode c10_comes 4 = .ok (.aload_n 0, 1) := by decide +kernel
theorem d10_comes_5 : decode c10_comes 5 = .ok (.iload_n 1, 1) := by decide +kernel
theorem d10_comes_6 : decode c10_comes 6 = .ok (.invokevirtual 283, 3) := by decide +kernel
theorem d10_comes_9 : decode c10_comes 9 = .ok (.ifCond .eq 38, 3) := by decide +kernel
theorem d10_comes_12 : decode c10_comes 12 = .ok (.iload_n 2, 1) := by decide +kernel
theorem d10_comes_13 : decode c10_comes 13 = .ok (.i2l, 1) := by decide +kernel
theorem d10_comes_14 : decode c10_comes 14 = .ok (.lconst 0, 1) := by decide +kernel
theorem d10_comes_15 : decode c10_comes 15 = .ok (.ldc2_w 442, 3) := by decide +kernel
theorem d10_comes_18 : decode c10_comes 18 = .ok (.invokestatic 109, 3) := by decide +kernel
theorem d10_comes_21 : decode c10_comes 21 = .ok (.ifCond .eq 26, 3) := by decide +kernel
theorem d10_comes_24 : decode c10_comes 24 = .ok (.aload_n 0, 1) := by decide +kernel
theorem d10_comes_25 : decode c10_comes 25 = .ok (.sipush 1000, 3) := by decide +kernel
theorem d10_comes_28 : decode c10_comes 28 = .ok (.bipush 100, 2) := by decide +kernel
theorem d10_comes_30 : decode c10_comes 30 = .ok (.iload_n 1, 1) := by decide +kernel
theorem d10_comes_31 : decode c10_comes 31 = .ok (.imul, 1) := by decide +kernel
theorem d10_comes_32 : decode c10_comes 32 = .ok (.iadd, 1) := by decide +kernel
theorem d10_comes_33 : decode c10_comes 33 = .ok (.iload_n 2, 1) := by decide +kernel
theorem d10_comes_34 : decode c10_comes 34 = .ok (.iadd, 1) := by decide +kernel
theorem d10_comes_35 : decode c10_comes 35 = .ok (.aload_n 0, 1) := by decide +kernel
theorem d10_comes_36 : decode c10_comes 36 = .ok (.getfield 37, 3) := by decide +kernel
theorem d10_comes_39 : decode c10_comes 39 = .ok (.iload_n 1, 1) := by decide +kernel
theorem d10_comes_40 : decode c10_comes 40 = .ok (.iaload, 1) := by decide +kernel
theorem d10_comes_41 : decode c10_comes 41 = .ok (.invokevirtual 439, 3) := by decide +kernel
theorem d10_comes_44 : decode c10_comes 44 = .ok (.goto 5, 3) := by decide +kernel
theorem d10_comes_47 : decode c10_comes 47 = .ok (.bipush (-2), 2) := by decide +kernel
theorem d10_comes_49 : decode c10_comes 49 = .ok (.ireturn, 1) := by decide +kernel
def f10_comes (D : Mem) (p0 : Int) (p1 : Int) : Option (Int × Mem) :=
  Option.bind (f10_asItIs D) fun (a1 : Mem) =>
  Option.bind (f10_isPerson a1 p0) fun (a2 : Int) =>
  if w32 a2 = 0 then
    some ((-2), a1)
  else
    Option.bind (f10_in a1 (w32 p1) 0 11) fun (a3 : Int) =>
    if w32 a3 = 0 then
      some ((-2), a1)
    else
      if 0 ≤ p0 ∧ p0 < 8 then
        Option.bind (f10_keepAct a1 ((1000 + (100 * p0)) + p1) (a1 125 p0.toNat)) fun (a4 : Int × Mem) =>
        some (a4.1, a4.2)
      else none
set_option maxHeartbeats 4000000 in
theorem ok10_comes {l : Launch} {X : XT} {n : Nat} {D : Mem} {Q : Option Value → Nat → Rho → Mem → Prop} (hn : 147 ≤ n) {p0 : Int} {p1 : Int}  (h : wpo (f10_comes D p0 p1) (fun a => Q (some (vI a.1)) n rt a.2)) : MOK l y10_comes c10_comes 3 (some .int) { frames := 2, cells := 0, slots := 0, locals := 46 } 0 0 X [vR X 117, vI p0, vI p1] n rt D Q := by
  refine MOK_of 10 (by decide +kernel) rfl (lv := [(0, vR X 117), (1, vI p0), (2, vI p1)]) (Nat.le_of_ble_eq_true rfl) rfl (fun K hK F hnm => ?_)
  subst hK
  unfold f10_comes at h
  refine r_aload_nR F 0 rfl rfl d10_comes_0 ?_
  replace h := wpo_bind h
  refine r_callV0 F lm10_274 mf10_asItIs (vc117 hn) rfl (fr := 1) (lo := 22) (As := []) (rest := []) ⟨Nat.le_of_ble_eq_true rfl, Nat.le_of_ble_eq_true rfl⟩ rfl (Nat.le_of_ble_eq_true rfl) ⟨Nat.zero_le _, Nat.zero_le _⟩ d10_comes_1 ?_
  refine ok10_asItIs hn  (kVm h (fun a1 h => ?_))
  refine r_aload_nR F 0 rfl rfl d10_comes_4 ?_
  refine r_iload_n F 1 rfl rfl d10_comes_5 ?_
  replace h := wpo_bind h
  refine r_callV0 F lm10_283 mf10_isPerson (vc117 hn) rfl (fr := 1) (lo := 25) (As := [vI p0]) (rest := []) ⟨Nat.le_of_ble_eq_true rfl, Nat.le_of_ble_eq_true rfl⟩ rfl (Nat.le_of_ble_eq_true rfl) ⟨Nat.zero_le _, Nat.zero_le _⟩ d10_comes_6 ?_
  refine ok10_isPerson hn  (kI h (fun a2 h => ?_))
  refine r_if_eq F (tgt := 47) d10_comes_9 (by decide) (fun hb => ?_) (fun hb => ?_)
  · replace h := wpo_pos h hb
    refine r_bipush F (z := (-2)) (by decide) d10_comes_47 ?_
    replace h := wpo_some h
    exact r_iret F h d10_comes_49
  · replace h := wpo_neg h hb
    refine r_iload_n F 2 rfl rfl d10_comes_12 ?_
    refine r_i2l F d10_comes_13 ?_
    refine r_lconst F (x := 0) (by decide) d10_comes_14 ?_
    refine r_ldc2 F (z := 11) lc10_442 d10_comes_15 ?_
    replace h := wpo_bind h
    refine r_callS0 F lm10_109 mf10_in rfl (fr := 0) (lo := 0) (As := [vL (w32 p1), vL 0, vL 11]) (rest := []) ⟨Nat.le_of_ble_eq_true rfl, Nat.le_of_ble_eq_true rfl⟩ rfl (Nat.le_of_ble_eq_true rfl) ⟨Nat.zero_le _, Nat.zero_le _⟩ d10_comes_18 ?_
    refine ok10_in hn  (kI h (fun a3 h => ?_))
    refine r_if_eq F (tgt := 47) d10_comes_21 (by decide) (fun hb => ?_) (fun hb => ?_)
    · replace h := wpo_pos h hb
      refine r_bipush F (z := (-2)) (by decide) d10_comes_47 ?_
      replace h := wpo_some h
      exact r_iret F h d10_comes_49
    · replace h := wpo_neg h hb
      refine r_aload_nR F 0 rfl rfl d10_comes_24 ?_
      refine r_sipush F (z := 1000) (by decide) d10_comes_25 ?_
      refine r_bipush F (z := 100) (by decide) d10_comes_28 ?_
      refine r_iload_n F 1 rfl rfl d10_comes_30 ?_
      refine r_imul F d10_comes_31 ?_
      refine r_iadd F d10_comes_32 ?_
      refine r_iload_n F 2 rfl rfl d10_comes_33 ?_
      refine r_iadd F d10_comes_34 ?_
      refine r_aload_nR F 0 rfl rfl d10_comes_35 ?_
      refine r_getR F (z := 125) lf10_37 (vc117 hn) z117_16 d10_comes_36 ?_
      refine r_iload_n F 1 rfl rfl d10_comes_39 ?_
      obtain ⟨hx1, h⟩ := wpo_chk h
      refine r_iald F (vc125 hn) hx1 d10_comes_40 ?_
      replace h := wpo_bind h
      refine r_callV0 F lm10_439 mf10_keepAct (vc117 hn) rfl (fr := 0) (lo := 0) (As := [vI ((1000 + (100 * p0)) + p1), vI (a1 125 p0.toNat)]) (rest := []) ⟨Nat.le_of_ble_eq_true rfl, Nat.le_of_ble_eq_true rfl⟩ rfl (Nat.le_of_ble_eq_true rfl) ⟨Nat.zero_le _, Nat.zero_le _⟩ d10_comes_41 ?_
      refine ok10_keepAct hn  (kIm h (fun a4 h => ?_))
      refine r_goto F (tgt := 49) (by decide) d10_comes_44 ?_
      replace h := wpo_some h
      exact r_iret F h d10_comes_49
theorem d10_undo_0 : decode c10_undo 0 = .ok (.aload_n 0, 1) := by decide +kernel
theorem d10_undo_1 : decode c10_undo 1 = .ok (.invokevirtual 113, 3) := by decide +kernel
theorem d10_undo_4 : decode c10_undo 4 = .ok (.ifCond .ne 6, 3) := by decide +kernel
theorem d10_undo_7 : decode c10_undo 7 = .ok (.bipush (-2), 2) := by decide +kernel
theorem d10_undo_9 : decode c10_undo 9 = .ok (.ireturn, 1) := by decide +kernel
theorem d10_undo_10 : decode c10_undo 10 = .ok (.aload_n 0, 1) := by decide +kernel
theorem d10_undo_11 : decode c10_undo 11 = .ok (.getfield 9, 3) := by decide +kernel
theorem d10_undo_14 : decode c10_undo 14 = .ok (.bipush 8, 2) := by decide +kernel
theorem d10_undo_16 : decode c10_undo 16 = .ok (.iaload, 1) := by decide +kernel
theorem d10_undo_17 : decode c10_undo 17 = .ok (.ifCond .ne 6, 3) := by decide +kernel
theorem d10_undo_20 : decode c10_undo 20 = .ok (.bipush (-5), 2) := by decide +kernel
theorem d10_undo_22 : decode c10_undo 22 = .ok (.ireturn, 1) := by decide +kernel
theorem d10_undo_23 : decode c10_undo 23 = .ok (.aload_n 0, 1) := by decide +kernel
theorem d10_undo_24 : decode c10_undo 24 = .ok (.getfield 9, 3) := by decide +kernel
theorem d10_undo_27 : decode c10_undo 27 = .ok (.bipush 8, 2) := by decide +kernel
theorem d10_undo_29 : decode c10_undo 29 = .ok (.dup2, 1) := by decide +kernel
theorem d10_undo_30 : decode c10_undo 30 = .ok (.iaload, 1) := by decide +kernel
theorem d10_undo_31 : decode c10_undo 31 = .ok (.iconst 1, 1) := by decide +kernel
theorem d10_undo_32 : decode c10_undo 32 = .ok (.isub, 1) := by decide +kernel
theorem d10_undo_33 : decode c10_undo 33 = .ok (.iastore, 1) := by decide +kernel
theorem d10_undo_34 : decode c10_undo 34 = .ok (.aload_n 0, 1) := by decide +kernel
theorem d10_undo_35 : decode c10_undo 35 = .ok (.getfield 9, 3) := by decide +kernel
theorem d10_undo_38 : decode c10_undo 38 = .ok (.bipush 8, 2) := by decide +kernel
theorem d10_undo_40 : decode c10_undo 40 = .ok (.iaload, 1) := by decide +kernel
theorem d10_undo_41 : decode c10_undo 41 = .ok (.ireturn, 1) := by decide +kernel
def f10_undo (D : Mem) : Option (Int × Mem) :=
  Option.bind (f10_isParish D) fun (a1 : Int) =>
  if w32 a1 = 0 then
    some ((-2), D)
  else
    if w32 (D 118 8) = 0 then
      some ((-5), D)
    else
      Option.bind (some (mset D 118 8 ((D 118 8) - 1))) fun (D1 : Mem) =>
      some ((D1 118 8), D1)
set_option maxHeartbeats 4000000 in
theorem ok10_undo {l : Launch} {X : XT} {n : Nat} {D : Mem} {Q : Option Value → Nat → Rho → Mem → Prop} (hn : 147 ≤ n)  (h : wpo (f10_undo D) (fun a => Q (some (vI a.1)) n rt a.2)) : MOK l y10_undo c10_undo 1 (some .int) { frames := 1, cells := 0, slots := 0, locals := 20 } 0 0 X [vR X 117] n rt D Q := by
  refine MOK_of 10 (by decide +kernel) rfl (lv := [(0, vR X 117)]) (Nat.le_of_ble_eq_true rfl) rfl (fun K hK F hnm => ?_)
  subst hK
  unfold f10_undo at h
  refine r_aload_nR F 0 rfl rfl d10_undo_0 ?_
  replace h := wpo_bind h
  refine r_callV0 F lm10_113 mf10_isParish (vc117 hn) rfl (fr := 0) (lo := 0) (As := []) (rest := []) ⟨Nat.le_of_ble_eq_true rfl, Nat.le_of_ble_eq_true rfl⟩ rfl (Nat.le_of_ble_eq_true rfl) ⟨Nat.zero_le _, Nat.zero_le _⟩ d10_undo_1 ?_
  refine ok10_isParish hn  (kI h (fun a1 h => ?_))
  refine r_if_ne F (tgt := 10) d10_undo_4 (by decide) (fun hb => ?_) (fun hb => ?_)
  · replace h := wpo_neg h hb
    refine r_aload_nR F 0 rfl rfl d10_undo_10 ?_
    refine r_getR F (z := 118) lf10_9 (vc117 hn) z117_1 d10_undo_11 ?_
    refine r_bipush F (z := 8) (by decide) d10_undo_14 ?_
    refine r_ialdC F (j := 8) (vc118 hn) (by decide) rfl d10_undo_16 ?_
    refine r_if_ne F (tgt := 23) d10_undo_17 (by decide) (fun hb => ?_) (fun hb => ?_)
    · replace h := wpo_neg h hb
      refine r_aload_nR F 0 rfl rfl d10_undo_23 ?_
      refine r_getR F (z := 118) lf10_9 (vc117 hn) z117_1 d10_undo_24 ?_
      refine r_bipush F (z := 8) (by decide) d10_undo_27 ?_
      refine r_dup2 F rfl rfl d10_undo_29 ?_
      refine r_ialdC F (j := 8) (vc118 hn) (by decide) rfl d10_undo_30 ?_
      refine r_iconst F (z := 1) d10_undo_31 ?_
      refine r_isub F d10_undo_32 ?_
      refine r_iastC F (j := 8) (vc118 hn) (by decide) rfl d10_undo_33 ?_
      refine r_aload_nR F 0 rfl rfl d10_undo_34 ?_
      refine r_getR F (z := 118) lf10_9 (vc117 hn) z117_1 d10_undo_35 ?_
      refine r_bipush F (z := 8) (by decide) d10_undo_38 ?_
      refine at_name (B := fun (D1 : Mem) => At K X (ZQ K X Q) 0 0 n rt 1 40 [(0, vR X 117)] [vI 8, vR X 118] D1) h (fun D1 h => ?_)
      refine r_ialdC F (j := 8) (vc118 hn) (by decide) rfl d10_undo_40 ?_
      replace h := wpo_some h
      exact r_iret F h d10_undo_41
    · replace h := wpo_pos h hb
      refine r_bipush F (z := (-5)) (by decide) d10_undo_20 ?_
      replace h := wpo_some h
      exact r_iret F h d10_undo_22
  · replace h := wpo_pos h hb
    refine r_bipush F (z := (-2)) (by decide) d10_undo_7 ?_
    replace h := wpo_some h
    exact r_iret F h d10_undo_9
theorem d10_anew_0 : decode c10_anew 0 = .ok (.aload_n 0, 1) := by decide +kernel
theorem d10_anew_1 : decode c10_anew 1 = .ok (.invokevirtual 113, 3) := by decide +kernel
theorem d10_anew_4 : decode c10_anew 4 = .ok (.ifCond .ne 6, 3) := by decide +kernel
theorem d10_anew_7 : decode c10_anew 7 = .ok (.bipush (-2), 2) := by decide +kernel
theorem d10_anew_9 : decode c10_anew 9 = .ok (.ireturn, 1) := by decide +kernel
theorem d10_anew_10 : decode c10_anew 10 = .ok (.aload_n 0, 1) := by decide +kernel
theorem d10_anew_11 : decode c10_anew 11 = .ok (.getfield 9, 3) := by decide +kernel
theorem d10_anew_14 : decode c10_anew 14 = .ok (.bipush 8, 2) := by decide +kernel
theorem d10_anew_16 : decode c10_anew 16 = .ok (.iaload, 1) := by decide +kernel
theorem d10_anew_17 : decode c10_anew 17 = .ok (.istore_n 1, 1) := by decide +kernel
theorem d10_anew_18 : decode c10_anew 18 = .ok (.aload_n 0, 1) := by decide +kernel
theorem d10_anew_19 : decode c10_anew 19 = .ok (.getfield 9, 3) := by decide +kernel
theorem d10_anew_22 : decode c10_anew 22 = .ok (.bipush 8, 2) := by decide +kernel
theorem d10_anew_24 : decode c10_anew 24 = .ok (.iconst 0, 1) := by decide +kernel
theorem d10_anew_25 : decode c10_anew 25 = .ok (.iastore, 1) := by decide +kernel
theorem d10_anew_26 : decode c10_anew 26 = .ok (.iload_n 1, 1) := by decide +kernel
theorem d10_anew_27 : decode c10_anew 27 = .ok (.ireturn, 1) := by decide +kernel
def f10_anew (D : Mem) : Option (Int × Mem) :=
  Option.bind (f10_isParish D) fun (a1 : Int) =>
  if w32 a1 = 0 then
    some ((-2), D)
  else
    some ((D 118 8), (mset D 118 8 0))
set_option maxHeartbeats 4000000 in
theorem ok10_anew {l : Launch} {X : XT} {n : Nat} {D : Mem} {Q : Option Value → Nat → Rho → Mem → Prop} (hn : 147 ≤ n)  (h : wpo (f10_anew D) (fun a => Q (some (vI a.1)) n rt a.2)) : MOK l y10_anew c10_anew 2 (some .int) { frames := 1, cells := 0, slots := 0, locals := 20 } 0 0 X [vR X 117] n rt D Q := by
  refine MOK_of 10 (by decide +kernel) rfl (lv := [(0, vR X 117)]) (Nat.le_of_ble_eq_true rfl) rfl (fun K hK F hnm => ?_)
  subst hK
  unfold f10_anew at h
  refine r_aload_nR F 0 rfl rfl d10_anew_0 ?_
  replace h := wpo_bind h
  refine r_callV0 F lm10_113 mf10_isParish (vc117 hn) rfl (fr := 0) (lo := 0) (As := []) (rest := []) ⟨Nat.le_of_ble_eq_true rfl, Nat.le_of_ble_eq_true rfl⟩ rfl (Nat.le_of_ble_eq_true rfl) ⟨Nat.zero_le _, Nat.zero_le _⟩ d10_anew_1 ?_
  refine ok10_isParish hn  (kI h (fun a1 h => ?_))
  refine r_if_ne F (tgt := 10) d10_anew_4 (by decide) (fun hb => ?_) (fun hb => ?_)
  · replace h := wpo_neg h hb
    refine r_aload_nR F 0 rfl rfl d10_anew_10 ?_
    refine r_getR F (z := 118) lf10_9 (vc117 hn) z117_1 d10_anew_11 ?_
    refine r_bipush F (z := 8) (by decide) d10_anew_14 ?_
    refine r_ialdC F (j := 8) (vc118 hn) (by decide) rfl d10_anew_16 ?_
    refine r_istore_n F (lv' := [(1, vI (D 118 8)), (0, vR X 117)]) rfl (Nat.le_of_ble_eq_true rfl) rfl d10_anew_17 ?_
    refine r_aload_nR F 1 rfl rfl d10_anew_18 ?_
    refine r_getR F (z := 118) lf10_9 (vc117 hn) z117_1 d10_anew_19 ?_
    refine r_bipush F (z := 8) (by decide) d10_anew_22 ?_
    refine r_iconst F (z := 0) d10_anew_24 ?_
    refine r_iastC F (j := 8) (vc118 hn) (by decide) rfl d10_anew_25 ?_
    refine r_iload_n F 0 rfl rfl d10_anew_26 ?_
    replace h := wpo_some h
    exact r_iret F h d10_anew_27
  · replace h := wpo_pos h hb
    refine r_bipush F (z := (-2)) (by decide) d10_anew_7 ?_
    replace h := wpo_some h
    exact r_iret F h d10_anew_9
theorem d10_goDrawn_0 : decode c10_goDrawn 0 = .ok (.aload_n 0, 1) := by decide +kernel
theorem d10_goDrawn_1 : decode c10_goDrawn 1 = .ok (.invokevirtual 274, 3) := by decide +kernel
theorem d10_goDrawn_4 : decode c10_goDrawn 4 = .ok (.lload_n 1, 1) := by decide +kernel
theorem d10_goDrawn_5 : decode c10_goDrawn 5 = .ok (.lstore_n 3, 1) := by decide +kernel
theorem d10_goDrawn_6 : decode c10_goDrawn 6 = .ok (.aload_n 0, 1) := by decide +kernel
theorem d10_goDrawn_7 : decode c10_goDrawn 7 = .ok (.iconst 0, 1) := by decide +kernel
theorem d10_goDrawn_8 : decode c10_goDrawn 8 = .ok (.putfield 237, 3) := by decide +kernel
theorem d10_goDrawn_11 : decode c10_goDrawn 11 = .ok (.aload_n 0, 1) := by decide +kernel
theorem d10_goDrawn_12 : decode c10_goDrawn 12 = .ok (.getfield 237, 3) := by decide +kernel
theorem d10_goDrawn_15 : decode c10_goDrawn 15 = .ok (.aload_n 0, 1) := by decide +kernel
theorem d10_goDrawn_16 : decode c10_goDrawn 16 = .ok (.invokevirtual 256, 3) := by decide +kernel
theorem d10_goDrawn_19 : decode c10_goDrawn 19 = .ok (.if_icmp .ge 54, 3) := by decide +kernel
theorem d10_goDrawn_22 : decode c10_goDrawn 22 = .ok (.ldc2_w 444, 3) := by decide +kernel
theorem d10_goDrawn_25 : decode c10_goDrawn 25 = .ok (.lload_n 3, 1) := by decide +kernel
theorem d10_goDrawn_26 : decode c10_goDrawn 26 = .ok (.lmul, 1) := by decide +kernel
theorem d10_goDrawn_27 : decode c10_goDrawn 27 = .ok (.ldc2_w 446, 3) := by decide +kernel
theorem d10_goDrawn_30 : decode c10_goDrawn 30 = .ok (.ladd, 1) := by decide +kernel
theorem d10_goDrawn_31 : decode c10_goDrawn 31 = .ok (.ldc2_w 448, 3) := by decide +kernel
theorem d10_goDrawn_34 : decode c10_goDrawn 34 = .ok (.lrem, 1) := by decide +kernel
theorem d10_goDrawn_35 : decode c10_goDrawn 35 = .ok (.lstore_n 3, 1) := by decide +kernel
theorem d10_goDrawn_36 : decode c10_goDrawn 36 = .ok (.lload_n 3, 1) := by decide +kernel
theorem d10_goDrawn_37 : decode c10_goDrawn 37 = .ok (.ldc2_w 450, 3) := by decide +kernel
theorem d10_goDrawn_40 : decode c10_goDrawn 40 = .ok (.ldiv, 1) := by decide +kernel
theorem d10_goDrawn_41 : decode c10_goDrawn 41 = .ok (.ldc2_w 430, 3) := by decide +kernel
theorem d10_goDrawn_44 : decode c10_goDrawn 44 = .ok (.lrem, 1) := by decide +kernel
theorem d10_goDrawn_45 : decode c10_goDrawn 45 = .ok (.aload_n 0, 1) := by decide +kernel
theorem d10_goDrawn_46 : decode c10_goDrawn 46 = .ok (.getfield 9, 3) := by decide +kernel
theorem d10_goDrawn_49 : decode c10_goDrawn 49 = .ok (.bipush 6, 2) := by decide +kernel
theorem d10_goDrawn_51 : decode c10_goDrawn 51 = .ok (.iaload, 1) := by decide +kernel
theorem d10_goDrawn_52 : decode c10_goDrawn 52 = .ok (.i2l, 1) := by decide +kernel
theorem d10_goDrawn_53 : decode c10_goDrawn 53 = .ok (.lcmp, 1) := by decide +kernel
theorem d10_goDrawn_54 : decode c10_goDrawn 54 = .ok (.ifCond .ge 6, 3) := by decide +kernel
theorem d10_goDrawn_57 : decode c10_goDrawn 57 = .ok (.goto 16, 3) := by decide +kernel
theorem d10_goDrawn_60 : decode c10_goDrawn 60 = .ok (.aload_n 0, 1) := by decide +kernel
theorem d10_goDrawn_61 : decode c10_goDrawn 61 = .ok (.dup, 1) := by decide +kernel
theorem d10_goDrawn_62 : decode c10_goDrawn 62 = .ok (.getfield 237, 3) := by decide +kernel
theorem d10_goDrawn_65 : decode c10_goDrawn 65 = .ok (.iconst 1, 1) := by decide +kernel
theorem d10_goDrawn_66 : decode c10_goDrawn 66 = .ok (.iadd, 1) := by decide +kernel
theorem d10_goDrawn_67 : decode c10_goDrawn 67 = .ok (.putfield 237, 3) := by decide +kernel
theorem d10_goDrawn_70 : decode c10_goDrawn 70 = .ok (.goto (-59), 3) := by decide +kernel
theorem d10_goDrawn_73 : decode c10_goDrawn 73 = .ok (.aload_n 0, 1) := by decide +kernel
theorem d10_goDrawn_74 : decode c10_goDrawn 74 = .ok (.invokevirtual 277, 3) := by decide +kernel
theorem d10_goDrawn_77 : decode c10_goDrawn 77 = .ok (.aload_n 0, 1) := by decide +kernel
theorem d10_goDrawn_78 : decode c10_goDrawn 78 = .ok (.getfield 237, 3) := by decide +kernel
theorem d10_goDrawn_81 : decode c10_goDrawn 81 = .ok (.aload_n 0, 1) := by decide +kernel
theorem d10_goDrawn_82 : decode c10_goDrawn 82 = .ok (.invokevirtual 256, 3) := by decide +kernel
theorem d10_goDrawn_85 : decode c10_goDrawn 85 = .ok (.if_icmp .ge 10, 3) := by decide +kernel
theorem d10_goDrawn_88 : decode c10_goDrawn 88 = .ok (.aload_n 0, 1) := by decide +kernel
theorem d10_goDrawn_89 : decode c10_goDrawn 89 = .ok (.getfield 237, 3) := by decide +kernel
theorem d10_goDrawn_92 : decode c10_goDrawn 92 = .ok (.goto 4, 3) := by decide +kernel
theorem d10_goDrawn_95 : decode c10_goDrawn 95 = .ok (.iconst (-1), 1) := by decide +kernel
theorem d10_goDrawn_96 : decode c10_goDrawn 96 = .ok (.ireturn, 1) := by decide +kernel
def f10_goDrawn (D : Mem) (p0 : Int) : Option (Int × Mem) :=
  Option.bind (f10_asItIs D) fun (a1 : Mem) =>
  Option.bind (some (mset a1 117 22 0)) fun (D1 : Mem) =>
  Option.bind (@loop (Int × Mem) (Mem) (fun s1 =>
    Option.bind (f10_nights s1.2) fun (a2 : Int) =>
    if w32 (s1.2 117 22) < w32 a2 then
      Option.bind (some (rem64 ((1103515245 * s1.1) + 12345) 2147483648)) fun (v1 : Int) =>
      if w64 (rem64 (div64 v1 65536) 10) < w64 (w32 (s1.2 118 6)) then
        some (Sum.inr s1.2)
      else
        some (Sum.inl (v1, (mset s1.2 117 22 ((s1.2 117 22) + 1))))
    else
      some (Sum.inr s1.2)
  ) FU (p0, D1)) fun (b1 : Mem) =>
  Option.bind (f10_goNights b1) fun (a3 : Mem) =>
  Option.bind (f10_nights a3) fun (a4 : Int) =>
  if w32 (a3 117 22) < w32 a4 then
    some ((a3 117 22), a3)
  else
    some ((-1), a3)
set_option maxHeartbeats 4000000 in
theorem ok10_goDrawn {l : Launch} {X : XT} {n : Nat} {D : Mem} {Q : Option Value → Nat → Rho → Mem → Prop} (hn : 147 ≤ n) {p0 : Int}  (h : wpo (f10_goDrawn D p0) (fun a => Q (some (vI a.1)) n rt a.2)) : MOK l y10_goDrawn c10_goDrawn 5 (some .int) { frames := 4, cells := 0, slots := 0, locals := 93 } 0 0 X [vR X 117, vL p0] n rt D Q := by
  refine MOK_of 10 (by decide +kernel) rfl (lv := [(0, vR X 117), (1, vL p0)]) (Nat.le_of_ble_eq_true rfl) rfl (fun K hK F hnm => ?_)
  subst hK
  unfold f10_goDrawn at h
  refine r_aload_nR F 0 rfl rfl d10_goDrawn_0 ?_
  replace h := wpo_bind h
  refine r_callV0 F lm10_274 mf10_asItIs (vc117 hn) rfl (fr := 1) (lo := 22) (As := []) (rest := []) ⟨Nat.le_of_ble_eq_true rfl, Nat.le_of_ble_eq_true rfl⟩ rfl (Nat.le_of_ble_eq_true rfl) ⟨Nat.zero_le _, Nat.zero_le _⟩ d10_goDrawn_1 ?_
  refine ok10_asItIs hn  (kVm h (fun a1 h => ?_))
  refine r_lload_n F 1 rfl rfl d10_goDrawn_4 ?_
  refine r_lstore_n F (lv' := [(3, vL p0), (0, vR X 117), (1, vL p0)]) rfl (Nat.le_of_ble_eq_true rfl) rfl d10_goDrawn_5 ?_
  refine r_aload_nR F 1 rfl rfl d10_goDrawn_6 ?_
  refine r_iconst F (z := 0) d10_goDrawn_7 ?_
  refine r_putI F lf10_237 rfl rfl (vc117 hn) d10_goDrawn_8 ?_
  refine at_name (B := fun (D1 : Mem) => At K X (ZQ K X Q) 0 0 n rt 5 11 [(3, vL p0), (0, vR X 117), (1, vL p0)] [] D1) h (fun D1 h => ?_)
  refine r_weak [1, 0] rfl ?_
  refine at_loopj (A := fun (s1 : Int × Mem) => At K X (ZQ K X Q) 0 0 n rt 5 11 [(0, vR X 117), (3, vL s1.1)] [] s1.2) (B := fun (b1 : Mem) => At K X (ZQ K X Q) 0 0 n rt 5 73 [(0, vR X 117)] [] b1) h (fun b1 h => ?_) (fun s1 h => ?_)
  · refine r_aload_nR F 0 rfl rfl d10_goDrawn_73 ?_
    replace h := wpo_bind h
    refine r_callV0 F lm10_277 mf10_goNights (vc117 hn) rfl (fr := 3) (lo := 72) (As := []) (rest := []) ⟨Nat.le_of_ble_eq_true rfl, Nat.le_of_ble_eq_true rfl⟩ rfl (Nat.le_of_ble_eq_true rfl) ⟨Nat.zero_le _, Nat.zero_le _⟩ d10_goDrawn_74 ?_
    refine ok10_goNights hn  (kVm h (fun a3 h => ?_))
    refine r_aload_nR F 0 rfl rfl d10_goDrawn_77 ?_
    refine r_getI F lf10_237 (vc117 hn) d10_goDrawn_78 ?_
    refine r_aload_nR F 0 rfl rfl d10_goDrawn_81 ?_
    replace h := wpo_bind h
    refine r_callV0 F lm10_256 mf10_nights (vc117 hn) rfl (fr := 0) (lo := 0) (As := []) (rest := [vI (a3 117 22)]) ⟨Nat.le_of_ble_eq_true rfl, Nat.le_of_ble_eq_true rfl⟩ rfl (Nat.le_of_ble_eq_true rfl) ⟨Nat.zero_le _, Nat.zero_le _⟩ d10_goDrawn_82 ?_
    refine ok10_nights hn  (kI h (fun a4 h => ?_))
    refine r_icmp_ge F (tgt := 95) d10_goDrawn_85 (by decide) (fun hb => ?_) (fun hb => ?_)
    · replace h := wpo_neg h hb
      refine r_iconst F (z := (-1)) d10_goDrawn_95 ?_
      replace h := wpo_some h
      exact r_iret F h d10_goDrawn_96
    · replace h := wpo_pos h hb
      refine r_aload_nR F 0 rfl rfl d10_goDrawn_88 ?_
      refine r_getI F lf10_237 (vc117 hn) d10_goDrawn_89 ?_
      refine r_goto F (tgt := 96) (by decide) d10_goDrawn_92 ?_
      replace h := wpo_some h
      exact r_iret F h d10_goDrawn_96
  · refine r_aload_nR F 0 rfl rfl d10_goDrawn_11 ?_
    refine r_getI F lf10_237 (vc117 hn) d10_goDrawn_12 ?_
    refine r_aload_nR F 0 rfl rfl d10_goDrawn_15 ?_
    replace h := wpo_bind h
    refine r_callV0 F lm10_256 mf10_nights (vc117 hn) rfl (fr := 0) (lo := 0) (As := []) (rest := [vI (s1.2 117 22)]) ⟨Nat.le_of_ble_eq_true rfl, Nat.le_of_ble_eq_true rfl⟩ rfl (Nat.le_of_ble_eq_true rfl) ⟨Nat.zero_le _, Nat.zero_le _⟩ d10_goDrawn_16 ?_
    refine ok10_nights hn  (kI h (fun a2 h => ?_))
    refine r_icmp_ge F (tgt := 73) d10_goDrawn_19 (by decide) (fun hb => ?_) (fun hb => ?_)
    · replace h := wpo_neg h hb
      refine r_weak [0] rfl ?_
      replace h := wpo_inr h
      exact h
    · replace h := wpo_pos h hb
      refine r_ldc2 F (z := 1103515245) lc10_444 d10_goDrawn_22 ?_
      refine r_lload_n F 1 rfl rfl d10_goDrawn_25 ?_
      refine r_lmul F d10_goDrawn_26 ?_
      refine r_ldc2 F (z := 12345) lc10_446 d10_goDrawn_27 ?_
      refine r_ladd F d10_goDrawn_30 ?_
      refine r_ldc2 F (z := 2147483648) lc10_448 d10_goDrawn_31 ?_
      refine r_lrem F (by decide +kernel) d10_goDrawn_34 ?_
      refine r_lstore_n F (lv' := [(3, vL (rem64 ((1103515245 * s1.1) + 12345) 2147483648)), (0, vR X 117)]) rfl (Nat.le_of_ble_eq_true rfl) rfl d10_goDrawn_35 ?_
      refine at_name (B := fun (v1 : Int) => At K X (ZQ K X Q) 0 0 n rt 5 36 [(3, vL v1), (0, vR X 117)] [] s1.2) h (fun v1 h => ?_)
      refine r_lload_n F 0 rfl rfl d10_goDrawn_36 ?_
      refine r_ldc2 F (z := 65536) lc10_450 d10_goDrawn_37 ?_
      refine r_ldiv F (by decide +kernel) d10_goDrawn_40 ?_
      refine r_ldc2 F (z := 10) lc10_430 d10_goDrawn_41 ?_
      refine r_lrem F (by decide +kernel) d10_goDrawn_44 ?_
      refine r_aload_nR F 1 rfl rfl d10_goDrawn_45 ?_
      refine r_getR F (z := 118) lf10_9 (vc117 hn) z117_1 d10_goDrawn_46 ?_
      refine r_bipush F (z := 6) (by decide) d10_goDrawn_49 ?_
      refine r_ialdC F (j := 6) (vc118 hn) (by decide) rfl d10_goDrawn_51 ?_
      refine r_i2l F d10_goDrawn_52 ?_
      refine r_lc_ge F (tgt := 60) d10_goDrawn_53 d10_goDrawn_54 (by decide) (fun hb => ?_) (fun hb => ?_)
      · replace h := wpo_neg h hb
        refine r_aload_nR F 1 rfl rfl d10_goDrawn_60 ?_
        refine r_dup F rfl d10_goDrawn_61 ?_
        refine r_getI F lf10_237 (vc117 hn) d10_goDrawn_62 ?_
        refine r_iconst F (z := 1) d10_goDrawn_65 ?_
        refine r_iadd F d10_goDrawn_66 ?_
        refine r_putI F lf10_237 rfl rfl (vc117 hn) d10_goDrawn_67 ?_
        refine r_goto F (tgt := 11) (by decide) d10_goDrawn_70 ?_
        refine r_weak [1, 0] rfl ?_
        replace h := wpo_inl h
        exact h
      · replace h := wpo_pos h hb
        refine r_goto F (tgt := 73) (by decide) d10_goDrawn_57 ?_
        refine r_weak [1] rfl ?_
        replace h := wpo_inr h
        exact h
theorem d10_isSeed_0 : decode c10_isSeed 0 = .ok (.iload_n 0, 1) := by decide +kernel
theorem d10_isSeed_1 : decode c10_isSeed 1 = .ok (.i2l, 1) := by decide +kernel
theorem d10_isSeed_2 : decode c10_isSeed 2 = .ok (.lconst 0, 1) := by decide +kernel
theorem d10_isSeed_3 : decode c10_isSeed 3 = .ok (.ldc2_w 452, 3) := by decide +kernel
theorem d10_isSeed_6 : decode c10_isSeed 6 = .ok (.invokestatic 109, 3) := by decide +kernel
theorem d10_isSeed_9 : decode c10_isSeed 9 = .ok (.ireturn, 1) := by decide +kernel
def f10_isSeed (D : Mem) (p0 : Int) : Option (Int) :=
  Option.bind (f10_in D (w32 p0) 0 2000000000) fun (a1 : Int) =>
  if a1 = 0 ∨ a1 = 1 then
    some a1
  else none
set_option maxHeartbeats 4000000 in
theorem ok10_isSeed {l : Launch} {X : XT} {n : Nat} {D : Mem} {Q : Option Value → Nat → Rho → Mem → Prop} (hn : 147 ≤ n) {p0 : Int}  (h : wpo (f10_isSeed D p0) (fun a => Q (some (vI a)) n rt D)) : MOK l y10_isSeed c10_isSeed 1 (some .boolean) { frames := 1, cells := 0, slots := 0, locals := 25 } 0 0 X [vI p0] n rt D Q := by
  refine MOK_of 10 (by decide +kernel) rfl (lv := [(0, vI p0)]) (Nat.le_of_ble_eq_true rfl) rfl (fun K hK F hnm => ?_)
  subst hK
  unfold f10_isSeed at h
  refine r_iload_n F 0 rfl rfl d10_isSeed_0 ?_
  refine r_i2l F d10_isSeed_1 ?_
  refine r_lconst F (x := 0) (by decide) d10_isSeed_2 ?_
  refine r_ldc2 F (z := 2000000000) lc10_452 d10_isSeed_3 ?_
  replace h := wpo_bind h
  refine r_callS0 F lm10_109 mf10_in rfl (fr := 0) (lo := 0) (As := [vL (w32 p0), vL 0, vL 2000000000]) (rest := []) ⟨Nat.le_of_ble_eq_true rfl, Nat.le_of_ble_eq_true rfl⟩ rfl (Nat.le_of_ble_eq_true rfl) ⟨Nat.zero_le _, Nat.zero_le _⟩ d10_isSeed_6 ?_
  refine ok10_in hn  (kI h (fun a1 h => ?_))
  obtain ⟨hx1, h⟩ := wpo_chk h
  replace h := wpo_some h
  exact r_zret F hx1 h d10_isSeed_9
theorem d10_drawn_0 : decode c10_drawn 0 = .ok (.aload_n 0, 1) := by decide +kernel
theorem d10_drawn_1 : decode c10_drawn 1 = .ok (.invokevirtual 113, 3) := by decide +kernel
theorem d10_drawn_4 : decode c10_drawn 4 = .ok (.ifCond .eq 20, 3) := by decide +kernel
theorem d10_drawn_7 : decode c10_drawn 7 = .ok (.iload_n 1, 1) := by decide +kernel
theorem d10_drawn_8 : decode c10_drawn 8 = .ok (.invokestatic 454, 3) := by decide +kernel
theorem d10_drawn_11 : decode c10_drawn 11 = .ok (.ifCond .eq 13, 3) := by decide +kernel
theorem d10_drawn_14 : decode c10_drawn 14 = .ok (.iload_n 2, 1) := by decide +kernel
theorem d10_drawn_15 : decode c10_drawn 15 = .ok (.i2l, 1) := by decide +kernel
theorem d10_drawn_16 : decode c10_drawn 16 = .ok (.lconst 0, 1) := by decide +kernel
theorem d10_drawn_17 : decode c10_drawn 17 = .ok (.lconst 1, 1) := by decide +kernel
theorem d10_drawn_18 : decode c10_drawn 18 = .ok (.invokestatic 109, 3) := by decide +kernel
theorem d10_drawn_21 : decode c10_drawn 21 = .ok (.ifCond .ne 6, 3) := by decide +kernel
theorem d10_drawn_24 : decode c10_drawn 24 = .ok (.bipush (-2), 2) := by decide +kernel
theorem d10_drawn_26 : decode c10_drawn 26 = .ok (.ireturn, 1) := by decide +kernel
theorem d10_drawn_27 : decode c10_drawn 27 = .ok (.aload_n 0, 1) := by decide +kernel
theorem d10_drawn_28 : decode c10_drawn 28 = .ok (.iload_n 1, 1) := by decide +kernel
theorem d10_drawn_29 : decode c10_drawn 29 = .ok (.i2l, 1) := by decide +kernel
theorem d10_drawn_30 : decode c10_drawn 30 = .ok (.invokevirtual 457, 3) := by decide +kernel
theorem d10_drawn_33 : decode c10_drawn 33 = .ok (.istore_n 3, 1) := by decide +kernel
theorem d10_drawn_34 : decode c10_drawn 34 = .ok (.iload_n 2, 1) := by decide +kernel
theorem d10_drawn_35 : decode c10_drawn 35 = .ok (.ifCond .ne 7, 3) := by decide +kernel
theorem d10_drawn_38 : decode c10_drawn 38 = .ok (.iload_n 3, 1) := by decide +kernel
theorem d10_drawn_39 : decode c10_drawn 39 = .ok (.goto 7, 3) := by decide +kernel
theorem d10_drawn_42 : decode c10_drawn 42 = .ok (.aload_n 0, 1) := by decide +kernel
theorem d10_drawn_43 : decode c10_drawn 43 = .ok (.invokevirtual 303, 3) := by decide +kernel
theorem d10_drawn_46 : decode c10_drawn 46 = .ok (.ireturn, 1) := by decide +kernel
def f10_drawn (D : Mem) (p0 : Int) (p1 : Int) : Option (Int × Mem) :=
  Option.bind (f10_isParish D) fun (a1 : Int) =>
  if w32 a1 = 0 then
    some ((-2), D)
  else
    Option.bind (f10_isSeed D p0) fun (a2 : Int) =>
    if w32 a2 = 0 then
      some ((-2), D)
    else
      Option.bind (f10_in D (w32 p1) 0 1) fun (a3 : Int) =>
      if w32 a3 = 0 then
        some ((-2), D)
      else
        Option.bind (f10_goDrawn D (w32 p0)) fun (a4 : Int × Mem) =>
        if w32 p1 = 0 then
          some (a4.1, a4.2)
        else
          Option.bind (f10_bearsAll a4.2) fun (a5 : Int) =>
          some (a5, a4.2)
set_option maxHeartbeats 4000000 in
theorem ok10_drawn {l : Launch} {X : XT} {n : Nat} {D : Mem} {Q : Option Value → Nat → Rho → Mem → Prop} (hn : 147 ≤ n) {p0 : Int} {p1 : Int}  (h : wpo (f10_drawn D p0 p1) (fun a => Q (some (vI a.1)) n rt a.2)) : MOK l y10_drawn c10_drawn 4 (some .int) { frames := 5, cells := 0, slots := 0, locals := 117 } 0 0 X [vR X 117, vI p0, vI p1] n rt D Q := by
  refine MOK_of 10 (by decide +kernel) rfl (lv := [(0, vR X 117), (1, vI p0), (2, vI p1)]) (Nat.le_of_ble_eq_true rfl) rfl (fun K hK F hnm => ?_)
  subst hK
  unfold f10_drawn at h
  refine r_aload_nR F 0 rfl rfl d10_drawn_0 ?_
  replace h := wpo_bind h
  refine r_callV0 F lm10_113 mf10_isParish (vc117 hn) rfl (fr := 0) (lo := 0) (As := []) (rest := []) ⟨Nat.le_of_ble_eq_true rfl, Nat.le_of_ble_eq_true rfl⟩ rfl (Nat.le_of_ble_eq_true rfl) ⟨Nat.zero_le _, Nat.zero_le _⟩ d10_drawn_1 ?_
  refine ok10_isParish hn  (kI h (fun a1 h => ?_))
  refine r_if_eq F (tgt := 24) d10_drawn_4 (by decide) (fun hb => ?_) (fun hb => ?_)
  · replace h := wpo_pos h hb
    refine r_bipush F (z := (-2)) (by decide) d10_drawn_24 ?_
    replace h := wpo_some h
    exact r_iret F h d10_drawn_26
  · replace h := wpo_neg h hb
    refine r_iload_n F 1 rfl rfl d10_drawn_7 ?_
    replace h := wpo_bind h
    refine r_callS0 F lm10_454 mf10_isSeed rfl (fr := 1) (lo := 25) (As := [vI p0]) (rest := []) ⟨Nat.le_of_ble_eq_true rfl, Nat.le_of_ble_eq_true rfl⟩ rfl (Nat.le_of_ble_eq_true rfl) ⟨Nat.zero_le _, Nat.zero_le _⟩ d10_drawn_8 ?_
    refine ok10_isSeed hn  (kI h (fun a2 h => ?_))
    refine r_if_eq F (tgt := 24) d10_drawn_11 (by decide) (fun hb => ?_) (fun hb => ?_)
    · replace h := wpo_pos h hb
      refine r_bipush F (z := (-2)) (by decide) d10_drawn_24 ?_
      replace h := wpo_some h
      exact r_iret F h d10_drawn_26
    · replace h := wpo_neg h hb
      refine r_iload_n F 2 rfl rfl d10_drawn_14 ?_
      refine r_i2l F d10_drawn_15 ?_
      refine r_lconst F (x := 0) (by decide) d10_drawn_16 ?_
      refine r_lconst F (x := 1) (by decide) d10_drawn_17 ?_
      replace h := wpo_bind h
      refine r_callS0 F lm10_109 mf10_in rfl (fr := 0) (lo := 0) (As := [vL (w32 p1), vL 0, vL 1]) (rest := []) ⟨Nat.le_of_ble_eq_true rfl, Nat.le_of_ble_eq_true rfl⟩ rfl (Nat.le_of_ble_eq_true rfl) ⟨Nat.zero_le _, Nat.zero_le _⟩ d10_drawn_18 ?_
      refine ok10_in hn  (kI h (fun a3 h => ?_))
      refine r_if_ne F (tgt := 27) d10_drawn_21 (by decide) (fun hb => ?_) (fun hb => ?_)
      · replace h := wpo_neg h hb
        refine r_aload_nR F 0 rfl rfl d10_drawn_27 ?_
        refine r_iload_n F 1 rfl rfl d10_drawn_28 ?_
        refine r_i2l F d10_drawn_29 ?_
        replace h := wpo_bind h
        refine r_callV0 F lm10_457 mf10_goDrawn (vc117 hn) rfl (fr := 4) (lo := 93) (As := [vL (w32 p0)]) (rest := []) ⟨Nat.le_of_ble_eq_true rfl, Nat.le_of_ble_eq_true rfl⟩ rfl (Nat.le_of_ble_eq_true rfl) ⟨Nat.zero_le _, Nat.zero_le _⟩ d10_drawn_30 ?_
        refine ok10_goDrawn hn  (kIm h (fun a4 h => ?_))
        refine r_istore_n F (lv' := [(3, vI a4.1), (0, vR X 117), (1, vI p0), (2, vI p1)]) rfl (Nat.le_of_ble_eq_true rfl) rfl d10_drawn_33 ?_
        refine r_iload_n F 3 rfl rfl d10_drawn_34 ?_
        refine r_if_ne F (tgt := 42) d10_drawn_35 (by decide) (fun hb => ?_) (fun hb => ?_)
        · replace h := wpo_neg h hb
          refine r_aload_nR F 1 rfl rfl d10_drawn_42 ?_
          replace h := wpo_bind h
          refine r_callV0 F lm10_303 mf10_bearsAll (vc117 hn) rfl (fr := 4) (lo := 87) (As := []) (rest := []) ⟨Nat.le_of_ble_eq_true rfl, Nat.le_of_ble_eq_true rfl⟩ rfl (Nat.le_of_ble_eq_true rfl) ⟨Nat.zero_le _, Nat.zero_le _⟩ d10_drawn_43 ?_
          refine ok10_bearsAll hn  (kI h (fun a5 h => ?_))
          replace h := wpo_some h
          exact r_iret F h d10_drawn_46
        · replace h := wpo_pos h hb
          refine r_iload_n F 0 rfl rfl d10_drawn_38 ?_
          refine r_goto F (tgt := 46) (by decide) d10_drawn_39 ?_
          replace h := wpo_some h
          exact r_iret F h d10_drawn_46
      · replace h := wpo_pos h hb
        refine r_bipush F (z := (-2)) (by decide) d10_drawn_24 ?_
        replace h := wpo_some h
        exact r_iret F h d10_drawn_26
theorem d10_luck_0 : decode c10_luck 0 = .ok (.iload_n 1, 1) := by decide +kernel
theorem d10_luck_1 : decode c10_luck 1 = .ok (.invokestatic 454, 3) := by decide +kernel
theorem d10_luck_4 : decode c10_luck 4 = .ok (.ifCond .eq 23, 3) := by decide +kernel
theorem d10_luck_7 : decode c10_luck 7 = .ok (.iload_n 2, 1) := by decide +kernel
theorem d10_luck_8 : decode c10_luck 8 = .ok (.i2l, 1) := by decide +kernel
theorem d10_luck_9 : decode c10_luck 9 = .ok (.lconst 1, 1) := by decide +kernel
theorem d10_luck_10 : decode c10_luck 10 = .ok (.ldc2_w 310, 3) := by decide +kernel
theorem d10_luck_13 : decode c10_luck 13 = .ok (.invokestatic 109, 3) := by decide +kernel
theorem d10_luck_16 : decode c10_luck 16 = .ok (.ifCond .eq 11, 3) := by decide +kernel
theorem d10_luck_19 : decode c10_luck 19 = .ok (.aload_n 0, 1) := by decide +kernel
theorem d10_luck_20 : decode c10_luck 20 = .ok (.iload_n 3, 1) := by decide +kernel
theorem d10_luck_21 : decode c10_luck 21 = .ok (.invokevirtual 283, 3) := by decide +kernel
theorem d10_luck_24 : decode c10_luck 24 = .ok (.ifCond .ne 6, 3) := by decide +kernel
theorem d10_luck_27 : decode c10_luck 27 = .ok (.bipush (-2), 2) := by decide +kernel
theorem d10_luck_29 : decode c10_luck 29 = .ok (.ireturn, 1) := by decide +kernel
theorem d10_luck_30 : decode c10_luck 30 = .ok (.iconst 0, 1) := by decide +kernel
theorem d10_luck_31 : decode c10_luck 31 = .ok (.istore 4, 2) := by decide +kernel
theorem d10_luck_33 : decode c10_luck 33 = .ok (.iconst 0, 1) := by decide +kernel
theorem d10_luck_34 : decode c10_luck 34 = .ok (.istore 5, 2) := by decide +kernel
theorem d10_luck_36 : decode c10_luck 36 = .ok (.iload 5, 2) := by decide +kernel
theorem d10_luck_38 : decode c10_luck 38 = .ok (.iload_n 2, 1) := by decide +kernel
theorem d10_luck_39 : decode c10_luck 39 = .ok (.if_icmp .ge 40, 3) := by decide +kernel
theorem d10_luck_42 : decode c10_luck 42 = .ok (.aload_n 0, 1) := by decide +kernel
theorem d10_luck_43 : decode c10_luck 43 = .ok (.iload_n 1, 1) := by decide +kernel
theorem d10_luck_44 : decode c10_luck 44 = .ok (.i2l, 1) := by decide +kernel
theorem d10_luck_45 : decode c10_luck 45 = .ok (.iload 5, 2) := by decide +kernel
theorem d10_luck_47 : decode c10_luck 47 = .ok (.i2l, 1) := by decide +kernel
theorem d10_luck_48 : decode c10_luck 48 = .ok (.ladd, 1) := by decide +kernel
theorem d10_luck_49 : decode c10_luck 49 = .ok (.invokevirtual 457, 3) := by decide +kernel
theorem d10_luck_52 : decode c10_luck 52 = .ok (.pop, 1) := by decide +kernel
theorem d10_luck_53 : decode c10_luck 53 = .ok (.iload 4, 2) := by decide +kernel
theorem d10_luck_55 : decode c10_luck 55 = .ok (.aload_n 0, 1) := by decide +kernel
theorem d10_luck_56 : decode c10_luck 56 = .ok (.getfield 46, 3) := by decide +kernel
theorem d10_luck_59 : decode c10_luck 59 = .ok (.iload_n 3, 1) := by decide +kernel
theorem d10_luck_60 : decode c10_luck 60 = .ok (.iaload, 1) := by decide +kernel
theorem d10_luck_61 : decode c10_luck 61 = .ok (.iconst (-1), 1) := by decide +kernel
theorem d10_luck_62 : decode c10_luck 62 = .ok (.if_icmp .ne 7, 3) := by decide +kernel
theorem d10_luck_65 : decode c10_luck 65 = .ok (.iconst 0, 1) := by decide +kernel
theorem d10_luck_66 : decode c10_luck 66 = .ok (.goto 4, 3) := by decide +kernel
theorem d10_luck_69 : decode c10_luck 69 = .ok (.iconst 1, 1) := by decide +kernel
theorem d10_luck_70 : decode c10_luck 70 = .ok (.iadd, 1) := by decide +kernel
theorem d10_luck_71 : decode c10_luck 71 = .ok (.istore 4, 2) := by decide +kernel
theorem d10_luck_73 : decode c10_luck 73 = .ok (.iinc 5 1, 3) := by decide +kernel
theorem d10_luck_76 : decode c10_luck 76 = .ok (.goto (-40), 3) := by decide +kernel
theorem d10_luck_79 : decode c10_luck 79 = .ok (.iload 4, 2) := by decide +kernel
theorem d10_luck_81 : decode c10_luck 81 = .ok (.ireturn, 1) := by decide +kernel
def f10_luck (D : Mem) (p0 : Int) (p1 : Int) (p2 : Int) : Option (Int × Mem) :=
  Option.bind (f10_isSeed D p0) fun (a1 : Int) =>
  if w32 a1 = 0 then
    some ((-2), D)
  else
    Option.bind (f10_in D (w32 p1) 1 20) fun (a2 : Int) =>
    if w32 a2 = 0 then
      some ((-2), D)
    else
      Option.bind (f10_isPerson D p2) fun (a3 : Int) =>
      if w32 a3 = 0 then
        some ((-2), D)
      else
        Option.bind (@loop (Int × Int × Mem) (Int × Mem) (fun s1 =>
          if w32 s1.2.1 < w32 p1 then
            Option.bind (f10_goDrawn s1.2.2 ((w32 p0) + (w32 s1.2.1))) fun (a4 : Int × Mem) =>
            if 0 ≤ p2 ∧ p2 < 8 then
              Option.bind (
                if w32 (a4.2 128 p2.toNat) = w32 (-1) then
                  some 0
                else
                  some 1
              ) fun (j1 : Int) =>
              some (Sum.inl ((s1.1 + j1), (s1.2.1 + 1), a4.2))
            else none
          else
            some (Sum.inr (s1.1, s1.2.2))
        ) FU (0, 0, D)) fun (b1 : Int × Mem) =>
        some (b1.1, b1.2)
set_option maxHeartbeats 4000000 in
theorem ok10_luck {l : Launch} {X : XT} {n : Nat} {D : Mem} {Q : Option Value → Nat → Rho → Mem → Prop} (hn : 147 ≤ n) {p0 : Int} {p1 : Int} {p2 : Int}  (h : wpo (f10_luck D p0 p1 p2) (fun a => Q (some (vI a.1)) n rt a.2)) : MOK l y10_luck c10_luck 6 (some .int) { frames := 5, cells := 0, slots := 0, locals := 117 } 0 0 X [vR X 117, vI p0, vI p1, vI p2] n rt D Q := by
  refine MOK_of 10 (by decide +kernel) rfl (lv := [(0, vR X 117), (1, vI p0), (2, vI p1), (3, vI p2)]) (Nat.le_of_ble_eq_true rfl) rfl (fun K hK F hnm => ?_)
  subst hK
  unfold f10_luck at h
  refine r_iload_n F 1 rfl rfl d10_luck_0 ?_
  replace h := wpo_bind h
  refine r_callS0 F lm10_454 mf10_isSeed rfl (fr := 1) (lo := 25) (As := [vI p0]) (rest := []) ⟨Nat.le_of_ble_eq_true rfl, Nat.le_of_ble_eq_true rfl⟩ rfl (Nat.le_of_ble_eq_true rfl) ⟨Nat.zero_le _, Nat.zero_le _⟩ d10_luck_1 ?_
  refine ok10_isSeed hn  (kI h (fun a1 h => ?_))
  refine r_if_eq F (tgt := 27) d10_luck_4 (by decide) (fun hb => ?_) (fun hb => ?_)
  · replace h := wpo_pos h hb
    refine r_bipush F (z := (-2)) (by decide) d10_luck_27 ?_
    replace h := wpo_some h
    exact r_iret F h d10_luck_29
  · replace h := wpo_neg h hb
    refine r_iload_n F 2 rfl rfl d10_luck_7 ?_
    refine r_i2l F d10_luck_8 ?_
    refine r_lconst F (x := 1) (by decide) d10_luck_9 ?_
    refine r_ldc2 F (z := 20) lc10_310 d10_luck_10 ?_
    replace h := wpo_bind h
    refine r_callS0 F lm10_109 mf10_in rfl (fr := 0) (lo := 0) (As := [vL (w32 p1), vL 1, vL 20]) (rest := []) ⟨Nat.le_of_ble_eq_true rfl, Nat.le_of_ble_eq_true rfl⟩ rfl (Nat.le_of_ble_eq_true rfl) ⟨Nat.zero_le _, Nat.zero_le _⟩ d10_luck_13 ?_
    refine ok10_in hn  (kI h (fun a2 h => ?_))
    refine r_if_eq F (tgt := 27) d10_luck_16 (by decide) (fun hb => ?_) (fun hb => ?_)
    · replace h := wpo_pos h hb
      refine r_bipush F (z := (-2)) (by decide) d10_luck_27 ?_
      replace h := wpo_some h
      exact r_iret F h d10_luck_29
    · replace h := wpo_neg h hb
      refine r_aload_nR F 0 rfl rfl d10_luck_19 ?_
      refine r_iload_n F 3 rfl rfl d10_luck_20 ?_
      replace h := wpo_bind h
      refine r_callV0 F lm10_283 mf10_isPerson (vc117 hn) rfl (fr := 1) (lo := 25) (As := [vI p2]) (rest := []) ⟨Nat.le_of_ble_eq_true rfl, Nat.le_of_ble_eq_true rfl⟩ rfl (Nat.le_of_ble_eq_true rfl) ⟨Nat.zero_le _, Nat.zero_le _⟩ d10_luck_21 ?_
      refine ok10_isPerson hn  (kI h (fun a3 h => ?_))
      refine r_if_ne F (tgt := 30) d10_luck_24 (by decide) (fun hb => ?_) (fun hb => ?_)
      · replace h := wpo_neg h hb
        refine r_iconst F (z := 0) d10_luck_30 ?_
        refine r_istore F (lv' := [(4, vI 0), (0, vR X 117), (1, vI p0), (2, vI p1), (3, vI p2)]) (Nat.le_of_ble_eq_true rfl) rfl d10_luck_31 ?_
        refine r_iconst F (z := 0) d10_luck_33 ?_
        refine r_istore F (lv' := [(5, vI 0), (4, vI 0), (0, vR X 117), (1, vI p0), (2, vI p1), (3, vI p2)]) (Nat.le_of_ble_eq_true rfl) rfl d10_luck_34 ?_
        refine r_weak [2, 3, 4, 5, 1, 0] rfl ?_
        refine at_loopj (A := fun (s1 : Int × Int × Mem) => At K X (ZQ K X Q) 0 0 n rt 6 36 [(0, vR X 117), (1, vI p0), (2, vI p1), (3, vI p2), (4, vI s1.1), (5, vI s1.2.1)] [] s1.2.2) (B := fun (b1 : Int × Mem) => At K X (ZQ K X Q) 0 0 n rt 6 79 [(4, vI b1.1)] [] b1.2) h (fun b1 h => ?_) (fun s1 h => ?_)
        · refine r_iload F 0 rfl d10_luck_79 ?_
          replace h := wpo_some h
          exact r_iret F h d10_luck_81
        · refine r_iload F 5 rfl d10_luck_36 ?_
          refine r_iload_n F 2 rfl rfl d10_luck_38 ?_
          refine r_icmp_ge F (tgt := 79) d10_luck_39 (by decide) (fun hb => ?_) (fun hb => ?_)
          · replace h := wpo_neg h hb
            refine r_weak [4] rfl ?_
            replace h := wpo_inr h
            exact h
          · replace h := wpo_pos h hb
            refine r_aload_nR F 0 rfl rfl d10_luck_42 ?_
            refine r_iload_n F 1 rfl rfl d10_luck_43 ?_
            refine r_i2l F d10_luck_44 ?_
            refine r_iload F 5 rfl d10_luck_45 ?_
            refine r_i2l F d10_luck_47 ?_
            refine r_ladd F d10_luck_48 ?_
            replace h := wpo_bind h
            refine r_callV0 F lm10_457 mf10_goDrawn (vc117 hn) rfl (fr := 4) (lo := 93) (As := [vL ((w32 p0) + (w32 s1.2.1))]) (rest := []) ⟨Nat.le_of_ble_eq_true rfl, Nat.le_of_ble_eq_true rfl⟩ rfl (Nat.le_of_ble_eq_true rfl) ⟨Nat.zero_le _, Nat.zero_le _⟩ d10_luck_49 ?_
            refine ok10_goDrawn hn  (kIm h (fun a4 h => ?_))
            refine r_pop F rfl d10_luck_52 ?_
            refine r_iload F 4 rfl d10_luck_53 ?_
            refine r_aload_nR F 0 rfl rfl d10_luck_55 ?_
            refine r_getR F (z := 128) lf10_46 (vc117 hn) z117_23 d10_luck_56 ?_
            refine r_iload_n F 3 rfl rfl d10_luck_59 ?_
            obtain ⟨hx1, h⟩ := wpo_chk h
            refine r_iald F (vc128 hn) hx1 d10_luck_60 ?_
            refine r_iconst F (z := (-1)) d10_luck_61 ?_
            refine at_join (B := fun (j1 : Int) => At K X (ZQ K X Q) 0 0 n rt 6 70 [(0, vR X 117), (1, vI p0), (2, vI p1), (3, vI p2), (5, vI s1.2.1)] [vI j1, vI s1.1] a4.2) h (fun j1 h => ?_) (fun h => ?_)
            · refine r_iadd F d10_luck_70 ?_
              refine r_istore F (lv' := [(4, vI (s1.1 + j1)), (0, vR X 117), (1, vI p0), (2, vI p1), (3, vI p2), (5, vI s1.2.1)]) (Nat.le_of_ble_eq_true rfl) rfl d10_luck_71 ?_
              refine r_iinc F 5 (lv' := [(5, vI (s1.2.1 + 1)), (4, vI (s1.1 + j1)), (0, vR X 117), (1, vI p0), (2, vI p1), (3, vI p2)]) rfl (Nat.le_of_ble_eq_true rfl) rfl d10_luck_73 ?_
              refine r_goto F (tgt := 36) (by decide) d10_luck_76 ?_
              refine r_weak [2, 3, 4, 5, 1, 0] rfl ?_
              replace h := wpo_inl h
              exact h
            · refine r_icmp_ne F (tgt := 69) d10_luck_62 (by decide) (fun hb => ?_) (fun hb => ?_)
              · replace h := wpo_neg h hb
                refine r_iconst F (z := 1) d10_luck_69 ?_
                refine r_weak [0, 1, 2, 3, 5] rfl ?_
                replace h := wpo_some h
                exact h
              · replace h := wpo_pos h hb
                refine r_iconst F (z := 0) d10_luck_65 ?_
                refine r_goto F (tgt := 70) (by decide) d10_luck_66 ?_
                refine r_weak [0, 1, 2, 3, 5] rfl ?_
                replace h := wpo_some h
                exact h
      · replace h := wpo_pos h hb
        refine r_bipush F (z := (-2)) (by decide) d10_luck_27 ?_
        replace h := wpo_some h
        exact r_iret F h d10_luck_29
theorem d10_widen_0 : decode c10_widen 0 = .ok (.aload_n 0, 1) := by decide +kernel
theorem d10_widen_1 : decode c10_widen 1 = .ok (.invokevirtual 113, 3) := by decide +kernel
theorem d10_widen_4 : decode c10_widen 4 = .ok (.ifCond .eq 15, 3) := by decide +kernel
theorem d10_widen_7 : decode c10_widen 7 = .ok (.iload_n 1, 1) := by decide +kernel
theorem d10_widen_8 : decode c10_widen 8 = .ok (.i2l, 1) := by decide +kernel
theorem d10_widen_9 : decode c10_widen 9 = .ok (.lconst 1, 1) := by decide +kernel
theorem d10_widen_10 : decode c10_widen 10 = .ok (.ldc2_w 461, 3) := by decide +kernel
theorem d10_widen_13 : decode c10_widen 13 = .ok (.invokestatic 109, 3) := by decide +kernel
theorem d10_widen_16 : decode c10_widen 16 = .ok (.ifCond .ne 6, 3) := by decide +kernel
theorem d10_widen_19 : decode c10_widen 19 = .ok (.bipush (-2), 2) := by decide +kernel
theorem d10_widen_21 : decode c10_widen 21 = .ok (.ireturn, 1) := by decide +kernel
theorem d10_widen_22 : decode c10_widen 22 = .ok (.aload_n 0, 1) := by decide +kernel
theorem d10_widen_23 : decode c10_widen 23 = .ok (.getfield 9, 3) := by decide +kernel
theorem d10_widen_26 : decode c10_widen 26 = .ok (.bipush 8, 2) := by decide +kernel
theorem d10_widen_28 : decode c10_widen 28 = .ok (.iaload, 1) := by decide +kernel
theorem d10_widen_29 : decode c10_widen 29 = .ok (.ifCond .le 6, 3) := by decide +kernel
theorem d10_widen_32 : decode c10_widen 32 = .ok (.bipush (-5), 2) := by decide +kernel
theorem d10_widen_34 : decode c10_widen 34 = .ok (.ireturn, 1) := by decide +kernel
theorem d10_widen_35 : decode c10_widen 35 = .ok (.aload_n 0, 1) := by decide +kernel
theorem d10_widen_36 : decode c10_widen 36 = .ok (.getfield 9, 3) := by decide +kernel
theorem d10_widen_39 : decode c10_widen 39 = .ok (.iconst 1, 1) := by decide +kernel
theorem d10_widen_40 : decode c10_widen 40 = .ok (.iaload, 1) := by decide +kernel
theorem d10_widen_41 : decode c10_widen 41 = .ok (.istore_n 2, 1) := by decide +kernel
theorem d10_widen_42 : decode c10_widen 42 = .ok (.aload_n 0, 1) := by decide +kernel
theorem d10_widen_43 : decode c10_widen 43 = .ok (.getfield 9, 3) := by decide +kernel
theorem d10_widen_46 : decode c10_widen 46 = .ok (.iconst 1, 1) := by decide +kernel
theorem d10_widen_47 : decode c10_widen 47 = .ok (.iload_n 1, 1) := by decide +kernel
theorem d10_widen_48 : decode c10_widen 48 = .ok (.iastore, 1) := by decide +kernel
theorem d10_widen_49 : decode c10_widen 49 = .ok (.iload_n 2, 1) := by decide +kernel
theorem d10_widen_50 : decode c10_widen 50 = .ok (.ireturn, 1) := by decide +kernel
def f10_widen (D : Mem) (p0 : Int) : Option (Int × Mem) :=
  Option.bind (f10_isParish D) fun (a1 : Int) =>
  if w32 a1 = 0 then
    some ((-2), D)
  else
    Option.bind (f10_in D (w32 p0) 1 60) fun (a2 : Int) =>
    if w32 a2 = 0 then
      some ((-2), D)
    else
      if 0 < w32 (D 118 8) then
        some ((-5), D)
      else
        some ((D 118 1), (mset D 118 1 p0))
set_option maxHeartbeats 4000000 in
theorem ok10_widen {l : Launch} {X : XT} {n : Nat} {D : Mem} {Q : Option Value → Nat → Rho → Mem → Prop} (hn : 147 ≤ n) {p0 : Int}  (h : wpo (f10_widen D p0) (fun a => Q (some (vI a.1)) n rt a.2)) : MOK l y10_widen c10_widen 3 (some .int) { frames := 1, cells := 0, slots := 0, locals := 25 } 0 0 X [vR X 117, vI p0] n rt D Q := by
  refine MOK_of 10 (by decide +kernel) rfl (lv := [(0, vR X 117), (1, vI p0)]) (Nat.le_of_ble_eq_true rfl) rfl (fun K hK F hnm => ?_)
  subst hK
  unfold f10_widen at h
  refine r_aload_nR F 0 rfl rfl d10_widen_0 ?_
  replace h := wpo_bind h
  refine r_callV0 F lm10_113 mf10_isParish (vc117 hn) rfl (fr := 0) (lo := 0) (As := []) (rest := []) ⟨Nat.le_of_ble_eq_true rfl, Nat.le_of_ble_eq_true rfl⟩ rfl (Nat.le_of_ble_eq_true rfl) ⟨Nat.zero_le _, Nat.zero_le _⟩ d10_widen_1 ?_
  refine ok10_isParish hn  (kI h (fun a1 h => ?_))
  refine r_if_eq F (tgt := 19) d10_widen_4 (by decide) (fun hb => ?_) (fun hb => ?_)
  · replace h := wpo_pos h hb
    refine r_bipush F (z := (-2)) (by decide) d10_widen_19 ?_
    replace h := wpo_some h
    exact r_iret F h d10_widen_21
  · replace h := wpo_neg h hb
    refine r_iload_n F 1 rfl rfl d10_widen_7 ?_
    refine r_i2l F d10_widen_8 ?_
    refine r_lconst F (x := 1) (by decide) d10_widen_9 ?_
    refine r_ldc2 F (z := 60) lc10_461 d10_widen_10 ?_
    replace h := wpo_bind h
    refine r_callS0 F lm10_109 mf10_in rfl (fr := 0) (lo := 0) (As := [vL (w32 p0), vL 1, vL 60]) (rest := []) ⟨Nat.le_of_ble_eq_true rfl, Nat.le_of_ble_eq_true rfl⟩ rfl (Nat.le_of_ble_eq_true rfl) ⟨Nat.zero_le _, Nat.zero_le _⟩ d10_widen_13 ?_
    refine ok10_in hn  (kI h (fun a2 h => ?_))
    refine r_if_ne F (tgt := 22) d10_widen_16 (by decide) (fun hb => ?_) (fun hb => ?_)
    · replace h := wpo_neg h hb
      refine r_aload_nR F 0 rfl rfl d10_widen_22 ?_
      refine r_getR F (z := 118) lf10_9 (vc117 hn) z117_1 d10_widen_23 ?_
      refine r_bipush F (z := 8) (by decide) d10_widen_26 ?_
      refine r_ialdC F (j := 8) (vc118 hn) (by decide) rfl d10_widen_28 ?_
      refine r_if_le F (tgt := 35) d10_widen_29 (by decide) (fun hb => ?_) (fun hb => ?_)
      · replace h := wpo_neg h hb
        refine r_aload_nR F 0 rfl rfl d10_widen_35 ?_
        refine r_getR F (z := 118) lf10_9 (vc117 hn) z117_1 d10_widen_36 ?_
        refine r_iconst F (z := 1) d10_widen_39 ?_
        refine r_ialdC F (j := 1) (vc118 hn) (by decide) rfl d10_widen_40 ?_
        refine r_istore_n F (lv' := [(2, vI (D 118 1)), (0, vR X 117), (1, vI p0)]) rfl (Nat.le_of_ble_eq_true rfl) rfl d10_widen_41 ?_
        refine r_aload_nR F 1 rfl rfl d10_widen_42 ?_
        refine r_getR F (z := 118) lf10_9 (vc117 hn) z117_1 d10_widen_43 ?_
        refine r_iconst F (z := 1) d10_widen_46 ?_
        refine r_iload_n F 2 rfl rfl d10_widen_47 ?_
        refine r_iastC F (j := 1) (vc118 hn) (by decide) rfl d10_widen_48 ?_
        refine r_iload_n F 0 rfl rfl d10_widen_49 ?_
        replace h := wpo_some h
        exact r_iret F h d10_widen_50
      · replace h := wpo_pos h hb
        refine r_bipush F (z := (-5)) (by decide) d10_widen_32 ?_
        replace h := wpo_some h
        exact r_iret F h d10_widen_34
    · replace h := wpo_pos h hb
      refine r_bipush F (z := (-2)) (by decide) d10_widen_19 ?_
      replace h := wpo_some h
      exact r_iret F h d10_widen_21
theorem d10_count_0 : decode c10_count 0 = .ok (.iload_n 1, 1) := by decide +kernel
theorem d10_count_1 : decode c10_count 1 = .ok (.i2l, 1) := by decide +kernel
theorem d10_count_2 : decode c10_count 2 = .ok (.lconst 0, 1) := by decide +kernel
theorem d10_count_3 : decode c10_count 3 = .ok (.ldc2_w 463, 3) := by decide +kernel
theorem d10_count_6 : decode c10_count 6 = .ok (.invokestatic 109, 3) := by decide +kernel
theorem d10_count_9 : decode c10_count 9 = .ok (.ifCond .eq 10, 3) := by decide +kernel
theorem d10_count_12 : decode c10_count 12 = .ok (.aload_n 0, 1) := by decide +kernel
theorem d10_count_13 : decode c10_count 13 = .ok (.getfield 9, 3) := by decide +kernel
theorem d10_count_16 : decode c10_count 16 = .ok (.iload_n 1, 1) := by decide +kernel
theorem d10_count_17 : decode c10_count 17 = .ok (.iaload, 1) := by decide +kernel
theorem d10_count_18 : decode c10_count 18 = .ok (.ireturn, 1) := by decide +kernel
theorem d10_count_19 : decode c10_count 19 = .ok (.iload_n 1, 1) := by decide +kernel
theorem d10_count_20 : decode c10_count 20 = .ok (.bipush 10, 2) := by decide +kernel
theorem d10_count_22 : decode c10_count 22 = .ok (.if_icmp .ne 8, 3) := by decide +kernel
theorem d10_count_25 : decode c10_count 25 = .ok (.aload_n 0, 1) := by decide +kernel
theorem d10_count_26 : decode c10_count 26 = .ok (.getfield 119, 3) := by decide +kernel
theorem d10_count_29 : decode c10_count 29 = .ok (.ireturn, 1) := by decide +kernel
theorem d10_count_30 : decode c10_count 30 = .ok (.iload_n 1, 1) := by decide +kernel
theorem d10_count_31 : decode c10_count 31 = .ok (.bipush 11, 2) := by decide +kernel
theorem d10_count_33 : decode c10_count 33 = .ok (.if_icmp .eq 5, 3) := by decide +kernel
theorem d10_count_36 : decode c10_count 36 = .ok (.iconst (-1), 1) := by decide +kernel
theorem d10_count_37 : decode c10_count 37 = .ok (.ireturn, 1) := by decide +kernel
theorem d10_count_38 : decode c10_count 38 = .ok (.iconst 0, 1) := by decide +kernel
theorem d10_count_39 : decode c10_count 39 = .ok (.istore_n 2, 1) := by decide +kernel
theorem d10_count_40 : decode c10_count 40 = .ok (.iconst 0, 1) := by decide +kernel
theorem d10_count_41 : decode c10_count 41 = .ok (.istore_n 3, 1) := by decide +kernel
theorem d10_count_42 : decode c10_count 42 = .ok (.iload_n 3, 1) := by decide +kernel
theorem d10_count_43 : decode c10_count 43 = .ok (.iconst 4, 1) := by decide +kernel
theorem d10_count_44 : decode c10_count 44 = .ok (.if_icmp .ge 27, 3) := by decide +kernel
theorem d10_count_47 : decode c10_count 47 = .ok (.iload_n 2, 1) := by decide +kernel
theorem d10_count_48 : decode c10_count 48 = .ok (.aload_n 0, 1) := by decide +kernel
theorem d10_count_49 : decode c10_count 49 = .ok (.getfield 92, 3) := by decide +kernel
theorem d10_count_52 : decode c10_count 52 = .ok (.iload_n 3, 1) := by decide +kernel
theorem d10_count_53 : decode c10_count 53 = .ok (.iaload, 1) := by decide +kernel
theorem d10_count_54 : decode c10_count 54 = .ok (.iconst (-1), 1) := by decide +kernel
theorem d10_count_55 : decode c10_count 55 = .ok (.if_icmp .ne 7, 3) := by decide +kernel
theorem d10_count_58 : decode c10_count 58 = .ok (.iconst 0, 1) := by decide +kernel
theorem d10_count_59 : decode c10_count 59 = .ok (.goto 4, 3) := by decide +kernel
theorem d10_count_62 : decode c10_count 62 = .ok (.iconst 1, 1) := by decide +kernel
theorem d10_count_63 : decode c10_count 63 = .ok (.iadd, 1) := by decide +kernel
theorem d10_count_64 : decode c10_count 64 = .ok (.istore_n 2, 1) := by decide +kernel
theorem d10_count_65 : decode c10_count 65 = .ok (.iinc 3 1, 3) := by decide +kernel
theorem d10_count_68 : decode c10_count 68 = .ok (.goto (-26), 3) := by decide +kernel
theorem d10_count_71 : decode c10_count 71 = .ok (.iload_n 2, 1) := by decide +kernel
theorem d10_count_72 : decode c10_count 72 = .ok (.ireturn, 1) := by decide +kernel
def f10_count (D : Mem) (p0 : Int) : Option (Int) :=
  Option.bind (f10_in D (w32 p0) 0 9) fun (a1 : Int) =>
  if w32 a1 = 0 then
    if w32 p0 = w32 10 then
      some (D 117 5)
    else
      if w32 p0 = w32 11 then
        Option.bind (@loop (Int × Int) (Int) (fun s1 =>
          if w32 s1.2 < w32 4 then
            if 0 ≤ s1.2 ∧ s1.2 < 4 then
              Option.bind (
                if w32 (D 143 s1.2.toNat) = w32 (-1) then
                  some 0
                else
                  some 1
              ) fun (j1 : Int) =>
              some (Sum.inl ((s1.1 + j1), (s1.2 + 1)))
            else none
          else
            some (Sum.inr s1.1)
        ) FU (0, 0)) fun (b1 : Int) =>
        some b1
      else
        some (-1)
  else
    if 0 ≤ p0 ∧ p0 < 72 then
      some (D 118 p0.toNat)
    else none
set_option maxHeartbeats 4000000 in
theorem ok10_count {l : Launch} {X : XT} {n : Nat} {D : Mem} {Q : Option Value → Nat → Rho → Mem → Prop} (hn : 147 ≤ n) {p0 : Int}  (h : wpo (f10_count D p0) (fun a => Q (some (vI a)) n rt D)) : MOK l y10_count c10_count 4 (some .int) { frames := 1, cells := 0, slots := 0, locals := 25 } 0 0 X [vR X 117, vI p0] n rt D Q := by
  refine MOK_of 10 (by decide +kernel) rfl (lv := [(0, vR X 117), (1, vI p0)]) (Nat.le_of_ble_eq_true rfl) rfl (fun K hK F hnm => ?_)
  subst hK
  unfold f10_count at h
  refine r_iload_n F 1 rfl rfl d10_count_0 ?_
  refine r_i2l F d10_count_1 ?_
  refine r_lconst F (x := 0) (by decide) d10_count_2 ?_
  refine r_ldc2 F (z := 9) lc10_463 d10_count_3 ?_
  replace h := wpo_bind h
  refine r_callS0 F lm10_109 mf10_in rfl (fr := 0) (lo := 0) (As := [vL (w32 p0), vL 0, vL 9]) (rest := []) ⟨Nat.le_of_ble_eq_true rfl, Nat.le_of_ble_eq_true rfl⟩ rfl (Nat.le_of_ble_eq_true rfl) ⟨Nat.zero_le _, Nat.zero_le _⟩ d10_count_6 ?_
  refine ok10_in hn  (kI h (fun a1 h => ?_))
  refine r_if_eq F (tgt := 19) d10_count_9 (by decide) (fun hb => ?_) (fun hb => ?_)
  · replace h := wpo_pos h hb
    refine r_iload_n F 1 rfl rfl d10_count_19 ?_
    refine r_bipush F (z := 10) (by decide) d10_count_20 ?_
    refine r_icmp_ne F (tgt := 30) d10_count_22 (by decide) (fun hb => ?_) (fun hb => ?_)
    · replace h := wpo_neg h hb
      refine r_iload_n F 1 rfl rfl d10_count_30 ?_
      refine r_bipush F (z := 11) (by decide) d10_count_31 ?_
      refine r_icmp_eq F (tgt := 38) d10_count_33 (by decide) (fun hb => ?_) (fun hb => ?_)
      · replace h := wpo_pos h hb
        refine r_iconst F (z := 0) d10_count_38 ?_
        refine r_istore_n F (lv' := [(2, vI 0), (0, vR X 117), (1, vI p0)]) rfl (Nat.le_of_ble_eq_true rfl) rfl d10_count_39 ?_
        refine r_iconst F (z := 0) d10_count_40 ?_
        refine r_istore_n F (lv' := [(3, vI 0), (2, vI 0), (0, vR X 117), (1, vI p0)]) rfl (Nat.le_of_ble_eq_true rfl) rfl d10_count_41 ?_
        refine r_weak [2, 1, 0] rfl ?_
        refine at_loopj (A := fun (s1 : Int × Int) => At K X (ZQ K X Q) 0 0 n rt 4 42 [(0, vR X 117), (2, vI s1.1), (3, vI s1.2)] [] D) (B := fun (b1 : Int) => At K X (ZQ K X Q) 0 0 n rt 4 71 [(2, vI b1)] [] D) h (fun b1 h => ?_) (fun s1 h => ?_)
        · refine r_iload_n F 0 rfl rfl d10_count_71 ?_
          replace h := wpo_some h
          exact r_iret F h d10_count_72
        · refine r_iload_n F 2 rfl rfl d10_count_42 ?_
          refine r_iconst F (z := 4) d10_count_43 ?_
          refine r_icmp_ge F (tgt := 71) d10_count_44 (by decide) (fun hb => ?_) (fun hb => ?_)
          · replace h := wpo_neg h hb
            refine r_weak [1] rfl ?_
            replace h := wpo_inr h
            exact h
          · replace h := wpo_pos h hb
            refine r_iload_n F 1 rfl rfl d10_count_47 ?_
            refine r_aload_nR F 0 rfl rfl d10_count_48 ?_
            refine r_getR F (z := 143) lf10_92 (vc117 hn) z117_43 d10_count_49 ?_
            refine r_iload_n F 2 rfl rfl d10_count_52 ?_
            obtain ⟨hx1, h⟩ := wpo_chk h
            refine r_iald F (vc143 hn) hx1 d10_count_53 ?_
            refine r_iconst F (z := (-1)) d10_count_54 ?_
            refine at_join (B := fun (j1 : Int) => At K X (ZQ K X Q) 0 0 n rt 4 63 [(0, vR X 117), (3, vI s1.2)] [vI j1, vI s1.1] D) h (fun j1 h => ?_) (fun h => ?_)
            · refine r_iadd F d10_count_63 ?_
              refine r_istore_n F (lv' := [(2, vI (s1.1 + j1)), (0, vR X 117), (3, vI s1.2)]) rfl (Nat.le_of_ble_eq_true rfl) rfl d10_count_64 ?_
              refine r_iinc F 2 (lv' := [(3, vI (s1.2 + 1)), (2, vI (s1.1 + j1)), (0, vR X 117)]) rfl (Nat.le_of_ble_eq_true rfl) rfl d10_count_65 ?_
              refine r_goto F (tgt := 42) (by decide) d10_count_68 ?_
              refine r_weak [2, 1, 0] rfl ?_
              replace h := wpo_inl h
              exact h
            · refine r_icmp_ne F (tgt := 62) d10_count_55 (by decide) (fun hb => ?_) (fun hb => ?_)
              · replace h := wpo_neg h hb
                refine r_iconst F (z := 1) d10_count_62 ?_
                refine r_weak [0, 2] rfl ?_
                replace h := wpo_some h
                exact h
              · replace h := wpo_pos h hb
                refine r_iconst F (z := 0) d10_count_58 ?_
                refine r_goto F (tgt := 63) (by decide) d10_count_59 ?_
                refine r_weak [0, 2] rfl ?_
                replace h := wpo_some h
                exact h
      · replace h := wpo_neg h hb
        refine r_iconst F (z := (-1)) d10_count_36 ?_
        replace h := wpo_some h
        exact r_iret F h d10_count_37
    · replace h := wpo_pos h hb
      refine r_aload_nR F 0 rfl rfl d10_count_25 ?_
      refine r_getI F lf10_119 (vc117 hn) d10_count_26 ?_
      replace h := wpo_some h
      exact r_iret F h d10_count_29
  · replace h := wpo_neg h hb
    refine r_aload_nR F 0 rfl rfl d10_count_12 ?_
    refine r_getR F (z := 118) lf10_9 (vc117 hn) z117_1 d10_count_13 ?_
    refine r_iload_n F 1 rfl rfl d10_count_16 ?_
    obtain ⟨hx2, h⟩ := wpo_chk h
    refine r_iald F (vc118 hn) hx2 d10_count_17 ?_
    replace h := wpo_some h
    exact r_iret F h d10_count_18
theorem d10_cutX_0 : decode c10_cutX 0 = .ok (.bipush 64, 2) := by decide +kernel
theorem d10_cutX_2 : decode c10_cutX 2 = .ok (.bipush 8, 2) := by decide +kernel
theorem d10_cutX_4 : decode c10_cutX 4 = .ok (.iload_n 2, 1) := by decide +kernel
theorem d10_cutX_5 : decode c10_cutX 5 = .ok (.ishl, 1) := by decide +kernel
theorem d10_cutX_6 : decode c10_cutX 6 = .ok (.isub, 1) := by decide +kernel
theorem d10_cutX_7 : decode c10_cutX 7 = .ok (.istore_n 3, 1) := by decide +kernel
theorem d10_cutX_8 : decode c10_cutX 8 = .ok (.lload_n 0, 1) := by decide +kernel
theorem d10_cutX_9 : decode c10_cutX 9 = .ok (.iload_n 3, 1) := by decide +kernel
theorem d10_cutX_10 : decode c10_cutX 10 = .ok (.lshl, 1) := by decide +kernel
theorem d10_cutX_11 : decode c10_cutX 11 = .ok (.iload_n 3, 1) := by decide +kernel
theorem d10_cutX_12 : decode c10_cutX 12 = .ok (.lshr, 1) := by decide +kernel
theorem d10_cutX_13 : decode c10_cutX 13 = .ok (.lreturn, 1) := by decide +kernel
def f10_cutX (D : Mem) (p0 : Int) (p1 : Int) : Option (Int) :=
  Option.bind (some (64 - (shl32 8 p1))) fun (v1 : Int) =>
  some (shr64 (shl64 p0 v1) v1)
set_option maxHeartbeats 4000000 in
theorem ok10_cutX {l : Launch} {X : XT} {n : Nat} {D : Mem} {Q : Option Value → Nat → Rho → Mem → Prop} (hn : 147 ≤ n) {p0 : Int} {p1 : Int}  (h : wpo (f10_cutX D p0 p1) (fun a => Q (some (vL a)) n rt D)) : MOK l y10_cutX c10_cutX 4 (some .long) { frames := 0, cells := 0, slots := 0, locals := 0 } 0 0 X [vL p0, vI p1] n rt D Q := by
  refine MOK_of 10 (by decide +kernel) rfl (lv := [(0, vL p0), (2, vI p1)]) (Nat.le_of_ble_eq_true rfl) rfl (fun K hK F hnm => ?_)
  subst hK
  unfold f10_cutX at h
  refine r_bipush F (z := 64) (by decide) d10_cutX_0 ?_
  refine r_bipush F (z := 8) (by decide) d10_cutX_2 ?_
  refine r_iload_n F 1 rfl rfl d10_cutX_4 ?_
  refine r_ishl F d10_cutX_5 ?_
  refine r_isub F d10_cutX_6 ?_
  refine r_istore_n F (lv' := [(3, vI (64 - (shl32 8 p1))), (0, vL p0), (2, vI p1)]) rfl (Nat.le_of_ble_eq_true rfl) rfl d10_cutX_7 ?_
  refine at_name (B := fun (v1 : Int) => At K X (ZQ K X Q) 0 0 n rt 4 8 [(3, vI v1), (0, vL p0), (2, vI p1)] [] D) h (fun v1 h => ?_)
  refine r_lload_n F 1 rfl rfl d10_cutX_8 ?_
  refine r_iload_n F 0 rfl rfl d10_cutX_9 ?_
  refine r_lshl F d10_cutX_10 ?_
  refine r_iload_n F 0 rfl rfl d10_cutX_11 ?_
  refine r_lshr F d10_cutX_12 ?_
  replace h := wpo_some h
  exact r_lret F h d10_cutX_13
theorem d10_row_0 : decode c10_row 0 = .ok (.iload_n 1, 1) := by decide +kernel
theorem d10_row_1 : decode c10_row 1 = .ok (.invokestatic 385, 3) := by decide +kernel
theorem d10_row_4 : decode c10_row 4 = .ok (.ifCond .eq 21, 3) := by decide +kernel
theorem d10_row_7 : decode c10_row 7 = .ok (.iload_n 2, 1) := by decide +kernel
theorem d10_row_8 : decode c10_row 8 = .ok (.i2l, 1) := by decide +kernel
theorem d10_row_9 : decode c10_row 9 = .ok (.lconst 0, 1) := by decide +kernel
theorem d10_row_10 : decode c10_row 10 = .ok (.ldc2_w 117, 3) := by decide +kernel
theorem d10_row_13 : decode c10_row 13 = .ok (.invokestatic 109, 3) := by decide +kernel
theorem d10_row_16 : decode c10_row 16 = .ok (.ifCond .eq 9, 3) := by decide +kernel
theorem d10_row_19 : decode c10_row 19 = .ok (.iload_n 3, 1) := by decide +kernel
theorem d10_row_20 : decode c10_row 20 = .ok (.bipush 60, 2) := by decide +kernel
theorem d10_row_22 : decode c10_row 22 = .ok (.if_icmp .le 6, 3) := by decide +kernel
theorem d10_row_25 : decode c10_row 25 = .ok (.bipush (-2), 2) := by decide +kernel
theorem d10_row_27 : decode c10_row 27 = .ok (.ireturn, 1) := by decide +kernel
theorem d10_row_28 : decode c10_row 28 = .ok (.iload_n 3, 1) := by decide +kernel
theorem d10_row_29 : decode c10_row 29 = .ok (.ifCond .ge 6, 3) := by decide +kernel
theorem d10_row_32 : decode c10_row 32 = .ok (.bipush (-3), 2) := by decide +kernel
theorem d10_row_34 : decode c10_row 34 = .ok (.ireturn, 1) := by decide +kernel
theorem d10_row_35 : decode c10_row 35 = .ok (.aload_n 0, 1) := by decide +kernel
theorem d10_row_36 : decode c10_row 36 = .ok (.getfield 92, 3) := by decide +kernel
theorem d10_row_39 : decode c10_row 39 = .ok (.iload_n 1, 1) := by decide +kernel
theorem d10_row_40 : decode c10_row 40 = .ok (.iload_n 3, 1) := by decide +kernel
theorem d10_row_41 : decode c10_row 41 = .ok (.iastore, 1) := by decide +kernel
theorem d10_row_42 : decode c10_row 42 = .ok (.aload_n 0, 1) := by decide +kernel
theorem d10_row_43 : decode c10_row 43 = .ok (.getfield 95, 3) := by decide +kernel
theorem d10_row_46 : decode c10_row 46 = .ok (.iload_n 1, 1) := by decide +kernel
theorem d10_row_47 : decode c10_row 47 = .ok (.iload_n 2, 1) := by decide +kernel
theorem d10_row_48 : decode c10_row 48 = .ok (.iastore, 1) := by decide +kernel
theorem d10_row_49 : decode c10_row 49 = .ok (.iconst 0, 1) := by decide +kernel
theorem d10_row_50 : decode c10_row 50 = .ok (.istore 4, 2) := by decide +kernel
theorem d10_row_52 : decode c10_row 52 = .ok (.iload 4, 2) := by decide +kernel
theorem d10_row_54 : decode c10_row 54 = .ok (.bipush 60, 2) := by decide +kernel
theorem d10_row_56 : decode c10_row 56 = .ok (.if_icmp .ge 22, 3) := by decide +kernel
theorem d10_row_59 : decode c10_row 59 = .ok (.aload_n 0, 1) := by decide +kernel
theorem d10_row_60 : decode c10_row 60 = .ok (.getfield 98, 3) := by decide +kernel
theorem d10_row_63 : decode c10_row 63 = .ok (.bipush 60, 2) := by decide +kernel
theorem d10_row_65 : decode c10_row 65 = .ok (.iload_n 1, 1) := by decide +kernel
theorem d10_row_66 : decode c10_row 66 = .ok (.imul, 1) := by decide +kernel
theorem d10_row_67 : decode c10_row 67 = .ok (.iload 4, 2) := by decide +kernel
theorem d10_row_69 : decode c10_row 69 = .ok (.iadd, 1) := by decide +kernel
theorem d10_row_70 : decode c10_row 70 = .ok (.lconst 0, 1) := by decide +kernel
theorem d10_row_71 : decode c10_row 71 = .ok (.lastore, 1) := by decide +kernel
theorem d10_row_72 : decode c10_row 72 = .ok (.iinc 4 1, 3) := by decide +kernel
theorem d10_row_75 : decode c10_row 75 = .ok (.goto (-23), 3) := by decide +kernel
theorem d10_row_78 : decode c10_row 78 = .ok (.iconst 0, 1) := by decide +kernel
theorem d10_row_79 : decode c10_row 79 = .ok (.ireturn, 1) := by decide +kernel
def f10_row (D : Mem) (p0 : Int) (p1 : Int) (p2 : Int) : Option (Int × Mem) :=
  Option.bind (f10_isSlot D p0) fun (a1 : Int) =>
  if w32 a1 = 0 then
    some ((-2), D)
  else
    Option.bind (f10_in D (w32 p1) 0 3) fun (a2 : Int) =>
    if w32 a2 = 0 then
      some ((-2), D)
    else
      if w32 60 < w32 p2 then
        some ((-2), D)
      else
        if w32 p2 < 0 then
          some ((-3), D)
        else
          if 0 ≤ p0 ∧ p0 < 4 then
            Option.bind (some (mset D 143 p0.toNat p2)) fun (D1 : Mem) =>
            Option.bind (some (mset D1 144 p0.toNat p1)) fun (D2 : Mem) =>
            Option.bind (@loop (Int × Mem) (Mem) (fun s1 =>
              if w32 s1.1 < w32 60 then
                if 0 ≤ ((60 * p0) + s1.1) ∧ ((60 * p0) + s1.1) < 240 then
                  some (Sum.inl ((s1.1 + 1), (mset s1.2 145 ((60 * p0) + s1.1).toNat 0)))
                else none
              else
                some (Sum.inr s1.2)
            ) FU (0, D2)) fun (b1 : Mem) =>
            some (0, b1)
          else none
set_option maxHeartbeats 4000000 in
theorem ok10_row {l : Launch} {X : XT} {n : Nat} {D : Mem} {Q : Option Value → Nat → Rho → Mem → Prop} (hn : 147 ≤ n) {p0 : Int} {p1 : Int} {p2 : Int}  (h : wpo (f10_row D p0 p1 p2) (fun a => Q (some (vI a.1)) n rt a.2)) : MOK l y10_row c10_row 5 (some .int) { frames := 2, cells := 0, slots := 0, locals := 45 } 0 0 X [vR X 117, vI p0, vI p1, vI p2] n rt D Q := by
  refine MOK_of 10 (by decide +kernel) rfl (lv := [(0, vR X 117), (1, vI p0), (2, vI p1), (3, vI p2)]) (Nat.le_of_ble_eq_true rfl) rfl (fun K hK F hnm => ?_)
  subst hK
  unfold f10_row at h
  refine r_iload_n F 1 rfl rfl d10_row_0 ?_
  replace h := wpo_bind h
  refine r_callS0 F lm10_385 mf10_isSlot rfl (fr := 1) (lo := 25) (As := [vI p0]) (rest := []) ⟨Nat.le_of_ble_eq_true rfl, Nat.le_of_ble_eq_true rfl⟩ rfl (Nat.le_of_ble_eq_true rfl) ⟨Nat.zero_le _, Nat.zero_le _⟩ d10_row_1 ?_
  refine ok10_isSlot hn  (kI h (fun a1 h => ?_))
  refine r_if_eq F (tgt := 25) d10_row_4 (by decide) (fun hb => ?_) (fun hb => ?_)
  · replace h := wpo_pos h hb
    refine r_bipush F (z := (-2)) (by decide) d10_row_25 ?_
    replace h := wpo_some h
    exact r_iret F h d10_row_27
  · replace h := wpo_neg h hb
    refine r_iload_n F 2 rfl rfl d10_row_7 ?_
    refine r_i2l F d10_row_8 ?_
    refine r_lconst F (x := 0) (by decide) d10_row_9 ?_
    refine r_ldc2 F (z := 3) lc10_117 d10_row_10 ?_
    replace h := wpo_bind h
    refine r_callS0 F lm10_109 mf10_in rfl (fr := 0) (lo := 0) (As := [vL (w32 p1), vL 0, vL 3]) (rest := []) ⟨Nat.le_of_ble_eq_true rfl, Nat.le_of_ble_eq_true rfl⟩ rfl (Nat.le_of_ble_eq_true rfl) ⟨Nat.zero_le _, Nat.zero_le _⟩ d10_row_13 ?_
    refine ok10_in hn  (kI h (fun a2 h => ?_))
    refine r_if_eq F (tgt := 25) d10_row_16 (by decide) (fun hb => ?_) (fun hb => ?_)
    · replace h := wpo_pos h hb
      refine r_bipush F (z := (-2)) (by decide) d10_row_25 ?_
      replace h := wpo_some h
      exact r_iret F h d10_row_27
    · replace h := wpo_neg h hb
      refine r_iload_n F 3 rfl rfl d10_row_19 ?_
      refine r_bipush F (z := 60) (by decide) d10_row_20 ?_
      refine r_icmp_le F (tgt := 28) d10_row_22 (by decide) (fun hb => ?_) (fun hb => ?_)
      · replace h := wpo_neg h hb
        refine r_iload_n F 3 rfl rfl d10_row_28 ?_
        refine r_if_ge F (tgt := 35) d10_row_29 (by decide) (fun hb => ?_) (fun hb => ?_)
        · replace h := wpo_neg h hb
          refine r_aload_nR F 0 rfl rfl d10_row_35 ?_
          refine r_getR F (z := 143) lf10_92 (vc117 hn) z117_43 d10_row_36 ?_
          refine r_iload_n F 1 rfl rfl d10_row_39 ?_
          refine r_iload_n F 3 rfl rfl d10_row_40 ?_
          obtain ⟨hx1, h⟩ := wpo_chk h
          refine r_iast F (vc143 hn) hx1 d10_row_41 ?_
          refine r_aload_nR F 0 rfl rfl d10_row_42 ?_
          refine r_getR F (z := 144) lf10_95 (vc117 hn) z117_44 d10_row_43 ?_
          refine r_iload_n F 1 rfl rfl d10_row_46 ?_
          refine r_iload_n F 2 rfl rfl d10_row_47 ?_
          refine at_name (B := fun (D1 : Mem) => At K X (ZQ K X Q) 0 0 n rt 5 48 [(0, vR X 117), (1, vI p0), (2, vI p1), (3, vI p2)] [vI p1, vI p0, vR X 144] D1) h (fun D1 h => ?_)
          refine r_iast F (vc144 hn) hx1 d10_row_48 ?_
          refine r_iconst F (z := 0) d10_row_49 ?_
          refine r_istore F (lv' := [(4, vI 0), (0, vR X 117), (1, vI p0), (2, vI p1), (3, vI p2)]) (Nat.le_of_ble_eq_true rfl) rfl d10_row_50 ?_
          refine at_name (B := fun (D2 : Mem) => At K X (ZQ K X Q) 0 0 n rt 5 52 [(4, vI 0), (0, vR X 117), (1, vI p0), (2, vI p1), (3, vI p2)] [] D2) h (fun D2 h => ?_)
          refine r_weak [1, 2, 0] rfl ?_
          refine at_loopj (A := fun (s1 : Int × Mem) => At K X (ZQ K X Q) 0 0 n rt 5 52 [(0, vR X 117), (1, vI p0), (4, vI s1.1)] [] s1.2) (B := fun (b1 : Mem) => At K X (ZQ K X Q) 0 0 n rt 5 78 [] [] b1) h (fun b1 h => ?_) (fun s1 h => ?_)
          · refine r_iconst F (z := 0) d10_row_78 ?_
            replace h := wpo_some h
            exact r_iret F h d10_row_79
          · refine r_iload F 2 rfl d10_row_52 ?_
            refine r_bipush F (z := 60) (by decide) d10_row_54 ?_
            refine r_icmp_ge F (tgt := 78) d10_row_56 (by decide) (fun hb => ?_) (fun hb => ?_)
            · replace h := wpo_neg h hb
              refine r_weak [] rfl ?_
              replace h := wpo_inr h
              exact h
            · replace h := wpo_pos h hb
              refine r_aload_nR F 0 rfl rfl d10_row_59 ?_
              refine r_getR F (z := 145) lf10_98 (vc117 hn) z117_45 d10_row_60 ?_
              refine r_bipush F (z := 60) (by decide) d10_row_63 ?_
              refine r_iload_n F 1 rfl rfl d10_row_65 ?_
              refine r_imul F d10_row_66 ?_
              refine r_iload F 2 rfl d10_row_67 ?_
              refine r_iadd F d10_row_69 ?_
              refine r_lconst F (x := 0) (by decide) d10_row_70 ?_
              obtain ⟨hx2, h⟩ := wpo_chk h
              refine r_last F (vc145 hn) hx2 d10_row_71 ?_
              refine r_iinc F 2 (lv' := [(4, vI (s1.1 + 1)), (0, vR X 117), (1, vI p0)]) rfl (Nat.le_of_ble_eq_true rfl) rfl d10_row_72 ?_
              refine r_goto F (tgt := 52) (by decide) d10_row_75 ?_
              refine r_weak [1, 2, 0] rfl ?_
              replace h := wpo_inl h
              exact h
        · replace h := wpo_pos h hb
          refine r_bipush F (z := (-3)) (by decide) d10_row_32 ?_
          replace h := wpo_some h
          exact r_iret F h d10_row_34
      · replace h := wpo_pos h hb
        refine r_bipush F (z := (-2)) (by decide) d10_row_25 ?_
        replace h := wpo_some h
        exact r_iret F h d10_row_27
theorem d10_write_0 : decode c10_write 0 = .ok (.iload_n 1, 1) := by decide +kernel
theorem d10_write_1 : decode c10_write 1 = .ok (.invokestatic 385, 3) := by decide +kernel
theorem d10_write_4 : decode c10_write 4 = .ok (.ifCond .ne 6, 3) := by decide +kernel
theorem d10_write_7 : decode c10_write 7 = .ok (.bipush (-2), 2) := by decide +kernel
theorem d10_write_9 : decode c10_write 9 = .ok (.ireturn, 1) := by decide +kernel
theorem d10_write_10 : decode c10_write 10 = .ok (.aload_n 0, 1) := by decide +kernel
theorem d10_write_11 : decode c10_write 11 = .ok (.getfield 92, 3) := by decide +kernel
theorem d10_write_14 : decode c10_write 14 = .ok (.iload_n 1, 1) := by decide +kernel
theorem d10_write_15 : decode c10_write 15 = .ok (.iaload, 1) := by decide +kernel
theorem d10_write_16 : decode c10_write 16 = .ok (.iconst (-1), 1) := by decide +kernel
theorem d10_write_17 : decode c10_write 17 = .ok (.if_icmp .ne 6, 3) := by decide +kernel
theorem d10_write_20 : decode c10_write 20 = .ok (.bipush (-6), 2) := by decide +kernel
theorem d10_write_22 : decode c10_write 22 = .ok (.ireturn, 1) := by decide +kernel
theorem d10_write_23 : decode c10_write 23 = .ok (.iload_n 2, 1) := by decide +kernel
theorem d10_write_24 : decode c10_write 24 = .ok (.i2l, 1) := by decide +kernel
theorem d10_write_25 : decode c10_write 25 = .ok (.lconst 0, 1) := by decide +kernel
theorem d10_write_26 : decode c10_write 26 = .ok (.aload_n 0, 1) := by decide +kernel
theorem d10_write_27 : decode c10_write 27 = .ok (.getfield 92, 3) := by decide +kernel
theorem d10_write_30 : decode c10_write 30 = .ok (.iload_n 1, 1) := by decide +kernel
theorem d10_write_31 : decode c10_write 31 = .ok (.iaload, 1) := by decide +kernel
theorem d10_write_32 : decode c10_write 32 = .ok (.iconst 1, 1) := by decide +kernel
theorem d10_write_33 : decode c10_write 33 = .ok (.isub, 1) := by decide +kernel
theorem d10_write_34 : decode c10_write 34 = .ok (.i2l, 1) := by decide +kernel
theorem d10_write_35 : decode c10_write 35 = .ok (.invokestatic 109, 3) := by decide +kernel
theorem d10_write_38 : decode c10_write 38 = .ok (.ifCond .ne 6, 3) := by decide +kernel
theorem d10_write_41 : decode c10_write 41 = .ok (.bipush (-7), 2) := by decide +kernel
theorem d10_write_43 : decode c10_write 43 = .ok (.ireturn, 1) := by decide +kernel
theorem d10_write_44 : decode c10_write 44 = .ok (.aload_n 0, 1) := by decide +kernel
theorem d10_write_45 : decode c10_write 45 = .ok (.getfield 98, 3) := by decide +kernel
theorem d10_write_48 : decode c10_write 48 = .ok (.bipush 60, 2) := by decide +kernel
theorem d10_write_50 : decode c10_write 50 = .ok (.iload_n 1, 1) := by decide +kernel
theorem d10_write_51 : decode c10_write 51 = .ok (.imul, 1) := by decide +kernel
theorem d10_write_52 : decode c10_write 52 = .ok (.iload_n 2, 1) := by decide +kernel
theorem d10_write_53 : decode c10_write 53 = .ok (.iadd, 1) := by decide +kernel
theorem d10_write_54 : decode c10_write 54 = .ok (.lload_n 3, 1) := by decide +kernel
theorem d10_write_55 : decode c10_write 55 = .ok (.aload_n 0, 1) := by decide +kernel
theorem d10_write_56 : decode c10_write 56 = .ok (.getfield 95, 3) := by decide +kernel
theorem d10_write_59 : decode c10_write 59 = .ok (.iload_n 1, 1) := by decide +kernel
theorem d10_write_60 : decode c10_write 60 = .ok (.iaload, 1) := by decide +kernel
theorem d10_write_61 : decode c10_write 61 = .ok (.invokestatic 465, 3) := by decide +kernel
theorem d10_write_64 : decode c10_write 64 = .ok (.lastore, 1) := by decide +kernel
theorem d10_write_65 : decode c10_write 65 = .ok (.iconst 0, 1) := by decide +kernel
theorem d10_write_66 : decode c10_write 66 = .ok (.ireturn, 1) := by decide +kernel
def f10_write (D : Mem) (p0 : Int) (p1 : Int) (p2 : Int) : Option (Int × Mem) :=
  Option.bind (f10_isSlot D p0) fun (a1 : Int) =>
  if w32 a1 = 0 then
    some ((-2), D)
  else
    if 0 ≤ p0 ∧ p0 < 4 then
      if w32 (D 143 p0.toNat) = w32 (-1) then
        some ((-6), D)
      else
        Option.bind (f10_in D (w32 p1) 0 (w32 ((D 143 p0.toNat) - 1))) fun (a2 : Int) =>
        if w32 a2 = 0 then
          some ((-7), D)
        else
          Option.bind (f10_cutX D p2 (D 144 p0.toNat)) fun (a3 : Int) =>
          if 0 ≤ ((60 * p0) + p1) ∧ ((60 * p0) + p1) < 240 then
            some (0, (mset D 145 ((60 * p0) + p1).toNat a3))
          else none
    else none
set_option maxHeartbeats 4000000 in
theorem ok10_write {l : Launch} {X : XT} {n : Nat} {D : Mem} {Q : Option Value → Nat → Rho → Mem → Prop} (hn : 147 ≤ n) {p0 : Int} {p1 : Int} {p2 : Int}  (h : wpo (f10_write D p0 p1 p2) (fun a => Q (some (vI a.1)) n rt a.2)) : MOK l y10_write c10_write 5 (some .int) { frames := 2, cells := 0, slots := 0, locals := 45 } 0 0 X [vR X 117, vI p0, vI p1, vL p2] n rt D Q := by
  refine MOK_of 10 (by decide +kernel) rfl (lv := [(0, vR X 117), (1, vI p0), (2, vI p1), (3, vL p2)]) (Nat.le_of_ble_eq_true rfl) rfl (fun K hK F hnm => ?_)
  subst hK
  unfold f10_write at h
  refine r_iload_n F 1 rfl rfl d10_write_0 ?_
  replace h := wpo_bind h
  refine r_callS0 F lm10_385 mf10_isSlot rfl (fr := 1) (lo := 25) (As := [vI p0]) (rest := []) ⟨Nat.le_of_ble_eq_true rfl, Nat.le_of_ble_eq_true rfl⟩ rfl (Nat.le_of_ble_eq_true rfl) ⟨Nat.zero_le _, Nat.zero_le _⟩ d10_write_1 ?_
  refine ok10_isSlot hn  (kI h (fun a1 h => ?_))
  refine r_if_ne F (tgt := 10) d10_write_4 (by decide) (fun hb => ?_) (fun hb => ?_)
  · replace h := wpo_neg h hb
    refine r_aload_nR F 0 rfl rfl d10_write_10 ?_
    refine r_getR F (z := 143) lf10_92 (vc117 hn) z117_43 d10_write_11 ?_
    refine r_iload_n F 1 rfl rfl d10_write_14 ?_
    obtain ⟨hx1, h⟩ := wpo_chk h
    refine r_iald F (vc143 hn) hx1 d10_write_15 ?_
    refine r_iconst F (z := (-1)) d10_write_16 ?_
    refine r_icmp_ne F (tgt := 23) d10_write_17 (by decide) (fun hb => ?_) (fun hb => ?_)
    · replace h := wpo_neg h hb
      refine r_iload_n F 2 rfl rfl d10_write_23 ?_
      refine r_i2l F d10_write_24 ?_
      refine r_lconst F (x := 0) (by decide) d10_write_25 ?_
      refine r_aload_nR F 0 rfl rfl d10_write_26 ?_
      refine r_getR F (z := 143) lf10_92 (vc117 hn) z117_43 d10_write_27 ?_
      refine r_iload_n F 1 rfl rfl d10_write_30 ?_
      refine r_iald F (vc143 hn) hx1 d10_write_31 ?_
      refine r_iconst F (z := 1) d10_write_32 ?_
      refine r_isub F d10_write_33 ?_
      refine r_i2l F d10_write_34 ?_
      replace h := wpo_bind h
      refine r_callS0 F lm10_109 mf10_in rfl (fr := 0) (lo := 0) (As := [vL (w32 p1), vL 0, vL (w32 ((D 143 p0.toNat) - 1))]) (rest := []) ⟨Nat.le_of_ble_eq_true rfl, Nat.le_of_ble_eq_true rfl⟩ rfl (Nat.le_of_ble_eq_true rfl) ⟨Nat.zero_le _, Nat.zero_le _⟩ d10_write_35 ?_
      refine ok10_in hn  (kI h (fun a2 h => ?_))
      refine r_if_ne F (tgt := 44) d10_write_38 (by decide) (fun hb => ?_) (fun hb => ?_)
      · replace h := wpo_neg h hb
        refine r_aload_nR F 0 rfl rfl d10_write_44 ?_
        refine r_getR F (z := 145) lf10_98 (vc117 hn) z117_45 d10_write_45 ?_
        refine r_bipush F (z := 60) (by decide) d10_write_48 ?_
        refine r_iload_n F 1 rfl rfl d10_write_50 ?_
        refine r_imul F d10_write_51 ?_
        refine r_iload_n F 2 rfl rfl d10_write_52 ?_
        refine r_iadd F d10_write_53 ?_
        refine r_lload_n F 3 rfl rfl d10_write_54 ?_
        refine r_aload_nR F 0 rfl rfl d10_write_55 ?_
        refine r_getR F (z := 144) lf10_95 (vc117 hn) z117_44 d10_write_56 ?_
        refine r_iload_n F 1 rfl rfl d10_write_59 ?_
        refine r_iald F (vc144 hn) hx1 d10_write_60 ?_
        replace h := wpo_bind h
        refine r_callS0 F lm10_465 mf10_cutX rfl (fr := 0) (lo := 0) (As := [vL p2, vI (D 144 p0.toNat)]) (rest := [vI ((60 * p0) + p1), vR X 145]) ⟨Nat.le_of_ble_eq_true rfl, Nat.le_of_ble_eq_true rfl⟩ rfl (Nat.le_of_ble_eq_true rfl) ⟨Nat.zero_le _, Nat.zero_le _⟩ d10_write_61 ?_
        refine ok10_cutX hn  (kL h (fun a3 h => ?_))
        obtain ⟨hx2, h⟩ := wpo_chk h
        refine r_last F (vc145 hn) hx2 d10_write_64 ?_
        refine r_iconst F (z := 0) d10_write_65 ?_
        replace h := wpo_some h
        exact r_iret F h d10_write_66
      · replace h := wpo_pos h hb
        refine r_bipush F (z := (-7)) (by decide) d10_write_41 ?_
        replace h := wpo_some h
        exact r_iret F h d10_write_43
    · replace h := wpo_pos h hb
      refine r_bipush F (z := (-6)) (by decide) d10_write_20 ?_
      replace h := wpo_some h
      exact r_iret F h d10_write_22
  · replace h := wpo_pos h hb
    refine r_bipush F (z := (-2)) (by decide) d10_write_7 ?_
    replace h := wpo_some h
    exact r_iret F h d10_write_9
theorem d10_paste_0 : decode c10_paste 0 = .ok (.iload_n 1, 1) := by decide +kernel
theorem d10_paste_1 : decode c10_paste 1 = .ok (.invokestatic 385, 3) := by decide +kernel
theorem d10_paste_4 : decode c10_paste 4 = .ok (.ifCond .eq 10, 3) := by decide +kernel
theorem d10_paste_7 : decode c10_paste 7 = .ok (.iload_n 3, 1) := by decide +kernel
theorem d10_paste_8 : decode c10_paste 8 = .ok (.invokestatic 385, 3) := by decide +kernel
theorem d10_paste_11 : decode c10_paste 11 = .ok (.ifCond .ne 6, 3) := by decide +kernel
theorem d10_paste_14 : decode c10_paste 14 = .ok (.bipush (-2), 2) := by decide +kernel
theorem d10_paste_16 : decode c10_paste 16 = .ok (.ireturn, 1) := by decide +kernel
theorem d10_paste_17 : decode c10_paste 17 = .ok (.aload_n 0, 1) := by decide +kernel
theorem d10_paste_18 : decode c10_paste 18 = .ok (.getfield 92, 3) := by decide +kernel
theorem d10_paste_21 : decode c10_paste 21 = .ok (.iload_n 1, 1) := by decide +kernel
theorem d10_paste_22 : decode c10_paste 22 = .ok (.iaload, 1) := by decide +kernel
theorem d10_paste_23 : decode c10_paste 23 = .ok (.iconst (-1), 1) := by decide +kernel
theorem d10_paste_24 : decode c10_paste 24 = .ok (.if_icmp .eq 13, 3) := by decide +kernel
theorem d10_paste_27 : decode c10_paste 27 = .ok (.aload_n 0, 1) := by decide +kernel
theorem d10_paste_28 : decode c10_paste 28 = .ok (.getfield 92, 3) := by decide +kernel
theorem d10_paste_31 : decode c10_paste 31 = .ok (.iload_n 3, 1) := by decide +kernel
theorem d10_paste_32 : decode c10_paste 32 = .ok (.iaload, 1) := by decide +kernel
theorem d10_paste_33 : decode c10_paste 33 = .ok (.iconst (-1), 1) := by decide +kernel
theorem d10_paste_34 : decode c10_paste 34 = .ok (.if_icmp .ne 6, 3) := by decide +kernel
theorem d10_paste_37 : decode c10_paste 37 = .ok (.bipush (-6), 2) := by decide +kernel
theorem d10_paste_39 : decode c10_paste 39 = .ok (.ireturn, 1) := by decide +kernel
theorem d10_paste_40 : decode c10_paste 40 = .ok (.aload_n 0, 1) := by decide +kernel
theorem d10_paste_41 : decode c10_paste 41 = .ok (.getfield 95, 3) := by decide +kernel
theorem d10_paste_44 : decode c10_paste 44 = .ok (.iload_n 1, 1) := by decide +kernel
theorem d10_paste_45 : decode c10_paste 45 = .ok (.iaload, 1) := by decide +kernel
theorem d10_paste_46 : decode c10_paste 46 = .ok (.aload_n 0, 1) := by decide +kernel
theorem d10_paste_47 : decode c10_paste 47 = .ok (.getfield 95, 3) := by decide +kernel
theorem d10_paste_50 : decode c10_paste 50 = .ok (.iload_n 3, 1) := by decide +kernel
theorem d10_paste_51 : decode c10_paste 51 = .ok (.iaload, 1) := by decide +kernel
theorem d10_paste_52 : decode c10_paste 52 = .ok (.if_icmp .eq 6, 3) := by decide +kernel
theorem d10_paste_55 : decode c10_paste 55 = .ok (.bipush (-8), 2) := by decide +kernel
theorem d10_paste_57 : decode c10_paste 57 = .ok (.ireturn, 1) := by decide +kernel
theorem d10_paste_58 : decode c10_paste 58 = .ok (.iload_n 2, 1) := by decide +kernel
theorem d10_paste_59 : decode c10_paste 59 = .ok (.ifCond .lt 48, 3) := by decide +kernel
theorem d10_paste_62 : decode c10_paste 62 = .ok (.iload 4, 2) := by decide +kernel
theorem d10_paste_64 : decode c10_paste 64 = .ok (.ifCond .lt 43, 3) := by decide +kernel
theorem d10_paste_67 : decode c10_paste 67 = .ok (.iload 5, 2) := by decide +kernel
theorem d10_paste_69 : decode c10_paste 69 = .ok (.ifCond .lt 38, 3) := by decide +kernel
theorem d10_paste_72 : decode c10_paste 72 = .ok (.iload_n 2, 1) := by decide +kernel
theorem d10_paste_73 : decode c10_paste 73 = .ok (.i2l, 1) := by decide +kernel
theorem d10_paste_74 : decode c10_paste 74 = .ok (.iload 5, 2) := by decide +kernel
theorem d10_paste_76 : decode c10_paste 76 = .ok (.i2l, 1) := by decide +kernel
theorem d10_paste_77 : decode c10_paste 77 = .ok (.ladd, 1) := by decide +kernel
theorem d10_paste_78 : decode c10_paste 78 = .ok (.aload_n 0, 1) := by decide +kernel
theorem d10_paste_79 : decode c10_paste 79 = .ok (.getfield 92, 3) := by decide +kernel
theorem d10_paste_82 : decode c10_paste 82 = .ok (.iload_n 1, 1) := by decide +kernel
theorem d10_paste_83 : decode c10_paste 83 = .ok (.iaload, 1) := by decide +kernel
theorem d10_paste_84 : decode c10_paste 84 = .ok (.i2l, 1) := by decide +kernel
theorem d10_paste_85 : decode c10_paste 85 = .ok (.lcmp, 1) := by decide +kernel
theorem d10_paste_86 : decode c10_paste 86 = .ok (.ifCond .gt 21, 3) := by decide +kernel
theorem d10_paste_89 : decode c10_paste 89 = .ok (.iload 4, 2) := by decide +kernel
theorem d10_paste_91 : decode c10_paste 91 = .ok (.i2l, 1) := by decide +kernel
theorem d10_paste_92 : decode c10_paste 92 = .ok (.iload 5, 2) := by decide +kernel
theorem d10_paste_94 : decode c10_paste 94 = .ok (.i2l, 1) := by decide +kernel
theorem d10_paste_95 : decode c10_paste 95 = .ok (.ladd, 1) := by decide +kernel
theorem d10_paste_96 : decode c10_paste 96 = .ok (.aload_n 0, 1) := by decide +kernel
theorem d10_paste_97 : decode c10_paste 97 = .ok (.getfield 92, 3) := by decide +kernel
theorem d10_paste_100 : decode c10_paste 100 = .ok (.iload_n 3, 1) := by decide +kernel
theorem d10_paste_101 : decode c10_paste 101 = .ok (.iaload, 1) := by decide +kernel
theorem d10_paste_102 : decode c10_paste 102 = .ok (.i2l, 1) := by decide +kernel
theorem d10_paste_103 : decode c10_paste 103 = .ok (.lcmp, 1) := by decide +kernel
theorem d10_paste_104 : decode c10_paste 104 = .ok (.ifCond .le 6, 3) := by decide +kernel
theorem d10_paste_107 : decode c10_paste 107 = .ok (.bipush (-7), 2) := by decide +kernel
theorem d10_paste_109 : decode c10_paste 109 = .ok (.ireturn, 1) := by decide +kernel
theorem d10_paste_110 : decode c10_paste 110 = .ok (.iconst 0, 1) := by decide +kernel
theorem d10_paste_111 : decode c10_paste 111 = .ok (.istore 6, 2) := by decide +kernel
theorem d10_paste_113 : decode c10_paste 113 = .ok (.iload 6, 2) := by decide +kernel
theorem d10_paste_115 : decode c10_paste 115 = .ok (.iload 5, 2) := by decide +kernel
theorem d10_paste_117 : decode c10_paste 117 = .ok (.if_icmp .ge 30, 3) := by decide +kernel
theorem d10_paste_120 : decode c10_paste 120 = .ok (.aload_n 0, 1) := by decide +kernel
theorem d10_paste_121 : decode c10_paste 121 = .ok (.getfield 101, 3) := by decide +kernel
theorem d10_paste_124 : decode c10_paste 124 = .ok (.iload 6, 2) := by decide +kernel
theorem d10_paste_126 : decode c10_paste 126 = .ok (.aload_n 0, 1) := by decide +kernel
theorem d10_paste_127 : decode c10_paste 127 = .ok (.getfield 98, 3) := by decide +kernel
theorem d10_paste_130 : decode c10_paste 130 = .ok (.bipush 60, 2) := by decide +kernel
theorem d10_paste_132 : decode c10_paste 132 = .ok (.iload_n 1, 1) := by decide +kernel
theorem d10_paste_133 : decode c10_paste 133 = .ok (.imul, 1) := by decide +kernel
theorem d10_paste_134 : decode c10_paste 134 = .ok (.iload_n 2, 1) := by decide +kernel
theorem d10_paste_135 : decode c10_paste 135 = .ok (.iadd, 1) := by decide +kernel
theorem d10_paste_136 : decode c10_paste 136 = .ok (.iload 6, 2) := by decide +kernel
theorem d10_paste_138 : decode c10_paste 138 = .ok (.iadd, 1) := by decide +kernel
theorem d10_paste_139 : decode c10_paste 139 = .ok (.laload, 1) := by decide +kernel
theorem d10_paste_140 : decode c10_paste 140 = .ok (.lastore, 1) := by decide +kernel
theorem d10_paste_141 : decode c10_paste 141 = .ok (.iinc 6 1, 3) := by decide +kernel
theorem d10_paste_144 : decode c10_paste 144 = .ok (.goto (-31), 3) := by decide +kernel
theorem d10_paste_147 : decode c10_paste 147 = .ok (.iconst 0, 1) := by decide +kernel
theorem d10_paste_148 : decode c10_paste 148 = .ok (.istore 6, 2) := by decide +kernel
theorem d10_paste_150 : decode c10_paste 150 = .ok (.iload 6, 2) := by decide +kernel
theorem d10_paste_152 : decode c10_paste 152 = .ok (.iload 5, 2) := by decide +kernel
theorem d10_paste_154 : decode c10_paste 154 = .ok (.if_icmp .ge 31, 3) := by decide +kernel
theorem d10_paste_157 : decode c10_paste 157 = .ok (.aload_n 0, 1) := by decide +kernel
theorem d10_paste_158 : decode c10_paste 158 = .ok (.getfield 98, 3) := by decide +kernel
theorem d10_paste_161 : decode c10_paste 161 = .ok (.bipush 60, 2) := by decide +kernel
theorem d10_paste_163 : decode c10_paste 163 = .ok (.iload_n 3, 1) := by decide +kernel
theorem d10_paste_164 : decode c10_paste 164 = .ok (.imul, 1) := by decide +kernel
theorem d10_paste_165 : decode c10_paste 165 = .ok (.iload 4, 2) := by decide +kernel
theorem d10_paste_167 : decode c10_paste 167 = .ok (.iadd, 1) := by decide +kernel
theorem d10_paste_168 : decode c10_paste 168 = .ok (.iload 6, 2) := by decide +kernel
theorem d10_paste_170 : decode c10_paste 170 = .ok (.iadd, 1) := by decide +kernel
theorem d10_paste_171 : decode c10_paste 171 = .ok (.aload_n 0, 1) := by decide +kernel
theorem d10_paste_172 : decode c10_paste 172 = .ok (.getfield 101, 3) := by decide +kernel
theorem d10_paste_175 : decode c10_paste 175 = .ok (.iload 6, 2) := by decide +kernel
theorem d10_paste_177 : decode c10_paste 177 = .ok (.laload, 1) := by decide +kernel
theorem d10_paste_178 : decode c10_paste 178 = .ok (.lastore, 1) := by decide +kernel
theorem d10_paste_179 : decode c10_paste 179 = .ok (.iinc 6 1, 3) := by decide +kernel
theorem d10_paste_182 : decode c10_paste 182 = .ok (.goto (-32), 3) := by decide +kernel
theorem d10_paste_185 : decode c10_paste 185 = .ok (.iconst 0, 1) := by decide +kernel
theorem d10_paste_186 : decode c10_paste 186 = .ok (.ireturn, 1) := by decide +kernel
def f10_paste (D : Mem) (p0 : Int) (p1 : Int) (p2 : Int) (p3 : Int) (p4 : Int) : Option (Int × Mem) :=
  Option.bind (f10_isSlot D p0) fun (a1 : Int) =>
  if w32 a1 = 0 then
    some ((-2), D)
  else
    Option.bind (f10_isSlot D p2) fun (a2 : Int) =>
    if w32 a2 = 0 then
      some ((-2), D)
    else
      if 0 ≤ p0 ∧ p0 < 4 then
        if w32 (D 143 p0.toNat) = w32 (-1) then
          some ((-6), D)
        else
          if 0 ≤ p2 ∧ p2 < 4 then
            if w32 (D 143 p2.toNat) = w32 (-1) then
              some ((-6), D)
            else
              if w32 (D 144 p0.toNat) = w32 (D 144 p2.toNat) then
                if w32 p1 < 0 then
                  some ((-7), D)
                else
                  if w32 p3 < 0 then
                    some ((-7), D)
                  else
                    if w32 p4 < 0 then
                      some ((-7), D)
                    else
                      if w64 (w32 (D 143 p0.toNat)) < w64 ((w32 p1) + (w32 p4)) then
                        some ((-7), D)
                      else
                        if w64 (w32 (D 143 p2.toNat)) < w64 ((w32 p3) + (w32 p4)) then
                          some ((-7), D)
                        else
                          Option.bind (@loop (Int × Mem) (Mem) (fun s1 =>
                            if w32 s1.1 < w32 p4 then
                              if 0 ≤ (((60 * p0) + p1) + s1.1) ∧ (((60 * p0) + p1) + s1.1) < 240 then
                                if 0 ≤ s1.1 ∧ s1.1 < 60 then
                                  some (Sum.inl ((s1.1 + 1), (mset s1.2 146 s1.1.toNat (s1.2 145 (((60 * p0) + p1) + s1.1).toNat))))
                                else none
                              else none
                            else
                              some (Sum.inr s1.2)
                          ) FU (0, D)) fun (b1 : Mem) =>
                          Option.bind (@loop (Int × Mem) (Mem) (fun s2 =>
                            if w32 s2.1 < w32 p4 then
                              if 0 ≤ s2.1 ∧ s2.1 < 60 then
                                if 0 ≤ (((60 * p2) + p3) + s2.1) ∧ (((60 * p2) + p3) + s2.1) < 240 then
                                  some (Sum.inl ((s2.1 + 1), (mset s2.2 145 (((60 * p2) + p3) + s2.1).toNat (s2.2 146 s2.1.toNat))))
                                else none
                              else none
                            else
                              some (Sum.inr s2.2)
                          ) FU (0, b1)) fun (b2 : Mem) =>
                          some (0, b2)
              else
                some ((-8), D)
          else none
      else none
set_option maxHeartbeats 4000000 in
theorem ok10_paste {l : Launch} {X : XT} {n : Nat} {D : Mem} {Q : Option Value → Nat → Rho → Mem → Prop} (hn : 147 ≤ n) {p0 : Int} {p1 : Int} {p2 : Int} {p3 : Int} {p4 : Int}  (h : wpo (f10_paste D p0 p1 p2 p3 p4) (fun a => Q (some (vI a.1)) n rt a.2)) : MOK l y10_paste c10_paste 7 (some .int) { frames := 2, cells := 0, slots := 0, locals := 45 } 0 0 X [vR X 117, vI p0, vI p1, vI p2, vI p3, vI p4] n rt D Q := by
  refine MOK_of 10 (by decide +kernel) rfl (lv := [(0, vR X 117), (1, vI p0), (2, vI p1), (3, vI p2), (4, vI p3), (5, vI p4)]) (Nat.le_of_ble_eq_true rfl) rfl (fun K hK F hnm => ?_)
  subst hK
  unfold f10_paste at h
  refine r_iload_n F 1 rfl rfl d10_paste_0 ?_
  replace h := wpo_bind h
  refine r_callS0 F lm10_385 mf10_isSlot rfl (fr := 1) (lo := 25) (As := [vI p0]) (rest := []) ⟨Nat.le_of_ble_eq_true rfl, Nat.le_of_ble_eq_true rfl⟩ rfl (Nat.le_of_ble_eq_true rfl) ⟨Nat.zero_le _, Nat.zero_le _⟩ d10_paste_1 ?_
  refine ok10_isSlot hn  (kI h (fun a1 h => ?_))
  refine r_if_eq F (tgt := 14) d10_paste_4 (by decide) (fun hb => ?_) (fun hb => ?_)
  · replace h := wpo_pos h hb
    refine r_bipush F (z := (-2)) (by decide) d10_paste_14 ?_
    replace h := wpo_some h
    exact r_iret F h d10_paste_16
  · replace h := wpo_neg h hb
    refine r_iload_n F 3 rfl rfl d10_paste_7 ?_
    replace h := wpo_bind h
    refine r_callS0 F lm10_385 mf10_isSlot rfl (fr := 1) (lo := 25) (As := [vI p2]) (rest := []) ⟨Nat.le_of_ble_eq_true rfl, Nat.le_of_ble_eq_true rfl⟩ rfl (Nat.le_of_ble_eq_true rfl) ⟨Nat.zero_le _, Nat.zero_le _⟩ d10_paste_8 ?_
    refine ok10_isSlot hn  (kI h (fun a2 h => ?_))
    refine r_if_ne F (tgt := 17) d10_paste_11 (by decide) (fun hb => ?_) (fun hb => ?_)
    · replace h := wpo_neg h hb
      refine r_aload_nR F 0 rfl rfl d10_paste_17 ?_
      refine r_getR F (z := 143) lf10_92 (vc117 hn) z117_43 d10_paste_18 ?_
      refine r_iload_n F 1 rfl rfl d10_paste_21 ?_
      obtain ⟨hx1, h⟩ := wpo_chk h
      refine r_iald F (vc143 hn) hx1 d10_paste_22 ?_
      refine r_iconst F (z := (-1)) d10_paste_23 ?_
      refine r_icmp_eq F (tgt := 37) d10_paste_24 (by decide) (fun hb => ?_) (fun hb => ?_)
      · replace h := wpo_pos h hb
        refine r_bipush F (z := (-6)) (by decide) d10_paste_37 ?_
        replace h := wpo_some h
        exact r_iret F h d10_paste_39
      · replace h := wpo_neg h hb
        refine r_aload_nR F 0 rfl rfl d10_paste_27 ?_
        refine r_getR F (z := 143) lf10_92 (vc117 hn) z117_43 d10_paste_28 ?_
        refine r_iload_n F 3 rfl rfl d10_paste_31 ?_
        obtain ⟨hx2, h⟩ := wpo_chk h
        refine r_iald F (vc143 hn) hx2 d10_paste_32 ?_
        refine r_iconst F (z := (-1)) d10_paste_33 ?_
        refine r_icmp_ne F (tgt := 40) d10_paste_34 (by decide) (fun hb => ?_) (fun hb => ?_)
        · replace h := wpo_neg h hb
          refine r_aload_nR F 0 rfl rfl d10_paste_40 ?_
          refine r_getR F (z := 144) lf10_95 (vc117 hn) z117_44 d10_paste_41 ?_
          refine r_iload_n F 1 rfl rfl d10_paste_44 ?_
          refine r_iald F (vc144 hn) hx1 d10_paste_45 ?_
          refine r_aload_nR F 0 rfl rfl d10_paste_46 ?_
          refine r_getR F (z := 144) lf10_95 (vc117 hn) z117_44 d10_paste_47 ?_
          refine r_iload_n F 3 rfl rfl d10_paste_50 ?_
          refine r_iald F (vc144 hn) hx2 d10_paste_51 ?_
          refine r_icmp_eq F (tgt := 58) d10_paste_52 (by decide) (fun hb => ?_) (fun hb => ?_)
          · replace h := wpo_pos h hb
            refine r_iload_n F 2 rfl rfl d10_paste_58 ?_
            refine r_if_lt F (tgt := 107) d10_paste_59 (by decide) (fun hb => ?_) (fun hb => ?_)
            · replace h := wpo_pos h hb
              refine r_bipush F (z := (-7)) (by decide) d10_paste_107 ?_
              replace h := wpo_some h
              exact r_iret F h d10_paste_109
            · replace h := wpo_neg h hb
              refine r_iload F 4 rfl d10_paste_62 ?_
              refine r_if_lt F (tgt := 107) d10_paste_64 (by decide) (fun hb => ?_) (fun hb => ?_)
              · replace h := wpo_pos h hb
                refine r_bipush F (z := (-7)) (by decide) d10_paste_107 ?_
                replace h := wpo_some h
                exact r_iret F h d10_paste_109
              · replace h := wpo_neg h hb
                refine r_iload F 5 rfl d10_paste_67 ?_
                refine r_if_lt F (tgt := 107) d10_paste_69 (by decide) (fun hb => ?_) (fun hb => ?_)
                · replace h := wpo_pos h hb
                  refine r_bipush F (z := (-7)) (by decide) d10_paste_107 ?_
                  replace h := wpo_some h
                  exact r_iret F h d10_paste_109
                · replace h := wpo_neg h hb
                  refine r_iload_n F 2 rfl rfl d10_paste_72 ?_
                  refine r_i2l F d10_paste_73 ?_
                  refine r_iload F 5 rfl d10_paste_74 ?_
                  refine r_i2l F d10_paste_76 ?_
                  refine r_ladd F d10_paste_77 ?_
                  refine r_aload_nR F 0 rfl rfl d10_paste_78 ?_
                  refine r_getR F (z := 143) lf10_92 (vc117 hn) z117_43 d10_paste_79 ?_
                  refine r_iload_n F 1 rfl rfl d10_paste_82 ?_
                  refine r_iald F (vc143 hn) hx1 d10_paste_83 ?_
                  refine r_i2l F d10_paste_84 ?_
                  refine r_lc_gt F (tgt := 107) d10_paste_85 d10_paste_86 (by decide) (fun hb => ?_) (fun hb => ?_)
                  · replace h := wpo_pos h hb
                    refine r_bipush F (z := (-7)) (by decide) d10_paste_107 ?_
                    replace h := wpo_some h
                    exact r_iret F h d10_paste_109
                  · replace h := wpo_neg h hb
                    refine r_iload F 4 rfl d10_paste_89 ?_
                    refine r_i2l F d10_paste_91 ?_
                    refine r_iload F 5 rfl d10_paste_92 ?_
                    refine r_i2l F d10_paste_94 ?_
                    refine r_ladd F d10_paste_95 ?_
                    refine r_aload_nR F 0 rfl rfl d10_paste_96 ?_
                    refine r_getR F (z := 143) lf10_92 (vc117 hn) z117_43 d10_paste_97 ?_
                    refine r_iload_n F 3 rfl rfl d10_paste_100 ?_
                    refine r_iald F (vc143 hn) hx2 d10_paste_101 ?_
                    refine r_i2l F d10_paste_102 ?_
                    refine r_lc_le F (tgt := 110) d10_paste_103 d10_paste_104 (by decide) (fun hb => ?_) (fun hb => ?_)
                    · replace h := wpo_neg h hb
                      refine r_iconst F (z := 0) d10_paste_110 ?_
                      refine r_istore F (lv' := [(6, vI 0), (0, vR X 117), (1, vI p0), (2, vI p1), (3, vI p2), (4, vI p3), (5, vI p4)]) (Nat.le_of_ble_eq_true rfl) rfl d10_paste_111 ?_
                      refine r_weak [1, 2, 3, 4, 5, 6, 0] rfl ?_
                      refine at_loopj (A := fun (s1 : Int × Mem) => At K X (ZQ K X Q) 0 0 n rt 7 113 [(0, vR X 117), (1, vI p0), (2, vI p1), (3, vI p2), (4, vI p3), (5, vI p4), (6, vI s1.1)] [] s1.2) (B := fun (b1 : Mem) => At K X (ZQ K X Q) 0 0 n rt 7 147 [(0, vR X 117), (3, vI p2), (4, vI p3), (5, vI p4)] [] b1) h (fun b1 h => ?_) (fun s1 h => ?_)
                      · refine r_iconst F (z := 0) d10_paste_147 ?_
                        refine r_istore F (lv' := [(6, vI 0), (0, vR X 117), (3, vI p2), (4, vI p3), (5, vI p4)]) (Nat.le_of_ble_eq_true rfl) rfl d10_paste_148 ?_
                        refine r_weak [1, 2, 3, 4, 0] rfl ?_
                        refine at_loopj (A := fun (s2 : Int × Mem) => At K X (ZQ K X Q) 0 0 n rt 7 150 [(0, vR X 117), (3, vI p2), (4, vI p3), (5, vI p4), (6, vI s2.1)] [] s2.2) (B := fun (b2 : Mem) => At K X (ZQ K X Q) 0 0 n rt 7 185 [] [] b2) h (fun b2 h => ?_) (fun s2 h => ?_)
                        · refine r_iconst F (z := 0) d10_paste_185 ?_
                          replace h := wpo_some h
                          exact r_iret F h d10_paste_186
                        · refine r_iload F 4 rfl d10_paste_150 ?_
                          refine r_iload F 3 rfl d10_paste_152 ?_
                          refine r_icmp_ge F (tgt := 185) d10_paste_154 (by decide) (fun hb => ?_) (fun hb => ?_)
                          · replace h := wpo_neg h hb
                            refine r_weak [] rfl ?_
                            replace h := wpo_inr h
                            exact h
                          · replace h := wpo_pos h hb
                            refine r_aload_nR F 0 rfl rfl d10_paste_157 ?_
                            refine r_getR F (z := 145) lf10_98 (vc117 hn) z117_45 d10_paste_158 ?_
                            refine r_bipush F (z := 60) (by decide) d10_paste_161 ?_
                            refine r_iload_n F 1 rfl rfl d10_paste_163 ?_
                            refine r_imul F d10_paste_164 ?_
                            refine r_iload F 2 rfl d10_paste_165 ?_
                            refine r_iadd F d10_paste_167 ?_
                            refine r_iload F 4 rfl d10_paste_168 ?_
                            refine r_iadd F d10_paste_170 ?_
                            refine r_aload_nR F 0 rfl rfl d10_paste_171 ?_
                            refine r_getR F (z := 146) lf10_101 (vc117 hn) z117_46 d10_paste_172 ?_
                            refine r_iload F 4 rfl d10_paste_175 ?_
                            obtain ⟨hx5, h⟩ := wpo_chk h
                            refine r_lald F (vc146 hn) hx5 d10_paste_177 ?_
                            obtain ⟨hx6, h⟩ := wpo_chk h
                            refine r_last F (vc145 hn) hx6 d10_paste_178 ?_
                            refine r_iinc F 4 (lv' := [(6, vI (s2.1 + 1)), (0, vR X 117), (3, vI p2), (4, vI p3), (5, vI p4)]) rfl (Nat.le_of_ble_eq_true rfl) rfl d10_paste_179 ?_
                            refine r_goto F (tgt := 150) (by decide) d10_paste_182 ?_
                            refine r_weak [1, 2, 3, 4, 0] rfl ?_
                            replace h := wpo_inl h
                            exact h
                      · refine r_iload F 6 rfl d10_paste_113 ?_
                        refine r_iload F 5 rfl d10_paste_115 ?_
                        refine r_icmp_ge F (tgt := 147) d10_paste_117 (by decide) (fun hb => ?_) (fun hb => ?_)
                        · replace h := wpo_neg h hb
                          refine r_weak [0, 3, 4, 5] rfl ?_
                          replace h := wpo_inr h
                          exact h
                        · replace h := wpo_pos h hb
                          refine r_aload_nR F 0 rfl rfl d10_paste_120 ?_
                          refine r_getR F (z := 146) lf10_101 (vc117 hn) z117_46 d10_paste_121 ?_
                          refine r_iload F 6 rfl d10_paste_124 ?_
                          refine r_aload_nR F 0 rfl rfl d10_paste_126 ?_
                          refine r_getR F (z := 145) lf10_98 (vc117 hn) z117_45 d10_paste_127 ?_
                          refine r_bipush F (z := 60) (by decide) d10_paste_130 ?_
                          refine r_iload_n F 1 rfl rfl d10_paste_132 ?_
                          refine r_imul F d10_paste_133 ?_
                          refine r_iload_n F 2 rfl rfl d10_paste_134 ?_
                          refine r_iadd F d10_paste_135 ?_
                          refine r_iload F 6 rfl d10_paste_136 ?_
                          refine r_iadd F d10_paste_138 ?_
                          obtain ⟨hx3, h⟩ := wpo_chk h
                          refine r_lald F (vc145 hn) hx3 d10_paste_139 ?_
                          obtain ⟨hx4, h⟩ := wpo_chk h
                          refine r_last F (vc146 hn) hx4 d10_paste_140 ?_
                          refine r_iinc F 6 (lv' := [(6, vI (s1.1 + 1)), (0, vR X 117), (1, vI p0), (2, vI p1), (3, vI p2), (4, vI p3), (5, vI p4)]) rfl (Nat.le_of_ble_eq_true rfl) rfl d10_paste_141 ?_
                          refine r_goto F (tgt := 113) (by decide) d10_paste_144 ?_
                          refine r_weak [1, 2, 3, 4, 5, 6, 0] rfl ?_
                          replace h := wpo_inl h
                          exact h
                    · replace h := wpo_pos h hb
                      refine r_bipush F (z := (-7)) (by decide) d10_paste_107 ?_
                      replace h := wpo_some h
                      exact r_iret F h d10_paste_109
          · replace h := wpo_neg h hb
            refine r_bipush F (z := (-8)) (by decide) d10_paste_55 ?_
            replace h := wpo_some h
            exact r_iret F h d10_paste_57
        · replace h := wpo_pos h hb
          refine r_bipush F (z := (-6)) (by decide) d10_paste_37 ?_
          replace h := wpo_some h
          exact r_iret F h d10_paste_39
    · replace h := wpo_pos h hb
      refine r_bipush F (z := (-2)) (by decide) d10_paste_14 ?_
      replace h := wpo_some h
      exact r_iret F h d10_paste_16
