/-! METHODS, printed by wip/whole/gen/mkall.py -/
theorem d7_add_0 : decode c7_add 0 = .ok (.bipush 24, 2) := by decide +kernel
theorem d7_add_2 : decode c7_add 2 = .ok (.istore_n 2, 1) := by decide +kernel
theorem d7_add_3 : decode c7_add 3 = .ok (.iload_n 2, 1) := by decide +kernel
theorem d7_add_4 : decode c7_add 4 = .ok (.ifCond .lt 42, 3) := by decide +kernel
theorem d7_add_7 : decode c7_add 7 = .ok (.aload_n 0, 1) := by decide +kernel
theorem d7_add_8 : decode c7_add 8 = .ok (.getfield 15, 3) := by decide +kernel
theorem d7_add_11 : decode c7_add 11 = .ok (.sipush 700, 3) := by decide +kernel
theorem d7_add_14 : decode c7_add 14 = .ok (.if_icmp .ge 32, 3) := by decide +kernel
theorem d7_add_17 : decode c7_add 17 = .ok (.aload_n 0, 1) := by decide +kernel
theorem d7_add_18 : decode c7_add 18 = .ok (.getfield 9, 3) := by decide +kernel
theorem d7_add_21 : decode c7_add 21 = .ok (.aload_n 0, 1) := by decide +kernel
theorem d7_add_22 : decode c7_add 22 = .ok (.getfield 15, 3) := by decide +kernel
theorem d7_add_25 : decode c7_add 25 = .ok (.iload_n 1, 1) := by decide +kernel
theorem d7_add_26 : decode c7_add 26 = .ok (.iload_n 2, 1) := by decide +kernel
theorem d7_add_27 : decode c7_add 27 = .ok (.ishr, 1) := by decide +kernel
theorem d7_add_28 : decode c7_add 28 = .ok (.i2b, 1) := by decide +kernel
theorem d7_add_29 : decode c7_add 29 = .ok (.bastore, 1) := by decide +kernel
theorem d7_add_30 : decode c7_add 30 = .ok (.aload_n 0, 1) := by decide +kernel
theorem d7_add_31 : decode c7_add 31 = .ok (.dup, 1) := by decide +kernel
theorem d7_add_32 : decode c7_add 32 = .ok (.getfield 15, 3) := by decide +kernel
theorem d7_add_35 : decode c7_add 35 = .ok (.iconst 1, 1) := by decide +kernel
theorem d7_add_36 : decode c7_add 36 = .ok (.iadd, 1) := by decide +kernel
theorem d7_add_37 : decode c7_add 37 = .ok (.putfield 15, 3) := by decide +kernel
theorem d7_add_40 : decode c7_add 40 = .ok (.iinc 2 (-8), 3) := by decide +kernel
theorem d7_add_43 : decode c7_add 43 = .ok (.goto (-40), 3) := by decide +kernel
theorem d7_add_46 : decode c7_add 46 = .ok (.return_, 1) := by decide +kernel
def f7_add (D : Mem) (p0 : Int) : Option (Mem) :=
  Option.bind (@loop (Int × Mem) (Mem) (fun s1 =>
    if w32 s1.1 < 0 then
      some (Sum.inr s1.2)
    else
      if w32 (s1.2 1 1) < w32 700 then
        if 0 ≤ (s1.2 1 1) ∧ (s1.2 1 1) < 700 then
          Option.bind (some (mset s1.2 2 (s1.2 1 1).toNat (w8 (w8 (shr32 p0 s1.1))))) fun (D1 : Mem) =>
          some (Sum.inl ((s1.1 + (-8)), (mset D1 1 1 ((D1 1 1) + 1))))
        else none
      else
        some (Sum.inr s1.2)
  ) FU (24, D)) fun (b1 : Mem) =>
  some b1
set_option maxHeartbeats 4000000 in
theorem ok7_add {l : Launch} {X : XT} {n : Nat} {D : Mem} {Q : Option Value → Nat → Rho → Mem → Prop} (hn : 117 ≤ n) {p0 : Int}  (h : wpo (f7_add D p0) (fun a => Q none n rt a)) : MOK l y7_add c7_add 3 (none) { frames := 0, cells := 0, slots := 0, locals := 0 } 0 0 X [vR X 1, vI p0] n rt D Q := by
  refine MOK_of 7 (by decide +kernel) rfl (lv := [(0, vR X 1), (1, vI p0)]) (Nat.le_of_ble_eq_true rfl) rfl (fun K hK F hnm => ?_)
  subst hK
  unfold f7_add at h
  refine r_bipush F (z := 24) (by decide) d7_add_0 ?_
  refine r_istore_n F (lv' := [(2, vI 24), (0, vR X 1), (1, vI p0)]) rfl (Nat.le_of_ble_eq_true rfl) rfl d7_add_2 ?_
  refine r_weak [1, 2, 0] rfl ?_
  refine at_loopj (A := fun (s1 : Int × Mem) => At K X (ZQ K X Q) 0 0 n rt 3 3 [(0, vR X 1), (1, vI p0), (2, vI s1.1)] [] s1.2) (B := fun (b1 : Mem) => At K X (ZQ K X Q) 0 0 n rt 3 46 [] [] b1) h (fun b1 h => ?_) (fun s1 h => ?_)
  · replace h := wpo_some h
    exact r_vret F h d7_add_46
  · refine r_iload_n F 2 rfl rfl d7_add_3 ?_
    refine r_if_lt F (tgt := 46) d7_add_4 (by decide) (fun hb => ?_) (fun hb => ?_)
    · replace h := wpo_pos h hb
      refine r_weak [] rfl ?_
      replace h := wpo_inr h
      exact h
    · replace h := wpo_neg h hb
      refine r_aload_nR F 0 rfl rfl d7_add_7 ?_
      refine r_getI F lf7_15 (vc1 hn) d7_add_8 ?_
      refine r_sipush F (z := 700) (by decide) d7_add_11 ?_
      refine r_icmp_ge F (tgt := 46) d7_add_14 (by decide) (fun hb => ?_) (fun hb => ?_)
      · replace h := wpo_neg h hb
        refine r_weak [] rfl ?_
        replace h := wpo_inr h
        exact h
      · replace h := wpo_pos h hb
        refine r_aload_nR F 0 rfl rfl d7_add_17 ?_
        refine r_getR F (z := 2) lf7_9 (vc1 hn) z1_0 d7_add_18 ?_
        refine r_aload_nR F 0 rfl rfl d7_add_21 ?_
        refine r_getI F lf7_15 (vc1 hn) d7_add_22 ?_
        refine r_iload_n F 1 rfl rfl d7_add_25 ?_
        refine r_iload_n F 2 rfl rfl d7_add_26 ?_
        refine r_ishr F d7_add_27 ?_
        refine r_i2b F d7_add_28 ?_
        obtain ⟨hx1, h⟩ := wpo_chk h
        refine r_bast F (vc2 hn) hx1 d7_add_29 ?_
        refine r_aload_nR F 0 rfl rfl d7_add_30 ?_
        refine r_dup F rfl d7_add_31 ?_
        refine at_name (B := fun (D1 : Mem) => At K X (ZQ K X Q) 0 0 n rt 3 32 [(0, vR X 1), (1, vI p0), (2, vI s1.1)] [vR X 1, vR X 1] D1) h (fun D1 h => ?_)
        refine r_getI F lf7_15 (vc1 hn) d7_add_32 ?_
        refine r_iconst F (z := 1) d7_add_35 ?_
        refine r_iadd F d7_add_36 ?_
        refine r_putI F lf7_15 rfl rfl (vc1 hn) d7_add_37 ?_
        refine r_iinc F 2 (lv' := [(2, vI (s1.1 + (-8))), (0, vR X 1), (1, vI p0)]) rfl (Nat.le_of_ble_eq_true rfl) rfl d7_add_40 ?_
        refine r_goto F (tgt := 3) (by decide) d7_add_43 ?_
        refine r_weak [1, 2, 0] rfl ?_
        replace h := wpo_inl h
        exact h
theorem d9_feed_0 : decode c9_feed 0 = .ok (.aload_n 0, 1) := by decide +kernel
theorem d9_feed_1 : decode c9_feed 1 = .ok (.getfield 12, 3) := by decide +kernel
theorem d9_feed_4 : decode c9_feed 4 = .ok (.getfield 97, 3) := by decide +kernel
theorem d9_feed_7 : decode c9_feed 7 = .ok (.bipush 20, 2) := by decide +kernel
theorem d9_feed_9 : decode c9_feed 9 = .ok (.iadd, 1) := by decide +kernel
theorem d9_feed_10 : decode c9_feed 10 = .ok (.sipush 700, 3) := by decide +kernel
theorem d9_feed_13 : decode c9_feed 13 = .ok (.if_icmp .le 5, 3) := by decide +kernel
theorem d9_feed_16 : decode c9_feed 16 = .ok (.iconst (-1), 1) := by decide +kernel
theorem d9_feed_17 : decode c9_feed 17 = .ok (.ireturn, 1) := by decide +kernel
theorem d9_feed_18 : decode c9_feed 18 = .ok (.aload_n 0, 1) := by decide +kernel
theorem d9_feed_19 : decode c9_feed 19 = .ok (.getfield 12, 3) := by decide +kernel
theorem d9_feed_22 : decode c9_feed 22 = .ok (.iload_n 1, 1) := by decide +kernel
theorem d9_feed_23 : decode c9_feed 23 = .ok (.invokevirtual 101, 3) := by decide +kernel
theorem d9_feed_26 : decode c9_feed 26 = .ok (.aload_n 0, 1) := by decide +kernel
theorem d9_feed_27 : decode c9_feed 27 = .ok (.getfield 12, 3) := by decide +kernel
theorem d9_feed_30 : decode c9_feed 30 = .ok (.iload_n 2, 1) := by decide +kernel
theorem d9_feed_31 : decode c9_feed 31 = .ok (.invokevirtual 101, 3) := by decide +kernel
theorem d9_feed_34 : decode c9_feed 34 = .ok (.aload_n 0, 1) := by decide +kernel
theorem d9_feed_35 : decode c9_feed 35 = .ok (.getfield 12, 3) := by decide +kernel
theorem d9_feed_38 : decode c9_feed 38 = .ok (.iload_n 3, 1) := by decide +kernel
theorem d9_feed_39 : decode c9_feed 39 = .ok (.invokevirtual 101, 3) := by decide +kernel
theorem d9_feed_42 : decode c9_feed 42 = .ok (.aload_n 0, 1) := by decide +kernel
theorem d9_feed_43 : decode c9_feed 43 = .ok (.getfield 12, 3) := by decide +kernel
theorem d9_feed_46 : decode c9_feed 46 = .ok (.iload 4, 2) := by decide +kernel
theorem d9_feed_48 : decode c9_feed 48 = .ok (.invokevirtual 101, 3) := by decide +kernel
theorem d9_feed_51 : decode c9_feed 51 = .ok (.aload_n 0, 1) := by decide +kernel
theorem d9_feed_52 : decode c9_feed 52 = .ok (.getfield 12, 3) := by decide +kernel
theorem d9_feed_55 : decode c9_feed 55 = .ok (.iload 5, 2) := by decide +kernel
theorem d9_feed_57 : decode c9_feed 57 = .ok (.invokevirtual 101, 3) := by decide +kernel
theorem d9_feed_60 : decode c9_feed 60 = .ok (.aload_n 0, 1) := by decide +kernel
theorem d9_feed_61 : decode c9_feed 61 = .ok (.getfield 12, 3) := by decide +kernel
theorem d9_feed_64 : decode c9_feed 64 = .ok (.getfield 97, 3) := by decide +kernel
theorem d9_feed_67 : decode c9_feed 67 = .ok (.ireturn, 1) := by decide +kernel
def f9_feed (D : Mem) (p0 : Int) (p1 : Int) (p2 : Int) (p3 : Int) (p4 : Int) : Option (Int × Mem) :=
  if w32 700 < w32 ((D 1 1) + 20) then
    some ((-1), D)
  else
    Option.bind (f7_add D p0) fun (a1 : Mem) =>
    Option.bind (f7_add a1 p1) fun (a2 : Mem) =>
    Option.bind (f7_add a2 p2) fun (a3 : Mem) =>
    Option.bind (f7_add a3 p3) fun (a4 : Mem) =>
    Option.bind (f7_add a4 p4) fun (a5 : Mem) =>
    some ((a5 1 1), a5)
set_option maxHeartbeats 4000000 in
theorem ok9_feed {l : Launch} {X : XT} {n : Nat} {D : Mem} {Q : Option Value → Nat → Rho → Mem → Prop} (hn : 117 ≤ n) {p0 : Int} {p1 : Int} {p2 : Int} {p3 : Int} {p4 : Int}  (h : wpo (f9_feed D p0 p1 p2 p3 p4) (fun a => Q (some (vI a.1)) n rt a.2)) : MOK l y9_feed c9_feed 6 (some .int) { frames := 1, cells := 0, slots := 0, locals := 22 } 0 0 X [vR X 0, vI p0, vI p1, vI p2, vI p3, vI p4] n rt D Q := by
  refine MOK_of 9 (by decide +kernel) rfl (lv := [(0, vR X 0), (1, vI p0), (2, vI p1), (3, vI p2), (4, vI p3), (5, vI p4)]) (Nat.le_of_ble_eq_true rfl) rfl (fun K hK F hnm => ?_)
  subst hK
  unfold f9_feed at h
  refine r_aload_nR F 0 rfl rfl d9_feed_0 ?_
  refine r_getR F (z := 1) lf9_12 (vc0 hn) z0_0 d9_feed_1 ?_
  refine r_getI F lf9_97 (vc1 hn) d9_feed_4 ?_
  refine r_bipush F (z := 20) (by decide) d9_feed_7 ?_
  refine r_iadd F d9_feed_9 ?_
  refine r_sipush F (z := 700) (by decide) d9_feed_10 ?_
  refine r_icmp_le F (tgt := 18) d9_feed_13 (by decide) (fun hb => ?_) (fun hb => ?_)
  · replace h := wpo_neg h hb
    refine r_aload_nR F 0 rfl rfl d9_feed_18 ?_
    refine r_getR F (z := 1) lf9_12 (vc0 hn) z0_0 d9_feed_19 ?_
    refine r_iload_n F 1 rfl rfl d9_feed_22 ?_
    replace h := wpo_bind h
    refine r_callV0 F lm9_101 mf7_add (vc1 hn) rfl (fr := 0) (lo := 0) (As := [vI p0]) (rest := []) ⟨Nat.le_of_ble_eq_true rfl, Nat.le_of_ble_eq_true rfl⟩ rfl (Nat.le_of_ble_eq_true rfl) ⟨Nat.zero_le _, Nat.zero_le _⟩ d9_feed_23 ?_
    refine ok7_add hn  (kVm h (fun a1 h => ?_))
    refine r_aload_nR F 0 rfl rfl d9_feed_26 ?_
    refine r_getR F (z := 1) lf9_12 (vc0 hn) z0_0 d9_feed_27 ?_
    refine r_iload_n F 2 rfl rfl d9_feed_30 ?_
    replace h := wpo_bind h
    refine r_callV0 F lm9_101 mf7_add (vc1 hn) rfl (fr := 0) (lo := 0) (As := [vI p1]) (rest := []) ⟨Nat.le_of_ble_eq_true rfl, Nat.le_of_ble_eq_true rfl⟩ rfl (Nat.le_of_ble_eq_true rfl) ⟨Nat.zero_le _, Nat.zero_le _⟩ d9_feed_31 ?_
    refine ok7_add hn  (kVm h (fun a2 h => ?_))
    refine r_aload_nR F 0 rfl rfl d9_feed_34 ?_
    refine r_getR F (z := 1) lf9_12 (vc0 hn) z0_0 d9_feed_35 ?_
    refine r_iload_n F 3 rfl rfl d9_feed_38 ?_
    replace h := wpo_bind h
    refine r_callV0 F lm9_101 mf7_add (vc1 hn) rfl (fr := 0) (lo := 0) (As := [vI p2]) (rest := []) ⟨Nat.le_of_ble_eq_true rfl, Nat.le_of_ble_eq_true rfl⟩ rfl (Nat.le_of_ble_eq_true rfl) ⟨Nat.zero_le _, Nat.zero_le _⟩ d9_feed_39 ?_
    refine ok7_add hn  (kVm h (fun a3 h => ?_))
    refine r_aload_nR F 0 rfl rfl d9_feed_42 ?_
    refine r_getR F (z := 1) lf9_12 (vc0 hn) z0_0 d9_feed_43 ?_
    refine r_iload F 4 rfl d9_feed_46 ?_
    replace h := wpo_bind h
    refine r_callV0 F lm9_101 mf7_add (vc1 hn) rfl (fr := 0) (lo := 0) (As := [vI p3]) (rest := []) ⟨Nat.le_of_ble_eq_true rfl, Nat.le_of_ble_eq_true rfl⟩ rfl (Nat.le_of_ble_eq_true rfl) ⟨Nat.zero_le _, Nat.zero_le _⟩ d9_feed_48 ?_
    refine ok7_add hn  (kVm h (fun a4 h => ?_))
    refine r_aload_nR F 0 rfl rfl d9_feed_51 ?_
    refine r_getR F (z := 1) lf9_12 (vc0 hn) z0_0 d9_feed_52 ?_
    refine r_iload F 5 rfl d9_feed_55 ?_
    replace h := wpo_bind h
    refine r_callV0 F lm9_101 mf7_add (vc1 hn) rfl (fr := 0) (lo := 0) (As := [vI p4]) (rest := []) ⟨Nat.le_of_ble_eq_true rfl, Nat.le_of_ble_eq_true rfl⟩ rfl (Nat.le_of_ble_eq_true rfl) ⟨Nat.zero_le _, Nat.zero_le _⟩ d9_feed_57 ?_
    refine ok7_add hn  (kVm h (fun a5 h => ?_))
    refine r_aload_nR F 0 rfl rfl d9_feed_60 ?_
    refine r_getR F (z := 1) lf9_12 (vc0 hn) z0_0 d9_feed_61 ?_
    refine r_getI F lf9_97 (vc1 hn) d9_feed_64 ?_
    replace h := wpo_some h
    exact r_iret F h d9_feed_67
  · replace h := wpo_pos h hb
    refine r_iconst F (z := (-1)) d9_feed_16 ?_
    replace h := wpo_some h
    exact r_iret F h d9_feed_17
theorem d9_end_0 : decode c9_end 0 = .ok (.iload_n 1, 1) := by decide +kernel
theorem d9_end_1 : decode c9_end 1 = .ok (.ifCond .lt 14, 3) := by decide +kernel
theorem d9_end_4 : decode c9_end 4 = .ok (.iload_n 1, 1) := by decide +kernel
theorem d9_end_5 : decode c9_end 5 = .ok (.aload_n 0, 1) := by decide +kernel
theorem d9_end_6 : decode c9_end 6 = .ok (.getfield 12, 3) := by decide +kernel
theorem d9_end_9 : decode c9_end 9 = .ok (.getfield 97, 3) := by decide +kernel
theorem d9_end_12 : decode c9_end 12 = .ok (.if_icmp .le 5, 3) := by decide +kernel
theorem d9_end_15 : decode c9_end 15 = .ok (.iconst (-1), 1) := by decide +kernel
theorem d9_end_16 : decode c9_end 16 = .ok (.ireturn, 1) := by decide +kernel
theorem d9_end_17 : decode c9_end 17 = .ok (.aload_n 0, 1) := by decide +kernel
theorem d9_end_18 : decode c9_end 18 = .ok (.getfield 12, 3) := by decide +kernel
theorem d9_end_21 : decode c9_end 21 = .ok (.iload_n 1, 1) := by decide +kernel
theorem d9_end_22 : decode c9_end 22 = .ok (.putfield 97, 3) := by decide +kernel
theorem d9_end_25 : decode c9_end 25 = .ok (.iload_n 1, 1) := by decide +kernel
theorem d9_end_26 : decode c9_end 26 = .ok (.ireturn, 1) := by decide +kernel
def f9_end (D : Mem) (p0 : Int) : Option (Int × Mem) :=
  if w32 p0 < 0 then
    some ((-1), D)
  else
    if w32 (D 1 1) < w32 p0 then
      some ((-1), D)
    else
      some (p0, (mset D 1 1 p0))
set_option maxHeartbeats 4000000 in
theorem ok9_end {l : Launch} {X : XT} {n : Nat} {D : Mem} {Q : Option Value → Nat → Rho → Mem → Prop} (hn : 117 ≤ n) {p0 : Int}  (h : wpo (f9_end D p0) (fun a => Q (some (vI a.1)) n rt a.2)) : MOK l y9_end c9_end 2 (some .int) { frames := 0, cells := 0, slots := 0, locals := 0 } 0 0 X [vR X 0, vI p0] n rt D Q := by
  refine MOK_of 9 (by decide +kernel) rfl (lv := [(0, vR X 0), (1, vI p0)]) (Nat.le_of_ble_eq_true rfl) rfl (fun K hK F hnm => ?_)
  subst hK
  unfold f9_end at h
  refine r_iload_n F 1 rfl rfl d9_end_0 ?_
  refine r_if_lt F (tgt := 15) d9_end_1 (by decide) (fun hb => ?_) (fun hb => ?_)
  · replace h := wpo_pos h hb
    refine r_iconst F (z := (-1)) d9_end_15 ?_
    replace h := wpo_some h
    exact r_iret F h d9_end_16
  · replace h := wpo_neg h hb
    refine r_iload_n F 1 rfl rfl d9_end_4 ?_
    refine r_aload_nR F 0 rfl rfl d9_end_5 ?_
    refine r_getR F (z := 1) lf9_12 (vc0 hn) z0_0 d9_end_6 ?_
    refine r_getI F lf9_97 (vc1 hn) d9_end_9 ?_
    refine r_icmp_le F (tgt := 17) d9_end_12 (by decide) (fun hb => ?_) (fun hb => ?_)
    · replace h := wpo_neg h hb
      refine r_aload_nR F 0 rfl rfl d9_end_17 ?_
      refine r_getR F (z := 1) lf9_12 (vc0 hn) z0_0 d9_end_18 ?_
      refine r_iload_n F 1 rfl rfl d9_end_21 ?_
      refine r_putI F lf9_97 rfl rfl (vc1 hn) d9_end_22 ?_
      refine r_iload_n F 1 rfl rfl d9_end_25 ?_
      replace h := wpo_some h
      exact r_iret F h d9_end_26
    · replace h := wpo_pos h hb
      refine r_iconst F (z := (-1)) d9_end_15 ?_
      replace h := wpo_some h
      exact r_iret F h d9_end_16
theorem d2_clear_0 : decode c2_clear 0 = .ok (.aload_n 0, 1) := by decide +kernel
theorem d2_clear_1 : decode c2_clear 1 = .ok (.iconst 0, 1) := by decide +kernel
theorem d2_clear_2 : decode c2_clear 2 = .ok (.putfield 9, 3) := by decide +kernel
theorem d2_clear_5 : decode c2_clear 5 = .ok (.aload_n 0, 1) := by decide +kernel
theorem d2_clear_6 : decode c2_clear 6 = .ok (.iconst 0, 1) := by decide +kernel
theorem d2_clear_7 : decode c2_clear 7 = .ok (.putfield 15, 3) := by decide +kernel
theorem d2_clear_10 : decode c2_clear 10 = .ok (.aload_n 0, 1) := by decide +kernel
theorem d2_clear_11 : decode c2_clear 11 = .ok (.iconst 0, 1) := by decide +kernel
theorem d2_clear_12 : decode c2_clear 12 = .ok (.putfield 18, 3) := by decide +kernel
theorem d2_clear_15 : decode c2_clear 15 = .ok (.aload_n 0, 1) := by decide +kernel
theorem d2_clear_16 : decode c2_clear 16 = .ok (.iconst 0, 1) := by decide +kernel
theorem d2_clear_17 : decode c2_clear 17 = .ok (.putfield 21, 3) := by decide +kernel
theorem d2_clear_20 : decode c2_clear 20 = .ok (.aload_n 0, 1) := by decide +kernel
theorem d2_clear_21 : decode c2_clear 21 = .ok (.iconst 0, 1) := by decide +kernel
theorem d2_clear_22 : decode c2_clear 22 = .ok (.putfield 24, 3) := by decide +kernel
theorem d2_clear_25 : decode c2_clear 25 = .ok (.aload_n 0, 1) := by decide +kernel
theorem d2_clear_26 : decode c2_clear 26 = .ok (.iconst 0, 1) := by decide +kernel
theorem d2_clear_27 : decode c2_clear 27 = .ok (.putfield 27, 3) := by decide +kernel
theorem d2_clear_30 : decode c2_clear 30 = .ok (.aload_n 0, 1) := by decide +kernel
theorem d2_clear_31 : decode c2_clear 31 = .ok (.iconst 0, 1) := by decide +kernel
theorem d2_clear_32 : decode c2_clear 32 = .ok (.putfield 30, 3) := by decide +kernel
theorem d2_clear_35 : decode c2_clear 35 = .ok (.aload_n 0, 1) := by decide +kernel
theorem d2_clear_36 : decode c2_clear 36 = .ok (.iconst 0, 1) := by decide +kernel
theorem d2_clear_37 : decode c2_clear 37 = .ok (.putfield 33, 3) := by decide +kernel
theorem d2_clear_40 : decode c2_clear 40 = .ok (.aload_n 0, 1) := by decide +kernel
theorem d2_clear_41 : decode c2_clear 41 = .ok (.iconst 0, 1) := by decide +kernel
theorem d2_clear_42 : decode c2_clear 42 = .ok (.putfield 36, 3) := by decide +kernel
theorem d2_clear_45 : decode c2_clear 45 = .ok (.aload_n 0, 1) := by decide +kernel
theorem d2_clear_46 : decode c2_clear 46 = .ok (.iconst 0, 1) := by decide +kernel
theorem d2_clear_47 : decode c2_clear 47 = .ok (.putfield 39, 3) := by decide +kernel
theorem d2_clear_50 : decode c2_clear 50 = .ok (.return_, 1) := by decide +kernel
def f2_clear (D : Mem) (r : Nat) : Option (Mem) :=
  Option.bind (some (mset D r 0 0)) fun (D1 : Mem) =>
  Option.bind (some (mset D1 r 1 0)) fun (D2 : Mem) =>
  Option.bind (some (mset D2 r 2 0)) fun (D3 : Mem) =>
  Option.bind (some (mset D3 r 3 0)) fun (D4 : Mem) =>
  Option.bind (some (mset D4 r 4 0)) fun (D5 : Mem) =>
  Option.bind (some (mset D5 r 5 0)) fun (D6 : Mem) =>
  Option.bind (some (mset D6 r 6 0)) fun (D7 : Mem) =>
  Option.bind (some (mset D7 r 7 0)) fun (D8 : Mem) =>
  Option.bind (some (mset D8 r 8 0)) fun (D9 : Mem) =>
  some (mset D9 r 9 0)
set_option maxHeartbeats 4000000 in
theorem ok2_clear {l : Launch} {X : XT} {n : Nat} {D : Mem} {Q : Option Value → Nat → Rho → Mem → Prop} (hn : 117 ≤ n) {r : Nat} (hr : VR n r 2) (h : wpo (f2_clear D r) (fun a => Q none n rt a)) : MOK l y2_clear c2_clear 1 (none) { frames := 0, cells := 0, slots := 0, locals := 0 } 0 0 X [vR X r] n rt D Q := by
  refine MOK_of 2 (by decide +kernel) rfl (lv := [(0, vR X r)]) (Nat.le_of_ble_eq_true rfl) rfl (fun K hK F hnm => ?_)
  subst hK
  unfold f2_clear at h
  refine r_aload_nR F 0 rfl rfl d2_clear_0 ?_
  refine r_iconst F (z := 0) d2_clear_1 ?_
  refine r_putI F lf2_9 rfl rfl hr d2_clear_2 ?_
  refine r_aload_nR F 0 rfl rfl d2_clear_5 ?_
  refine r_iconst F (z := 0) d2_clear_6 ?_
  refine at_name (B := fun (D1 : Mem) => At K X (ZQ K X Q) 0 0 n rt 1 7 [(0, vR X r)] [vI 0, vR X r] D1) h (fun D1 h => ?_)
  refine r_putI F lf2_15 rfl rfl hr d2_clear_7 ?_
  refine r_aload_nR F 0 rfl rfl d2_clear_10 ?_
  refine r_iconst F (z := 0) d2_clear_11 ?_
  refine at_name (B := fun (D2 : Mem) => At K X (ZQ K X Q) 0 0 n rt 1 12 [(0, vR X r)] [vI 0, vR X r] D2) h (fun D2 h => ?_)
  refine r_putI F lf2_18 rfl rfl hr d2_clear_12 ?_
  refine r_aload_nR F 0 rfl rfl d2_clear_15 ?_
  refine r_iconst F (z := 0) d2_clear_16 ?_
  refine at_name (B := fun (D3 : Mem) => At K X (ZQ K X Q) 0 0 n rt 1 17 [(0, vR X r)] [vI 0, vR X r] D3) h (fun D3 h => ?_)
  refine r_putI F lf2_21 rfl rfl hr d2_clear_17 ?_
  refine r_aload_nR F 0 rfl rfl d2_clear_20 ?_
  refine r_iconst F (z := 0) d2_clear_21 ?_
  refine at_name (B := fun (D4 : Mem) => At K X (ZQ K X Q) 0 0 n rt 1 22 [(0, vR X r)] [vI 0, vR X r] D4) h (fun D4 h => ?_)
  refine r_putI F lf2_24 rfl rfl hr d2_clear_22 ?_
  refine r_aload_nR F 0 rfl rfl d2_clear_25 ?_
  refine r_iconst F (z := 0) d2_clear_26 ?_
  refine at_name (B := fun (D5 : Mem) => At K X (ZQ K X Q) 0 0 n rt 1 27 [(0, vR X r)] [vI 0, vR X r] D5) h (fun D5 h => ?_)
  refine r_putI F lf2_27 rfl rfl hr d2_clear_27 ?_
  refine r_aload_nR F 0 rfl rfl d2_clear_30 ?_
  refine r_iconst F (z := 0) d2_clear_31 ?_
  refine at_name (B := fun (D6 : Mem) => At K X (ZQ K X Q) 0 0 n rt 1 32 [(0, vR X r)] [vI 0, vR X r] D6) h (fun D6 h => ?_)
  refine r_putI F lf2_30 rfl rfl hr d2_clear_32 ?_
  refine r_aload_nR F 0 rfl rfl d2_clear_35 ?_
  refine r_iconst F (z := 0) d2_clear_36 ?_
  refine at_name (B := fun (D7 : Mem) => At K X (ZQ K X Q) 0 0 n rt 1 37 [(0, vR X r)] [vI 0, vR X r] D7) h (fun D7 h => ?_)
  refine r_putI F lf2_33 rfl rfl hr d2_clear_37 ?_
  refine r_aload_nR F 0 rfl rfl d2_clear_40 ?_
  refine r_iconst F (z := 0) d2_clear_41 ?_
  refine at_name (B := fun (D8 : Mem) => At K X (ZQ K X Q) 0 0 n rt 1 42 [(0, vR X r)] [vI 0, vR X r] D8) h (fun D8 h => ?_)
  refine r_putI F lf2_36 rfl rfl hr d2_clear_42 ?_
  refine r_aload_nR F 0 rfl rfl d2_clear_45 ?_
  refine r_iconst F (z := 0) d2_clear_46 ?_
  refine at_name (B := fun (D9 : Mem) => At K X (ZQ K X Q) 0 0 n rt 1 47 [(0, vR X r)] [vI 0, vR X r] D9) h (fun D9 h => ?_)
  refine r_putI F lf2_39 rfl rfl hr d2_clear_47 ?_
  replace h := wpo_some h
  exact r_vret F h d2_clear_50
theorem d4_isBlank_0 : decode c4_isBlank 0 = .ok (.iload_n 0, 1) := by decide +kernel
theorem d4_isBlank_1 : decode c4_isBlank 1 = .ok (.bipush 32, 2) := by decide +kernel
theorem d4_isBlank_3 : decode c4_isBlank 3 = .ok (.if_icmp .eq 9, 3) := by decide +kernel
theorem d4_isBlank_6 : decode c4_isBlank 6 = .ok (.iload_n 0, 1) := by decide +kernel
theorem d4_isBlank_7 : decode c4_isBlank 7 = .ok (.bipush 10, 2) := by decide +kernel
theorem d4_isBlank_9 : decode c4_isBlank 9 = .ok (.if_icmp .ne 7, 3) := by decide +kernel
theorem d4_isBlank_12 : decode c4_isBlank 12 = .ok (.iconst 1, 1) := by decide +kernel
theorem d4_isBlank_13 : decode c4_isBlank 13 = .ok (.goto 4, 3) := by decide +kernel
theorem d4_isBlank_16 : decode c4_isBlank 16 = .ok (.iconst 0, 1) := by decide +kernel
theorem d4_isBlank_17 : decode c4_isBlank 17 = .ok (.ireturn, 1) := by decide +kernel
def f4_isBlank (D : Mem) (p0 : Int) : Option (Int) :=
  if w32 p0 = w32 32 then
    some 1
  else
    if w32 p0 = w32 10 then
      some 1
    else
      some 0
set_option maxHeartbeats 4000000 in
theorem ok4_isBlank {l : Launch} {X : XT} {n : Nat} {D : Mem} {Q : Option Value → Nat → Rho → Mem → Prop} (hn : 117 ≤ n) {p0 : Int}  (h : wpo (f4_isBlank D p0) (fun a => Q (some (vI a)) n rt D)) : MOK l y4_isBlank c4_isBlank 1 (some .boolean) { frames := 0, cells := 0, slots := 0, locals := 0 } 0 0 X [vI p0] n rt D Q := by
  refine MOK_of 4 (by decide +kernel) rfl (lv := [(0, vI p0)]) (Nat.le_of_ble_eq_true rfl) rfl (fun K hK F hnm => ?_)
  subst hK
  unfold f4_isBlank at h
  refine r_iload_n F 0 rfl rfl d4_isBlank_0 ?_
  refine r_bipush F (z := 32) (by decide) d4_isBlank_1 ?_
  refine r_icmp_eq F (tgt := 12) d4_isBlank_3 (by decide) (fun hb => ?_) (fun hb => ?_)
  · replace h := wpo_pos h hb
    refine r_iconst F (z := 1) d4_isBlank_12 ?_
    refine r_goto F (tgt := 17) (by decide) d4_isBlank_13 ?_
    replace h := wpo_some h
    exact r_zret F (Or.inr rfl) h d4_isBlank_17
  · replace h := wpo_neg h hb
    refine r_iload_n F 0 rfl rfl d4_isBlank_6 ?_
    refine r_bipush F (z := 10) (by decide) d4_isBlank_7 ?_
    refine r_icmp_ne F (tgt := 16) d4_isBlank_9 (by decide) (fun hb => ?_) (fun hb => ?_)
    · replace h := wpo_neg h hb
      refine r_iconst F (z := 0) d4_isBlank_16 ?_
      replace h := wpo_some h
      exact r_zret F (Or.inl rfl) h d4_isBlank_17
    · replace h := wpo_pos h hb
      refine r_iconst F (z := 1) d4_isBlank_12 ?_
      refine r_goto F (tgt := 17) (by decide) d4_isBlank_13 ?_
      replace h := wpo_some h
      exact r_zret F (Or.inr rfl) h d4_isBlank_17
theorem d4_kindOf_0 : decode c4_kindOf 0 = .ok (.iload_n 0, 1) := by decide +kernel
theorem d4_kindOf_1 : decode c4_kindOf 1 = .ok (.bipush 97, 2) := by decide +kernel
theorem d4_kindOf_3 : decode c4_kindOf 3 = .ok (.if_icmp .lt 11, 3) := by decide +kernel
theorem d4_kindOf_6 : decode c4_kindOf 6 = .ok (.iload_n 0, 1) := by decide +kernel
theorem d4_kindOf_7 : decode c4_kindOf 7 = .ok (.bipush 122, 2) := by decide +kernel
theorem d4_kindOf_9 : decode c4_kindOf 9 = .ok (.if_icmp .gt 5, 3) := by decide +kernel
theorem d4_kindOf_12 : decode c4_kindOf 12 = .ok (.iconst 1, 1) := by decide +kernel
theorem d4_kindOf_13 : decode c4_kindOf 13 = .ok (.ireturn, 1) := by decide +kernel
theorem d4_kindOf_14 : decode c4_kindOf 14 = .ok (.iload_n 0, 1) := by decide +kernel
theorem d4_kindOf_15 : decode c4_kindOf 15 = .ok (.bipush 48, 2) := by decide +kernel
theorem d4_kindOf_17 : decode c4_kindOf 17 = .ok (.if_icmp .lt 11, 3) := by decide +kernel
theorem d4_kindOf_20 : decode c4_kindOf 20 = .ok (.iload_n 0, 1) := by decide +kernel
theorem d4_kindOf_21 : decode c4_kindOf 21 = .ok (.bipush 57, 2) := by decide +kernel
theorem d4_kindOf_23 : decode c4_kindOf 23 = .ok (.if_icmp .gt 5, 3) := by decide +kernel
theorem d4_kindOf_26 : decode c4_kindOf 26 = .ok (.iconst 2, 1) := by decide +kernel
theorem d4_kindOf_27 : decode c4_kindOf 27 = .ok (.ireturn, 1) := by decide +kernel
theorem d4_kindOf_28 : decode c4_kindOf 28 = .ok (.iload_n 0, 1) := by decide +kernel
theorem d4_kindOf_29 : decode c4_kindOf 29 = .ok (.bipush 59, 2) := by decide +kernel
theorem d4_kindOf_31 : decode c4_kindOf 31 = .ok (.if_icmp .ne 7, 3) := by decide +kernel
theorem d4_kindOf_34 : decode c4_kindOf 34 = .ok (.iconst 3, 1) := by decide +kernel
theorem d4_kindOf_35 : decode c4_kindOf 35 = .ok (.goto 4, 3) := by decide +kernel
theorem d4_kindOf_38 : decode c4_kindOf 38 = .ok (.iconst 4, 1) := by decide +kernel
theorem d4_kindOf_39 : decode c4_kindOf 39 = .ok (.ireturn, 1) := by decide +kernel
def f4_kindOf (D : Mem) (p0 : Int) : Option (Int) :=
  Option.bind (
    if w32 p0 < w32 97 then
      some true
    else
      if w32 122 < w32 p0 then
        some true
      else
        some false
  ) fun (t1 : Bool) =>
  if t1 = true then
    if w32 p0 < w32 48 then
      if w32 p0 = w32 59 then
        some 3
      else
        some 4
    else
      if w32 57 < w32 p0 then
        if w32 p0 = w32 59 then
          some 3
        else
          some 4
      else
        some 2
  else
    some 1
set_option maxHeartbeats 4000000 in
theorem ok4_kindOf {l : Launch} {X : XT} {n : Nat} {D : Mem} {Q : Option Value → Nat → Rho → Mem → Prop} (hn : 117 ≤ n) {p0 : Int}  (h : wpo (f4_kindOf D p0) (fun a => Q (some (vI a)) n rt D)) : MOK l y4_kindOf c4_kindOf 1 (some .int) { frames := 0, cells := 0, slots := 0, locals := 0 } 0 0 X [vI p0] n rt D Q := by
  refine MOK_of 4 (by decide +kernel) rfl (lv := [(0, vI p0)]) (Nat.le_of_ble_eq_true rfl) rfl (fun K hK F hnm => ?_)
  subst hK
  unfold f4_kindOf at h
  refine r_iload_n F 0 rfl rfl d4_kindOf_0 ?_
  refine r_bipush F (z := 97) (by decide) d4_kindOf_1 ?_
  refine at_join (B := fun (t1 : Bool) => (t1 = true → At K X (ZQ K X Q) 0 0 n rt 1 14 [(0, vI p0)] [] D) ∧ (t1 = false → At K X (ZQ K X Q) 0 0 n rt 1 12 [(0, vI p0)] [] D)) h (fun t1 h => ?_) (fun h => ?_)
  · refine at_bool h (fun hb h => ?_) (fun hb h => ?_)
    · refine r_iload_n F 0 rfl rfl d4_kindOf_14 ?_
      refine r_bipush F (z := 48) (by decide) d4_kindOf_15 ?_
      refine r_icmp_lt F (tgt := 28) d4_kindOf_17 (by decide) (fun hb => ?_) (fun hb => ?_)
      · replace h := wpo_pos h hb
        refine r_iload_n F 0 rfl rfl d4_kindOf_28 ?_
        refine r_bipush F (z := 59) (by decide) d4_kindOf_29 ?_
        refine r_icmp_ne F (tgt := 38) d4_kindOf_31 (by decide) (fun hb => ?_) (fun hb => ?_)
        · replace h := wpo_neg h hb
          refine r_iconst F (z := 4) d4_kindOf_38 ?_
          replace h := wpo_some h
          exact r_iret F h d4_kindOf_39
        · replace h := wpo_pos h hb
          refine r_iconst F (z := 3) d4_kindOf_34 ?_
          refine r_goto F (tgt := 39) (by decide) d4_kindOf_35 ?_
          replace h := wpo_some h
          exact r_iret F h d4_kindOf_39
      · replace h := wpo_neg h hb
        refine r_iload_n F 0 rfl rfl d4_kindOf_20 ?_
        refine r_bipush F (z := 57) (by decide) d4_kindOf_21 ?_
        refine r_icmp_gt F (tgt := 28) d4_kindOf_23 (by decide) (fun hb => ?_) (fun hb => ?_)
        · replace h := wpo_pos h hb
          refine r_iload_n F 0 rfl rfl d4_kindOf_28 ?_
          refine r_bipush F (z := 59) (by decide) d4_kindOf_29 ?_
          refine r_icmp_ne F (tgt := 38) d4_kindOf_31 (by decide) (fun hb => ?_) (fun hb => ?_)
          · replace h := wpo_neg h hb
            refine r_iconst F (z := 4) d4_kindOf_38 ?_
            replace h := wpo_some h
            exact r_iret F h d4_kindOf_39
          · replace h := wpo_pos h hb
            refine r_iconst F (z := 3) d4_kindOf_34 ?_
            refine r_goto F (tgt := 39) (by decide) d4_kindOf_35 ?_
            replace h := wpo_some h
            exact r_iret F h d4_kindOf_39
        · replace h := wpo_neg h hb
          refine r_iconst F (z := 2) d4_kindOf_26 ?_
          replace h := wpo_some h
          exact r_iret F h d4_kindOf_27
    · refine r_iconst F (z := 1) d4_kindOf_12 ?_
      replace h := wpo_some h
      exact r_iret F h d4_kindOf_13
  · refine r_icmp_lt F (tgt := 14) d4_kindOf_3 (by decide) (fun hb => ?_) (fun hb => ?_)
    · replace h := wpo_pos h hb
      replace h := wpo_some h
      exact h.1 rfl
    · replace h := wpo_neg h hb
      refine r_iload_n F 0 rfl rfl d4_kindOf_6 ?_
      refine r_bipush F (z := 122) (by decide) d4_kindOf_7 ?_
      refine r_icmp_gt F (tgt := 14) d4_kindOf_9 (by decide) (fun hb => ?_) (fun hb => ?_)
      · replace h := wpo_pos h hb
        replace h := wpo_some h
        exact h.1 rfl
      · replace h := wpo_neg h hb
        replace h := wpo_some h
        exact h.2 rfl
theorem d4_next_0 : decode c4_next 0 = .ok (.aload_n 0, 1) := by decide +kernel
theorem d4_next_1 : decode c4_next 1 = .ok (.getfield 31, 3) := by decide +kernel
theorem d4_next_4 : decode c4_next 4 = .ok (.aload_n 0, 1) := by decide +kernel
theorem d4_next_5 : decode c4_next 5 = .ok (.getfield 34, 3) := by decide +kernel
theorem d4_next_8 : decode c4_next 8 = .ok (.getfield 111, 3) := by decide +kernel
theorem d4_next_11 : decode c4_next 11 = .ok (.if_icmp .ge 34, 3) := by decide +kernel
theorem d4_next_14 : decode c4_next 14 = .ok (.aload_n 0, 1) := by decide +kernel
theorem d4_next_15 : decode c4_next 15 = .ok (.getfield 34, 3) := by decide +kernel
theorem d4_next_18 : decode c4_next 18 = .ok (.getfield 116, 3) := by decide +kernel
theorem d4_next_21 : decode c4_next 21 = .ok (.aload_n 0, 1) := by decide +kernel
theorem d4_next_22 : decode c4_next 22 = .ok (.getfield 31, 3) := by decide +kernel
theorem d4_next_25 : decode c4_next 25 = .ok (.baload, 1) := by decide +kernel
theorem d4_next_26 : decode c4_next 26 = .ok (.invokestatic 120, 3) := by decide +kernel
theorem d4_next_29 : decode c4_next 29 = .ok (.ifCond .eq 16, 3) := by decide +kernel
theorem d4_next_32 : decode c4_next 32 = .ok (.aload_n 0, 1) := by decide +kernel
theorem d4_next_33 : decode c4_next 33 = .ok (.dup, 1) := by decide +kernel
theorem d4_next_34 : decode c4_next 34 = .ok (.getfield 31, 3) := by decide +kernel
theorem d4_next_37 : decode c4_next 37 = .ok (.iconst 1, 1) := by decide +kernel
theorem d4_next_38 : decode c4_next 38 = .ok (.iadd, 1) := by decide +kernel
theorem d4_next_39 : decode c4_next 39 = .ok (.putfield 31, 3) := by decide +kernel
theorem d4_next_42 : decode c4_next 42 = .ok (.goto (-42), 3) := by decide +kernel
theorem d4_next_45 : decode c4_next 45 = .ok (.aload_n 0, 1) := by decide +kernel
theorem d4_next_46 : decode c4_next 46 = .ok (.aload_n 0, 1) := by decide +kernel
theorem d4_next_47 : decode c4_next 47 = .ok (.getfield 31, 3) := by decide +kernel
theorem d4_next_50 : decode c4_next 50 = .ok (.putfield 28, 3) := by decide +kernel
theorem d4_next_53 : decode c4_next 53 = .ok (.aload_n 0, 1) := by decide +kernel
theorem d4_next_54 : decode c4_next 54 = .ok (.aload_n 0, 1) := by decide +kernel
theorem d4_next_55 : decode c4_next 55 = .ok (.getfield 31, 3) := by decide +kernel
theorem d4_next_58 : decode c4_next 58 = .ok (.aload_n 0, 1) := by decide +kernel
theorem d4_next_59 : decode c4_next 59 = .ok (.getfield 34, 3) := by decide +kernel
theorem d4_next_62 : decode c4_next 62 = .ok (.getfield 111, 3) := by decide +kernel
theorem d4_next_65 : decode c4_next 65 = .ok (.if_icmp .ge 21, 3) := by decide +kernel
theorem d4_next_68 : decode c4_next 68 = .ok (.aload_n 0, 1) := by decide +kernel
theorem d4_next_69 : decode c4_next 69 = .ok (.getfield 34, 3) := by decide +kernel
theorem d4_next_72 : decode c4_next 72 = .ok (.getfield 116, 3) := by decide +kernel
theorem d4_next_75 : decode c4_next 75 = .ok (.aload_n 0, 1) := by decide +kernel
theorem d4_next_76 : decode c4_next 76 = .ok (.getfield 31, 3) := by decide +kernel
theorem d4_next_79 : decode c4_next 79 = .ok (.baload, 1) := by decide +kernel
theorem d4_next_80 : decode c4_next 80 = .ok (.invokestatic 123, 3) := by decide +kernel
theorem d4_next_83 : decode c4_next 83 = .ok (.goto 4, 3) := by decide +kernel
theorem d4_next_86 : decode c4_next 86 = .ok (.iconst 0, 1) := by decide +kernel
theorem d4_next_87 : decode c4_next 87 = .ok (.putfield 25, 3) := by decide +kernel
theorem d4_next_90 : decode c4_next 90 = .ok (.aload_n 0, 1) := by decide +kernel
theorem d4_next_91 : decode c4_next 91 = .ok (.getfield 25, 3) := by decide +kernel
theorem d4_next_94 : decode c4_next 94 = .ok (.ifCond .ne 4, 3) := by decide +kernel
theorem d4_next_97 : decode c4_next 97 = .ok (.return_, 1) := by decide +kernel
theorem d4_next_98 : decode c4_next 98 = .ok (.aload_n 0, 1) := by decide +kernel
theorem d4_next_99 : decode c4_next 99 = .ok (.dup, 1) := by decide +kernel
theorem d4_next_100 : decode c4_next 100 = .ok (.getfield 31, 3) := by decide +kernel
theorem d4_next_103 : decode c4_next 103 = .ok (.iconst 1, 1) := by decide +kernel
theorem d4_next_104 : decode c4_next 104 = .ok (.iadd, 1) := by decide +kernel
theorem d4_next_105 : decode c4_next 105 = .ok (.putfield 31, 3) := by decide +kernel
theorem d4_next_108 : decode c4_next 108 = .ok (.aload_n 0, 1) := by decide +kernel
theorem d4_next_109 : decode c4_next 109 = .ok (.getfield 25, 3) := by decide +kernel
theorem d4_next_112 : decode c4_next 112 = .ok (.iconst 1, 1) := by decide +kernel
theorem d4_next_113 : decode c4_next 113 = .ok (.if_icmp .eq 11, 3) := by decide +kernel
theorem d4_next_116 : decode c4_next 116 = .ok (.aload_n 0, 1) := by decide +kernel
theorem d4_next_117 : decode c4_next 117 = .ok (.getfield 25, 3) := by decide +kernel
theorem d4_next_120 : decode c4_next 120 = .ok (.iconst 2, 1) := by decide +kernel
theorem d4_next_121 : decode c4_next 121 = .ok (.if_icmp .ne 52, 3) := by decide +kernel
theorem d4_next_124 : decode c4_next 124 = .ok (.aload_n 0, 1) := by decide +kernel
theorem d4_next_125 : decode c4_next 125 = .ok (.getfield 31, 3) := by decide +kernel
theorem d4_next_128 : decode c4_next 128 = .ok (.aload_n 0, 1) := by decide +kernel
theorem d4_next_129 : decode c4_next 129 = .ok (.getfield 34, 3) := by decide +kernel
theorem d4_next_132 : decode c4_next 132 = .ok (.getfield 111, 3) := by decide +kernel
theorem d4_next_135 : decode c4_next 135 = .ok (.if_icmp .ge 38, 3) := by decide +kernel
theorem d4_next_138 : decode c4_next 138 = .ok (.aload_n 0, 1) := by decide +kernel
theorem d4_next_139 : decode c4_next 139 = .ok (.getfield 34, 3) := by decide +kernel
theorem d4_next_142 : decode c4_next 142 = .ok (.getfield 116, 3) := by decide +kernel
theorem d4_next_145 : decode c4_next 145 = .ok (.aload_n 0, 1) := by decide +kernel
theorem d4_next_146 : decode c4_next 146 = .ok (.getfield 31, 3) := by decide +kernel
theorem d4_next_149 : decode c4_next 149 = .ok (.baload, 1) := by decide +kernel
theorem d4_next_150 : decode c4_next 150 = .ok (.invokestatic 123, 3) := by decide +kernel
theorem d4_next_153 : decode c4_next 153 = .ok (.aload_n 0, 1) := by decide +kernel
theorem d4_next_154 : decode c4_next 154 = .ok (.getfield 25, 3) := by decide +kernel
theorem d4_next_157 : decode c4_next 157 = .ok (.if_icmp .ne 16, 3) := by decide +kernel
theorem d4_next_160 : decode c4_next 160 = .ok (.aload_n 0, 1) := by decide +kernel
theorem d4_next_161 : decode c4_next 161 = .ok (.dup, 1) := by decide +kernel
theorem d4_next_162 : decode c4_next 162 = .ok (.getfield 31, 3) := by decide +kernel
theorem d4_next_165 : decode c4_next 165 = .ok (.iconst 1, 1) := by decide +kernel
theorem d4_next_166 : decode c4_next 166 = .ok (.iadd, 1) := by decide +kernel
theorem d4_next_167 : decode c4_next 167 = .ok (.putfield 31, 3) := by decide +kernel
theorem d4_next_170 : decode c4_next 170 = .ok (.goto (-46), 3) := by decide +kernel
theorem d4_next_173 : decode c4_next 173 = .ok (.return_, 1) := by decide +kernel
def f4_next (D : Mem) : Option (Mem) :=
  Option.bind (@loop (Mem) (Mem) (fun s1 =>
    if w32 (s1 3 6) < w32 (s1 1 1) then
      if 0 ≤ (s1 3 6) ∧ (s1 3 6) < 700 then
        Option.bind (f4_isBlank s1 (s1 2 (s1 3 6).toNat)) fun (a1 : Int) =>
        if w32 a1 = 0 then
          some (Sum.inr s1)
        else
          some (Sum.inl (mset s1 3 6 ((s1 3 6) + 1)))
      else none
    else
      some (Sum.inr s1)
  ) FU D) fun (b1 : Mem) =>
  Option.bind (some (mset b1 3 5 (b1 3 6))) fun (D1 : Mem) =>
  Option.bind (
    if w32 (D1 3 6) < w32 (D1 1 1) then
      if 0 ≤ (D1 3 6) ∧ (D1 3 6) < 700 then
        Option.bind (f4_kindOf D1 (D1 2 (D1 3 6).toNat)) fun (a2 : Int) =>
        some a2
      else none
    else
      some 0
  ) fun (j1 : Int) =>
  Option.bind (some (mset D1 3 4 j1)) fun (D2 : Mem) =>
  if w32 (D2 3 4) = 0 then
    some D2
  else
    Option.bind (some (mset D2 3 6 ((D2 3 6) + 1))) fun (D3 : Mem) =>
    if w32 (D3 3 4) = w32 1 then
      Option.bind (@loop (Mem) (Mem) (fun s2 =>
        if w32 (s2 3 6) < w32 (s2 1 1) then
          if 0 ≤ (s2 3 6) ∧ (s2 3 6) < 700 then
            Option.bind (f4_kindOf s2 (s2 2 (s2 3 6).toNat)) fun (a3 : Int) =>
            if w32 a3 = w32 (s2 3 4) then
              some (Sum.inl (mset s2 3 6 ((s2 3 6) + 1)))
            else
              some (Sum.inr s2)
          else none
        else
          some (Sum.inr s2)
      ) FU D3) fun (b2 : Mem) =>
      some b2
    else
      if w32 (D3 3 4) = w32 2 then
        Option.bind (@loop (Mem) (Mem) (fun s3 =>
          if w32 (s3 3 6) < w32 (s3 1 1) then
            if 0 ≤ (s3 3 6) ∧ (s3 3 6) < 700 then
              Option.bind (f4_kindOf s3 (s3 2 (s3 3 6).toNat)) fun (a4 : Int) =>
              if w32 a4 = w32 (s3 3 4) then
                some (Sum.inl (mset s3 3 6 ((s3 3 6) + 1)))
              else
                some (Sum.inr s3)
            else none
          else
            some (Sum.inr s3)
        ) FU D3) fun (b3 : Mem) =>
        some b3
      else
        some D3
set_option maxHeartbeats 4000000 in
theorem ok4_next {l : Launch} {X : XT} {n : Nat} {D : Mem} {Q : Option Value → Nat → Rho → Mem → Prop} (hn : 117 ≤ n)  (h : wpo (f4_next D) (fun a => Q none n rt a)) : MOK l y4_next c4_next 1 (none) { frames := 1, cells := 0, slots := 0, locals := 20 } 0 0 X [vR X 3] n rt D Q := by
  refine MOK_of 4 (by decide +kernel) rfl (lv := [(0, vR X 3)]) (Nat.le_of_ble_eq_true rfl) rfl (fun K hK F hnm => ?_)
  subst hK
  unfold f4_next at h
  refine at_loopj (A := fun (s1 : Mem) => At K X (ZQ K X Q) 0 0 n rt 1 0 [(0, vR X 3)] [] s1) (B := fun (b1 : Mem) => At K X (ZQ K X Q) 0 0 n rt 1 45 [(0, vR X 3)] [] b1) h (fun b1 h => ?_) (fun s1 h => ?_)
  · refine r_aload_nR F 0 rfl rfl d4_next_45 ?_
    refine r_aload_nR F 0 rfl rfl d4_next_46 ?_
    refine r_getI F lf4_31 (vc3 hn) d4_next_47 ?_
    refine r_putI F lf4_28 rfl rfl (vc3 hn) d4_next_50 ?_
    refine r_aload_nR F 0 rfl rfl d4_next_53 ?_
    refine r_aload_nR F 0 rfl rfl d4_next_54 ?_
    refine at_name (B := fun (D1 : Mem) => At K X (ZQ K X Q) 0 0 n rt 1 55 [(0, vR X 3)] [vR X 3, vR X 3] D1) h (fun D1 h => ?_)
    refine r_getI F lf4_31 (vc3 hn) d4_next_55 ?_
    refine r_aload_nR F 0 rfl rfl d4_next_58 ?_
    refine r_getR F (z := 1) lf4_34 (vc3 hn) z3_0 d4_next_59 ?_
    refine r_getI F lf4_111 (vc1 hn) d4_next_62 ?_
    refine at_join (B := fun (j1 : Int) => At K X (ZQ K X Q) 0 0 n rt 1 87 [(0, vR X 3)] [vI j1, vR X 3] D1) h (fun j1 h => ?_) (fun h => ?_)
    · refine r_putI F lf4_25 rfl rfl (vc3 hn) d4_next_87 ?_
      refine r_aload_nR F 0 rfl rfl d4_next_90 ?_
      refine at_name (B := fun (D2 : Mem) => At K X (ZQ K X Q) 0 0 n rt 1 91 [(0, vR X 3)] [vR X 3] D2) h (fun D2 h => ?_)
      refine r_getI F lf4_25 (vc3 hn) d4_next_91 ?_
      refine r_if_ne F (tgt := 98) d4_next_94 (by decide) (fun hb => ?_) (fun hb => ?_)
      · replace h := wpo_neg h hb
        refine r_aload_nR F 0 rfl rfl d4_next_98 ?_
        refine r_dup F rfl d4_next_99 ?_
        refine r_getI F lf4_31 (vc3 hn) d4_next_100 ?_
        refine r_iconst F (z := 1) d4_next_103 ?_
        refine r_iadd F d4_next_104 ?_
        refine r_putI F lf4_31 rfl rfl (vc3 hn) d4_next_105 ?_
        refine r_aload_nR F 0 rfl rfl d4_next_108 ?_
        refine at_name (B := fun (D3 : Mem) => At K X (ZQ K X Q) 0 0 n rt 1 109 [(0, vR X 3)] [vR X 3] D3) h (fun D3 h => ?_)
        refine r_getI F lf4_25 (vc3 hn) d4_next_109 ?_
        refine r_iconst F (z := 1) d4_next_112 ?_
        refine r_icmp_eq F (tgt := 124) d4_next_113 (by decide) (fun hb => ?_) (fun hb => ?_)
        · replace h := wpo_pos h hb
          refine at_loopj (A := fun (s2 : Mem) => At K X (ZQ K X Q) 0 0 n rt 1 124 [(0, vR X 3)] [] s2) (B := fun (b2 : Mem) => At K X (ZQ K X Q) 0 0 n rt 1 173 [] [] b2) h (fun b2 h => ?_) (fun s2 h => ?_)
          · replace h := wpo_some h
            exact r_vret F h d4_next_173
          · refine r_aload_nR F 0 rfl rfl d4_next_124 ?_
            refine r_getI F lf4_31 (vc3 hn) d4_next_125 ?_
            refine r_aload_nR F 0 rfl rfl d4_next_128 ?_
            refine r_getR F (z := 1) lf4_34 (vc3 hn) z3_0 d4_next_129 ?_
            refine r_getI F lf4_111 (vc1 hn) d4_next_132 ?_
            refine r_icmp_ge F (tgt := 173) d4_next_135 (by decide) (fun hb => ?_) (fun hb => ?_)
            · replace h := wpo_neg h hb
              refine r_weak [] rfl ?_
              replace h := wpo_inr h
              exact h
            · replace h := wpo_pos h hb
              refine r_aload_nR F 0 rfl rfl d4_next_138 ?_
              refine r_getR F (z := 1) lf4_34 (vc3 hn) z3_0 d4_next_139 ?_
              refine r_getR F (z := 2) lf4_116 (vc1 hn) z1_0 d4_next_142 ?_
              refine r_aload_nR F 0 rfl rfl d4_next_145 ?_
              refine r_getI F lf4_31 (vc3 hn) d4_next_146 ?_
              obtain ⟨hx3, h⟩ := wpo_chk h
              refine r_bald F (vc2 hn) hx3 d4_next_149 ?_
              replace h := wpo_bind h
              refine r_callS0 F lm4_123 mf4_kindOf rfl (fr := 0) (lo := 0) (As := [vI (s2 2 (s2 3 6).toNat)]) (rest := []) ⟨Nat.le_of_ble_eq_true rfl, Nat.le_of_ble_eq_true rfl⟩ rfl (Nat.le_of_ble_eq_true rfl) ⟨Nat.zero_le _, Nat.zero_le _⟩ d4_next_150 ?_
              refine ok4_kindOf hn  (kI h (fun a3 h => ?_))
              refine r_aload_nR F 0 rfl rfl d4_next_153 ?_
              refine r_getI F lf4_25 (vc3 hn) d4_next_154 ?_
              refine r_icmp_ne F (tgt := 173) d4_next_157 (by decide) (fun hb => ?_) (fun hb => ?_)
              · replace h := wpo_neg h hb
                refine r_weak [] rfl ?_
                replace h := wpo_inr h
                exact h
              · replace h := wpo_pos h hb
                refine r_aload_nR F 0 rfl rfl d4_next_160 ?_
                refine r_dup F rfl d4_next_161 ?_
                refine r_getI F lf4_31 (vc3 hn) d4_next_162 ?_
                refine r_iconst F (z := 1) d4_next_165 ?_
                refine r_iadd F d4_next_166 ?_
                refine r_putI F lf4_31 rfl rfl (vc3 hn) d4_next_167 ?_
                refine r_goto F (tgt := 124) (by decide) d4_next_170 ?_
                replace h := wpo_inl h
                exact h
        · replace h := wpo_neg h hb
          refine r_aload_nR F 0 rfl rfl d4_next_116 ?_
          refine r_getI F lf4_25 (vc3 hn) d4_next_117 ?_
          refine r_iconst F (z := 2) d4_next_120 ?_
          refine r_icmp_ne F (tgt := 173) d4_next_121 (by decide) (fun hb => ?_) (fun hb => ?_)
          · replace h := wpo_neg h hb
            replace h := wpo_some h
            exact r_vret F h d4_next_173
          · replace h := wpo_pos h hb
            refine at_loopj (A := fun (s3 : Mem) => At K X (ZQ K X Q) 0 0 n rt 1 124 [(0, vR X 3)] [] s3) (B := fun (b3 : Mem) => At K X (ZQ K X Q) 0 0 n rt 1 173 [] [] b3) h (fun b3 h => ?_) (fun s3 h => ?_)
            · replace h := wpo_some h
              exact r_vret F h d4_next_173
            · refine r_aload_nR F 0 rfl rfl d4_next_124 ?_
              refine r_getI F lf4_31 (vc3 hn) d4_next_125 ?_
              refine r_aload_nR F 0 rfl rfl d4_next_128 ?_
              refine r_getR F (z := 1) lf4_34 (vc3 hn) z3_0 d4_next_129 ?_
              refine r_getI F lf4_111 (vc1 hn) d4_next_132 ?_
              refine r_icmp_ge F (tgt := 173) d4_next_135 (by decide) (fun hb => ?_) (fun hb => ?_)
              · replace h := wpo_neg h hb
                refine r_weak [] rfl ?_
                replace h := wpo_inr h
                exact h
              · replace h := wpo_pos h hb
                refine r_aload_nR F 0 rfl rfl d4_next_138 ?_
                refine r_getR F (z := 1) lf4_34 (vc3 hn) z3_0 d4_next_139 ?_
                refine r_getR F (z := 2) lf4_116 (vc1 hn) z1_0 d4_next_142 ?_
                refine r_aload_nR F 0 rfl rfl d4_next_145 ?_
                refine r_getI F lf4_31 (vc3 hn) d4_next_146 ?_
                obtain ⟨hx4, h⟩ := wpo_chk h
                refine r_bald F (vc2 hn) hx4 d4_next_149 ?_
                replace h := wpo_bind h
                refine r_callS0 F lm4_123 mf4_kindOf rfl (fr := 0) (lo := 0) (As := [vI (s3 2 (s3 3 6).toNat)]) (rest := []) ⟨Nat.le_of_ble_eq_true rfl, Nat.le_of_ble_eq_true rfl⟩ rfl (Nat.le_of_ble_eq_true rfl) ⟨Nat.zero_le _, Nat.zero_le _⟩ d4_next_150 ?_
                refine ok4_kindOf hn  (kI h (fun a4 h => ?_))
                refine r_aload_nR F 0 rfl rfl d4_next_153 ?_
                refine r_getI F lf4_25 (vc3 hn) d4_next_154 ?_
                refine r_icmp_ne F (tgt := 173) d4_next_157 (by decide) (fun hb => ?_) (fun hb => ?_)
                · replace h := wpo_neg h hb
                  refine r_weak [] rfl ?_
                  replace h := wpo_inr h
                  exact h
                · replace h := wpo_pos h hb
                  refine r_aload_nR F 0 rfl rfl d4_next_160 ?_
                  refine r_dup F rfl d4_next_161 ?_
                  refine r_getI F lf4_31 (vc3 hn) d4_next_162 ?_
                  refine r_iconst F (z := 1) d4_next_165 ?_
                  refine r_iadd F d4_next_166 ?_
                  refine r_putI F lf4_31 rfl rfl (vc3 hn) d4_next_167 ?_
                  refine r_goto F (tgt := 124) (by decide) d4_next_170 ?_
                  replace h := wpo_inl h
                  exact h
      · replace h := wpo_pos h hb
        replace h := wpo_some h
        exact r_vret F h d4_next_97
    · refine r_icmp_ge F (tgt := 86) d4_next_65 (by decide) (fun hb => ?_) (fun hb => ?_)
      · replace h := wpo_neg h hb
        refine r_iconst F (z := 0) d4_next_86 ?_
        replace h := wpo_some h
        exact h
      · replace h := wpo_pos h hb
        refine r_aload_nR F 0 rfl rfl d4_next_68 ?_
        refine r_getR F (z := 1) lf4_34 (vc3 hn) z3_0 d4_next_69 ?_
        refine r_getR F (z := 2) lf4_116 (vc1 hn) z1_0 d4_next_72 ?_
        refine r_aload_nR F 0 rfl rfl d4_next_75 ?_
        refine r_getI F lf4_31 (vc3 hn) d4_next_76 ?_
        obtain ⟨hx2, h⟩ := wpo_chk h
        refine r_bald F (vc2 hn) hx2 d4_next_79 ?_
        replace h := wpo_bind h
        refine r_callS0 F lm4_123 mf4_kindOf rfl (fr := 0) (lo := 0) (As := [vI (D1 2 (D1 3 6).toNat)]) (rest := [vR X 3]) ⟨Nat.le_of_ble_eq_true rfl, Nat.le_of_ble_eq_true rfl⟩ rfl (Nat.le_of_ble_eq_true rfl) ⟨Nat.zero_le _, Nat.zero_le _⟩ d4_next_80 ?_
        refine ok4_kindOf hn  (kI h (fun a2 h => ?_))
        refine r_goto F (tgt := 87) (by decide) d4_next_83 ?_
        replace h := wpo_some h
        exact h
  · refine r_aload_nR F 0 rfl rfl d4_next_0 ?_
    refine r_getI F lf4_31 (vc3 hn) d4_next_1 ?_
    refine r_aload_nR F 0 rfl rfl d4_next_4 ?_
    refine r_getR F (z := 1) lf4_34 (vc3 hn) z3_0 d4_next_5 ?_
    refine r_getI F lf4_111 (vc1 hn) d4_next_8 ?_
    refine r_icmp_ge F (tgt := 45) d4_next_11 (by decide) (fun hb => ?_) (fun hb => ?_)
    · replace h := wpo_neg h hb
      replace h := wpo_inr h
      exact h
    · replace h := wpo_pos h hb
      refine r_aload_nR F 0 rfl rfl d4_next_14 ?_
      refine r_getR F (z := 1) lf4_34 (vc3 hn) z3_0 d4_next_15 ?_
      refine r_getR F (z := 2) lf4_116 (vc1 hn) z1_0 d4_next_18 ?_
      refine r_aload_nR F 0 rfl rfl d4_next_21 ?_
      refine r_getI F lf4_31 (vc3 hn) d4_next_22 ?_
      obtain ⟨hx1, h⟩ := wpo_chk h
      refine r_bald F (vc2 hn) hx1 d4_next_25 ?_
      replace h := wpo_bind h
      refine r_callS0 F lm4_120 mf4_isBlank rfl (fr := 0) (lo := 0) (As := [vI (s1 2 (s1 3 6).toNat)]) (rest := []) ⟨Nat.le_of_ble_eq_true rfl, Nat.le_of_ble_eq_true rfl⟩ rfl (Nat.le_of_ble_eq_true rfl) ⟨Nat.zero_le _, Nat.zero_le _⟩ d4_next_26 ?_
      refine ok4_isBlank hn  (kI h (fun a1 h => ?_))
      refine r_if_eq F (tgt := 45) d4_next_29 (by decide) (fun hb => ?_) (fun hb => ?_)
      · replace h := wpo_pos h hb
        replace h := wpo_inr h
        exact h
      · replace h := wpo_neg h hb
        refine r_aload_nR F 0 rfl rfl d4_next_32 ?_
        refine r_dup F rfl d4_next_33 ?_
        refine r_getI F lf4_31 (vc3 hn) d4_next_34 ?_
        refine r_iconst F (z := 1) d4_next_37 ?_
        refine r_iadd F d4_next_38 ?_
        refine r_putI F lf4_31 rfl rfl (vc3 hn) d4_next_39 ?_
        refine r_goto F (tgt := 0) (by decide) d4_next_42 ?_
        replace h := wpo_inl h
        exact h
theorem d4_failed_0 : decode c4_failed 0 = .ok (.aload_n 0, 1) := by decide +kernel
theorem d4_failed_1 : decode c4_failed 1 = .ok (.iload_n 1, 1) := by decide +kernel
theorem d4_failed_2 : decode c4_failed 2 = .ok (.putfield 18, 3) := by decide +kernel
theorem d4_failed_5 : decode c4_failed 5 = .ok (.aload_n 0, 1) := by decide +kernel
theorem d4_failed_6 : decode c4_failed 6 = .ok (.aload_n 0, 1) := by decide +kernel
theorem d4_failed_7 : decode c4_failed 7 = .ok (.getfield 28, 3) := by decide +kernel
theorem d4_failed_10 : decode c4_failed 10 = .ok (.putfield 22, 3) := by decide +kernel
theorem d4_failed_13 : decode c4_failed 13 = .ok (.iconst 0, 1) := by decide +kernel
theorem d4_failed_14 : decode c4_failed 14 = .ok (.ireturn, 1) := by decide +kernel
def f4_failed (D : Mem) (p0 : Int) : Option (Int × Mem) :=
  Option.bind (some (mset D 3 2 p0)) fun (D1 : Mem) =>
  some (0, (mset D1 3 3 (D1 3 5)))
set_option maxHeartbeats 4000000 in
theorem ok4_failed {l : Launch} {X : XT} {n : Nat} {D : Mem} {Q : Option Value → Nat → Rho → Mem → Prop} (hn : 117 ≤ n) {p0 : Int}  (h : wpo (f4_failed D p0) (fun a => Q (some (vI a.1)) n rt a.2)) : MOK l y4_failed c4_failed 2 (some .boolean) { frames := 0, cells := 0, slots := 0, locals := 0 } 0 0 X [vR X 3, vI p0] n rt D Q := by
  refine MOK_of 4 (by decide +kernel) rfl (lv := [(0, vR X 3), (1, vI p0)]) (Nat.le_of_ble_eq_true rfl) rfl (fun K hK F hnm => ?_)
  subst hK
  unfold f4_failed at h
  refine r_aload_nR F 0 rfl rfl d4_failed_0 ?_
  refine r_iload_n F 1 rfl rfl d4_failed_1 ?_
  refine r_putI F lf4_18 rfl rfl (vc3 hn) d4_failed_2 ?_
  refine r_aload_nR F 0 rfl rfl d4_failed_5 ?_
  refine r_aload_nR F 0 rfl rfl d4_failed_6 ?_
  refine at_name (B := fun (D1 : Mem) => At K X (ZQ K X Q) 0 0 n rt 2 7 [(0, vR X 3), (1, vI p0)] [vR X 3, vR X 3] D1) h (fun D1 h => ?_)
  refine r_getI F lf4_28 (vc3 hn) d4_failed_7 ?_
  refine r_putI F lf4_22 rfl rfl (vc3 hn) d4_failed_10 ?_
  refine r_iconst F (z := 0) d4_failed_13 ?_
  replace h := wpo_some h
  exact r_zret F (Or.inl rfl) h d4_failed_14
theorem d4_isWord_0 : decode c4_isWord 0 = .ok (.aload_n 0, 1) := by decide +kernel
theorem d4_isWord_1 : decode c4_isWord 1 = .ok (.getfield 25, 3) := by decide +kernel
theorem d4_isWord_4 : decode c4_isWord 4 = .ok (.iconst 1, 1) := by decide +kernel
theorem d4_isWord_5 : decode c4_isWord 5 = .ok (.if_icmp .ne 19, 3) := by decide +kernel
theorem d4_isWord_8 : decode c4_isWord 8 = .ok (.aload_n 0, 1) := by decide +kernel
theorem d4_isWord_9 : decode c4_isWord 9 = .ok (.getfield 31, 3) := by decide +kernel
theorem d4_isWord_12 : decode c4_isWord 12 = .ok (.aload_n 0, 1) := by decide +kernel
theorem d4_isWord_13 : decode c4_isWord 13 = .ok (.getfield 28, 3) := by decide +kernel
theorem d4_isWord_16 : decode c4_isWord 16 = .ok (.isub, 1) := by decide +kernel
theorem d4_isWord_17 : decode c4_isWord 17 = .ok (.aload_n 1, 1) := by decide +kernel
theorem d4_isWord_18 : decode c4_isWord 18 = .ok (.invokevirtual 127, 3) := by decide +kernel
theorem d4_isWord_21 : decode c4_isWord 21 = .ok (.if_icmp .eq 9, 3) := by decide +kernel
theorem d4_isWord_24 : decode c4_isWord 24 = .ok (.aload_n 0, 1) := by decide +kernel
theorem d4_isWord_25 : decode c4_isWord 25 = .ok (.iconst 1, 1) := by decide +kernel
theorem d4_isWord_26 : decode c4_isWord 26 = .ok (.invokevirtual 66, 3) := by decide +kernel
theorem d4_isWord_29 : decode c4_isWord 29 = .ok (.ireturn, 1) := by decide +kernel
theorem d4_isWord_30 : decode c4_isWord 30 = .ok (.iconst 0, 1) := by decide +kernel
theorem d4_isWord_31 : decode c4_isWord 31 = .ok (.istore_n 2, 1) := by decide +kernel
theorem d4_isWord_32 : decode c4_isWord 32 = .ok (.iload_n 2, 1) := by decide +kernel
theorem d4_isWord_33 : decode c4_isWord 33 = .ok (.aload_n 1, 1) := by decide +kernel
theorem d4_isWord_34 : decode c4_isWord 34 = .ok (.invokevirtual 127, 3) := by decide +kernel
theorem d4_isWord_37 : decode c4_isWord 37 = .ok (.if_icmp .ge 37, 3) := by decide +kernel
theorem d4_isWord_40 : decode c4_isWord 40 = .ok (.aload_n 0, 1) := by decide +kernel
theorem d4_isWord_41 : decode c4_isWord 41 = .ok (.getfield 34, 3) := by decide +kernel
theorem d4_isWord_44 : decode c4_isWord 44 = .ok (.getfield 116, 3) := by decide +kernel
theorem d4_isWord_47 : decode c4_isWord 47 = .ok (.aload_n 0, 1) := by decide +kernel
theorem d4_isWord_48 : decode c4_isWord 48 = .ok (.getfield 28, 3) := by decide +kernel
theorem d4_isWord_51 : decode c4_isWord 51 = .ok (.iload_n 2, 1) := by decide +kernel
theorem d4_isWord_52 : decode c4_isWord 52 = .ok (.iadd, 1) := by decide +kernel
theorem d4_isWord_53 : decode c4_isWord 53 = .ok (.baload, 1) := by decide +kernel
theorem d4_isWord_54 : decode c4_isWord 54 = .ok (.aload_n 1, 1) := by decide +kernel
theorem d4_isWord_55 : decode c4_isWord 55 = .ok (.iload_n 2, 1) := by decide +kernel
theorem d4_isWord_56 : decode c4_isWord 56 = .ok (.invokevirtual 131, 3) := by decide +kernel
theorem d4_isWord_59 : decode c4_isWord 59 = .ok (.if_icmp .eq 9, 3) := by decide +kernel
theorem d4_isWord_62 : decode c4_isWord 62 = .ok (.aload_n 0, 1) := by decide +kernel
theorem d4_isWord_63 : decode c4_isWord 63 = .ok (.iconst 1, 1) := by decide +kernel
theorem d4_isWord_64 : decode c4_isWord 64 = .ok (.invokevirtual 66, 3) := by decide +kernel
theorem d4_isWord_67 : decode c4_isWord 67 = .ok (.ireturn, 1) := by decide +kernel
theorem d4_isWord_68 : decode c4_isWord 68 = .ok (.iinc 2 1, 3) := by decide +kernel
theorem d4_isWord_71 : decode c4_isWord 71 = .ok (.goto (-39), 3) := by decide +kernel
theorem d4_isWord_74 : decode c4_isWord 74 = .ok (.iconst 1, 1) := by decide +kernel
theorem d4_isWord_75 : decode c4_isWord 75 = .ok (.ireturn, 1) := by decide +kernel
def f4_isWord (D : Mem) (p0 : Nat) : Option (Int × Mem) :=
  if w32 (D 3 4) = w32 1 then
    if w32 ((D 3 6) - (D 3 5)) = w32 ((lenS.getD p0 0 : Nat) : Int) then
      Option.bind (@loop (Int × Mem) ((Mem) ⊕ (Int × Mem)) (fun s1 =>
        if w32 s1.1 < w32 ((lenS.getD p0 0 : Nat) : Int) then
          if 0 ≤ ((s1.2 3 5) + s1.1) ∧ ((s1.2 3 5) + s1.1) < 700 then
            if 0 ≤ s1.1 ∧ s1.1 < ((lenS.getD p0 0 : Nat) : Int) then
              if w32 (s1.2 2 ((s1.2 3 5) + s1.1).toNat) = w32 (chS p0 s1.1.toNat) then
                some (Sum.inl ((s1.1 + 1), s1.2))
              else
                Option.bind (f4_failed s1.2 1) fun (a2 : Int × Mem) =>
                if a2.1 = 0 ∨ a2.1 = 1 then
                  some (Sum.inr (Sum.inr (a2.1, a2.2)))
                else none
            else none
          else none
        else
          some (Sum.inr (Sum.inl s1.2))
      ) FU (0, D)) (fun z => Sum.elim (fun (b1 : Mem) =>
        some (1, b1)
      ) (fun rv => some rv) z)
    else
      Option.bind (f4_failed D 1) fun (a3 : Int × Mem) =>
      if a3.1 = 0 ∨ a3.1 = 1 then
        some (a3.1, a3.2)
      else none
  else
    Option.bind (f4_failed D 1) fun (a1 : Int × Mem) =>
    if a1.1 = 0 ∨ a1.1 = 1 then
      some (a1.1, a1.2)
    else none
set_option maxHeartbeats 4000000 in
theorem ok4_isWord {l : Launch} {X : XT} {n : Nat} {D : Mem} {Q : Option Value → Nat → Rho → Mem → Prop} (hn : 117 ≤ n) {p0 : Nat} (hs0 : p0 < 13) (h : wpo (f4_isWord D p0) (fun a => Q (some (vI a.1)) n rt a.2)) : MOK l y4_isWord c4_isWord 3 (some .boolean) { frames := 4, cells := 0, slots := 0, locals := 85 } 0 0 X [vR X 3, vS X p0] n rt D Q := by
  refine MOK_of 4 (by decide +kernel) rfl (lv := [(0, vR X 3), (1, vS X p0)]) (Nat.le_of_ble_eq_true rfl) rfl (fun K hK F hnm => ?_)
  subst hK
  unfold f4_isWord at h
  refine r_aload_nR F 0 rfl rfl d4_isWord_0 ?_
  refine r_getI F lf4_25 (vc3 hn) d4_isWord_1 ?_
  refine r_iconst F (z := 1) d4_isWord_4 ?_
  refine r_icmp_ne F (tgt := 24) d4_isWord_5 (by decide) (fun hb => ?_) (fun hb => ?_)
  · replace h := wpo_neg h hb
    refine r_aload_nR F 0 rfl rfl d4_isWord_24 ?_
    refine r_iconst F (z := 1) d4_isWord_25 ?_
    replace h := wpo_bind h
    refine r_callV0 F lm4_66 mf4_failed (vc3 hn) rfl (fr := 0) (lo := 0) (As := [vI 1]) (rest := []) ⟨Nat.le_of_ble_eq_true rfl, Nat.le_of_ble_eq_true rfl⟩ rfl (Nat.le_of_ble_eq_true rfl) ⟨Nat.zero_le _, Nat.zero_le _⟩ d4_isWord_26 ?_
    refine ok4_failed hn  (kIm h (fun a1 h => ?_))
    obtain ⟨hx1, h⟩ := wpo_chk h
    replace h := wpo_some h
    exact r_zret F hx1 h d4_isWord_29
  · replace h := wpo_pos h hb
    refine r_aload_nR F 0 rfl rfl d4_isWord_8 ?_
    refine r_getI F lf4_31 (vc3 hn) d4_isWord_9 ?_
    refine r_aload_nR F 0 rfl rfl d4_isWord_12 ?_
    refine r_getI F lf4_28 (vc3 hn) d4_isWord_13 ?_
    refine r_isub F d4_isWord_16 ?_
    refine r_aload_nS F 1 rfl rfl d4_isWord_17 ?_
    refine r_strlen F lk4_127 ⟨Nat.le_of_ble_eq_true rfl, Nat.le_of_ble_eq_true rfl⟩ (Nat.le_of_ble_eq_true rfl) ⟨Nat.zero_le _, Nat.zero_le _⟩ hs0 d4_isWord_18 ?_
    refine r_icmp_eq F (tgt := 30) d4_isWord_21 (by decide) (fun hb => ?_) (fun hb => ?_)
    · replace h := wpo_pos h hb
      refine r_iconst F (z := 0) d4_isWord_30 ?_
      refine r_istore_n F (lv' := [(2, vI 0), (0, vR X 3), (1, vS X p0)]) rfl (Nat.le_of_ble_eq_true rfl) rfl d4_isWord_31 ?_
      refine r_weak [1, 2, 0] rfl ?_
      refine at_loopj (A := fun (s1 : Int × Mem) => At K X (ZQ K X Q) 0 0 n rt 3 32 [(0, vR X 3), (1, vS X p0), (2, vI s1.1)] [] s1.2) (B := Sum.elim (fun (b1 : Mem) => At K X (ZQ K X Q) 0 0 n rt 3 74 [] [] b1) (fun rv => Q (some (vI rv.1)) n rt rv.2)) h (fun z h => ?_) (fun s1 h => ?_)
      · rcases z with b1 | rv
        · replace h := elim_l h
          refine el_li ?_
          refine r_iconst F (z := 1) d4_isWord_74 ?_
          replace h := wpo_some h
          exact r_zret F (Or.inr rfl) h d4_isWord_75
        · replace h := elim_r h
          replace h := wpo_some h
          exact el_ri h
      · refine r_iload_n F 2 rfl rfl d4_isWord_32 ?_
        refine r_aload_nS F 1 rfl rfl d4_isWord_33 ?_
        refine r_strlen F lk4_127 ⟨Nat.le_of_ble_eq_true rfl, Nat.le_of_ble_eq_true rfl⟩ (Nat.le_of_ble_eq_true rfl) ⟨Nat.zero_le _, Nat.zero_le _⟩ hs0 d4_isWord_34 ?_
        refine r_icmp_ge F (tgt := 74) d4_isWord_37 (by decide) (fun hb => ?_) (fun hb => ?_)
        · replace h := wpo_neg h hb
          refine r_weak [] rfl ?_
          replace h := wpo_inr h
          replace h := el_l h
          exact h
        · replace h := wpo_pos h hb
          refine r_aload_nR F 0 rfl rfl d4_isWord_40 ?_
          refine r_getR F (z := 1) lf4_34 (vc3 hn) z3_0 d4_isWord_41 ?_
          refine r_getR F (z := 2) lf4_116 (vc1 hn) z1_0 d4_isWord_44 ?_
          refine r_aload_nR F 0 rfl rfl d4_isWord_47 ?_
          refine r_getI F lf4_28 (vc3 hn) d4_isWord_48 ?_
          refine r_iload_n F 2 rfl rfl d4_isWord_51 ?_
          refine r_iadd F d4_isWord_52 ?_
          obtain ⟨hx2, h⟩ := wpo_chk h
          refine r_bald F (vc2 hn) hx2 d4_isWord_53 ?_
          refine r_aload_nS F 1 rfl rfl d4_isWord_54 ?_
          refine r_iload_n F 2 rfl rfl d4_isWord_55 ?_
          obtain ⟨hx3, h⟩ := wpo_chk h
          refine r_strchr F lk4_131 ⟨Nat.le_of_ble_eq_true rfl, Nat.le_of_ble_eq_true rfl⟩ (Nat.le_of_ble_eq_true rfl) ⟨Nat.zero_le _, Nat.zero_le _⟩ hs0 hx3 d4_isWord_56 ?_
          refine r_icmp_eq F (tgt := 68) d4_isWord_59 (by decide) (fun hb => ?_) (fun hb => ?_)
          · replace h := wpo_pos h hb
            refine r_iinc F 2 (lv' := [(2, vI (s1.1 + 1)), (0, vR X 3), (1, vS X p0)]) rfl (Nat.le_of_ble_eq_true rfl) rfl d4_isWord_68 ?_
            refine r_goto F (tgt := 32) (by decide) d4_isWord_71 ?_
            refine r_weak [1, 2, 0] rfl ?_
            replace h := wpo_inl h
            exact h
          · replace h := wpo_neg h hb
            refine r_aload_nR F 0 rfl rfl d4_isWord_62 ?_
            refine r_iconst F (z := 1) d4_isWord_63 ?_
            replace h := wpo_bind h
            refine r_callV0 F lm4_66 mf4_failed (vc3 hn) rfl (fr := 0) (lo := 0) (As := [vI 1]) (rest := []) ⟨Nat.le_of_ble_eq_true rfl, Nat.le_of_ble_eq_true rfl⟩ rfl (Nat.le_of_ble_eq_true rfl) ⟨Nat.zero_le _, Nat.zero_le _⟩ d4_isWord_64 ?_
            refine ok4_failed hn  (kIm h (fun a2 h => ?_))
            obtain ⟨hx4, h⟩ := wpo_chk h
            replace h := el_r (wpo_inr h)
            exact r_zret F hx4 h d4_isWord_67
    · replace h := wpo_neg h hb
      refine r_aload_nR F 0 rfl rfl d4_isWord_24 ?_
      refine r_iconst F (z := 1) d4_isWord_25 ?_
      replace h := wpo_bind h
      refine r_callV0 F lm4_66 mf4_failed (vc3 hn) rfl (fr := 0) (lo := 0) (As := [vI 1]) (rest := []) ⟨Nat.le_of_ble_eq_true rfl, Nat.le_of_ble_eq_true rfl⟩ rfl (Nat.le_of_ble_eq_true rfl) ⟨Nat.zero_le _, Nat.zero_le _⟩ d4_isWord_26 ?_
      refine ok4_failed hn  (kIm h (fun a3 h => ?_))
      obtain ⟨hx5, h⟩ := wpo_chk h
      replace h := wpo_some h
      exact r_zret F hx5 h d4_isWord_29
theorem d4_wordOf_0 : decode c4_wordOf 0 = .ok (.iload_n 0, 1) := by decide +kernel
theorem d4_wordOf_1 : decode c4_wordOf 1 = .ok (.tableswitch 85 0 9 #[55, 58, 61, 64, 67, 70, 73, 76, 79, 82], 55) := by decide +kernel
theorem d4_wordOf_56 : decode c4_wordOf 56 = .ok (.ldc 89, 2) := by decide +kernel
theorem d4_wordOf_58 : decode c4_wordOf 58 = .ok (.areturn, 1) := by decide +kernel
theorem d4_wordOf_59 : decode c4_wordOf 59 = .ok (.ldc 91, 2) := by decide +kernel
theorem d4_wordOf_61 : decode c4_wordOf 61 = .ok (.areturn, 1) := by decide +kernel
theorem d4_wordOf_62 : decode c4_wordOf 62 = .ok (.ldc 93, 2) := by decide +kernel
theorem d4_wordOf_64 : decode c4_wordOf 64 = .ok (.areturn, 1) := by decide +kernel
theorem d4_wordOf_65 : decode c4_wordOf 65 = .ok (.ldc 95, 2) := by decide +kernel
theorem d4_wordOf_67 : decode c4_wordOf 67 = .ok (.areturn, 1) := by decide +kernel
theorem d4_wordOf_68 : decode c4_wordOf 68 = .ok (.ldc 97, 2) := by decide +kernel
theorem d4_wordOf_70 : decode c4_wordOf 70 = .ok (.areturn, 1) := by decide +kernel
theorem d4_wordOf_71 : decode c4_wordOf 71 = .ok (.ldc 99, 2) := by decide +kernel
theorem d4_wordOf_73 : decode c4_wordOf 73 = .ok (.areturn, 1) := by decide +kernel
theorem d4_wordOf_74 : decode c4_wordOf 74 = .ok (.ldc 101, 2) := by decide +kernel
theorem d4_wordOf_76 : decode c4_wordOf 76 = .ok (.areturn, 1) := by decide +kernel
theorem d4_wordOf_77 : decode c4_wordOf 77 = .ok (.ldc 103, 2) := by decide +kernel
theorem d4_wordOf_79 : decode c4_wordOf 79 = .ok (.areturn, 1) := by decide +kernel
theorem d4_wordOf_80 : decode c4_wordOf 80 = .ok (.ldc 105, 2) := by decide +kernel
theorem d4_wordOf_82 : decode c4_wordOf 82 = .ok (.areturn, 1) := by decide +kernel
theorem d4_wordOf_83 : decode c4_wordOf 83 = .ok (.ldc 107, 2) := by decide +kernel
theorem d4_wordOf_85 : decode c4_wordOf 85 = .ok (.areturn, 1) := by decide +kernel
theorem d4_wordOf_86 : decode c4_wordOf 86 = .ok (.ldc 109, 2) := by decide +kernel
theorem d4_wordOf_88 : decode c4_wordOf 88 = .ok (.areturn, 1) := by decide +kernel
def f4_wordOf (D : Mem) (p0 : Int) : Option (Nat) :=
  if w32 p0 = 0 then
    some 1
  else
    if w32 p0 = 1 then
      some 2
    else
      if w32 p0 = 2 then
        some 3
      else
        if w32 p0 = 3 then
          some 4
        else
          if w32 p0 = 4 then
            some 5
          else
            if w32 p0 = 5 then
              some 6
            else
              if w32 p0 = 6 then
                some 7
              else
                if w32 p0 = 7 then
                  some 9
                else
                  if w32 p0 = 8 then
                    some 10
                  else
                    if w32 p0 = 9 then
                      some 11
                    else
                      some 12
set_option maxHeartbeats 4000000 in
theorem ok4_wordOf {l : Launch} {X : XT} {n : Nat} {D : Mem} {Q : Option Value → Nat → Rho → Mem → Prop} (hn : 117 ≤ n) {p0 : Int}  (h : wpo (f4_wordOf D p0) (fun a => Q (some (vS X a)) n rt D)) : MOK l y4_wordOf c4_wordOf 1 (some (.object "java/lang/String")) { frames := 0, cells := 0, slots := 0, locals := 0 } 0 0 X [vI p0] n rt D Q := by
  refine MOK_of 4 (by decide +kernel) rfl (lv := [(0, vI p0)]) (Nat.le_of_ble_eq_true rfl) rfl (fun K hK F hnm => ?_)
  subst hK
  unfold f4_wordOf at h
  refine r_iload_n F 0 rfl rfl d4_wordOf_0 ?_
  by_cases hb0 : w32 p0 = 0
  · replace h := wpo_pos h hb0
    refine r_tabIn F 0 hb0 d4_wordOf_1 (by decide) (by decide) rfl (tgt := 56) (by decide) ?_
    refine r_ldcS F (j := 1) (tx := "nights") lc4_89 d4_wordOf_56 ?_
    replace h := wpo_some h
    exact r_sret F h d4_wordOf_58
  · replace h := wpo_neg h hb0
    by_cases hb1 : w32 p0 = 1
    · replace h := wpo_pos h hb1
      refine r_tabIn F 1 hb1 d4_wordOf_1 (by decide) (by decide) rfl (tgt := 59) (by decide) ?_
      refine r_ldcS F (j := 2) (tx := "room") lc4_91 d4_wordOf_59 ?_
      replace h := wpo_some h
      exact r_sret F h d4_wordOf_61
    · replace h := wpo_neg h hb1
      by_cases hb2 : w32 p0 = 2
      · replace h := wpo_pos h hb2
        refine r_tabIn F 2 hb2 d4_wordOf_1 (by decide) (by decide) rfl (tgt := 62) (by decide) ?_
        refine r_ldcS F (j := 3) (tx := "tooth") lc4_93 d4_wordOf_62 ?_
        replace h := wpo_some h
        exact r_sret F h d4_wordOf_64
      · replace h := wpo_neg h hb2
        by_cases hb3 : w32 p0 = 3
        · replace h := wpo_pos h hb3
          refine r_tabIn F 3 hb3 d4_wordOf_1 (by decide) (by decide) rfl (tgt := 65) (by decide) ?_
          refine r_ldcS F (j := 4) (tx := "teeth") lc4_95 d4_wordOf_65 ?_
          replace h := wpo_some h
          exact r_sret F h d4_wordOf_67
        · replace h := wpo_neg h hb3
          by_cases hb4 : w32 p0 = 4
          · replace h := wpo_pos h hb4
            refine r_tabIn F 4 hb4 d4_wordOf_1 (by decide) (by decide) rfl (tgt := 68) (by decide) ?_
            refine r_ldcS F (j := 5) (tx := "rule") lc4_97 d4_wordOf_68 ?_
            replace h := wpo_some h
            exact r_sret F h d4_wordOf_70
          · replace h := wpo_neg h hb4
            by_cases hb5 : w32 p0 = 5
            · replace h := wpo_pos h hb5
              refine r_tabIn F 5 hb5 d4_wordOf_1 (by decide) (by decide) rfl (tgt := 71) (by decide) ?_
              refine r_ldcS F (j := 6) (tx := "pays") lc4_99 d4_wordOf_71 ?_
              replace h := wpo_some h
              exact r_sret F h d4_wordOf_73
            · replace h := wpo_neg h hb5
              by_cases hb6 : w32 p0 = 6
              · replace h := wpo_pos h hb6
                refine r_tabIn F 6 hb6 d4_wordOf_1 (by decide) (by decide) rfl (tgt := 74) (by decide) ?_
                refine r_ldcS F (j := 7) (tx := "odds") lc4_101 d4_wordOf_74 ?_
                replace h := wpo_some h
                exact r_sret F h d4_wordOf_76
              · replace h := wpo_neg h hb6
                by_cases hb7 : w32 p0 = 7
                · replace h := wpo_pos h hb7
                  refine r_tabIn F 7 hb7 d4_wordOf_1 (by decide) (by decide) rfl (tgt := 77) (by decide) ?_
                  refine r_ldcS F (j := 9) (tx := "ache") lc4_103 d4_wordOf_77 ?_
                  replace h := wpo_some h
                  exact r_sret F h d4_wordOf_79
                · replace h := wpo_neg h hb7
                  by_cases hb8 : w32 p0 = 8
                  · replace h := wpo_pos h hb8
                    refine r_tabIn F 8 hb8 d4_wordOf_1 (by decide) (by decide) rfl (tgt := 80) (by decide) ?_
                    refine r_ldcS F (j := 10) (tx := "from") lc4_105 d4_wordOf_80 ?_
                    replace h := wpo_some h
                    exact r_sret F h d4_wordOf_82
                  · replace h := wpo_neg h hb8
                    by_cases hb9 : w32 p0 = 9
                    · replace h := wpo_pos h hb9
                      refine r_tabIn F 9 hb9 d4_wordOf_1 (by decide) (by decide) rfl (tgt := 83) (by decide) ?_
                      refine r_ldcS F (j := 11) (tx := "dear") lc4_107 d4_wordOf_83 ?_
                      replace h := wpo_some h
                      exact r_sret F h d4_wordOf_85
                    · replace h := wpo_neg h hb9
                      refine r_tabOut F d4_wordOf_1 ?_ (tgt := 86) (by decide) ?_
                      · omega
                      · refine r_ldcS F (j := 12) (tx := "bears") lc4_109 d4_wordOf_86 ?_
                        replace h := wpo_some h
                        exact r_sret F h d4_wordOf_88
theorem d4_numberRead_0 : decode c4_numberRead 0 = .ok (.iconst 0, 1) := by decide +kernel
theorem d4_numberRead_1 : decode c4_numberRead 1 = .ok (.istore_n 1, 1) := by decide +kernel
theorem d4_numberRead_2 : decode c4_numberRead 2 = .ok (.aload_n 0, 1) := by decide +kernel
theorem d4_numberRead_3 : decode c4_numberRead 3 = .ok (.getfield 28, 3) := by decide +kernel
theorem d4_numberRead_6 : decode c4_numberRead 6 = .ok (.istore_n 2, 1) := by decide +kernel
theorem d4_numberRead_7 : decode c4_numberRead 7 = .ok (.iload_n 2, 1) := by decide +kernel
theorem d4_numberRead_8 : decode c4_numberRead 8 = .ok (.aload_n 0, 1) := by decide +kernel
theorem d4_numberRead_9 : decode c4_numberRead 9 = .ok (.getfield 31, 3) := by decide +kernel
theorem d4_numberRead_12 : decode c4_numberRead 12 = .ok (.if_icmp .ge 33, 3) := by decide +kernel
theorem d4_numberRead_15 : decode c4_numberRead 15 = .ok (.sipush 1000, 3) := by decide +kernel
theorem d4_numberRead_18 : decode c4_numberRead 18 = .ok (.iload_n 1, 1) := by decide +kernel
theorem d4_numberRead_19 : decode c4_numberRead 19 = .ok (.bipush 10, 2) := by decide +kernel
theorem d4_numberRead_21 : decode c4_numberRead 21 = .ok (.imul, 1) := by decide +kernel
theorem d4_numberRead_22 : decode c4_numberRead 22 = .ok (.aload_n 0, 1) := by decide +kernel
theorem d4_numberRead_23 : decode c4_numberRead 23 = .ok (.getfield 34, 3) := by decide +kernel
theorem d4_numberRead_26 : decode c4_numberRead 26 = .ok (.getfield 116, 3) := by decide +kernel
theorem d4_numberRead_29 : decode c4_numberRead 29 = .ok (.iload_n 2, 1) := by decide +kernel
theorem d4_numberRead_30 : decode c4_numberRead 30 = .ok (.baload, 1) := by decide +kernel
theorem d4_numberRead_31 : decode c4_numberRead 31 = .ok (.iadd, 1) := by decide +kernel
theorem d4_numberRead_32 : decode c4_numberRead 32 = .ok (.bipush 48, 2) := by decide +kernel
theorem d4_numberRead_34 : decode c4_numberRead 34 = .ok (.isub, 1) := by decide +kernel
theorem d4_numberRead_35 : decode c4_numberRead 35 = .ok (.invokestatic 135, 3) := by decide +kernel
theorem d4_numberRead_38 : decode c4_numberRead 38 = .ok (.istore_n 1, 1) := by decide +kernel
theorem d4_numberRead_39 : decode c4_numberRead 39 = .ok (.iinc 2 1, 3) := by decide +kernel
theorem d4_numberRead_42 : decode c4_numberRead 42 = .ok (.goto (-35), 3) := by decide +kernel
theorem d4_numberRead_45 : decode c4_numberRead 45 = .ok (.iload_n 1, 1) := by decide +kernel
theorem d4_numberRead_46 : decode c4_numberRead 46 = .ok (.ireturn, 1) := by decide +kernel
def f4_numberRead (D : Mem) : Option (Int) :=
  Option.bind (@loop (Int × Int) (Int) (fun s1 =>
    if w32 s1.2 < w32 (D 3 6) then
      if 0 ≤ s1.2 ∧ s1.2 < 700 then
        Option.bind (some (min32 1000 (((s1.1 * 10) + (D 2 s1.2.toNat)) - 48))) fun (v1 : Int) =>
        some (Sum.inl (v1, (s1.2 + 1)))
      else none
    else
      some (Sum.inr s1.1)
  ) FU (0, (D 3 5))) fun (b1 : Int) =>
  some b1
set_option maxHeartbeats 4000000 in
theorem ok4_numberRead {l : Launch} {X : XT} {n : Nat} {D : Mem} {Q : Option Value → Nat → Rho → Mem → Prop} (hn : 117 ≤ n)  (h : wpo (f4_numberRead D) (fun a => Q (some (vI a)) n rt D)) : MOK l y4_numberRead c4_numberRead 3 (some .int) { frames := 1, cells := 0, slots := 0, locals := 23 } 0 0 X [vR X 3] n rt D Q := by
  refine MOK_of 4 (by decide +kernel) rfl (lv := [(0, vR X 3)]) (Nat.le_of_ble_eq_true rfl) rfl (fun K hK F hnm => ?_)
  subst hK
  unfold f4_numberRead at h
  refine r_iconst F (z := 0) d4_numberRead_0 ?_
  refine r_istore_n F (lv' := [(1, vI 0), (0, vR X 3)]) rfl (Nat.le_of_ble_eq_true rfl) rfl d4_numberRead_1 ?_
  refine r_aload_nR F 1 rfl rfl d4_numberRead_2 ?_
  refine r_getI F lf4_28 (vc3 hn) d4_numberRead_3 ?_
  refine r_istore_n F (lv' := [(2, vI (D 3 5)), (1, vI 0), (0, vR X 3)]) rfl (Nat.le_of_ble_eq_true rfl) rfl d4_numberRead_6 ?_
  refine r_weak [2, 1, 0] rfl ?_
  refine at_loopj (A := fun (s1 : Int × Int) => At K X (ZQ K X Q) 0 0 n rt 3 7 [(0, vR X 3), (1, vI s1.1), (2, vI s1.2)] [] D) (B := fun (b1 : Int) => At K X (ZQ K X Q) 0 0 n rt 3 45 [(1, vI b1)] [] D) h (fun b1 h => ?_) (fun s1 h => ?_)
  · refine r_iload_n F 0 rfl rfl d4_numberRead_45 ?_
    replace h := wpo_some h
    exact r_iret F h d4_numberRead_46
  · refine r_iload_n F 2 rfl rfl d4_numberRead_7 ?_
    refine r_aload_nR F 0 rfl rfl d4_numberRead_8 ?_
    refine r_getI F lf4_31 (vc3 hn) d4_numberRead_9 ?_
    refine r_icmp_ge F (tgt := 45) d4_numberRead_12 (by decide) (fun hb => ?_) (fun hb => ?_)
    · replace h := wpo_neg h hb
      refine r_weak [1] rfl ?_
      replace h := wpo_inr h
      exact h
    · replace h := wpo_pos h hb
      refine r_sipush F (z := 1000) (by decide) d4_numberRead_15 ?_
      refine r_iload_n F 1 rfl rfl d4_numberRead_18 ?_
      refine r_bipush F (z := 10) (by decide) d4_numberRead_19 ?_
      refine r_imul F d4_numberRead_21 ?_
      refine r_aload_nR F 0 rfl rfl d4_numberRead_22 ?_
      refine r_getR F (z := 1) lf4_34 (vc3 hn) z3_0 d4_numberRead_23 ?_
      refine r_getR F (z := 2) lf4_116 (vc1 hn) z1_0 d4_numberRead_26 ?_
      refine r_iload_n F 2 rfl rfl d4_numberRead_29 ?_
      obtain ⟨hx1, h⟩ := wpo_chk h
      refine r_bald F (vc2 hn) hx1 d4_numberRead_30 ?_
      refine r_iadd F d4_numberRead_31 ?_
      refine r_bipush F (z := 48) (by decide) d4_numberRead_32 ?_
      refine r_isub F d4_numberRead_34 ?_
      refine r_min F lm4_135 wm3 wm0 wm4 ⟨Nat.le_of_ble_eq_true rfl, Nat.le_of_ble_eq_true rfl, Nat.le_of_ble_eq_true rfl, Nat.le_of_ble_eq_true rfl⟩ d4_numberRead_35 ?_
      refine r_istore_n F (lv' := [(1, vI (min32 1000 (((s1.1 * 10) + (D 2 s1.2.toNat)) - 48))), (0, vR X 3), (2, vI s1.2)]) rfl (Nat.le_of_ble_eq_true rfl) rfl d4_numberRead_38 ?_
      refine at_name (B := fun (v1 : Int) => At K X (ZQ K X Q) 0 0 n rt 3 39 [(1, vI v1), (0, vR X 3), (2, vI s1.2)] [] D) h (fun v1 h => ?_)
      refine r_iinc F 2 (lv' := [(2, vI (s1.2 + 1)), (1, vI v1), (0, vR X 3)]) rfl (Nat.le_of_ble_eq_true rfl) rfl d4_numberRead_39 ?_
      refine r_goto F (tgt := 7) (by decide) d4_numberRead_42 ?_
      refine r_weak [2, 1, 0] rfl ?_
      replace h := wpo_inl h
      exact h
theorem d2_tellPerson_0 : decode c2_tellPerson 0 = .ok (.aload_n 0, 1) := by decide +kernel
theorem d2_tellPerson_1 : decode c2_tellPerson 1 = .ok (.getfield 36, 3) := by decide +kernel
theorem d2_tellPerson_4 : decode c2_tellPerson 4 = .ok (.iconst 1, 1) := by decide +kernel
theorem d2_tellPerson_5 : decode c2_tellPerson 5 = .ok (.isub, 1) := by decide +kernel
theorem d2_tellPerson_6 : decode c2_tellPerson 6 = .ok (.istore_n 3, 1) := by decide +kernel
theorem d2_tellPerson_7 : decode c2_tellPerson 7 = .ok (.iload_n 3, 1) := by decide +kernel
theorem d2_tellPerson_8 : decode c2_tellPerson 8 = .ok (.ifCond .lt 9, 3) := by decide +kernel
theorem d2_tellPerson_11 : decode c2_tellPerson 11 = .ok (.iload_n 3, 1) := by decide +kernel
theorem d2_tellPerson_12 : decode c2_tellPerson 12 = .ok (.bipush 8, 2) := by decide +kernel
theorem d2_tellPerson_14 : decode c2_tellPerson 14 = .ok (.if_icmp .lt 4, 3) := by decide +kernel
theorem d2_tellPerson_17 : decode c2_tellPerson 17 = .ok (.return_, 1) := by decide +kernel
theorem d2_tellPerson_18 : decode c2_tellPerson 18 = .ok (.iload_n 1, 1) := by decide +kernel
theorem d2_tellPerson_19 : decode c2_tellPerson 19 = .ok (.tableswitch 55 7 9 #[25, 35, 45], 25) := by decide +kernel
theorem d2_tellPerson_44 : decode c2_tellPerson 44 = .ok (.aload_n 0, 1) := by decide +kernel
theorem d2_tellPerson_45 : decode c2_tellPerson 45 = .ok (.getfield 42, 3) := by decide +kernel
theorem d2_tellPerson_48 : decode c2_tellPerson 48 = .ok (.iload_n 3, 1) := by decide +kernel
theorem d2_tellPerson_49 : decode c2_tellPerson 49 = .ok (.iload_n 2, 1) := by decide +kernel
theorem d2_tellPerson_50 : decode c2_tellPerson 50 = .ok (.iastore, 1) := by decide +kernel
theorem d2_tellPerson_51 : decode c2_tellPerson 51 = .ok (.goto 30, 3) := by decide +kernel
theorem d2_tellPerson_54 : decode c2_tellPerson 54 = .ok (.aload_n 0, 1) := by decide +kernel
theorem d2_tellPerson_55 : decode c2_tellPerson 55 = .ok (.getfield 46, 3) := by decide +kernel
theorem d2_tellPerson_58 : decode c2_tellPerson 58 = .ok (.iload_n 3, 1) := by decide +kernel
theorem d2_tellPerson_59 : decode c2_tellPerson 59 = .ok (.iload_n 2, 1) := by decide +kernel
theorem d2_tellPerson_60 : decode c2_tellPerson 60 = .ok (.iastore, 1) := by decide +kernel
theorem d2_tellPerson_61 : decode c2_tellPerson 61 = .ok (.goto 20, 3) := by decide +kernel
theorem d2_tellPerson_64 : decode c2_tellPerson 64 = .ok (.aload_n 0, 1) := by decide +kernel
theorem d2_tellPerson_65 : decode c2_tellPerson 65 = .ok (.getfield 49, 3) := by decide +kernel
theorem d2_tellPerson_68 : decode c2_tellPerson 68 = .ok (.iload_n 3, 1) := by decide +kernel
theorem d2_tellPerson_69 : decode c2_tellPerson 69 = .ok (.iload_n 2, 1) := by decide +kernel
theorem d2_tellPerson_70 : decode c2_tellPerson 70 = .ok (.iastore, 1) := by decide +kernel
theorem d2_tellPerson_71 : decode c2_tellPerson 71 = .ok (.goto 10, 3) := by decide +kernel
theorem d2_tellPerson_74 : decode c2_tellPerson 74 = .ok (.aload_n 0, 1) := by decide +kernel
theorem d2_tellPerson_75 : decode c2_tellPerson 75 = .ok (.getfield 52, 3) := by decide +kernel
theorem d2_tellPerson_78 : decode c2_tellPerson 78 = .ok (.iload_n 3, 1) := by decide +kernel
theorem d2_tellPerson_79 : decode c2_tellPerson 79 = .ok (.iload_n 2, 1) := by decide +kernel
theorem d2_tellPerson_80 : decode c2_tellPerson 80 = .ok (.iastore, 1) := by decide +kernel
theorem d2_tellPerson_81 : decode c2_tellPerson 81 = .ok (.return_, 1) := by decide +kernel
def f2_tellPerson (D : Mem) (r : Nat) (p0 : Int) (p1 : Int) : Option (Mem) :=
  if w32 ((D r 8) - 1) < 0 then
    some D
  else
    if w32 ((D r 8) - 1) < w32 8 then
      if w32 p0 = 7 then
        if 0 ≤ ((D r 8) - 1) ∧ ((D r 8) - 1) < 8 then
          some (mset D (r + 1) ((D r 8) - 1).toNat p1)
        else none
      else
        if w32 p0 = 8 then
          if 0 ≤ ((D r 8) - 1) ∧ ((D r 8) - 1) < 8 then
            some (mset D (r + 2) ((D r 8) - 1).toNat p1)
          else none
        else
          if w32 p0 = 9 then
            if 0 ≤ ((D r 8) - 1) ∧ ((D r 8) - 1) < 8 then
              some (mset D (r + 3) ((D r 8) - 1).toNat p1)
            else none
          else
            if 0 ≤ ((D r 8) - 1) ∧ ((D r 8) - 1) < 8 then
              some (mset D (r + 4) ((D r 8) - 1).toNat p1)
            else none
    else
      some D
set_option maxHeartbeats 4000000 in
theorem ok2_tellPerson {l : Launch} {X : XT} {n : Nat} {D : Mem} {Q : Option Value → Nat → Rho → Mem → Prop} (hn : 117 ≤ n) {r : Nat} {p0 : Int} {p1 : Int} (hr : VR n r 2) (h : wpo (f2_tellPerson D r p0 p1) (fun a => Q none n rt a)) : MOK l y2_tellPerson c2_tellPerson 4 (none) { frames := 0, cells := 0, slots := 0, locals := 0 } 0 0 X [vR X r, vI p0, vI p1] n rt D Q := by
  refine MOK_of 2 (by decide +kernel) rfl (lv := [(0, vR X r), (1, vI p0), (2, vI p1)]) (Nat.le_of_ble_eq_true rfl) rfl (fun K hK F hnm => ?_)
  subst hK
  unfold f2_tellPerson at h
  refine r_aload_nR F 0 rfl rfl d2_tellPerson_0 ?_
  refine r_getI F lf2_36 hr d2_tellPerson_1 ?_
  refine r_iconst F (z := 1) d2_tellPerson_4 ?_
  refine r_isub F d2_tellPerson_5 ?_
  refine r_istore_n F (lv' := [(3, vI ((D r 8) - 1)), (0, vR X r), (1, vI p0), (2, vI p1)]) rfl (Nat.le_of_ble_eq_true rfl) rfl d2_tellPerson_6 ?_
  refine r_iload_n F 0 rfl rfl d2_tellPerson_7 ?_
  refine r_if_lt F (tgt := 17) d2_tellPerson_8 (by decide) (fun hb => ?_) (fun hb => ?_)
  · replace h := wpo_pos h hb
    replace h := wpo_some h
    exact r_vret F h d2_tellPerson_17
  · replace h := wpo_neg h hb
    refine r_iload_n F 0 rfl rfl d2_tellPerson_11 ?_
    refine r_bipush F (z := 8) (by decide) d2_tellPerson_12 ?_
    refine r_icmp_lt F (tgt := 18) d2_tellPerson_14 (by decide) (fun hb => ?_) (fun hb => ?_)
    · replace h := wpo_pos h hb
      refine r_iload_n F 2 rfl rfl d2_tellPerson_18 ?_
      by_cases hb7 : w32 p0 = 7
      · replace h := wpo_pos h hb7
        refine r_tabIn F 7 hb7 d2_tellPerson_19 (by decide) (by decide) rfl (tgt := 44) (by decide) ?_
        refine r_aload_nR F 1 rfl rfl d2_tellPerson_44 ?_
        refine r_getR F (z := (r + 1)) lf2_42 hr (z2_10 hr) d2_tellPerson_45 ?_
        refine r_iload_n F 0 rfl rfl d2_tellPerson_48 ?_
        refine r_iload_n F 3 rfl rfl d2_tellPerson_49 ?_
        obtain ⟨hx4, h⟩ := wpo_chk h
        refine r_iast F (y2_10 hn hr) hx4 d2_tellPerson_50 ?_
        refine r_goto F (tgt := 81) (by decide) d2_tellPerson_51 ?_
        replace h := wpo_some h
        exact r_vret F h d2_tellPerson_81
      · replace h := wpo_neg h hb7
        by_cases hb8 : w32 p0 = 8
        · replace h := wpo_pos h hb8
          refine r_tabIn F 8 hb8 d2_tellPerson_19 (by decide) (by decide) rfl (tgt := 54) (by decide) ?_
          refine r_aload_nR F 1 rfl rfl d2_tellPerson_54 ?_
          refine r_getR F (z := (r + 2)) lf2_46 hr (z2_11 hr) d2_tellPerson_55 ?_
          refine r_iload_n F 0 rfl rfl d2_tellPerson_58 ?_
          refine r_iload_n F 3 rfl rfl d2_tellPerson_59 ?_
          obtain ⟨hx3, h⟩ := wpo_chk h
          refine r_iast F (y2_11 hn hr) hx3 d2_tellPerson_60 ?_
          refine r_goto F (tgt := 81) (by decide) d2_tellPerson_61 ?_
          replace h := wpo_some h
          exact r_vret F h d2_tellPerson_81
        · replace h := wpo_neg h hb8
          by_cases hb9 : w32 p0 = 9
          · replace h := wpo_pos h hb9
            refine r_tabIn F 9 hb9 d2_tellPerson_19 (by decide) (by decide) rfl (tgt := 64) (by decide) ?_
            refine r_aload_nR F 1 rfl rfl d2_tellPerson_64 ?_
            refine r_getR F (z := (r + 3)) lf2_49 hr (z2_12 hr) d2_tellPerson_65 ?_
            refine r_iload_n F 0 rfl rfl d2_tellPerson_68 ?_
            refine r_iload_n F 3 rfl rfl d2_tellPerson_69 ?_
            obtain ⟨hx2, h⟩ := wpo_chk h
            refine r_iast F (y2_12 hn hr) hx2 d2_tellPerson_70 ?_
            refine r_goto F (tgt := 81) (by decide) d2_tellPerson_71 ?_
            replace h := wpo_some h
            exact r_vret F h d2_tellPerson_81
          · replace h := wpo_neg h hb9
            refine r_tabOut F d2_tellPerson_19 ?_ (tgt := 74) (by decide) ?_
            · omega
            · refine r_aload_nR F 1 rfl rfl d2_tellPerson_74 ?_
              refine r_getR F (z := (r + 4)) lf2_52 hr (z2_13 hr) d2_tellPerson_75 ?_
              refine r_iload_n F 0 rfl rfl d2_tellPerson_78 ?_
              refine r_iload_n F 3 rfl rfl d2_tellPerson_79 ?_
              obtain ⟨hx1, h⟩ := wpo_chk h
              refine r_iast F (y2_13 hn hr) hx1 d2_tellPerson_80 ?_
              replace h := wpo_some h
              exact r_vret F h d2_tellPerson_81
    · replace h := wpo_neg h hb
      replace h := wpo_some h
      exact r_vret F h d2_tellPerson_17
theorem d2_tell_0 : decode c2_tell 0 = .ok (.iload_n 1, 1) := by decide +kernel
theorem d2_tell_1 : decode c2_tell 1 = .ok (.tableswitch 99 0 6 #[43, 51, 59, 67, 75, 83, 91], 43) := by decide +kernel
theorem d2_tell_44 : decode c2_tell 44 = .ok (.aload_n 0, 1) := by decide +kernel
theorem d2_tell_45 : decode c2_tell 45 = .ok (.iload_n 2, 1) := by decide +kernel
theorem d2_tell_46 : decode c2_tell 46 = .ok (.putfield 15, 3) := by decide +kernel
theorem d2_tell_49 : decode c2_tell 49 = .ok (.goto 57, 3) := by decide +kernel
theorem d2_tell_52 : decode c2_tell 52 = .ok (.aload_n 0, 1) := by decide +kernel
theorem d2_tell_53 : decode c2_tell 53 = .ok (.iload_n 2, 1) := by decide +kernel
theorem d2_tell_54 : decode c2_tell 54 = .ok (.putfield 18, 3) := by decide +kernel
theorem d2_tell_57 : decode c2_tell 57 = .ok (.goto 49, 3) := by decide +kernel
theorem d2_tell_60 : decode c2_tell 60 = .ok (.aload_n 0, 1) := by decide +kernel
theorem d2_tell_61 : decode c2_tell 61 = .ok (.iload_n 2, 1) := by decide +kernel
theorem d2_tell_62 : decode c2_tell 62 = .ok (.putfield 21, 3) := by decide +kernel
theorem d2_tell_65 : decode c2_tell 65 = .ok (.goto 41, 3) := by decide +kernel
theorem d2_tell_68 : decode c2_tell 68 = .ok (.aload_n 0, 1) := by decide +kernel
theorem d2_tell_69 : decode c2_tell 69 = .ok (.iload_n 2, 1) := by decide +kernel
theorem d2_tell_70 : decode c2_tell 70 = .ok (.putfield 24, 3) := by decide +kernel
theorem d2_tell_73 : decode c2_tell 73 = .ok (.goto 33, 3) := by decide +kernel
theorem d2_tell_76 : decode c2_tell 76 = .ok (.aload_n 0, 1) := by decide +kernel
theorem d2_tell_77 : decode c2_tell 77 = .ok (.iload_n 2, 1) := by decide +kernel
theorem d2_tell_78 : decode c2_tell 78 = .ok (.putfield 27, 3) := by decide +kernel
theorem d2_tell_81 : decode c2_tell 81 = .ok (.goto 25, 3) := by decide +kernel
theorem d2_tell_84 : decode c2_tell 84 = .ok (.aload_n 0, 1) := by decide +kernel
theorem d2_tell_85 : decode c2_tell 85 = .ok (.iload_n 2, 1) := by decide +kernel
theorem d2_tell_86 : decode c2_tell 86 = .ok (.putfield 30, 3) := by decide +kernel
theorem d2_tell_89 : decode c2_tell 89 = .ok (.goto 17, 3) := by decide +kernel
theorem d2_tell_92 : decode c2_tell 92 = .ok (.aload_n 0, 1) := by decide +kernel
theorem d2_tell_93 : decode c2_tell 93 = .ok (.iload_n 2, 1) := by decide +kernel
theorem d2_tell_94 : decode c2_tell 94 = .ok (.putfield 33, 3) := by decide +kernel
theorem d2_tell_97 : decode c2_tell 97 = .ok (.goto 9, 3) := by decide +kernel
theorem d2_tell_100 : decode c2_tell 100 = .ok (.aload_n 0, 1) := by decide +kernel
theorem d2_tell_101 : decode c2_tell 101 = .ok (.iload_n 1, 1) := by decide +kernel
theorem d2_tell_102 : decode c2_tell 102 = .ok (.iload_n 2, 1) := by decide +kernel
theorem d2_tell_103 : decode c2_tell 103 = .ok (.invokevirtual 70, 3) := by decide +kernel
theorem d2_tell_106 : decode c2_tell 106 = .ok (.return_, 1) := by decide +kernel
def f2_tell (D : Mem) (r : Nat) (p0 : Int) (p1 : Int) : Option (Mem) :=
  if w32 p0 = 0 then
    some (mset D r 1 p1)
  else
    if w32 p0 = 1 then
      some (mset D r 2 p1)
    else
      if w32 p0 = 2 then
        some (mset D r 3 p1)
      else
        if w32 p0 = 3 then
          some (mset D r 4 p1)
        else
          if w32 p0 = 4 then
            some (mset D r 5 p1)
          else
            if w32 p0 = 5 then
              some (mset D r 6 p1)
            else
              if w32 p0 = 6 then
                some (mset D r 7 p1)
              else
                Option.bind (f2_tellPerson D r p0 p1) fun (a1 : Mem) =>
                some a1
set_option maxHeartbeats 4000000 in
theorem ok2_tell {l : Launch} {X : XT} {n : Nat} {D : Mem} {Q : Option Value → Nat → Rho → Mem → Prop} (hn : 117 ≤ n) {r : Nat} {p0 : Int} {p1 : Int} (hr : VR n r 2) (h : wpo (f2_tell D r p0 p1) (fun a => Q none n rt a)) : MOK l y2_tell c2_tell 3 (none) { frames := 1, cells := 0, slots := 0, locals := 23 } 0 0 X [vR X r, vI p0, vI p1] n rt D Q := by
  refine MOK_of 2 (by decide +kernel) rfl (lv := [(0, vR X r), (1, vI p0), (2, vI p1)]) (Nat.le_of_ble_eq_true rfl) rfl (fun K hK F hnm => ?_)
  subst hK
  unfold f2_tell at h
  refine r_iload_n F 1 rfl rfl d2_tell_0 ?_
  by_cases hb0 : w32 p0 = 0
  · replace h := wpo_pos h hb0
    refine r_tabIn F 0 hb0 d2_tell_1 (by decide) (by decide) rfl (tgt := 44) (by decide) ?_
    refine r_aload_nR F 0 rfl rfl d2_tell_44 ?_
    refine r_iload_n F 2 rfl rfl d2_tell_45 ?_
    refine r_putI F lf2_15 rfl rfl hr d2_tell_46 ?_
    refine r_goto F (tgt := 106) (by decide) d2_tell_49 ?_
    replace h := wpo_some h
    exact r_vret F h d2_tell_106
  · replace h := wpo_neg h hb0
    by_cases hb1 : w32 p0 = 1
    · replace h := wpo_pos h hb1
      refine r_tabIn F 1 hb1 d2_tell_1 (by decide) (by decide) rfl (tgt := 52) (by decide) ?_
      refine r_aload_nR F 0 rfl rfl d2_tell_52 ?_
      refine r_iload_n F 2 rfl rfl d2_tell_53 ?_
      refine r_putI F lf2_18 rfl rfl hr d2_tell_54 ?_
      refine r_goto F (tgt := 106) (by decide) d2_tell_57 ?_
      replace h := wpo_some h
      exact r_vret F h d2_tell_106
    · replace h := wpo_neg h hb1
      by_cases hb2 : w32 p0 = 2
      · replace h := wpo_pos h hb2
        refine r_tabIn F 2 hb2 d2_tell_1 (by decide) (by decide) rfl (tgt := 60) (by decide) ?_
        refine r_aload_nR F 0 rfl rfl d2_tell_60 ?_
        refine r_iload_n F 2 rfl rfl d2_tell_61 ?_
        refine r_putI F lf2_21 rfl rfl hr d2_tell_62 ?_
        refine r_goto F (tgt := 106) (by decide) d2_tell_65 ?_
        replace h := wpo_some h
        exact r_vret F h d2_tell_106
      · replace h := wpo_neg h hb2
        by_cases hb3 : w32 p0 = 3
        · replace h := wpo_pos h hb3
          refine r_tabIn F 3 hb3 d2_tell_1 (by decide) (by decide) rfl (tgt := 68) (by decide) ?_
          refine r_aload_nR F 0 rfl rfl d2_tell_68 ?_
          refine r_iload_n F 2 rfl rfl d2_tell_69 ?_
          refine r_putI F lf2_24 rfl rfl hr d2_tell_70 ?_
          refine r_goto F (tgt := 106) (by decide) d2_tell_73 ?_
          replace h := wpo_some h
          exact r_vret F h d2_tell_106
        · replace h := wpo_neg h hb3
          by_cases hb4 : w32 p0 = 4
          · replace h := wpo_pos h hb4
            refine r_tabIn F 4 hb4 d2_tell_1 (by decide) (by decide) rfl (tgt := 76) (by decide) ?_
            refine r_aload_nR F 0 rfl rfl d2_tell_76 ?_
            refine r_iload_n F 2 rfl rfl d2_tell_77 ?_
            refine r_putI F lf2_27 rfl rfl hr d2_tell_78 ?_
            refine r_goto F (tgt := 106) (by decide) d2_tell_81 ?_
            replace h := wpo_some h
            exact r_vret F h d2_tell_106
          · replace h := wpo_neg h hb4
            by_cases hb5 : w32 p0 = 5
            · replace h := wpo_pos h hb5
              refine r_tabIn F 5 hb5 d2_tell_1 (by decide) (by decide) rfl (tgt := 84) (by decide) ?_
              refine r_aload_nR F 0 rfl rfl d2_tell_84 ?_
              refine r_iload_n F 2 rfl rfl d2_tell_85 ?_
              refine r_putI F lf2_30 rfl rfl hr d2_tell_86 ?_
              refine r_goto F (tgt := 106) (by decide) d2_tell_89 ?_
              replace h := wpo_some h
              exact r_vret F h d2_tell_106
            · replace h := wpo_neg h hb5
              by_cases hb6 : w32 p0 = 6
              · replace h := wpo_pos h hb6
                refine r_tabIn F 6 hb6 d2_tell_1 (by decide) (by decide) rfl (tgt := 92) (by decide) ?_
                refine r_aload_nR F 0 rfl rfl d2_tell_92 ?_
                refine r_iload_n F 2 rfl rfl d2_tell_93 ?_
                refine r_putI F lf2_33 rfl rfl hr d2_tell_94 ?_
                refine r_goto F (tgt := 106) (by decide) d2_tell_97 ?_
                replace h := wpo_some h
                exact r_vret F h d2_tell_106
              · replace h := wpo_neg h hb6
                refine r_tabOut F d2_tell_1 ?_ (tgt := 100) (by decide) ?_
                · omega
                · refine r_aload_nR F 0 rfl rfl d2_tell_100 ?_
                  refine r_iload_n F 1 rfl rfl d2_tell_101 ?_
                  refine r_iload_n F 2 rfl rfl d2_tell_102 ?_
                  replace h := wpo_bind h
                  refine r_callV0 F lm2_70 mf2_tellPerson hr rfl (fr := 0) (lo := 0) (As := [vI p0, vI p1]) (rest := []) ⟨Nat.le_of_ble_eq_true rfl, Nat.le_of_ble_eq_true rfl⟩ rfl (Nat.le_of_ble_eq_true rfl) ⟨Nat.zero_le _, Nat.zero_le _⟩ d2_tell_103 ?_
                  refine ok2_tellPerson hn hr (kVm h (fun a1 h => ?_))
                  replace h := wpo_some h
                  exact r_vret F h d2_tell_106
theorem d4_readFields_0 : decode c4_readFields 0 = .ok (.iload_n 1, 1) := by decide +kernel
theorem d4_readFields_1 : decode c4_readFields 1 = .ok (.istore_n 3, 1) := by decide +kernel
theorem d4_readFields_2 : decode c4_readFields 2 = .ok (.iload_n 3, 1) := by decide +kernel
theorem d4_readFields_3 : decode c4_readFields 3 = .ok (.iload_n 2, 1) := by decide +kernel
theorem d4_readFields_4 : decode c4_readFields 4 = .ok (.if_icmp .ge 86, 3) := by decide +kernel
theorem d4_readFields_7 : decode c4_readFields 7 = .ok (.aload_n 0, 1) := by decide +kernel
theorem d4_readFields_8 : decode c4_readFields 8 = .ok (.invokevirtual 41, 3) := by decide +kernel
theorem d4_readFields_11 : decode c4_readFields 11 = .ok (.aload_n 0, 1) := by decide +kernel
theorem d4_readFields_12 : decode c4_readFields 12 = .ok (.iload_n 3, 1) := by decide +kernel
theorem d4_readFields_13 : decode c4_readFields 13 = .ok (.invokestatic 70, 3) := by decide +kernel
theorem d4_readFields_16 : decode c4_readFields 16 = .ok (.invokevirtual 53, 3) := by decide +kernel
theorem d4_readFields_19 : decode c4_readFields 19 = .ok (.ifCond .ne 5, 3) := by decide +kernel
theorem d4_readFields_22 : decode c4_readFields 22 = .ok (.iconst 0, 1) := by decide +kernel
theorem d4_readFields_23 : decode c4_readFields 23 = .ok (.ireturn, 1) := by decide +kernel
theorem d4_readFields_24 : decode c4_readFields 24 = .ok (.aload_n 0, 1) := by decide +kernel
theorem d4_readFields_25 : decode c4_readFields 25 = .ok (.invokevirtual 41, 3) := by decide +kernel
theorem d4_readFields_28 : decode c4_readFields 28 = .ok (.aload_n 0, 1) := by decide +kernel
theorem d4_readFields_29 : decode c4_readFields 29 = .ok (.getfield 25, 3) := by decide +kernel
theorem d4_readFields_32 : decode c4_readFields 32 = .ok (.iconst 2, 1) := by decide +kernel
theorem d4_readFields_33 : decode c4_readFields 33 = .ok (.if_icmp .eq 9, 3) := by decide +kernel
theorem d4_readFields_36 : decode c4_readFields 36 = .ok (.aload_n 0, 1) := by decide +kernel
theorem d4_readFields_37 : decode c4_readFields 37 = .ok (.iconst 1, 1) := by decide +kernel
theorem d4_readFields_38 : decode c4_readFields 38 = .ok (.invokevirtual 66, 3) := by decide +kernel
theorem d4_readFields_41 : decode c4_readFields 41 = .ok (.ireturn, 1) := by decide +kernel
theorem d4_readFields_42 : decode c4_readFields 42 = .ok (.aload_n 0, 1) := by decide +kernel
theorem d4_readFields_43 : decode c4_readFields 43 = .ok (.invokevirtual 74, 3) := by decide +kernel
theorem d4_readFields_46 : decode c4_readFields 46 = .ok (.istore 4, 2) := by decide +kernel
theorem d4_readFields_48 : decode c4_readFields 48 = .ok (.iload 4, 2) := by decide +kernel
theorem d4_readFields_50 : decode c4_readFields 50 = .ok (.getstatic 78, 3) := by decide +kernel
theorem d4_readFields_53 : decode c4_readFields 53 = .ok (.iload_n 3, 1) := by decide +kernel
theorem d4_readFields_54 : decode c4_readFields 54 = .ok (.iaload, 1) := by decide +kernel
theorem d4_readFields_55 : decode c4_readFields 55 = .ok (.if_icmp .lt 13, 3) := by decide +kernel
theorem d4_readFields_58 : decode c4_readFields 58 = .ok (.iload 4, 2) := by decide +kernel
theorem d4_readFields_60 : decode c4_readFields 60 = .ok (.getstatic 82, 3) := by decide +kernel
theorem d4_readFields_63 : decode c4_readFields 63 = .ok (.iload_n 3, 1) := by decide +kernel
theorem d4_readFields_64 : decode c4_readFields 64 = .ok (.iaload, 1) := by decide +kernel
theorem d4_readFields_65 : decode c4_readFields 65 = .ok (.if_icmp .le 9, 3) := by decide +kernel
theorem d4_readFields_68 : decode c4_readFields 68 = .ok (.aload_n 0, 1) := by decide +kernel
theorem d4_readFields_69 : decode c4_readFields 69 = .ok (.iconst 2, 1) := by decide +kernel
theorem d4_readFields_70 : decode c4_readFields 70 = .ok (.invokevirtual 66, 3) := by decide +kernel
theorem d4_readFields_73 : decode c4_readFields 73 = .ok (.ireturn, 1) := by decide +kernel
theorem d4_readFields_74 : decode c4_readFields 74 = .ok (.aload_n 0, 1) := by decide +kernel
theorem d4_readFields_75 : decode c4_readFields 75 = .ok (.getfield 12, 3) := by decide +kernel
theorem d4_readFields_78 : decode c4_readFields 78 = .ok (.iload_n 3, 1) := by decide +kernel
theorem d4_readFields_79 : decode c4_readFields 79 = .ok (.iload 4, 2) := by decide +kernel
theorem d4_readFields_81 : decode c4_readFields 81 = .ok (.invokevirtual 85, 3) := by decide +kernel
theorem d4_readFields_84 : decode c4_readFields 84 = .ok (.iinc 3 1, 3) := by decide +kernel
theorem d4_readFields_87 : decode c4_readFields 87 = .ok (.goto (-85), 3) := by decide +kernel
theorem d4_readFields_90 : decode c4_readFields 90 = .ok (.aload_n 0, 1) := by decide +kernel
theorem d4_readFields_91 : decode c4_readFields 91 = .ok (.invokevirtual 41, 3) := by decide +kernel
theorem d4_readFields_94 : decode c4_readFields 94 = .ok (.aload_n 0, 1) := by decide +kernel
theorem d4_readFields_95 : decode c4_readFields 95 = .ok (.getfield 25, 3) := by decide +kernel
theorem d4_readFields_98 : decode c4_readFields 98 = .ok (.iconst 3, 1) := by decide +kernel
theorem d4_readFields_99 : decode c4_readFields 99 = .ok (.if_icmp .eq 11, 3) := by decide +kernel
theorem d4_readFields_102 : decode c4_readFields 102 = .ok (.aload_n 0, 1) := by decide +kernel
theorem d4_readFields_103 : decode c4_readFields 103 = .ok (.iconst 1, 1) := by decide +kernel
theorem d4_readFields_104 : decode c4_readFields 104 = .ok (.invokevirtual 66, 3) := by decide +kernel
theorem d4_readFields_107 : decode c4_readFields 107 = .ok (.ifCond .eq 7, 3) := by decide +kernel
theorem d4_readFields_110 : decode c4_readFields 110 = .ok (.iconst 1, 1) := by decide +kernel
theorem d4_readFields_111 : decode c4_readFields 111 = .ok (.goto 4, 3) := by decide +kernel
theorem d4_readFields_114 : decode c4_readFields 114 = .ok (.iconst 0, 1) := by decide +kernel
theorem d4_readFields_115 : decode c4_readFields 115 = .ok (.ireturn, 1) := by decide +kernel
def f4_readFields (D : Mem) (p0 : Int) (p1 : Int) : Option (Int × Mem) :=
  Option.bind (@loop (Int × Mem) ((Mem) ⊕ (Int × Mem)) (fun s1 =>
    if w32 s1.1 < w32 p1 then
      Option.bind (f4_next s1.2) fun (a1 : Mem) =>
      Option.bind (f4_wordOf a1 s1.1) fun (a2 : Nat) =>
      if a2 < 13 then
        Option.bind (f4_isWord a1 a2) fun (a3 : Int × Mem) =>
        if w32 a3.1 = 0 then
          some (Sum.inr (Sum.inr (0, a3.2)))
        else
          Option.bind (f4_next a3.2) fun (a4 : Mem) =>
          if w32 (a4 3 4) = w32 2 then
            Option.bind (f4_numberRead a4) fun (a5 : Int) =>
            if 0 ≤ s1.1 ∧ s1.1 < 11 then
              if w32 a5 < w32 ((tabL 0).getD (s1.1).toNat 0) then
                Option.bind (f4_failed a4 2) fun (a6 : Int × Mem) =>
                if a6.1 = 0 ∨ a6.1 = 1 then
                  some (Sum.inr (Sum.inr (a6.1, a6.2)))
                else none
              else
                if w32 ((tabL 1).getD (s1.1).toNat 0) < w32 a5 then
                  Option.bind (f4_failed a4 2) fun (a8 : Int × Mem) =>
                  if a8.1 = 0 ∨ a8.1 = 1 then
                    some (Sum.inr (Sum.inr (a8.1, a8.2)))
                  else none
                else
                  Option.bind (f2_tell a4 4 s1.1 a5) fun (a7 : Mem) =>
                  some (Sum.inl ((s1.1 + 1), a7))
            else none
          else
            Option.bind (f4_failed a4 1) fun (a9 : Int × Mem) =>
            if a9.1 = 0 ∨ a9.1 = 1 then
              some (Sum.inr (Sum.inr (a9.1, a9.2)))
            else none
      else none
    else
      some (Sum.inr (Sum.inl s1.2))
  ) FU (p0, D)) (fun z => Sum.elim (fun (b1 : Mem) =>
    Option.bind (f4_next b1) fun (a10 : Mem) =>
    if w32 (a10 3 4) = w32 3 then
      some (1, a10)
    else
      Option.bind (f4_failed a10 1) fun (a11 : Int × Mem) =>
      if w32 a11.1 = 0 then
        some (0, a11.2)
      else
        some (1, a11.2)
  ) (fun rv => some rv) z)
set_option maxHeartbeats 4000000 in
theorem ok4_readFields {l : Launch} {X : XT} {n : Nat} {D : Mem} {Q : Option Value → Nat → Rho → Mem → Prop} (hn : 117 ≤ n) {p0 : Int} {p1 : Int}  (h : wpo (f4_readFields D p0 p1) (fun a => Q (some (vI a.1)) n rt a.2)) : MOK l y4_readFields c4_readFields 5 (some .boolean) { frames := 5, cells := 0, slots := 0, locals := 107 } 0 0 X [vR X 3, vI p0, vI p1] n rt D Q := by
  refine MOK_of 4 (by decide +kernel) rfl (lv := [(0, vR X 3), (1, vI p0), (2, vI p1)]) (Nat.le_of_ble_eq_true rfl) rfl (fun K hK F hnm => ?_)
  subst hK
  unfold f4_readFields at h
  refine r_iload_n F 1 rfl rfl d4_readFields_0 ?_
  refine r_istore_n F (lv' := [(3, vI p0), (0, vR X 3), (1, vI p0), (2, vI p1)]) rfl (Nat.le_of_ble_eq_true rfl) rfl d4_readFields_1 ?_
  refine r_weak [1, 3, 0] rfl ?_
  refine at_loopj (A := fun (s1 : Int × Mem) => At K X (ZQ K X Q) 0 0 n rt 5 2 [(0, vR X 3), (2, vI p1), (3, vI s1.1)] [] s1.2) (B := Sum.elim (fun (b1 : Mem) => At K X (ZQ K X Q) 0 0 n rt 5 90 [(0, vR X 3)] [] b1) (fun rv => Q (some (vI rv.1)) n rt rv.2)) h (fun z h => ?_) (fun s1 h => ?_)
  · rcases z with b1 | rv
    · replace h := elim_l h
      refine el_li ?_
      refine r_aload_nR F 0 rfl rfl d4_readFields_90 ?_
      replace h := wpo_bind h
      refine r_callV0 F lm4_41 mf4_next (vc3 hn) rfl (fr := 1) (lo := 20) (As := []) (rest := []) ⟨Nat.le_of_ble_eq_true rfl, Nat.le_of_ble_eq_true rfl⟩ rfl (Nat.le_of_ble_eq_true rfl) ⟨Nat.zero_le _, Nat.zero_le _⟩ d4_readFields_91 ?_
      refine ok4_next hn  (kVm h (fun a10 h => ?_))
      refine r_aload_nR F 0 rfl rfl d4_readFields_94 ?_
      refine r_getI F lf4_25 (vc3 hn) d4_readFields_95 ?_
      refine r_iconst F (z := 3) d4_readFields_98 ?_
      refine r_icmp_eq F (tgt := 110) d4_readFields_99 (by decide) (fun hb => ?_) (fun hb => ?_)
      · replace h := wpo_pos h hb
        refine r_iconst F (z := 1) d4_readFields_110 ?_
        refine r_goto F (tgt := 115) (by decide) d4_readFields_111 ?_
        replace h := wpo_some h
        exact r_zret F (Or.inr rfl) h d4_readFields_115
      · replace h := wpo_neg h hb
        refine r_aload_nR F 0 rfl rfl d4_readFields_102 ?_
        refine r_iconst F (z := 1) d4_readFields_103 ?_
        replace h := wpo_bind h
        refine r_callV0 F lm4_66 mf4_failed (vc3 hn) rfl (fr := 0) (lo := 0) (As := [vI 1]) (rest := []) ⟨Nat.le_of_ble_eq_true rfl, Nat.le_of_ble_eq_true rfl⟩ rfl (Nat.le_of_ble_eq_true rfl) ⟨Nat.zero_le _, Nat.zero_le _⟩ d4_readFields_104 ?_
        refine ok4_failed hn  (kIm h (fun a11 h => ?_))
        refine r_if_eq F (tgt := 114) d4_readFields_107 (by decide) (fun hb => ?_) (fun hb => ?_)
        · replace h := wpo_pos h hb
          refine r_iconst F (z := 0) d4_readFields_114 ?_
          replace h := wpo_some h
          exact r_zret F (Or.inl rfl) h d4_readFields_115
        · replace h := wpo_neg h hb
          refine r_iconst F (z := 1) d4_readFields_110 ?_
          refine r_goto F (tgt := 115) (by decide) d4_readFields_111 ?_
          replace h := wpo_some h
          exact r_zret F (Or.inr rfl) h d4_readFields_115
    · replace h := elim_r h
      replace h := wpo_some h
      exact el_ri h
  · refine r_iload_n F 2 rfl rfl d4_readFields_2 ?_
    refine r_iload_n F 1 rfl rfl d4_readFields_3 ?_
    refine r_icmp_ge F (tgt := 90) d4_readFields_4 (by decide) (fun hb => ?_) (fun hb => ?_)
    · replace h := wpo_neg h hb
      refine r_weak [0] rfl ?_
      replace h := wpo_inr h
      replace h := el_l h
      exact h
    · replace h := wpo_pos h hb
      refine r_aload_nR F 0 rfl rfl d4_readFields_7 ?_
      replace h := wpo_bind h
      refine r_callV0 F lm4_41 mf4_next (vc3 hn) rfl (fr := 1) (lo := 20) (As := []) (rest := []) ⟨Nat.le_of_ble_eq_true rfl, Nat.le_of_ble_eq_true rfl⟩ rfl (Nat.le_of_ble_eq_true rfl) ⟨Nat.zero_le _, Nat.zero_le _⟩ d4_readFields_8 ?_
      refine ok4_next hn  (kVm h (fun a1 h => ?_))
      refine r_aload_nR F 0 rfl rfl d4_readFields_11 ?_
      refine r_iload_n F 2 rfl rfl d4_readFields_12 ?_
      replace h := wpo_bind h
      refine r_callS0 F lm4_70 mf4_wordOf rfl (fr := 0) (lo := 0) (As := [vI s1.1]) (rest := [vR X 3]) ⟨Nat.le_of_ble_eq_true rfl, Nat.le_of_ble_eq_true rfl⟩ rfl (Nat.le_of_ble_eq_true rfl) ⟨Nat.zero_le _, Nat.zero_le _⟩ d4_readFields_13 ?_
      refine ok4_wordOf hn  (kS h (fun a2 h => ?_))
      obtain ⟨hs_a2, h⟩ := wpo_chk h
      replace h := wpo_bind h
      refine r_callV0 F lm4_53 mf4_isWord (vc3 hn) rfl (fr := 4) (lo := 85) (As := [vS X a2]) (rest := []) ⟨Nat.le_of_ble_eq_true rfl, Nat.le_of_ble_eq_true rfl⟩ rfl (Nat.le_of_ble_eq_true rfl) ⟨Nat.zero_le _, Nat.zero_le _⟩ d4_readFields_16 ?_
      refine ok4_isWord hn hs_a2 (kIm h (fun a3 h => ?_))
      refine r_if_ne F (tgt := 24) d4_readFields_19 (by decide) (fun hb => ?_) (fun hb => ?_)
      · replace h := wpo_neg h hb
        refine r_aload_nR F 0 rfl rfl d4_readFields_24 ?_
        replace h := wpo_bind h
        refine r_callV0 F lm4_41 mf4_next (vc3 hn) rfl (fr := 1) (lo := 20) (As := []) (rest := []) ⟨Nat.le_of_ble_eq_true rfl, Nat.le_of_ble_eq_true rfl⟩ rfl (Nat.le_of_ble_eq_true rfl) ⟨Nat.zero_le _, Nat.zero_le _⟩ d4_readFields_25 ?_
        refine ok4_next hn  (kVm h (fun a4 h => ?_))
        refine r_aload_nR F 0 rfl rfl d4_readFields_28 ?_
        refine r_getI F lf4_25 (vc3 hn) d4_readFields_29 ?_
        refine r_iconst F (z := 2) d4_readFields_32 ?_
        refine r_icmp_eq F (tgt := 42) d4_readFields_33 (by decide) (fun hb => ?_) (fun hb => ?_)
        · replace h := wpo_pos h hb
          refine r_aload_nR F 0 rfl rfl d4_readFields_42 ?_
          replace h := wpo_bind h
          refine r_callV0 F lm4_74 mf4_numberRead (vc3 hn) rfl (fr := 1) (lo := 23) (As := []) (rest := []) ⟨Nat.le_of_ble_eq_true rfl, Nat.le_of_ble_eq_true rfl⟩ rfl (Nat.le_of_ble_eq_true rfl) ⟨Nat.zero_le _, Nat.zero_le _⟩ d4_readFields_43 ?_
          refine ok4_numberRead hn  (kI h (fun a5 h => ?_))
          refine r_istore F (lv' := [(4, vI a5), (0, vR X 3), (2, vI p1), (3, vI s1.1)]) (Nat.le_of_ble_eq_true rfl) rfl d4_readFields_46 ?_
          refine r_iload F 0 rfl d4_readFields_48 ?_
          refine r_gets0 F ls0 d4_readFields_50 ?_
          refine r_iload_n F 3 rfl rfl d4_readFields_53 ?_
          obtain ⟨hx1, h⟩ := wpo_chk h
          refine r_tab0 F hx1 d4_readFields_54 ?_
          refine r_icmp_lt F (tgt := 68) d4_readFields_55 (by decide) (fun hb => ?_) (fun hb => ?_)
          · replace h := wpo_pos h hb
            refine r_aload_nR F 1 rfl rfl d4_readFields_68 ?_
            refine r_iconst F (z := 2) d4_readFields_69 ?_
            replace h := wpo_bind h
            refine r_callV0 F lm4_66 mf4_failed (vc3 hn) rfl (fr := 0) (lo := 0) (As := [vI 2]) (rest := []) ⟨Nat.le_of_ble_eq_true rfl, Nat.le_of_ble_eq_true rfl⟩ rfl (Nat.le_of_ble_eq_true rfl) ⟨Nat.zero_le _, Nat.zero_le _⟩ d4_readFields_70 ?_
            refine ok4_failed hn  (kIm h (fun a6 h => ?_))
            obtain ⟨hx2, h⟩ := wpo_chk h
            replace h := el_r (wpo_inr h)
            exact r_zret F hx2 h d4_readFields_73
          · replace h := wpo_neg h hb
            refine r_iload F 0 rfl d4_readFields_58 ?_
            refine r_gets1 F ls1 d4_readFields_60 ?_
            refine r_iload_n F 3 rfl rfl d4_readFields_63 ?_
            refine r_tab1 F hx1 d4_readFields_64 ?_
            refine r_icmp_le F (tgt := 74) d4_readFields_65 (by decide) (fun hb => ?_) (fun hb => ?_)
            · replace h := wpo_neg h hb
              refine r_aload_nR F 1 rfl rfl d4_readFields_74 ?_
              refine r_getR F (z := 4) lf4_12 (vc3 hn) z3_1 d4_readFields_75 ?_
              refine r_iload_n F 3 rfl rfl d4_readFields_78 ?_
              refine r_iload F 0 rfl d4_readFields_79 ?_
              replace h := wpo_bind h
              refine r_callV0 F lm4_85 mf2_tell (vc4 hn) rfl (fr := 1) (lo := 23) (As := [vI s1.1, vI a5]) (rest := []) ⟨Nat.le_of_ble_eq_true rfl, Nat.le_of_ble_eq_true rfl⟩ rfl (Nat.le_of_ble_eq_true rfl) ⟨Nat.zero_le _, Nat.zero_le _⟩ d4_readFields_81 ?_
              refine ok2_tell hn (vc4 hn) (kVm h (fun a7 h => ?_))
              refine r_iinc F 3 (lv' := [(3, vI (s1.1 + 1)), (4, vI a5), (0, vR X 3), (2, vI p1)]) rfl (Nat.le_of_ble_eq_true rfl) rfl d4_readFields_84 ?_
              refine r_goto F (tgt := 2) (by decide) d4_readFields_87 ?_
              refine r_weak [2, 3, 0] rfl ?_
              replace h := wpo_inl h
              exact h
            · replace h := wpo_pos h hb
              refine r_aload_nR F 1 rfl rfl d4_readFields_68 ?_
              refine r_iconst F (z := 2) d4_readFields_69 ?_
              replace h := wpo_bind h
              refine r_callV0 F lm4_66 mf4_failed (vc3 hn) rfl (fr := 0) (lo := 0) (As := [vI 2]) (rest := []) ⟨Nat.le_of_ble_eq_true rfl, Nat.le_of_ble_eq_true rfl⟩ rfl (Nat.le_of_ble_eq_true rfl) ⟨Nat.zero_le _, Nat.zero_le _⟩ d4_readFields_70 ?_
              refine ok4_failed hn  (kIm h (fun a8 h => ?_))
              obtain ⟨hx3, h⟩ := wpo_chk h
              replace h := el_r (wpo_inr h)
              exact r_zret F hx3 h d4_readFields_73
        · replace h := wpo_neg h hb
          refine r_aload_nR F 0 rfl rfl d4_readFields_36 ?_
          refine r_iconst F (z := 1) d4_readFields_37 ?_
          replace h := wpo_bind h
          refine r_callV0 F lm4_66 mf4_failed (vc3 hn) rfl (fr := 0) (lo := 0) (As := [vI 1]) (rest := []) ⟨Nat.le_of_ble_eq_true rfl, Nat.le_of_ble_eq_true rfl⟩ rfl (Nat.le_of_ble_eq_true rfl) ⟨Nat.zero_le _, Nat.zero_le _⟩ d4_readFields_38 ?_
          refine ok4_failed hn  (kIm h (fun a9 h => ?_))
          obtain ⟨hx4, h⟩ := wpo_chk h
          replace h := el_r (wpo_inr h)
          exact r_zret F hx4 h d4_readFields_41
      · replace h := wpo_pos h hb
        refine r_iconst F (z := 0) d4_readFields_22 ?_
        replace h := el_r (wpo_inr h)
        exact r_zret F (Or.inl rfl) h d4_readFields_23
theorem d4_readLine_0 : decode c4_readLine 0 = .ok (.iload_n 1, 1) := by decide +kernel
theorem d4_readLine_1 : decode c4_readLine 1 = .ok (.ifCond .eq 28, 3) := by decide +kernel
theorem d4_readLine_4 : decode c4_readLine 4 = .ok (.aload_n 0, 1) := by decide +kernel
theorem d4_readLine_5 : decode c4_readLine 5 = .ok (.ldc 51, 2) := by decide +kernel
theorem d4_readLine_7 : decode c4_readLine 7 = .ok (.invokevirtual 53, 3) := by decide +kernel
theorem d4_readLine_10 : decode c4_readLine 10 = .ok (.ifCond .eq 17, 3) := by decide +kernel
theorem d4_readLine_13 : decode c4_readLine 13 = .ok (.aload_n 0, 1) := by decide +kernel
theorem d4_readLine_14 : decode c4_readLine 14 = .ok (.iconst 0, 1) := by decide +kernel
theorem d4_readLine_15 : decode c4_readLine 15 = .ok (.bipush 7, 2) := by decide +kernel
theorem d4_readLine_17 : decode c4_readLine 17 = .ok (.invokevirtual 57, 3) := by decide +kernel
theorem d4_readLine_20 : decode c4_readLine 20 = .ok (.ifCond .eq 7, 3) := by decide +kernel
theorem d4_readLine_23 : decode c4_readLine 23 = .ok (.iconst 1, 1) := by decide +kernel
theorem d4_readLine_24 : decode c4_readLine 24 = .ok (.goto 4, 3) := by decide +kernel
theorem d4_readLine_27 : decode c4_readLine 27 = .ok (.iconst 0, 1) := by decide +kernel
theorem d4_readLine_28 : decode c4_readLine 28 = .ok (.ireturn, 1) := by decide +kernel
theorem d4_readLine_29 : decode c4_readLine 29 = .ok (.aload_n 0, 1) := by decide +kernel
theorem d4_readLine_30 : decode c4_readLine 30 = .ok (.ldc 61, 2) := by decide +kernel
theorem d4_readLine_32 : decode c4_readLine 32 = .ok (.invokevirtual 53, 3) := by decide +kernel
theorem d4_readLine_35 : decode c4_readLine 35 = .ok (.ifCond .ne 5, 3) := by decide +kernel
theorem d4_readLine_38 : decode c4_readLine 38 = .ok (.iconst 0, 1) := by decide +kernel
theorem d4_readLine_39 : decode c4_readLine 39 = .ok (.ireturn, 1) := by decide +kernel
theorem d4_readLine_40 : decode c4_readLine 40 = .ok (.aload_n 0, 1) := by decide +kernel
theorem d4_readLine_41 : decode c4_readLine 41 = .ok (.getfield 12, 3) := by decide +kernel
theorem d4_readLine_44 : decode c4_readLine 44 = .ok (.getfield 63, 3) := by decide +kernel
theorem d4_readLine_47 : decode c4_readLine 47 = .ok (.bipush 8, 2) := by decide +kernel
theorem d4_readLine_49 : decode c4_readLine 49 = .ok (.if_icmp .lt 9, 3) := by decide +kernel
theorem d4_readLine_52 : decode c4_readLine 52 = .ok (.aload_n 0, 1) := by decide +kernel
theorem d4_readLine_53 : decode c4_readLine 53 = .ok (.iconst 3, 1) := by decide +kernel
theorem d4_readLine_54 : decode c4_readLine 54 = .ok (.invokevirtual 66, 3) := by decide +kernel
theorem d4_readLine_57 : decode c4_readLine 57 = .ok (.ireturn, 1) := by decide +kernel
theorem d4_readLine_58 : decode c4_readLine 58 = .ok (.aload_n 0, 1) := by decide +kernel
theorem d4_readLine_59 : decode c4_readLine 59 = .ok (.getfield 12, 3) := by decide +kernel
theorem d4_readLine_62 : decode c4_readLine 62 = .ok (.dup, 1) := by decide +kernel
theorem d4_readLine_63 : decode c4_readLine 63 = .ok (.getfield 63, 3) := by decide +kernel
theorem d4_readLine_66 : decode c4_readLine 66 = .ok (.iconst 1, 1) := by decide +kernel
theorem d4_readLine_67 : decode c4_readLine 67 = .ok (.iadd, 1) := by decide +kernel
theorem d4_readLine_68 : decode c4_readLine 68 = .ok (.putfield 63, 3) := by decide +kernel
theorem d4_readLine_71 : decode c4_readLine 71 = .ok (.aload_n 0, 1) := by decide +kernel
theorem d4_readLine_72 : decode c4_readLine 72 = .ok (.bipush 7, 2) := by decide +kernel
theorem d4_readLine_74 : decode c4_readLine 74 = .ok (.bipush 11, 2) := by decide +kernel
theorem d4_readLine_76 : decode c4_readLine 76 = .ok (.invokevirtual 57, 3) := by decide +kernel
theorem d4_readLine_79 : decode c4_readLine 79 = .ok (.ireturn, 1) := by decide +kernel
def f4_readLine (D : Mem) (p0 : Int) : Option (Int × Mem) :=
  if w32 p0 = 0 then
    Option.bind (f4_isWord D 8) fun (a1 : Int × Mem) =>
    if w32 a1.1 = 0 then
      some (0, a1.2)
    else
      if w32 (a1.2 4 8) < w32 8 then
        Option.bind (some (mset a1.2 4 8 ((a1.2 4 8) + 1))) fun (D1 : Mem) =>
        Option.bind (f4_readFields D1 7 11) fun (a2 : Int × Mem) =>
        if a2.1 = 0 ∨ a2.1 = 1 then
          some (a2.1, a2.2)
        else none
      else
        Option.bind (f4_failed a1.2 3) fun (a3 : Int × Mem) =>
        if a3.1 = 0 ∨ a3.1 = 1 then
          some (a3.1, a3.2)
        else none
  else
    Option.bind (f4_isWord D 0) fun (a4 : Int × Mem) =>
    if w32 a4.1 = 0 then
      some (0, a4.2)
    else
      Option.bind (f4_readFields a4.2 0 7) fun (a5 : Int × Mem) =>
      if w32 a5.1 = 0 then
        some (0, a5.2)
      else
        some (1, a5.2)
set_option maxHeartbeats 4000000 in
theorem ok4_readLine {l : Launch} {X : XT} {n : Nat} {D : Mem} {Q : Option Value → Nat → Rho → Mem → Prop} (hn : 117 ≤ n) {p0 : Int}  (h : wpo (f4_readLine D p0) (fun a => Q (some (vI a.1)) n rt a.2)) : MOK l y4_readLine c4_readLine 2 (some .boolean) { frames := 6, cells := 0, slots := 0, locals := 131 } 0 0 X [vR X 3, vI p0] n rt D Q := by
  refine MOK_of 4 (by decide +kernel) rfl (lv := [(0, vR X 3), (1, vI p0)]) (Nat.le_of_ble_eq_true rfl) rfl (fun K hK F hnm => ?_)
  subst hK
  unfold f4_readLine at h
  refine r_iload_n F 1 rfl rfl d4_readLine_0 ?_
  refine r_if_eq F (tgt := 29) d4_readLine_1 (by decide) (fun hb => ?_) (fun hb => ?_)
  · replace h := wpo_pos h hb
    refine r_aload_nR F 0 rfl rfl d4_readLine_29 ?_
    refine r_ldcS F (j := 8) (tx := "person") lc4_61 d4_readLine_30 ?_
    replace h := wpo_bind h
    refine r_callV0 F lm4_53 mf4_isWord (vc3 hn) rfl (fr := 4) (lo := 85) (As := [vS X 8]) (rest := []) ⟨Nat.le_of_ble_eq_true rfl, Nat.le_of_ble_eq_true rfl⟩ rfl (Nat.le_of_ble_eq_true rfl) ⟨Nat.zero_le _, Nat.zero_le _⟩ d4_readLine_32 ?_
    refine ok4_isWord hn (Nat.le_of_ble_eq_true rfl) (kIm h (fun a1 h => ?_))
    refine r_if_ne F (tgt := 40) d4_readLine_35 (by decide) (fun hb => ?_) (fun hb => ?_)
    · replace h := wpo_neg h hb
      refine r_aload_nR F 0 rfl rfl d4_readLine_40 ?_
      refine r_getR F (z := 4) lf4_12 (vc3 hn) z3_1 d4_readLine_41 ?_
      refine r_getI F lf4_63 (vc4 hn) d4_readLine_44 ?_
      refine r_bipush F (z := 8) (by decide) d4_readLine_47 ?_
      refine r_icmp_lt F (tgt := 58) d4_readLine_49 (by decide) (fun hb => ?_) (fun hb => ?_)
      · replace h := wpo_pos h hb
        refine r_aload_nR F 0 rfl rfl d4_readLine_58 ?_
        refine r_getR F (z := 4) lf4_12 (vc3 hn) z3_1 d4_readLine_59 ?_
        refine r_dup F rfl d4_readLine_62 ?_
        refine r_getI F lf4_63 (vc4 hn) d4_readLine_63 ?_
        refine r_iconst F (z := 1) d4_readLine_66 ?_
        refine r_iadd F d4_readLine_67 ?_
        refine r_putI F lf4_63 rfl rfl (vc4 hn) d4_readLine_68 ?_
        refine r_aload_nR F 0 rfl rfl d4_readLine_71 ?_
        refine r_bipush F (z := 7) (by decide) d4_readLine_72 ?_
        refine r_bipush F (z := 11) (by decide) d4_readLine_74 ?_
        refine at_name (B := fun (D1 : Mem) => At K X (ZQ K X Q) 0 0 n rt 2 76 [(0, vR X 3), (1, vI p0)] [vI 11, vI 7, vR X 3] D1) h (fun D1 h => ?_)
        replace h := wpo_bind h
        refine r_callV0 F lm4_57 mf4_readFields (vc3 hn) rfl (fr := 5) (lo := 107) (As := [vI 7, vI 11]) (rest := []) ⟨Nat.le_of_ble_eq_true rfl, Nat.le_of_ble_eq_true rfl⟩ rfl (Nat.le_of_ble_eq_true rfl) ⟨Nat.zero_le _, Nat.zero_le _⟩ d4_readLine_76 ?_
        refine ok4_readFields hn  (kIm h (fun a2 h => ?_))
        obtain ⟨hx1, h⟩ := wpo_chk h
        replace h := wpo_some h
        exact r_zret F hx1 h d4_readLine_79
      · replace h := wpo_neg h hb
        refine r_aload_nR F 0 rfl rfl d4_readLine_52 ?_
        refine r_iconst F (z := 3) d4_readLine_53 ?_
        replace h := wpo_bind h
        refine r_callV0 F lm4_66 mf4_failed (vc3 hn) rfl (fr := 0) (lo := 0) (As := [vI 3]) (rest := []) ⟨Nat.le_of_ble_eq_true rfl, Nat.le_of_ble_eq_true rfl⟩ rfl (Nat.le_of_ble_eq_true rfl) ⟨Nat.zero_le _, Nat.zero_le _⟩ d4_readLine_54 ?_
        refine ok4_failed hn  (kIm h (fun a3 h => ?_))
        obtain ⟨hx2, h⟩ := wpo_chk h
        replace h := wpo_some h
        exact r_zret F hx2 h d4_readLine_57
    · replace h := wpo_pos h hb
      refine r_iconst F (z := 0) d4_readLine_38 ?_
      replace h := wpo_some h
      exact r_zret F (Or.inl rfl) h d4_readLine_39
  · replace h := wpo_neg h hb
    refine r_aload_nR F 0 rfl rfl d4_readLine_4 ?_
    refine r_ldcS F (j := 0) (tx := "parish") lc4_51 d4_readLine_5 ?_
    replace h := wpo_bind h
    refine r_callV0 F lm4_53 mf4_isWord (vc3 hn) rfl (fr := 4) (lo := 85) (As := [vS X 0]) (rest := []) ⟨Nat.le_of_ble_eq_true rfl, Nat.le_of_ble_eq_true rfl⟩ rfl (Nat.le_of_ble_eq_true rfl) ⟨Nat.zero_le _, Nat.zero_le _⟩ d4_readLine_7 ?_
    refine ok4_isWord hn (Nat.le_of_ble_eq_true rfl) (kIm h (fun a4 h => ?_))
    refine r_if_eq F (tgt := 27) d4_readLine_10 (by decide) (fun hb => ?_) (fun hb => ?_)
    · replace h := wpo_pos h hb
      refine r_iconst F (z := 0) d4_readLine_27 ?_
      replace h := wpo_some h
      exact r_zret F (Or.inl rfl) h d4_readLine_28
    · replace h := wpo_neg h hb
      refine r_aload_nR F 0 rfl rfl d4_readLine_13 ?_
      refine r_iconst F (z := 0) d4_readLine_14 ?_
      refine r_bipush F (z := 7) (by decide) d4_readLine_15 ?_
      replace h := wpo_bind h
      refine r_callV0 F lm4_57 mf4_readFields (vc3 hn) rfl (fr := 5) (lo := 107) (As := [vI 0, vI 7]) (rest := []) ⟨Nat.le_of_ble_eq_true rfl, Nat.le_of_ble_eq_true rfl⟩ rfl (Nat.le_of_ble_eq_true rfl) ⟨Nat.zero_le _, Nat.zero_le _⟩ d4_readLine_17 ?_
      refine ok4_readFields hn  (kIm h (fun a5 h => ?_))
      refine r_if_eq F (tgt := 27) d4_readLine_20 (by decide) (fun hb => ?_) (fun hb => ?_)
      · replace h := wpo_pos h hb
        refine r_iconst F (z := 0) d4_readLine_27 ?_
        replace h := wpo_some h
        exact r_zret F (Or.inl rfl) h d4_readLine_28
      · replace h := wpo_neg h hb
        refine r_iconst F (z := 1) d4_readLine_23 ?_
        refine r_goto F (tgt := 28) (by decide) d4_readLine_24 ?_
        replace h := wpo_some h
        exact r_zret F (Or.inr rfl) h d4_readLine_28
theorem d4_read_0 : decode c4_read 0 = .ok (.aload_n 0, 1) := by decide +kernel
theorem d4_read_1 : decode c4_read 1 = .ok (.getfield 12, 3) := by decide +kernel
theorem d4_read_4 : decode c4_read 4 = .ok (.invokevirtual 38, 3) := by decide +kernel
theorem d4_read_7 : decode c4_read 7 = .ok (.aload_n 0, 1) := by decide +kernel
theorem d4_read_8 : decode c4_read 8 = .ok (.iconst 0, 1) := by decide +kernel
theorem d4_read_9 : decode c4_read 9 = .ok (.putfield 18, 3) := by decide +kernel
theorem d4_read_12 : decode c4_read 12 = .ok (.aload_n 0, 1) := by decide +kernel
theorem d4_read_13 : decode c4_read 13 = .ok (.iconst (-1), 1) := by decide +kernel
theorem d4_read_14 : decode c4_read 14 = .ok (.putfield 22, 3) := by decide +kernel
theorem d4_read_17 : decode c4_read 17 = .ok (.aload_n 0, 1) := by decide +kernel
theorem d4_read_18 : decode c4_read 18 = .ok (.iconst 0, 1) := by decide +kernel
theorem d4_read_19 : decode c4_read 19 = .ok (.putfield 31, 3) := by decide +kernel
theorem d4_read_22 : decode c4_read 22 = .ok (.iconst 0, 1) := by decide +kernel
theorem d4_read_23 : decode c4_read 23 = .ok (.istore_n 1, 1) := by decide +kernel
theorem d4_read_24 : decode c4_read 24 = .ok (.iload_n 1, 1) := by decide +kernel
theorem d4_read_25 : decode c4_read 25 = .ok (.sipush 700, 3) := by decide +kernel
theorem d4_read_28 : decode c4_read 28 = .ok (.if_icmp .gt 53, 3) := by decide +kernel
theorem d4_read_31 : decode c4_read 31 = .ok (.aload_n 0, 1) := by decide +kernel
theorem d4_read_32 : decode c4_read 32 = .ok (.invokevirtual 41, 3) := by decide +kernel
theorem d4_read_35 : decode c4_read 35 = .ok (.aload_n 0, 1) := by decide +kernel
theorem d4_read_36 : decode c4_read 36 = .ok (.getfield 25, 3) := by decide +kernel
theorem d4_read_39 : decode c4_read 39 = .ok (.ifCond .ne 5, 3) := by decide +kernel
theorem d4_read_42 : decode c4_read 42 = .ok (.iconst 1, 1) := by decide +kernel
theorem d4_read_43 : decode c4_read 43 = .ok (.ireturn, 1) := by decide +kernel
theorem d4_read_44 : decode c4_read 44 = .ok (.aload_n 0, 1) := by decide +kernel
theorem d4_read_45 : decode c4_read 45 = .ok (.iload_n 1, 1) := by decide +kernel
theorem d4_read_46 : decode c4_read 46 = .ok (.ifCond .ne 7, 3) := by decide +kernel
theorem d4_read_49 : decode c4_read 49 = .ok (.iconst 1, 1) := by decide +kernel
theorem d4_read_50 : decode c4_read 50 = .ok (.goto 4, 3) := by decide +kernel
theorem d4_read_53 : decode c4_read 53 = .ok (.iconst 0, 1) := by decide +kernel
theorem d4_read_54 : decode c4_read 54 = .ok (.invokevirtual 44, 3) := by decide +kernel
theorem d4_read_57 : decode c4_read 57 = .ok (.ifCond .ne 5, 3) := by decide +kernel
theorem d4_read_60 : decode c4_read 60 = .ok (.iconst 0, 1) := by decide +kernel
theorem d4_read_61 : decode c4_read 61 = .ok (.ireturn, 1) := by decide +kernel
theorem d4_read_62 : decode c4_read 62 = .ok (.aload_n 0, 1) := by decide +kernel
theorem d4_read_63 : decode c4_read 63 = .ok (.getfield 12, 3) := by decide +kernel
theorem d4_read_66 : decode c4_read 66 = .ok (.dup, 1) := by decide +kernel
theorem d4_read_67 : decode c4_read 67 = .ok (.getfield 48, 3) := by decide +kernel
theorem d4_read_70 : decode c4_read 70 = .ok (.iconst 1, 1) := by decide +kernel
theorem d4_read_71 : decode c4_read 71 = .ok (.iadd, 1) := by decide +kernel
theorem d4_read_72 : decode c4_read 72 = .ok (.putfield 48, 3) := by decide +kernel
theorem d4_read_75 : decode c4_read 75 = .ok (.iinc 1 1, 3) := by decide +kernel
theorem d4_read_78 : decode c4_read 78 = .ok (.goto (-54), 3) := by decide +kernel
theorem d4_read_81 : decode c4_read 81 = .ok (.iconst 1, 1) := by decide +kernel
theorem d4_read_82 : decode c4_read 82 = .ok (.ireturn, 1) := by decide +kernel
def f4_read (D : Mem) : Option (Int × Mem) :=
  Option.bind (f2_clear D 4) fun (a1 : Mem) =>
  Option.bind (some (mset a1 3 2 0)) fun (D1 : Mem) =>
  Option.bind (some (mset D1 3 3 (-1))) fun (D2 : Mem) =>
  Option.bind (some (mset D2 3 6 0)) fun (D3 : Mem) =>
  Option.bind (@loop (Int × Mem) ((Mem) ⊕ (Int × Mem)) (fun s1 =>
    if w32 700 < w32 s1.1 then
      some (Sum.inr (Sum.inl s1.2))
    else
      Option.bind (f4_next s1.2) fun (a2 : Mem) =>
      if w32 (a2 3 4) = 0 then
        some (Sum.inr (Sum.inr (1, a2)))
      else
        Option.bind (
          if w32 s1.1 = 0 then
            some 1
          else
            some 0
        ) fun (j1 : Int) =>
        Option.bind (f4_readLine a2 j1) fun (a3 : Int × Mem) =>
        if w32 a3.1 = 0 then
          some (Sum.inr (Sum.inr (0, a3.2)))
        else
          some (Sum.inl ((s1.1 + 1), (mset a3.2 4 0 ((a3.2 4 0) + 1))))
  ) FU (0, D3)) (fun z => Sum.elim (fun (b1 : Mem) =>
    some (1, b1)
  ) (fun rv => some rv) z)
set_option maxHeartbeats 4000000 in
theorem ok4_read {l : Launch} {X : XT} {n : Nat} {D : Mem} {Q : Option Value → Nat → Rho → Mem → Prop} (hn : 117 ≤ n)  (h : wpo (f4_read D) (fun a => Q (some (vI a.1)) n rt a.2)) : MOK l y4_read c4_read 2 (some .boolean) { frames := 7, cells := 0, slots := 0, locals := 152 } 0 0 X [vR X 3] n rt D Q := by
  refine MOK_of 4 (by decide +kernel) rfl (lv := [(0, vR X 3)]) (Nat.le_of_ble_eq_true rfl) rfl (fun K hK F hnm => ?_)
  subst hK
  unfold f4_read at h
  refine r_aload_nR F 0 rfl rfl d4_read_0 ?_
  refine r_getR F (z := 4) lf4_12 (vc3 hn) z3_1 d4_read_1 ?_
  replace h := wpo_bind h
  refine r_callV0 F lm4_38 mf2_clear (vc4 hn) rfl (fr := 0) (lo := 0) (As := []) (rest := []) ⟨Nat.le_of_ble_eq_true rfl, Nat.le_of_ble_eq_true rfl⟩ rfl (Nat.le_of_ble_eq_true rfl) ⟨Nat.zero_le _, Nat.zero_le _⟩ d4_read_4 ?_
  refine ok2_clear hn (vc4 hn) (kVm h (fun a1 h => ?_))
  refine r_aload_nR F 0 rfl rfl d4_read_7 ?_
  refine r_iconst F (z := 0) d4_read_8 ?_
  refine r_putI F lf4_18 rfl rfl (vc3 hn) d4_read_9 ?_
  refine r_aload_nR F 0 rfl rfl d4_read_12 ?_
  refine r_iconst F (z := (-1)) d4_read_13 ?_
  refine at_name (B := fun (D1 : Mem) => At K X (ZQ K X Q) 0 0 n rt 2 14 [(0, vR X 3)] [vI (-1), vR X 3] D1) h (fun D1 h => ?_)
  refine r_putI F lf4_22 rfl rfl (vc3 hn) d4_read_14 ?_
  refine r_aload_nR F 0 rfl rfl d4_read_17 ?_
  refine r_iconst F (z := 0) d4_read_18 ?_
  refine at_name (B := fun (D2 : Mem) => At K X (ZQ K X Q) 0 0 n rt 2 19 [(0, vR X 3)] [vI 0, vR X 3] D2) h (fun D2 h => ?_)
  refine r_putI F lf4_31 rfl rfl (vc3 hn) d4_read_19 ?_
  refine r_iconst F (z := 0) d4_read_22 ?_
  refine r_istore_n F (lv' := [(1, vI 0), (0, vR X 3)]) rfl (Nat.le_of_ble_eq_true rfl) rfl d4_read_23 ?_
  refine at_name (B := fun (D3 : Mem) => At K X (ZQ K X Q) 0 0 n rt 2 24 [(1, vI 0), (0, vR X 3)] [] D3) h (fun D3 h => ?_)
  refine r_weak [1, 0] rfl ?_
  refine at_loopj (A := fun (s1 : Int × Mem) => At K X (ZQ K X Q) 0 0 n rt 2 24 [(0, vR X 3), (1, vI s1.1)] [] s1.2) (B := Sum.elim (fun (b1 : Mem) => At K X (ZQ K X Q) 0 0 n rt 2 81 [] [] b1) (fun rv => Q (some (vI rv.1)) n rt rv.2)) h (fun z h => ?_) (fun s1 h => ?_)
  · rcases z with b1 | rv
    · replace h := elim_l h
      refine el_li ?_
      refine r_iconst F (z := 1) d4_read_81 ?_
      replace h := wpo_some h
      exact r_zret F (Or.inr rfl) h d4_read_82
    · replace h := elim_r h
      replace h := wpo_some h
      exact el_ri h
  · refine r_iload_n F 1 rfl rfl d4_read_24 ?_
    refine r_sipush F (z := 700) (by decide) d4_read_25 ?_
    refine r_icmp_gt F (tgt := 81) d4_read_28 (by decide) (fun hb => ?_) (fun hb => ?_)
    · replace h := wpo_pos h hb
      refine r_weak [] rfl ?_
      replace h := wpo_inr h
      replace h := el_l h
      exact h
    · replace h := wpo_neg h hb
      refine r_aload_nR F 0 rfl rfl d4_read_31 ?_
      replace h := wpo_bind h
      refine r_callV0 F lm4_41 mf4_next (vc3 hn) rfl (fr := 1) (lo := 20) (As := []) (rest := []) ⟨Nat.le_of_ble_eq_true rfl, Nat.le_of_ble_eq_true rfl⟩ rfl (Nat.le_of_ble_eq_true rfl) ⟨Nat.zero_le _, Nat.zero_le _⟩ d4_read_32 ?_
      refine ok4_next hn  (kVm h (fun a2 h => ?_))
      refine r_aload_nR F 0 rfl rfl d4_read_35 ?_
      refine r_getI F lf4_25 (vc3 hn) d4_read_36 ?_
      refine r_if_ne F (tgt := 44) d4_read_39 (by decide) (fun hb => ?_) (fun hb => ?_)
      · replace h := wpo_neg h hb
        refine r_aload_nR F 0 rfl rfl d4_read_44 ?_
        refine r_iload_n F 1 rfl rfl d4_read_45 ?_
        refine at_join (B := fun (j1 : Int) => At K X (ZQ K X Q) 0 0 n rt 2 54 [(0, vR X 3), (1, vI s1.1)] [vI j1, vR X 3] a2) h (fun j1 h => ?_) (fun h => ?_)
        · replace h := wpo_bind h
          refine r_callV0 F lm4_44 mf4_readLine (vc3 hn) rfl (fr := 6) (lo := 131) (As := [vI j1]) (rest := []) ⟨Nat.le_of_ble_eq_true rfl, Nat.le_of_ble_eq_true rfl⟩ rfl (Nat.le_of_ble_eq_true rfl) ⟨Nat.zero_le _, Nat.zero_le _⟩ d4_read_54 ?_
          refine ok4_readLine hn  (kIm h (fun a3 h => ?_))
          refine r_if_ne F (tgt := 62) d4_read_57 (by decide) (fun hb => ?_) (fun hb => ?_)
          · replace h := wpo_neg h hb
            refine r_aload_nR F 0 rfl rfl d4_read_62 ?_
            refine r_getR F (z := 4) lf4_12 (vc3 hn) z3_1 d4_read_63 ?_
            refine r_dup F rfl d4_read_66 ?_
            refine r_getI F lf4_48 (vc4 hn) d4_read_67 ?_
            refine r_iconst F (z := 1) d4_read_70 ?_
            refine r_iadd F d4_read_71 ?_
            refine r_putI F lf4_48 rfl rfl (vc4 hn) d4_read_72 ?_
            refine r_iinc F 1 (lv' := [(1, vI (s1.1 + 1)), (0, vR X 3)]) rfl (Nat.le_of_ble_eq_true rfl) rfl d4_read_75 ?_
            refine r_goto F (tgt := 24) (by decide) d4_read_78 ?_
            refine r_weak [1, 0] rfl ?_
            replace h := wpo_inl h
            exact h
          · replace h := wpo_pos h hb
            refine r_iconst F (z := 0) d4_read_60 ?_
            replace h := el_r (wpo_inr h)
            exact r_zret F (Or.inl rfl) h d4_read_61
        · refine r_if_ne F (tgt := 53) d4_read_46 (by decide) (fun hb => ?_) (fun hb => ?_)
          · replace h := wpo_neg h hb
            refine r_iconst F (z := 0) d4_read_53 ?_
            replace h := wpo_some h
            exact h
          · replace h := wpo_pos h hb
            refine r_iconst F (z := 1) d4_read_49 ?_
            refine r_goto F (tgt := 54) (by decide) d4_read_50 ?_
            replace h := wpo_some h
            exact h
      · replace h := wpo_pos h hb
        refine r_iconst F (z := 1) d4_read_42 ?_
        replace h := el_r (wpo_inr h)
        exact r_zret F (Or.inr rfl) h d4_read_43
theorem d2_become_0 : decode c2_become 0 = .ok (.aload_n 0, 1) := by decide +kernel
theorem d2_become_1 : decode c2_become 1 = .ok (.aload_n 1, 1) := by decide +kernel
theorem d2_become_2 : decode c2_become 2 = .ok (.getfield 9, 3) := by decide +kernel
theorem d2_become_5 : decode c2_become 5 = .ok (.putfield 9, 3) := by decide +kernel
theorem d2_become_8 : decode c2_become 8 = .ok (.aload_n 0, 1) := by decide +kernel
theorem d2_become_9 : decode c2_become 9 = .ok (.aload_n 1, 1) := by decide +kernel
theorem d2_become_10 : decode c2_become 10 = .ok (.getfield 15, 3) := by decide +kernel
theorem d2_become_13 : decode c2_become 13 = .ok (.putfield 15, 3) := by decide +kernel
theorem d2_become_16 : decode c2_become 16 = .ok (.aload_n 0, 1) := by decide +kernel
theorem d2_become_17 : decode c2_become 17 = .ok (.aload_n 1, 1) := by decide +kernel
theorem d2_become_18 : decode c2_become 18 = .ok (.getfield 18, 3) := by decide +kernel
theorem d2_become_21 : decode c2_become 21 = .ok (.putfield 18, 3) := by decide +kernel
theorem d2_become_24 : decode c2_become 24 = .ok (.aload_n 0, 1) := by decide +kernel
theorem d2_become_25 : decode c2_become 25 = .ok (.aload_n 1, 1) := by decide +kernel
theorem d2_become_26 : decode c2_become 26 = .ok (.getfield 21, 3) := by decide +kernel
theorem d2_become_29 : decode c2_become 29 = .ok (.putfield 21, 3) := by decide +kernel
theorem d2_become_32 : decode c2_become 32 = .ok (.aload_n 0, 1) := by decide +kernel
theorem d2_become_33 : decode c2_become 33 = .ok (.aload_n 1, 1) := by decide +kernel
theorem d2_become_34 : decode c2_become 34 = .ok (.getfield 24, 3) := by decide +kernel
theorem d2_become_37 : decode c2_become 37 = .ok (.putfield 24, 3) := by decide +kernel
theorem d2_become_40 : decode c2_become 40 = .ok (.aload_n 0, 1) := by decide +kernel
theorem d2_become_41 : decode c2_become 41 = .ok (.aload_n 1, 1) := by decide +kernel
theorem d2_become_42 : decode c2_become 42 = .ok (.getfield 27, 3) := by decide +kernel
theorem d2_become_45 : decode c2_become 45 = .ok (.putfield 27, 3) := by decide +kernel
theorem d2_become_48 : decode c2_become 48 = .ok (.aload_n 0, 1) := by decide +kernel
theorem d2_become_49 : decode c2_become 49 = .ok (.aload_n 1, 1) := by decide +kernel
theorem d2_become_50 : decode c2_become 50 = .ok (.getfield 30, 3) := by decide +kernel
theorem d2_become_53 : decode c2_become 53 = .ok (.putfield 30, 3) := by decide +kernel
theorem d2_become_56 : decode c2_become 56 = .ok (.aload_n 0, 1) := by decide +kernel
theorem d2_become_57 : decode c2_become 57 = .ok (.aload_n 1, 1) := by decide +kernel
theorem d2_become_58 : decode c2_become 58 = .ok (.getfield 33, 3) := by decide +kernel
theorem d2_become_61 : decode c2_become 61 = .ok (.putfield 33, 3) := by decide +kernel
theorem d2_become_64 : decode c2_become 64 = .ok (.aload_n 0, 1) := by decide +kernel
theorem d2_become_65 : decode c2_become 65 = .ok (.aload_n 1, 1) := by decide +kernel
theorem d2_become_66 : decode c2_become 66 = .ok (.getfield 36, 3) := by decide +kernel
theorem d2_become_69 : decode c2_become 69 = .ok (.putfield 36, 3) := by decide +kernel
theorem d2_become_72 : decode c2_become 72 = .ok (.aload_n 0, 1) := by decide +kernel
theorem d2_become_73 : decode c2_become 73 = .ok (.aload_n 1, 1) := by decide +kernel
theorem d2_become_74 : decode c2_become 74 = .ok (.getfield 39, 3) := by decide +kernel
theorem d2_become_77 : decode c2_become 77 = .ok (.putfield 39, 3) := by decide +kernel
theorem d2_become_80 : decode c2_become 80 = .ok (.aload_n 1, 1) := by decide +kernel
theorem d2_become_81 : decode c2_become 81 = .ok (.getfield 42, 3) := by decide +kernel
theorem d2_become_84 : decode c2_become 84 = .ok (.iconst 0, 1) := by decide +kernel
theorem d2_become_85 : decode c2_become 85 = .ok (.aload_n 0, 1) := by decide +kernel
theorem d2_become_86 : decode c2_become 86 = .ok (.getfield 42, 3) := by decide +kernel
theorem d2_become_89 : decode c2_become 89 = .ok (.iconst 0, 1) := by decide +kernel
theorem d2_become_90 : decode c2_become 90 = .ok (.bipush 8, 2) := by decide +kernel
theorem d2_become_92 : decode c2_become 92 = .ok (.invokestatic 64, 3) := by decide +kernel
theorem d2_become_95 : decode c2_become 95 = .ok (.aload_n 1, 1) := by decide +kernel
theorem d2_become_96 : decode c2_become 96 = .ok (.getfield 46, 3) := by decide +kernel
theorem d2_become_99 : decode c2_become 99 = .ok (.iconst 0, 1) := by decide +kernel
theorem d2_become_100 : decode c2_become 100 = .ok (.aload_n 0, 1) := by decide +kernel
theorem d2_become_101 : decode c2_become 101 = .ok (.getfield 46, 3) := by decide +kernel
theorem d2_become_104 : decode c2_become 104 = .ok (.iconst 0, 1) := by decide +kernel
theorem d2_become_105 : decode c2_become 105 = .ok (.bipush 8, 2) := by decide +kernel
theorem d2_become_107 : decode c2_become 107 = .ok (.invokestatic 64, 3) := by decide +kernel
theorem d2_become_110 : decode c2_become 110 = .ok (.aload_n 1, 1) := by decide +kernel
theorem d2_become_111 : decode c2_become 111 = .ok (.getfield 49, 3) := by decide +kernel
theorem d2_become_114 : decode c2_become 114 = .ok (.iconst 0, 1) := by decide +kernel
theorem d2_become_115 : decode c2_become 115 = .ok (.aload_n 0, 1) := by decide +kernel
theorem d2_become_116 : decode c2_become 116 = .ok (.getfield 49, 3) := by decide +kernel
theorem d2_become_119 : decode c2_become 119 = .ok (.iconst 0, 1) := by decide +kernel
theorem d2_become_120 : decode c2_become 120 = .ok (.bipush 8, 2) := by decide +kernel
theorem d2_become_122 : decode c2_become 122 = .ok (.invokestatic 64, 3) := by decide +kernel
theorem d2_become_125 : decode c2_become 125 = .ok (.aload_n 1, 1) := by decide +kernel
theorem d2_become_126 : decode c2_become 126 = .ok (.getfield 52, 3) := by decide +kernel
theorem d2_become_129 : decode c2_become 129 = .ok (.iconst 0, 1) := by decide +kernel
theorem d2_become_130 : decode c2_become 130 = .ok (.aload_n 0, 1) := by decide +kernel
theorem d2_become_131 : decode c2_become 131 = .ok (.getfield 52, 3) := by decide +kernel
theorem d2_become_134 : decode c2_become 134 = .ok (.iconst 0, 1) := by decide +kernel
theorem d2_become_135 : decode c2_become 135 = .ok (.bipush 8, 2) := by decide +kernel
theorem d2_become_137 : decode c2_become 137 = .ok (.invokestatic 64, 3) := by decide +kernel
theorem d2_become_140 : decode c2_become 140 = .ok (.aload_n 1, 1) := by decide +kernel
theorem d2_become_141 : decode c2_become 141 = .ok (.getfield 55, 3) := by decide +kernel
theorem d2_become_144 : decode c2_become 144 = .ok (.iconst 0, 1) := by decide +kernel
theorem d2_become_145 : decode c2_become 145 = .ok (.aload_n 0, 1) := by decide +kernel
theorem d2_become_146 : decode c2_become 146 = .ok (.getfield 55, 3) := by decide +kernel
theorem d2_become_149 : decode c2_become 149 = .ok (.iconst 0, 1) := by decide +kernel
theorem d2_become_150 : decode c2_become 150 = .ok (.bipush 30, 2) := by decide +kernel
theorem d2_become_152 : decode c2_become 152 = .ok (.invokestatic 64, 3) := by decide +kernel
theorem d2_become_155 : decode c2_become 155 = .ok (.aload_n 1, 1) := by decide +kernel
theorem d2_become_156 : decode c2_become 156 = .ok (.getfield 58, 3) := by decide +kernel
theorem d2_become_159 : decode c2_become 159 = .ok (.iconst 0, 1) := by decide +kernel
theorem d2_become_160 : decode c2_become 160 = .ok (.aload_n 0, 1) := by decide +kernel
theorem d2_become_161 : decode c2_become 161 = .ok (.getfield 58, 3) := by decide +kernel
theorem d2_become_164 : decode c2_become 164 = .ok (.iconst 0, 1) := by decide +kernel
theorem d2_become_165 : decode c2_become 165 = .ok (.bipush 30, 2) := by decide +kernel
theorem d2_become_167 : decode c2_become 167 = .ok (.invokestatic 64, 3) := by decide +kernel
theorem d2_become_170 : decode c2_become 170 = .ok (.aload_n 1, 1) := by decide +kernel
theorem d2_become_171 : decode c2_become 171 = .ok (.getfield 61, 3) := by decide +kernel
theorem d2_become_174 : decode c2_become 174 = .ok (.iconst 0, 1) := by decide +kernel
theorem d2_become_175 : decode c2_become 175 = .ok (.aload_n 0, 1) := by decide +kernel
theorem d2_become_176 : decode c2_become 176 = .ok (.getfield 61, 3) := by decide +kernel
theorem d2_become_179 : decode c2_become 179 = .ok (.iconst 0, 1) := by decide +kernel
theorem d2_become_180 : decode c2_become 180 = .ok (.bipush 30, 2) := by decide +kernel
theorem d2_become_182 : decode c2_become 182 = .ok (.invokestatic 64, 3) := by decide +kernel
theorem d2_become_185 : decode c2_become 185 = .ok (.return_, 1) := by decide +kernel
def f2_become (D : Mem) (r : Nat) (p0 : Nat) : Option (Mem) :=
  Option.bind (some (mset D r 0 (D p0 0))) fun (D1 : Mem) =>
  Option.bind (some (mset D1 r 1 (D1 p0 1))) fun (D2 : Mem) =>
  Option.bind (some (mset D2 r 2 (D2 p0 2))) fun (D3 : Mem) =>
  Option.bind (some (mset D3 r 3 (D3 p0 3))) fun (D4 : Mem) =>
  Option.bind (some (mset D4 r 4 (D4 p0 4))) fun (D5 : Mem) =>
  Option.bind (some (mset D5 r 5 (D5 p0 5))) fun (D6 : Mem) =>
  Option.bind (some (mset D6 r 6 (D6 p0 6))) fun (D7 : Mem) =>
  Option.bind (some (mset D7 r 7 (D7 p0 7))) fun (D8 : Mem) =>
  Option.bind (some (mset D8 r 8 (D8 p0 8))) fun (D9 : Mem) =>
  Option.bind (some (mset D9 r 9 (D9 p0 9))) fun (D10 : Mem) =>
  Option.bind (some (mcpy D10 (p0 + 1) 0 (r + 1) 0 8)) fun (D11 : Mem) =>
  Option.bind (some (mcpy D11 (p0 + 2) 0 (r + 2) 0 8)) fun (D12 : Mem) =>
  Option.bind (some (mcpy D12 (p0 + 3) 0 (r + 3) 0 8)) fun (D13 : Mem) =>
  Option.bind (some (mcpy D13 (p0 + 4) 0 (r + 4) 0 8)) fun (D14 : Mem) =>
  Option.bind (some (mcpy D14 (p0 + 5) 0 (r + 5) 0 30)) fun (D15 : Mem) =>
  Option.bind (some (mcpy D15 (p0 + 6) 0 (r + 6) 0 30)) fun (D16 : Mem) =>
  some (mcpy D16 (p0 + 7) 0 (r + 7) 0 30)
set_option maxHeartbeats 4000000 in
theorem ok2_become {l : Launch} {X : XT} {n : Nat} {D : Mem} {Q : Option Value → Nat → Rho → Mem → Prop} (hn : 117 ≤ n) {r : Nat} {p0 : Nat} (hr : VR n r 2) (ho0 : VR n p0 2) (h : wpo (f2_become D r p0) (fun a => Q none n rt a)) : MOK l y2_become c2_become 2 (none) { frames := 1, cells := 0, slots := 0, locals := 26 } 0 0 X [vR X r, vR X p0] n rt D Q := by
  refine MOK_of 2 (by decide +kernel) rfl (lv := [(0, vR X r), (1, vR X p0)]) (Nat.le_of_ble_eq_true rfl) rfl (fun K hK F hnm => ?_)
  subst hK
  unfold f2_become at h
  refine r_aload_nR F 0 rfl rfl d2_become_0 ?_
  refine r_aload_nR F 1 rfl rfl d2_become_1 ?_
  refine r_getI F lf2_9 ho0 d2_become_2 ?_
  refine r_putI F lf2_9 rfl rfl hr d2_become_5 ?_
  refine r_aload_nR F 0 rfl rfl d2_become_8 ?_
  refine r_aload_nR F 1 rfl rfl d2_become_9 ?_
  refine at_name (B := fun (D1 : Mem) => At K X (ZQ K X Q) 0 0 n rt 2 10 [(0, vR X r), (1, vR X p0)] [vR X p0, vR X r] D1) h (fun D1 h => ?_)
  refine r_getI F lf2_15 ho0 d2_become_10 ?_
  refine r_putI F lf2_15 rfl rfl hr d2_become_13 ?_
  refine r_aload_nR F 0 rfl rfl d2_become_16 ?_
  refine r_aload_nR F 1 rfl rfl d2_become_17 ?_
  refine at_name (B := fun (D2 : Mem) => At K X (ZQ K X Q) 0 0 n rt 2 18 [(0, vR X r), (1, vR X p0)] [vR X p0, vR X r] D2) h (fun D2 h => ?_)
  refine r_getI F lf2_18 ho0 d2_become_18 ?_
  refine r_putI F lf2_18 rfl rfl hr d2_become_21 ?_
  refine r_aload_nR F 0 rfl rfl d2_become_24 ?_
  refine r_aload_nR F 1 rfl rfl d2_become_25 ?_
  refine at_name (B := fun (D3 : Mem) => At K X (ZQ K X Q) 0 0 n rt 2 26 [(0, vR X r), (1, vR X p0)] [vR X p0, vR X r] D3) h (fun D3 h => ?_)
  refine r_getI F lf2_21 ho0 d2_become_26 ?_
  refine r_putI F lf2_21 rfl rfl hr d2_become_29 ?_
  refine r_aload_nR F 0 rfl rfl d2_become_32 ?_
  refine r_aload_nR F 1 rfl rfl d2_become_33 ?_
  refine at_name (B := fun (D4 : Mem) => At K X (ZQ K X Q) 0 0 n rt 2 34 [(0, vR X r), (1, vR X p0)] [vR X p0, vR X r] D4) h (fun D4 h => ?_)
  refine r_getI F lf2_24 ho0 d2_become_34 ?_
  refine r_putI F lf2_24 rfl rfl hr d2_become_37 ?_
  refine r_aload_nR F 0 rfl rfl d2_become_40 ?_
  refine r_aload_nR F 1 rfl rfl d2_become_41 ?_
  refine at_name (B := fun (D5 : Mem) => At K X (ZQ K X Q) 0 0 n rt 2 42 [(0, vR X r), (1, vR X p0)] [vR X p0, vR X r] D5) h (fun D5 h => ?_)
  refine r_getI F lf2_27 ho0 d2_become_42 ?_
  refine r_putI F lf2_27 rfl rfl hr d2_become_45 ?_
  refine r_aload_nR F 0 rfl rfl d2_become_48 ?_
  refine r_aload_nR F 1 rfl rfl d2_become_49 ?_
  refine at_name (B := fun (D6 : Mem) => At K X (ZQ K X Q) 0 0 n rt 2 50 [(0, vR X r), (1, vR X p0)] [vR X p0, vR X r] D6) h (fun D6 h => ?_)
  refine r_getI F lf2_30 ho0 d2_become_50 ?_
  refine r_putI F lf2_30 rfl rfl hr d2_become_53 ?_
  refine r_aload_nR F 0 rfl rfl d2_become_56 ?_
  refine r_aload_nR F 1 rfl rfl d2_become_57 ?_
  refine at_name (B := fun (D7 : Mem) => At K X (ZQ K X Q) 0 0 n rt 2 58 [(0, vR X r), (1, vR X p0)] [vR X p0, vR X r] D7) h (fun D7 h => ?_)
  refine r_getI F lf2_33 ho0 d2_become_58 ?_
  refine r_putI F lf2_33 rfl rfl hr d2_become_61 ?_
  refine r_aload_nR F 0 rfl rfl d2_become_64 ?_
  refine r_aload_nR F 1 rfl rfl d2_become_65 ?_
  refine at_name (B := fun (D8 : Mem) => At K X (ZQ K X Q) 0 0 n rt 2 66 [(0, vR X r), (1, vR X p0)] [vR X p0, vR X r] D8) h (fun D8 h => ?_)
  refine r_getI F lf2_36 ho0 d2_become_66 ?_
  refine r_putI F lf2_36 rfl rfl hr d2_become_69 ?_
  refine r_aload_nR F 0 rfl rfl d2_become_72 ?_
  refine r_aload_nR F 1 rfl rfl d2_become_73 ?_
  refine at_name (B := fun (D9 : Mem) => At K X (ZQ K X Q) 0 0 n rt 2 74 [(0, vR X r), (1, vR X p0)] [vR X p0, vR X r] D9) h (fun D9 h => ?_)
  refine r_getI F lf2_39 ho0 d2_become_74 ?_
  refine r_putI F lf2_39 rfl rfl hr d2_become_77 ?_
  refine r_aload_nR F 1 rfl rfl d2_become_80 ?_
  refine r_getR F (z := (p0 + 1)) lf2_42 ho0 (z2_10 ho0) d2_become_81 ?_
  refine r_iconst F (z := 0) d2_become_84 ?_
  refine r_aload_nR F 0 rfl rfl d2_become_85 ?_
  refine r_getR F (z := (r + 1)) lf2_42 hr (z2_10 hr) d2_become_86 ?_
  refine r_iconst F (z := 0) d2_become_89 ?_
  refine r_bipush F (z := 8) (by decide) d2_become_90 ?_
  refine at_name (B := fun (D10 : Mem) => At K X (ZQ K X Q) 0 0 n rt 2 92 [(0, vR X r), (1, vR X p0)] [vI 8, vI 0, vR X (r + 1), vI 0, vR X (p0 + 1)] D10) h (fun D10 h => ?_)
  refine r_copyI F lm2_64 wn1 wn2 wn3 ⟨Nat.le_of_ble_eq_true rfl, Nat.le_of_ble_eq_true rfl⟩ (y2_10 hn ho0) (y2_10 hn hr) (by decide) d2_become_92 ?_
  refine r_aload_nR F 1 rfl rfl d2_become_95 ?_
  refine r_getR F (z := (p0 + 2)) lf2_46 ho0 (z2_11 ho0) d2_become_96 ?_
  refine r_iconst F (z := 0) d2_become_99 ?_
  refine r_aload_nR F 0 rfl rfl d2_become_100 ?_
  refine r_getR F (z := (r + 2)) lf2_46 hr (z2_11 hr) d2_become_101 ?_
  refine r_iconst F (z := 0) d2_become_104 ?_
  refine r_bipush F (z := 8) (by decide) d2_become_105 ?_
  refine at_name (B := fun (D11 : Mem) => At K X (ZQ K X Q) 0 0 n rt 2 107 [(0, vR X r), (1, vR X p0)] [vI 8, vI 0, vR X (r + 2), vI 0, vR X (p0 + 2)] D11) h (fun D11 h => ?_)
  refine r_copyI F lm2_64 wn1 wn2 wn3 ⟨Nat.le_of_ble_eq_true rfl, Nat.le_of_ble_eq_true rfl⟩ (y2_11 hn ho0) (y2_11 hn hr) (by decide) d2_become_107 ?_
  refine r_aload_nR F 1 rfl rfl d2_become_110 ?_
  refine r_getR F (z := (p0 + 3)) lf2_49 ho0 (z2_12 ho0) d2_become_111 ?_
  refine r_iconst F (z := 0) d2_become_114 ?_
  refine r_aload_nR F 0 rfl rfl d2_become_115 ?_
  refine r_getR F (z := (r + 3)) lf2_49 hr (z2_12 hr) d2_become_116 ?_
  refine r_iconst F (z := 0) d2_become_119 ?_
  refine r_bipush F (z := 8) (by decide) d2_become_120 ?_
  refine at_name (B := fun (D12 : Mem) => At K X (ZQ K X Q) 0 0 n rt 2 122 [(0, vR X r), (1, vR X p0)] [vI 8, vI 0, vR X (r + 3), vI 0, vR X (p0 + 3)] D12) h (fun D12 h => ?_)
  refine r_copyI F lm2_64 wn1 wn2 wn3 ⟨Nat.le_of_ble_eq_true rfl, Nat.le_of_ble_eq_true rfl⟩ (y2_12 hn ho0) (y2_12 hn hr) (by decide) d2_become_122 ?_
  refine r_aload_nR F 1 rfl rfl d2_become_125 ?_
  refine r_getR F (z := (p0 + 4)) lf2_52 ho0 (z2_13 ho0) d2_become_126 ?_
  refine r_iconst F (z := 0) d2_become_129 ?_
  refine r_aload_nR F 0 rfl rfl d2_become_130 ?_
  refine r_getR F (z := (r + 4)) lf2_52 hr (z2_13 hr) d2_become_131 ?_
  refine r_iconst F (z := 0) d2_become_134 ?_
  refine r_bipush F (z := 8) (by decide) d2_become_135 ?_
  refine at_name (B := fun (D13 : Mem) => At K X (ZQ K X Q) 0 0 n rt 2 137 [(0, vR X r), (1, vR X p0)] [vI 8, vI 0, vR X (r + 4), vI 0, vR X (p0 + 4)] D13) h (fun D13 h => ?_)
  refine r_copyI F lm2_64 wn1 wn2 wn3 ⟨Nat.le_of_ble_eq_true rfl, Nat.le_of_ble_eq_true rfl⟩ (y2_13 hn ho0) (y2_13 hn hr) (by decide) d2_become_137 ?_
  refine r_aload_nR F 1 rfl rfl d2_become_140 ?_
  refine r_getR F (z := (p0 + 5)) lf2_55 ho0 (z2_14 ho0) d2_become_141 ?_
  refine r_iconst F (z := 0) d2_become_144 ?_
  refine r_aload_nR F 0 rfl rfl d2_become_145 ?_
  refine r_getR F (z := (r + 5)) lf2_55 hr (z2_14 hr) d2_become_146 ?_
  refine r_iconst F (z := 0) d2_become_149 ?_
  refine r_bipush F (z := 30) (by decide) d2_become_150 ?_
  refine at_name (B := fun (D14 : Mem) => At K X (ZQ K X Q) 0 0 n rt 2 152 [(0, vR X r), (1, vR X p0)] [vI 30, vI 0, vR X (r + 5), vI 0, vR X (p0 + 5)] D14) h (fun D14 h => ?_)
  refine r_copyI F lm2_64 wn1 wn2 wn3 ⟨Nat.le_of_ble_eq_true rfl, Nat.le_of_ble_eq_true rfl⟩ (y2_14 hn ho0) (y2_14 hn hr) (by decide) d2_become_152 ?_
  refine r_aload_nR F 1 rfl rfl d2_become_155 ?_
  refine r_getR F (z := (p0 + 6)) lf2_58 ho0 (z2_15 ho0) d2_become_156 ?_
  refine r_iconst F (z := 0) d2_become_159 ?_
  refine r_aload_nR F 0 rfl rfl d2_become_160 ?_
  refine r_getR F (z := (r + 6)) lf2_58 hr (z2_15 hr) d2_become_161 ?_
  refine r_iconst F (z := 0) d2_become_164 ?_
  refine r_bipush F (z := 30) (by decide) d2_become_165 ?_
  refine at_name (B := fun (D15 : Mem) => At K X (ZQ K X Q) 0 0 n rt 2 167 [(0, vR X r), (1, vR X p0)] [vI 30, vI 0, vR X (r + 6), vI 0, vR X (p0 + 6)] D15) h (fun D15 h => ?_)
  refine r_copyI F lm2_64 wn1 wn2 wn3 ⟨Nat.le_of_ble_eq_true rfl, Nat.le_of_ble_eq_true rfl⟩ (y2_15 hn ho0) (y2_15 hn hr) (by decide) d2_become_167 ?_
  refine r_aload_nR F 1 rfl rfl d2_become_170 ?_
  refine r_getR F (z := (p0 + 7)) lf2_61 ho0 (z2_16 ho0) d2_become_171 ?_
  refine r_iconst F (z := 0) d2_become_174 ?_
  refine r_aload_nR F 0 rfl rfl d2_become_175 ?_
  refine r_getR F (z := (r + 7)) lf2_61 hr (z2_16 hr) d2_become_176 ?_
  refine r_iconst F (z := 0) d2_become_179 ?_
  refine r_bipush F (z := 30) (by decide) d2_become_180 ?_
  refine at_name (B := fun (D16 : Mem) => At K X (ZQ K X Q) 0 0 n rt 2 182 [(0, vR X r), (1, vR X p0)] [vI 30, vI 0, vR X (r + 7), vI 0, vR X (p0 + 7)] D16) h (fun D16 h => ?_)
  refine r_copyI F lm2_64 wn1 wn2 wn3 ⟨Nat.le_of_ble_eq_true rfl, Nat.le_of_ble_eq_true rfl⟩ (y2_16 hn ho0) (y2_16 hn hr) (by decide) d2_become_182 ?_
  replace h := wpo_some h
  exact r_vret F h d2_become_185
theorem d12_fillI_0 : decode c12_fillI 0 = .ok (.iconst 0, 1) := by decide +kernel
theorem d12_fillI_1 : decode c12_fillI 1 = .ok (.istore_n 2, 1) := by decide +kernel
theorem d12_fillI_2 : decode c12_fillI 2 = .ok (.aload_n 0, 1) := by decide +kernel
theorem d12_fillI_3 : decode c12_fillI 3 = .ok (.arraylength, 1) := by decide +kernel
theorem d12_fillI_4 : decode c12_fillI 4 = .ok (.istore_n 3, 1) := by decide +kernel
theorem d12_fillI_5 : decode c12_fillI 5 = .ok (.iload_n 2, 1) := by decide +kernel
theorem d12_fillI_6 : decode c12_fillI 6 = .ok (.iload_n 3, 1) := by decide +kernel
theorem d12_fillI_7 : decode c12_fillI 7 = .ok (.if_icmp .ge 13, 3) := by decide +kernel
theorem d12_fillI_10 : decode c12_fillI 10 = .ok (.aload_n 0, 1) := by decide +kernel
theorem d12_fillI_11 : decode c12_fillI 11 = .ok (.iload_n 2, 1) := by decide +kernel
theorem d12_fillI_12 : decode c12_fillI 12 = .ok (.iload_n 1, 1) := by decide +kernel
theorem d12_fillI_13 : decode c12_fillI 13 = .ok (.iastore, 1) := by decide +kernel
theorem d12_fillI_14 : decode c12_fillI 14 = .ok (.iinc 2 1, 3) := by decide +kernel
theorem d12_fillI_17 : decode c12_fillI 17 = .ok (.goto (-12), 3) := by decide +kernel
theorem d12_fillI_20 : decode c12_fillI 20 = .ok (.return_, 1) := by decide +kernel
def f12_fillI (D : Mem) (p0 : Nat) (len : Nat) (p1 : Int) : Option (Mem) :=
  Option.bind (@loop (Int × Mem) (Mem) (fun s1 =>
    if w32 s1.1 < w32 (len : Int) then
      if 0 ≤ s1.1 ∧ s1.1 < (len : Int) then
        some (Sum.inl ((s1.1 + 1), (mset s1.2 p0 s1.1.toNat p1)))
      else none
    else
      some (Sum.inr s1.2)
  ) FU (0, D)) fun (b1 : Mem) =>
  some b1
set_option maxHeartbeats 4000000 in
theorem ok12_fillI {l : Launch} {X : XT} {n : Nat} {D : Mem} {Q : Option Value → Nat → Rho → Mem → Prop} {p0 : Nat} {len : Nat} {p1 : Int} (ho0 : VA n p0 1 len) (h : wpo (f12_fillI D p0 len p1) (fun a => Q none n rt a)) : MOK l y12_fillI c12_fillI 4 (none) { frames := 0, cells := 0, slots := 0, locals := 0 } 0 0 X [vR X p0, vI p1] n rt D Q := by
  refine MOK_of 12 (by decide +kernel) rfl (lv := [(0, vR X p0), (1, vI p1)]) (Nat.le_of_ble_eq_true rfl) rfl (fun K hK F hnm => ?_)
  subst hK
  unfold f12_fillI at h
  refine r_iconst F (z := 0) d12_fillI_0 ?_
  refine r_istore_n F (lv' := [(2, vI 0), (0, vR X p0), (1, vI p1)]) rfl (Nat.le_of_ble_eq_true rfl) rfl d12_fillI_1 ?_
  refine r_aload_nR F 1 rfl rfl d12_fillI_2 ?_
  refine r_alen F ho0 (by decide) d12_fillI_3 ?_
  refine r_istore_n F (lv' := [(3, vI (len : Int)), (2, vI 0), (0, vR X p0), (1, vI p1)]) rfl (Nat.le_of_ble_eq_true rfl) rfl d12_fillI_4 ?_
  refine r_weak [2, 3, 1, 0] rfl ?_
  refine at_loopj (A := fun (s1 : Int × Mem) => At K X (ZQ K X Q) 0 0 n rt 4 5 [(0, vR X p0), (1, vI p1), (2, vI s1.1), (3, vI (len : Int))] [] s1.2) (B := fun (b1 : Mem) => At K X (ZQ K X Q) 0 0 n rt 4 20 [] [] b1) h (fun b1 h => ?_) (fun s1 h => ?_)
  · replace h := wpo_some h
    exact r_vret F h d12_fillI_20
  · refine r_iload_n F 2 rfl rfl d12_fillI_5 ?_
    refine r_iload_n F 3 rfl rfl d12_fillI_6 ?_
    refine r_icmp_ge F (tgt := 20) d12_fillI_7 (by decide) (fun hb => ?_) (fun hb => ?_)
    · replace h := wpo_neg h hb
      refine r_weak [] rfl ?_
      replace h := wpo_inr h
      exact h
    · replace h := wpo_pos h hb
      refine r_aload_nR F 0 rfl rfl d12_fillI_10 ?_
      refine r_iload_n F 2 rfl rfl d12_fillI_11 ?_
      refine r_iload_n F 1 rfl rfl d12_fillI_12 ?_
      obtain ⟨hx1, h⟩ := wpo_chk h
      refine r_iast F ho0 hx1 d12_fillI_13 ?_
      refine r_iinc F 2 (lv' := [(2, vI (s1.1 + 1)), (0, vR X p0), (1, vI p1), (3, vI (len : Int))]) rfl (Nat.le_of_ble_eq_true rfl) rfl d12_fillI_14 ?_
      refine r_goto F (tgt := 5) (by decide) d12_fillI_17 ?_
      refine r_weak [1, 2, 0, 3] rfl ?_
      replace h := wpo_inl h
      exact h
theorem d8_prepare_0 : decode c8_prepare 0 = .ok (.aload_n 0, 1) := by decide +kernel
theorem d8_prepare_1 : decode c8_prepare 1 = .ok (.aload_n 0, 1) := by decide +kernel
theorem d8_prepare_2 : decode c8_prepare 2 = .ok (.getfield 61, 3) := by decide +kernel
theorem d8_prepare_5 : decode c8_prepare 5 = .ok (.getfield 65, 3) := by decide +kernel
theorem d8_prepare_8 : decode c8_prepare 8 = .ok (.putfield 9, 3) := by decide +kernel
theorem d8_prepare_11 : decode c8_prepare 11 = .ok (.aload_n 0, 1) := by decide +kernel
theorem d8_prepare_12 : decode c8_prepare 12 = .ok (.aload_n 0, 1) := by decide +kernel
theorem d8_prepare_13 : decode c8_prepare 13 = .ok (.getfield 61, 3) := by decide +kernel
theorem d8_prepare_16 : decode c8_prepare 16 = .ok (.getfield 68, 3) := by decide +kernel
theorem d8_prepare_19 : decode c8_prepare 19 = .ok (.putfield 15, 3) := by decide +kernel
theorem d8_prepare_22 : decode c8_prepare 22 = .ok (.aload_n 0, 1) := by decide +kernel
theorem d8_prepare_23 : decode c8_prepare 23 = .ok (.iconst 0, 1) := by decide +kernel
theorem d8_prepare_24 : decode c8_prepare 24 = .ok (.putfield 18, 3) := by decide +kernel
theorem d8_prepare_27 : decode c8_prepare 27 = .ok (.aload_n 0, 1) := by decide +kernel
theorem d8_prepare_28 : decode c8_prepare 28 = .ok (.getfield 61, 3) := by decide +kernel
theorem d8_prepare_31 : decode c8_prepare 31 = .ok (.getfield 69, 3) := by decide +kernel
theorem d8_prepare_34 : decode c8_prepare 34 = .ok (.iconst 0, 1) := by decide +kernel
theorem d8_prepare_35 : decode c8_prepare 35 = .ok (.aload_n 0, 1) := by decide +kernel
theorem d8_prepare_36 : decode c8_prepare 36 = .ok (.getfield 24, 3) := by decide +kernel
theorem d8_prepare_39 : decode c8_prepare 39 = .ok (.iconst 0, 1) := by decide +kernel
theorem d8_prepare_40 : decode c8_prepare 40 = .ok (.bipush 8, 2) := by decide +kernel
theorem d8_prepare_42 : decode c8_prepare 42 = .ok (.invokestatic 72, 3) := by decide +kernel
theorem d8_prepare_45 : decode c8_prepare 45 = .ok (.aload_n 0, 1) := by decide +kernel
theorem d8_prepare_46 : decode c8_prepare 46 = .ok (.getfield 61, 3) := by decide +kernel
theorem d8_prepare_49 : decode c8_prepare 49 = .ok (.getfield 78, 3) := by decide +kernel
theorem d8_prepare_52 : decode c8_prepare 52 = .ok (.iconst 0, 1) := by decide +kernel
theorem d8_prepare_53 : decode c8_prepare 53 = .ok (.aload_n 0, 1) := by decide +kernel
theorem d8_prepare_54 : decode c8_prepare 54 = .ok (.getfield 28, 3) := by decide +kernel
theorem d8_prepare_57 : decode c8_prepare 57 = .ok (.iconst 0, 1) := by decide +kernel
theorem d8_prepare_58 : decode c8_prepare 58 = .ok (.bipush 8, 2) := by decide +kernel
theorem d8_prepare_60 : decode c8_prepare 60 = .ok (.invokestatic 72, 3) := by decide +kernel
theorem d8_prepare_63 : decode c8_prepare 63 = .ok (.aload_n 0, 1) := by decide +kernel
theorem d8_prepare_64 : decode c8_prepare 64 = .ok (.getfield 31, 3) := by decide +kernel
theorem d8_prepare_67 : decode c8_prepare 67 = .ok (.iconst 0, 1) := by decide +kernel
theorem d8_prepare_68 : decode c8_prepare 68 = .ok (.invokestatic 79, 3) := by decide +kernel
theorem d8_prepare_71 : decode c8_prepare 71 = .ok (.return_, 1) := by decide +kernel
def f8_prepare (D : Mem) (r : Nat) : Option (Mem) :=
  Option.bind (some (mset D r 1 (D 12 2))) fun (D1 : Mem) =>
  Option.bind (some (mset D1 r 2 (D1 12 5))) fun (D2 : Mem) =>
  Option.bind (some (mset D2 r 3 0)) fun (D3 : Mem) =>
  Option.bind (some (mcpy D3 13 0 (r + 1) 0 8)) fun (D4 : Mem) =>
  Option.bind (some (mcpy D4 14 0 (r + 2) 0 8)) fun (D5 : Mem) =>
  Option.bind (f12_fillI D5 (r + 3) 8 0) fun (a1 : Mem) =>
  some a1
set_option maxHeartbeats 4000000 in
theorem ok8_prepare {l : Launch} {X : XT} {n : Nat} {D : Mem} {Q : Option Value → Nat → Rho → Mem → Prop} (hn : 117 ≤ n) {r : Nat} (hr : VR n r 8) (h : wpo (f8_prepare D r) (fun a => Q none n rt a)) : MOK l y8_prepare c8_prepare 1 (none) { frames := 1, cells := 0, slots := 0, locals := 26 } 0 0 X [vR X r] n rt D Q := by
  refine MOK_of 8 (by decide +kernel) rfl (lv := [(0, vR X r)]) (Nat.le_of_ble_eq_true rfl) rfl (fun K hK F hnm => ?_)
  subst hK
  unfold f8_prepare at h
  refine r_aload_nR F 0 rfl rfl d8_prepare_0 ?_
  refine r_aload_nR F 0 rfl rfl d8_prepare_1 ?_
  refine r_getR F (z := 12) lf8_61 hr (z8_0 hr) d8_prepare_2 ?_
  refine r_getI F lf8_65 (vc12 hn) d8_prepare_5 ?_
  refine r_putI F lf8_9 rfl rfl hr d8_prepare_8 ?_
  refine r_aload_nR F 0 rfl rfl d8_prepare_11 ?_
  refine r_aload_nR F 0 rfl rfl d8_prepare_12 ?_
  refine r_getR F (z := 12) lf8_61 hr (z8_0 hr) d8_prepare_13 ?_
  refine at_name (B := fun (D1 : Mem) => At K X (ZQ K X Q) 0 0 n rt 1 16 [(0, vR X r)] [vR X 12, vR X r] D1) h (fun D1 h => ?_)
  refine r_getI F lf8_68 (vc12 hn) d8_prepare_16 ?_
  refine r_putI F lf8_15 rfl rfl hr d8_prepare_19 ?_
  refine r_aload_nR F 0 rfl rfl d8_prepare_22 ?_
  refine r_iconst F (z := 0) d8_prepare_23 ?_
  refine at_name (B := fun (D2 : Mem) => At K X (ZQ K X Q) 0 0 n rt 1 24 [(0, vR X r)] [vI 0, vR X r] D2) h (fun D2 h => ?_)
  refine r_putI F lf8_18 rfl rfl hr d8_prepare_24 ?_
  refine r_aload_nR F 0 rfl rfl d8_prepare_27 ?_
  refine r_getR F (z := 12) lf8_61 hr (z8_0 hr) d8_prepare_28 ?_
  refine r_getR F (z := 13) lf8_69 (vc12 hn) z12_10 d8_prepare_31 ?_
  refine r_iconst F (z := 0) d8_prepare_34 ?_
  refine r_aload_nR F 0 rfl rfl d8_prepare_35 ?_
  refine r_getR F (z := (r + 1)) lf8_24 hr (z8_5 hr) d8_prepare_36 ?_
  refine r_iconst F (z := 0) d8_prepare_39 ?_
  refine r_bipush F (z := 8) (by decide) d8_prepare_40 ?_
  refine at_name (B := fun (D3 : Mem) => At K X (ZQ K X Q) 0 0 n rt 1 42 [(0, vR X r)] [vI 8, vI 0, vR X (r + 1), vI 0, vR X 13] D3) h (fun D3 h => ?_)
  refine r_copyI F lm8_72 wn1 wn2 wn3 ⟨Nat.le_of_ble_eq_true rfl, Nat.le_of_ble_eq_true rfl⟩ (vc13 hn) (y8_5 hn hr) (by decide) d8_prepare_42 ?_
  refine r_aload_nR F 0 rfl rfl d8_prepare_45 ?_
  refine r_getR F (z := 12) lf8_61 hr (z8_0 hr) d8_prepare_46 ?_
  refine r_getR F (z := 14) lf8_78 (vc12 hn) z12_11 d8_prepare_49 ?_
  refine r_iconst F (z := 0) d8_prepare_52 ?_
  refine r_aload_nR F 0 rfl rfl d8_prepare_53 ?_
  refine r_getR F (z := (r + 2)) lf8_28 hr (z8_6 hr) d8_prepare_54 ?_
  refine r_iconst F (z := 0) d8_prepare_57 ?_
  refine r_bipush F (z := 8) (by decide) d8_prepare_58 ?_
  refine at_name (B := fun (D4 : Mem) => At K X (ZQ K X Q) 0 0 n rt 1 60 [(0, vR X r)] [vI 8, vI 0, vR X (r + 2), vI 0, vR X 14] D4) h (fun D4 h => ?_)
  refine r_copyI F lm8_72 wn1 wn2 wn3 ⟨Nat.le_of_ble_eq_true rfl, Nat.le_of_ble_eq_true rfl⟩ (vc14 hn) (y8_6 hn hr) (by decide) d8_prepare_60 ?_
  refine r_aload_nR F 0 rfl rfl d8_prepare_63 ?_
  refine r_getR F (z := (r + 3)) lf8_31 hr (z8_7 hr) d8_prepare_64 ?_
  refine r_iconst F (z := 0) d8_prepare_67 ?_
  refine at_name (B := fun (D5 : Mem) => At K X (ZQ K X Q) 0 0 n rt 1 68 [(0, vR X r)] [vI 0, vR X (r + 3)] D5) h (fun D5 h => ?_)
  replace h := wpo_bind h
  refine r_callS0 F lm8_79 mf12_fillI rfl (fr := 0) (lo := 0) (As := [vR X (r + 3), vI 0]) (rest := []) ⟨Nat.le_of_ble_eq_true rfl, Nat.le_of_ble_eq_true rfl⟩ rfl (Nat.le_of_ble_eq_true rfl) ⟨Nat.zero_le _, Nat.zero_le _⟩ d8_prepare_68 ?_
  refine ok12_fillI (y8_7 hn hr) (kVm h (fun a1 h => ?_))
  replace h := wpo_some h
  exact r_vret F h d8_prepare_71
theorem d8_rankOf_0 : decode c8_rankOf 0 = .ok (.aload_n 0, 1) := by decide +kernel
theorem d8_rankOf_1 : decode c8_rankOf 1 = .ok (.getfield 15, 3) := by decide +kernel
theorem d8_rankOf_4 : decode c8_rankOf 4 = .ok (.tableswitch 50 1 3 #[28, 36, 43], 28) := by decide +kernel
theorem d8_rankOf_32 : decode c8_rankOf 32 = .ok (.aload_n 0, 1) := by decide +kernel
theorem d8_rankOf_33 : decode c8_rankOf 33 = .ok (.getfield 24, 3) := by decide +kernel
theorem d8_rankOf_36 : decode c8_rankOf 36 = .ok (.iload_n 1, 1) := by decide +kernel
theorem d8_rankOf_37 : decode c8_rankOf 37 = .ok (.iaload, 1) := by decide +kernel
theorem d8_rankOf_38 : decode c8_rankOf 38 = .ok (.ineg, 1) := by decide +kernel
theorem d8_rankOf_39 : decode c8_rankOf 39 = .ok (.ireturn, 1) := by decide +kernel
theorem d8_rankOf_40 : decode c8_rankOf 40 = .ok (.aload_n 0, 1) := by decide +kernel
theorem d8_rankOf_41 : decode c8_rankOf 41 = .ok (.getfield 24, 3) := by decide +kernel
theorem d8_rankOf_44 : decode c8_rankOf 44 = .ok (.iload_n 1, 1) := by decide +kernel
theorem d8_rankOf_45 : decode c8_rankOf 45 = .ok (.iaload, 1) := by decide +kernel
theorem d8_rankOf_46 : decode c8_rankOf 46 = .ok (.ireturn, 1) := by decide +kernel
theorem d8_rankOf_47 : decode c8_rankOf 47 = .ok (.aload_n 0, 1) := by decide +kernel
theorem d8_rankOf_48 : decode c8_rankOf 48 = .ok (.getfield 28, 3) := by decide +kernel
theorem d8_rankOf_51 : decode c8_rankOf 51 = .ok (.iload_n 1, 1) := by decide +kernel
theorem d8_rankOf_52 : decode c8_rankOf 52 = .ok (.iaload, 1) := by decide +kernel
theorem d8_rankOf_53 : decode c8_rankOf 53 = .ok (.ireturn, 1) := by decide +kernel
theorem d8_rankOf_54 : decode c8_rankOf 54 = .ok (.iconst 0, 1) := by decide +kernel
theorem d8_rankOf_55 : decode c8_rankOf 55 = .ok (.ireturn, 1) := by decide +kernel
def f8_rankOf (D : Mem) (r : Nat) (p0 : Int) : Option (Int) :=
  if w32 (D r 2) = 1 then
    if 0 ≤ p0 ∧ p0 < 8 then
      some (-(D (r + 1) p0.toNat))
    else none
  else
    if w32 (D r 2) = 2 then
      if 0 ≤ p0 ∧ p0 < 8 then
        some (D (r + 1) p0.toNat)
      else none
    else
      if w32 (D r 2) = 3 then
        if 0 ≤ p0 ∧ p0 < 8 then
          some (D (r + 2) p0.toNat)
        else none
      else
        some 0
set_option maxHeartbeats 4000000 in
theorem ok8_rankOf {l : Launch} {X : XT} {n : Nat} {D : Mem} {Q : Option Value → Nat → Rho → Mem → Prop} (hn : 117 ≤ n) {r : Nat} {p0 : Int} (hr : VR n r 8) (h : wpo (f8_rankOf D r p0) (fun a => Q (some (vI a)) n rt D)) : MOK l y8_rankOf c8_rankOf 2 (some .int) { frames := 0, cells := 0, slots := 0, locals := 0 } 0 0 X [vR X r, vI p0] n rt D Q := by
  refine MOK_of 8 (by decide +kernel) rfl (lv := [(0, vR X r), (1, vI p0)]) (Nat.le_of_ble_eq_true rfl) rfl (fun K hK F hnm => ?_)
  subst hK
  unfold f8_rankOf at h
  refine r_aload_nR F 0 rfl rfl d8_rankOf_0 ?_
  refine r_getI F lf8_15 hr d8_rankOf_1 ?_
  by_cases hb1 : w32 (D r 2) = 1
  · replace h := wpo_pos h hb1
    refine r_tabIn F 1 hb1 d8_rankOf_4 (by decide) (by decide) rfl (tgt := 32) (by decide) ?_
    refine r_aload_nR F 0 rfl rfl d8_rankOf_32 ?_
    refine r_getR F (z := (r + 1)) lf8_24 hr (z8_5 hr) d8_rankOf_33 ?_
    refine r_iload_n F 1 rfl rfl d8_rankOf_36 ?_
    obtain ⟨hx3, h⟩ := wpo_chk h
    refine r_iald F (y8_5 hn hr) hx3 d8_rankOf_37 ?_
    refine r_ineg F d8_rankOf_38 ?_
    replace h := wpo_some h
    exact r_iret F h d8_rankOf_39
  · replace h := wpo_neg h hb1
    by_cases hb2 : w32 (D r 2) = 2
    · replace h := wpo_pos h hb2
      refine r_tabIn F 2 hb2 d8_rankOf_4 (by decide) (by decide) rfl (tgt := 40) (by decide) ?_
      refine r_aload_nR F 0 rfl rfl d8_rankOf_40 ?_
      refine r_getR F (z := (r + 1)) lf8_24 hr (z8_5 hr) d8_rankOf_41 ?_
      refine r_iload_n F 1 rfl rfl d8_rankOf_44 ?_
      obtain ⟨hx2, h⟩ := wpo_chk h
      refine r_iald F (y8_5 hn hr) hx2 d8_rankOf_45 ?_
      replace h := wpo_some h
      exact r_iret F h d8_rankOf_46
    · replace h := wpo_neg h hb2
      by_cases hb3 : w32 (D r 2) = 3
      · replace h := wpo_pos h hb3
        refine r_tabIn F 3 hb3 d8_rankOf_4 (by decide) (by decide) rfl (tgt := 47) (by decide) ?_
        refine r_aload_nR F 0 rfl rfl d8_rankOf_47 ?_
        refine r_getR F (z := (r + 2)) lf8_28 hr (z8_6 hr) d8_rankOf_48 ?_
        refine r_iload_n F 1 rfl rfl d8_rankOf_51 ?_
        obtain ⟨hx1, h⟩ := wpo_chk h
        refine r_iald F (y8_6 hn hr) hx1 d8_rankOf_52 ?_
        replace h := wpo_some h
        exact r_iret F h d8_rankOf_53
      · replace h := wpo_neg h hb3
        refine r_tabOut F d8_rankOf_4 ?_ (tgt := 54) (by decide) ?_
        · omega
        · refine r_iconst F (z := 0) d8_rankOf_54 ?_
          replace h := wpo_some h
          exact r_iret F h d8_rankOf_55
theorem d8_putInOrder_0 : decode c8_putInOrder 0 = .ok (.iconst 0, 1) := by decide +kernel
theorem d8_putInOrder_1 : decode c8_putInOrder 1 = .ok (.istore_n 1, 1) := by decide +kernel
theorem d8_putInOrder_2 : decode c8_putInOrder 2 = .ok (.iload_n 1, 1) := by decide +kernel
theorem d8_putInOrder_3 : decode c8_putInOrder 3 = .ok (.aload_n 0, 1) := by decide +kernel
theorem d8_putInOrder_4 : decode c8_putInOrder 4 = .ok (.getfield 61, 3) := by decide +kernel
theorem d8_putInOrder_7 : decode c8_putInOrder 7 = .ok (.getfield 107, 3) := by decide +kernel
theorem d8_putInOrder_10 : decode c8_putInOrder 10 = .ok (.if_icmp .ge 64, 3) := by decide +kernel
theorem d8_putInOrder_13 : decode c8_putInOrder 13 = .ok (.aload_n 0, 1) := by decide +kernel
theorem d8_putInOrder_14 : decode c8_putInOrder 14 = .ok (.iload_n 1, 1) := by decide +kernel
theorem d8_putInOrder_15 : decode c8_putInOrder 15 = .ok (.invokevirtual 113, 3) := by decide +kernel
theorem d8_putInOrder_18 : decode c8_putInOrder 18 = .ok (.istore_n 2, 1) := by decide +kernel
theorem d8_putInOrder_19 : decode c8_putInOrder 19 = .ok (.iload_n 1, 1) := by decide +kernel
theorem d8_putInOrder_20 : decode c8_putInOrder 20 = .ok (.istore_n 3, 1) := by decide +kernel
theorem d8_putInOrder_21 : decode c8_putInOrder 21 = .ok (.iload_n 3, 1) := by decide +kernel
theorem d8_putInOrder_22 : decode c8_putInOrder 22 = .ok (.ifCond .le 39, 3) := by decide +kernel
theorem d8_putInOrder_25 : decode c8_putInOrder 25 = .ok (.aload_n 0, 1) := by decide +kernel
theorem d8_putInOrder_26 : decode c8_putInOrder 26 = .ok (.aload_n 0, 1) := by decide +kernel
theorem d8_putInOrder_27 : decode c8_putInOrder 27 = .ok (.getfield 34, 3) := by decide +kernel
theorem d8_putInOrder_30 : decode c8_putInOrder 30 = .ok (.iload_n 3, 1) := by decide +kernel
theorem d8_putInOrder_31 : decode c8_putInOrder 31 = .ok (.iconst 1, 1) := by decide +kernel
theorem d8_putInOrder_32 : decode c8_putInOrder 32 = .ok (.isub, 1) := by decide +kernel
theorem d8_putInOrder_33 : decode c8_putInOrder 33 = .ok (.iaload, 1) := by decide +kernel
theorem d8_putInOrder_34 : decode c8_putInOrder 34 = .ok (.invokevirtual 113, 3) := by decide +kernel
theorem d8_putInOrder_37 : decode c8_putInOrder 37 = .ok (.iload_n 2, 1) := by decide +kernel
theorem d8_putInOrder_38 : decode c8_putInOrder 38 = .ok (.if_icmp .le 23, 3) := by decide +kernel
theorem d8_putInOrder_41 : decode c8_putInOrder 41 = .ok (.aload_n 0, 1) := by decide +kernel
theorem d8_putInOrder_42 : decode c8_putInOrder 42 = .ok (.getfield 34, 3) := by decide +kernel
theorem d8_putInOrder_45 : decode c8_putInOrder 45 = .ok (.iload_n 3, 1) := by decide +kernel
theorem d8_putInOrder_46 : decode c8_putInOrder 46 = .ok (.aload_n 0, 1) := by decide +kernel
theorem d8_putInOrder_47 : decode c8_putInOrder 47 = .ok (.getfield 34, 3) := by decide +kernel
theorem d8_putInOrder_50 : decode c8_putInOrder 50 = .ok (.iload_n 3, 1) := by decide +kernel
theorem d8_putInOrder_51 : decode c8_putInOrder 51 = .ok (.iconst 1, 1) := by decide +kernel
theorem d8_putInOrder_52 : decode c8_putInOrder 52 = .ok (.isub, 1) := by decide +kernel
theorem d8_putInOrder_53 : decode c8_putInOrder 53 = .ok (.iaload, 1) := by decide +kernel
theorem d8_putInOrder_54 : decode c8_putInOrder 54 = .ok (.iastore, 1) := by decide +kernel
theorem d8_putInOrder_55 : decode c8_putInOrder 55 = .ok (.iinc 3 (-1), 3) := by decide +kernel
theorem d8_putInOrder_58 : decode c8_putInOrder 58 = .ok (.goto (-37), 3) := by decide +kernel
theorem d8_putInOrder_61 : decode c8_putInOrder 61 = .ok (.aload_n 0, 1) := by decide +kernel
theorem d8_putInOrder_62 : decode c8_putInOrder 62 = .ok (.getfield 34, 3) := by decide +kernel
theorem d8_putInOrder_65 : decode c8_putInOrder 65 = .ok (.iload_n 3, 1) := by decide +kernel
theorem d8_putInOrder_66 : decode c8_putInOrder 66 = .ok (.iload_n 1, 1) := by decide +kernel
theorem d8_putInOrder_67 : decode c8_putInOrder 67 = .ok (.iastore, 1) := by decide +kernel
theorem d8_putInOrder_68 : decode c8_putInOrder 68 = .ok (.iinc 1 1, 3) := by decide +kernel
theorem d8_putInOrder_71 : decode c8_putInOrder 71 = .ok (.goto (-69), 3) := by decide +kernel
theorem d8_putInOrder_74 : decode c8_putInOrder 74 = .ok (.return_, 1) := by decide +kernel
def f8_putInOrder (D : Mem) (r : Nat) : Option (Mem) :=
  Option.bind (@loop (Int × Mem) (Mem) (fun s1 =>
    if w32 s1.1 < w32 (s1.2 12 8) then
      Option.bind (f8_rankOf s1.2 r s1.1) fun (a1 : Int) =>
      Option.bind (@loop (Int × Mem) (Int × Mem) (fun s2 =>
        if 0 < w32 s2.1 then
          if 0 ≤ (s2.1 - 1) ∧ (s2.1 - 1) < 8 then
            Option.bind (f8_rankOf s2.2 r (s2.2 (r + 4) (s2.1 - 1).toNat)) fun (a2 : Int) =>
            if w32 a1 < w32 a2 then
              if 0 ≤ s2.1 ∧ s2.1 < 8 then
                some (Sum.inl ((s2.1 + (-1)), (mset s2.2 (r + 4) s2.1.toNat (s2.2 (r + 4) (s2.1 - 1).toNat))))
              else none
            else
              some (Sum.inr (s2.1, s2.2))
          else none
        else
          some (Sum.inr (s2.1, s2.2))
      ) FU (s1.1, s1.2)) fun (b2 : Int × Mem) =>
      if 0 ≤ b2.1 ∧ b2.1 < 8 then
        some (Sum.inl ((s1.1 + 1), (mset b2.2 (r + 4) b2.1.toNat s1.1)))
      else none
    else
      some (Sum.inr s1.2)
  ) FU (0, D)) fun (b1 : Mem) =>
  some b1
set_option maxHeartbeats 4000000 in
theorem ok8_putInOrder {l : Launch} {X : XT} {n : Nat} {D : Mem} {Q : Option Value → Nat → Rho → Mem → Prop} (hn : 117 ≤ n) {r : Nat} (hr : VR n r 8) (h : wpo (f8_putInOrder D r) (fun a => Q none n rt a)) : MOK l y8_putInOrder c8_putInOrder 4 (none) { frames := 1, cells := 0, slots := 0, locals := 21 } 0 0 X [vR X r] n rt D Q := by
  refine MOK_of 8 (by decide +kernel) rfl (lv := [(0, vR X r)]) (Nat.le_of_ble_eq_true rfl) rfl (fun K hK F hnm => ?_)
  subst hK
  unfold f8_putInOrder at h
  refine r_iconst F (z := 0) d8_putInOrder_0 ?_
  refine r_istore_n F (lv' := [(1, vI 0), (0, vR X r)]) rfl (Nat.le_of_ble_eq_true rfl) rfl d8_putInOrder_1 ?_
  refine r_weak [1, 0] rfl ?_
  refine at_loopj (A := fun (s1 : Int × Mem) => At K X (ZQ K X Q) 0 0 n rt 4 2 [(0, vR X r), (1, vI s1.1)] [] s1.2) (B := fun (b1 : Mem) => At K X (ZQ K X Q) 0 0 n rt 4 74 [] [] b1) h (fun b1 h => ?_) (fun s1 h => ?_)
  · replace h := wpo_some h
    exact r_vret F h d8_putInOrder_74
  · refine r_iload_n F 1 rfl rfl d8_putInOrder_2 ?_
    refine r_aload_nR F 0 rfl rfl d8_putInOrder_3 ?_
    refine r_getR F (z := 12) lf8_61 hr (z8_0 hr) d8_putInOrder_4 ?_
    refine r_getI F lf8_107 (vc12 hn) d8_putInOrder_7 ?_
    refine r_icmp_ge F (tgt := 74) d8_putInOrder_10 (by decide) (fun hb => ?_) (fun hb => ?_)
    · replace h := wpo_neg h hb
      refine r_weak [] rfl ?_
      replace h := wpo_inr h
      exact h
    · replace h := wpo_pos h hb
      refine r_aload_nR F 0 rfl rfl d8_putInOrder_13 ?_
      refine r_iload_n F 1 rfl rfl d8_putInOrder_14 ?_
      replace h := wpo_bind h
      refine r_callV0 F lm8_113 mf8_rankOf hr rfl (fr := 0) (lo := 0) (As := [vI s1.1]) (rest := []) ⟨Nat.le_of_ble_eq_true rfl, Nat.le_of_ble_eq_true rfl⟩ rfl (Nat.le_of_ble_eq_true rfl) ⟨Nat.zero_le _, Nat.zero_le _⟩ d8_putInOrder_15 ?_
      refine ok8_rankOf hn hr (kI h (fun a1 h => ?_))
      refine r_istore_n F (lv' := [(2, vI a1), (0, vR X r), (1, vI s1.1)]) rfl (Nat.le_of_ble_eq_true rfl) rfl d8_putInOrder_18 ?_
      refine r_iload_n F 2 rfl rfl d8_putInOrder_19 ?_
      refine r_istore_n F (lv' := [(3, vI s1.1), (2, vI a1), (0, vR X r), (1, vI s1.1)]) rfl (Nat.le_of_ble_eq_true rfl) rfl d8_putInOrder_20 ?_
      refine r_weak [2, 3, 1, 0] rfl ?_
      refine at_loopj (A := fun (s2 : Int × Mem) => At K X (ZQ K X Q) 0 0 n rt 4 21 [(0, vR X r), (1, vI s1.1), (2, vI a1), (3, vI s2.1)] [] s2.2) (B := fun (b2 : Int × Mem) => At K X (ZQ K X Q) 0 0 n rt 4 61 [(0, vR X r), (1, vI s1.1), (3, vI b2.1)] [] b2.2) h (fun b2 h => ?_) (fun s2 h => ?_)
      · refine r_aload_nR F 0 rfl rfl d8_putInOrder_61 ?_
        refine r_getR F (z := (r + 4)) lf8_34 hr (z8_8 hr) d8_putInOrder_62 ?_
        refine r_iload_n F 2 rfl rfl d8_putInOrder_65 ?_
        refine r_iload_n F 1 rfl rfl d8_putInOrder_66 ?_
        obtain ⟨hx3, h⟩ := wpo_chk h
        refine r_iast F (y8_8 hn hr) hx3 d8_putInOrder_67 ?_
        refine r_iinc F 1 (lv' := [(1, vI (s1.1 + 1)), (0, vR X r), (3, vI b2.1)]) rfl (Nat.le_of_ble_eq_true rfl) rfl d8_putInOrder_68 ?_
        refine r_goto F (tgt := 2) (by decide) d8_putInOrder_71 ?_
        refine r_weak [1, 0] rfl ?_
        replace h := wpo_inl h
        exact h
      · refine r_iload_n F 3 rfl rfl d8_putInOrder_21 ?_
        refine r_if_le F (tgt := 61) d8_putInOrder_22 (by decide) (fun hb => ?_) (fun hb => ?_)
        · replace h := wpo_neg h hb
          refine r_weak [0, 1, 3] rfl ?_
          replace h := wpo_inr h
          exact h
        · replace h := wpo_pos h hb
          refine r_aload_nR F 0 rfl rfl d8_putInOrder_25 ?_
          refine r_aload_nR F 0 rfl rfl d8_putInOrder_26 ?_
          refine r_getR F (z := (r + 4)) lf8_34 hr (z8_8 hr) d8_putInOrder_27 ?_
          refine r_iload_n F 3 rfl rfl d8_putInOrder_30 ?_
          refine r_iconst F (z := 1) d8_putInOrder_31 ?_
          refine r_isub F d8_putInOrder_32 ?_
          obtain ⟨hx1, h⟩ := wpo_chk h
          refine r_iald F (y8_8 hn hr) hx1 d8_putInOrder_33 ?_
          replace h := wpo_bind h
          refine r_callV0 F lm8_113 mf8_rankOf hr rfl (fr := 0) (lo := 0) (As := [vI (s2.2 (r + 4) (s2.1 - 1).toNat)]) (rest := []) ⟨Nat.le_of_ble_eq_true rfl, Nat.le_of_ble_eq_true rfl⟩ rfl (Nat.le_of_ble_eq_true rfl) ⟨Nat.zero_le _, Nat.zero_le _⟩ d8_putInOrder_34 ?_
          refine ok8_rankOf hn hr (kI h (fun a2 h => ?_))
          refine r_iload_n F 2 rfl rfl d8_putInOrder_37 ?_
          refine r_icmp_le F (tgt := 61) d8_putInOrder_38 (by decide) (fun hb => ?_) (fun hb => ?_)
          · replace h := wpo_neg h hb
            refine r_weak [0, 1, 3] rfl ?_
            replace h := wpo_inr h
            exact h
          · replace h := wpo_pos h hb
            refine r_aload_nR F 0 rfl rfl d8_putInOrder_41 ?_
            refine r_getR F (z := (r + 4)) lf8_34 hr (z8_8 hr) d8_putInOrder_42 ?_
            refine r_iload_n F 3 rfl rfl d8_putInOrder_45 ?_
            refine r_aload_nR F 0 rfl rfl d8_putInOrder_46 ?_
            refine r_getR F (z := (r + 4)) lf8_34 hr (z8_8 hr) d8_putInOrder_47 ?_
            refine r_iload_n F 3 rfl rfl d8_putInOrder_50 ?_
            refine r_iconst F (z := 1) d8_putInOrder_51 ?_
            refine r_isub F d8_putInOrder_52 ?_
            refine r_iald F (y8_8 hn hr) hx1 d8_putInOrder_53 ?_
            obtain ⟨hx2, h⟩ := wpo_chk h
            refine r_iast F (y8_8 hn hr) hx2 d8_putInOrder_54 ?_
            refine r_iinc F 3 (lv' := [(3, vI (s2.1 + (-1))), (0, vR X r), (1, vI s1.1), (2, vI a1)]) rfl (Nat.le_of_ble_eq_true rfl) rfl d8_putInOrder_55 ?_
            refine r_goto F (tgt := 21) (by decide) d8_putInOrder_58 ?_
            refine r_weak [1, 2, 3, 0] rfl ?_
            replace h := wpo_inl h
            exact h
theorem d8_passNight_0 : decode c8_passNight 0 = .ok (.aload_n 0, 1) := by decide +kernel
theorem d8_passNight_1 : decode c8_passNight 1 = .ok (.getfield 43, 3) := by decide +kernel
theorem d8_passNight_4 : decode c8_passNight 4 = .ok (.iload_n 1, 1) := by decide +kernel
theorem d8_passNight_5 : decode c8_passNight 5 = .ok (.iconst 0, 1) := by decide +kernel
theorem d8_passNight_6 : decode c8_passNight 6 = .ok (.iastore, 1) := by decide +kernel
theorem d8_passNight_7 : decode c8_passNight 7 = .ok (.aload_n 0, 1) := by decide +kernel
theorem d8_passNight_8 : decode c8_passNight 8 = .ok (.getfield 46, 3) := by decide +kernel
theorem d8_passNight_11 : decode c8_passNight 11 = .ok (.iload_n 1, 1) := by decide +kernel
theorem d8_passNight_12 : decode c8_passNight 12 = .ok (.iconst 0, 1) := by decide +kernel
theorem d8_passNight_13 : decode c8_passNight 13 = .ok (.iastore, 1) := by decide +kernel
theorem d8_passNight_14 : decode c8_passNight 14 = .ok (.aload_n 0, 1) := by decide +kernel
theorem d8_passNight_15 : decode c8_passNight 15 = .ok (.getfield 49, 3) := by decide +kernel
theorem d8_passNight_18 : decode c8_passNight 18 = .ok (.iload_n 1, 1) := by decide +kernel
theorem d8_passNight_19 : decode c8_passNight 19 = .ok (.aload_n 0, 1) := by decide +kernel
theorem d8_passNight_20 : decode c8_passNight 20 = .ok (.getfield 9, 3) := by decide +kernel
theorem d8_passNight_23 : decode c8_passNight 23 = .ok (.iastore, 1) := by decide +kernel
theorem d8_passNight_24 : decode c8_passNight 24 = .ok (.aload_n 0, 1) := by decide +kernel
theorem d8_passNight_25 : decode c8_passNight 25 = .ok (.getfield 52, 3) := by decide +kernel
theorem d8_passNight_28 : decode c8_passNight 28 = .ok (.iload_n 1, 1) := by decide +kernel
theorem d8_passNight_29 : decode c8_passNight 29 = .ok (.iconst 0, 1) := by decide +kernel
theorem d8_passNight_30 : decode c8_passNight 30 = .ok (.iastore, 1) := by decide +kernel
theorem d8_passNight_31 : decode c8_passNight 31 = .ok (.iconst 0, 1) := by decide +kernel
theorem d8_passNight_32 : decode c8_passNight 32 = .ok (.istore_n 3, 1) := by decide +kernel
theorem d8_passNight_33 : decode c8_passNight 33 = .ok (.iload_n 3, 1) := by decide +kernel
theorem d8_passNight_34 : decode c8_passNight 34 = .ok (.aload_n 0, 1) := by decide +kernel
theorem d8_passNight_35 : decode c8_passNight 35 = .ok (.getfield 61, 3) := by decide +kernel
theorem d8_passNight_38 : decode c8_passNight 38 = .ok (.getfield 107, 3) := by decide +kernel
theorem d8_passNight_41 : decode c8_passNight 41 = .ok (.if_icmp .ge 174, 3) := by decide +kernel
theorem d8_passNight_44 : decode c8_passNight 44 = .ok (.aload_n 0, 1) := by decide +kernel
theorem d8_passNight_45 : decode c8_passNight 45 = .ok (.getfield 34, 3) := by decide +kernel
theorem d8_passNight_48 : decode c8_passNight 48 = .ok (.iload_n 3, 1) := by decide +kernel
theorem d8_passNight_49 : decode c8_passNight 49 = .ok (.iaload, 1) := by decide +kernel
theorem d8_passNight_50 : decode c8_passNight 50 = .ok (.istore 4, 2) := by decide +kernel
theorem d8_passNight_52 : decode c8_passNight 52 = .ok (.aload_n 0, 1) := by decide +kernel
theorem d8_passNight_53 : decode c8_passNight 53 = .ok (.getfield 61, 3) := by decide +kernel
theorem d8_passNight_56 : decode c8_passNight 56 = .ok (.getfield 69, 3) := by decide +kernel
theorem d8_passNight_59 : decode c8_passNight 59 = .ok (.iload 4, 2) := by decide +kernel
theorem d8_passNight_61 : decode c8_passNight 61 = .ok (.iaload, 1) := by decide +kernel
theorem d8_passNight_62 : decode c8_passNight 62 = .ok (.istore 5, 2) := by decide +kernel
theorem d8_passNight_64 : decode c8_passNight 64 = .ok (.aload_n 0, 1) := by decide +kernel
theorem d8_passNight_65 : decode c8_passNight 65 = .ok (.getfield 28, 3) := by decide +kernel
theorem d8_passNight_68 : decode c8_passNight 68 = .ok (.iload 4, 2) := by decide +kernel
theorem d8_passNight_70 : decode c8_passNight 70 = .ok (.iaload, 1) := by decide +kernel
theorem d8_passNight_71 : decode c8_passNight 71 = .ok (.iload_n 1, 1) := by decide +kernel
theorem d8_passNight_72 : decode c8_passNight 72 = .ok (.if_icmp .gt 137, 3) := by decide +kernel
theorem d8_passNight_75 : decode c8_passNight 75 = .ok (.aload_n 0, 1) := by decide +kernel
theorem d8_passNight_76 : decode c8_passNight 76 = .ok (.getfield 37, 3) := by decide +kernel
theorem d8_passNight_79 : decode c8_passNight 79 = .ok (.iload 4, 2) := by decide +kernel
theorem d8_passNight_81 : decode c8_passNight 81 = .ok (.iaload, 1) := by decide +kernel
theorem d8_passNight_82 : decode c8_passNight 82 = .ok (.iconst (-1), 1) := by decide +kernel
theorem d8_passNight_83 : decode c8_passNight 83 = .ok (.if_icmp .eq 6, 3) := by decide +kernel
theorem d8_passNight_86 : decode c8_passNight 86 = .ok (.goto 123, 3) := by decide +kernel
theorem d8_passNight_89 : decode c8_passNight 89 = .ok (.iload_n 2, 1) := by decide +kernel
theorem d8_passNight_90 : decode c8_passNight 90 = .ok (.ifCond .eq 68, 3) := by decide +kernel
theorem d8_passNight_93 : decode c8_passNight 93 = .ok (.iload_n 1, 1) := by decide +kernel
theorem d8_passNight_94 : decode c8_passNight 94 = .ok (.aload_n 0, 1) := by decide +kernel
theorem d8_passNight_95 : decode c8_passNight 95 = .ok (.getfield 28, 3) := by decide +kernel
theorem d8_passNight_98 : decode c8_passNight 98 = .ok (.iload 4, 2) := by decide +kernel
theorem d8_passNight_100 : decode c8_passNight 100 = .ok (.iaload, 1) := by decide +kernel
theorem d8_passNight_101 : decode c8_passNight 101 = .ok (.aload_n 0, 1) := by decide +kernel
theorem d8_passNight_102 : decode c8_passNight 102 = .ok (.getfield 31, 3) := by decide +kernel
theorem d8_passNight_105 : decode c8_passNight 105 = .ok (.iload 4, 2) := by decide +kernel
theorem d8_passNight_107 : decode c8_passNight 107 = .ok (.iaload, 1) := by decide +kernel
theorem d8_passNight_108 : decode c8_passNight 108 = .ok (.iadd, 1) := by decide +kernel
theorem d8_passNight_109 : decode c8_passNight 109 = .ok (.if_icmp .lt 49, 3) := by decide +kernel
theorem d8_passNight_112 : decode c8_passNight 112 = .ok (.iload 5, 2) := by decide +kernel
theorem d8_passNight_114 : decode c8_passNight 114 = .ok (.aload_n 0, 1) := by decide +kernel
theorem d8_passNight_115 : decode c8_passNight 115 = .ok (.getfield 49, 3) := by decide +kernel
theorem d8_passNight_118 : decode c8_passNight 118 = .ok (.iload_n 1, 1) := by decide +kernel
theorem d8_passNight_119 : decode c8_passNight 119 = .ok (.iaload, 1) := by decide +kernel
theorem d8_passNight_120 : decode c8_passNight 120 = .ok (.if_icmp .gt 38, 3) := by decide +kernel
theorem d8_passNight_123 : decode c8_passNight 123 = .ok (.aload_n 0, 1) := by decide +kernel
theorem d8_passNight_124 : decode c8_passNight 124 = .ok (.getfield 37, 3) := by decide +kernel
theorem d8_passNight_127 : decode c8_passNight 127 = .ok (.iload 4, 2) := by decide +kernel
theorem d8_passNight_129 : decode c8_passNight 129 = .ok (.iload_n 1, 1) := by decide +kernel
theorem d8_passNight_130 : decode c8_passNight 130 = .ok (.iastore, 1) := by decide +kernel
theorem d8_passNight_131 : decode c8_passNight 131 = .ok (.aload_n 0, 1) := by decide +kernel
theorem d8_passNight_132 : decode c8_passNight 132 = .ok (.getfield 43, 3) := by decide +kernel
theorem d8_passNight_135 : decode c8_passNight 135 = .ok (.iload_n 1, 1) := by decide +kernel
theorem d8_passNight_136 : decode c8_passNight 136 = .ok (.dup2, 1) := by decide +kernel
theorem d8_passNight_137 : decode c8_passNight 137 = .ok (.iaload, 1) := by decide +kernel
theorem d8_passNight_138 : decode c8_passNight 138 = .ok (.iconst 1, 1) := by decide +kernel
theorem d8_passNight_139 : decode c8_passNight 139 = .ok (.iload 4, 2) := by decide +kernel
theorem d8_passNight_141 : decode c8_passNight 141 = .ok (.ishl, 1) := by decide +kernel
theorem d8_passNight_142 : decode c8_passNight 142 = .ok (.ior, 1) := by decide +kernel
theorem d8_passNight_143 : decode c8_passNight 143 = .ok (.iastore, 1) := by decide +kernel
theorem d8_passNight_144 : decode c8_passNight 144 = .ok (.aload_n 0, 1) := by decide +kernel
theorem d8_passNight_145 : decode c8_passNight 145 = .ok (.getfield 49, 3) := by decide +kernel
theorem d8_passNight_148 : decode c8_passNight 148 = .ok (.iload_n 1, 1) := by decide +kernel
theorem d8_passNight_149 : decode c8_passNight 149 = .ok (.dup2, 1) := by decide +kernel
theorem d8_passNight_150 : decode c8_passNight 150 = .ok (.iaload, 1) := by decide +kernel
theorem d8_passNight_151 : decode c8_passNight 151 = .ok (.iload 5, 2) := by decide +kernel
theorem d8_passNight_153 : decode c8_passNight 153 = .ok (.isub, 1) := by decide +kernel
theorem d8_passNight_154 : decode c8_passNight 154 = .ok (.iastore, 1) := by decide +kernel
theorem d8_passNight_155 : decode c8_passNight 155 = .ok (.goto 54, 3) := by decide +kernel
theorem d8_passNight_158 : decode c8_passNight 158 = .ok (.iload 5, 2) := by decide +kernel
theorem d8_passNight_160 : decode c8_passNight 160 = .ok (.aload_n 0, 1) := by decide +kernel
theorem d8_passNight_161 : decode c8_passNight 161 = .ok (.getfield 61, 3) := by decide +kernel
theorem d8_passNight_164 : decode c8_passNight 164 = .ok (.getfield 110, 3) := by decide +kernel
theorem d8_passNight_167 : decode c8_passNight 167 = .ok (.iload 4, 2) := by decide +kernel
theorem d8_passNight_169 : decode c8_passNight 169 = .ok (.iaload, 1) := by decide +kernel
theorem d8_passNight_170 : decode c8_passNight 170 = .ok (.imul, 1) := by decide +kernel
theorem d8_passNight_171 : decode c8_passNight 171 = .ok (.istore 6, 2) := by decide +kernel
theorem d8_passNight_173 : decode c8_passNight 173 = .ok (.aload_n 0, 1) := by decide +kernel
theorem d8_passNight_174 : decode c8_passNight 174 = .ok (.getfield 46, 3) := by decide +kernel
theorem d8_passNight_177 : decode c8_passNight 177 = .ok (.iload_n 1, 1) := by decide +kernel
theorem d8_passNight_178 : decode c8_passNight 178 = .ok (.dup2, 1) := by decide +kernel
theorem d8_passNight_179 : decode c8_passNight 179 = .ok (.iaload, 1) := by decide +kernel
theorem d8_passNight_180 : decode c8_passNight 180 = .ok (.iconst 1, 1) := by decide +kernel
theorem d8_passNight_181 : decode c8_passNight 181 = .ok (.iload 4, 2) := by decide +kernel
theorem d8_passNight_183 : decode c8_passNight 183 = .ok (.ishl, 1) := by decide +kernel
theorem d8_passNight_184 : decode c8_passNight 184 = .ok (.ior, 1) := by decide +kernel
theorem d8_passNight_185 : decode c8_passNight 185 = .ok (.iastore, 1) := by decide +kernel
theorem d8_passNight_186 : decode c8_passNight 186 = .ok (.aload_n 0, 1) := by decide +kernel
theorem d8_passNight_187 : decode c8_passNight 187 = .ok (.getfield 52, 3) := by decide +kernel
theorem d8_passNight_190 : decode c8_passNight 190 = .ok (.iload_n 1, 1) := by decide +kernel
theorem d8_passNight_191 : decode c8_passNight 191 = .ok (.dup2, 1) := by decide +kernel
theorem d8_passNight_192 : decode c8_passNight 192 = .ok (.iaload, 1) := by decide +kernel
theorem d8_passNight_193 : decode c8_passNight 193 = .ok (.iload 6, 2) := by decide +kernel
theorem d8_passNight_195 : decode c8_passNight 195 = .ok (.iadd, 1) := by decide +kernel
theorem d8_passNight_196 : decode c8_passNight 196 = .ok (.iastore, 1) := by decide +kernel
theorem d8_passNight_197 : decode c8_passNight 197 = .ok (.aload_n 0, 1) := by decide +kernel
theorem d8_passNight_198 : decode c8_passNight 198 = .ok (.getfield 40, 3) := by decide +kernel
theorem d8_passNight_201 : decode c8_passNight 201 = .ok (.iload 4, 2) := by decide +kernel
theorem d8_passNight_203 : decode c8_passNight 203 = .ok (.dup2, 1) := by decide +kernel
theorem d8_passNight_204 : decode c8_passNight 204 = .ok (.iaload, 1) := by decide +kernel
theorem d8_passNight_205 : decode c8_passNight 205 = .ok (.iload 6, 2) := by decide +kernel
theorem d8_passNight_207 : decode c8_passNight 207 = .ok (.iadd, 1) := by decide +kernel
theorem d8_passNight_208 : decode c8_passNight 208 = .ok (.iastore, 1) := by decide +kernel
theorem d8_passNight_209 : decode c8_passNight 209 = .ok (.iinc 3 1, 3) := by decide +kernel
theorem d8_passNight_212 : decode c8_passNight 212 = .ok (.goto (-179), 3) := by decide +kernel
theorem d8_passNight_215 : decode c8_passNight 215 = .ok (.return_, 1) := by decide +kernel
def f8_passNight (D : Mem) (r : Nat) (p0 : Int) (p1 : Int) : Option (Mem) :=
  if 0 ≤ p0 ∧ p0 < 12 then
    Option.bind (some (mset D (r + 7) p0.toNat 0)) fun (D1 : Mem) =>
    Option.bind (some (mset D1 (r + 8) p0.toNat 0)) fun (D2 : Mem) =>
    Option.bind (some (mset D2 (r + 9) p0.toNat (D2 r 1))) fun (D3 : Mem) =>
    Option.bind (some (mset D3 (r + 10) p0.toNat 0)) fun (D4 : Mem) =>
    Option.bind (@loop (Int × Mem) (Mem) (fun s1 =>
      if w32 s1.1 < w32 (s1.2 12 8) then
        if 0 ≤ s1.1 ∧ s1.1 < 8 then
          Option.bind (some (s1.2 (r + 4) s1.1.toNat)) fun (v1 : Int) =>
          if 0 ≤ v1 ∧ v1 < 8 then
            Option.bind (some (s1.2 13 v1.toNat)) fun (v2 : Int) =>
            Option.bind (
              if w32 p0 < w32 (s1.2 (r + 2) v1.toNat) then
                some s1.2
              else
                if w32 (s1.2 (r + 5) v1.toNat) = w32 (-1) then
                  Option.bind (
                    if w32 p1 = 0 then
                      some true
                    else
                      if w32 p0 < w32 ((s1.2 (r + 2) v1.toNat) + (s1.2 (r + 3) v1.toNat)) then
                        some true
                      else
                        if w32 (s1.2 (r + 9) p0.toNat) < w32 v2 then
                          some true
                        else
                          some false
                  ) fun (t1 : Bool) =>
                  if t1 = true then
                    Option.bind (some (v2 * (s1.2 15 v1.toNat))) fun (v3 : Int) =>
                    Option.bind (some (mset s1.2 (r + 8) p0.toNat (or32 (s1.2 (r + 8) p0.toNat) (shl32 1 v1)))) fun (D5 : Mem) =>
                    Option.bind (some (mset D5 (r + 10) p0.toNat ((D5 (r + 10) p0.toNat) + v3))) fun (D6 : Mem) =>
                    some (mset D6 (r + 6) v1.toNat ((D6 (r + 6) v1.toNat) + v3))
                  else
                    Option.bind (some (mset s1.2 (r + 5) v1.toNat p0)) fun (D7 : Mem) =>
                    Option.bind (some (mset D7 (r + 7) p0.toNat (or32 (D7 (r + 7) p0.toNat) (shl32 1 v1)))) fun (D8 : Mem) =>
                    some (mset D8 (r + 9) p0.toNat ((D8 (r + 9) p0.toNat) - v2))
                else
                  some s1.2
            ) fun (j1 : Mem) =>
            some (Sum.inl ((s1.1 + 1), j1))
          else none
        else none
      else
        some (Sum.inr s1.2)
    ) FU (0, D4)) fun (b1 : Mem) =>
    some b1
  else none
set_option maxHeartbeats 4000000 in
theorem ok8_passNight {l : Launch} {X : XT} {n : Nat} {D : Mem} {Q : Option Value → Nat → Rho → Mem → Prop} (hn : 117 ≤ n) {r : Nat} {p0 : Int} {p1 : Int} (hr : VR n r 8) (h : wpo (f8_passNight D r p0 p1) (fun a => Q none n rt a)) : MOK l y8_passNight c8_passNight 7 (none) { frames := 0, cells := 0, slots := 0, locals := 0 } 0 0 X [vR X r, vI p0, vI p1] n rt D Q := by
  refine MOK_of 8 (by decide +kernel) rfl (lv := [(0, vR X r), (1, vI p0), (2, vI p1)]) (Nat.le_of_ble_eq_true rfl) rfl (fun K hK F hnm => ?_)
  subst hK
  unfold f8_passNight at h
  refine r_aload_nR F 0 rfl rfl d8_passNight_0 ?_
  refine r_getR F (z := (r + 7)) lf8_43 hr (z8_11 hr) d8_passNight_1 ?_
  refine r_iload_n F 1 rfl rfl d8_passNight_4 ?_
  refine r_iconst F (z := 0) d8_passNight_5 ?_
  obtain ⟨hx1, h⟩ := wpo_chk h
  refine r_iast F (y8_11 hn hr) hx1 d8_passNight_6 ?_
  refine r_aload_nR F 0 rfl rfl d8_passNight_7 ?_
  refine r_getR F (z := (r + 8)) lf8_46 hr (z8_12 hr) d8_passNight_8 ?_
  refine r_iload_n F 1 rfl rfl d8_passNight_11 ?_
  refine r_iconst F (z := 0) d8_passNight_12 ?_
  refine at_name (B := fun (D1 : Mem) => At K X (ZQ K X Q) 0 0 n rt 7 13 [(0, vR X r), (1, vI p0), (2, vI p1)] [vI 0, vI p0, vR X (r + 8)] D1) h (fun D1 h => ?_)
  refine r_iast F (y8_12 hn hr) hx1 d8_passNight_13 ?_
  refine r_aload_nR F 0 rfl rfl d8_passNight_14 ?_
  refine r_getR F (z := (r + 9)) lf8_49 hr (z8_13 hr) d8_passNight_15 ?_
  refine r_iload_n F 1 rfl rfl d8_passNight_18 ?_
  refine r_aload_nR F 0 rfl rfl d8_passNight_19 ?_
  refine at_name (B := fun (D2 : Mem) => At K X (ZQ K X Q) 0 0 n rt 7 20 [(0, vR X r), (1, vI p0), (2, vI p1)] [vR X r, vI p0, vR X (r + 9)] D2) h (fun D2 h => ?_)
  refine r_getI F lf8_9 hr d8_passNight_20 ?_
  refine r_iast F (y8_13 hn hr) hx1 d8_passNight_23 ?_
  refine r_aload_nR F 0 rfl rfl d8_passNight_24 ?_
  refine r_getR F (z := (r + 10)) lf8_52 hr (z8_14 hr) d8_passNight_25 ?_
  refine r_iload_n F 1 rfl rfl d8_passNight_28 ?_
  refine r_iconst F (z := 0) d8_passNight_29 ?_
  refine at_name (B := fun (D3 : Mem) => At K X (ZQ K X Q) 0 0 n rt 7 30 [(0, vR X r), (1, vI p0), (2, vI p1)] [vI 0, vI p0, vR X (r + 10)] D3) h (fun D3 h => ?_)
  refine r_iast F (y8_14 hn hr) hx1 d8_passNight_30 ?_
  refine r_iconst F (z := 0) d8_passNight_31 ?_
  refine r_istore_n F (lv' := [(3, vI 0), (0, vR X r), (1, vI p0), (2, vI p1)]) rfl (Nat.le_of_ble_eq_true rfl) rfl d8_passNight_32 ?_
  refine at_name (B := fun (D4 : Mem) => At K X (ZQ K X Q) 0 0 n rt 7 33 [(3, vI 0), (0, vR X r), (1, vI p0), (2, vI p1)] [] D4) h (fun D4 h => ?_)
  refine r_weak [1, 2, 3, 0] rfl ?_
  refine at_loopj (A := fun (s1 : Int × Mem) => At K X (ZQ K X Q) 0 0 n rt 7 33 [(0, vR X r), (1, vI p0), (2, vI p1), (3, vI s1.1)] [] s1.2) (B := fun (b1 : Mem) => At K X (ZQ K X Q) 0 0 n rt 7 215 [] [] b1) h (fun b1 h => ?_) (fun s1 h => ?_)
  · replace h := wpo_some h
    exact r_vret F h d8_passNight_215
  · refine r_iload_n F 3 rfl rfl d8_passNight_33 ?_
    refine r_aload_nR F 0 rfl rfl d8_passNight_34 ?_
    refine r_getR F (z := 12) lf8_61 hr (z8_0 hr) d8_passNight_35 ?_
    refine r_getI F lf8_107 (vc12 hn) d8_passNight_38 ?_
    refine r_icmp_ge F (tgt := 215) d8_passNight_41 (by decide) (fun hb => ?_) (fun hb => ?_)
    · replace h := wpo_neg h hb
      refine r_weak [] rfl ?_
      replace h := wpo_inr h
      exact h
    · replace h := wpo_pos h hb
      refine r_aload_nR F 0 rfl rfl d8_passNight_44 ?_
      refine r_getR F (z := (r + 4)) lf8_34 hr (z8_8 hr) d8_passNight_45 ?_
      refine r_iload_n F 3 rfl rfl d8_passNight_48 ?_
      obtain ⟨hx2, h⟩ := wpo_chk h
      refine r_iald F (y8_8 hn hr) hx2 d8_passNight_49 ?_
      refine r_istore F (lv' := [(4, vI (s1.2 (r + 4) s1.1.toNat)), (0, vR X r), (1, vI p0), (2, vI p1), (3, vI s1.1)]) (Nat.le_of_ble_eq_true rfl) rfl d8_passNight_50 ?_
      refine at_name (B := fun (v1 : Int) => At K X (ZQ K X Q) 0 0 n rt 7 52 [(4, vI v1), (0, vR X r), (1, vI p0), (2, vI p1), (3, vI s1.1)] [] s1.2) h (fun v1 h => ?_)
      refine r_aload_nR F 1 rfl rfl d8_passNight_52 ?_
      refine r_getR F (z := 12) lf8_61 hr (z8_0 hr) d8_passNight_53 ?_
      refine r_getR F (z := 13) lf8_69 (vc12 hn) z12_10 d8_passNight_56 ?_
      refine r_iload F 0 rfl d8_passNight_59 ?_
      obtain ⟨hx3, h⟩ := wpo_chk h
      refine r_iald F (vc13 hn) hx3 d8_passNight_61 ?_
      refine r_istore F (lv' := [(5, vI (s1.2 13 v1.toNat)), (4, vI v1), (0, vR X r), (1, vI p0), (2, vI p1), (3, vI s1.1)]) (Nat.le_of_ble_eq_true rfl) rfl d8_passNight_62 ?_
      refine at_name (B := fun (v2 : Int) => At K X (ZQ K X Q) 0 0 n rt 7 64 [(5, vI v2), (4, vI v1), (0, vR X r), (1, vI p0), (2, vI p1), (3, vI s1.1)] [] s1.2) h (fun v2 h => ?_)
      refine r_aload_nR F 2 rfl rfl d8_passNight_64 ?_
      refine r_getR F (z := (r + 2)) lf8_28 hr (z8_6 hr) d8_passNight_65 ?_
      refine r_iload F 1 rfl d8_passNight_68 ?_
      refine r_iald F (y8_6 hn hr) hx3 d8_passNight_70 ?_
      refine r_iload_n F 3 rfl rfl d8_passNight_71 ?_
      refine at_join (B := fun (j1 : Mem) => At K X (ZQ K X Q) 0 0 n rt 7 209 [(0, vR X r), (1, vI p0), (2, vI p1), (3, vI s1.1)] [] j1) h (fun j1 h => ?_) (fun h => ?_)
      · refine r_iinc F 3 (lv' := [(3, vI (s1.1 + 1)), (0, vR X r), (1, vI p0), (2, vI p1)]) rfl (Nat.le_of_ble_eq_true rfl) rfl d8_passNight_209 ?_
        refine r_goto F (tgt := 33) (by decide) d8_passNight_212 ?_
        refine r_weak [1, 2, 3, 0] rfl ?_
        replace h := wpo_inl h
        exact h
      · refine r_icmp_gt F (tgt := 209) d8_passNight_72 (by decide) (fun hb => ?_) (fun hb => ?_)
        · replace h := wpo_pos h hb
          refine r_weak [2, 3, 4, 5] rfl ?_
          replace h := wpo_some h
          exact h
        · replace h := wpo_neg h hb
          refine r_aload_nR F 2 rfl rfl d8_passNight_75 ?_
          refine r_getR F (z := (r + 5)) lf8_37 hr (z8_9 hr) d8_passNight_76 ?_
          refine r_iload F 1 rfl d8_passNight_79 ?_
          refine r_iald F (y8_9 hn hr) hx3 d8_passNight_81 ?_
          refine r_iconst F (z := (-1)) d8_passNight_82 ?_
          refine r_icmp_eq F (tgt := 89) d8_passNight_83 (by decide) (fun hb => ?_) (fun hb => ?_)
          · replace h := wpo_pos h hb
            refine r_iload_n F 4 rfl rfl d8_passNight_89 ?_
            refine at_join (B := fun (t1 : Bool) => (t1 = true → At K X (ZQ K X Q) 0 0 n rt 7 158 [(0, vR X r), (1, vI p0), (2, vI p1), (3, vI s1.1), (4, vI v1), (5, vI v2)] [] s1.2) ∧ (t1 = false → At K X (ZQ K X Q) 0 0 n rt 7 123 [(0, vR X r), (1, vI p0), (2, vI p1), (3, vI s1.1), (4, vI v1), (5, vI v2)] [] s1.2)) h (fun t1 h => ?_) (fun h => ?_)
            · refine at_bool h (fun hb h => ?_) (fun hb h => ?_)
              · refine r_iload F 5 rfl d8_passNight_158 ?_
                refine r_aload_nR F 0 rfl rfl d8_passNight_160 ?_
                refine r_getR F (z := 12) lf8_61 hr (z8_0 hr) d8_passNight_161 ?_
                refine r_getR F (z := 15) lf8_110 (vc12 hn) z12_12 d8_passNight_164 ?_
                refine r_iload F 4 rfl d8_passNight_167 ?_
                refine r_iald F (vc15 hn) hx3 d8_passNight_169 ?_
                refine r_imul F d8_passNight_170 ?_
                refine r_istore F (lv' := [(6, vI (v2 * (s1.2 15 v1.toNat))), (0, vR X r), (1, vI p0), (2, vI p1), (3, vI s1.1), (4, vI v1), (5, vI v2)]) (Nat.le_of_ble_eq_true rfl) rfl d8_passNight_171 ?_
                refine at_name (B := fun (v3 : Int) => At K X (ZQ K X Q) 0 0 n rt 7 173 [(6, vI v3), (0, vR X r), (1, vI p0), (2, vI p1), (3, vI s1.1), (4, vI v1), (5, vI v2)] [] s1.2) h (fun v3 h => ?_)
                refine r_aload_nR F 1 rfl rfl d8_passNight_173 ?_
                refine r_getR F (z := (r + 8)) lf8_46 hr (z8_12 hr) d8_passNight_174 ?_
                refine r_iload_n F 2 rfl rfl d8_passNight_177 ?_
                refine r_dup2 F rfl rfl d8_passNight_178 ?_
                refine r_iald F (y8_12 hn hr) hx1 d8_passNight_179 ?_
                refine r_iconst F (z := 1) d8_passNight_180 ?_
                refine r_iload F 5 rfl d8_passNight_181 ?_
                refine r_ishl F d8_passNight_183 ?_
                refine r_ior F d8_passNight_184 ?_
                refine r_iast F (y8_12 hn hr) hx1 d8_passNight_185 ?_
                refine r_aload_nR F 1 rfl rfl d8_passNight_186 ?_
                refine r_getR F (z := (r + 10)) lf8_52 hr (z8_14 hr) d8_passNight_187 ?_
                refine r_iload_n F 2 rfl rfl d8_passNight_190 ?_
                refine r_dup2 F rfl rfl d8_passNight_191 ?_
                refine at_name (B := fun (D5 : Mem) => At K X (ZQ K X Q) 0 0 n rt 7 192 [(6, vI v3), (0, vR X r), (1, vI p0), (2, vI p1), (3, vI s1.1), (4, vI v1), (5, vI v2)] [vI p0, vR X (r + 10), vI p0, vR X (r + 10)] D5) h (fun D5 h => ?_)
                refine r_iald F (y8_14 hn hr) hx1 d8_passNight_192 ?_
                refine r_iload F 0 rfl d8_passNight_193 ?_
                refine r_iadd F d8_passNight_195 ?_
                refine r_iast F (y8_14 hn hr) hx1 d8_passNight_196 ?_
                refine r_aload_nR F 1 rfl rfl d8_passNight_197 ?_
                refine r_getR F (z := (r + 6)) lf8_40 hr (z8_10 hr) d8_passNight_198 ?_
                refine r_iload F 5 rfl d8_passNight_201 ?_
                refine r_dup2 F rfl rfl d8_passNight_203 ?_
                refine at_name (B := fun (D6 : Mem) => At K X (ZQ K X Q) 0 0 n rt 7 204 [(6, vI v3), (0, vR X r), (1, vI p0), (2, vI p1), (3, vI s1.1), (4, vI v1), (5, vI v2)] [vI v1, vR X (r + 6), vI v1, vR X (r + 6)] D6) h (fun D6 h => ?_)
                refine r_iald F (y8_10 hn hr) hx3 d8_passNight_204 ?_
                refine r_iload F 0 rfl d8_passNight_205 ?_
                refine r_iadd F d8_passNight_207 ?_
                refine r_iast F (y8_10 hn hr) hx3 d8_passNight_208 ?_
                refine r_weak [1, 2, 3, 4] rfl ?_
                replace h := wpo_some h
                exact h
              · refine r_aload_nR F 0 rfl rfl d8_passNight_123 ?_
                refine r_getR F (z := (r + 5)) lf8_37 hr (z8_9 hr) d8_passNight_124 ?_
                refine r_iload F 4 rfl d8_passNight_127 ?_
                refine r_iload_n F 1 rfl rfl d8_passNight_129 ?_
                refine r_iast F (y8_9 hn hr) hx3 d8_passNight_130 ?_
                refine r_aload_nR F 0 rfl rfl d8_passNight_131 ?_
                refine r_getR F (z := (r + 7)) lf8_43 hr (z8_11 hr) d8_passNight_132 ?_
                refine r_iload_n F 1 rfl rfl d8_passNight_135 ?_
                refine r_dup2 F rfl rfl d8_passNight_136 ?_
                refine at_name (B := fun (D7 : Mem) => At K X (ZQ K X Q) 0 0 n rt 7 137 [(0, vR X r), (1, vI p0), (2, vI p1), (3, vI s1.1), (4, vI v1), (5, vI v2)] [vI p0, vR X (r + 7), vI p0, vR X (r + 7)] D7) h (fun D7 h => ?_)
                refine r_iald F (y8_11 hn hr) hx1 d8_passNight_137 ?_
                refine r_iconst F (z := 1) d8_passNight_138 ?_
                refine r_iload F 4 rfl d8_passNight_139 ?_
                refine r_ishl F d8_passNight_141 ?_
                refine r_ior F d8_passNight_142 ?_
                refine r_iast F (y8_11 hn hr) hx1 d8_passNight_143 ?_
                refine r_aload_nR F 0 rfl rfl d8_passNight_144 ?_
                refine r_getR F (z := (r + 9)) lf8_49 hr (z8_13 hr) d8_passNight_145 ?_
                refine r_iload_n F 1 rfl rfl d8_passNight_148 ?_
                refine r_dup2 F rfl rfl d8_passNight_149 ?_
                refine at_name (B := fun (D8 : Mem) => At K X (ZQ K X Q) 0 0 n rt 7 150 [(0, vR X r), (1, vI p0), (2, vI p1), (3, vI s1.1), (4, vI v1), (5, vI v2)] [vI p0, vR X (r + 9), vI p0, vR X (r + 9)] D8) h (fun D8 h => ?_)
                refine r_iald F (y8_13 hn hr) hx1 d8_passNight_150 ?_
                refine r_iload F 5 rfl d8_passNight_151 ?_
                refine r_isub F d8_passNight_153 ?_
                refine r_iast F (y8_13 hn hr) hx1 d8_passNight_154 ?_
                refine r_goto F (tgt := 209) (by decide) d8_passNight_155 ?_
                refine r_weak [0, 1, 2, 3] rfl ?_
                replace h := wpo_some h
                exact h
            · refine r_if_eq F (tgt := 158) d8_passNight_90 (by decide) (fun hb => ?_) (fun hb => ?_)
              · replace h := wpo_pos h hb
                refine r_weak [2, 3, 4, 5, 1, 0] rfl ?_
                replace h := wpo_some h
                exact h.1 rfl
              · replace h := wpo_neg h hb
                refine r_iload_n F 3 rfl rfl d8_passNight_93 ?_
                refine r_aload_nR F 2 rfl rfl d8_passNight_94 ?_
                refine r_getR F (z := (r + 2)) lf8_28 hr (z8_6 hr) d8_passNight_95 ?_
                refine r_iload F 1 rfl d8_passNight_98 ?_
                refine r_iald F (y8_6 hn hr) hx3 d8_passNight_100 ?_
                refine r_aload_nR F 2 rfl rfl d8_passNight_101 ?_
                refine r_getR F (z := (r + 3)) lf8_31 hr (z8_7 hr) d8_passNight_102 ?_
                refine r_iload F 1 rfl d8_passNight_105 ?_
                refine r_iald F (y8_7 hn hr) hx3 d8_passNight_107 ?_
                refine r_iadd F d8_passNight_108 ?_
                refine r_icmp_lt F (tgt := 158) d8_passNight_109 (by decide) (fun hb => ?_) (fun hb => ?_)
                · replace h := wpo_pos h hb
                  refine r_weak [2, 3, 4, 5, 1, 0] rfl ?_
                  replace h := wpo_some h
                  exact h.1 rfl
                · replace h := wpo_neg h hb
                  refine r_iload F 0 rfl d8_passNight_112 ?_
                  refine r_aload_nR F 2 rfl rfl d8_passNight_114 ?_
                  refine r_getR F (z := (r + 9)) lf8_49 hr (z8_13 hr) d8_passNight_115 ?_
                  refine r_iload_n F 3 rfl rfl d8_passNight_118 ?_
                  refine r_iald F (y8_13 hn hr) hx1 d8_passNight_119 ?_
                  refine r_icmp_gt F (tgt := 158) d8_passNight_120 (by decide) (fun hb => ?_) (fun hb => ?_)
                  · replace h := wpo_pos h hb
                    refine r_weak [2, 3, 4, 5, 1, 0] rfl ?_
                    replace h := wpo_some h
                    exact h.1 rfl
                  · replace h := wpo_neg h hb
                    refine r_weak [2, 3, 4, 5, 1, 0] rfl ?_
                    replace h := wpo_some h
                    exact h.2 rfl
          · replace h := wpo_neg h hb
            refine r_goto F (tgt := 209) (by decide) d8_passNight_86 ?_
            refine r_weak [2, 3, 4, 5] rfl ?_
            replace h := wpo_some h
            exact h
theorem d8_pass_0 : decode c8_pass 0 = .ok (.aload_n 0, 1) := by decide +kernel
theorem d8_pass_1 : decode c8_pass 1 = .ok (.iconst 0, 1) := by decide +kernel
theorem d8_pass_2 : decode c8_pass 2 = .ok (.putfield 21, 3) := by decide +kernel
theorem d8_pass_5 : decode c8_pass 5 = .ok (.aload_n 0, 1) := by decide +kernel
theorem d8_pass_6 : decode c8_pass 6 = .ok (.getfield 37, 3) := by decide +kernel
theorem d8_pass_9 : decode c8_pass 9 = .ok (.iconst (-1), 1) := by decide +kernel
theorem d8_pass_10 : decode c8_pass 10 = .ok (.invokestatic 79, 3) := by decide +kernel
theorem d8_pass_13 : decode c8_pass 13 = .ok (.aload_n 0, 1) := by decide +kernel
theorem d8_pass_14 : decode c8_pass 14 = .ok (.getfield 40, 3) := by decide +kernel
theorem d8_pass_17 : decode c8_pass 17 = .ok (.iconst 0, 1) := by decide +kernel
theorem d8_pass_18 : decode c8_pass 18 = .ok (.invokestatic 79, 3) := by decide +kernel
theorem d8_pass_21 : decode c8_pass 21 = .ok (.aload_n 0, 1) := by decide +kernel
theorem d8_pass_22 : decode c8_pass 22 = .ok (.invokevirtual 85, 3) := by decide +kernel
theorem d8_pass_25 : decode c8_pass 25 = .ok (.iconst 0, 1) := by decide +kernel
theorem d8_pass_26 : decode c8_pass 26 = .ok (.istore_n 1, 1) := by decide +kernel
theorem d8_pass_27 : decode c8_pass 27 = .ok (.iconst 0, 1) := by decide +kernel
theorem d8_pass_28 : decode c8_pass 28 = .ok (.istore_n 2, 1) := by decide +kernel
theorem d8_pass_29 : decode c8_pass 29 = .ok (.iconst 0, 1) := by decide +kernel
theorem d8_pass_30 : decode c8_pass 30 = .ok (.istore_n 3, 1) := by decide +kernel
theorem d8_pass_31 : decode c8_pass 31 = .ok (.iload_n 3, 1) := by decide +kernel
theorem d8_pass_32 : decode c8_pass 32 = .ok (.aload_n 0, 1) := by decide +kernel
theorem d8_pass_33 : decode c8_pass 33 = .ok (.getfield 61, 3) := by decide +kernel
theorem d8_pass_36 : decode c8_pass 36 = .ok (.getfield 88, 3) := by decide +kernel
theorem d8_pass_39 : decode c8_pass 39 = .ok (.if_icmp .ge 136, 3) := by decide +kernel
theorem d8_pass_42 : decode c8_pass 42 = .ok (.aload_n 0, 1) := by decide +kernel
theorem d8_pass_43 : decode c8_pass 43 = .ok (.iload_n 3, 1) := by decide +kernel
theorem d8_pass_44 : decode c8_pass 44 = .ok (.iload_n 3, 1) := by decide +kernel
theorem d8_pass_45 : decode c8_pass 45 = .ok (.aload_n 0, 1) := by decide +kernel
theorem d8_pass_46 : decode c8_pass 46 = .ok (.getfield 18, 3) := by decide +kernel
theorem d8_pass_49 : decode c8_pass 49 = .ok (.if_icmp .lt 18, 3) := by decide +kernel
theorem d8_pass_52 : decode c8_pass 52 = .ok (.iload_n 2, 1) := by decide +kernel
theorem d8_pass_53 : decode c8_pass 53 = .ok (.aload_n 0, 1) := by decide +kernel
theorem d8_pass_54 : decode c8_pass 54 = .ok (.getfield 61, 3) := by decide +kernel
theorem d8_pass_57 : decode c8_pass 57 = .ok (.getfield 91, 3) := by decide +kernel
theorem d8_pass_60 : decode c8_pass 60 = .ok (.if_icmp .ge 7, 3) := by decide +kernel
theorem d8_pass_63 : decode c8_pass 63 = .ok (.iconst 1, 1) := by decide +kernel
theorem d8_pass_64 : decode c8_pass 64 = .ok (.goto 4, 3) := by decide +kernel
theorem d8_pass_67 : decode c8_pass 67 = .ok (.iconst 0, 1) := by decide +kernel
theorem d8_pass_68 : decode c8_pass 68 = .ok (.invokevirtual 94, 3) := by decide +kernel
theorem d8_pass_71 : decode c8_pass 71 = .ok (.iload_n 1, 1) := by decide +kernel
theorem d8_pass_72 : decode c8_pass 72 = .ok (.aload_n 0, 1) := by decide +kernel
theorem d8_pass_73 : decode c8_pass 73 = .ok (.getfield 9, 3) := by decide +kernel
theorem d8_pass_76 : decode c8_pass 76 = .ok (.aload_n 0, 1) := by decide +kernel
theorem d8_pass_77 : decode c8_pass 77 = .ok (.getfield 49, 3) := by decide +kernel
theorem d8_pass_80 : decode c8_pass 80 = .ok (.iload_n 3, 1) := by decide +kernel
theorem d8_pass_81 : decode c8_pass 81 = .ok (.iaload, 1) := by decide +kernel
theorem d8_pass_82 : decode c8_pass 82 = .ok (.isub, 1) := by decide +kernel
theorem d8_pass_83 : decode c8_pass 83 = .ok (.iadd, 1) := by decide +kernel
theorem d8_pass_84 : decode c8_pass 84 = .ok (.istore_n 1, 1) := by decide +kernel
theorem d8_pass_85 : decode c8_pass 85 = .ok (.aload_n 0, 1) := by decide +kernel
theorem d8_pass_86 : decode c8_pass 86 = .ok (.getfield 61, 3) := by decide +kernel
theorem d8_pass_89 : decode c8_pass 89 = .ok (.getfield 98, 3) := by decide +kernel
theorem d8_pass_92 : decode c8_pass 92 = .ok (.ifCond .le 27, 3) := by decide +kernel
theorem d8_pass_95 : decode c8_pass 95 = .ok (.iload_n 1, 1) := by decide +kernel
theorem d8_pass_96 : decode c8_pass 96 = .ok (.aload_n 0, 1) := by decide +kernel
theorem d8_pass_97 : decode c8_pass 97 = .ok (.getfield 61, 3) := by decide +kernel
theorem d8_pass_100 : decode c8_pass 100 = .ok (.getfield 98, 3) := by decide +kernel
theorem d8_pass_103 : decode c8_pass 103 = .ok (.idiv, 1) := by decide +kernel
theorem d8_pass_104 : decode c8_pass 104 = .ok (.aload_n 0, 1) := by decide +kernel
theorem d8_pass_105 : decode c8_pass 105 = .ok (.getfield 61, 3) := by decide +kernel
theorem d8_pass_108 : decode c8_pass 108 = .ok (.getfield 91, 3) := by decide +kernel
theorem d8_pass_111 : decode c8_pass 111 = .ok (.iload_n 2, 1) := by decide +kernel
theorem d8_pass_112 : decode c8_pass 112 = .ok (.isub, 1) := by decide +kernel
theorem d8_pass_113 : decode c8_pass 113 = .ok (.invokestatic 101, 3) := by decide +kernel
theorem d8_pass_116 : decode c8_pass 116 = .ok (.goto 4, 3) := by decide +kernel
theorem d8_pass_119 : decode c8_pass 119 = .ok (.iconst 0, 1) := by decide +kernel
theorem d8_pass_120 : decode c8_pass 120 = .ok (.istore 4, 2) := by decide +kernel
theorem d8_pass_122 : decode c8_pass 122 = .ok (.iload_n 2, 1) := by decide +kernel
theorem d8_pass_123 : decode c8_pass 123 = .ok (.iload 4, 2) := by decide +kernel
theorem d8_pass_125 : decode c8_pass 125 = .ok (.iadd, 1) := by decide +kernel
theorem d8_pass_126 : decode c8_pass 126 = .ok (.istore_n 2, 1) := by decide +kernel
theorem d8_pass_127 : decode c8_pass 127 = .ok (.iload_n 1, 1) := by decide +kernel
theorem d8_pass_128 : decode c8_pass 128 = .ok (.iload 4, 2) := by decide +kernel
theorem d8_pass_130 : decode c8_pass 130 = .ok (.aload_n 0, 1) := by decide +kernel
theorem d8_pass_131 : decode c8_pass 131 = .ok (.getfield 61, 3) := by decide +kernel
theorem d8_pass_134 : decode c8_pass 134 = .ok (.getfield 98, 3) := by decide +kernel
theorem d8_pass_137 : decode c8_pass 137 = .ok (.imul, 1) := by decide +kernel
theorem d8_pass_138 : decode c8_pass 138 = .ok (.isub, 1) := by decide +kernel
theorem d8_pass_139 : decode c8_pass 139 = .ok (.istore_n 1, 1) := by decide +kernel
theorem d8_pass_140 : decode c8_pass 140 = .ok (.aload_n 0, 1) := by decide +kernel
theorem d8_pass_141 : decode c8_pass 141 = .ok (.getfield 55, 3) := by decide +kernel
theorem d8_pass_144 : decode c8_pass 144 = .ok (.iload_n 3, 1) := by decide +kernel
theorem d8_pass_145 : decode c8_pass 145 = .ok (.iload_n 1, 1) := by decide +kernel
theorem d8_pass_146 : decode c8_pass 146 = .ok (.iastore, 1) := by decide +kernel
theorem d8_pass_147 : decode c8_pass 147 = .ok (.aload_n 0, 1) := by decide +kernel
theorem d8_pass_148 : decode c8_pass 148 = .ok (.getfield 58, 3) := by decide +kernel
theorem d8_pass_151 : decode c8_pass 151 = .ok (.iload_n 3, 1) := by decide +kernel
theorem d8_pass_152 : decode c8_pass 152 = .ok (.iload_n 2, 1) := by decide +kernel
theorem d8_pass_153 : decode c8_pass 153 = .ok (.iastore, 1) := by decide +kernel
theorem d8_pass_154 : decode c8_pass 154 = .ok (.aload_n 0, 1) := by decide +kernel
theorem d8_pass_155 : decode c8_pass 155 = .ok (.dup, 1) := by decide +kernel
theorem d8_pass_156 : decode c8_pass 156 = .ok (.getfield 21, 3) := by decide +kernel
theorem d8_pass_159 : decode c8_pass 159 = .ok (.aload_n 0, 1) := by decide +kernel
theorem d8_pass_160 : decode c8_pass 160 = .ok (.getfield 52, 3) := by decide +kernel
theorem d8_pass_163 : decode c8_pass 163 = .ok (.iload_n 3, 1) := by decide +kernel
theorem d8_pass_164 : decode c8_pass 164 = .ok (.iaload, 1) := by decide +kernel
theorem d8_pass_165 : decode c8_pass 165 = .ok (.iadd, 1) := by decide +kernel
theorem d8_pass_166 : decode c8_pass 166 = .ok (.putfield 21, 3) := by decide +kernel
theorem d8_pass_169 : decode c8_pass 169 = .ok (.iinc 3 1, 3) := by decide +kernel
theorem d8_pass_172 : decode c8_pass 172 = .ok (.goto (-141), 3) := by decide +kernel
theorem d8_pass_175 : decode c8_pass 175 = .ok (.return_, 1) := by decide +kernel
def f8_pass (D : Mem) (r : Nat) : Option (Mem) :=
  Option.bind (some (mset D r 4 0)) fun (D1 : Mem) =>
  Option.bind (f12_fillI D1 (r + 5) 8 (-1)) fun (a1 : Mem) =>
  Option.bind (f12_fillI a1 (r + 6) 8 0) fun (a2 : Mem) =>
  Option.bind (f8_putInOrder a2 r) fun (a3 : Mem) =>
  Option.bind (@loop (Int × Int × Int × Mem) (Mem) (fun s1 =>
    if w32 s1.2.2.1 < w32 (s1.2.2.2 12 1) then
      Option.bind (
        if w32 s1.2.2.1 < w32 (s1.2.2.2 r 3) then
          some 0
        else
          if w32 s1.2.1 < w32 (s1.2.2.2 12 4) then
            some 1
          else
            some 0
      ) fun (j1 : Int) =>
      Option.bind (f8_passNight s1.2.2.2 r s1.2.2.1 j1) fun (a4 : Mem) =>
      if 0 ≤ s1.2.2.1 ∧ s1.2.2.1 < 12 then
        Option.bind (some (s1.1 + ((a4 r 1) - (a4 (r + 9) s1.2.2.1.toNat)))) fun (v1 : Int) =>
        Option.bind (
          if 0 < w32 (a4 12 3) then
            if ¬ w32 (a4 12 3) = 0 then
              some (min32 (div32 v1 (a4 12 3)) ((a4 12 4) - s1.2.1))
            else none
          else
            some 0
        ) fun (j2 : Int) =>
        Option.bind (some (v1 - (j2 * (a4 12 3)))) fun (v2 : Int) =>
        Option.bind (some (mset a4 (r + 11) s1.2.2.1.toNat v2)) fun (D2 : Mem) =>
        Option.bind (some (mset D2 (r + 12) s1.2.2.1.toNat (s1.2.1 + j2))) fun (D3 : Mem) =>
        some (Sum.inl (v2, (s1.2.1 + j2), (s1.2.2.1 + 1), (mset D3 r 4 ((D3 r 4) + (D3 (r + 10) s1.2.2.1.toNat)))))
      else none
    else
      some (Sum.inr s1.2.2.2)
  ) FU (0, 0, 0, a3)) fun (b1 : Mem) =>
  some b1
set_option maxHeartbeats 4000000 in
theorem ok8_pass {l : Launch} {X : XT} {n : Nat} {D : Mem} {Q : Option Value → Nat → Rho → Mem → Prop} (hn : 117 ≤ n) {r : Nat} (hr : VR n r 8) (h : wpo (f8_pass D r) (fun a => Q none n rt a)) : MOK l y8_pass c8_pass 5 (none) { frames := 2, cells := 0, slots := 0, locals := 44 } 0 0 X [vR X r] n rt D Q := by
  refine MOK_of 8 (by decide +kernel) rfl (lv := [(0, vR X r)]) (Nat.le_of_ble_eq_true rfl) rfl (fun K hK F hnm => ?_)
  subst hK
  unfold f8_pass at h
  refine r_aload_nR F 0 rfl rfl d8_pass_0 ?_
  refine r_iconst F (z := 0) d8_pass_1 ?_
  refine r_putI F lf8_21 rfl rfl hr d8_pass_2 ?_
  refine r_aload_nR F 0 rfl rfl d8_pass_5 ?_
  refine r_getR F (z := (r + 5)) lf8_37 hr (z8_9 hr) d8_pass_6 ?_
  refine r_iconst F (z := (-1)) d8_pass_9 ?_
  refine at_name (B := fun (D1 : Mem) => At K X (ZQ K X Q) 0 0 n rt 5 10 [(0, vR X r)] [vI (-1), vR X (r + 5)] D1) h (fun D1 h => ?_)
  replace h := wpo_bind h
  refine r_callS0 F lm8_79 mf12_fillI rfl (fr := 0) (lo := 0) (As := [vR X (r + 5), vI (-1)]) (rest := []) ⟨Nat.le_of_ble_eq_true rfl, Nat.le_of_ble_eq_true rfl⟩ rfl (Nat.le_of_ble_eq_true rfl) ⟨Nat.zero_le _, Nat.zero_le _⟩ d8_pass_10 ?_
  refine ok12_fillI (y8_9 hn hr) (kVm h (fun a1 h => ?_))
  refine r_aload_nR F 0 rfl rfl d8_pass_13 ?_
  refine r_getR F (z := (r + 6)) lf8_40 hr (z8_10 hr) d8_pass_14 ?_
  refine r_iconst F (z := 0) d8_pass_17 ?_
  replace h := wpo_bind h
  refine r_callS0 F lm8_79 mf12_fillI rfl (fr := 0) (lo := 0) (As := [vR X (r + 6), vI 0]) (rest := []) ⟨Nat.le_of_ble_eq_true rfl, Nat.le_of_ble_eq_true rfl⟩ rfl (Nat.le_of_ble_eq_true rfl) ⟨Nat.zero_le _, Nat.zero_le _⟩ d8_pass_18 ?_
  refine ok12_fillI (y8_10 hn hr) (kVm h (fun a2 h => ?_))
  refine r_aload_nR F 0 rfl rfl d8_pass_21 ?_
  replace h := wpo_bind h
  refine r_callV0 F lm8_85 mf8_putInOrder hr rfl (fr := 1) (lo := 21) (As := []) (rest := []) ⟨Nat.le_of_ble_eq_true rfl, Nat.le_of_ble_eq_true rfl⟩ rfl (Nat.le_of_ble_eq_true rfl) ⟨Nat.zero_le _, Nat.zero_le _⟩ d8_pass_22 ?_
  refine ok8_putInOrder hn hr (kVm h (fun a3 h => ?_))
  refine r_iconst F (z := 0) d8_pass_25 ?_
  refine r_istore_n F (lv' := [(1, vI 0), (0, vR X r)]) rfl (Nat.le_of_ble_eq_true rfl) rfl d8_pass_26 ?_
  refine r_iconst F (z := 0) d8_pass_27 ?_
  refine r_istore_n F (lv' := [(2, vI 0), (1, vI 0), (0, vR X r)]) rfl (Nat.le_of_ble_eq_true rfl) rfl d8_pass_28 ?_
  refine r_iconst F (z := 0) d8_pass_29 ?_
  refine r_istore_n F (lv' := [(3, vI 0), (2, vI 0), (1, vI 0), (0, vR X r)]) rfl (Nat.le_of_ble_eq_true rfl) rfl d8_pass_30 ?_
  refine r_weak [3, 2, 1, 0] rfl ?_
  refine at_loopj (A := fun (s1 : Int × Int × Int × Mem) => At K X (ZQ K X Q) 0 0 n rt 5 31 [(0, vR X r), (1, vI s1.1), (2, vI s1.2.1), (3, vI s1.2.2.1)] [] s1.2.2.2) (B := fun (b1 : Mem) => At K X (ZQ K X Q) 0 0 n rt 5 175 [] [] b1) h (fun b1 h => ?_) (fun s1 h => ?_)
  · replace h := wpo_some h
    exact r_vret F h d8_pass_175
  · refine r_iload_n F 3 rfl rfl d8_pass_31 ?_
    refine r_aload_nR F 0 rfl rfl d8_pass_32 ?_
    refine r_getR F (z := 12) lf8_61 hr (z8_0 hr) d8_pass_33 ?_
    refine r_getI F lf8_88 (vc12 hn) d8_pass_36 ?_
    refine r_icmp_ge F (tgt := 175) d8_pass_39 (by decide) (fun hb => ?_) (fun hb => ?_)
    · replace h := wpo_neg h hb
      refine r_weak [] rfl ?_
      replace h := wpo_inr h
      exact h
    · replace h := wpo_pos h hb
      refine r_aload_nR F 0 rfl rfl d8_pass_42 ?_
      refine r_iload_n F 3 rfl rfl d8_pass_43 ?_
      refine r_iload_n F 3 rfl rfl d8_pass_44 ?_
      refine r_aload_nR F 0 rfl rfl d8_pass_45 ?_
      refine r_getI F lf8_18 hr d8_pass_46 ?_
      refine at_join (B := fun (j1 : Int) => At K X (ZQ K X Q) 0 0 n rt 5 68 [(0, vR X r), (1, vI s1.1), (2, vI s1.2.1), (3, vI s1.2.2.1)] [vI j1, vI s1.2.2.1, vR X r] s1.2.2.2) h (fun j1 h => ?_) (fun h => ?_)
      · replace h := wpo_bind h
        refine r_callV0 F lm8_94 mf8_passNight hr rfl (fr := 0) (lo := 0) (As := [vI s1.2.2.1, vI j1]) (rest := []) ⟨Nat.le_of_ble_eq_true rfl, Nat.le_of_ble_eq_true rfl⟩ rfl (Nat.le_of_ble_eq_true rfl) ⟨Nat.zero_le _, Nat.zero_le _⟩ d8_pass_68 ?_
        refine ok8_passNight hn hr (kVm h (fun a4 h => ?_))
        refine r_iload_n F 1 rfl rfl d8_pass_71 ?_
        refine r_aload_nR F 0 rfl rfl d8_pass_72 ?_
        refine r_getI F lf8_9 hr d8_pass_73 ?_
        refine r_aload_nR F 0 rfl rfl d8_pass_76 ?_
        refine r_getR F (z := (r + 9)) lf8_49 hr (z8_13 hr) d8_pass_77 ?_
        refine r_iload_n F 3 rfl rfl d8_pass_80 ?_
        obtain ⟨hx1, h⟩ := wpo_chk h
        refine r_iald F (y8_13 hn hr) hx1 d8_pass_81 ?_
        refine r_isub F d8_pass_82 ?_
        refine r_iadd F d8_pass_83 ?_
        refine r_istore_n F (lv' := [(1, vI (s1.1 + ((a4 r 1) - (a4 (r + 9) s1.2.2.1.toNat)))), (0, vR X r), (2, vI s1.2.1), (3, vI s1.2.2.1)]) rfl (Nat.le_of_ble_eq_true rfl) rfl d8_pass_84 ?_
        refine at_name (B := fun (v1 : Int) => At K X (ZQ K X Q) 0 0 n rt 5 85 [(1, vI v1), (0, vR X r), (2, vI s1.2.1), (3, vI s1.2.2.1)] [] a4) h (fun v1 h => ?_)
        refine r_aload_nR F 1 rfl rfl d8_pass_85 ?_
        refine r_getR F (z := 12) lf8_61 hr (z8_0 hr) d8_pass_86 ?_
        refine r_getI F lf8_98 (vc12 hn) d8_pass_89 ?_
        refine at_join (B := fun (j2 : Int) => At K X (ZQ K X Q) 0 0 n rt 5 120 [(0, vR X r), (1, vI v1), (2, vI s1.2.1), (3, vI s1.2.2.1)] [vI j2] a4) h (fun j2 h => ?_) (fun h => ?_)
        · refine r_istore F (lv' := [(4, vI j2), (0, vR X r), (1, vI v1), (2, vI s1.2.1), (3, vI s1.2.2.1)]) (Nat.le_of_ble_eq_true rfl) rfl d8_pass_120 ?_
          refine r_iload_n F 3 rfl rfl d8_pass_122 ?_
          refine r_iload F 0 rfl d8_pass_123 ?_
          refine r_iadd F d8_pass_125 ?_
          refine r_istore_n F (lv' := [(2, vI (s1.2.1 + j2)), (4, vI j2), (0, vR X r), (1, vI v1), (3, vI s1.2.2.1)]) rfl (Nat.le_of_ble_eq_true rfl) rfl d8_pass_126 ?_
          refine r_iload_n F 3 rfl rfl d8_pass_127 ?_
          refine r_iload F 1 rfl d8_pass_128 ?_
          refine r_aload_nR F 2 rfl rfl d8_pass_130 ?_
          refine r_getR F (z := 12) lf8_61 hr (z8_0 hr) d8_pass_131 ?_
          refine r_getI F lf8_98 (vc12 hn) d8_pass_134 ?_
          refine r_imul F d8_pass_137 ?_
          refine r_isub F d8_pass_138 ?_
          refine r_istore_n F (lv' := [(1, vI (v1 - (j2 * (a4 12 3)))), (2, vI (s1.2.1 + j2)), (4, vI j2), (0, vR X r), (3, vI s1.2.2.1)]) rfl (Nat.le_of_ble_eq_true rfl) rfl d8_pass_139 ?_
          refine at_name (B := fun (v2 : Int) => At K X (ZQ K X Q) 0 0 n rt 5 140 [(1, vI v2), (2, vI (s1.2.1 + j2)), (4, vI j2), (0, vR X r), (3, vI s1.2.2.1)] [] a4) h (fun v2 h => ?_)
          refine r_aload_nR F 3 rfl rfl d8_pass_140 ?_
          refine r_getR F (z := (r + 11)) lf8_55 hr (z8_15 hr) d8_pass_141 ?_
          refine r_iload_n F 4 rfl rfl d8_pass_144 ?_
          refine r_iload_n F 0 rfl rfl d8_pass_145 ?_
          refine r_iast F (y8_15 hn hr) hx1 d8_pass_146 ?_
          refine r_aload_nR F 3 rfl rfl d8_pass_147 ?_
          refine r_getR F (z := (r + 12)) lf8_58 hr (z8_16 hr) d8_pass_148 ?_
          refine r_iload_n F 4 rfl rfl d8_pass_151 ?_
          refine r_iload_n F 1 rfl rfl d8_pass_152 ?_
          refine at_name (B := fun (D2 : Mem) => At K X (ZQ K X Q) 0 0 n rt 5 153 [(1, vI v2), (2, vI (s1.2.1 + j2)), (4, vI j2), (0, vR X r), (3, vI s1.2.2.1)] [vI (s1.2.1 + j2), vI s1.2.2.1, vR X (r + 12)] D2) h (fun D2 h => ?_)
          refine r_iast F (y8_16 hn hr) hx1 d8_pass_153 ?_
          refine r_aload_nR F 3 rfl rfl d8_pass_154 ?_
          refine r_dup F rfl d8_pass_155 ?_
          refine at_name (B := fun (D3 : Mem) => At K X (ZQ K X Q) 0 0 n rt 5 156 [(1, vI v2), (2, vI (s1.2.1 + j2)), (4, vI j2), (0, vR X r), (3, vI s1.2.2.1)] [vR X r, vR X r] D3) h (fun D3 h => ?_)
          refine r_getI F lf8_21 hr d8_pass_156 ?_
          refine r_aload_nR F 3 rfl rfl d8_pass_159 ?_
          refine r_getR F (z := (r + 10)) lf8_52 hr (z8_14 hr) d8_pass_160 ?_
          refine r_iload_n F 4 rfl rfl d8_pass_163 ?_
          refine r_iald F (y8_14 hn hr) hx1 d8_pass_164 ?_
          refine r_iadd F d8_pass_165 ?_
          refine r_putI F lf8_21 rfl rfl hr d8_pass_166 ?_
          refine r_iinc F 4 (lv' := [(3, vI (s1.2.2.1 + 1)), (1, vI v2), (2, vI (s1.2.1 + j2)), (4, vI j2), (0, vR X r)]) rfl (Nat.le_of_ble_eq_true rfl) rfl d8_pass_169 ?_
          refine r_goto F (tgt := 31) (by decide) d8_pass_172 ?_
          refine r_weak [4, 1, 2, 0] rfl ?_
          replace h := wpo_inl h
          exact h
        · refine r_if_le F (tgt := 119) d8_pass_92 (by decide) (fun hb => ?_) (fun hb => ?_)
          · replace h := wpo_neg h hb
            refine r_iconst F (z := 0) d8_pass_119 ?_
            refine r_weak [1, 0, 2, 3] rfl ?_
            replace h := wpo_some h
            exact h
          · replace h := wpo_pos h hb
            refine r_iload_n F 0 rfl rfl d8_pass_95 ?_
            refine r_aload_nR F 1 rfl rfl d8_pass_96 ?_
            refine r_getR F (z := 12) lf8_61 hr (z8_0 hr) d8_pass_97 ?_
            refine r_getI F lf8_98 (vc12 hn) d8_pass_100 ?_
            obtain ⟨hx2, h⟩ := wpo_chk h
            refine r_idiv F hx2 d8_pass_103 ?_
            refine r_aload_nR F 1 rfl rfl d8_pass_104 ?_
            refine r_getR F (z := 12) lf8_61 hr (z8_0 hr) d8_pass_105 ?_
            refine r_getI F lf8_91 (vc12 hn) d8_pass_108 ?_
            refine r_iload_n F 2 rfl rfl d8_pass_111 ?_
            refine r_isub F d8_pass_112 ?_
            refine r_min F lm8_101 wm3 wm0 wm4 ⟨Nat.le_of_ble_eq_true rfl, Nat.le_of_ble_eq_true rfl, Nat.le_of_ble_eq_true rfl, Nat.le_of_ble_eq_true rfl⟩ d8_pass_113 ?_
            refine r_goto F (tgt := 120) (by decide) d8_pass_116 ?_
            refine r_weak [1, 0, 2, 3] rfl ?_
            replace h := wpo_some h
            exact h
      · refine r_icmp_lt F (tgt := 67) d8_pass_49 (by decide) (fun hb => ?_) (fun hb => ?_)
        · replace h := wpo_pos h hb
          refine r_iconst F (z := 0) d8_pass_67 ?_
          replace h := wpo_some h
          exact h
        · replace h := wpo_neg h hb
          refine r_iload_n F 2 rfl rfl d8_pass_52 ?_
          refine r_aload_nR F 0 rfl rfl d8_pass_53 ?_
          refine r_getR F (z := 12) lf8_61 hr (z8_0 hr) d8_pass_54 ?_
          refine r_getI F lf8_91 (vc12 hn) d8_pass_57 ?_
          refine r_icmp_ge F (tgt := 67) d8_pass_60 (by decide) (fun hb => ?_) (fun hb => ?_)
          · replace h := wpo_neg h hb
            refine r_iconst F (z := 0) d8_pass_67 ?_
            replace h := wpo_some h
            exact h
          · replace h := wpo_pos h hb
            refine r_iconst F (z := 1) d8_pass_63 ?_
            refine r_goto F (tgt := 68) (by decide) d8_pass_64 ?_
            replace h := wpo_some h
            exact h
theorem d9_changed_0 : decode c9_changed 0 = .ok (.aload_n 0, 1) := by decide +kernel
theorem d9_changed_1 : decode c9_changed 1 = .ok (.getfield 51, 3) := by decide +kernel
theorem d9_changed_4 : decode c9_changed 4 = .ok (.invokevirtual 205, 3) := by decide +kernel
theorem d9_changed_7 : decode c9_changed 7 = .ok (.aload_n 0, 1) := by decide +kernel
theorem d9_changed_8 : decode c9_changed 8 = .ok (.getfield 51, 3) := by decide +kernel
theorem d9_changed_11 : decode c9_changed 11 = .ok (.invokevirtual 209, 3) := by decide +kernel
theorem d9_changed_14 : decode c9_changed 14 = .ok (.aload_n 0, 1) := by decide +kernel
theorem d9_changed_15 : decode c9_changed 15 = .ok (.getfield 61, 3) := by decide +kernel
theorem d9_changed_18 : decode c9_changed 18 = .ok (.iconst 0, 1) := by decide +kernel
theorem d9_changed_19 : decode c9_changed 19 = .ok (.putfield 395, 3) := by decide +kernel
theorem d9_changed_22 : decode c9_changed 22 = .ok (.aload_n 0, 1) := by decide +kernel
theorem d9_changed_23 : decode c9_changed 23 = .ok (.getfield 68, 3) := by decide +kernel
theorem d9_changed_26 : decode c9_changed 26 = .ok (.iconst 0, 1) := by decide +kernel
theorem d9_changed_27 : decode c9_changed 27 = .ok (.putfield 398, 3) := by decide +kernel
theorem d9_changed_30 : decode c9_changed 30 = .ok (.aload_n 0, 1) := by decide +kernel
theorem d9_changed_31 : decode c9_changed 31 = .ok (.getfield 75, 3) := by decide +kernel
theorem d9_changed_34 : decode c9_changed 34 = .ok (.iconst 0, 1) := by decide +kernel
theorem d9_changed_35 : decode c9_changed 35 = .ok (.putfield 399, 3) := by decide +kernel
theorem d9_changed_38 : decode c9_changed 38 = .ok (.return_, 1) := by decide +kernel
def f9_changed (D : Mem) : Option (Mem) :=
  Option.bind (f8_prepare D 23) fun (a1 : Mem) =>
  Option.bind (f8_pass a1 23) fun (a2 : Mem) =>
  Option.bind (some (mset a2 49 1 0)) fun (D1 : Mem) =>
  Option.bind (some (mset D1 58 1 0)) fun (D2 : Mem) =>
  some (mset D2 64 1 0)
set_option maxHeartbeats 4000000 in
theorem ok9_changed {l : Launch} {X : XT} {n : Nat} {D : Mem} {Q : Option Value → Nat → Rho → Mem → Prop} (hn : 117 ≤ n)  (h : wpo (f9_changed D) (fun a => Q none n rt a)) : MOK l y9_changed c9_changed 1 (none) { frames := 3, cells := 0, slots := 0, locals := 68 } 0 0 X [vR X 0] n rt D Q := by
  refine MOK_of 9 (by decide +kernel) rfl (lv := [(0, vR X 0)]) (Nat.le_of_ble_eq_true rfl) rfl (fun K hK F hnm => ?_)
  subst hK
  unfold f9_changed at h
  refine r_aload_nR F 0 rfl rfl d9_changed_0 ?_
  refine r_getR F (z := 23) lf9_51 (vc0 hn) z0_6 d9_changed_1 ?_
  replace h := wpo_bind h
  refine r_callV0 F lm9_205 mf8_prepare (vc23 hn) rfl (fr := 1) (lo := 26) (As := []) (rest := []) ⟨Nat.le_of_ble_eq_true rfl, Nat.le_of_ble_eq_true rfl⟩ rfl (Nat.le_of_ble_eq_true rfl) ⟨Nat.zero_le _, Nat.zero_le _⟩ d9_changed_4 ?_
  refine ok8_prepare hn (vc23 hn) (kVm h (fun a1 h => ?_))
  refine r_aload_nR F 0 rfl rfl d9_changed_7 ?_
  refine r_getR F (z := 23) lf9_51 (vc0 hn) z0_6 d9_changed_8 ?_
  replace h := wpo_bind h
  refine r_callV0 F lm9_209 mf8_pass (vc23 hn) rfl (fr := 2) (lo := 44) (As := []) (rest := []) ⟨Nat.le_of_ble_eq_true rfl, Nat.le_of_ble_eq_true rfl⟩ rfl (Nat.le_of_ble_eq_true rfl) ⟨Nat.zero_le _, Nat.zero_le _⟩ d9_changed_11 ?_
  refine ok8_pass hn (vc23 hn) (kVm h (fun a2 h => ?_))
  refine r_aload_nR F 0 rfl rfl d9_changed_14 ?_
  refine r_getR F (z := 49) lf9_61 (vc0 hn) z0_8 d9_changed_15 ?_
  refine r_iconst F (z := 0) d9_changed_18 ?_
  refine r_putZ F (Or.inl rfl) lf9_395 rfl rfl (vc49 hn) d9_changed_19 ?_
  refine r_aload_nR F 0 rfl rfl d9_changed_22 ?_
  refine r_getR F (z := 58) lf9_68 (vc0 hn) z0_9 d9_changed_23 ?_
  refine r_iconst F (z := 0) d9_changed_26 ?_
  refine at_name (B := fun (D1 : Mem) => At K X (ZQ K X Q) 0 0 n rt 1 27 [(0, vR X 0)] [vI 0, vR X 58] D1) h (fun D1 h => ?_)
  refine r_putZ F (Or.inl rfl) lf9_398 rfl rfl (vc58 hn) d9_changed_27 ?_
  refine r_aload_nR F 0 rfl rfl d9_changed_30 ?_
  refine r_getR F (z := 64) lf9_75 (vc0 hn) z0_10 d9_changed_31 ?_
  refine r_iconst F (z := 0) d9_changed_34 ?_
  refine at_name (B := fun (D2 : Mem) => At K X (ZQ K X Q) 0 0 n rt 1 35 [(0, vR X 0)] [vI 0, vR X 64] D2) h (fun D2 h => ?_)
  refine r_putZ F (Or.inl rfl) lf9_399 rfl rfl (vc64 hn) d9_changed_35 ?_
  replace h := wpo_some h
  exact r_vret F h d9_changed_38
theorem d9_parish_0 : decode c9_parish 0 = .ok (.aload_n 0, 1) := by decide +kernel
theorem d9_parish_1 : decode c9_parish 1 = .ok (.getfield 21, 3) := by decide +kernel
theorem d9_parish_4 : decode c9_parish 4 = .ok (.invokevirtual 105, 3) := by decide +kernel
theorem d9_parish_7 : decode c9_parish 7 = .ok (.istore_n 1, 1) := by decide +kernel
theorem d9_parish_8 : decode c9_parish 8 = .ok (.aload_n 0, 1) := by decide +kernel
theorem d9_parish_9 : decode c9_parish 9 = .ok (.getfield 12, 3) := by decide +kernel
theorem d9_parish_12 : decode c9_parish 12 = .ok (.iconst 0, 1) := by decide +kernel
theorem d9_parish_13 : decode c9_parish 13 = .ok (.putfield 97, 3) := by decide +kernel
theorem d9_parish_16 : decode c9_parish 16 = .ok (.iload_n 1, 1) := by decide +kernel
theorem d9_parish_17 : decode c9_parish 17 = .ok (.ifCond .ne 6, 3) := by decide +kernel
theorem d9_parish_20 : decode c9_parish 20 = .ok (.bipush (-4), 2) := by decide +kernel
theorem d9_parish_22 : decode c9_parish 22 = .ok (.ireturn, 1) := by decide +kernel
theorem d9_parish_23 : decode c9_parish 23 = .ok (.aload_n 0, 1) := by decide +kernel
theorem d9_parish_24 : decode c9_parish 24 = .ok (.getfield 28, 3) := by decide +kernel
theorem d9_parish_27 : decode c9_parish 27 = .ok (.aload_n 0, 1) := by decide +kernel
theorem d9_parish_28 : decode c9_parish 28 = .ok (.getfield 21, 3) := by decide +kernel
theorem d9_parish_31 : decode c9_parish 31 = .ok (.getfield 109, 3) := by decide +kernel
theorem d9_parish_34 : decode c9_parish 34 = .ok (.invokevirtual 112, 3) := by decide +kernel
theorem d9_parish_37 : decode c9_parish 37 = .ok (.aload_n 0, 1) := by decide +kernel
theorem d9_parish_38 : decode c9_parish 38 = .ok (.invokevirtual 94, 3) := by decide +kernel
theorem d9_parish_41 : decode c9_parish 41 = .ok (.aload_n 0, 1) := by decide +kernel
theorem d9_parish_42 : decode c9_parish 42 = .ok (.getfield 28, 3) := by decide +kernel
theorem d9_parish_45 : decode c9_parish 45 = .ok (.getfield 115, 3) := by decide +kernel
theorem d9_parish_48 : decode c9_parish 48 = .ok (.ireturn, 1) := by decide +kernel
def f9_parish (D : Mem) : Option (Int × Mem) :=
  Option.bind (f4_read D) fun (a1 : Int × Mem) =>
  Option.bind (some (mset a1.2 1 1 0)) fun (D1 : Mem) =>
  if w32 a1.1 = 0 then
    some ((-4), D1)
  else
    Option.bind (f2_become D1 12 4) fun (a2 : Mem) =>
    Option.bind (f9_changed a2) fun (a3 : Mem) =>
    some ((a3 12 0), a3)
set_option maxHeartbeats 4000000 in
theorem ok9_parish {l : Launch} {X : XT} {n : Nat} {D : Mem} {Q : Option Value → Nat → Rho → Mem → Prop} (hn : 117 ≤ n)  (h : wpo (f9_parish D) (fun a => Q (some (vI a.1)) n rt a.2)) : MOK l y9_parish c9_parish 2 (some .int) { frames := 8, cells := 0, slots := 0, locals := 173 } 0 0 X [vR X 0] n rt D Q := by
  refine MOK_of 9 (by decide +kernel) rfl (lv := [(0, vR X 0)]) (Nat.le_of_ble_eq_true rfl) rfl (fun K hK F hnm => ?_)
  subst hK
  unfold f9_parish at h
  refine r_aload_nR F 0 rfl rfl d9_parish_0 ?_
  refine r_getR F (z := 3) lf9_21 (vc0 hn) z0_1 d9_parish_1 ?_
  replace h := wpo_bind h
  refine r_callV0 F lm9_105 mf4_read (vc3 hn) rfl (fr := 7) (lo := 152) (As := []) (rest := []) ⟨Nat.le_of_ble_eq_true rfl, Nat.le_of_ble_eq_true rfl⟩ rfl (Nat.le_of_ble_eq_true rfl) ⟨Nat.zero_le _, Nat.zero_le _⟩ d9_parish_4 ?_
  refine ok4_read hn  (kIm h (fun a1 h => ?_))
  refine r_istore_n F (lv' := [(1, vI a1.1), (0, vR X 0)]) rfl (Nat.le_of_ble_eq_true rfl) rfl d9_parish_7 ?_
  refine r_aload_nR F 1 rfl rfl d9_parish_8 ?_
  refine r_getR F (z := 1) lf9_12 (vc0 hn) z0_0 d9_parish_9 ?_
  refine r_iconst F (z := 0) d9_parish_12 ?_
  refine r_putI F lf9_97 rfl rfl (vc1 hn) d9_parish_13 ?_
  refine r_iload_n F 0 rfl rfl d9_parish_16 ?_
  refine at_name (B := fun (D1 : Mem) => At K X (ZQ K X Q) 0 0 n rt 2 17 [(1, vI a1.1), (0, vR X 0)] [vI a1.1] D1) h (fun D1 h => ?_)
  refine r_if_ne F (tgt := 23) d9_parish_17 (by decide) (fun hb => ?_) (fun hb => ?_)
  · replace h := wpo_neg h hb
    refine r_aload_nR F 1 rfl rfl d9_parish_23 ?_
    refine r_getR F (z := 12) lf9_28 (vc0 hn) z0_2 d9_parish_24 ?_
    refine r_aload_nR F 1 rfl rfl d9_parish_27 ?_
    refine r_getR F (z := 3) lf9_21 (vc0 hn) z0_1 d9_parish_28 ?_
    refine r_getR F (z := 4) lf9_109 (vc3 hn) z3_1 d9_parish_31 ?_
    replace h := wpo_bind h
    refine r_callV0 F lm9_112 mf2_become (vc12 hn) rfl (fr := 1) (lo := 26) (As := [vR X 4]) (rest := []) ⟨Nat.le_of_ble_eq_true rfl, Nat.le_of_ble_eq_true rfl⟩ rfl (Nat.le_of_ble_eq_true rfl) ⟨Nat.zero_le _, Nat.zero_le _⟩ d9_parish_34 ?_
    refine ok2_become hn (vc12 hn) (vc4 hn) (kVm h (fun a2 h => ?_))
    refine r_aload_nR F 1 rfl rfl d9_parish_37 ?_
    replace h := wpo_bind h
    refine r_callV0 F lm9_94 mf9_changed (vc0 hn) rfl (fr := 3) (lo := 68) (As := []) (rest := []) ⟨Nat.le_of_ble_eq_true rfl, Nat.le_of_ble_eq_true rfl⟩ rfl (Nat.le_of_ble_eq_true rfl) ⟨Nat.zero_le _, Nat.zero_le _⟩ d9_parish_38 ?_
    refine ok9_changed hn  (kVm h (fun a3 h => ?_))
    refine r_aload_nR F 1 rfl rfl d9_parish_41 ?_
    refine r_getR F (z := 12) lf9_28 (vc0 hn) z0_2 d9_parish_42 ?_
    refine r_getI F lf9_115 (vc12 hn) d9_parish_45 ?_
    replace h := wpo_some h
    exact r_iret F h d9_parish_48
  · replace h := wpo_pos h hb
    refine r_bipush F (z := (-4)) (by decide) d9_parish_20 ?_
    replace h := wpo_some h
    exact r_iret F h d9_parish_22
theorem d9_fault_0 : decode c9_fault 0 = .ok (.iload_n 1, 1) := by decide +kernel
theorem d9_fault_1 : decode c9_fault 1 = .ok (.ifCond .ne 11, 3) := by decide +kernel
theorem d9_fault_4 : decode c9_fault 4 = .ok (.aload_n 0, 1) := by decide +kernel
theorem d9_fault_5 : decode c9_fault 5 = .ok (.getfield 21, 3) := by decide +kernel
theorem d9_fault_8 : decode c9_fault 8 = .ok (.getfield 118, 3) := by decide +kernel
theorem d9_fault_11 : decode c9_fault 11 = .ok (.ireturn, 1) := by decide +kernel
theorem d9_fault_12 : decode c9_fault 12 = .ok (.iload_n 1, 1) := by decide +kernel
theorem d9_fault_13 : decode c9_fault 13 = .ok (.iconst 1, 1) := by decide +kernel
theorem d9_fault_14 : decode c9_fault 14 = .ok (.if_icmp .ne 13, 3) := by decide +kernel
theorem d9_fault_17 : decode c9_fault 17 = .ok (.aload_n 0, 1) := by decide +kernel
theorem d9_fault_18 : decode c9_fault 18 = .ok (.getfield 21, 3) := by decide +kernel
theorem d9_fault_21 : decode c9_fault 21 = .ok (.getfield 121, 3) := by decide +kernel
theorem d9_fault_24 : decode c9_fault 24 = .ok (.goto 4, 3) := by decide +kernel
theorem d9_fault_27 : decode c9_fault 27 = .ok (.iconst (-1), 1) := by decide +kernel
theorem d9_fault_28 : decode c9_fault 28 = .ok (.ireturn, 1) := by decide +kernel
def f9_fault (D : Mem) (p0 : Int) : Option (Int) :=
  if w32 p0 = 0 then
    some (D 3 2)
  else
    if w32 p0 = w32 1 then
      some (D 3 3)
    else
      some (-1)
set_option maxHeartbeats 4000000 in
theorem ok9_fault {l : Launch} {X : XT} {n : Nat} {D : Mem} {Q : Option Value → Nat → Rho → Mem → Prop} (hn : 117 ≤ n) {p0 : Int}  (h : wpo (f9_fault D p0) (fun a => Q (some (vI a)) n rt D)) : MOK l y9_fault c9_fault 2 (some .int) { frames := 0, cells := 0, slots := 0, locals := 0 } 0 0 X [vR X 0, vI p0] n rt D Q := by
  refine MOK_of 9 (by decide +kernel) rfl (lv := [(0, vR X 0), (1, vI p0)]) (Nat.le_of_ble_eq_true rfl) rfl (fun K hK F hnm => ?_)
  subst hK
  unfold f9_fault at h
  refine r_iload_n F 1 rfl rfl d9_fault_0 ?_
  refine r_if_ne F (tgt := 12) d9_fault_1 (by decide) (fun hb => ?_) (fun hb => ?_)
  · replace h := wpo_neg h hb
    refine r_iload_n F 1 rfl rfl d9_fault_12 ?_
    refine r_iconst F (z := 1) d9_fault_13 ?_
    refine r_icmp_ne F (tgt := 27) d9_fault_14 (by decide) (fun hb => ?_) (fun hb => ?_)
    · replace h := wpo_neg h hb
      refine r_iconst F (z := (-1)) d9_fault_27 ?_
      replace h := wpo_some h
      exact r_iret F h d9_fault_28
    · replace h := wpo_pos h hb
      refine r_aload_nR F 0 rfl rfl d9_fault_17 ?_
      refine r_getR F (z := 3) lf9_21 (vc0 hn) z0_1 d9_fault_18 ?_
      refine r_getI F lf9_121 (vc3 hn) d9_fault_21 ?_
      refine r_goto F (tgt := 28) (by decide) d9_fault_24 ?_
      replace h := wpo_some h
      exact r_iret F h d9_fault_28
  · replace h := wpo_pos h hb
    refine r_aload_nR F 0 rfl rfl d9_fault_4 ?_
    refine r_getR F (z := 3) lf9_21 (vc0 hn) z0_1 d9_fault_5 ?_
    refine r_getI F lf9_118 (vc3 hn) d9_fault_8 ?_
    replace h := wpo_some h
    exact r_iret F h d9_fault_11
theorem d9_isPerson_0 : decode c9_isPerson 0 = .ok (.iload_n 1, 1) := by decide +kernel
theorem d9_isPerson_1 : decode c9_isPerson 1 = .ok (.ifCond .lt 18, 3) := by decide +kernel
theorem d9_isPerson_4 : decode c9_isPerson 4 = .ok (.iload_n 1, 1) := by decide +kernel
theorem d9_isPerson_5 : decode c9_isPerson 5 = .ok (.aload_n 0, 1) := by decide +kernel
theorem d9_isPerson_6 : decode c9_isPerson 6 = .ok (.getfield 28, 3) := by decide +kernel
theorem d9_isPerson_9 : decode c9_isPerson 9 = .ok (.getfield 165, 3) := by decide +kernel
theorem d9_isPerson_12 : decode c9_isPerson 12 = .ok (.if_icmp .ge 7, 3) := by decide +kernel
theorem d9_isPerson_15 : decode c9_isPerson 15 = .ok (.iconst 1, 1) := by decide +kernel
theorem d9_isPerson_16 : decode c9_isPerson 16 = .ok (.goto 4, 3) := by decide +kernel
theorem d9_isPerson_19 : decode c9_isPerson 19 = .ok (.iconst 0, 1) := by decide +kernel
theorem d9_isPerson_20 : decode c9_isPerson 20 = .ok (.ireturn, 1) := by decide +kernel
def f9_isPerson (D : Mem) (p0 : Int) : Option (Int) :=
  if w32 p0 < 0 then
    some 0
  else
    if w32 p0 < w32 (D 12 8) then
      some 1
    else
      some 0
set_option maxHeartbeats 4000000 in
theorem ok9_isPerson {l : Launch} {X : XT} {n : Nat} {D : Mem} {Q : Option Value → Nat → Rho → Mem → Prop} (hn : 117 ≤ n) {p0 : Int}  (h : wpo (f9_isPerson D p0) (fun a => Q (some (vI a)) n rt D)) : MOK l y9_isPerson c9_isPerson 2 (some .boolean) { frames := 0, cells := 0, slots := 0, locals := 0 } 0 0 X [vR X 0, vI p0] n rt D Q := by
  refine MOK_of 9 (by decide +kernel) rfl (lv := [(0, vR X 0), (1, vI p0)]) (Nat.le_of_ble_eq_true rfl) rfl (fun K hK F hnm => ?_)
  subst hK
  unfold f9_isPerson at h
  refine r_iload_n F 1 rfl rfl d9_isPerson_0 ?_
  refine r_if_lt F (tgt := 19) d9_isPerson_1 (by decide) (fun hb => ?_) (fun hb => ?_)
  · replace h := wpo_pos h hb
    refine r_iconst F (z := 0) d9_isPerson_19 ?_
    replace h := wpo_some h
    exact r_zret F (Or.inl rfl) h d9_isPerson_20
  · replace h := wpo_neg h hb
    refine r_iload_n F 1 rfl rfl d9_isPerson_4 ?_
    refine r_aload_nR F 0 rfl rfl d9_isPerson_5 ?_
    refine r_getR F (z := 12) lf9_28 (vc0 hn) z0_2 d9_isPerson_6 ?_
    refine r_getI F lf9_165 (vc12 hn) d9_isPerson_9 ?_
    refine r_icmp_ge F (tgt := 19) d9_isPerson_12 (by decide) (fun hb => ?_) (fun hb => ?_)
    · replace h := wpo_neg h hb
      refine r_iconst F (z := 0) d9_isPerson_19 ?_
      replace h := wpo_some h
      exact r_zret F (Or.inl rfl) h d9_isPerson_20
    · replace h := wpo_pos h hb
      refine r_iconst F (z := 1) d9_isPerson_15 ?_
      refine r_goto F (tgt := 20) (by decide) d9_isPerson_16 ?_
      replace h := wpo_some h
      exact r_zret F (Or.inr rfl) h d9_isPerson_20
theorem d9_person_0 : decode c9_person 0 = .ok (.aload_n 0, 1) := by decide +kernel
theorem d9_person_1 : decode c9_person 1 = .ok (.iload_n 1, 1) := by decide +kernel
theorem d9_person_2 : decode c9_person 2 = .ok (.invokevirtual 124, 3) := by decide +kernel
theorem d9_person_5 : decode c9_person 5 = .ok (.ifCond .ne 6, 3) := by decide +kernel
theorem d9_person_8 : decode c9_person 8 = .ok (.bipush (-2), 2) := by decide +kernel
theorem d9_person_10 : decode c9_person 10 = .ok (.ireturn, 1) := by decide +kernel
theorem d9_person_11 : decode c9_person 11 = .ok (.iload_n 2, 1) := by decide +kernel
theorem d9_person_12 : decode c9_person 12 = .ok (.tableswitch 72 0 3 #[32, 42, 52, 62], 32) := by decide +kernel
theorem d9_person_44 : decode c9_person 44 = .ok (.aload_n 0, 1) := by decide +kernel
theorem d9_person_45 : decode c9_person 45 = .ok (.getfield 28, 3) := by decide +kernel
theorem d9_person_48 : decode c9_person 48 = .ok (.getfield 128, 3) := by decide +kernel
theorem d9_person_51 : decode c9_person 51 = .ok (.iload_n 1, 1) := by decide +kernel
theorem d9_person_52 : decode c9_person 52 = .ok (.iaload, 1) := by decide +kernel
theorem d9_person_53 : decode c9_person 53 = .ok (.ireturn, 1) := by decide +kernel
theorem d9_person_54 : decode c9_person 54 = .ok (.aload_n 0, 1) := by decide +kernel
theorem d9_person_55 : decode c9_person 55 = .ok (.getfield 28, 3) := by decide +kernel
theorem d9_person_58 : decode c9_person 58 = .ok (.getfield 131, 3) := by decide +kernel
theorem d9_person_61 : decode c9_person 61 = .ok (.iload_n 1, 1) := by decide +kernel
theorem d9_person_62 : decode c9_person 62 = .ok (.iaload, 1) := by decide +kernel
theorem d9_person_63 : decode c9_person 63 = .ok (.ireturn, 1) := by decide +kernel
theorem d9_person_64 : decode c9_person 64 = .ok (.aload_n 0, 1) := by decide +kernel
theorem d9_person_65 : decode c9_person 65 = .ok (.getfield 28, 3) := by decide +kernel
theorem d9_person_68 : decode c9_person 68 = .ok (.getfield 134, 3) := by decide +kernel
theorem d9_person_71 : decode c9_person 71 = .ok (.iload_n 1, 1) := by decide +kernel
theorem d9_person_72 : decode c9_person 72 = .ok (.iaload, 1) := by decide +kernel
theorem d9_person_73 : decode c9_person 73 = .ok (.ireturn, 1) := by decide +kernel
theorem d9_person_74 : decode c9_person 74 = .ok (.aload_n 0, 1) := by decide +kernel
theorem d9_person_75 : decode c9_person 75 = .ok (.getfield 28, 3) := by decide +kernel
theorem d9_person_78 : decode c9_person 78 = .ok (.getfield 137, 3) := by decide +kernel
theorem d9_person_81 : decode c9_person 81 = .ok (.iload_n 1, 1) := by decide +kernel
theorem d9_person_82 : decode c9_person 82 = .ok (.iaload, 1) := by decide +kernel
theorem d9_person_83 : decode c9_person 83 = .ok (.ireturn, 1) := by decide +kernel
theorem d9_person_84 : decode c9_person 84 = .ok (.bipush (-2), 2) := by decide +kernel
theorem d9_person_86 : decode c9_person 86 = .ok (.ireturn, 1) := by decide +kernel
def f9_person (D : Mem) (p0 : Int) (p1 : Int) : Option (Int) :=
  Option.bind (f9_isPerson D p0) fun (a1 : Int) =>
  if w32 a1 = 0 then
    some (-2)
  else
    if w32 p1 = 0 then
      if 0 ≤ p0 ∧ p0 < 8 then
        some (D 13 p0.toNat)
      else none
    else
      if w32 p1 = 1 then
        if 0 ≤ p0 ∧ p0 < 8 then
          some (D 14 p0.toNat)
        else none
      else
        if w32 p1 = 2 then
          if 0 ≤ p0 ∧ p0 < 8 then
            some (D 15 p0.toNat)
          else none
        else
          if w32 p1 = 3 then
            if 0 ≤ p0 ∧ p0 < 8 then
              some (D 16 p0.toNat)
            else none
          else
            some (-2)
set_option maxHeartbeats 4000000 in
theorem ok9_person {l : Launch} {X : XT} {n : Nat} {D : Mem} {Q : Option Value → Nat → Rho → Mem → Prop} (hn : 117 ≤ n) {p0 : Int} {p1 : Int}  (h : wpo (f9_person D p0 p1) (fun a => Q (some (vI a)) n rt D)) : MOK l y9_person c9_person 3 (some .int) { frames := 1, cells := 0, slots := 0, locals := 21 } 0 0 X [vR X 0, vI p0, vI p1] n rt D Q := by
  refine MOK_of 9 (by decide +kernel) rfl (lv := [(0, vR X 0), (1, vI p0), (2, vI p1)]) (Nat.le_of_ble_eq_true rfl) rfl (fun K hK F hnm => ?_)
  subst hK
  unfold f9_person at h
  refine r_aload_nR F 0 rfl rfl d9_person_0 ?_
  refine r_iload_n F 1 rfl rfl d9_person_1 ?_
  replace h := wpo_bind h
  refine r_callV0 F lm9_124 mf9_isPerson (vc0 hn) rfl (fr := 0) (lo := 0) (As := [vI p0]) (rest := []) ⟨Nat.le_of_ble_eq_true rfl, Nat.le_of_ble_eq_true rfl⟩ rfl (Nat.le_of_ble_eq_true rfl) ⟨Nat.zero_le _, Nat.zero_le _⟩ d9_person_2 ?_
  refine ok9_isPerson hn  (kI h (fun a1 h => ?_))
  refine r_if_ne F (tgt := 11) d9_person_5 (by decide) (fun hb => ?_) (fun hb => ?_)
  · replace h := wpo_neg h hb
    refine r_iload_n F 2 rfl rfl d9_person_11 ?_
    by_cases hb0 : w32 p1 = 0
    · replace h := wpo_pos h hb0
      refine r_tabIn F 0 hb0 d9_person_12 (by decide) (by decide) rfl (tgt := 44) (by decide) ?_
      refine r_aload_nR F 0 rfl rfl d9_person_44 ?_
      refine r_getR F (z := 12) lf9_28 (vc0 hn) z0_2 d9_person_45 ?_
      refine r_getR F (z := 13) lf9_128 (vc12 hn) z12_10 d9_person_48 ?_
      refine r_iload_n F 1 rfl rfl d9_person_51 ?_
      obtain ⟨hx4, h⟩ := wpo_chk h
      refine r_iald F (vc13 hn) hx4 d9_person_52 ?_
      replace h := wpo_some h
      exact r_iret F h d9_person_53
    · replace h := wpo_neg h hb0
      by_cases hb1 : w32 p1 = 1
      · replace h := wpo_pos h hb1
        refine r_tabIn F 1 hb1 d9_person_12 (by decide) (by decide) rfl (tgt := 54) (by decide) ?_
        refine r_aload_nR F 0 rfl rfl d9_person_54 ?_
        refine r_getR F (z := 12) lf9_28 (vc0 hn) z0_2 d9_person_55 ?_
        refine r_getR F (z := 14) lf9_131 (vc12 hn) z12_11 d9_person_58 ?_
        refine r_iload_n F 1 rfl rfl d9_person_61 ?_
        obtain ⟨hx3, h⟩ := wpo_chk h
        refine r_iald F (vc14 hn) hx3 d9_person_62 ?_
        replace h := wpo_some h
        exact r_iret F h d9_person_63
      · replace h := wpo_neg h hb1
        by_cases hb2 : w32 p1 = 2
        · replace h := wpo_pos h hb2
          refine r_tabIn F 2 hb2 d9_person_12 (by decide) (by decide) rfl (tgt := 64) (by decide) ?_
          refine r_aload_nR F 0 rfl rfl d9_person_64 ?_
          refine r_getR F (z := 12) lf9_28 (vc0 hn) z0_2 d9_person_65 ?_
          refine r_getR F (z := 15) lf9_134 (vc12 hn) z12_12 d9_person_68 ?_
          refine r_iload_n F 1 rfl rfl d9_person_71 ?_
          obtain ⟨hx2, h⟩ := wpo_chk h
          refine r_iald F (vc15 hn) hx2 d9_person_72 ?_
          replace h := wpo_some h
          exact r_iret F h d9_person_73
        · replace h := wpo_neg h hb2
          by_cases hb3 : w32 p1 = 3
          · replace h := wpo_pos h hb3
            refine r_tabIn F 3 hb3 d9_person_12 (by decide) (by decide) rfl (tgt := 74) (by decide) ?_
            refine r_aload_nR F 0 rfl rfl d9_person_74 ?_
            refine r_getR F (z := 12) lf9_28 (vc0 hn) z0_2 d9_person_75 ?_
            refine r_getR F (z := 16) lf9_137 (vc12 hn) z12_13 d9_person_78 ?_
            refine r_iload_n F 1 rfl rfl d9_person_81 ?_
            obtain ⟨hx1, h⟩ := wpo_chk h
            refine r_iald F (vc16 hn) hx1 d9_person_82 ?_
            replace h := wpo_some h
            exact r_iret F h d9_person_83
          · replace h := wpo_neg h hb3
            refine r_tabOut F d9_person_12 ?_ (tgt := 84) (by decide) ?_
            · omega
            · refine r_bipush F (z := (-2)) (by decide) d9_person_84 ?_
              replace h := wpo_some h
              exact r_iret F h d9_person_86
  · replace h := wpo_pos h hb
    refine r_bipush F (z := (-2)) (by decide) d9_person_8 ?_
    replace h := wpo_some h
    exact r_iret F h d9_person_10
theorem d9_gives_0 : decode c9_gives 0 = .ok (.aload_n 0, 1) := by decide +kernel
theorem d9_gives_1 : decode c9_gives 1 = .ok (.iload_n 1, 1) := by decide +kernel
theorem d9_gives_2 : decode c9_gives 2 = .ok (.invokevirtual 124, 3) := by decide +kernel
theorem d9_gives_5 : decode c9_gives 5 = .ok (.ifCond .eq 15, 3) := by decide +kernel
theorem d9_gives_8 : decode c9_gives 8 = .ok (.aload_n 0, 1) := by decide +kernel
theorem d9_gives_9 : decode c9_gives 9 = .ok (.getfield 51, 3) := by decide +kernel
theorem d9_gives_12 : decode c9_gives 12 = .ok (.getfield 140, 3) := by decide +kernel
theorem d9_gives_15 : decode c9_gives 15 = .ok (.iload_n 1, 1) := by decide +kernel
theorem d9_gives_16 : decode c9_gives 16 = .ok (.iaload, 1) := by decide +kernel
theorem d9_gives_17 : decode c9_gives 17 = .ok (.goto 5, 3) := by decide +kernel
theorem d9_gives_20 : decode c9_gives 20 = .ok (.bipush (-2), 2) := by decide +kernel
theorem d9_gives_22 : decode c9_gives 22 = .ok (.ireturn, 1) := by decide +kernel
def f9_gives (D : Mem) (p0 : Int) : Option (Int) :=
  Option.bind (f9_isPerson D p0) fun (a1 : Int) =>
  if w32 a1 = 0 then
    some (-2)
  else
    if 0 ≤ p0 ∧ p0 < 8 then
      some (D 28 p0.toNat)
    else none
set_option maxHeartbeats 4000000 in
theorem ok9_gives {l : Launch} {X : XT} {n : Nat} {D : Mem} {Q : Option Value → Nat → Rho → Mem → Prop} (hn : 117 ≤ n) {p0 : Int}  (h : wpo (f9_gives D p0) (fun a => Q (some (vI a)) n rt D)) : MOK l y9_gives c9_gives 2 (some .int) { frames := 1, cells := 0, slots := 0, locals := 21 } 0 0 X [vR X 0, vI p0] n rt D Q := by
  refine MOK_of 9 (by decide +kernel) rfl (lv := [(0, vR X 0), (1, vI p0)]) (Nat.le_of_ble_eq_true rfl) rfl (fun K hK F hnm => ?_)
  subst hK
  unfold f9_gives at h
  refine r_aload_nR F 0 rfl rfl d9_gives_0 ?_
  refine r_iload_n F 1 rfl rfl d9_gives_1 ?_
  replace h := wpo_bind h
  refine r_callV0 F lm9_124 mf9_isPerson (vc0 hn) rfl (fr := 0) (lo := 0) (As := [vI p0]) (rest := []) ⟨Nat.le_of_ble_eq_true rfl, Nat.le_of_ble_eq_true rfl⟩ rfl (Nat.le_of_ble_eq_true rfl) ⟨Nat.zero_le _, Nat.zero_le _⟩ d9_gives_2 ?_
  refine ok9_isPerson hn  (kI h (fun a1 h => ?_))
  refine r_if_eq F (tgt := 20) d9_gives_5 (by decide) (fun hb => ?_) (fun hb => ?_)
  · replace h := wpo_pos h hb
    refine r_bipush F (z := (-2)) (by decide) d9_gives_20 ?_
    replace h := wpo_some h
    exact r_iret F h d9_gives_22
  · replace h := wpo_neg h hb
    refine r_aload_nR F 0 rfl rfl d9_gives_8 ?_
    refine r_getR F (z := 23) lf9_51 (vc0 hn) z0_6 d9_gives_9 ?_
    refine r_getR F (z := 28) lf9_140 (vc23 hn) z23_9 d9_gives_12 ?_
    refine r_iload_n F 1 rfl rfl d9_gives_15 ?_
    obtain ⟨hx1, h⟩ := wpo_chk h
    refine r_iald F (vc28 hn) hx1 d9_gives_16 ?_
    refine r_goto F (tgt := 22) (by decide) d9_gives_17 ?_
    replace h := wpo_some h
    exact r_iret F h d9_gives_22
