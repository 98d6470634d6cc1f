/-! METHODS, printed by wip/whole/gen/mkall.py -/
theorem d10_leastOf_0 : decode c10_leastOf 0 = .ok (.aload_n 0, 1) := by decide +kernel
theorem d10_leastOf_1 : decode c10_leastOf 1 = .ok (.invokevirtual 325, 3) := by decide +kernel
theorem d10_leastOf_4 : decode c10_leastOf 4 = .ok (.aload_n 0, 1) := by decide +kernel
theorem d10_leastOf_5 : decode c10_leastOf 5 = .ok (.invokevirtual 256, 3) := by decide +kernel
theorem d10_leastOf_8 : decode c10_leastOf 8 = .ok (.istore_n 1, 1) := by decide +kernel
theorem d10_leastOf_9 : decode c10_leastOf 9 = .ok (.iload_n 1, 1) := by decide +kernel
theorem d10_leastOf_10 : decode c10_leastOf 10 = .ok (.ifCond .lt 69, 3) := by decide +kernel
theorem d10_leastOf_13 : decode c10_leastOf 13 = .ok (.aload_n 0, 1) := by decide +kernel
theorem d10_leastOf_14 : decode c10_leastOf 14 = .ok (.iload_n 1, 1) := by decide +kernel
theorem d10_leastOf_15 : decode c10_leastOf 15 = .ok (.invokevirtual 343, 3) := by decide +kernel
theorem d10_leastOf_18 : decode c10_leastOf 18 = .ok (.iconst 0, 1) := by decide +kernel
theorem d10_leastOf_19 : decode c10_leastOf 19 = .ok (.istore_n 2, 1) := by decide +kernel
theorem d10_leastOf_20 : decode c10_leastOf 20 = .ok (.iload_n 2, 1) := by decide +kernel
theorem d10_leastOf_21 : decode c10_leastOf 21 = .ok (.aload_n 0, 1) := by decide +kernel
theorem d10_leastOf_22 : decode c10_leastOf 22 = .ok (.invokevirtual 320, 3) := by decide +kernel
theorem d10_leastOf_25 : decode c10_leastOf 25 = .ok (.if_icmp .gt 48, 3) := by decide +kernel
theorem d10_leastOf_28 : decode c10_leastOf 28 = .ok (.iload_n 1, 1) := by decide +kernel
theorem d10_leastOf_29 : decode c10_leastOf 29 = .ok (.aload_n 0, 1) := by decide +kernel
theorem d10_leastOf_30 : decode c10_leastOf 30 = .ok (.invokevirtual 256, 3) := by decide +kernel
theorem d10_leastOf_33 : decode c10_leastOf 33 = .ok (.if_icmp .ge 12, 3) := by decide +kernel
theorem d10_leastOf_36 : decode c10_leastOf 36 = .ok (.aload_n 0, 1) := by decide +kernel
theorem d10_leastOf_37 : decode c10_leastOf 37 = .ok (.iload_n 1, 1) := by decide +kernel
theorem d10_leastOf_38 : decode c10_leastOf 38 = .ok (.iload_n 2, 1) := by decide +kernel
theorem d10_leastOf_39 : decode c10_leastOf 39 = .ok (.invokevirtual 346, 3) := by decide +kernel
theorem d10_leastOf_42 : decode c10_leastOf 42 = .ok (.goto 25, 3) := by decide +kernel
theorem d10_leastOf_45 : decode c10_leastOf 45 = .ok (.aload_n 0, 1) := by decide +kernel
theorem d10_leastOf_46 : decode c10_leastOf 46 = .ok (.getfield 67, 3) := by decide +kernel
theorem d10_leastOf_49 : decode c10_leastOf 49 = .ok (.iload_n 1, 1) := by decide +kernel
theorem d10_leastOf_50 : decode c10_leastOf 50 = .ok (.iload_n 2, 1) := by decide +kernel
theorem d10_leastOf_51 : decode c10_leastOf 51 = .ok (.invokestatic 340, 3) := by decide +kernel
theorem d10_leastOf_54 : decode c10_leastOf 54 = .ok (.iconst 0, 1) := by decide +kernel
theorem d10_leastOf_55 : decode c10_leastOf 55 = .ok (.iastore, 1) := by decide +kernel
theorem d10_leastOf_56 : decode c10_leastOf 56 = .ok (.aload_n 0, 1) := by decide +kernel
theorem d10_leastOf_57 : decode c10_leastOf 57 = .ok (.getfield 70, 3) := by decide +kernel
theorem d10_leastOf_60 : decode c10_leastOf 60 = .ok (.iload_n 1, 1) := by decide +kernel
theorem d10_leastOf_61 : decode c10_leastOf 61 = .ok (.iload_n 2, 1) := by decide +kernel
theorem d10_leastOf_62 : decode c10_leastOf 62 = .ok (.invokestatic 340, 3) := by decide +kernel
theorem d10_leastOf_65 : decode c10_leastOf 65 = .ok (.lconst 1, 1) := by decide +kernel
theorem d10_leastOf_66 : decode c10_leastOf 66 = .ok (.lastore, 1) := by decide +kernel
theorem d10_leastOf_67 : decode c10_leastOf 67 = .ok (.iinc 2 1, 3) := by decide +kernel
theorem d10_leastOf_70 : decode c10_leastOf 70 = .ok (.goto (-50), 3) := by decide +kernel
theorem d10_leastOf_73 : decode c10_leastOf 73 = .ok (.iinc 1 (-1), 3) := by decide +kernel
theorem d10_leastOf_76 : decode c10_leastOf 76 = .ok (.goto (-67), 3) := by decide +kernel
theorem d10_leastOf_79 : decode c10_leastOf 79 = .ok (.aload_n 0, 1) := by decide +kernel
theorem d10_leastOf_80 : decode c10_leastOf 80 = .ok (.getfield 67, 3) := by decide +kernel
theorem d10_leastOf_83 : decode c10_leastOf 83 = .ok (.iconst 0, 1) := by decide +kernel
theorem d10_leastOf_84 : decode c10_leastOf 84 = .ok (.iaload, 1) := by decide +kernel
theorem d10_leastOf_85 : decode c10_leastOf 85 = .ok (.ireturn, 1) := by decide +kernel
def f10_leastOf (D : Mem) : Option (Int × Mem) :=
  Option.bind (f10_laySums D) fun (a1 : Mem) =>
  Option.bind (f10_nights a1) fun (a2 : Int) =>
  Option.bind (@loop (Int × Mem) (Mem) (fun s1 =>
    if w32 s1.1 < 0 then
      some (Sum.inr s1.2)
    else
      Option.bind (f10_layWho s1.2 s1.1) fun (a3 : Mem) =>
      Option.bind (@loop (Int × Mem) (Mem) (fun s2 =>
        Option.bind (f10_allPersons s2.2) fun (a4 : Int) =>
        if w32 a4 < w32 s2.1 then
          some (Sum.inr s2.2)
        else
          Option.bind (f10_nights s2.2) fun (a5 : Int) =>
          Option.bind (
            if w32 s1.1 < w32 a5 then
              Option.bind (f10_layState s2.2 s1.1 s2.1) fun (a8 : Mem) =>
              some a8
            else
              Option.bind (f10_state s2.2 s1.1 s2.1) fun (a6 : Int) =>
              if 0 ≤ a6 ∧ a6 < 3328 then
                Option.bind (some (mset s2.2 135 a6.toNat 0)) fun (D1 : Mem) =>
                Option.bind (f10_state D1 s1.1 s2.1) fun (a7 : Int) =>
                if 0 ≤ a7 ∧ a7 < 3328 then
                  some (mset D1 136 a7.toNat 1)
                else none
              else none
          ) fun (j1 : Mem) =>
          some (Sum.inl ((s2.1 + 1), j1))
      ) FU (0, a3)) fun (b2 : Mem) =>
      some (Sum.inl ((s1.1 + (-1)), b2))
  ) FU (a2, a1)) fun (b1 : Mem) =>
  some ((b1 135 0), b1)
set_option maxHeartbeats 4000000 in
theorem ok10_leastOf {l : Launch} {X : XT} {n : Nat} {D : Mem} {Q : Option Value → Nat → Rho → Mem → Prop} (hn : 147 ≤ n)  (h : wpo (f10_leastOf D) (fun a => Q (some (vI a.1)) n rt a.2)) : MOK l y10_leastOf c10_leastOf 3 (some .int) { frames := 3, cells := 0, slots := 0, locals := 65 } 0 0 X [vR X 117] n rt D Q := by
  refine MOK_of 10 (by decide +kernel) rfl (lv := [(0, vR X 117)]) (Nat.le_of_ble_eq_true rfl) rfl (fun K hK F hnm => ?_)
  subst hK
  unfold f10_leastOf at h
  refine r_aload_nR F 0 rfl rfl d10_leastOf_0 ?_
  replace h := wpo_bind h
  refine r_callV0 F lm10_325 mf10_laySums (vc117 hn) rfl (fr := 2) (lo := 43) (As := []) (rest := []) ⟨Nat.le_of_ble_eq_true rfl, Nat.le_of_ble_eq_true rfl⟩ rfl (Nat.le_of_ble_eq_true rfl) ⟨Nat.zero_le _, Nat.zero_le _⟩ d10_leastOf_1 ?_
  refine ok10_laySums hn  (kVm h (fun a1 h => ?_))
  refine r_aload_nR F 0 rfl rfl d10_leastOf_4 ?_
  replace h := wpo_bind h
  refine r_callV0 F lm10_256 mf10_nights (vc117 hn) rfl (fr := 0) (lo := 0) (As := []) (rest := []) ⟨Nat.le_of_ble_eq_true rfl, Nat.le_of_ble_eq_true rfl⟩ rfl (Nat.le_of_ble_eq_true rfl) ⟨Nat.zero_le _, Nat.zero_le _⟩ d10_leastOf_5 ?_
  refine ok10_nights hn  (kI h (fun a2 h => ?_))
  refine r_istore_n F (lv' := [(1, vI a2), (0, vR X 117)]) rfl (Nat.le_of_ble_eq_true rfl) rfl d10_leastOf_8 ?_
  refine r_weak [1, 0] rfl ?_
  refine at_loopj (A := fun (s1 : Int × Mem) => At K X (ZQ K X Q) 0 0 n rt 3 9 [(0, vR X 117), (1, vI s1.1)] [] s1.2) (B := fun (b1 : Mem) => At K X (ZQ K X Q) 0 0 n rt 3 79 [(0, vR X 117)] [] b1) h (fun b1 h => ?_) (fun s1 h => ?_)
  · refine r_aload_nR F 0 rfl rfl d10_leastOf_79 ?_
    refine r_getR F (z := 135) lf10_67 (vc117 hn) z117_31 d10_leastOf_80 ?_
    refine r_iconst F (z := 0) d10_leastOf_83 ?_
    refine r_ialdC F (j := 0) (vc135 hn) (by decide) rfl d10_leastOf_84 ?_
    replace h := wpo_some h
    exact r_iret F h d10_leastOf_85
  · refine r_iload_n F 1 rfl rfl d10_leastOf_9 ?_
    refine r_if_lt F (tgt := 79) d10_leastOf_10 (by decide) (fun hb => ?_) (fun hb => ?_)
    · replace h := wpo_pos h hb
      refine r_weak [0] rfl ?_
      replace h := wpo_inr h
      exact h
    · replace h := wpo_neg h hb
      refine r_aload_nR F 0 rfl rfl d10_leastOf_13 ?_
      refine r_iload_n F 1 rfl rfl d10_leastOf_14 ?_
      replace h := wpo_bind h
      refine r_callV0 F lm10_343 mf10_layWho (vc117 hn) rfl (fr := 0) (lo := 0) (As := [vI s1.1]) (rest := []) ⟨Nat.le_of_ble_eq_true rfl, Nat.le_of_ble_eq_true rfl⟩ rfl (Nat.le_of_ble_eq_true rfl) ⟨Nat.zero_le _, Nat.zero_le _⟩ d10_leastOf_15 ?_
      refine ok10_layWho hn  (kVm h (fun a3 h => ?_))
      refine r_iconst F (z := 0) d10_leastOf_18 ?_
      refine r_istore_n F (lv' := [(2, vI 0), (0, vR X 117), (1, vI s1.1)]) rfl (Nat.le_of_ble_eq_true rfl) rfl d10_leastOf_19 ?_
      refine r_weak [1, 2, 0] rfl ?_
      refine at_loopj (A := fun (s2 : Int × Mem) => At K X (ZQ K X Q) 0 0 n rt 3 20 [(0, vR X 117), (1, vI s1.1), (2, vI s2.1)] [] s2.2) (B := fun (b2 : Mem) => At K X (ZQ K X Q) 0 0 n rt 3 73 [(0, vR X 117), (1, vI s1.1)] [] b2) h (fun b2 h => ?_) (fun s2 h => ?_)
      · refine r_iinc F 1 (lv' := [(1, vI (s1.1 + (-1))), (0, vR X 117)]) rfl (Nat.le_of_ble_eq_true rfl) rfl d10_leastOf_73 ?_
        refine r_goto F (tgt := 9) (by decide) d10_leastOf_76 ?_
        refine r_weak [1, 0] rfl ?_
        replace h := wpo_inl h
        exact h
      · refine r_iload_n F 2 rfl rfl d10_leastOf_20 ?_
        refine r_aload_nR F 0 rfl rfl d10_leastOf_21 ?_
        replace h := wpo_bind h
        refine r_callV0 F lm10_320 mf10_allPersons (vc117 hn) rfl (fr := 0) (lo := 0) (As := []) (rest := [vI s2.1]) ⟨Nat.le_of_ble_eq_true rfl, Nat.le_of_ble_eq_true rfl⟩ rfl (Nat.le_of_ble_eq_true rfl) ⟨Nat.zero_le _, Nat.zero_le _⟩ d10_leastOf_22 ?_
        refine ok10_allPersons hn  (kI h (fun a4 h => ?_))
        refine r_icmp_gt F (tgt := 73) d10_leastOf_25 (by decide) (fun hb => ?_) (fun hb => ?_)
        · replace h := wpo_pos h hb
          refine r_weak [0, 1] rfl ?_
          replace h := wpo_inr h
          exact h
        · replace h := wpo_neg h hb
          refine r_iload_n F 1 rfl rfl d10_leastOf_28 ?_
          refine r_aload_nR F 0 rfl rfl d10_leastOf_29 ?_
          replace h := wpo_bind h
          refine r_callV0 F lm10_256 mf10_nights (vc117 hn) rfl (fr := 0) (lo := 0) (As := []) (rest := [vI s1.1]) ⟨Nat.le_of_ble_eq_true rfl, Nat.le_of_ble_eq_true rfl⟩ rfl (Nat.le_of_ble_eq_true rfl) ⟨Nat.zero_le _, Nat.zero_le _⟩ d10_leastOf_30 ?_
          refine ok10_nights hn  (kI h (fun a5 h => ?_))
          refine at_join (B := fun (j1 : Mem) => At K X (ZQ K X Q) 0 0 n rt 3 67 [(0, vR X 117), (1, vI s1.1), (2, vI s2.1)] [] j1) h (fun j1 h => ?_) (fun h => ?_)
          · refine r_iinc F 2 (lv' := [(2, vI (s2.1 + 1)), (0, vR X 117), (1, vI s1.1)]) rfl (Nat.le_of_ble_eq_true rfl) rfl d10_leastOf_67 ?_
            refine r_goto F (tgt := 20) (by decide) d10_leastOf_70 ?_
            refine r_weak [1, 2, 0] rfl ?_
            replace h := wpo_inl h
            exact h
          · refine r_icmp_ge F (tgt := 45) d10_leastOf_33 (by decide) (fun hb => ?_) (fun hb => ?_)
            · replace h := wpo_neg h hb
              refine r_aload_nR F 0 rfl rfl d10_leastOf_45 ?_
              refine r_getR F (z := 135) lf10_67 (vc117 hn) z117_31 d10_leastOf_46 ?_
              refine r_iload_n F 1 rfl rfl d10_leastOf_49 ?_
              refine r_iload_n F 2 rfl rfl d10_leastOf_50 ?_
              replace h := wpo_bind h
              refine r_callS0 F lm10_340 mf10_state rfl (fr := 0) (lo := 0) (As := [vI s1.1, vI s2.1]) (rest := [vR X 135]) ⟨Nat.le_of_ble_eq_true rfl, Nat.le_of_ble_eq_true rfl⟩ rfl (Nat.le_of_ble_eq_true rfl) ⟨Nat.zero_le _, Nat.zero_le _⟩ d10_leastOf_51 ?_
              refine ok10_state hn  (kI h (fun a6 h => ?_))
              refine r_iconst F (z := 0) d10_leastOf_54 ?_
              obtain ⟨hx1, h⟩ := wpo_chk h
              refine r_iast F (vc135 hn) hx1 d10_leastOf_55 ?_
              refine r_aload_nR F 0 rfl rfl d10_leastOf_56 ?_
              refine r_getR F (z := 136) lf10_70 (vc117 hn) z117_32 d10_leastOf_57 ?_
              refine r_iload_n F 1 rfl rfl d10_leastOf_60 ?_
              refine r_iload_n F 2 rfl rfl d10_leastOf_61 ?_
              refine at_name (B := fun (D1 : Mem) => At K X (ZQ K X Q) 0 0 n rt 3 62 [(0, vR X 117), (1, vI s1.1), (2, vI s2.1)] [vI s2.1, vI s1.1, vR X 136] D1) h (fun D1 h => ?_)
              replace h := wpo_bind h
              refine r_callS0 F lm10_340 mf10_state rfl (fr := 0) (lo := 0) (As := [vI s1.1, vI s2.1]) (rest := [vR X 136]) ⟨Nat.le_of_ble_eq_true rfl, Nat.le_of_ble_eq_true rfl⟩ rfl (Nat.le_of_ble_eq_true rfl) ⟨Nat.zero_le _, Nat.zero_le _⟩ d10_leastOf_62 ?_
              refine ok10_state hn  (kI h (fun a7 h => ?_))
              refine r_lconst F (x := 1) (by decide) d10_leastOf_65 ?_
              obtain ⟨hx2, h⟩ := wpo_chk h
              refine r_last F (vc136 hn) hx2 d10_leastOf_66 ?_
              replace h := wpo_some h
              exact h
            · replace h := wpo_pos h hb
              refine r_aload_nR F 0 rfl rfl d10_leastOf_36 ?_
              refine r_iload_n F 1 rfl rfl d10_leastOf_37 ?_
              refine r_iload_n F 2 rfl rfl d10_leastOf_38 ?_
              replace h := wpo_bind h
              refine r_callV0 F lm10_346 mf10_layState (vc117 hn) rfl (fr := 1) (lo := 23) (As := [vI s1.1, vI s2.1]) (rest := []) ⟨Nat.le_of_ble_eq_true rfl, Nat.le_of_ble_eq_true rfl⟩ rfl (Nat.le_of_ble_eq_true rfl) ⟨Nat.zero_le _, Nat.zero_le _⟩ d10_leastOf_39 ?_
              refine ok10_layState hn  (kVm h (fun a8 h => ?_))
              refine r_goto F (tgt := 67) (by decide) d10_leastOf_42 ?_
              replace h := wpo_some h
              exact h
theorem d10_asksPlans_0 : decode c10_asksPlans 0 = .ok (.aload_n 0, 1) := by decide +kernel
theorem d10_asksPlans_1 : decode c10_asksPlans 1 = .ok (.invokevirtual 274, 3) := by decide +kernel
theorem d10_asksPlans_4 : decode c10_asksPlans 4 = .ok (.iconst 0, 1) := by decide +kernel
theorem d10_asksPlans_5 : decode c10_asksPlans 5 = .ok (.istore_n 1, 1) := by decide +kernel
theorem d10_asksPlans_6 : decode c10_asksPlans 6 = .ok (.iload_n 1, 1) := by decide +kernel
theorem d10_asksPlans_7 : decode c10_asksPlans 7 = .ok (.bipush 8, 2) := by decide +kernel
theorem d10_asksPlans_9 : decode c10_asksPlans 9 = .ok (.if_icmp .ge 17, 3) := by decide +kernel
theorem d10_asksPlans_12 : decode c10_asksPlans 12 = .ok (.aload_n 0, 1) := by decide +kernel
theorem d10_asksPlans_13 : decode c10_asksPlans 13 = .ok (.getfield 74, 3) := by decide +kernel
theorem d10_asksPlans_16 : decode c10_asksPlans 16 = .ok (.iload_n 1, 1) := by decide +kernel
theorem d10_asksPlans_17 : decode c10_asksPlans 17 = .ok (.bipush (-2), 2) := by decide +kernel
theorem d10_asksPlans_19 : decode c10_asksPlans 19 = .ok (.iastore, 1) := by decide +kernel
theorem d10_asksPlans_20 : decode c10_asksPlans 20 = .ok (.iinc 1 1, 3) := by decide +kernel
theorem d10_asksPlans_23 : decode c10_asksPlans 23 = .ok (.goto (-17), 3) := by decide +kernel
theorem d10_asksPlans_26 : decode c10_asksPlans 26 = .ok (.aload_n 0, 1) := by decide +kernel
theorem d10_asksPlans_27 : decode c10_asksPlans 27 = .ok (.invokevirtual 113, 3) := by decide +kernel
theorem d10_asksPlans_30 : decode c10_asksPlans 30 = .ok (.ireturn, 1) := by decide +kernel
def f10_asksPlans (D : Mem) : Option (Int × Mem) :=
  Option.bind (f10_asItIs D) fun (a1 : Mem) =>
  Option.bind (@loop (Int × Mem) (Mem) (fun s1 =>
    if w32 s1.1 < w32 8 then
      if 0 ≤ s1.1 ∧ s1.1 < 8 then
        some (Sum.inl ((s1.1 + 1), (mset s1.2 137 s1.1.toNat (-2))))
      else none
    else
      some (Sum.inr s1.2)
  ) FU (0, a1)) fun (b1 : Mem) =>
  Option.bind (f10_isParish b1) fun (a2 : Int) =>
  if a2 = 0 ∨ a2 = 1 then
    some (a2, b1)
  else none
set_option maxHeartbeats 4000000 in
theorem ok10_asksPlans {l : Launch} {X : XT} {n : Nat} {D : Mem} {Q : Option Value → Nat → Rho → Mem → Prop} (hn : 147 ≤ n)  (h : wpo (f10_asksPlans D) (fun a => Q (some (vI a.1)) n rt a.2)) : MOK l y10_asksPlans c10_asksPlans 2 (some .boolean) { frames := 2, cells := 0, slots := 0, locals := 44 } 0 0 X [vR X 117] n rt D Q := by
  refine MOK_of 10 (by decide +kernel) rfl (lv := [(0, vR X 117)]) (Nat.le_of_ble_eq_true rfl) rfl (fun K hK F hnm => ?_)
  subst hK
  unfold f10_asksPlans at h
  refine r_aload_nR F 0 rfl rfl d10_asksPlans_0 ?_
  replace h := wpo_bind h
  refine r_callV0 F lm10_274 mf10_asItIs (vc117 hn) rfl (fr := 1) (lo := 22) (As := []) (rest := []) ⟨Nat.le_of_ble_eq_true rfl, Nat.le_of_ble_eq_true rfl⟩ rfl (Nat.le_of_ble_eq_true rfl) ⟨Nat.zero_le _, Nat.zero_le _⟩ d10_asksPlans_1 ?_
  refine ok10_asItIs hn  (kVm h (fun a1 h => ?_))
  refine r_iconst F (z := 0) d10_asksPlans_4 ?_
  refine r_istore_n F (lv' := [(1, vI 0), (0, vR X 117)]) rfl (Nat.le_of_ble_eq_true rfl) rfl d10_asksPlans_5 ?_
  refine r_weak [1, 0] rfl ?_
  refine at_loopj (A := fun (s1 : Int × Mem) => At K X (ZQ K X Q) 0 0 n rt 2 6 [(0, vR X 117), (1, vI s1.1)] [] s1.2) (B := fun (b1 : Mem) => At K X (ZQ K X Q) 0 0 n rt 2 26 [(0, vR X 117)] [] b1) h (fun b1 h => ?_) (fun s1 h => ?_)
  · refine r_aload_nR F 0 rfl rfl d10_asksPlans_26 ?_
    replace h := wpo_bind h
    refine r_callV0 F lm10_113 mf10_isParish (vc117 hn) rfl (fr := 0) (lo := 0) (As := []) (rest := []) ⟨Nat.le_of_ble_eq_true rfl, Nat.le_of_ble_eq_true rfl⟩ rfl (Nat.le_of_ble_eq_true rfl) ⟨Nat.zero_le _, Nat.zero_le _⟩ d10_asksPlans_27 ?_
    refine ok10_isParish hn  (kI h (fun a2 h => ?_))
    obtain ⟨hx2, h⟩ := wpo_chk h
    replace h := wpo_some h
    exact r_zret F hx2 h d10_asksPlans_30
  · refine r_iload_n F 1 rfl rfl d10_asksPlans_6 ?_
    refine r_bipush F (z := 8) (by decide) d10_asksPlans_7 ?_
    refine r_icmp_ge F (tgt := 26) d10_asksPlans_9 (by decide) (fun hb => ?_) (fun hb => ?_)
    · replace h := wpo_neg h hb
      refine r_weak [0] rfl ?_
      replace h := wpo_inr h
      exact h
    · replace h := wpo_pos h hb
      refine r_aload_nR F 0 rfl rfl d10_asksPlans_12 ?_
      refine r_getR F (z := 137) lf10_74 (vc117 hn) z117_33 d10_asksPlans_13 ?_
      refine r_iload_n F 1 rfl rfl d10_asksPlans_16 ?_
      refine r_bipush F (z := (-2)) (by decide) d10_asksPlans_17 ?_
      obtain ⟨hx1, h⟩ := wpo_chk h
      refine r_iast F (vc137 hn) hx1 d10_asksPlans_19 ?_
      refine r_iinc F 1 (lv' := [(1, vI (s1.1 + 1)), (0, vR X 117)]) rfl (Nat.le_of_ble_eq_true rfl) rfl d10_asksPlans_20 ?_
      refine r_goto F (tgt := 6) (by decide) d10_asksPlans_23 ?_
      refine r_weak [1, 0] rfl ?_
      replace h := wpo_inl h
      exact h
theorem d10_least_0 : decode c10_least 0 = .ok (.aload_n 0, 1) := by decide +kernel
theorem d10_least_1 : decode c10_least 1 = .ok (.invokevirtual 350, 3) := by decide +kernel
theorem d10_least_4 : decode c10_least 4 = .ok (.ifCond .eq 10, 3) := by decide +kernel
theorem d10_least_7 : decode c10_least 7 = .ok (.aload_n 0, 1) := by decide +kernel
theorem d10_least_8 : decode c10_least 8 = .ok (.invokevirtual 353, 3) := by decide +kernel
theorem d10_least_11 : decode c10_least 11 = .ok (.goto 5, 3) := by decide +kernel
theorem d10_least_14 : decode c10_least 14 = .ok (.bipush (-2), 2) := by decide +kernel
theorem d10_least_16 : decode c10_least 16 = .ok (.ireturn, 1) := by decide +kernel
def f10_least (D : Mem) : Option (Int × Mem) :=
  Option.bind (f10_asksPlans D) fun (a1 : Int × Mem) =>
  if w32 a1.1 = 0 then
    some ((-2), a1.2)
  else
    Option.bind (f10_leastOf a1.2) fun (a2 : Int × Mem) =>
    some (a2.1, a2.2)
set_option maxHeartbeats 4000000 in
theorem ok10_least {l : Launch} {X : XT} {n : Nat} {D : Mem} {Q : Option Value → Nat → Rho → Mem → Prop} (hn : 147 ≤ n)  (h : wpo (f10_least D) (fun a => Q (some (vI a.1)) n rt a.2)) : MOK l y10_least c10_least 1 (some .int) { frames := 4, cells := 0, slots := 0, locals := 87 } 0 0 X [vR X 117] n rt D Q := by
  refine MOK_of 10 (by decide +kernel) rfl (lv := [(0, vR X 117)]) (Nat.le_of_ble_eq_true rfl) rfl (fun K hK F hnm => ?_)
  subst hK
  unfold f10_least at h
  refine r_aload_nR F 0 rfl rfl d10_least_0 ?_
  replace h := wpo_bind h
  refine r_callV0 F lm10_350 mf10_asksPlans (vc117 hn) rfl (fr := 2) (lo := 44) (As := []) (rest := []) ⟨Nat.le_of_ble_eq_true rfl, Nat.le_of_ble_eq_true rfl⟩ rfl (Nat.le_of_ble_eq_true rfl) ⟨Nat.zero_le _, Nat.zero_le _⟩ d10_least_1 ?_
  refine ok10_asksPlans hn  (kIm h (fun a1 h => ?_))
  refine r_if_eq F (tgt := 14) d10_least_4 (by decide) (fun hb => ?_) (fun hb => ?_)
  · replace h := wpo_pos h hb
    refine r_bipush F (z := (-2)) (by decide) d10_least_14 ?_
    replace h := wpo_some h
    exact r_iret F h d10_least_16
  · replace h := wpo_neg h hb
    refine r_aload_nR F 0 rfl rfl d10_least_7 ?_
    replace h := wpo_bind h
    refine r_callV0 F lm10_353 mf10_leastOf (vc117 hn) rfl (fr := 3) (lo := 65) (As := []) (rest := []) ⟨Nat.le_of_ble_eq_true rfl, Nat.le_of_ble_eq_true rfl⟩ rfl (Nat.le_of_ble_eq_true rfl) ⟨Nat.zero_le _, Nat.zero_le _⟩ d10_least_8 ?_
    refine ok10_leastOf hn  (kIm h (fun a2 h => ?_))
    refine r_goto F (tgt := 16) (by decide) d10_least_11 ?_
    replace h := wpo_some h
    exact r_iret F h d10_least_16
theorem d10_ways_0 : decode c10_ways 0 = .ok (.aload_n 0, 1) := by decide +kernel
theorem d10_ways_1 : decode c10_ways 1 = .ok (.invokevirtual 350, 3) := by decide +kernel
theorem d10_ways_4 : decode c10_ways 4 = .ok (.ifCond .ne 7, 3) := by decide +kernel
theorem d10_ways_7 : decode c10_ways 7 = .ok (.ldc2_w 356, 3) := by decide +kernel
theorem d10_ways_10 : decode c10_ways 10 = .ok (.lreturn, 1) := by decide +kernel
theorem d10_ways_11 : decode c10_ways 11 = .ok (.aload_n 0, 1) := by decide +kernel
theorem d10_ways_12 : decode c10_ways 12 = .ok (.invokevirtual 353, 3) := by decide +kernel
theorem d10_ways_15 : decode c10_ways 15 = .ok (.pop, 1) := by decide +kernel
theorem d10_ways_16 : decode c10_ways 16 = .ok (.aload_n 0, 1) := by decide +kernel
theorem d10_ways_17 : decode c10_ways 17 = .ok (.getfield 70, 3) := by decide +kernel
theorem d10_ways_20 : decode c10_ways 20 = .ok (.iconst 0, 1) := by decide +kernel
theorem d10_ways_21 : decode c10_ways 21 = .ok (.laload, 1) := by decide +kernel
theorem d10_ways_22 : decode c10_ways 22 = .ok (.lreturn, 1) := by decide +kernel
def f10_ways (D : Mem) : Option (Int × Mem) :=
  Option.bind (f10_asksPlans D) fun (a1 : Int × Mem) =>
  if w32 a1.1 = 0 then
    some ((-2), a1.2)
  else
    Option.bind (f10_leastOf a1.2) fun (a2 : Int × Mem) =>
    some ((a2.2 136 0), a2.2)
set_option maxHeartbeats 4000000 in
theorem ok10_ways {l : Launch} {X : XT} {n : Nat} {D : Mem} {Q : Option Value → Nat → Rho → Mem → Prop} (hn : 147 ≤ n)  (h : wpo (f10_ways D) (fun a => Q (some (vL a.1)) n rt a.2)) : MOK l y10_ways c10_ways 1 (some .long) { frames := 4, cells := 0, slots := 0, locals := 87 } 0 0 X [vR X 117] n rt D Q := by
  refine MOK_of 10 (by decide +kernel) rfl (lv := [(0, vR X 117)]) (Nat.le_of_ble_eq_true rfl) rfl (fun K hK F hnm => ?_)
  subst hK
  unfold f10_ways at h
  refine r_aload_nR F 0 rfl rfl d10_ways_0 ?_
  replace h := wpo_bind h
  refine r_callV0 F lm10_350 mf10_asksPlans (vc117 hn) rfl (fr := 2) (lo := 44) (As := []) (rest := []) ⟨Nat.le_of_ble_eq_true rfl, Nat.le_of_ble_eq_true rfl⟩ rfl (Nat.le_of_ble_eq_true rfl) ⟨Nat.zero_le _, Nat.zero_le _⟩ d10_ways_1 ?_
  refine ok10_asksPlans hn  (kIm h (fun a1 h => ?_))
  refine r_if_ne F (tgt := 11) d10_ways_4 (by decide) (fun hb => ?_) (fun hb => ?_)
  · replace h := wpo_neg h hb
    refine r_aload_nR F 0 rfl rfl d10_ways_11 ?_
    replace h := wpo_bind h
    refine r_callV0 F lm10_353 mf10_leastOf (vc117 hn) rfl (fr := 3) (lo := 65) (As := []) (rest := []) ⟨Nat.le_of_ble_eq_true rfl, Nat.le_of_ble_eq_true rfl⟩ rfl (Nat.le_of_ble_eq_true rfl) ⟨Nat.zero_le _, Nat.zero_le _⟩ d10_ways_12 ?_
    refine ok10_leastOf hn  (kIm h (fun a2 h => ?_))
    refine r_pop F rfl d10_ways_15 ?_
    refine r_aload_nR F 0 rfl rfl d10_ways_16 ?_
    refine r_getR F (z := 136) lf10_70 (vc117 hn) z117_32 d10_ways_17 ?_
    refine r_iconst F (z := 0) d10_ways_20 ?_
    refine r_laldC F (j := 0) (vc136 hn) (by decide) rfl d10_ways_21 ?_
    replace h := wpo_some h
    exact r_lret F h d10_ways_22
  · replace h := wpo_pos h hb
    refine r_ldc2 F (z := (-2)) lc10_356 d10_ways_7 ?_
    replace h := wpo_some h
    exact r_lret F h d10_ways_10
theorem d10_plan_0 : decode c10_plan 0 = .ok (.aload_n 0, 1) := by decide +kernel
theorem d10_plan_1 : decode c10_plan 1 = .ok (.invokevirtual 350, 3) := by decide +kernel
theorem d10_plan_4 : decode c10_plan 4 = .ok (.ifCond .eq 11, 3) := by decide +kernel
theorem d10_plan_7 : decode c10_plan 7 = .ok (.aload_n 0, 1) := by decide +kernel
theorem d10_plan_8 : decode c10_plan 8 = .ok (.iload_n 1, 1) := by decide +kernel
theorem d10_plan_9 : decode c10_plan 9 = .ok (.invokevirtual 283, 3) := by decide +kernel
theorem d10_plan_12 : decode c10_plan 12 = .ok (.ifCond .ne 6, 3) := by decide +kernel
theorem d10_plan_15 : decode c10_plan 15 = .ok (.bipush (-2), 2) := by decide +kernel
theorem d10_plan_17 : decode c10_plan 17 = .ok (.ireturn, 1) := by decide +kernel
theorem d10_plan_18 : decode c10_plan 18 = .ok (.aload_n 0, 1) := by decide +kernel
theorem d10_plan_19 : decode c10_plan 19 = .ok (.invokevirtual 353, 3) := by decide +kernel
theorem d10_plan_22 : decode c10_plan 22 = .ok (.istore_n 2, 1) := by decide +kernel
theorem d10_plan_23 : decode c10_plan 23 = .ok (.iconst 0, 1) := by decide +kernel
theorem d10_plan_24 : decode c10_plan 24 = .ok (.istore_n 3, 1) := by decide +kernel
theorem d10_plan_25 : decode c10_plan 25 = .ok (.iload_n 3, 1) := by decide +kernel
theorem d10_plan_26 : decode c10_plan 26 = .ok (.iload_n 1, 1) := by decide +kernel
theorem d10_plan_27 : decode c10_plan 27 = .ok (.if_icmp .gt 37, 3) := by decide +kernel
theorem d10_plan_30 : decode c10_plan 30 = .ok (.aload_n 0, 1) := by decide +kernel
theorem d10_plan_31 : decode c10_plan 31 = .ok (.getfield 74, 3) := by decide +kernel
theorem d10_plan_34 : decode c10_plan 34 = .ok (.iload_n 3, 1) := by decide +kernel
theorem d10_plan_35 : decode c10_plan 35 = .ok (.iconst (-1), 1) := by decide +kernel
theorem d10_plan_36 : decode c10_plan 36 = .ok (.iastore, 1) := by decide +kernel
theorem d10_plan_37 : decode c10_plan 37 = .ok (.aload_n 0, 1) := by decide +kernel
theorem d10_plan_38 : decode c10_plan 38 = .ok (.invokevirtual 353, 3) := by decide +kernel
theorem d10_plan_41 : decode c10_plan 41 = .ok (.iload_n 2, 1) := by decide +kernel
theorem d10_plan_42 : decode c10_plan 42 = .ok (.if_icmp .eq 16, 3) := by decide +kernel
theorem d10_plan_45 : decode c10_plan 45 = .ok (.aload_n 0, 1) := by decide +kernel
theorem d10_plan_46 : decode c10_plan 46 = .ok (.getfield 74, 3) := by decide +kernel
theorem d10_plan_49 : decode c10_plan 49 = .ok (.iload_n 3, 1) := by decide +kernel
theorem d10_plan_50 : decode c10_plan 50 = .ok (.dup2, 1) := by decide +kernel
theorem d10_plan_51 : decode c10_plan 51 = .ok (.iaload, 1) := by decide +kernel
theorem d10_plan_52 : decode c10_plan 52 = .ok (.iconst 1, 1) := by decide +kernel
theorem d10_plan_53 : decode c10_plan 53 = .ok (.iadd, 1) := by decide +kernel
theorem d10_plan_54 : decode c10_plan 54 = .ok (.iastore, 1) := by decide +kernel
theorem d10_plan_55 : decode c10_plan 55 = .ok (.goto (-18), 3) := by decide +kernel
theorem d10_plan_58 : decode c10_plan 58 = .ok (.iinc 3 1, 3) := by decide +kernel
theorem d10_plan_61 : decode c10_plan 61 = .ok (.goto (-36), 3) := by decide +kernel
theorem d10_plan_64 : decode c10_plan 64 = .ok (.aload_n 0, 1) := by decide +kernel
theorem d10_plan_65 : decode c10_plan 65 = .ok (.getfield 74, 3) := by decide +kernel
theorem d10_plan_68 : decode c10_plan 68 = .ok (.iload_n 1, 1) := by decide +kernel
theorem d10_plan_69 : decode c10_plan 69 = .ok (.iaload, 1) := by decide +kernel
theorem d10_plan_70 : decode c10_plan 70 = .ok (.ireturn, 1) := by decide +kernel
def f10_plan (D : Mem) (p0 : Int) : Option (Int × Mem) :=
  Option.bind (f10_asksPlans D) fun (a1 : Int × Mem) =>
  if w32 a1.1 = 0 then
    some ((-2), a1.2)
  else
    Option.bind (f10_isPerson a1.2 p0) fun (a2 : Int) =>
    if w32 a2 = 0 then
      some ((-2), a1.2)
    else
      Option.bind (f10_leastOf a1.2) fun (a3 : Int × Mem) =>
      Option.bind (@loop (Int × Mem) (Mem) (fun s1 =>
        if w32 p0 < w32 s1.1 then
          some (Sum.inr s1.2)
        else
          if 0 ≤ s1.1 ∧ s1.1 < 8 then
            Option.bind (some (mset s1.2 137 s1.1.toNat (-1))) fun (D1 : Mem) =>
            Option.bind (@loop (Mem) (Mem) (fun s2 =>
              Option.bind (f10_leastOf s2) fun (a4 : Int × Mem) =>
              if w32 a4.1 = w32 a3.1 then
                some (Sum.inr a4.2)
              else
                some (Sum.inl (mset a4.2 137 s1.1.toNat ((a4.2 137 s1.1.toNat) + 1)))
            ) FU D1) fun (b2 : Mem) =>
            some (Sum.inl ((s1.1 + 1), b2))
          else none
      ) FU (0, a3.2)) fun (b1 : Mem) =>
      if 0 ≤ p0 ∧ p0 < 8 then
        some ((b1 137 p0.toNat), b1)
      else none
set_option maxHeartbeats 4000000 in
theorem ok10_plan {l : Launch} {X : XT} {n : Nat} {D : Mem} {Q : Option Value → Nat → Rho → Mem → Prop} (hn : 147 ≤ n) {p0 : Int}  (h : wpo (f10_plan D p0) (fun a => Q (some (vI a.1)) n rt a.2)) : MOK l y10_plan c10_plan 4 (some .int) { frames := 4, cells := 0, slots := 0, locals := 87 } 0 0 X [vR X 117, vI p0] n rt D Q := by
  refine MOK_of 10 (by decide +kernel) rfl (lv := [(0, vR X 117), (1, vI p0)]) (Nat.le_of_ble_eq_true rfl) rfl (fun K hK F hnm => ?_)
  subst hK
  unfold f10_plan at h
  refine r_aload_nR F 0 rfl rfl d10_plan_0 ?_
  replace h := wpo_bind h
  refine r_callV0 F lm10_350 mf10_asksPlans (vc117 hn) rfl (fr := 2) (lo := 44) (As := []) (rest := []) ⟨Nat.le_of_ble_eq_true rfl, Nat.le_of_ble_eq_true rfl⟩ rfl (Nat.le_of_ble_eq_true rfl) ⟨Nat.zero_le _, Nat.zero_le _⟩ d10_plan_1 ?_
  refine ok10_asksPlans hn  (kIm h (fun a1 h => ?_))
  refine r_if_eq F (tgt := 15) d10_plan_4 (by decide) (fun hb => ?_) (fun hb => ?_)
  · replace h := wpo_pos h hb
    refine r_bipush F (z := (-2)) (by decide) d10_plan_15 ?_
    replace h := wpo_some h
    exact r_iret F h d10_plan_17
  · replace h := wpo_neg h hb
    refine r_aload_nR F 0 rfl rfl d10_plan_7 ?_
    refine r_iload_n F 1 rfl rfl d10_plan_8 ?_
    replace h := wpo_bind h
    refine r_callV0 F lm10_283 mf10_isPerson (vc117 hn) rfl (fr := 1) (lo := 25) (As := [vI p0]) (rest := []) ⟨Nat.le_of_ble_eq_true rfl, Nat.le_of_ble_eq_true rfl⟩ rfl (Nat.le_of_ble_eq_true rfl) ⟨Nat.zero_le _, Nat.zero_le _⟩ d10_plan_9 ?_
    refine ok10_isPerson hn  (kI h (fun a2 h => ?_))
    refine r_if_ne F (tgt := 18) d10_plan_12 (by decide) (fun hb => ?_) (fun hb => ?_)
    · replace h := wpo_neg h hb
      refine r_aload_nR F 0 rfl rfl d10_plan_18 ?_
      replace h := wpo_bind h
      refine r_callV0 F lm10_353 mf10_leastOf (vc117 hn) rfl (fr := 3) (lo := 65) (As := []) (rest := []) ⟨Nat.le_of_ble_eq_true rfl, Nat.le_of_ble_eq_true rfl⟩ rfl (Nat.le_of_ble_eq_true rfl) ⟨Nat.zero_le _, Nat.zero_le _⟩ d10_plan_19 ?_
      refine ok10_leastOf hn  (kIm h (fun a3 h => ?_))
      refine r_istore_n F (lv' := [(2, vI a3.1), (0, vR X 117), (1, vI p0)]) rfl (Nat.le_of_ble_eq_true rfl) rfl d10_plan_22 ?_
      refine r_iconst F (z := 0) d10_plan_23 ?_
      refine r_istore_n F (lv' := [(3, vI 0), (2, vI a3.1), (0, vR X 117), (1, vI p0)]) rfl (Nat.le_of_ble_eq_true rfl) rfl d10_plan_24 ?_
      refine r_weak [2, 3, 1, 0] rfl ?_
      refine at_loopj (A := fun (s1 : Int × Mem) => At K X (ZQ K X Q) 0 0 n rt 4 25 [(0, vR X 117), (1, vI p0), (2, vI a3.1), (3, vI s1.1)] [] s1.2) (B := fun (b1 : Mem) => At K X (ZQ K X Q) 0 0 n rt 4 64 [(0, vR X 117), (1, vI p0)] [] b1) h (fun b1 h => ?_) (fun s1 h => ?_)
      · refine r_aload_nR F 0 rfl rfl d10_plan_64 ?_
        refine r_getR F (z := 137) lf10_74 (vc117 hn) z117_33 d10_plan_65 ?_
        refine r_iload_n F 1 rfl rfl d10_plan_68 ?_
        obtain ⟨hx2, h⟩ := wpo_chk h
        refine r_iald F (vc137 hn) hx2 d10_plan_69 ?_
        replace h := wpo_some h
        exact r_iret F h d10_plan_70
      · refine r_iload_n F 3 rfl rfl d10_plan_25 ?_
        refine r_iload_n F 1 rfl rfl d10_plan_26 ?_
        refine r_icmp_gt F (tgt := 64) d10_plan_27 (by decide) (fun hb => ?_) (fun hb => ?_)
        · replace h := wpo_pos h hb
          refine r_weak [0, 1] rfl ?_
          replace h := wpo_inr h
          exact h
        · replace h := wpo_neg h hb
          refine r_aload_nR F 0 rfl rfl d10_plan_30 ?_
          refine r_getR F (z := 137) lf10_74 (vc117 hn) z117_33 d10_plan_31 ?_
          refine r_iload_n F 3 rfl rfl d10_plan_34 ?_
          refine r_iconst F (z := (-1)) d10_plan_35 ?_
          obtain ⟨hx1, h⟩ := wpo_chk h
          refine r_iast F (vc137 hn) hx1 d10_plan_36 ?_
          refine at_name (B := fun (D1 : Mem) => At K X (ZQ K X Q) 0 0 n rt 4 37 [(0, vR X 117), (1, vI p0), (2, vI a3.1), (3, vI s1.1)] [] D1) h (fun D1 h => ?_)
          refine at_loopj (A := fun (s2 : Mem) => At K X (ZQ K X Q) 0 0 n rt 4 37 [(0, vR X 117), (1, vI p0), (2, vI a3.1), (3, vI s1.1)] [] s2) (B := fun (b2 : Mem) => At K X (ZQ K X Q) 0 0 n rt 4 58 [(0, vR X 117), (1, vI p0), (2, vI a3.1), (3, vI s1.1)] [] b2) h (fun b2 h => ?_) (fun s2 h => ?_)
          · refine r_iinc F 3 (lv' := [(3, vI (s1.1 + 1)), (0, vR X 117), (1, vI p0), (2, vI a3.1)]) rfl (Nat.le_of_ble_eq_true rfl) rfl d10_plan_58 ?_
            refine r_goto F (tgt := 25) (by decide) d10_plan_61 ?_
            refine r_weak [1, 2, 3, 0] rfl ?_
            replace h := wpo_inl h
            exact h
          · refine r_aload_nR F 0 rfl rfl d10_plan_37 ?_
            replace h := wpo_bind h
            refine r_callV0 F lm10_353 mf10_leastOf (vc117 hn) rfl (fr := 3) (lo := 65) (As := []) (rest := []) ⟨Nat.le_of_ble_eq_true rfl, Nat.le_of_ble_eq_true rfl⟩ rfl (Nat.le_of_ble_eq_true rfl) ⟨Nat.zero_le _, Nat.zero_le _⟩ d10_plan_38 ?_
            refine ok10_leastOf hn  (kIm h (fun a4 h => ?_))
            refine r_iload_n F 2 rfl rfl d10_plan_41 ?_
            refine r_icmp_eq F (tgt := 58) d10_plan_42 (by decide) (fun hb => ?_) (fun hb => ?_)
            · replace h := wpo_pos h hb
              replace h := wpo_inr h
              exact h
            · replace h := wpo_neg h hb
              refine r_aload_nR F 0 rfl rfl d10_plan_45 ?_
              refine r_getR F (z := 137) lf10_74 (vc117 hn) z117_33 d10_plan_46 ?_
              refine r_iload_n F 3 rfl rfl d10_plan_49 ?_
              refine r_dup2 F rfl rfl d10_plan_50 ?_
              refine r_iald F (vc137 hn) hx1 d10_plan_51 ?_
              refine r_iconst F (z := 1) d10_plan_52 ?_
              refine r_iadd F d10_plan_53 ?_
              refine r_iast F (vc137 hn) hx1 d10_plan_54 ?_
              refine r_goto F (tgt := 37) (by decide) d10_plan_55 ?_
              replace h := wpo_inl h
              exact h
    · replace h := wpo_pos h hb
      refine r_bipush F (z := (-2)) (by decide) d10_plan_15 ?_
      replace h := wpo_some h
      exact r_iret F h d10_plan_17
theorem d10_regret_0 : decode c10_regret 0 = .ok (.aload_n 0, 1) := by decide +kernel
theorem d10_regret_1 : decode c10_regret 1 = .ok (.invokevirtual 280, 3) := by decide +kernel
theorem d10_regret_4 : decode c10_regret 4 = .ok (.ifCond .ne 6, 3) := by decide +kernel
theorem d10_regret_7 : decode c10_regret 7 = .ok (.bipush (-2), 2) := by decide +kernel
theorem d10_regret_9 : decode c10_regret 9 = .ok (.ireturn, 1) := by decide +kernel
theorem d10_regret_10 : decode c10_regret 10 = .ok (.aload_n 0, 1) := by decide +kernel
theorem d10_regret_11 : decode c10_regret 11 = .ok (.invokevirtual 303, 3) := by decide +kernel
theorem d10_regret_14 : decode c10_regret 14 = .ok (.istore_n 1, 1) := by decide +kernel
theorem d10_regret_15 : decode c10_regret 15 = .ok (.aload_n 0, 1) := by decide +kernel
theorem d10_regret_16 : decode c10_regret 16 = .ok (.invokevirtual 350, 3) := by decide +kernel
theorem d10_regret_19 : decode c10_regret 19 = .ok (.pop, 1) := by decide +kernel
theorem d10_regret_20 : decode c10_regret 20 = .ok (.iload_n 1, 1) := by decide +kernel
theorem d10_regret_21 : decode c10_regret 21 = .ok (.aload_n 0, 1) := by decide +kernel
theorem d10_regret_22 : decode c10_regret 22 = .ok (.invokevirtual 353, 3) := by decide +kernel
theorem d10_regret_25 : decode c10_regret 25 = .ok (.isub, 1) := by decide +kernel
theorem d10_regret_26 : decode c10_regret 26 = .ok (.ireturn, 1) := by decide +kernel
def f10_regret (D : Mem) : Option (Int × Mem) :=
  Option.bind (f10_asksParish D) fun (a1 : Int × Mem) =>
  if w32 a1.1 = 0 then
    some ((-2), a1.2)
  else
    Option.bind (f10_bearsAll a1.2) fun (a2 : Int) =>
    Option.bind (f10_asksPlans a1.2) fun (a3 : Int × Mem) =>
    Option.bind (f10_leastOf a3.2) fun (a4 : Int × Mem) =>
    some ((a2 - a4.1), a4.2)
set_option maxHeartbeats 4000000 in
theorem ok10_regret {l : Launch} {X : XT} {n : Nat} {D : Mem} {Q : Option Value → Nat → Rho → Mem → Prop} (hn : 147 ≤ n)  (h : wpo (f10_regret D) (fun a => Q (some (vI a.1)) n rt a.2)) : MOK l y10_regret c10_regret 2 (some .int) { frames := 5, cells := 0, slots := 0, locals := 113 } 0 0 X [vR X 117] n rt D Q := by
  refine MOK_of 10 (by decide +kernel) rfl (lv := [(0, vR X 117)]) (Nat.le_of_ble_eq_true rfl) rfl (fun K hK F hnm => ?_)
  subst hK
  unfold f10_regret at h
  refine r_aload_nR F 0 rfl rfl d10_regret_0 ?_
  replace h := wpo_bind h
  refine r_callV0 F lm10_280 mf10_asksParish (vc117 hn) rfl (fr := 4) (lo := 93) (As := []) (rest := []) ⟨Nat.le_of_ble_eq_true rfl, Nat.le_of_ble_eq_true rfl⟩ rfl (Nat.le_of_ble_eq_true rfl) ⟨Nat.zero_le _, Nat.zero_le _⟩ d10_regret_1 ?_
  refine ok10_asksParish hn  (kIm h (fun a1 h => ?_))
  refine r_if_ne F (tgt := 10) d10_regret_4 (by decide) (fun hb => ?_) (fun hb => ?_)
  · replace h := wpo_neg h hb
    refine r_aload_nR F 0 rfl rfl d10_regret_10 ?_
    replace h := wpo_bind h
    refine r_callV0 F lm10_303 mf10_bearsAll (vc117 hn) rfl (fr := 4) (lo := 87) (As := []) (rest := []) ⟨Nat.le_of_ble_eq_true rfl, Nat.le_of_ble_eq_true rfl⟩ rfl (Nat.le_of_ble_eq_true rfl) ⟨Nat.zero_le _, Nat.zero_le _⟩ d10_regret_11 ?_
    refine ok10_bearsAll hn  (kI h (fun a2 h => ?_))
    refine r_istore_n F (lv' := [(1, vI a2), (0, vR X 117)]) rfl (Nat.le_of_ble_eq_true rfl) rfl d10_regret_14 ?_
    refine r_aload_nR F 1 rfl rfl d10_regret_15 ?_
    replace h := wpo_bind h
    refine r_callV0 F lm10_350 mf10_asksPlans (vc117 hn) rfl (fr := 2) (lo := 44) (As := []) (rest := []) ⟨Nat.le_of_ble_eq_true rfl, Nat.le_of_ble_eq_true rfl⟩ rfl (Nat.le_of_ble_eq_true rfl) ⟨Nat.zero_le _, Nat.zero_le _⟩ d10_regret_16 ?_
    refine ok10_asksPlans hn  (kIm h (fun a3 h => ?_))
    refine r_pop F rfl d10_regret_19 ?_
    refine r_iload_n F 0 rfl rfl d10_regret_20 ?_
    refine r_aload_nR F 1 rfl rfl d10_regret_21 ?_
    replace h := wpo_bind h
    refine r_callV0 F lm10_353 mf10_leastOf (vc117 hn) rfl (fr := 3) (lo := 65) (As := []) (rest := [vI a2]) ⟨Nat.le_of_ble_eq_true rfl, Nat.le_of_ble_eq_true rfl⟩ rfl (Nat.le_of_ble_eq_true rfl) ⟨Nat.zero_le _, Nat.zero_le _⟩ d10_regret_22 ?_
    refine ok10_leastOf hn  (kIm h (fun a4 h => ?_))
    refine r_isub F d10_regret_25 ?_
    replace h := wpo_some h
    exact r_iret F h d10_regret_26
  · replace h := wpo_pos h hb
    refine r_bipush F (z := (-2)) (by decide) d10_regret_7 ?_
    replace h := wpo_some h
    exact r_iret F h d10_regret_9
theorem d10_room_0 : decode c10_room 0 = .ok (.aload_n 0, 1) := by decide +kernel
theorem d10_room_1 : decode c10_room 1 = .ok (.invokevirtual 350, 3) := by decide +kernel
theorem d10_room_4 : decode c10_room 4 = .ok (.ifCond .eq 15, 3) := by decide +kernel
theorem d10_room_7 : decode c10_room 7 = .ok (.iload_n 1, 1) := by decide +kernel
theorem d10_room_8 : decode c10_room 8 = .ok (.i2l, 1) := by decide +kernel
theorem d10_room_9 : decode c10_room 9 = .ok (.lconst 0, 1) := by decide +kernel
theorem d10_room_10 : decode c10_room 10 = .ok (.ldc2_w 358, 3) := by decide +kernel
theorem d10_room_13 : decode c10_room 13 = .ok (.invokestatic 109, 3) := by decide +kernel
theorem d10_room_16 : decode c10_room 16 = .ok (.ifCond .ne 6, 3) := by decide +kernel
theorem d10_room_19 : decode c10_room 19 = .ok (.bipush (-2), 2) := by decide +kernel
theorem d10_room_21 : decode c10_room 21 = .ok (.ireturn, 1) := by decide +kernel
theorem d10_room_22 : decode c10_room 22 = .ok (.iconst 0, 1) := by decide +kernel
theorem d10_room_23 : decode c10_room 23 = .ok (.istore_n 2, 1) := by decide +kernel
theorem d10_room_24 : decode c10_room 24 = .ok (.sipush 161, 3) := by decide +kernel
theorem d10_room_27 : decode c10_room 27 = .ok (.istore_n 3, 1) := by decide +kernel
theorem d10_room_28 : decode c10_room 28 = .ok (.iload_n 3, 1) := by decide +kernel
theorem d10_room_29 : decode c10_room 29 = .ok (.iload_n 2, 1) := by decide +kernel
theorem d10_room_30 : decode c10_room 30 = .ok (.isub, 1) := by decide +kernel
theorem d10_room_31 : decode c10_room 31 = .ok (.iconst 1, 1) := by decide +kernel
theorem d10_room_32 : decode c10_room 32 = .ok (.if_icmp .le 36, 3) := by decide +kernel
theorem d10_room_35 : decode c10_room 35 = .ok (.aload_n 0, 1) := by decide +kernel
theorem d10_room_36 : decode c10_room 36 = .ok (.iload_n 2, 1) := by decide +kernel
theorem d10_room_37 : decode c10_room 37 = .ok (.iload_n 3, 1) := by decide +kernel
theorem d10_room_38 : decode c10_room 38 = .ok (.iadd, 1) := by decide +kernel
theorem d10_room_39 : decode c10_room 39 = .ok (.iconst 2, 1) := by decide +kernel
theorem d10_room_40 : decode c10_room 40 = .ok (.idiv, 1) := by decide +kernel
theorem d10_room_41 : decode c10_room 41 = .ok (.putfield 228, 3) := by decide +kernel
theorem d10_room_44 : decode c10_room 44 = .ok (.aload_n 0, 1) := by decide +kernel
theorem d10_room_45 : decode c10_room 45 = .ok (.invokevirtual 353, 3) := by decide +kernel
theorem d10_room_48 : decode c10_room 48 = .ok (.iload_n 1, 1) := by decide +kernel
theorem d10_room_49 : decode c10_room 49 = .ok (.if_icmp .gt 11, 3) := by decide +kernel
theorem d10_room_52 : decode c10_room 52 = .ok (.aload_n 0, 1) := by decide +kernel
theorem d10_room_53 : decode c10_room 53 = .ok (.getfield 228, 3) := by decide +kernel
theorem d10_room_56 : decode c10_room 56 = .ok (.istore_n 3, 1) := by decide +kernel
theorem d10_room_57 : decode c10_room 57 = .ok (.goto (-29), 3) := by decide +kernel
theorem d10_room_60 : decode c10_room 60 = .ok (.aload_n 0, 1) := by decide +kernel
theorem d10_room_61 : decode c10_room 61 = .ok (.getfield 228, 3) := by decide +kernel
theorem d10_room_64 : decode c10_room 64 = .ok (.istore_n 2, 1) := by decide +kernel
theorem d10_room_65 : decode c10_room 65 = .ok (.goto (-37), 3) := by decide +kernel
theorem d10_room_68 : decode c10_room 68 = .ok (.iload_n 3, 1) := by decide +kernel
theorem d10_room_69 : decode c10_room 69 = .ok (.sipush 160, 3) := by decide +kernel
theorem d10_room_72 : decode c10_room 72 = .ok (.if_icmp .le 7, 3) := by decide +kernel
theorem d10_room_75 : decode c10_room 75 = .ok (.iconst (-1), 1) := by decide +kernel
theorem d10_room_76 : decode c10_room 76 = .ok (.goto 4, 3) := by decide +kernel
theorem d10_room_79 : decode c10_room 79 = .ok (.iload_n 3, 1) := by decide +kernel
theorem d10_room_80 : decode c10_room 80 = .ok (.ireturn, 1) := by decide +kernel
def f10_room (D : Mem) (p0 : Int) : Option (Int × Mem) :=
  Option.bind (f10_asksPlans D) fun (a1 : Int × Mem) =>
  if w32 a1.1 = 0 then
    some ((-2), a1.2)
  else
    Option.bind (f10_in a1.2 (w32 p0) 0 20000) fun (a2 : Int) =>
    if w32 a2 = 0 then
      some ((-2), a1.2)
    else
      Option.bind (@loop (Int × Int × Mem) (Int × Mem) (fun s1 =>
        if w32 1 < w32 (s1.2.1 - s1.1) then
          Option.bind (some (mset s1.2.2 117 19 (div32 (s1.1 + s1.2.1) 2))) fun (D1 : Mem) =>
          Option.bind (f10_leastOf D1) fun (a3 : Int × Mem) =>
          if w32 p0 < w32 a3.1 then
            some (Sum.inl ((a3.2 117 19), s1.2.1, a3.2))
          else
            some (Sum.inl (s1.1, (a3.2 117 19), a3.2))
        else
          some (Sum.inr (s1.2.1, s1.2.2))
      ) FU (0, 161, a1.2)) fun (b1 : Int × Mem) =>
      if w32 160 < w32 b1.1 then
        some ((-1), b1.2)
      else
        some (b1.1, b1.2)
set_option maxHeartbeats 4000000 in
theorem ok10_room {l : Launch} {X : XT} {n : Nat} {D : Mem} {Q : Option Value → Nat → Rho → Mem → Prop} (hn : 147 ≤ n) {p0 : Int}  (h : wpo (f10_room D p0) (fun a => Q (some (vI a.1)) n rt a.2)) : MOK l y10_room c10_room 4 (some .int) { frames := 4, cells := 0, slots := 0, locals := 87 } 0 0 X [vR X 117, vI p0] n rt D Q := by
  refine MOK_of 10 (by decide +kernel) rfl (lv := [(0, vR X 117), (1, vI p0)]) (Nat.le_of_ble_eq_true rfl) rfl (fun K hK F hnm => ?_)
  subst hK
  unfold f10_room at h
  refine r_aload_nR F 0 rfl rfl d10_room_0 ?_
  replace h := wpo_bind h
  refine r_callV0 F lm10_350 mf10_asksPlans (vc117 hn) rfl (fr := 2) (lo := 44) (As := []) (rest := []) ⟨Nat.le_of_ble_eq_true rfl, Nat.le_of_ble_eq_true rfl⟩ rfl (Nat.le_of_ble_eq_true rfl) ⟨Nat.zero_le _, Nat.zero_le _⟩ d10_room_1 ?_
  refine ok10_asksPlans hn  (kIm h (fun a1 h => ?_))
  refine r_if_eq F (tgt := 19) d10_room_4 (by decide) (fun hb => ?_) (fun hb => ?_)
  · replace h := wpo_pos h hb
    refine r_bipush F (z := (-2)) (by decide) d10_room_19 ?_
    replace h := wpo_some h
    exact r_iret F h d10_room_21
  · replace h := wpo_neg h hb
    refine r_iload_n F 1 rfl rfl d10_room_7 ?_
    refine r_i2l F d10_room_8 ?_
    refine r_lconst F (x := 0) (by decide) d10_room_9 ?_
    refine r_ldc2 F (z := 20000) lc10_358 d10_room_10 ?_
    replace h := wpo_bind h
    refine r_callS0 F lm10_109 mf10_in rfl (fr := 0) (lo := 0) (As := [vL (w32 p0), vL 0, vL 20000]) (rest := []) ⟨Nat.le_of_ble_eq_true rfl, Nat.le_of_ble_eq_true rfl⟩ rfl (Nat.le_of_ble_eq_true rfl) ⟨Nat.zero_le _, Nat.zero_le _⟩ d10_room_13 ?_
    refine ok10_in hn  (kI h (fun a2 h => ?_))
    refine r_if_ne F (tgt := 22) d10_room_16 (by decide) (fun hb => ?_) (fun hb => ?_)
    · replace h := wpo_neg h hb
      refine r_iconst F (z := 0) d10_room_22 ?_
      refine r_istore_n F (lv' := [(2, vI 0), (0, vR X 117), (1, vI p0)]) rfl (Nat.le_of_ble_eq_true rfl) rfl d10_room_23 ?_
      refine r_sipush F (z := 161) (by decide) d10_room_24 ?_
      refine r_istore_n F (lv' := [(3, vI 161), (2, vI 0), (0, vR X 117), (1, vI p0)]) rfl (Nat.le_of_ble_eq_true rfl) rfl d10_room_27 ?_
      refine r_weak [2, 3, 1, 0] rfl ?_
      refine at_loopj (A := fun (s1 : Int × Int × Mem) => At K X (ZQ K X Q) 0 0 n rt 4 28 [(0, vR X 117), (1, vI p0), (2, vI s1.1), (3, vI s1.2.1)] [] s1.2.2) (B := fun (b1 : Int × Mem) => At K X (ZQ K X Q) 0 0 n rt 4 68 [(3, vI b1.1)] [] b1.2) h (fun b1 h => ?_) (fun s1 h => ?_)
      · refine r_iload_n F 0 rfl rfl d10_room_68 ?_
        refine r_sipush F (z := 160) (by decide) d10_room_69 ?_
        refine r_icmp_le F (tgt := 79) d10_room_72 (by decide) (fun hb => ?_) (fun hb => ?_)
        · replace h := wpo_neg h hb
          refine r_iload_n F 0 rfl rfl d10_room_79 ?_
          replace h := wpo_some h
          exact r_iret F h d10_room_80
        · replace h := wpo_pos h hb
          refine r_iconst F (z := (-1)) d10_room_75 ?_
          refine r_goto F (tgt := 80) (by decide) d10_room_76 ?_
          replace h := wpo_some h
          exact r_iret F h d10_room_80
      · refine r_iload_n F 3 rfl rfl d10_room_28 ?_
        refine r_iload_n F 2 rfl rfl d10_room_29 ?_
        refine r_isub F d10_room_30 ?_
        refine r_iconst F (z := 1) d10_room_31 ?_
        refine r_icmp_le F (tgt := 68) d10_room_32 (by decide) (fun hb => ?_) (fun hb => ?_)
        · replace h := wpo_neg h hb
          refine r_weak [3] rfl ?_
          replace h := wpo_inr h
          exact h
        · replace h := wpo_pos h hb
          refine r_aload_nR F 0 rfl rfl d10_room_35 ?_
          refine r_iload_n F 2 rfl rfl d10_room_36 ?_
          refine r_iload_n F 3 rfl rfl d10_room_37 ?_
          refine r_iadd F d10_room_38 ?_
          refine r_iconst F (z := 2) d10_room_39 ?_
          refine r_idiv F (by decide +kernel) d10_room_40 ?_
          refine r_putI F lf10_228 rfl rfl (vc117 hn) d10_room_41 ?_
          refine r_aload_nR F 0 rfl rfl d10_room_44 ?_
          refine at_name (B := fun (D1 : Mem) => At K X (ZQ K X Q) 0 0 n rt 4 45 [(0, vR X 117), (1, vI p0), (2, vI s1.1), (3, vI s1.2.1)] [vR X 117] D1) h (fun D1 h => ?_)
          replace h := wpo_bind h
          refine r_callV0 F lm10_353 mf10_leastOf (vc117 hn) rfl (fr := 3) (lo := 65) (As := []) (rest := []) ⟨Nat.le_of_ble_eq_true rfl, Nat.le_of_ble_eq_true rfl⟩ rfl (Nat.le_of_ble_eq_true rfl) ⟨Nat.zero_le _, Nat.zero_le _⟩ d10_room_45 ?_
          refine ok10_leastOf hn  (kIm h (fun a3 h => ?_))
          refine r_iload_n F 1 rfl rfl d10_room_48 ?_
          refine r_icmp_gt F (tgt := 60) d10_room_49 (by decide) (fun hb => ?_) (fun hb => ?_)
          · replace h := wpo_pos h hb
            refine r_aload_nR F 0 rfl rfl d10_room_60 ?_
            refine r_getI F lf10_228 (vc117 hn) d10_room_61 ?_
            refine r_istore_n F (lv' := [(2, vI (a3.2 117 19)), (0, vR X 117), (1, vI p0), (3, vI s1.2.1)]) rfl (Nat.le_of_ble_eq_true rfl) rfl d10_room_64 ?_
            refine r_goto F (tgt := 28) (by decide) d10_room_65 ?_
            refine r_weak [1, 2, 0, 3] rfl ?_
            replace h := wpo_inl h
            exact h
          · replace h := wpo_neg h hb
            refine r_aload_nR F 0 rfl rfl d10_room_52 ?_
            refine r_getI F lf10_228 (vc117 hn) d10_room_53 ?_
            refine r_istore_n F (lv' := [(3, vI (a3.2 117 19)), (0, vR X 117), (1, vI p0), (2, vI s1.1)]) rfl (Nat.le_of_ble_eq_true rfl) rfl d10_room_56 ?_
            refine r_goto F (tgt := 28) (by decide) d10_room_57 ?_
            refine r_weak [1, 2, 3, 0] rfl ?_
            replace h := wpo_inl h
            exact h
    · replace h := wpo_pos h hb
      refine r_bipush F (z := (-2)) (by decide) d10_room_19 ?_
      replace h := wpo_some h
      exact r_iret F h d10_room_21
theorem d10_byRule_0 : decode c10_byRule 0 = .ok (.aload_n 0, 1) := by decide +kernel
theorem d10_byRule_1 : decode c10_byRule 1 = .ok (.iload_n 1, 1) := by decide +kernel
theorem d10_byRule_2 : decode c10_byRule 2 = .ok (.putfield 231, 3) := by decide +kernel
theorem d10_byRule_5 : decode c10_byRule 5 = .ok (.aload_n 0, 1) := by decide +kernel
theorem d10_byRule_6 : decode c10_byRule 6 = .ok (.invokevirtual 277, 3) := by decide +kernel
theorem d10_byRule_9 : decode c10_byRule 9 = .ok (.aload_n 0, 1) := by decide +kernel
theorem d10_byRule_10 : decode c10_byRule 10 = .ok (.invokevirtual 303, 3) := by decide +kernel
theorem d10_byRule_13 : decode c10_byRule 13 = .ok (.ireturn, 1) := by decide +kernel
def f10_byRule (D : Mem) (p0 : Int) : Option (Int × Mem) :=
  Option.bind (some (mset D 117 20 p0)) fun (D1 : Mem) =>
  Option.bind (f10_goNights D1) fun (a1 : Mem) =>
  Option.bind (f10_bearsAll a1) fun (a2 : Int) =>
  some (a2, a1)
set_option maxHeartbeats 4000000 in
theorem ok10_byRule {l : Launch} {X : XT} {n : Nat} {D : Mem} {Q : Option Value → Nat → Rho → Mem → Prop} (hn : 147 ≤ n) {p0 : Int}  (h : wpo (f10_byRule D p0) (fun a => Q (some (vI a.1)) n rt a.2)) : MOK l y10_byRule c10_byRule 2 (some .int) { frames := 5, cells := 0, slots := 0, locals := 109 } 0 0 X [vR X 117, vI p0] n rt D Q := by
  refine MOK_of 10 (by decide +kernel) rfl (lv := [(0, vR X 117), (1, vI p0)]) (Nat.le_of_ble_eq_true rfl) rfl (fun K hK F hnm => ?_)
  subst hK
  unfold f10_byRule at h
  refine r_aload_nR F 0 rfl rfl d10_byRule_0 ?_
  refine r_iload_n F 1 rfl rfl d10_byRule_1 ?_
  refine r_putI F lf10_231 rfl rfl (vc117 hn) d10_byRule_2 ?_
  refine r_aload_nR F 0 rfl rfl d10_byRule_5 ?_
  refine at_name (B := fun (D1 : Mem) => At K X (ZQ K X Q) 0 0 n rt 2 6 [(0, vR X 117), (1, vI p0)] [vR X 117] D1) h (fun D1 h => ?_)
  replace h := wpo_bind h
  refine r_callV0 F lm10_277 mf10_goNights (vc117 hn) rfl (fr := 3) (lo := 72) (As := []) (rest := []) ⟨Nat.le_of_ble_eq_true rfl, Nat.le_of_ble_eq_true rfl⟩ rfl (Nat.le_of_ble_eq_true rfl) ⟨Nat.zero_le _, Nat.zero_le _⟩ d10_byRule_6 ?_
  refine ok10_goNights hn  (kVm h (fun a1 h => ?_))
  refine r_aload_nR F 0 rfl rfl d10_byRule_9 ?_
  replace h := wpo_bind h
  refine r_callV0 F lm10_303 mf10_bearsAll (vc117 hn) rfl (fr := 4) (lo := 87) (As := []) (rest := []) ⟨Nat.le_of_ble_eq_true rfl, Nat.le_of_ble_eq_true rfl⟩ rfl (Nat.le_of_ble_eq_true rfl) ⟨Nat.zero_le _, Nat.zero_le _⟩ d10_byRule_10 ?_
  refine ok10_bearsAll hn  (kI h (fun a2 h => ?_))
  replace h := wpo_some h
  exact r_iret F h d10_byRule_13
theorem d10_by_0 : decode c10_by 0 = .ok (.aload_n 0, 1) := by decide +kernel
theorem d10_by_1 : decode c10_by 1 = .ok (.invokevirtual 280, 3) := by decide +kernel
theorem d10_by_4 : decode c10_by 4 = .ok (.ifCond .eq 18, 3) := by decide +kernel
theorem d10_by_7 : decode c10_by 7 = .ok (.iload_n 1, 1) := by decide +kernel
theorem d10_by_8 : decode c10_by 8 = .ok (.invokestatic 360, 3) := by decide +kernel
theorem d10_by_11 : decode c10_by 11 = .ok (.ifCond .eq 11, 3) := by decide +kernel
theorem d10_by_14 : decode c10_by 14 = .ok (.aload_n 0, 1) := by decide +kernel
theorem d10_by_15 : decode c10_by 15 = .ok (.iload_n 1, 1) := by decide +kernel
theorem d10_by_16 : decode c10_by 16 = .ok (.invokevirtual 363, 3) := by decide +kernel
theorem d10_by_19 : decode c10_by 19 = .ok (.goto 5, 3) := by decide +kernel
theorem d10_by_22 : decode c10_by 22 = .ok (.bipush (-2), 2) := by decide +kernel
theorem d10_by_24 : decode c10_by 24 = .ok (.ireturn, 1) := by decide +kernel
def f10_by (D : Mem) (p0 : Int) : Option (Int × Mem) :=
  Option.bind (f10_asksParish D) fun (a1 : Int × Mem) =>
  if w32 a1.1 = 0 then
    some ((-2), a1.2)
  else
    Option.bind (f10_isRule a1.2 p0) fun (a2 : Int) =>
    if w32 a2 = 0 then
      some ((-2), a1.2)
    else
      Option.bind (f10_byRule a1.2 p0) fun (a3 : Int × Mem) =>
      some (a3.1, a3.2)
set_option maxHeartbeats 4000000 in
theorem ok10_by {l : Launch} {X : XT} {n : Nat} {D : Mem} {Q : Option Value → Nat → Rho → Mem → Prop} (hn : 147 ≤ n) {p0 : Int}  (h : wpo (f10_by D p0) (fun a => Q (some (vI a.1)) n rt a.2)) : MOK l y10_by c10_by 2 (some .int) { frames := 6, cells := 0, slots := 0, locals := 130 } 0 0 X [vR X 117, vI p0] n rt D Q := by
  refine MOK_of 10 (by decide +kernel) rfl (lv := [(0, vR X 117), (1, vI p0)]) (Nat.le_of_ble_eq_true rfl) rfl (fun K hK F hnm => ?_)
  subst hK
  unfold f10_by at h
  refine r_aload_nR F 0 rfl rfl d10_by_0 ?_
  replace h := wpo_bind h
  refine r_callV0 F lm10_280 mf10_asksParish (vc117 hn) rfl (fr := 4) (lo := 93) (As := []) (rest := []) ⟨Nat.le_of_ble_eq_true rfl, Nat.le_of_ble_eq_true rfl⟩ rfl (Nat.le_of_ble_eq_true rfl) ⟨Nat.zero_le _, Nat.zero_le _⟩ d10_by_1 ?_
  refine ok10_asksParish hn  (kIm h (fun a1 h => ?_))
  refine r_if_eq F (tgt := 22) d10_by_4 (by decide) (fun hb => ?_) (fun hb => ?_)
  · replace h := wpo_pos h hb
    refine r_bipush F (z := (-2)) (by decide) d10_by_22 ?_
    replace h := wpo_some h
    exact r_iret F h d10_by_24
  · replace h := wpo_neg h hb
    refine r_iload_n F 1 rfl rfl d10_by_7 ?_
    replace h := wpo_bind h
    refine r_callS0 F lm10_360 mf10_isRule rfl (fr := 1) (lo := 25) (As := [vI p0]) (rest := []) ⟨Nat.le_of_ble_eq_true rfl, Nat.le_of_ble_eq_true rfl⟩ rfl (Nat.le_of_ble_eq_true rfl) ⟨Nat.zero_le _, Nat.zero_le _⟩ d10_by_8 ?_
    refine ok10_isRule hn  (kI h (fun a2 h => ?_))
    refine r_if_eq F (tgt := 22) d10_by_11 (by decide) (fun hb => ?_) (fun hb => ?_)
    · replace h := wpo_pos h hb
      refine r_bipush F (z := (-2)) (by decide) d10_by_22 ?_
      replace h := wpo_some h
      exact r_iret F h d10_by_24
    · replace h := wpo_neg h hb
      refine r_aload_nR F 0 rfl rfl d10_by_14 ?_
      refine r_iload_n F 1 rfl rfl d10_by_15 ?_
      replace h := wpo_bind h
      refine r_callV0 F lm10_363 mf10_byRule (vc117 hn) rfl (fr := 5) (lo := 109) (As := [vI p0]) (rest := []) ⟨Nat.le_of_ble_eq_true rfl, Nat.le_of_ble_eq_true rfl⟩ rfl (Nat.le_of_ble_eq_true rfl) ⟨Nat.zero_le _, Nat.zero_le _⟩ d10_by_16 ?_
      refine ok10_byRule hn  (kIm h (fun a3 h => ?_))
      refine r_goto F (tgt := 24) (by decide) d10_by_19 ?_
      replace h := wpo_some h
      exact r_iret F h d10_by_24
theorem d10_rule_0 : decode c10_rule 0 = .ok (.aload_n 0, 1) := by decide +kernel
theorem d10_rule_1 : decode c10_rule 1 = .ok (.invokevirtual 280, 3) := by decide +kernel
theorem d10_rule_4 : decode c10_rule 4 = .ok (.ifCond .ne 6, 3) := by decide +kernel
theorem d10_rule_7 : decode c10_rule 7 = .ok (.bipush (-2), 2) := by decide +kernel
theorem d10_rule_9 : decode c10_rule 9 = .ok (.ireturn, 1) := by decide +kernel
theorem d10_rule_10 : decode c10_rule 10 = .ok (.iconst 0, 1) := by decide +kernel
theorem d10_rule_11 : decode c10_rule 11 = .ok (.istore_n 1, 1) := by decide +kernel
theorem d10_rule_12 : decode c10_rule 12 = .ok (.iconst 1, 1) := by decide +kernel
theorem d10_rule_13 : decode c10_rule 13 = .ok (.istore_n 2, 1) := by decide +kernel
theorem d10_rule_14 : decode c10_rule 14 = .ok (.iload_n 2, 1) := by decide +kernel
theorem d10_rule_15 : decode c10_rule 15 = .ok (.iconst 4, 1) := by decide +kernel
theorem d10_rule_16 : decode c10_rule 16 = .ok (.if_icmp .ge 28, 3) := by decide +kernel
theorem d10_rule_19 : decode c10_rule 19 = .ok (.aload_n 0, 1) := by decide +kernel
theorem d10_rule_20 : decode c10_rule 20 = .ok (.iload_n 2, 1) := by decide +kernel
theorem d10_rule_21 : decode c10_rule 21 = .ok (.invokevirtual 363, 3) := by decide +kernel
theorem d10_rule_24 : decode c10_rule 24 = .ok (.aload_n 0, 1) := by decide +kernel
theorem d10_rule_25 : decode c10_rule 25 = .ok (.iload_n 1, 1) := by decide +kernel
theorem d10_rule_26 : decode c10_rule 26 = .ok (.invokevirtual 363, 3) := by decide +kernel
theorem d10_rule_29 : decode c10_rule 29 = .ok (.if_icmp .ge 7, 3) := by decide +kernel
theorem d10_rule_32 : decode c10_rule 32 = .ok (.iload_n 2, 1) := by decide +kernel
theorem d10_rule_33 : decode c10_rule 33 = .ok (.goto 4, 3) := by decide +kernel
theorem d10_rule_36 : decode c10_rule 36 = .ok (.iload_n 1, 1) := by decide +kernel
theorem d10_rule_37 : decode c10_rule 37 = .ok (.istore_n 1, 1) := by decide +kernel
theorem d10_rule_38 : decode c10_rule 38 = .ok (.iinc 2 1, 3) := by decide +kernel
theorem d10_rule_41 : decode c10_rule 41 = .ok (.goto (-27), 3) := by decide +kernel
theorem d10_rule_44 : decode c10_rule 44 = .ok (.iload_n 1, 1) := by decide +kernel
theorem d10_rule_45 : decode c10_rule 45 = .ok (.ireturn, 1) := by decide +kernel
def f10_rule (D : Mem) : Option (Int × Mem) :=
  Option.bind (f10_asksParish D) fun (a1 : Int × Mem) =>
  if w32 a1.1 = 0 then
    some ((-2), a1.2)
  else
    Option.bind (@loop (Int × Int × Mem) (Int × Mem) (fun s1 =>
      if w32 s1.2.1 < w32 4 then
        Option.bind (f10_byRule s1.2.2 s1.2.1) fun (a2 : Int × Mem) =>
        Option.bind (f10_byRule a2.2 s1.1) fun (a3 : Int × Mem) =>
        Option.bind (
          if w32 a2.1 < w32 a3.1 then
            some s1.2.1
          else
            some s1.1
        ) fun (j1 : Int) =>
        some (Sum.inl (j1, (s1.2.1 + 1), a3.2))
      else
        some (Sum.inr (s1.1, s1.2.2))
    ) FU (0, 1, a1.2)) fun (b1 : Int × Mem) =>
    some (b1.1, b1.2)
set_option maxHeartbeats 4000000 in
theorem ok10_rule {l : Launch} {X : XT} {n : Nat} {D : Mem} {Q : Option Value → Nat → Rho → Mem → Prop} (hn : 147 ≤ n)  (h : wpo (f10_rule D) (fun a => Q (some (vI a.1)) n rt a.2)) : MOK l y10_rule c10_rule 3 (some .int) { frames := 6, cells := 0, slots := 0, locals := 130 } 0 0 X [vR X 117] n rt D Q := by
  refine MOK_of 10 (by decide +kernel) rfl (lv := [(0, vR X 117)]) (Nat.le_of_ble_eq_true rfl) rfl (fun K hK F hnm => ?_)
  subst hK
  unfold f10_rule at h
  refine r_aload_nR F 0 rfl rfl d10_rule_0 ?_
  replace h := wpo_bind h
  refine r_callV0 F lm10_280 mf10_asksParish (vc117 hn) rfl (fr := 4) (lo := 93) (As := []) (rest := []) ⟨Nat.le_of_ble_eq_true rfl, Nat.le_of_ble_eq_true rfl⟩ rfl (Nat.le_of_ble_eq_true rfl) ⟨Nat.zero_le _, Nat.zero_le _⟩ d10_rule_1 ?_
  refine ok10_asksParish hn  (kIm h (fun a1 h => ?_))
  refine r_if_ne F (tgt := 10) d10_rule_4 (by decide) (fun hb => ?_) (fun hb => ?_)
  · replace h := wpo_neg h hb
    refine r_iconst F (z := 0) d10_rule_10 ?_
    refine r_istore_n F (lv' := [(1, vI 0), (0, vR X 117)]) rfl (Nat.le_of_ble_eq_true rfl) rfl d10_rule_11 ?_
    refine r_iconst F (z := 1) d10_rule_12 ?_
    refine r_istore_n F (lv' := [(2, vI 1), (1, vI 0), (0, vR X 117)]) rfl (Nat.le_of_ble_eq_true rfl) rfl d10_rule_13 ?_
    refine r_weak [2, 1, 0] rfl ?_
    refine at_loopj (A := fun (s1 : Int × Int × Mem) => At K X (ZQ K X Q) 0 0 n rt 3 14 [(0, vR X 117), (1, vI s1.1), (2, vI s1.2.1)] [] s1.2.2) (B := fun (b1 : Int × Mem) => At K X (ZQ K X Q) 0 0 n rt 3 44 [(1, vI b1.1)] [] b1.2) h (fun b1 h => ?_) (fun s1 h => ?_)
    · refine r_iload_n F 0 rfl rfl d10_rule_44 ?_
      replace h := wpo_some h
      exact r_iret F h d10_rule_45
    · refine r_iload_n F 2 rfl rfl d10_rule_14 ?_
      refine r_iconst F (z := 4) d10_rule_15 ?_
      refine r_icmp_ge F (tgt := 44) d10_rule_16 (by decide) (fun hb => ?_) (fun hb => ?_)
      · replace h := wpo_neg h hb
        refine r_weak [1] rfl ?_
        replace h := wpo_inr h
        exact h
      · replace h := wpo_pos h hb
        refine r_aload_nR F 0 rfl rfl d10_rule_19 ?_
        refine r_iload_n F 2 rfl rfl d10_rule_20 ?_
        replace h := wpo_bind h
        refine r_callV0 F lm10_363 mf10_byRule (vc117 hn) rfl (fr := 5) (lo := 109) (As := [vI s1.2.1]) (rest := []) ⟨Nat.le_of_ble_eq_true rfl, Nat.le_of_ble_eq_true rfl⟩ rfl (Nat.le_of_ble_eq_true rfl) ⟨Nat.zero_le _, Nat.zero_le _⟩ d10_rule_21 ?_
        refine ok10_byRule hn  (kIm h (fun a2 h => ?_))
        refine r_aload_nR F 0 rfl rfl d10_rule_24 ?_
        refine r_iload_n F 1 rfl rfl d10_rule_25 ?_
        replace h := wpo_bind h
        refine r_callV0 F lm10_363 mf10_byRule (vc117 hn) rfl (fr := 5) (lo := 109) (As := [vI s1.1]) (rest := [vI a2.1]) ⟨Nat.le_of_ble_eq_true rfl, Nat.le_of_ble_eq_true rfl⟩ rfl (Nat.le_of_ble_eq_true rfl) ⟨Nat.zero_le _, Nat.zero_le _⟩ d10_rule_26 ?_
        refine ok10_byRule hn  (kIm h (fun a3 h => ?_))
        refine at_join (B := fun (j1 : Int) => At K X (ZQ K X Q) 0 0 n rt 3 37 [(0, vR X 117), (2, vI s1.2.1)] [vI j1] a3.2) h (fun j1 h => ?_) (fun h => ?_)
        · refine r_istore_n F (lv' := [(1, vI j1), (0, vR X 117), (2, vI s1.2.1)]) rfl (Nat.le_of_ble_eq_true rfl) rfl d10_rule_37 ?_
          refine r_iinc F 2 (lv' := [(2, vI (s1.2.1 + 1)), (1, vI j1), (0, vR X 117)]) rfl (Nat.le_of_ble_eq_true rfl) rfl d10_rule_38 ?_
          refine r_goto F (tgt := 14) (by decide) d10_rule_41 ?_
          refine r_weak [2, 1, 0] rfl ?_
          replace h := wpo_inl h
          exact h
        · refine r_icmp_ge F (tgt := 36) d10_rule_29 (by decide) (fun hb => ?_) (fun hb => ?_)
          · replace h := wpo_neg h hb
            refine r_iload_n F 1 rfl rfl d10_rule_36 ?_
            refine r_weak [0, 2] rfl ?_
            replace h := wpo_some h
            exact h
          · replace h := wpo_pos h hb
            refine r_iload_n F 2 rfl rfl d10_rule_32 ?_
            refine r_goto F (tgt := 37) (by decide) d10_rule_33 ?_
            refine r_weak [0, 2] rfl ?_
            replace h := wpo_some h
            exact h
  · replace h := wpo_pos h hb
    refine r_bipush F (z := (-2)) (by decide) d10_rule_7 ?_
    replace h := wpo_some h
    exact r_iret F h d10_rule_9
theorem d10_groanBy_0 : decode c10_groanBy 0 = .ok (.aload_n 0, 1) := by decide +kernel
theorem d10_groanBy_1 : decode c10_groanBy 1 = .ok (.invokevirtual 277, 3) := by decide +kernel
theorem d10_groanBy_4 : decode c10_groanBy 4 = .ok (.aload_n 0, 1) := by decide +kernel
theorem d10_groanBy_5 : decode c10_groanBy 5 = .ok (.iload_n 1, 1) := by decide +kernel
theorem d10_groanBy_6 : decode c10_groanBy 6 = .ok (.invokevirtual 271, 3) := by decide +kernel
theorem d10_groanBy_9 : decode c10_groanBy 9 = .ok (.istore_n 2, 1) := by decide +kernel
theorem d10_groanBy_10 : decode c10_groanBy 10 = .ok (.iconst (-1), 1) := by decide +kernel
theorem d10_groanBy_11 : decode c10_groanBy 11 = .ok (.istore_n 3, 1) := by decide +kernel
theorem d10_groanBy_12 : decode c10_groanBy 12 = .ok (.iconst 1, 1) := by decide +kernel
theorem d10_groanBy_13 : decode c10_groanBy 13 = .ok (.istore 4, 2) := by decide +kernel
theorem d10_groanBy_15 : decode c10_groanBy 15 = .ok (.iload 4, 2) := by decide +kernel
theorem d10_groanBy_17 : decode c10_groanBy 17 = .ok (.bipush 20, 2) := by decide +kernel
theorem d10_groanBy_19 : decode c10_groanBy 19 = .ok (.if_icmp .gt 42, 3) := by decide +kernel
theorem d10_groanBy_22 : decode c10_groanBy 22 = .ok (.iload_n 3, 1) := by decide +kernel
theorem d10_groanBy_23 : decode c10_groanBy 23 = .ok (.iconst (-1), 1) := by decide +kernel
theorem d10_groanBy_24 : decode c10_groanBy 24 = .ok (.if_icmp .ne 37, 3) := by decide +kernel
theorem d10_groanBy_27 : decode c10_groanBy 27 = .ok (.aload_n 0, 1) := by decide +kernel
theorem d10_groanBy_28 : decode c10_groanBy 28 = .ok (.getfield 40, 3) := by decide +kernel
theorem d10_groanBy_31 : decode c10_groanBy 31 = .ok (.iload_n 1, 1) := by decide +kernel
theorem d10_groanBy_32 : decode c10_groanBy 32 = .ok (.iload 4, 2) := by decide +kernel
theorem d10_groanBy_34 : decode c10_groanBy 34 = .ok (.iastore, 1) := by decide +kernel
theorem d10_groanBy_35 : decode c10_groanBy 35 = .ok (.aload_n 0, 1) := by decide +kernel
theorem d10_groanBy_36 : decode c10_groanBy 36 = .ok (.invokevirtual 277, 3) := by decide +kernel
theorem d10_groanBy_39 : decode c10_groanBy 39 = .ok (.aload_n 0, 1) := by decide +kernel
theorem d10_groanBy_40 : decode c10_groanBy 40 = .ok (.iload_n 1, 1) := by decide +kernel
theorem d10_groanBy_41 : decode c10_groanBy 41 = .ok (.invokevirtual 271, 3) := by decide +kernel
theorem d10_groanBy_44 : decode c10_groanBy 44 = .ok (.iload_n 2, 1) := by decide +kernel
theorem d10_groanBy_45 : decode c10_groanBy 45 = .ok (.if_icmp .ge 8, 3) := by decide +kernel
theorem d10_groanBy_48 : decode c10_groanBy 48 = .ok (.iload 4, 2) := by decide +kernel
theorem d10_groanBy_50 : decode c10_groanBy 50 = .ok (.goto 4, 3) := by decide +kernel
theorem d10_groanBy_53 : decode c10_groanBy 53 = .ok (.iconst (-1), 1) := by decide +kernel
theorem d10_groanBy_54 : decode c10_groanBy 54 = .ok (.istore_n 3, 1) := by decide +kernel
theorem d10_groanBy_55 : decode c10_groanBy 55 = .ok (.iinc 4 1, 3) := by decide +kernel
theorem d10_groanBy_58 : decode c10_groanBy 58 = .ok (.goto (-43), 3) := by decide +kernel
theorem d10_groanBy_61 : decode c10_groanBy 61 = .ok (.aload_n 0, 1) := by decide +kernel
theorem d10_groanBy_62 : decode c10_groanBy 62 = .ok (.getfield 40, 3) := by decide +kernel
theorem d10_groanBy_65 : decode c10_groanBy 65 = .ok (.iload_n 1, 1) := by decide +kernel
theorem d10_groanBy_66 : decode c10_groanBy 66 = .ok (.iconst 0, 1) := by decide +kernel
theorem d10_groanBy_67 : decode c10_groanBy 67 = .ok (.iastore, 1) := by decide +kernel
theorem d10_groanBy_68 : decode c10_groanBy 68 = .ok (.iload_n 3, 1) := by decide +kernel
theorem d10_groanBy_69 : decode c10_groanBy 69 = .ok (.ireturn, 1) := by decide +kernel
def f10_groanBy (D : Mem) (p0 : Int) : Option (Int × Mem) :=
  Option.bind (f10_goNights D) fun (a1 : Mem) =>
  Option.bind (f10_bearsOf a1 p0) fun (a2 : Int) =>
  Option.bind (@loop (Int × Int × Mem) (Int × Mem) (fun s1 =>
    if w32 20 < w32 s1.2.1 then
      some (Sum.inr (s1.1, s1.2.2))
    else
      if w32 s1.1 = w32 (-1) then
        if 0 ≤ p0 ∧ p0 < 8 then
          Option.bind (some (mset s1.2.2 126 p0.toNat s1.2.1)) fun (D1 : Mem) =>
          Option.bind (f10_goNights D1) fun (a3 : Mem) =>
          Option.bind (f10_bearsOf a3 p0) fun (a4 : Int) =>
          Option.bind (
            if w32 a4 < w32 a2 then
              some s1.2.1
            else
              some (-1)
          ) fun (j1 : Int) =>
          some (Sum.inl (j1, (s1.2.1 + 1), a3))
        else none
      else
        some (Sum.inr (s1.1, s1.2.2))
  ) FU ((-1), 1, a1)) fun (b1 : Int × Mem) =>
  if 0 ≤ p0 ∧ p0 < 8 then
    some (b1.1, (mset b1.2 126 p0.toNat 0))
  else none
set_option maxHeartbeats 4000000 in
theorem ok10_groanBy {l : Launch} {X : XT} {n : Nat} {D : Mem} {Q : Option Value → Nat → Rho → Mem → Prop} (hn : 147 ≤ n) {p0 : Int}  (h : wpo (f10_groanBy D p0) (fun a => Q (some (vI a.1)) n rt a.2)) : MOK l y10_groanBy c10_groanBy 5 (some .int) { frames := 4, cells := 0, slots := 0, locals := 93 } 0 0 X [vR X 117, vI p0] n rt D Q := by
  refine MOK_of 10 (by decide +kernel) rfl (lv := [(0, vR X 117), (1, vI p0)]) (Nat.le_of_ble_eq_true rfl) rfl (fun K hK F hnm => ?_)
  subst hK
  unfold f10_groanBy at h
  refine r_aload_nR F 0 rfl rfl d10_groanBy_0 ?_
  replace h := wpo_bind h
  refine r_callV0 F lm10_277 mf10_goNights (vc117 hn) rfl (fr := 3) (lo := 72) (As := []) (rest := []) ⟨Nat.le_of_ble_eq_true rfl, Nat.le_of_ble_eq_true rfl⟩ rfl (Nat.le_of_ble_eq_true rfl) ⟨Nat.zero_le _, Nat.zero_le _⟩ d10_groanBy_1 ?_
  refine ok10_goNights hn  (kVm h (fun a1 h => ?_))
  refine r_aload_nR F 0 rfl rfl d10_groanBy_4 ?_
  refine r_iload_n F 1 rfl rfl d10_groanBy_5 ?_
  replace h := wpo_bind h
  refine r_callV0 F lm10_271 mf10_bearsOf (vc117 hn) rfl (fr := 3) (lo := 66) (As := [vI p0]) (rest := []) ⟨Nat.le_of_ble_eq_true rfl, Nat.le_of_ble_eq_true rfl⟩ rfl (Nat.le_of_ble_eq_true rfl) ⟨Nat.zero_le _, Nat.zero_le _⟩ d10_groanBy_6 ?_
  refine ok10_bearsOf hn  (kI h (fun a2 h => ?_))
  refine r_istore_n F (lv' := [(2, vI a2), (0, vR X 117), (1, vI p0)]) rfl (Nat.le_of_ble_eq_true rfl) rfl d10_groanBy_9 ?_
  refine r_iconst F (z := (-1)) d10_groanBy_10 ?_
  refine r_istore_n F (lv' := [(3, vI (-1)), (2, vI a2), (0, vR X 117), (1, vI p0)]) rfl (Nat.le_of_ble_eq_true rfl) rfl d10_groanBy_11 ?_
  refine r_iconst F (z := 1) d10_groanBy_12 ?_
  refine r_istore F (lv' := [(4, vI 1), (3, vI (-1)), (2, vI a2), (0, vR X 117), (1, vI p0)]) (Nat.le_of_ble_eq_true rfl) rfl d10_groanBy_13 ?_
  refine r_weak [3, 4, 2, 1, 0] rfl ?_
  refine at_loopj (A := fun (s1 : Int × Int × Mem) => At K X (ZQ K X Q) 0 0 n rt 5 15 [(0, vR X 117), (1, vI p0), (2, vI a2), (3, vI s1.1), (4, vI s1.2.1)] [] s1.2.2) (B := fun (b1 : Int × Mem) => At K X (ZQ K X Q) 0 0 n rt 5 61 [(0, vR X 117), (1, vI p0), (3, vI b1.1)] [] b1.2) h (fun b1 h => ?_) (fun s1 h => ?_)
  · refine r_aload_nR F 0 rfl rfl d10_groanBy_61 ?_
    refine r_getR F (z := 126) lf10_40 (vc117 hn) z117_17 d10_groanBy_62 ?_
    refine r_iload_n F 1 rfl rfl d10_groanBy_65 ?_
    refine r_iconst F (z := 0) d10_groanBy_66 ?_
    obtain ⟨hx2, h⟩ := wpo_chk h
    refine r_iast F (vc126 hn) hx2 d10_groanBy_67 ?_
    refine r_iload_n F 2 rfl rfl d10_groanBy_68 ?_
    replace h := wpo_some h
    exact r_iret F h d10_groanBy_69
  · refine r_iload F 4 rfl d10_groanBy_15 ?_
    refine r_bipush F (z := 20) (by decide) d10_groanBy_17 ?_
    refine r_icmp_gt F (tgt := 61) d10_groanBy_19 (by decide) (fun hb => ?_) (fun hb => ?_)
    · replace h := wpo_pos h hb
      refine r_weak [0, 1, 3] rfl ?_
      replace h := wpo_inr h
      exact h
    · replace h := wpo_neg h hb
      refine r_iload_n F 3 rfl rfl d10_groanBy_22 ?_
      refine r_iconst F (z := (-1)) d10_groanBy_23 ?_
      refine r_icmp_ne F (tgt := 61) d10_groanBy_24 (by decide) (fun hb => ?_) (fun hb => ?_)
      · replace h := wpo_neg h hb
        refine r_weak [0, 1, 3] rfl ?_
        replace h := wpo_inr h
        exact h
      · replace h := wpo_pos h hb
        refine r_aload_nR F 0 rfl rfl d10_groanBy_27 ?_
        refine r_getR F (z := 126) lf10_40 (vc117 hn) z117_17 d10_groanBy_28 ?_
        refine r_iload_n F 1 rfl rfl d10_groanBy_31 ?_
        refine r_iload F 4 rfl d10_groanBy_32 ?_
        obtain ⟨hx1, h⟩ := wpo_chk h
        refine r_iast F (vc126 hn) hx1 d10_groanBy_34 ?_
        refine r_aload_nR F 0 rfl rfl d10_groanBy_35 ?_
        refine at_name (B := fun (D1 : Mem) => At K X (ZQ K X Q) 0 0 n rt 5 36 [(0, vR X 117), (1, vI p0), (2, vI a2), (3, vI s1.1), (4, vI s1.2.1)] [vR X 117] D1) h (fun D1 h => ?_)
        replace h := wpo_bind h
        refine r_callV0 F lm10_277 mf10_goNights (vc117 hn) rfl (fr := 3) (lo := 72) (As := []) (rest := []) ⟨Nat.le_of_ble_eq_true rfl, Nat.le_of_ble_eq_true rfl⟩ rfl (Nat.le_of_ble_eq_true rfl) ⟨Nat.zero_le _, Nat.zero_le _⟩ d10_groanBy_36 ?_
        refine ok10_goNights hn  (kVm h (fun a3 h => ?_))
        refine r_aload_nR F 0 rfl rfl d10_groanBy_39 ?_
        refine r_iload_n F 1 rfl rfl d10_groanBy_40 ?_
        replace h := wpo_bind h
        refine r_callV0 F lm10_271 mf10_bearsOf (vc117 hn) rfl (fr := 3) (lo := 66) (As := [vI p0]) (rest := []) ⟨Nat.le_of_ble_eq_true rfl, Nat.le_of_ble_eq_true rfl⟩ rfl (Nat.le_of_ble_eq_true rfl) ⟨Nat.zero_le _, Nat.zero_le _⟩ d10_groanBy_41 ?_
        refine ok10_bearsOf hn  (kI h (fun a4 h => ?_))
        refine r_iload_n F 2 rfl rfl d10_groanBy_44 ?_
        refine at_join (B := fun (j1 : Int) => At K X (ZQ K X Q) 0 0 n rt 5 54 [(0, vR X 117), (1, vI p0), (2, vI a2), (4, vI s1.2.1)] [vI j1] a3) h (fun j1 h => ?_) (fun h => ?_)
        · refine r_istore_n F (lv' := [(3, vI j1), (0, vR X 117), (1, vI p0), (2, vI a2), (4, vI s1.2.1)]) rfl (Nat.le_of_ble_eq_true rfl) rfl d10_groanBy_54 ?_
          refine r_iinc F 4 (lv' := [(4, vI (s1.2.1 + 1)), (3, vI j1), (0, vR X 117), (1, vI p0), (2, vI a2)]) rfl (Nat.le_of_ble_eq_true rfl) rfl d10_groanBy_55 ?_
          refine r_goto F (tgt := 15) (by decide) d10_groanBy_58 ?_
          refine r_weak [2, 3, 4, 1, 0] rfl ?_
          replace h := wpo_inl h
          exact h
        · refine r_icmp_ge F (tgt := 53) d10_groanBy_45 (by decide) (fun hb => ?_) (fun hb => ?_)
          · replace h := wpo_neg h hb
            refine r_iconst F (z := (-1)) d10_groanBy_53 ?_
            refine r_weak [0, 1, 2, 4] rfl ?_
            replace h := wpo_some h
            exact h
          · replace h := wpo_pos h hb
            refine r_iload F 4 rfl d10_groanBy_48 ?_
            refine r_goto F (tgt := 54) (by decide) d10_groanBy_50 ?_
            refine r_weak [0, 1, 2, 4] rfl ?_
            replace h := wpo_some h
            exact h
theorem d10_groan_0 : decode c10_groan 0 = .ok (.aload_n 0, 1) := by decide +kernel
theorem d10_groan_1 : decode c10_groan 1 = .ok (.iload_n 1, 1) := by decide +kernel
theorem d10_groan_2 : decode c10_groan 2 = .ok (.invokevirtual 291, 3) := by decide +kernel
theorem d10_groan_5 : decode c10_groan 5 = .ok (.ifCond .eq 11, 3) := by decide +kernel
theorem d10_groan_8 : decode c10_groan 8 = .ok (.aload_n 0, 1) := by decide +kernel
theorem d10_groan_9 : decode c10_groan 9 = .ok (.iload_n 1, 1) := by decide +kernel
theorem d10_groan_10 : decode c10_groan 10 = .ok (.invokevirtual 366, 3) := by decide +kernel
theorem d10_groan_13 : decode c10_groan 13 = .ok (.goto 5, 3) := by decide +kernel
theorem d10_groan_16 : decode c10_groan 16 = .ok (.bipush (-2), 2) := by decide +kernel
theorem d10_groan_18 : decode c10_groan 18 = .ok (.ireturn, 1) := by decide +kernel
def f10_groan (D : Mem) (p0 : Int) : Option (Int × Mem) :=
  Option.bind (f10_asksPerson D p0) fun (a1 : Int × Mem) =>
  if w32 a1.1 = 0 then
    some ((-2), a1.2)
  else
    Option.bind (f10_groanBy a1.2 p0) fun (a2 : Int × Mem) =>
    some (a2.1, a2.2)
set_option maxHeartbeats 4000000 in
theorem ok10_groan {l : Launch} {X : XT} {n : Nat} {D : Mem} {Q : Option Value → Nat → Rho → Mem → Prop} (hn : 147 ≤ n) {p0 : Int}  (h : wpo (f10_groan D p0) (fun a => Q (some (vI a.1)) n rt a.2)) : MOK l y10_groan c10_groan 2 (some .int) { frames := 6, cells := 0, slots := 0, locals := 134 } 0 0 X [vR X 117, vI p0] n rt D Q := by
  refine MOK_of 10 (by decide +kernel) rfl (lv := [(0, vR X 117), (1, vI p0)]) (Nat.le_of_ble_eq_true rfl) rfl (fun K hK F hnm => ?_)
  subst hK
  unfold f10_groan at h
  refine r_aload_nR F 0 rfl rfl d10_groan_0 ?_
  refine r_iload_n F 1 rfl rfl d10_groan_1 ?_
  replace h := wpo_bind h
  refine r_callV0 F lm10_291 mf10_asksPerson (vc117 hn) rfl (fr := 5) (lo := 113) (As := [vI p0]) (rest := []) ⟨Nat.le_of_ble_eq_true rfl, Nat.le_of_ble_eq_true rfl⟩ rfl (Nat.le_of_ble_eq_true rfl) ⟨Nat.zero_le _, Nat.zero_le _⟩ d10_groan_2 ?_
  refine ok10_asksPerson hn  (kIm h (fun a1 h => ?_))
  refine r_if_eq F (tgt := 16) d10_groan_5 (by decide) (fun hb => ?_) (fun hb => ?_)
  · replace h := wpo_pos h hb
    refine r_bipush F (z := (-2)) (by decide) d10_groan_16 ?_
    replace h := wpo_some h
    exact r_iret F h d10_groan_18
  · replace h := wpo_neg h hb
    refine r_aload_nR F 0 rfl rfl d10_groan_8 ?_
    refine r_iload_n F 1 rfl rfl d10_groan_9 ?_
    replace h := wpo_bind h
    refine r_callV0 F lm10_366 mf10_groanBy (vc117 hn) rfl (fr := 4) (lo := 93) (As := [vI p0]) (rest := []) ⟨Nat.le_of_ble_eq_true rfl, Nat.le_of_ble_eq_true rfl⟩ rfl (Nat.le_of_ble_eq_true rfl) ⟨Nat.zero_le _, Nat.zero_le _⟩ d10_groan_10 ?_
    refine ok10_groanBy hn  (kIm h (fun a2 h => ?_))
    refine r_goto F (tgt := 18) (by decide) d10_groan_13 ?_
    replace h := wpo_some h
    exact r_iret F h d10_groan_18
theorem d10_temptsBy_0 : decode c10_temptsBy 0 = .ok (.aload_n 0, 1) := by decide +kernel
theorem d10_temptsBy_1 : decode c10_temptsBy 1 = .ok (.iload_n 1, 1) := by decide +kernel
theorem d10_temptsBy_2 : decode c10_temptsBy 2 = .ok (.putfield 231, 3) := by decide +kernel
theorem d10_temptsBy_5 : decode c10_temptsBy 5 = .ok (.iconst 0, 1) := by decide +kernel
theorem d10_temptsBy_6 : decode c10_temptsBy 6 = .ok (.istore_n 2, 1) := by decide +kernel
theorem d10_temptsBy_7 : decode c10_temptsBy 7 = .ok (.iconst 0, 1) := by decide +kernel
theorem d10_temptsBy_8 : decode c10_temptsBy 8 = .ok (.istore_n 3, 1) := by decide +kernel
theorem d10_temptsBy_9 : decode c10_temptsBy 9 = .ok (.iload_n 3, 1) := by decide +kernel
theorem d10_temptsBy_10 : decode c10_temptsBy 10 = .ok (.aload_n 0, 1) := by decide +kernel
theorem d10_temptsBy_11 : decode c10_temptsBy 11 = .ok (.getfield 9, 3) := by decide +kernel
theorem d10_temptsBy_14 : decode c10_temptsBy 14 = .ok (.bipush 7, 2) := by decide +kernel
theorem d10_temptsBy_16 : decode c10_temptsBy 16 = .ok (.iaload, 1) := by decide +kernel
theorem d10_temptsBy_17 : decode c10_temptsBy 17 = .ok (.if_icmp .ge 28, 3) := by decide +kernel
theorem d10_temptsBy_20 : decode c10_temptsBy 20 = .ok (.iload_n 2, 1) := by decide +kernel
theorem d10_temptsBy_21 : decode c10_temptsBy 21 = .ok (.aload_n 0, 1) := by decide +kernel
theorem d10_temptsBy_22 : decode c10_temptsBy 22 = .ok (.iload_n 3, 1) := by decide +kernel
theorem d10_temptsBy_23 : decode c10_temptsBy 23 = .ok (.invokevirtual 366, 3) := by decide +kernel
theorem d10_temptsBy_26 : decode c10_temptsBy 26 = .ok (.iconst (-1), 1) := by decide +kernel
theorem d10_temptsBy_27 : decode c10_temptsBy 27 = .ok (.if_icmp .eq 9, 3) := by decide +kernel
theorem d10_temptsBy_30 : decode c10_temptsBy 30 = .ok (.iconst 1, 1) := by decide +kernel
theorem d10_temptsBy_31 : decode c10_temptsBy 31 = .ok (.iload_n 3, 1) := by decide +kernel
theorem d10_temptsBy_32 : decode c10_temptsBy 32 = .ok (.ishl, 1) := by decide +kernel
theorem d10_temptsBy_33 : decode c10_temptsBy 33 = .ok (.goto 4, 3) := by decide +kernel
theorem d10_temptsBy_36 : decode c10_temptsBy 36 = .ok (.iconst 0, 1) := by decide +kernel
theorem d10_temptsBy_37 : decode c10_temptsBy 37 = .ok (.ior, 1) := by decide +kernel
theorem d10_temptsBy_38 : decode c10_temptsBy 38 = .ok (.istore_n 2, 1) := by decide +kernel
theorem d10_temptsBy_39 : decode c10_temptsBy 39 = .ok (.iinc 3 1, 3) := by decide +kernel
theorem d10_temptsBy_42 : decode c10_temptsBy 42 = .ok (.goto (-33), 3) := by decide +kernel
theorem d10_temptsBy_45 : decode c10_temptsBy 45 = .ok (.iload_n 2, 1) := by decide +kernel
theorem d10_temptsBy_46 : decode c10_temptsBy 46 = .ok (.ireturn, 1) := by decide +kernel
def f10_temptsBy (D : Mem) (p0 : Int) : Option (Int × Mem) :=
  Option.bind (some (mset D 117 20 p0)) fun (D1 : Mem) =>
  Option.bind (@loop (Int × Int × Mem) (Int × Mem) (fun s1 =>
    if w32 s1.2.1 < w32 (s1.2.2 118 7) then
      Option.bind (f10_groanBy s1.2.2 s1.2.1) fun (a1 : Int × Mem) =>
      Option.bind (
        if w32 a1.1 = w32 (-1) then
          some 0
        else
          some (shl32 1 s1.2.1)
      ) fun (j1 : Int) =>
      some (Sum.inl ((or32 s1.1 j1), (s1.2.1 + 1), a1.2))
    else
      some (Sum.inr (s1.1, s1.2.2))
  ) FU (0, 0, D1)) fun (b1 : Int × Mem) =>
  some (b1.1, b1.2)
set_option maxHeartbeats 4000000 in
theorem ok10_temptsBy {l : Launch} {X : XT} {n : Nat} {D : Mem} {Q : Option Value → Nat → Rho → Mem → Prop} (hn : 147 ≤ n) {p0 : Int}  (h : wpo (f10_temptsBy D p0) (fun a => Q (some (vI a.1)) n rt a.2)) : MOK l y10_temptsBy c10_temptsBy 4 (some .int) { frames := 5, cells := 0, slots := 0, locals := 117 } 0 0 X [vR X 117, vI p0] n rt D Q := by
  refine MOK_of 10 (by decide +kernel) rfl (lv := [(0, vR X 117), (1, vI p0)]) (Nat.le_of_ble_eq_true rfl) rfl (fun K hK F hnm => ?_)
  subst hK
  unfold f10_temptsBy at h
  refine r_aload_nR F 0 rfl rfl d10_temptsBy_0 ?_
  refine r_iload_n F 1 rfl rfl d10_temptsBy_1 ?_
  refine r_putI F lf10_231 rfl rfl (vc117 hn) d10_temptsBy_2 ?_
  refine r_iconst F (z := 0) d10_temptsBy_5 ?_
  refine r_istore_n F (lv' := [(2, vI 0), (0, vR X 117), (1, vI p0)]) rfl (Nat.le_of_ble_eq_true rfl) rfl d10_temptsBy_6 ?_
  refine r_iconst F (z := 0) d10_temptsBy_7 ?_
  refine r_istore_n F (lv' := [(3, vI 0), (2, vI 0), (0, vR X 117), (1, vI p0)]) rfl (Nat.le_of_ble_eq_true rfl) rfl d10_temptsBy_8 ?_
  refine at_name (B := fun (D1 : Mem) => At K X (ZQ K X Q) 0 0 n rt 4 9 [(3, vI 0), (2, vI 0), (0, vR X 117), (1, vI p0)] [] D1) h (fun D1 h => ?_)
  refine r_weak [2, 1, 0] rfl ?_
  refine at_loopj (A := fun (s1 : Int × Int × Mem) => At K X (ZQ K X Q) 0 0 n rt 4 9 [(0, vR X 117), (2, vI s1.1), (3, vI s1.2.1)] [] s1.2.2) (B := fun (b1 : Int × Mem) => At K X (ZQ K X Q) 0 0 n rt 4 45 [(2, vI b1.1)] [] b1.2) h (fun b1 h => ?_) (fun s1 h => ?_)
  · refine r_iload_n F 0 rfl rfl d10_temptsBy_45 ?_
    replace h := wpo_some h
    exact r_iret F h d10_temptsBy_46
  · refine r_iload_n F 2 rfl rfl d10_temptsBy_9 ?_
    refine r_aload_nR F 0 rfl rfl d10_temptsBy_10 ?_
    refine r_getR F (z := 118) lf10_9 (vc117 hn) z117_1 d10_temptsBy_11 ?_
    refine r_bipush F (z := 7) (by decide) d10_temptsBy_14 ?_
    refine r_ialdC F (j := 7) (vc118 hn) (by decide) rfl d10_temptsBy_16 ?_
    refine r_icmp_ge F (tgt := 45) d10_temptsBy_17 (by decide) (fun hb => ?_) (fun hb => ?_)
    · replace h := wpo_neg h hb
      refine r_weak [1] rfl ?_
      replace h := wpo_inr h
      exact h
    · replace h := wpo_pos h hb
      refine r_iload_n F 1 rfl rfl d10_temptsBy_20 ?_
      refine r_aload_nR F 0 rfl rfl d10_temptsBy_21 ?_
      refine r_iload_n F 2 rfl rfl d10_temptsBy_22 ?_
      replace h := wpo_bind h
      refine r_callV0 F lm10_366 mf10_groanBy (vc117 hn) rfl (fr := 4) (lo := 93) (As := [vI s1.2.1]) (rest := [vI s1.1]) ⟨Nat.le_of_ble_eq_true rfl, Nat.le_of_ble_eq_true rfl⟩ rfl (Nat.le_of_ble_eq_true rfl) ⟨Nat.zero_le _, Nat.zero_le _⟩ d10_temptsBy_23 ?_
      refine ok10_groanBy hn  (kIm h (fun a1 h => ?_))
      refine r_iconst F (z := (-1)) d10_temptsBy_26 ?_
      refine at_join (B := fun (j1 : Int) => At K X (ZQ K X Q) 0 0 n rt 4 37 [(0, vR X 117), (3, vI s1.2.1)] [vI j1, vI s1.1] a1.2) h (fun j1 h => ?_) (fun h => ?_)
      · refine r_ior F d10_temptsBy_37 ?_
        refine r_istore_n F (lv' := [(2, vI (or32 s1.1 j1)), (0, vR X 117), (3, vI s1.2.1)]) rfl (Nat.le_of_ble_eq_true rfl) rfl d10_temptsBy_38 ?_
        refine r_iinc F 2 (lv' := [(3, vI (s1.2.1 + 1)), (2, vI (or32 s1.1 j1)), (0, vR X 117)]) rfl (Nat.le_of_ble_eq_true rfl) rfl d10_temptsBy_39 ?_
        refine r_goto F (tgt := 9) (by decide) d10_temptsBy_42 ?_
        refine r_weak [2, 1, 0] rfl ?_
        replace h := wpo_inl h
        exact h
      · refine r_icmp_eq F (tgt := 36) d10_temptsBy_27 (by decide) (fun hb => ?_) (fun hb => ?_)
        · replace h := wpo_pos h hb
          refine r_iconst F (z := 0) d10_temptsBy_36 ?_
          refine r_weak [0, 2] rfl ?_
          replace h := wpo_some h
          exact h
        · replace h := wpo_neg h hb
          refine r_iconst F (z := 1) d10_temptsBy_30 ?_
          refine r_iload_n F 2 rfl rfl d10_temptsBy_31 ?_
          refine r_ishl F d10_temptsBy_32 ?_
          refine r_goto F (tgt := 37) (by decide) d10_temptsBy_33 ?_
          refine r_weak [0, 2] rfl ?_
          replace h := wpo_some h
          exact h
theorem d10_tempts_0 : decode c10_tempts 0 = .ok (.aload_n 0, 1) := by decide +kernel
theorem d10_tempts_1 : decode c10_tempts 1 = .ok (.invokevirtual 280, 3) := by decide +kernel
theorem d10_tempts_4 : decode c10_tempts 4 = .ok (.ifCond .eq 18, 3) := by decide +kernel
theorem d10_tempts_7 : decode c10_tempts 7 = .ok (.iload_n 1, 1) := by decide +kernel
theorem d10_tempts_8 : decode c10_tempts 8 = .ok (.invokestatic 360, 3) := by decide +kernel
theorem d10_tempts_11 : decode c10_tempts 11 = .ok (.ifCond .eq 11, 3) := by decide +kernel
theorem d10_tempts_14 : decode c10_tempts 14 = .ok (.aload_n 0, 1) := by decide +kernel
theorem d10_tempts_15 : decode c10_tempts 15 = .ok (.iload_n 1, 1) := by decide +kernel
theorem d10_tempts_16 : decode c10_tempts 16 = .ok (.invokevirtual 369, 3) := by decide +kernel
theorem d10_tempts_19 : decode c10_tempts 19 = .ok (.goto 5, 3) := by decide +kernel
theorem d10_tempts_22 : decode c10_tempts 22 = .ok (.bipush (-2), 2) := by decide +kernel
theorem d10_tempts_24 : decode c10_tempts 24 = .ok (.ireturn, 1) := by decide +kernel
def f10_tempts (D : Mem) (p0 : Int) : Option (Int × Mem) :=
  Option.bind (f10_asksParish D) fun (a1 : Int × Mem) =>
  if w32 a1.1 = 0 then
    some ((-2), a1.2)
  else
    Option.bind (f10_isRule a1.2 p0) fun (a2 : Int) =>
    if w32 a2 = 0 then
      some ((-2), a1.2)
    else
      Option.bind (f10_temptsBy a1.2 p0) fun (a3 : Int × Mem) =>
      some (a3.1, a3.2)
set_option maxHeartbeats 4000000 in
theorem ok10_tempts {l : Launch} {X : XT} {n : Nat} {D : Mem} {Q : Option Value → Nat → Rho → Mem → Prop} (hn : 147 ≤ n) {p0 : Int}  (h : wpo (f10_tempts D p0) (fun a => Q (some (vI a.1)) n rt a.2)) : MOK l y10_tempts c10_tempts 2 (some .int) { frames := 6, cells := 0, slots := 0, locals := 140 } 0 0 X [vR X 117, vI p0] n rt D Q := by
  refine MOK_of 10 (by decide +kernel) rfl (lv := [(0, vR X 117), (1, vI p0)]) (Nat.le_of_ble_eq_true rfl) rfl (fun K hK F hnm => ?_)
  subst hK
  unfold f10_tempts at h
  refine r_aload_nR F 0 rfl rfl d10_tempts_0 ?_
  replace h := wpo_bind h
  refine r_callV0 F lm10_280 mf10_asksParish (vc117 hn) rfl (fr := 4) (lo := 93) (As := []) (rest := []) ⟨Nat.le_of_ble_eq_true rfl, Nat.le_of_ble_eq_true rfl⟩ rfl (Nat.le_of_ble_eq_true rfl) ⟨Nat.zero_le _, Nat.zero_le _⟩ d10_tempts_1 ?_
  refine ok10_asksParish hn  (kIm h (fun a1 h => ?_))
  refine r_if_eq F (tgt := 22) d10_tempts_4 (by decide) (fun hb => ?_) (fun hb => ?_)
  · replace h := wpo_pos h hb
    refine r_bipush F (z := (-2)) (by decide) d10_tempts_22 ?_
    replace h := wpo_some h
    exact r_iret F h d10_tempts_24
  · replace h := wpo_neg h hb
    refine r_iload_n F 1 rfl rfl d10_tempts_7 ?_
    replace h := wpo_bind h
    refine r_callS0 F lm10_360 mf10_isRule rfl (fr := 1) (lo := 25) (As := [vI p0]) (rest := []) ⟨Nat.le_of_ble_eq_true rfl, Nat.le_of_ble_eq_true rfl⟩ rfl (Nat.le_of_ble_eq_true rfl) ⟨Nat.zero_le _, Nat.zero_le _⟩ d10_tempts_8 ?_
    refine ok10_isRule hn  (kI h (fun a2 h => ?_))
    refine r_if_eq F (tgt := 22) d10_tempts_11 (by decide) (fun hb => ?_) (fun hb => ?_)
    · replace h := wpo_pos h hb
      refine r_bipush F (z := (-2)) (by decide) d10_tempts_22 ?_
      replace h := wpo_some h
      exact r_iret F h d10_tempts_24
    · replace h := wpo_neg h hb
      refine r_aload_nR F 0 rfl rfl d10_tempts_14 ?_
      refine r_iload_n F 1 rfl rfl d10_tempts_15 ?_
      replace h := wpo_bind h
      refine r_callV0 F lm10_369 mf10_temptsBy (vc117 hn) rfl (fr := 5) (lo := 117) (As := [vI p0]) (rest := []) ⟨Nat.le_of_ble_eq_true rfl, Nat.le_of_ble_eq_true rfl⟩ rfl (Nat.le_of_ble_eq_true rfl) ⟨Nat.zero_le _, Nat.zero_le _⟩ d10_tempts_16 ?_
      refine ok10_temptsBy hn  (kIm h (fun a3 h => ?_))
      refine r_goto F (tgt := 24) (by decide) d10_tempts_19 ?_
      replace h := wpo_some h
      exact r_iret F h d10_tempts_24
theorem d10_proof_0 : decode c10_proof 0 = .ok (.aload_n 0, 1) := by decide +kernel
theorem d10_proof_1 : decode c10_proof 1 = .ok (.invokevirtual 280, 3) := by decide +kernel
theorem d10_proof_4 : decode c10_proof 4 = .ok (.ifCond .ne 6, 3) := by decide +kernel
theorem d10_proof_7 : decode c10_proof 7 = .ok (.bipush (-2), 2) := by decide +kernel
theorem d10_proof_9 : decode c10_proof 9 = .ok (.ireturn, 1) := by decide +kernel
theorem d10_proof_10 : decode c10_proof 10 = .ok (.iconst 0, 1) := by decide +kernel
theorem d10_proof_11 : decode c10_proof 11 = .ok (.istore_n 1, 1) := by decide +kernel
theorem d10_proof_12 : decode c10_proof 12 = .ok (.iconst 0, 1) := by decide +kernel
theorem d10_proof_13 : decode c10_proof 13 = .ok (.istore_n 2, 1) := by decide +kernel
theorem d10_proof_14 : decode c10_proof 14 = .ok (.iload_n 2, 1) := by decide +kernel
theorem d10_proof_15 : decode c10_proof 15 = .ok (.iconst 4, 1) := by decide +kernel
theorem d10_proof_16 : decode c10_proof 16 = .ok (.if_icmp .ge 27, 3) := by decide +kernel
theorem d10_proof_19 : decode c10_proof 19 = .ok (.iload_n 1, 1) := by decide +kernel
theorem d10_proof_20 : decode c10_proof 20 = .ok (.aload_n 0, 1) := by decide +kernel
theorem d10_proof_21 : decode c10_proof 21 = .ok (.iload_n 2, 1) := by decide +kernel
theorem d10_proof_22 : decode c10_proof 22 = .ok (.invokevirtual 369, 3) := by decide +kernel
theorem d10_proof_25 : decode c10_proof 25 = .ok (.ifCond .ne 9, 3) := by decide +kernel
theorem d10_proof_28 : decode c10_proof 28 = .ok (.iconst 1, 1) := by decide +kernel
theorem d10_proof_29 : decode c10_proof 29 = .ok (.iload_n 2, 1) := by decide +kernel
theorem d10_proof_30 : decode c10_proof 30 = .ok (.ishl, 1) := by decide +kernel
theorem d10_proof_31 : decode c10_proof 31 = .ok (.goto 4, 3) := by decide +kernel
theorem d10_proof_34 : decode c10_proof 34 = .ok (.iconst 0, 1) := by decide +kernel
theorem d10_proof_35 : decode c10_proof 35 = .ok (.ior, 1) := by decide +kernel
theorem d10_proof_36 : decode c10_proof 36 = .ok (.istore_n 1, 1) := by decide +kernel
theorem d10_proof_37 : decode c10_proof 37 = .ok (.iinc 2 1, 3) := by decide +kernel
theorem d10_proof_40 : decode c10_proof 40 = .ok (.goto (-26), 3) := by decide +kernel
theorem d10_proof_43 : decode c10_proof 43 = .ok (.iload_n 1, 1) := by decide +kernel
theorem d10_proof_44 : decode c10_proof 44 = .ok (.ireturn, 1) := by decide +kernel
def f10_proof (D : Mem) : Option (Int × Mem) :=
  Option.bind (f10_asksParish D) fun (a1 : Int × Mem) =>
  if w32 a1.1 = 0 then
    some ((-2), a1.2)
  else
    Option.bind (@loop (Int × Int × Mem) (Int × Mem) (fun s1 =>
      if w32 s1.2.1 < w32 4 then
        Option.bind (f10_temptsBy s1.2.2 s1.2.1) fun (a2 : Int × Mem) =>
        Option.bind (
          if w32 a2.1 = 0 then
            some (shl32 1 s1.2.1)
          else
            some 0
        ) fun (j1 : Int) =>
        some (Sum.inl ((or32 s1.1 j1), (s1.2.1 + 1), a2.2))
      else
        some (Sum.inr (s1.1, s1.2.2))
    ) FU (0, 0, a1.2)) fun (b1 : Int × Mem) =>
    some (b1.1, b1.2)
set_option maxHeartbeats 4000000 in
theorem ok10_proof {l : Launch} {X : XT} {n : Nat} {D : Mem} {Q : Option Value → Nat → Rho → Mem → Prop} (hn : 147 ≤ n)  (h : wpo (f10_proof D) (fun a => Q (some (vI a.1)) n rt a.2)) : MOK l y10_proof c10_proof 3 (some .int) { frames := 6, cells := 0, slots := 0, locals := 140 } 0 0 X [vR X 117] n rt D Q := by
  refine MOK_of 10 (by decide +kernel) rfl (lv := [(0, vR X 117)]) (Nat.le_of_ble_eq_true rfl) rfl (fun K hK F hnm => ?_)
  subst hK
  unfold f10_proof at h
  refine r_aload_nR F 0 rfl rfl d10_proof_0 ?_
  replace h := wpo_bind h
  refine r_callV0 F lm10_280 mf10_asksParish (vc117 hn) rfl (fr := 4) (lo := 93) (As := []) (rest := []) ⟨Nat.le_of_ble_eq_true rfl, Nat.le_of_ble_eq_true rfl⟩ rfl (Nat.le_of_ble_eq_true rfl) ⟨Nat.zero_le _, Nat.zero_le _⟩ d10_proof_1 ?_
  refine ok10_asksParish hn  (kIm h (fun a1 h => ?_))
  refine r_if_ne F (tgt := 10) d10_proof_4 (by decide) (fun hb => ?_) (fun hb => ?_)
  · replace h := wpo_neg h hb
    refine r_iconst F (z := 0) d10_proof_10 ?_
    refine r_istore_n F (lv' := [(1, vI 0), (0, vR X 117)]) rfl (Nat.le_of_ble_eq_true rfl) rfl d10_proof_11 ?_
    refine r_iconst F (z := 0) d10_proof_12 ?_
    refine r_istore_n F (lv' := [(2, vI 0), (1, vI 0), (0, vR X 117)]) rfl (Nat.le_of_ble_eq_true rfl) rfl d10_proof_13 ?_
    refine r_weak [2, 1, 0] rfl ?_
    refine at_loopj (A := fun (s1 : Int × Int × Mem) => At K X (ZQ K X Q) 0 0 n rt 3 14 [(0, vR X 117), (1, vI s1.1), (2, vI s1.2.1)] [] s1.2.2) (B := fun (b1 : Int × Mem) => At K X (ZQ K X Q) 0 0 n rt 3 43 [(1, vI b1.1)] [] b1.2) h (fun b1 h => ?_) (fun s1 h => ?_)
    · refine r_iload_n F 0 rfl rfl d10_proof_43 ?_
      replace h := wpo_some h
      exact r_iret F h d10_proof_44
    · refine r_iload_n F 2 rfl rfl d10_proof_14 ?_
      refine r_iconst F (z := 4) d10_proof_15 ?_
      refine r_icmp_ge F (tgt := 43) d10_proof_16 (by decide) (fun hb => ?_) (fun hb => ?_)
      · replace h := wpo_neg h hb
        refine r_weak [1] rfl ?_
        replace h := wpo_inr h
        exact h
      · replace h := wpo_pos h hb
        refine r_iload_n F 1 rfl rfl d10_proof_19 ?_
        refine r_aload_nR F 0 rfl rfl d10_proof_20 ?_
        refine r_iload_n F 2 rfl rfl d10_proof_21 ?_
        replace h := wpo_bind h
        refine r_callV0 F lm10_369 mf10_temptsBy (vc117 hn) rfl (fr := 5) (lo := 117) (As := [vI s1.2.1]) (rest := [vI s1.1]) ⟨Nat.le_of_ble_eq_true rfl, Nat.le_of_ble_eq_true rfl⟩ rfl (Nat.le_of_ble_eq_true rfl) ⟨Nat.zero_le _, Nat.zero_le _⟩ d10_proof_22 ?_
        refine ok10_temptsBy hn  (kIm h (fun a2 h => ?_))
        refine at_join (B := fun (j1 : Int) => At K X (ZQ K X Q) 0 0 n rt 3 35 [(0, vR X 117), (2, vI s1.2.1)] [vI j1, vI s1.1] a2.2) h (fun j1 h => ?_) (fun h => ?_)
        · refine r_ior F d10_proof_35 ?_
          refine r_istore_n F (lv' := [(1, vI (or32 s1.1 j1)), (0, vR X 117), (2, vI s1.2.1)]) rfl (Nat.le_of_ble_eq_true rfl) rfl d10_proof_36 ?_
          refine r_iinc F 2 (lv' := [(2, vI (s1.2.1 + 1)), (1, vI (or32 s1.1 j1)), (0, vR X 117)]) rfl (Nat.le_of_ble_eq_true rfl) rfl d10_proof_37 ?_
          refine r_goto F (tgt := 14) (by decide) d10_proof_40 ?_
          refine r_weak [2, 1, 0] rfl ?_
          replace h := wpo_inl h
          exact h
        · refine r_if_ne F (tgt := 34) d10_proof_25 (by decide) (fun hb => ?_) (fun hb => ?_)
          · replace h := wpo_neg h hb
            refine r_iconst F (z := 0) d10_proof_34 ?_
            refine r_weak [0, 2] rfl ?_
            replace h := wpo_some h
            exact h
          · replace h := wpo_pos h hb
            refine r_iconst F (z := 1) d10_proof_28 ?_
            refine r_iload_n F 2 rfl rfl d10_proof_29 ?_
            refine r_ishl F d10_proof_30 ?_
            refine r_goto F (tgt := 35) (by decide) d10_proof_31 ?_
            refine r_weak [0, 2] rfl ?_
            replace h := wpo_some h
            exact h
  · replace h := wpo_pos h hb
    refine r_bipush F (z := (-2)) (by decide) d10_proof_7 ?_
    replace h := wpo_some h
    exact r_iret F h d10_proof_9
theorem d10_canBear_0 : decode c10_canBear 0 = .ok (.iload_n 1, 1) := by decide +kernel
theorem d10_canBear_1 : decode c10_canBear 1 = .ok (.iload_n 2, 1) := by decide +kernel
theorem d10_canBear_2 : decode c10_canBear 2 = .ok (.if_icmp .eq 24, 3) := by decide +kernel
theorem d10_canBear_5 : decode c10_canBear 5 = .ok (.aload_n 0, 1) := by decide +kernel
theorem d10_canBear_6 : decode c10_canBear 6 = .ok (.getfield 34, 3) := by decide +kernel
theorem d10_canBear_9 : decode c10_canBear 9 = .ok (.iload_n 2, 1) := by decide +kernel
theorem d10_canBear_10 : decode c10_canBear 10 = .ok (.iaload, 1) := by decide +kernel
theorem d10_canBear_11 : decode c10_canBear 11 = .ok (.aload_n 0, 1) := by decide +kernel
theorem d10_canBear_12 : decode c10_canBear 12 = .ok (.iload_n 1, 1) := by decide +kernel
theorem d10_canBear_13 : decode c10_canBear 13 = .ok (.iconst 3, 1) := by decide +kernel
theorem d10_canBear_14 : decode c10_canBear 14 = .ok (.invokevirtual 225, 3) := by decide +kernel
theorem d10_canBear_17 : decode c10_canBear 17 = .ok (.iload_n 3, 1) := by decide +kernel
theorem d10_canBear_18 : decode c10_canBear 18 = .ok (.iadd, 1) := by decide +kernel
theorem d10_canBear_19 : decode c10_canBear 19 = .ok (.if_icmp .gt 7, 3) := by decide +kernel
theorem d10_canBear_22 : decode c10_canBear 22 = .ok (.iconst 1, 1) := by decide +kernel
theorem d10_canBear_23 : decode c10_canBear 23 = .ok (.goto 4, 3) := by decide +kernel
theorem d10_canBear_26 : decode c10_canBear 26 = .ok (.iconst 0, 1) := by decide +kernel
theorem d10_canBear_27 : decode c10_canBear 27 = .ok (.ireturn, 1) := by decide +kernel
def f10_canBear (D : Mem) (p0 : Int) (p1 : Int) (p2 : Int) : Option (Int) :=
  if w32 p0 = w32 p1 then
    some 0
  else
    if 0 ≤ p1 ∧ p1 < 8 then
      Option.bind (f10_of D p0 3) fun (a1 : Int) =>
      if w32 (a1 + p2) < w32 (D 124 p1.toNat) then
        some 0
      else
        some 1
    else none
set_option maxHeartbeats 4000000 in
theorem ok10_canBear {l : Launch} {X : XT} {n : Nat} {D : Mem} {Q : Option Value → Nat → Rho → Mem → Prop} (hn : 147 ≤ n) {p0 : Int} {p1 : Int} {p2 : Int}  (h : wpo (f10_canBear D p0 p1 p2) (fun a => Q (some (vI a)) n rt D)) : MOK l y10_canBear c10_canBear 4 (some .boolean) { frames := 1, cells := 0, slots := 0, locals := 22 } 0 0 X [vR X 117, vI p0, vI p1, vI p2] n rt D Q := by
  refine MOK_of 10 (by decide +kernel) rfl (lv := [(0, vR X 117), (1, vI p0), (2, vI p1), (3, vI p2)]) (Nat.le_of_ble_eq_true rfl) rfl (fun K hK F hnm => ?_)
  subst hK
  unfold f10_canBear at h
  refine r_iload_n F 1 rfl rfl d10_canBear_0 ?_
  refine r_iload_n F 2 rfl rfl d10_canBear_1 ?_
  refine r_icmp_eq F (tgt := 26) d10_canBear_2 (by decide) (fun hb => ?_) (fun hb => ?_)
  · replace h := wpo_pos h hb
    refine r_iconst F (z := 0) d10_canBear_26 ?_
    replace h := wpo_some h
    exact r_zret F (Or.inl rfl) h d10_canBear_27
  · replace h := wpo_neg h hb
    refine r_aload_nR F 0 rfl rfl d10_canBear_5 ?_
    refine r_getR F (z := 124) lf10_34 (vc117 hn) z117_15 d10_canBear_6 ?_
    refine r_iload_n F 2 rfl rfl d10_canBear_9 ?_
    obtain ⟨hx1, h⟩ := wpo_chk h
    refine r_iald F (vc124 hn) hx1 d10_canBear_10 ?_
    refine r_aload_nR F 0 rfl rfl d10_canBear_11 ?_
    refine r_iload_n F 1 rfl rfl d10_canBear_12 ?_
    refine r_iconst F (z := 3) d10_canBear_13 ?_
    replace h := wpo_bind h
    refine r_callV0 F lm10_225 mf10_of (vc117 hn) rfl (fr := 0) (lo := 0) (As := [vI p0, vI 3]) (rest := [vI (D 124 p1.toNat)]) ⟨Nat.le_of_ble_eq_true rfl, Nat.le_of_ble_eq_true rfl⟩ rfl (Nat.le_of_ble_eq_true rfl) ⟨Nat.zero_le _, Nat.zero_le _⟩ d10_canBear_14 ?_
    refine ok10_of hn  (kI h (fun a1 h => ?_))
    refine r_iload_n F 3 rfl rfl d10_canBear_17 ?_
    refine r_iadd F d10_canBear_18 ?_
    refine r_icmp_gt F (tgt := 26) d10_canBear_19 (by decide) (fun hb => ?_) (fun hb => ?_)
    · replace h := wpo_pos h hb
      refine r_iconst F (z := 0) d10_canBear_26 ?_
      replace h := wpo_some h
      exact r_zret F (Or.inl rfl) h d10_canBear_27
    · replace h := wpo_neg h hb
      refine r_iconst F (z := 1) d10_canBear_22 ?_
      refine r_goto F (tgt := 27) (by decide) d10_canBear_23 ?_
      replace h := wpo_some h
      exact r_zret F (Or.inr rfl) h d10_canBear_27
theorem d10_layPairs_0 : decode c10_layPairs 0 = .ok (.aload_n 0, 1) := by decide +kernel
theorem d10_layPairs_1 : decode c10_layPairs 1 = .ok (.getfield 9, 3) := by decide +kernel
theorem d10_layPairs_4 : decode c10_layPairs 4 = .ok (.bipush 7, 2) := by decide +kernel
theorem d10_layPairs_6 : decode c10_layPairs 6 = .ok (.iaload, 1) := by decide +kernel
theorem d10_layPairs_7 : decode c10_layPairs 7 = .ok (.istore_n 3, 1) := by decide +kernel
theorem d10_layPairs_8 : decode c10_layPairs 8 = .ok (.iload_n 3, 1) := by decide +kernel
theorem d10_layPairs_9 : decode c10_layPairs 9 = .ok (.istore 4, 2) := by decide +kernel
theorem d10_layPairs_11 : decode c10_layPairs 11 = .ok (.iload 4, 2) := by decide +kernel
theorem d10_layPairs_13 : decode c10_layPairs 13 = .ok (.ifCond .lt 155, 3) := by decide +kernel
theorem d10_layPairs_16 : decode c10_layPairs 16 = .ok (.iconst 0, 1) := by decide +kernel
theorem d10_layPairs_17 : decode c10_layPairs 17 = .ok (.istore 5, 2) := by decide +kernel
theorem d10_layPairs_19 : decode c10_layPairs 19 = .ok (.iload 5, 2) := by decide +kernel
theorem d10_layPairs_21 : decode c10_layPairs 21 = .ok (.aload_n 0, 1) := by decide +kernel
theorem d10_layPairs_22 : decode c10_layPairs 22 = .ok (.invokevirtual 320, 3) := by decide +kernel
theorem d10_layPairs_25 : decode c10_layPairs 25 = .ok (.if_icmp .gt 137, 3) := by decide +kernel
theorem d10_layPairs_28 : decode c10_layPairs 28 = .ok (.iload 4, 2) := by decide +kernel
theorem d10_layPairs_30 : decode c10_layPairs 30 = .ok (.iload_n 3, 1) := by decide +kernel
theorem d10_layPairs_31 : decode c10_layPairs 31 = .ok (.if_icmp .ne 7, 3) := by decide +kernel
theorem d10_layPairs_34 : decode c10_layPairs 34 = .ok (.iconst 0, 1) := by decide +kernel
theorem d10_layPairs_35 : decode c10_layPairs 35 = .ok (.goto 17, 3) := by decide +kernel
theorem d10_layPairs_38 : decode c10_layPairs 38 = .ok (.aload_n 0, 1) := by decide +kernel
theorem d10_layPairs_39 : decode c10_layPairs 39 = .ok (.getfield 77, 3) := by decide +kernel
theorem d10_layPairs_42 : decode c10_layPairs 42 = .ok (.iload 4, 2) := by decide +kernel
theorem d10_layPairs_44 : decode c10_layPairs 44 = .ok (.iconst 1, 1) := by decide +kernel
theorem d10_layPairs_45 : decode c10_layPairs 45 = .ok (.iadd, 1) := by decide +kernel
theorem d10_layPairs_46 : decode c10_layPairs 46 = .ok (.iload 5, 2) := by decide +kernel
theorem d10_layPairs_48 : decode c10_layPairs 48 = .ok (.invokestatic 340, 3) := by decide +kernel
theorem d10_layPairs_51 : decode c10_layPairs 51 = .ok (.iaload, 1) := by decide +kernel
theorem d10_layPairs_52 : decode c10_layPairs 52 = .ok (.istore 6, 2) := by decide +kernel
theorem d10_layPairs_54 : decode c10_layPairs 54 = .ok (.iconst 0, 1) := by decide +kernel
theorem d10_layPairs_55 : decode c10_layPairs 55 = .ok (.istore 7, 2) := by decide +kernel
theorem d10_layPairs_57 : decode c10_layPairs 57 = .ok (.iload 7, 2) := by decide +kernel
theorem d10_layPairs_59 : decode c10_layPairs 59 = .ok (.iload_n 3, 1) := by decide +kernel
theorem d10_layPairs_60 : decode c10_layPairs 60 = .ok (.if_icmp .ge 82, 3) := by decide +kernel
theorem d10_layPairs_63 : decode c10_layPairs 63 = .ok (.iload 4, 2) := by decide +kernel
theorem d10_layPairs_65 : decode c10_layPairs 65 = .ok (.iload_n 3, 1) := by decide +kernel
theorem d10_layPairs_66 : decode c10_layPairs 66 = .ok (.if_icmp .ge 76, 3) := by decide +kernel
theorem d10_layPairs_69 : decode c10_layPairs 69 = .ok (.iload_n 1, 1) := by decide +kernel
theorem d10_layPairs_70 : decode c10_layPairs 70 = .ok (.iload 4, 2) := by decide +kernel
theorem d10_layPairs_72 : decode c10_layPairs 72 = .ok (.invokestatic 240, 3) := by decide +kernel
theorem d10_layPairs_75 : decode c10_layPairs 75 = .ok (.iconst 1, 1) := by decide +kernel
theorem d10_layPairs_76 : decode c10_layPairs 76 = .ok (.if_icmp .ne 60, 3) := by decide +kernel
theorem d10_layPairs_79 : decode c10_layPairs 79 = .ok (.iload 5, 2) := by decide +kernel
theorem d10_layPairs_81 : decode c10_layPairs 81 = .ok (.iload 7, 2) := by decide +kernel
theorem d10_layPairs_83 : decode c10_layPairs 83 = .ok (.invokestatic 240, 3) := by decide +kernel
theorem d10_layPairs_86 : decode c10_layPairs 86 = .ok (.ifCond .ne 50, 3) := by decide +kernel
theorem d10_layPairs_89 : decode c10_layPairs 89 = .ok (.aload_n 0, 1) := by decide +kernel
theorem d10_layPairs_90 : decode c10_layPairs 90 = .ok (.iload 7, 2) := by decide +kernel
theorem d10_layPairs_92 : decode c10_layPairs 92 = .ok (.iload 4, 2) := by decide +kernel
theorem d10_layPairs_94 : decode c10_layPairs 94 = .ok (.iload_n 1, 1) := by decide +kernel
theorem d10_layPairs_95 : decode c10_layPairs 95 = .ok (.iload 7, 2) := by decide +kernel
theorem d10_layPairs_97 : decode c10_layPairs 97 = .ok (.invokestatic 240, 3) := by decide +kernel
theorem d10_layPairs_100 : decode c10_layPairs 100 = .ok (.iload_n 2, 1) := by decide +kernel
theorem d10_layPairs_101 : decode c10_layPairs 101 = .ok (.imul, 1) := by decide +kernel
theorem d10_layPairs_102 : decode c10_layPairs 102 = .ok (.invokevirtual 372, 3) := by decide +kernel
theorem d10_layPairs_105 : decode c10_layPairs 105 = .ok (.ifCond .eq 31, 3) := by decide +kernel
theorem d10_layPairs_108 : decode c10_layPairs 108 = .ok (.iload 6, 2) := by decide +kernel
theorem d10_layPairs_110 : decode c10_layPairs 110 = .ok (.iconst 1, 1) := by decide +kernel
theorem d10_layPairs_111 : decode c10_layPairs 111 = .ok (.aload_n 0, 1) := by decide +kernel
theorem d10_layPairs_112 : decode c10_layPairs 112 = .ok (.getfield 77, 3) := by decide +kernel
theorem d10_layPairs_115 : decode c10_layPairs 115 = .ok (.iload 4, 2) := by decide +kernel
theorem d10_layPairs_117 : decode c10_layPairs 117 = .ok (.iconst 1, 1) := by decide +kernel
theorem d10_layPairs_118 : decode c10_layPairs 118 = .ok (.iadd, 1) := by decide +kernel
theorem d10_layPairs_119 : decode c10_layPairs 119 = .ok (.iload 5, 2) := by decide +kernel
theorem d10_layPairs_121 : decode c10_layPairs 121 = .ok (.iconst 1, 1) := by decide +kernel
theorem d10_layPairs_122 : decode c10_layPairs 122 = .ok (.iload 7, 2) := by decide +kernel
theorem d10_layPairs_124 : decode c10_layPairs 124 = .ok (.ishl, 1) := by decide +kernel
theorem d10_layPairs_125 : decode c10_layPairs 125 = .ok (.ior, 1) := by decide +kernel
theorem d10_layPairs_126 : decode c10_layPairs 126 = .ok (.invokestatic 340, 3) := by decide +kernel
theorem d10_layPairs_129 : decode c10_layPairs 129 = .ok (.iaload, 1) := by decide +kernel
theorem d10_layPairs_130 : decode c10_layPairs 130 = .ok (.iadd, 1) := by decide +kernel
theorem d10_layPairs_131 : decode c10_layPairs 131 = .ok (.invokestatic 262, 3) := by decide +kernel
theorem d10_layPairs_134 : decode c10_layPairs 134 = .ok (.istore 6, 2) := by decide +kernel
theorem d10_layPairs_136 : decode c10_layPairs 136 = .ok (.iinc 7 1, 3) := by decide +kernel
theorem d10_layPairs_139 : decode c10_layPairs 139 = .ok (.goto (-82), 3) := by decide +kernel
theorem d10_layPairs_142 : decode c10_layPairs 142 = .ok (.aload_n 0, 1) := by decide +kernel
theorem d10_layPairs_143 : decode c10_layPairs 143 = .ok (.getfield 77, 3) := by decide +kernel
theorem d10_layPairs_146 : decode c10_layPairs 146 = .ok (.iload 4, 2) := by decide +kernel
theorem d10_layPairs_148 : decode c10_layPairs 148 = .ok (.iload 5, 2) := by decide +kernel
theorem d10_layPairs_150 : decode c10_layPairs 150 = .ok (.invokestatic 340, 3) := by decide +kernel
theorem d10_layPairs_153 : decode c10_layPairs 153 = .ok (.iload 6, 2) := by decide +kernel
theorem d10_layPairs_155 : decode c10_layPairs 155 = .ok (.iastore, 1) := by decide +kernel
theorem d10_layPairs_156 : decode c10_layPairs 156 = .ok (.iinc 5 1, 3) := by decide +kernel
theorem d10_layPairs_159 : decode c10_layPairs 159 = .ok (.goto (-140), 3) := by decide +kernel
theorem d10_layPairs_162 : decode c10_layPairs 162 = .ok (.iinc 4 (-1), 3) := by decide +kernel
theorem d10_layPairs_165 : decode c10_layPairs 165 = .ok (.goto (-154), 3) := by decide +kernel
theorem d10_layPairs_168 : decode c10_layPairs 168 = .ok (.aload_n 0, 1) := by decide +kernel
theorem d10_layPairs_169 : decode c10_layPairs 169 = .ok (.getfield 77, 3) := by decide +kernel
theorem d10_layPairs_172 : decode c10_layPairs 172 = .ok (.iconst 0, 1) := by decide +kernel
theorem d10_layPairs_173 : decode c10_layPairs 173 = .ok (.iaload, 1) := by decide +kernel
theorem d10_layPairs_174 : decode c10_layPairs 174 = .ok (.ireturn, 1) := by decide +kernel
def f10_layPairs (D : Mem) (p0 : Int) (p1 : Int) : Option (Int × Mem) :=
  Option.bind (@loop (Int × Mem) (Mem) (fun s1 =>
    if w32 s1.1 < 0 then
      some (Sum.inr s1.2)
    else
      Option.bind (@loop (Int × Mem) (Mem) (fun s2 =>
        Option.bind (f10_allPersons s2.2) fun (a1 : Int) =>
        if w32 a1 < w32 s2.1 then
          some (Sum.inr s2.2)
        else
          Option.bind (
            if w32 s1.1 = w32 (D 118 7) then
              some 0
            else
              Option.bind (f10_state s2.2 (s1.1 + 1) s2.1) fun (a2 : Int) =>
              if 0 ≤ a2 ∧ a2 < 2304 then
                some (s2.2 138 a2.toNat)
              else none
          ) fun (j1 : Int) =>
          Option.bind (@loop (Int × Int) (Int) (fun s3 =>
            if w32 s3.2 < w32 (D 118 7) then
              if w32 s1.1 < w32 (D 118 7) then
                Option.bind (f10_bit s2.2 p0 s1.1) fun (a3 : Int) =>
                Option.bind (
                  if w32 a3 = w32 1 then
                    Option.bind (f10_bit s2.2 s2.1 s3.2) fun (a4 : Int) =>
                    if w32 a4 = 0 then
                      Option.bind (f10_bit s2.2 p0 s3.2) fun (a5 : Int) =>
                      Option.bind (f10_canBear s2.2 s3.2 s1.1 (a5 * p1)) fun (a6 : Int) =>
                      if w32 a6 = 0 then
                        some s3.1
                      else
                        Option.bind (f10_state s2.2 (s1.1 + 1) (or32 s2.1 (shl32 1 s3.2))) fun (a7 : Int) =>
                        if 0 ≤ a7 ∧ a7 < 2304 then
                          some (max32 s3.1 (1 + (s2.2 138 a7.toNat)))
                        else none
                    else
                      some s3.1
                  else
                    some s3.1
                ) fun (j2 : Int) =>
                some (Sum.inl (j2, (s3.2 + 1)))
              else
                some (Sum.inr s3.1)
            else
              some (Sum.inr s3.1)
          ) FU (j1, 0)) fun (b3 : Int) =>
          Option.bind (f10_state s2.2 s1.1 s2.1) fun (a8 : Int) =>
          if 0 ≤ a8 ∧ a8 < 2304 then
            some (Sum.inl ((s2.1 + 1), (mset s2.2 138 a8.toNat b3)))
          else none
      ) FU (0, s1.2)) fun (b2 : Mem) =>
      some (Sum.inl ((s1.1 + (-1)), b2))
  ) FU ((D 118 7), D)) fun (b1 : Mem) =>
  some ((b1 138 0), b1)
set_option maxHeartbeats 4000000 in
theorem ok10_layPairs {l : Launch} {X : XT} {n : Nat} {D : Mem} {Q : Option Value → Nat → Rho → Mem → Prop} (hn : 147 ≤ n) {p0 : Int} {p1 : Int}  (h : wpo (f10_layPairs D p0 p1) (fun a => Q (some (vI a.1)) n rt a.2)) : MOK l y10_layPairs c10_layPairs 8 (some .int) { frames := 2, cells := 0, slots := 0, locals := 45 } 0 0 X [vR X 117, vI p0, vI p1] n rt D Q := by
  refine MOK_of 10 (by decide +kernel) rfl (lv := [(0, vR X 117), (1, vI p0), (2, vI p1)]) (Nat.le_of_ble_eq_true rfl) rfl (fun K hK F hnm => ?_)
  subst hK
  unfold f10_layPairs at h
  refine r_aload_nR F 0 rfl rfl d10_layPairs_0 ?_
  refine r_getR F (z := 118) lf10_9 (vc117 hn) z117_1 d10_layPairs_1 ?_
  refine r_bipush F (z := 7) (by decide) d10_layPairs_4 ?_
  refine r_ialdC F (j := 7) (vc118 hn) (by decide) rfl d10_layPairs_6 ?_
  refine r_istore_n F (lv' := [(3, vI (D 118 7)), (0, vR X 117), (1, vI p0), (2, vI p1)]) rfl (Nat.le_of_ble_eq_true rfl) rfl d10_layPairs_7 ?_
  refine r_iload_n F 0 rfl rfl d10_layPairs_8 ?_
  refine r_istore F (lv' := [(4, vI (D 118 7)), (3, vI (D 118 7)), (0, vR X 117), (1, vI p0), (2, vI p1)]) (Nat.le_of_ble_eq_true rfl) rfl d10_layPairs_9 ?_
  refine r_weak [2, 3, 4, 1, 0] rfl ?_
  refine at_loopj (A := fun (s1 : Int × Mem) => At K X (ZQ K X Q) 0 0 n rt 8 11 [(0, vR X 117), (1, vI p0), (2, vI p1), (3, vI (D 118 7)), (4, vI s1.1)] [] s1.2) (B := fun (b1 : Mem) => At K X (ZQ K X Q) 0 0 n rt 8 168 [(0, vR X 117)] [] b1) h (fun b1 h => ?_) (fun s1 h => ?_)
  · refine r_aload_nR F 0 rfl rfl d10_layPairs_168 ?_
    refine r_getR F (z := 138) lf10_77 (vc117 hn) z117_37 d10_layPairs_169 ?_
    refine r_iconst F (z := 0) d10_layPairs_172 ?_
    refine r_ialdC F (j := 0) (vc138 hn) (by decide) rfl d10_layPairs_173 ?_
    replace h := wpo_some h
    exact r_iret F h d10_layPairs_174
  · refine r_iload F 4 rfl d10_layPairs_11 ?_
    refine r_if_lt F (tgt := 168) d10_layPairs_13 (by decide) (fun hb => ?_) (fun hb => ?_)
    · replace h := wpo_pos h hb
      refine r_weak [0] rfl ?_
      replace h := wpo_inr h
      exact h
    · replace h := wpo_neg h hb
      refine r_iconst F (z := 0) d10_layPairs_16 ?_
      refine r_istore F (lv' := [(5, vI 0), (0, vR X 117), (1, vI p0), (2, vI p1), (3, vI (D 118 7)), (4, vI s1.1)]) (Nat.le_of_ble_eq_true rfl) rfl d10_layPairs_17 ?_
      refine r_weak [1, 2, 3, 4, 5, 0] rfl ?_
      refine at_loopj (A := fun (s2 : Int × Mem) => At K X (ZQ K X Q) 0 0 n rt 8 19 [(0, vR X 117), (1, vI p0), (2, vI p1), (3, vI (D 118 7)), (4, vI s1.1), (5, vI s2.1)] [] s2.2) (B := fun (b2 : Mem) => At K X (ZQ K X Q) 0 0 n rt 8 162 [(0, vR X 117), (1, vI p0), (2, vI p1), (3, vI (D 118 7)), (4, vI s1.1)] [] b2) h (fun b2 h => ?_) (fun s2 h => ?_)
      · refine r_iinc F 4 (lv' := [(4, vI (s1.1 + (-1))), (0, vR X 117), (1, vI p0), (2, vI p1), (3, vI (D 118 7))]) rfl (Nat.le_of_ble_eq_true rfl) rfl d10_layPairs_162 ?_
        refine r_goto F (tgt := 11) (by decide) d10_layPairs_165 ?_
        refine r_weak [1, 2, 3, 4, 0] rfl ?_
        replace h := wpo_inl h
        exact h
      · refine r_iload F 5 rfl d10_layPairs_19 ?_
        refine r_aload_nR F 0 rfl rfl d10_layPairs_21 ?_
        replace h := wpo_bind h
        refine r_callV0 F lm10_320 mf10_allPersons (vc117 hn) rfl (fr := 0) (lo := 0) (As := []) (rest := [vI s2.1]) ⟨Nat.le_of_ble_eq_true rfl, Nat.le_of_ble_eq_true rfl⟩ rfl (Nat.le_of_ble_eq_true rfl) ⟨Nat.zero_le _, Nat.zero_le _⟩ d10_layPairs_22 ?_
        refine ok10_allPersons hn  (kI h (fun a1 h => ?_))
        refine r_icmp_gt F (tgt := 162) d10_layPairs_25 (by decide) (fun hb => ?_) (fun hb => ?_)
        · replace h := wpo_pos h hb
          refine r_weak [0, 1, 2, 3, 4] rfl ?_
          replace h := wpo_inr h
          exact h
        · replace h := wpo_neg h hb
          refine r_iload F 4 rfl d10_layPairs_28 ?_
          refine r_iload_n F 3 rfl rfl d10_layPairs_30 ?_
          refine at_join (B := fun (j1 : Int) => At K X (ZQ K X Q) 0 0 n rt 8 52 [(0, vR X 117), (1, vI p0), (2, vI p1), (3, vI (D 118 7)), (4, vI s1.1), (5, vI s2.1)] [vI j1] s2.2) h (fun j1 h => ?_) (fun h => ?_)
          · refine r_istore F (lv' := [(6, vI j1), (0, vR X 117), (1, vI p0), (2, vI p1), (3, vI (D 118 7)), (4, vI s1.1), (5, vI s2.1)]) (Nat.le_of_ble_eq_true rfl) rfl d10_layPairs_52 ?_
            refine r_iconst F (z := 0) d10_layPairs_54 ?_
            refine r_istore F (lv' := [(7, vI 0), (6, vI j1), (0, vR X 117), (1, vI p0), (2, vI p1), (3, vI (D 118 7)), (4, vI s1.1), (5, vI s2.1)]) (Nat.le_of_ble_eq_true rfl) rfl d10_layPairs_55 ?_
            refine r_weak [2, 3, 4, 5, 6, 7, 1, 0] rfl ?_
            refine at_loopj (A := fun (s3 : Int × Int) => At K X (ZQ K X Q) 0 0 n rt 8 57 [(0, vR X 117), (1, vI p0), (2, vI p1), (3, vI (D 118 7)), (4, vI s1.1), (5, vI s2.1), (6, vI s3.1), (7, vI s3.2)] [] s2.2) (B := fun (b3 : Int) => At K X (ZQ K X Q) 0 0 n rt 8 142 [(0, vR X 117), (1, vI p0), (2, vI p1), (3, vI (D 118 7)), (4, vI s1.1), (5, vI s2.1), (6, vI b3)] [] s2.2) h (fun b3 h => ?_) (fun s3 h => ?_)
            · refine r_aload_nR F 0 rfl rfl d10_layPairs_142 ?_
              refine r_getR F (z := 138) lf10_77 (vc117 hn) z117_37 d10_layPairs_143 ?_
              refine r_iload F 4 rfl d10_layPairs_146 ?_
              refine r_iload F 5 rfl d10_layPairs_148 ?_
              replace h := wpo_bind h
              refine r_callS0 F lm10_340 mf10_state rfl (fr := 0) (lo := 0) (As := [vI s1.1, vI s2.1]) (rest := [vR X 138]) ⟨Nat.le_of_ble_eq_true rfl, Nat.le_of_ble_eq_true rfl⟩ rfl (Nat.le_of_ble_eq_true rfl) ⟨Nat.zero_le _, Nat.zero_le _⟩ d10_layPairs_150 ?_
              refine ok10_state hn  (kI h (fun a8 h => ?_))
              refine r_iload F 6 rfl d10_layPairs_153 ?_
              obtain ⟨hx3, h⟩ := wpo_chk h
              refine r_iast F (vc138 hn) hx3 d10_layPairs_155 ?_
              refine r_iinc F 5 (lv' := [(5, vI (s2.1 + 1)), (0, vR X 117), (1, vI p0), (2, vI p1), (3, vI (D 118 7)), (4, vI s1.1), (6, vI b3)]) rfl (Nat.le_of_ble_eq_true rfl) rfl d10_layPairs_156 ?_
              refine r_goto F (tgt := 19) (by decide) d10_layPairs_159 ?_
              refine r_weak [1, 2, 3, 4, 5, 0] rfl ?_
              replace h := wpo_inl h
              exact h
            · refine r_iload F 7 rfl d10_layPairs_57 ?_
              refine r_iload_n F 3 rfl rfl d10_layPairs_59 ?_
              refine r_icmp_ge F (tgt := 142) d10_layPairs_60 (by decide) (fun hb => ?_) (fun hb => ?_)
              · replace h := wpo_neg h hb
                refine r_weak [0, 1, 2, 3, 4, 5, 6] rfl ?_
                replace h := wpo_inr h
                exact h
              · replace h := wpo_pos h hb
                refine r_iload F 4 rfl d10_layPairs_63 ?_
                refine r_iload_n F 3 rfl rfl d10_layPairs_65 ?_
                refine r_icmp_ge F (tgt := 142) d10_layPairs_66 (by decide) (fun hb => ?_) (fun hb => ?_)
                · replace h := wpo_neg h hb
                  refine r_weak [0, 1, 2, 3, 4, 5, 6] rfl ?_
                  replace h := wpo_inr h
                  exact h
                · replace h := wpo_pos h hb
                  refine r_iload_n F 1 rfl rfl d10_layPairs_69 ?_
                  refine r_iload F 4 rfl d10_layPairs_70 ?_
                  replace h := wpo_bind h
                  refine r_callS0 F lm10_240 mf10_bit rfl (fr := 0) (lo := 0) (As := [vI p0, vI s1.1]) (rest := []) ⟨Nat.le_of_ble_eq_true rfl, Nat.le_of_ble_eq_true rfl⟩ rfl (Nat.le_of_ble_eq_true rfl) ⟨Nat.zero_le _, Nat.zero_le _⟩ d10_layPairs_72 ?_
                  refine ok10_bit hn  (kI h (fun a3 h => ?_))
                  refine r_iconst F (z := 1) d10_layPairs_75 ?_
                  refine at_join (B := fun (j2 : Int) => At K X (ZQ K X Q) 0 0 n rt 8 136 [(0, vR X 117), (1, vI p0), (2, vI p1), (3, vI (D 118 7)), (4, vI s1.1), (5, vI s2.1), (6, vI j2), (7, vI s3.2)] [] s2.2) h (fun j2 h => ?_) (fun h => ?_)
                  · refine r_iinc F 7 (lv' := [(7, vI (s3.2 + 1)), (0, vR X 117), (1, vI p0), (2, vI p1), (3, vI (D 118 7)), (4, vI s1.1), (5, vI s2.1), (6, vI j2)]) rfl (Nat.le_of_ble_eq_true rfl) rfl d10_layPairs_136 ?_
                    refine r_goto F (tgt := 57) (by decide) d10_layPairs_139 ?_
                    refine r_weak [1, 2, 3, 4, 5, 6, 7, 0] rfl ?_
                    replace h := wpo_inl h
                    exact h
                  · refine r_icmp_ne F (tgt := 136) d10_layPairs_76 (by decide) (fun hb => ?_) (fun hb => ?_)
                    · replace h := wpo_neg h hb
                      replace h := wpo_some h
                      exact h
                    · replace h := wpo_pos h hb
                      refine r_iload F 5 rfl d10_layPairs_79 ?_
                      refine r_iload F 7 rfl d10_layPairs_81 ?_
                      replace h := wpo_bind h
                      refine r_callS0 F lm10_240 mf10_bit rfl (fr := 0) (lo := 0) (As := [vI s2.1, vI s3.2]) (rest := []) ⟨Nat.le_of_ble_eq_true rfl, Nat.le_of_ble_eq_true rfl⟩ rfl (Nat.le_of_ble_eq_true rfl) ⟨Nat.zero_le _, Nat.zero_le _⟩ d10_layPairs_83 ?_
                      refine ok10_bit hn  (kI h (fun a4 h => ?_))
                      refine r_if_ne F (tgt := 136) d10_layPairs_86 (by decide) (fun hb => ?_) (fun hb => ?_)
                      · replace h := wpo_neg h hb
                        replace h := wpo_some h
                        exact h
                      · replace h := wpo_pos h hb
                        refine r_aload_nR F 0 rfl rfl d10_layPairs_89 ?_
                        refine r_iload F 7 rfl d10_layPairs_90 ?_
                        refine r_iload F 4 rfl d10_layPairs_92 ?_
                        refine r_iload_n F 1 rfl rfl d10_layPairs_94 ?_
                        refine r_iload F 7 rfl d10_layPairs_95 ?_
                        replace h := wpo_bind h
                        refine r_callS0 F lm10_240 mf10_bit rfl (fr := 0) (lo := 0) (As := [vI p0, vI s3.2]) (rest := [vI s1.1, vI s3.2, vR X 117]) ⟨Nat.le_of_ble_eq_true rfl, Nat.le_of_ble_eq_true rfl⟩ rfl (Nat.le_of_ble_eq_true rfl) ⟨Nat.zero_le _, Nat.zero_le _⟩ d10_layPairs_97 ?_
                        refine ok10_bit hn  (kI h (fun a5 h => ?_))
                        refine r_iload_n F 2 rfl rfl d10_layPairs_100 ?_
                        refine r_imul F d10_layPairs_101 ?_
                        replace h := wpo_bind h
                        refine r_callV0 F lm10_372 mf10_canBear (vc117 hn) rfl (fr := 1) (lo := 22) (As := [vI s3.2, vI s1.1, vI (a5 * p1)]) (rest := []) ⟨Nat.le_of_ble_eq_true rfl, Nat.le_of_ble_eq_true rfl⟩ rfl (Nat.le_of_ble_eq_true rfl) ⟨Nat.zero_le _, Nat.zero_le _⟩ d10_layPairs_102 ?_
                        refine ok10_canBear hn  (kI h (fun a6 h => ?_))
                        refine r_if_eq F (tgt := 136) d10_layPairs_105 (by decide) (fun hb => ?_) (fun hb => ?_)
                        · replace h := wpo_pos h hb
                          replace h := wpo_some h
                          exact h
                        · replace h := wpo_neg h hb
                          refine r_iload F 6 rfl d10_layPairs_108 ?_
                          refine r_iconst F (z := 1) d10_layPairs_110 ?_
                          refine r_aload_nR F 0 rfl rfl d10_layPairs_111 ?_
                          refine r_getR F (z := 138) lf10_77 (vc117 hn) z117_37 d10_layPairs_112 ?_
                          refine r_iload F 4 rfl d10_layPairs_115 ?_
                          refine r_iconst F (z := 1) d10_layPairs_117 ?_
                          refine r_iadd F d10_layPairs_118 ?_
                          refine r_iload F 5 rfl d10_layPairs_119 ?_
                          refine r_iconst F (z := 1) d10_layPairs_121 ?_
                          refine r_iload F 7 rfl d10_layPairs_122 ?_
                          refine r_ishl F d10_layPairs_124 ?_
                          refine r_ior F d10_layPairs_125 ?_
                          replace h := wpo_bind h
                          refine r_callS0 F lm10_340 mf10_state rfl (fr := 0) (lo := 0) (As := [vI (s1.1 + 1), vI (or32 s2.1 (shl32 1 s3.2))]) (rest := [vR X 138, vI 1, vI s3.1]) ⟨Nat.le_of_ble_eq_true rfl, Nat.le_of_ble_eq_true rfl⟩ rfl (Nat.le_of_ble_eq_true rfl) ⟨Nat.zero_le _, Nat.zero_le _⟩ d10_layPairs_126 ?_
                          refine ok10_state hn  (kI h (fun a7 h => ?_))
                          obtain ⟨hx2, h⟩ := wpo_chk h
                          refine r_iald F (vc138 hn) hx2 d10_layPairs_129 ?_
                          refine r_iadd F d10_layPairs_130 ?_
                          refine r_max F lm10_262 wm1 wm0 wm2 ⟨Nat.le_of_ble_eq_true rfl, Nat.le_of_ble_eq_true rfl, Nat.le_of_ble_eq_true rfl, Nat.le_of_ble_eq_true rfl⟩ d10_layPairs_131 ?_
                          refine r_istore F (lv' := [(6, vI (max32 s3.1 (1 + (s2.2 138 a7.toNat)))), (0, vR X 117), (1, vI p0), (2, vI p1), (3, vI (D 118 7)), (4, vI s1.1), (5, vI s2.1), (7, vI s3.2)]) (Nat.le_of_ble_eq_true rfl) rfl d10_layPairs_134 ?_
                          refine r_weak [1, 2, 3, 4, 5, 6, 0, 7] rfl ?_
                          replace h := wpo_some h
                          exact h
          · refine r_icmp_ne F (tgt := 38) d10_layPairs_31 (by decide) (fun hb => ?_) (fun hb => ?_)
            · replace h := wpo_neg h hb
              refine r_aload_nR F 0 rfl rfl d10_layPairs_38 ?_
              refine r_getR F (z := 138) lf10_77 (vc117 hn) z117_37 d10_layPairs_39 ?_
              refine r_iload F 4 rfl d10_layPairs_42 ?_
              refine r_iconst F (z := 1) d10_layPairs_44 ?_
              refine r_iadd F d10_layPairs_45 ?_
              refine r_iload F 5 rfl d10_layPairs_46 ?_
              replace h := wpo_bind h
              refine r_callS0 F lm10_340 mf10_state rfl (fr := 0) (lo := 0) (As := [vI (s1.1 + 1), vI s2.1]) (rest := [vR X 138]) ⟨Nat.le_of_ble_eq_true rfl, Nat.le_of_ble_eq_true rfl⟩ rfl (Nat.le_of_ble_eq_true rfl) ⟨Nat.zero_le _, Nat.zero_le _⟩ d10_layPairs_48 ?_
              refine ok10_state hn  (kI h (fun a2 h => ?_))
              obtain ⟨hx1, h⟩ := wpo_chk h
              refine r_iald F (vc138 hn) hx1 d10_layPairs_51 ?_
              replace h := wpo_some h
              exact h
            · replace h := wpo_pos h hb
              refine r_iconst F (z := 0) d10_layPairs_34 ?_
              refine r_goto F (tgt := 52) (by decide) d10_layPairs_35 ?_
              replace h := wpo_some h
              exact h
theorem d10_pairs_0 : decode c10_pairs 0 = .ok (.aload_n 0, 1) := by decide +kernel
theorem d10_pairs_1 : decode c10_pairs 1 = .ok (.invokevirtual 274, 3) := by decide +kernel
theorem d10_pairs_4 : decode c10_pairs 4 = .ok (.aload_n 0, 1) := by decide +kernel
theorem d10_pairs_5 : decode c10_pairs 5 = .ok (.invokevirtual 113, 3) := by decide +kernel
theorem d10_pairs_8 : decode c10_pairs 8 = .ok (.ifCond .eq 15, 3) := by decide +kernel
theorem d10_pairs_11 : decode c10_pairs 11 = .ok (.aload_n 0, 1) := by decide +kernel
theorem d10_pairs_12 : decode c10_pairs 12 = .ok (.aload_n 0, 1) := by decide +kernel
theorem d10_pairs_13 : decode c10_pairs 13 = .ok (.invokevirtual 320, 3) := by decide +kernel
theorem d10_pairs_16 : decode c10_pairs 16 = .ok (.iconst 0, 1) := by decide +kernel
theorem d10_pairs_17 : decode c10_pairs 17 = .ok (.invokevirtual 376, 3) := by decide +kernel
theorem d10_pairs_20 : decode c10_pairs 20 = .ok (.goto 5, 3) := by decide +kernel
theorem d10_pairs_23 : decode c10_pairs 23 = .ok (.bipush (-2), 2) := by decide +kernel
theorem d10_pairs_25 : decode c10_pairs 25 = .ok (.ireturn, 1) := by decide +kernel
def f10_pairs (D : Mem) : Option (Int × Mem) :=
  Option.bind (f10_asItIs D) fun (a1 : Mem) =>
  Option.bind (f10_isParish a1) fun (a2 : Int) =>
  if w32 a2 = 0 then
    some ((-2), a1)
  else
    Option.bind (f10_allPersons a1) fun (a3 : Int) =>
    Option.bind (f10_layPairs a1 a3 0) fun (a4 : Int × Mem) =>
    some (a4.1, a4.2)
set_option maxHeartbeats 4000000 in
theorem ok10_pairs {l : Launch} {X : XT} {n : Nat} {D : Mem} {Q : Option Value → Nat → Rho → Mem → Prop} (hn : 147 ≤ n)  (h : wpo (f10_pairs D) (fun a => Q (some (vI a.1)) n rt a.2)) : MOK l y10_pairs c10_pairs 1 (some .int) { frames := 3, cells := 0, slots := 0, locals := 72 } 0 0 X [vR X 117] n rt D Q := by
  refine MOK_of 10 (by decide +kernel) rfl (lv := [(0, vR X 117)]) (Nat.le_of_ble_eq_true rfl) rfl (fun K hK F hnm => ?_)
  subst hK
  unfold f10_pairs at h
  refine r_aload_nR F 0 rfl rfl d10_pairs_0 ?_
  replace h := wpo_bind h
  refine r_callV0 F lm10_274 mf10_asItIs (vc117 hn) rfl (fr := 1) (lo := 22) (As := []) (rest := []) ⟨Nat.le_of_ble_eq_true rfl, Nat.le_of_ble_eq_true rfl⟩ rfl (Nat.le_of_ble_eq_true rfl) ⟨Nat.zero_le _, Nat.zero_le _⟩ d10_pairs_1 ?_
  refine ok10_asItIs hn  (kVm h (fun a1 h => ?_))
  refine r_aload_nR F 0 rfl rfl d10_pairs_4 ?_
  replace h := wpo_bind h
  refine r_callV0 F lm10_113 mf10_isParish (vc117 hn) rfl (fr := 0) (lo := 0) (As := []) (rest := []) ⟨Nat.le_of_ble_eq_true rfl, Nat.le_of_ble_eq_true rfl⟩ rfl (Nat.le_of_ble_eq_true rfl) ⟨Nat.zero_le _, Nat.zero_le _⟩ d10_pairs_5 ?_
  refine ok10_isParish hn  (kI h (fun a2 h => ?_))
  refine r_if_eq F (tgt := 23) d10_pairs_8 (by decide) (fun hb => ?_) (fun hb => ?_)
  · replace h := wpo_pos h hb
    refine r_bipush F (z := (-2)) (by decide) d10_pairs_23 ?_
    replace h := wpo_some h
    exact r_iret F h d10_pairs_25
  · replace h := wpo_neg h hb
    refine r_aload_nR F 0 rfl rfl d10_pairs_11 ?_
    refine r_aload_nR F 0 rfl rfl d10_pairs_12 ?_
    replace h := wpo_bind h
    refine r_callV0 F lm10_320 mf10_allPersons (vc117 hn) rfl (fr := 0) (lo := 0) (As := []) (rest := [vR X 117]) ⟨Nat.le_of_ble_eq_true rfl, Nat.le_of_ble_eq_true rfl⟩ rfl (Nat.le_of_ble_eq_true rfl) ⟨Nat.zero_le _, Nat.zero_le _⟩ d10_pairs_13 ?_
    refine ok10_allPersons hn  (kI h (fun a3 h => ?_))
    refine r_iconst F (z := 0) d10_pairs_16 ?_
    replace h := wpo_bind h
    refine r_callV0 F lm10_376 mf10_layPairs (vc117 hn) rfl (fr := 2) (lo := 45) (As := [vI a3, vI 0]) (rest := []) ⟨Nat.le_of_ble_eq_true rfl, Nat.le_of_ble_eq_true rfl⟩ rfl (Nat.le_of_ble_eq_true rfl) ⟨Nat.zero_le _, Nat.zero_le _⟩ d10_pairs_17 ?_
    refine ok10_layPairs hn  (kIm h (fun a4 h => ?_))
    refine r_goto F (tgt := 25) (by decide) d10_pairs_20 ?_
    replace h := wpo_some h
    exact r_iret F h d10_pairs_25
theorem d10_layBearers_0 : decode c10_layBearers 0 = .ok (.aload_n 0, 1) := by decide +kernel
theorem d10_layBearers_1 : decode c10_layBearers 1 = .ok (.invokevirtual 274, 3) := by decide +kernel
theorem d10_layBearers_4 : decode c10_layBearers 4 = .ok (.aload_n 0, 1) := by decide +kernel
theorem d10_layBearers_5 : decode c10_layBearers 5 = .ok (.aload_n 0, 1) := by decide +kernel
theorem d10_layBearers_6 : decode c10_layBearers 6 = .ok (.invokevirtual 320, 3) := by decide +kernel
theorem d10_layBearers_9 : decode c10_layBearers 9 = .ok (.iconst 0, 1) := by decide +kernel
theorem d10_layBearers_10 : decode c10_layBearers 10 = .ok (.invokevirtual 376, 3) := by decide +kernel
theorem d10_layBearers_13 : decode c10_layBearers 13 = .ok (.pop, 1) := by decide +kernel
theorem d10_layBearers_14 : decode c10_layBearers 14 = .ok (.aload_n 0, 1) := by decide +kernel
theorem d10_layBearers_15 : decode c10_layBearers 15 = .ok (.getfield 9, 3) := by decide +kernel
theorem d10_layBearers_18 : decode c10_layBearers 18 = .ok (.bipush 7, 2) := by decide +kernel
theorem d10_layBearers_20 : decode c10_layBearers 20 = .ok (.iaload, 1) := by decide +kernel
theorem d10_layBearers_21 : decode c10_layBearers 21 = .ok (.istore_n 1, 1) := by decide +kernel
theorem d10_layBearers_22 : decode c10_layBearers 22 = .ok (.iconst 0, 1) := by decide +kernel
theorem d10_layBearers_23 : decode c10_layBearers 23 = .ok (.istore_n 2, 1) := by decide +kernel
theorem d10_layBearers_24 : decode c10_layBearers 24 = .ok (.iconst 0, 1) := by decide +kernel
theorem d10_layBearers_25 : decode c10_layBearers 25 = .ok (.istore_n 3, 1) := by decide +kernel
theorem d10_layBearers_26 : decode c10_layBearers 26 = .ok (.iload_n 3, 1) := by decide +kernel
theorem d10_layBearers_27 : decode c10_layBearers 27 = .ok (.iload_n 1, 1) := by decide +kernel
theorem d10_layBearers_28 : decode c10_layBearers 28 = .ok (.if_icmp .ge 117, 3) := by decide +kernel
theorem d10_layBearers_31 : decode c10_layBearers 31 = .ok (.aload_n 0, 1) := by decide +kernel
theorem d10_layBearers_32 : decode c10_layBearers 32 = .ok (.getfield 80, 3) := by decide +kernel
theorem d10_layBearers_35 : decode c10_layBearers 35 = .ok (.iload_n 3, 1) := by decide +kernel
theorem d10_layBearers_36 : decode c10_layBearers 36 = .ok (.iconst (-1), 1) := by decide +kernel
theorem d10_layBearers_37 : decode c10_layBearers 37 = .ok (.iastore, 1) := by decide +kernel
theorem d10_layBearers_38 : decode c10_layBearers 38 = .ok (.iload_n 1, 1) := by decide +kernel
theorem d10_layBearers_39 : decode c10_layBearers 39 = .ok (.iconst 1, 1) := by decide +kernel
theorem d10_layBearers_40 : decode c10_layBearers 40 = .ok (.isub, 1) := by decide +kernel
theorem d10_layBearers_41 : decode c10_layBearers 41 = .ok (.istore 4, 2) := by decide +kernel
theorem d10_layBearers_43 : decode c10_layBearers 43 = .ok (.iload 4, 2) := by decide +kernel
theorem d10_layBearers_45 : decode c10_layBearers 45 = .ok (.ifCond .lt 69, 3) := by decide +kernel
theorem d10_layBearers_48 : decode c10_layBearers 48 = .ok (.iload_n 2, 1) := by decide +kernel
theorem d10_layBearers_49 : decode c10_layBearers 49 = .ok (.iload 4, 2) := by decide +kernel
theorem d10_layBearers_51 : decode c10_layBearers 51 = .ok (.invokestatic 240, 3) := by decide +kernel
theorem d10_layBearers_54 : decode c10_layBearers 54 = .ok (.ifCond .ne 54, 3) := by decide +kernel
theorem d10_layBearers_57 : decode c10_layBearers 57 = .ok (.aload_n 0, 1) := by decide +kernel
theorem d10_layBearers_58 : decode c10_layBearers 58 = .ok (.iload 4, 2) := by decide +kernel
theorem d10_layBearers_60 : decode c10_layBearers 60 = .ok (.iload_n 3, 1) := by decide +kernel
theorem d10_layBearers_61 : decode c10_layBearers 61 = .ok (.iconst 0, 1) := by decide +kernel
theorem d10_layBearers_62 : decode c10_layBearers 62 = .ok (.invokevirtual 372, 3) := by decide +kernel
theorem d10_layBearers_65 : decode c10_layBearers 65 = .ok (.ifCond .eq 43, 3) := by decide +kernel
theorem d10_layBearers_68 : decode c10_layBearers 68 = .ok (.iconst 1, 1) := by decide +kernel
theorem d10_layBearers_69 : decode c10_layBearers 69 = .ok (.aload_n 0, 1) := by decide +kernel
theorem d10_layBearers_70 : decode c10_layBearers 70 = .ok (.getfield 77, 3) := by decide +kernel
theorem d10_layBearers_73 : decode c10_layBearers 73 = .ok (.iload_n 3, 1) := by decide +kernel
theorem d10_layBearers_74 : decode c10_layBearers 74 = .ok (.iconst 1, 1) := by decide +kernel
theorem d10_layBearers_75 : decode c10_layBearers 75 = .ok (.iadd, 1) := by decide +kernel
theorem d10_layBearers_76 : decode c10_layBearers 76 = .ok (.iload_n 2, 1) := by decide +kernel
theorem d10_layBearers_77 : decode c10_layBearers 77 = .ok (.iconst 1, 1) := by decide +kernel
theorem d10_layBearers_78 : decode c10_layBearers 78 = .ok (.iload 4, 2) := by decide +kernel
theorem d10_layBearers_80 : decode c10_layBearers 80 = .ok (.ishl, 1) := by decide +kernel
theorem d10_layBearers_81 : decode c10_layBearers 81 = .ok (.ior, 1) := by decide +kernel
theorem d10_layBearers_82 : decode c10_layBearers 82 = .ok (.invokestatic 340, 3) := by decide +kernel
theorem d10_layBearers_85 : decode c10_layBearers 85 = .ok (.iaload, 1) := by decide +kernel
theorem d10_layBearers_86 : decode c10_layBearers 86 = .ok (.iadd, 1) := by decide +kernel
theorem d10_layBearers_87 : decode c10_layBearers 87 = .ok (.aload_n 0, 1) := by decide +kernel
theorem d10_layBearers_88 : decode c10_layBearers 88 = .ok (.getfield 77, 3) := by decide +kernel
theorem d10_layBearers_91 : decode c10_layBearers 91 = .ok (.iload_n 3, 1) := by decide +kernel
theorem d10_layBearers_92 : decode c10_layBearers 92 = .ok (.iload_n 2, 1) := by decide +kernel
theorem d10_layBearers_93 : decode c10_layBearers 93 = .ok (.invokestatic 340, 3) := by decide +kernel
theorem d10_layBearers_96 : decode c10_layBearers 96 = .ok (.iaload, 1) := by decide +kernel
theorem d10_layBearers_97 : decode c10_layBearers 97 = .ok (.if_icmp .ne 11, 3) := by decide +kernel
theorem d10_layBearers_100 : decode c10_layBearers 100 = .ok (.aload_n 0, 1) := by decide +kernel
theorem d10_layBearers_101 : decode c10_layBearers 101 = .ok (.getfield 80, 3) := by decide +kernel
theorem d10_layBearers_104 : decode c10_layBearers 104 = .ok (.iload_n 3, 1) := by decide +kernel
theorem d10_layBearers_105 : decode c10_layBearers 105 = .ok (.iload 4, 2) := by decide +kernel
theorem d10_layBearers_107 : decode c10_layBearers 107 = .ok (.iastore, 1) := by decide +kernel
theorem d10_layBearers_108 : decode c10_layBearers 108 = .ok (.iinc 4 (-1), 3) := by decide +kernel
theorem d10_layBearers_111 : decode c10_layBearers 111 = .ok (.goto (-68), 3) := by decide +kernel
theorem d10_layBearers_114 : decode c10_layBearers 114 = .ok (.iload_n 2, 1) := by decide +kernel
theorem d10_layBearers_115 : decode c10_layBearers 115 = .ok (.aload_n 0, 1) := by decide +kernel
theorem d10_layBearers_116 : decode c10_layBearers 116 = .ok (.getfield 80, 3) := by decide +kernel
theorem d10_layBearers_119 : decode c10_layBearers 119 = .ok (.iload_n 3, 1) := by decide +kernel
theorem d10_layBearers_120 : decode c10_layBearers 120 = .ok (.iaload, 1) := by decide +kernel
theorem d10_layBearers_121 : decode c10_layBearers 121 = .ok (.iconst (-1), 1) := by decide +kernel
theorem d10_layBearers_122 : decode c10_layBearers 122 = .ok (.if_icmp .ne 7, 3) := by decide +kernel
theorem d10_layBearers_125 : decode c10_layBearers 125 = .ok (.iconst 0, 1) := by decide +kernel
theorem d10_layBearers_126 : decode c10_layBearers 126 = .ok (.goto 11, 3) := by decide +kernel
theorem d10_layBearers_129 : decode c10_layBearers 129 = .ok (.iconst 1, 1) := by decide +kernel
theorem d10_layBearers_130 : decode c10_layBearers 130 = .ok (.aload_n 0, 1) := by decide +kernel
theorem d10_layBearers_131 : decode c10_layBearers 131 = .ok (.getfield 80, 3) := by decide +kernel
theorem d10_layBearers_134 : decode c10_layBearers 134 = .ok (.iload_n 3, 1) := by decide +kernel
theorem d10_layBearers_135 : decode c10_layBearers 135 = .ok (.iaload, 1) := by decide +kernel
theorem d10_layBearers_136 : decode c10_layBearers 136 = .ok (.ishl, 1) := by decide +kernel
theorem d10_layBearers_137 : decode c10_layBearers 137 = .ok (.ior, 1) := by decide +kernel
theorem d10_layBearers_138 : decode c10_layBearers 138 = .ok (.istore_n 2, 1) := by decide +kernel
theorem d10_layBearers_139 : decode c10_layBearers 139 = .ok (.iinc 3 1, 3) := by decide +kernel
theorem d10_layBearers_142 : decode c10_layBearers 142 = .ok (.goto (-116), 3) := by decide +kernel
theorem d10_layBearers_145 : decode c10_layBearers 145 = .ok (.iload_n 2, 1) := by decide +kernel
theorem d10_layBearers_146 : decode c10_layBearers 146 = .ok (.ireturn, 1) := by decide +kernel
def f10_layBearers (D : Mem) : Option (Int × Mem) :=
  Option.bind (f10_asItIs D) fun (a1 : Mem) =>
  Option.bind (f10_allPersons a1) fun (a2 : Int) =>
  Option.bind (f10_layPairs a1 a2 0) fun (a3 : Int × Mem) =>
  Option.bind (@loop (Int × Int × Mem) (Int × Mem) (fun s1 =>
    if w32 s1.2.1 < w32 (a3.2 118 7) then
      if 0 ≤ s1.2.1 ∧ s1.2.1 < 8 then
        Option.bind (some ((a3.2 118 7) - 1)) fun (v1 : Int) =>
        Option.bind (some (mset s1.2.2 139 s1.2.1.toNat (-1))) fun (D1 : Mem) =>
        Option.bind (@loop (Int × Mem) (Mem) (fun s2 =>
          if w32 s2.1 < 0 then
            some (Sum.inr s2.2)
          else
            Option.bind (f10_bit s2.2 s1.1 s2.1) fun (a4 : Int) =>
            Option.bind (
              if w32 a4 = 0 then
                Option.bind (f10_canBear s2.2 s2.1 s1.2.1 0) fun (a5 : Int) =>
                if w32 a5 = 0 then
                  some s2.2
                else
                  Option.bind (f10_state s2.2 (s1.2.1 + 1) (or32 s1.1 (shl32 1 s2.1))) fun (a6 : Int) =>
                  if 0 ≤ a6 ∧ a6 < 2304 then
                    Option.bind (f10_state s2.2 s1.2.1 s1.1) fun (a7 : Int) =>
                    if 0 ≤ a7 ∧ a7 < 2304 then
                      if w32 (1 + (s2.2 138 a6.toNat)) = w32 (s2.2 138 a7.toNat) then
                        some (mset s2.2 139 s1.2.1.toNat s2.1)
                      else
                        some s2.2
                    else none
                  else none
              else
                some s2.2
            ) fun (j1 : Mem) =>
            some (Sum.inl ((s2.1 + (-1)), j1))
        ) FU (v1, D1)) fun (b2 : Mem) =>
        Option.bind (
          if w32 (b2 139 s1.2.1.toNat) = w32 (-1) then
            some 0
          else
            some (shl32 1 (b2 139 s1.2.1.toNat))
        ) fun (j2 : Int) =>
        some (Sum.inl ((or32 s1.1 j2), (s1.2.1 + 1), b2))
      else none
    else
      some (Sum.inr (s1.1, s1.2.2))
  ) FU (0, 0, a3.2)) fun (b1 : Int × Mem) =>
  some (b1.1, b1.2)
set_option maxHeartbeats 4000000 in
theorem ok10_layBearers {l : Launch} {X : XT} {n : Nat} {D : Mem} {Q : Option Value → Nat → Rho → Mem → Prop} (hn : 147 ≤ n)  (h : wpo (f10_layBearers D) (fun a => Q (some (vI a.1)) n rt a.2)) : MOK l y10_layBearers c10_layBearers 5 (some .int) { frames := 3, cells := 0, slots := 0, locals := 72 } 0 0 X [vR X 117] n rt D Q := by
  refine MOK_of 10 (by decide +kernel) rfl (lv := [(0, vR X 117)]) (Nat.le_of_ble_eq_true rfl) rfl (fun K hK F hnm => ?_)
  subst hK
  unfold f10_layBearers at h
  refine r_aload_nR F 0 rfl rfl d10_layBearers_0 ?_
  replace h := wpo_bind h
  refine r_callV0 F lm10_274 mf10_asItIs (vc117 hn) rfl (fr := 1) (lo := 22) (As := []) (rest := []) ⟨Nat.le_of_ble_eq_true rfl, Nat.le_of_ble_eq_true rfl⟩ rfl (Nat.le_of_ble_eq_true rfl) ⟨Nat.zero_le _, Nat.zero_le _⟩ d10_layBearers_1 ?_
  refine ok10_asItIs hn  (kVm h (fun a1 h => ?_))
  refine r_aload_nR F 0 rfl rfl d10_layBearers_4 ?_
  refine r_aload_nR F 0 rfl rfl d10_layBearers_5 ?_
  replace h := wpo_bind h
  refine r_callV0 F lm10_320 mf10_allPersons (vc117 hn) rfl (fr := 0) (lo := 0) (As := []) (rest := [vR X 117]) ⟨Nat.le_of_ble_eq_true rfl, Nat.le_of_ble_eq_true rfl⟩ rfl (Nat.le_of_ble_eq_true rfl) ⟨Nat.zero_le _, Nat.zero_le _⟩ d10_layBearers_6 ?_
  refine ok10_allPersons hn  (kI h (fun a2 h => ?_))
  refine r_iconst F (z := 0) d10_layBearers_9 ?_
  replace h := wpo_bind h
  refine r_callV0 F lm10_376 mf10_layPairs (vc117 hn) rfl (fr := 2) (lo := 45) (As := [vI a2, vI 0]) (rest := []) ⟨Nat.le_of_ble_eq_true rfl, Nat.le_of_ble_eq_true rfl⟩ rfl (Nat.le_of_ble_eq_true rfl) ⟨Nat.zero_le _, Nat.zero_le _⟩ d10_layBearers_10 ?_
  refine ok10_layPairs hn  (kIm h (fun a3 h => ?_))
  refine r_pop F rfl d10_layBearers_13 ?_
  refine r_aload_nR F 0 rfl rfl d10_layBearers_14 ?_
  refine r_getR F (z := 118) lf10_9 (vc117 hn) z117_1 d10_layBearers_15 ?_
  refine r_bipush F (z := 7) (by decide) d10_layBearers_18 ?_
  refine r_ialdC F (j := 7) (vc118 hn) (by decide) rfl d10_layBearers_20 ?_
  refine r_istore_n F (lv' := [(1, vI (a3.2 118 7)), (0, vR X 117)]) rfl (Nat.le_of_ble_eq_true rfl) rfl d10_layBearers_21 ?_
  refine r_iconst F (z := 0) d10_layBearers_22 ?_
  refine r_istore_n F (lv' := [(2, vI 0), (1, vI (a3.2 118 7)), (0, vR X 117)]) rfl (Nat.le_of_ble_eq_true rfl) rfl d10_layBearers_23 ?_
  refine r_iconst F (z := 0) d10_layBearers_24 ?_
  refine r_istore_n F (lv' := [(3, vI 0), (2, vI 0), (1, vI (a3.2 118 7)), (0, vR X 117)]) rfl (Nat.le_of_ble_eq_true rfl) rfl d10_layBearers_25 ?_
  refine r_weak [3, 2, 1, 0] rfl ?_
  refine at_loopj (A := fun (s1 : Int × Int × Mem) => At K X (ZQ K X Q) 0 0 n rt 5 26 [(0, vR X 117), (1, vI (a3.2 118 7)), (2, vI s1.1), (3, vI s1.2.1)] [] s1.2.2) (B := fun (b1 : Int × Mem) => At K X (ZQ K X Q) 0 0 n rt 5 145 [(2, vI b1.1)] [] b1.2) h (fun b1 h => ?_) (fun s1 h => ?_)
  · refine r_iload_n F 0 rfl rfl d10_layBearers_145 ?_
    replace h := wpo_some h
    exact r_iret F h d10_layBearers_146
  · refine r_iload_n F 3 rfl rfl d10_layBearers_26 ?_
    refine r_iload_n F 1 rfl rfl d10_layBearers_27 ?_
    refine r_icmp_ge F (tgt := 145) d10_layBearers_28 (by decide) (fun hb => ?_) (fun hb => ?_)
    · replace h := wpo_neg h hb
      refine r_weak [2] rfl ?_
      replace h := wpo_inr h
      exact h
    · replace h := wpo_pos h hb
      refine r_aload_nR F 0 rfl rfl d10_layBearers_31 ?_
      refine r_getR F (z := 139) lf10_80 (vc117 hn) z117_38 d10_layBearers_32 ?_
      refine r_iload_n F 3 rfl rfl d10_layBearers_35 ?_
      refine r_iconst F (z := (-1)) d10_layBearers_36 ?_
      obtain ⟨hx1, h⟩ := wpo_chk h
      refine r_iast F (vc139 hn) hx1 d10_layBearers_37 ?_
      refine r_iload_n F 1 rfl rfl d10_layBearers_38 ?_
      refine r_iconst F (z := 1) d10_layBearers_39 ?_
      refine r_isub F d10_layBearers_40 ?_
      refine r_istore F (lv' := [(4, vI ((a3.2 118 7) - 1)), (0, vR X 117), (1, vI (a3.2 118 7)), (2, vI s1.1), (3, vI s1.2.1)]) (Nat.le_of_ble_eq_true rfl) rfl d10_layBearers_41 ?_
      refine at_name (B := fun (v1 : Int) => At K X (ZQ K X Q) 0 0 n rt 5 43 [(4, vI v1), (0, vR X 117), (1, vI (a3.2 118 7)), (2, vI s1.1), (3, vI s1.2.1)] [] (mset s1.2.2 139 s1.2.1.toNat (-1))) h (fun v1 h => ?_)
      refine at_name (B := fun (D1 : Mem) => At K X (ZQ K X Q) 0 0 n rt 5 43 [(4, vI v1), (0, vR X 117), (1, vI (a3.2 118 7)), (2, vI s1.1), (3, vI s1.2.1)] [] D1) h (fun D1 h => ?_)
      refine r_weak [1, 2, 3, 4, 0] rfl ?_
      refine at_loopj (A := fun (s2 : Int × Mem) => At K X (ZQ K X Q) 0 0 n rt 5 43 [(0, vR X 117), (1, vI (a3.2 118 7)), (2, vI s1.1), (3, vI s1.2.1), (4, vI s2.1)] [] s2.2) (B := fun (b2 : Mem) => At K X (ZQ K X Q) 0 0 n rt 5 114 [(0, vR X 117), (1, vI (a3.2 118 7)), (2, vI s1.1), (3, vI s1.2.1)] [] b2) h (fun b2 h => ?_) (fun s2 h => ?_)
      · refine r_iload_n F 2 rfl rfl d10_layBearers_114 ?_
        refine r_aload_nR F 0 rfl rfl d10_layBearers_115 ?_
        refine r_getR F (z := 139) lf10_80 (vc117 hn) z117_38 d10_layBearers_116 ?_
        refine r_iload_n F 3 rfl rfl d10_layBearers_119 ?_
        refine r_iald F (vc139 hn) hx1 d10_layBearers_120 ?_
        refine r_iconst F (z := (-1)) d10_layBearers_121 ?_
        refine at_join (B := fun (j2 : Int) => At K X (ZQ K X Q) 0 0 n rt 5 137 [(0, vR X 117), (1, vI (a3.2 118 7)), (3, vI s1.2.1)] [vI j2, vI s1.1] b2) h (fun j2 h => ?_) (fun h => ?_)
        · refine r_ior F d10_layBearers_137 ?_
          refine r_istore_n F (lv' := [(2, vI (or32 s1.1 j2)), (0, vR X 117), (1, vI (a3.2 118 7)), (3, vI s1.2.1)]) rfl (Nat.le_of_ble_eq_true rfl) rfl d10_layBearers_138 ?_
          refine r_iinc F 3 (lv' := [(3, vI (s1.2.1 + 1)), (2, vI (or32 s1.1 j2)), (0, vR X 117), (1, vI (a3.2 118 7))]) rfl (Nat.le_of_ble_eq_true rfl) rfl d10_layBearers_139 ?_
          refine r_goto F (tgt := 26) (by decide) d10_layBearers_142 ?_
          refine r_weak [2, 3, 1, 0] rfl ?_
          replace h := wpo_inl h
          exact h
        · refine r_icmp_ne F (tgt := 129) d10_layBearers_122 (by decide) (fun hb => ?_) (fun hb => ?_)
          · replace h := wpo_neg h hb
            refine r_iconst F (z := 1) d10_layBearers_129 ?_
            refine r_aload_nR F 0 rfl rfl d10_layBearers_130 ?_
            refine r_getR F (z := 139) lf10_80 (vc117 hn) z117_38 d10_layBearers_131 ?_
            refine r_iload_n F 3 rfl rfl d10_layBearers_134 ?_
            refine r_iald F (vc139 hn) hx1 d10_layBearers_135 ?_
            refine r_ishl F d10_layBearers_136 ?_
            refine r_weak [0, 1, 3] rfl ?_
            replace h := wpo_some h
            exact h
          · replace h := wpo_pos h hb
            refine r_iconst F (z := 0) d10_layBearers_125 ?_
            refine r_goto F (tgt := 137) (by decide) d10_layBearers_126 ?_
            refine r_weak [0, 1, 3] rfl ?_
            replace h := wpo_some h
            exact h
      · refine r_iload F 4 rfl d10_layBearers_43 ?_
        refine r_if_lt F (tgt := 114) d10_layBearers_45 (by decide) (fun hb => ?_) (fun hb => ?_)
        · replace h := wpo_pos h hb
          refine r_weak [0, 1, 2, 3] rfl ?_
          replace h := wpo_inr h
          exact h
        · replace h := wpo_neg h hb
          refine r_iload_n F 2 rfl rfl d10_layBearers_48 ?_
          refine r_iload F 4 rfl d10_layBearers_49 ?_
          replace h := wpo_bind h
          refine r_callS0 F lm10_240 mf10_bit rfl (fr := 0) (lo := 0) (As := [vI s1.1, vI s2.1]) (rest := []) ⟨Nat.le_of_ble_eq_true rfl, Nat.le_of_ble_eq_true rfl⟩ rfl (Nat.le_of_ble_eq_true rfl) ⟨Nat.zero_le _, Nat.zero_le _⟩ d10_layBearers_51 ?_
          refine ok10_bit hn  (kI h (fun a4 h => ?_))
          refine at_join (B := fun (j1 : Mem) => At K X (ZQ K X Q) 0 0 n rt 5 108 [(0, vR X 117), (1, vI (a3.2 118 7)), (2, vI s1.1), (3, vI s1.2.1), (4, vI s2.1)] [] j1) h (fun j1 h => ?_) (fun h => ?_)
          · refine r_iinc F 4 (lv' := [(4, vI (s2.1 + (-1))), (0, vR X 117), (1, vI (a3.2 118 7)), (2, vI s1.1), (3, vI s1.2.1)]) rfl (Nat.le_of_ble_eq_true rfl) rfl d10_layBearers_108 ?_
            refine r_goto F (tgt := 43) (by decide) d10_layBearers_111 ?_
            refine r_weak [1, 2, 3, 4, 0] rfl ?_
            replace h := wpo_inl h
            exact h
          · refine r_if_ne F (tgt := 108) d10_layBearers_54 (by decide) (fun hb => ?_) (fun hb => ?_)
            · replace h := wpo_neg h hb
              replace h := wpo_some h
              exact h
            · replace h := wpo_pos h hb
              refine r_aload_nR F 0 rfl rfl d10_layBearers_57 ?_
              refine r_iload F 4 rfl d10_layBearers_58 ?_
              refine r_iload_n F 3 rfl rfl d10_layBearers_60 ?_
              refine r_iconst F (z := 0) d10_layBearers_61 ?_
              replace h := wpo_bind h
              refine r_callV0 F lm10_372 mf10_canBear (vc117 hn) rfl (fr := 1) (lo := 22) (As := [vI s2.1, vI s1.2.1, vI 0]) (rest := []) ⟨Nat.le_of_ble_eq_true rfl, Nat.le_of_ble_eq_true rfl⟩ rfl (Nat.le_of_ble_eq_true rfl) ⟨Nat.zero_le _, Nat.zero_le _⟩ d10_layBearers_62 ?_
              refine ok10_canBear hn  (kI h (fun a5 h => ?_))
              refine r_if_eq F (tgt := 108) d10_layBearers_65 (by decide) (fun hb => ?_) (fun hb => ?_)
              · replace h := wpo_pos h hb
                replace h := wpo_some h
                exact h
              · replace h := wpo_neg h hb
                refine r_iconst F (z := 1) d10_layBearers_68 ?_
                refine r_aload_nR F 0 rfl rfl d10_layBearers_69 ?_
                refine r_getR F (z := 138) lf10_77 (vc117 hn) z117_37 d10_layBearers_70 ?_
                refine r_iload_n F 3 rfl rfl d10_layBearers_73 ?_
                refine r_iconst F (z := 1) d10_layBearers_74 ?_
                refine r_iadd F d10_layBearers_75 ?_
                refine r_iload_n F 2 rfl rfl d10_layBearers_76 ?_
                refine r_iconst F (z := 1) d10_layBearers_77 ?_
                refine r_iload F 4 rfl d10_layBearers_78 ?_
                refine r_ishl F d10_layBearers_80 ?_
                refine r_ior F d10_layBearers_81 ?_
                replace h := wpo_bind h
                refine r_callS0 F lm10_340 mf10_state rfl (fr := 0) (lo := 0) (As := [vI (s1.2.1 + 1), vI (or32 s1.1 (shl32 1 s2.1))]) (rest := [vR X 138, vI 1]) ⟨Nat.le_of_ble_eq_true rfl, Nat.le_of_ble_eq_true rfl⟩ rfl (Nat.le_of_ble_eq_true rfl) ⟨Nat.zero_le _, Nat.zero_le _⟩ d10_layBearers_82 ?_
                refine ok10_state hn  (kI h (fun a6 h => ?_))
                obtain ⟨hx2, h⟩ := wpo_chk h
                refine r_iald F (vc138 hn) hx2 d10_layBearers_85 ?_
                refine r_iadd F d10_layBearers_86 ?_
                refine r_aload_nR F 0 rfl rfl d10_layBearers_87 ?_
                refine r_getR F (z := 138) lf10_77 (vc117 hn) z117_37 d10_layBearers_88 ?_
                refine r_iload_n F 3 rfl rfl d10_layBearers_91 ?_
                refine r_iload_n F 2 rfl rfl d10_layBearers_92 ?_
                replace h := wpo_bind h
                refine r_callS0 F lm10_340 mf10_state rfl (fr := 0) (lo := 0) (As := [vI s1.2.1, vI s1.1]) (rest := [vR X 138, vI (1 + (s2.2 138 a6.toNat))]) ⟨Nat.le_of_ble_eq_true rfl, Nat.le_of_ble_eq_true rfl⟩ rfl (Nat.le_of_ble_eq_true rfl) ⟨Nat.zero_le _, Nat.zero_le _⟩ d10_layBearers_93 ?_
                refine ok10_state hn  (kI h (fun a7 h => ?_))
                obtain ⟨hx3, h⟩ := wpo_chk h
                refine r_iald F (vc138 hn) hx3 d10_layBearers_96 ?_
                refine r_icmp_ne F (tgt := 108) d10_layBearers_97 (by decide) (fun hb => ?_) (fun hb => ?_)
                · replace h := wpo_neg h hb
                  replace h := wpo_some h
                  exact h
                · replace h := wpo_pos h hb
                  refine r_aload_nR F 0 rfl rfl d10_layBearers_100 ?_
                  refine r_getR F (z := 139) lf10_80 (vc117 hn) z117_38 d10_layBearers_101 ?_
                  refine r_iload_n F 3 rfl rfl d10_layBearers_104 ?_
                  refine r_iload F 4 rfl d10_layBearers_105 ?_
                  refine r_iast F (vc139 hn) hx1 d10_layBearers_107 ?_
                  replace h := wpo_some h
                  exact h
theorem d10_bearer_0 : decode c10_bearer 0 = .ok (.aload_n 0, 1) := by decide +kernel
theorem d10_bearer_1 : decode c10_bearer 1 = .ok (.invokevirtual 379, 3) := by decide +kernel
theorem d10_bearer_4 : decode c10_bearer 4 = .ok (.pop, 1) := by decide +kernel
theorem d10_bearer_5 : decode c10_bearer 5 = .ok (.aload_n 0, 1) := by decide +kernel
theorem d10_bearer_6 : decode c10_bearer 6 = .ok (.iload_n 1, 1) := by decide +kernel
theorem d10_bearer_7 : decode c10_bearer 7 = .ok (.invokevirtual 283, 3) := by decide +kernel
theorem d10_bearer_10 : decode c10_bearer 10 = .ok (.ifCond .eq 12, 3) := by decide +kernel
theorem d10_bearer_13 : decode c10_bearer 13 = .ok (.aload_n 0, 1) := by decide +kernel
theorem d10_bearer_14 : decode c10_bearer 14 = .ok (.getfield 80, 3) := by decide +kernel
theorem d10_bearer_17 : decode c10_bearer 17 = .ok (.iload_n 1, 1) := by decide +kernel
theorem d10_bearer_18 : decode c10_bearer 18 = .ok (.iaload, 1) := by decide +kernel
theorem d10_bearer_19 : decode c10_bearer 19 = .ok (.goto 5, 3) := by decide +kernel
theorem d10_bearer_22 : decode c10_bearer 22 = .ok (.bipush (-2), 2) := by decide +kernel
theorem d10_bearer_24 : decode c10_bearer 24 = .ok (.ireturn, 1) := by decide +kernel
def f10_bearer (D : Mem) (p0 : Int) : Option (Int × Mem) :=
  Option.bind (f10_layBearers D) fun (a1 : Int × Mem) =>
  Option.bind (f10_isPerson a1.2 p0) fun (a2 : Int) =>
  if w32 a2 = 0 then
    some ((-2), a1.2)
  else
    if 0 ≤ p0 ∧ p0 < 8 then
      some ((a1.2 139 p0.toNat), a1.2)
    else none
set_option maxHeartbeats 4000000 in
theorem ok10_bearer {l : Launch} {X : XT} {n : Nat} {D : Mem} {Q : Option Value → Nat → Rho → Mem → Prop} (hn : 147 ≤ n) {p0 : Int}  (h : wpo (f10_bearer D p0) (fun a => Q (some (vI a.1)) n rt a.2)) : MOK l y10_bearer c10_bearer 2 (some .int) { frames := 4, cells := 0, slots := 0, locals := 96 } 0 0 X [vR X 117, vI p0] n rt D Q := by
  refine MOK_of 10 (by decide +kernel) rfl (lv := [(0, vR X 117), (1, vI p0)]) (Nat.le_of_ble_eq_true rfl) rfl (fun K hK F hnm => ?_)
  subst hK
  unfold f10_bearer at h
  refine r_aload_nR F 0 rfl rfl d10_bearer_0 ?_
  replace h := wpo_bind h
  refine r_callV0 F lm10_379 mf10_layBearers (vc117 hn) rfl (fr := 3) (lo := 72) (As := []) (rest := []) ⟨Nat.le_of_ble_eq_true rfl, Nat.le_of_ble_eq_true rfl⟩ rfl (Nat.le_of_ble_eq_true rfl) ⟨Nat.zero_le _, Nat.zero_le _⟩ d10_bearer_1 ?_
  refine ok10_layBearers hn  (kIm h (fun a1 h => ?_))
  refine r_pop F rfl d10_bearer_4 ?_
  refine r_aload_nR F 0 rfl rfl d10_bearer_5 ?_
  refine r_iload_n F 1 rfl rfl d10_bearer_6 ?_
  replace h := wpo_bind h
  refine r_callV0 F lm10_283 mf10_isPerson (vc117 hn) rfl (fr := 1) (lo := 25) (As := [vI p0]) (rest := []) ⟨Nat.le_of_ble_eq_true rfl, Nat.le_of_ble_eq_true rfl⟩ rfl (Nat.le_of_ble_eq_true rfl) ⟨Nat.zero_le _, Nat.zero_le _⟩ d10_bearer_7 ?_
  refine ok10_isPerson hn  (kI h (fun a2 h => ?_))
  refine r_if_eq F (tgt := 22) d10_bearer_10 (by decide) (fun hb => ?_) (fun hb => ?_)
  · replace h := wpo_pos h hb
    refine r_bipush F (z := (-2)) (by decide) d10_bearer_22 ?_
    replace h := wpo_some h
    exact r_iret F h d10_bearer_24
  · replace h := wpo_neg h hb
    refine r_aload_nR F 0 rfl rfl d10_bearer_13 ?_
    refine r_getR F (z := 139) lf10_80 (vc117 hn) z117_38 d10_bearer_14 ?_
    refine r_iload_n F 1 rfl rfl d10_bearer_17 ?_
    obtain ⟨hx1, h⟩ := wpo_chk h
    refine r_iald F (vc139 hn) hx1 d10_bearer_18 ?_
    refine r_goto F (tgt := 24) (by decide) d10_bearer_19 ?_
    replace h := wpo_some h
    exact r_iret F h d10_bearer_24
theorem d10_spoons_0 : decode c10_spoons 0 = .ok (.aload_n 0, 1) := by decide +kernel
theorem d10_spoons_1 : decode c10_spoons 1 = .ok (.invokevirtual 379, 3) := by decide +kernel
theorem d10_spoons_4 : decode c10_spoons 4 = .ok (.istore_n 1, 1) := by decide +kernel
theorem d10_spoons_5 : decode c10_spoons 5 = .ok (.aload_n 0, 1) := by decide +kernel
theorem d10_spoons_6 : decode c10_spoons 6 = .ok (.invokevirtual 113, 3) := by decide +kernel
theorem d10_spoons_9 : decode c10_spoons 9 = .ok (.ifCond .eq 7, 3) := by decide +kernel
theorem d10_spoons_12 : decode c10_spoons 12 = .ok (.iload_n 1, 1) := by decide +kernel
theorem d10_spoons_13 : decode c10_spoons 13 = .ok (.goto 5, 3) := by decide +kernel
theorem d10_spoons_16 : decode c10_spoons 16 = .ok (.bipush (-2), 2) := by decide +kernel
theorem d10_spoons_18 : decode c10_spoons 18 = .ok (.ireturn, 1) := by decide +kernel
def f10_spoons (D : Mem) : Option (Int × Mem) :=
  Option.bind (f10_layBearers D) fun (a1 : Int × Mem) =>
  Option.bind (f10_isParish a1.2) fun (a2 : Int) =>
  if w32 a2 = 0 then
    some ((-2), a1.2)
  else
    some (a1.1, a1.2)
set_option maxHeartbeats 4000000 in
theorem ok10_spoons {l : Launch} {X : XT} {n : Nat} {D : Mem} {Q : Option Value → Nat → Rho → Mem → Prop} (hn : 147 ≤ n)  (h : wpo (f10_spoons D) (fun a => Q (some (vI a.1)) n rt a.2)) : MOK l y10_spoons c10_spoons 2 (some .int) { frames := 4, cells := 0, slots := 0, locals := 96 } 0 0 X [vR X 117] n rt D Q := by
  refine MOK_of 10 (by decide +kernel) rfl (lv := [(0, vR X 117)]) (Nat.le_of_ble_eq_true rfl) rfl (fun K hK F hnm => ?_)
  subst hK
  unfold f10_spoons at h
  refine r_aload_nR F 0 rfl rfl d10_spoons_0 ?_
  replace h := wpo_bind h
  refine r_callV0 F lm10_379 mf10_layBearers (vc117 hn) rfl (fr := 3) (lo := 72) (As := []) (rest := []) ⟨Nat.le_of_ble_eq_true rfl, Nat.le_of_ble_eq_true rfl⟩ rfl (Nat.le_of_ble_eq_true rfl) ⟨Nat.zero_le _, Nat.zero_le _⟩ d10_spoons_1 ?_
  refine ok10_layBearers hn  (kIm h (fun a1 h => ?_))
  refine r_istore_n F (lv' := [(1, vI a1.1), (0, vR X 117)]) rfl (Nat.le_of_ble_eq_true rfl) rfl d10_spoons_4 ?_
  refine r_aload_nR F 1 rfl rfl d10_spoons_5 ?_
  replace h := wpo_bind h
  refine r_callV0 F lm10_113 mf10_isParish (vc117 hn) rfl (fr := 0) (lo := 0) (As := []) (rest := []) ⟨Nat.le_of_ble_eq_true rfl, Nat.le_of_ble_eq_true rfl⟩ rfl (Nat.le_of_ble_eq_true rfl) ⟨Nat.zero_le _, Nat.zero_le _⟩ d10_spoons_6 ?_
  refine ok10_isParish hn  (kI h (fun a2 h => ?_))
  refine r_if_eq F (tgt := 16) d10_spoons_9 (by decide) (fun hb => ?_) (fun hb => ?_)
  · replace h := wpo_pos h hb
    refine r_bipush F (z := (-2)) (by decide) d10_spoons_16 ?_
    replace h := wpo_some h
    exact r_iret F h d10_spoons_18
  · replace h := wpo_neg h hb
    refine r_iload_n F 0 rfl rfl d10_spoons_12 ?_
    refine r_goto F (tgt := 18) (by decide) d10_spoons_13 ?_
    replace h := wpo_some h
    exact r_iret F h d10_spoons_18
theorem d10_lonely_0 : decode c10_lonely 0 = .ok (.aload_n 0, 1) := by decide +kernel
theorem d10_lonely_1 : decode c10_lonely 1 = .ok (.invokevirtual 379, 3) := by decide +kernel
theorem d10_lonely_4 : decode c10_lonely 4 = .ok (.pop, 1) := by decide +kernel
theorem d10_lonely_5 : decode c10_lonely 5 = .ok (.aload_n 0, 1) := by decide +kernel
theorem d10_lonely_6 : decode c10_lonely 6 = .ok (.invokevirtual 113, 3) := by decide +kernel
theorem d10_lonely_9 : decode c10_lonely 9 = .ok (.ifCond .ne 6, 3) := by decide +kernel
theorem d10_lonely_12 : decode c10_lonely 12 = .ok (.bipush (-2), 2) := by decide +kernel
theorem d10_lonely_14 : decode c10_lonely 14 = .ok (.ireturn, 1) := by decide +kernel
theorem d10_lonely_15 : decode c10_lonely 15 = .ok (.iconst 0, 1) := by decide +kernel
theorem d10_lonely_16 : decode c10_lonely 16 = .ok (.istore_n 1, 1) := by decide +kernel
theorem d10_lonely_17 : decode c10_lonely 17 = .ok (.iconst 0, 1) := by decide +kernel
theorem d10_lonely_18 : decode c10_lonely 18 = .ok (.istore_n 2, 1) := by decide +kernel
theorem d10_lonely_19 : decode c10_lonely 19 = .ok (.iload_n 2, 1) := by decide +kernel
theorem d10_lonely_20 : decode c10_lonely 20 = .ok (.aload_n 0, 1) := by decide +kernel
theorem d10_lonely_21 : decode c10_lonely 21 = .ok (.getfield 9, 3) := by decide +kernel
theorem d10_lonely_24 : decode c10_lonely 24 = .ok (.bipush 7, 2) := by decide +kernel
theorem d10_lonely_26 : decode c10_lonely 26 = .ok (.iaload, 1) := by decide +kernel
theorem d10_lonely_27 : decode c10_lonely 27 = .ok (.if_icmp .ge 29, 3) := by decide +kernel
theorem d10_lonely_30 : decode c10_lonely 30 = .ok (.iload_n 1, 1) := by decide +kernel
theorem d10_lonely_31 : decode c10_lonely 31 = .ok (.aload_n 0, 1) := by decide +kernel
theorem d10_lonely_32 : decode c10_lonely 32 = .ok (.getfield 80, 3) := by decide +kernel
theorem d10_lonely_35 : decode c10_lonely 35 = .ok (.iload_n 2, 1) := by decide +kernel
theorem d10_lonely_36 : decode c10_lonely 36 = .ok (.iaload, 1) := by decide +kernel
theorem d10_lonely_37 : decode c10_lonely 37 = .ok (.iconst (-1), 1) := by decide +kernel
theorem d10_lonely_38 : decode c10_lonely 38 = .ok (.if_icmp .ne 9, 3) := by decide +kernel
theorem d10_lonely_41 : decode c10_lonely 41 = .ok (.iconst 1, 1) := by decide +kernel
theorem d10_lonely_42 : decode c10_lonely 42 = .ok (.iload_n 2, 1) := by decide +kernel
theorem d10_lonely_43 : decode c10_lonely 43 = .ok (.ishl, 1) := by decide +kernel
theorem d10_lonely_44 : decode c10_lonely 44 = .ok (.goto 4, 3) := by decide +kernel
theorem d10_lonely_47 : decode c10_lonely 47 = .ok (.iconst 0, 1) := by decide +kernel
theorem d10_lonely_48 : decode c10_lonely 48 = .ok (.ior, 1) := by decide +kernel
theorem d10_lonely_49 : decode c10_lonely 49 = .ok (.istore_n 1, 1) := by decide +kernel
theorem d10_lonely_50 : decode c10_lonely 50 = .ok (.iinc 2 1, 3) := by decide +kernel
theorem d10_lonely_53 : decode c10_lonely 53 = .ok (.goto (-34), 3) := by decide +kernel
theorem d10_lonely_56 : decode c10_lonely 56 = .ok (.iload_n 1, 1) := by decide +kernel
theorem d10_lonely_57 : decode c10_lonely 57 = .ok (.ireturn, 1) := by decide +kernel
def f10_lonely (D : Mem) : Option (Int × Mem) :=
  Option.bind (f10_layBearers D) fun (a1 : Int × Mem) =>
  Option.bind (f10_isParish a1.2) fun (a2 : Int) =>
  if w32 a2 = 0 then
    some ((-2), a1.2)
  else
    Option.bind (@loop (Int × Int) (Int) (fun s1 =>
      if w32 s1.2 < w32 (a1.2 118 7) then
        if 0 ≤ s1.2 ∧ s1.2 < 8 then
          Option.bind (
            if w32 (a1.2 139 s1.2.toNat) = w32 (-1) then
              some (shl32 1 s1.2)
            else
              some 0
          ) fun (j1 : Int) =>
          some (Sum.inl ((or32 s1.1 j1), (s1.2 + 1)))
        else none
      else
        some (Sum.inr s1.1)
    ) FU (0, 0)) fun (b1 : Int) =>
    some (b1, a1.2)
set_option maxHeartbeats 4000000 in
theorem ok10_lonely {l : Launch} {X : XT} {n : Nat} {D : Mem} {Q : Option Value → Nat → Rho → Mem → Prop} (hn : 147 ≤ n)  (h : wpo (f10_lonely D) (fun a => Q (some (vI a.1)) n rt a.2)) : MOK l y10_lonely c10_lonely 3 (some .int) { frames := 4, cells := 0, slots := 0, locals := 96 } 0 0 X [vR X 117] n rt D Q := by
  refine MOK_of 10 (by decide +kernel) rfl (lv := [(0, vR X 117)]) (Nat.le_of_ble_eq_true rfl) rfl (fun K hK F hnm => ?_)
  subst hK
  unfold f10_lonely at h
  refine r_aload_nR F 0 rfl rfl d10_lonely_0 ?_
  replace h := wpo_bind h
  refine r_callV0 F lm10_379 mf10_layBearers (vc117 hn) rfl (fr := 3) (lo := 72) (As := []) (rest := []) ⟨Nat.le_of_ble_eq_true rfl, Nat.le_of_ble_eq_true rfl⟩ rfl (Nat.le_of_ble_eq_true rfl) ⟨Nat.zero_le _, Nat.zero_le _⟩ d10_lonely_1 ?_
  refine ok10_layBearers hn  (kIm h (fun a1 h => ?_))
  refine r_pop F rfl d10_lonely_4 ?_
  refine r_aload_nR F 0 rfl rfl d10_lonely_5 ?_
  replace h := wpo_bind h
  refine r_callV0 F lm10_113 mf10_isParish (vc117 hn) rfl (fr := 0) (lo := 0) (As := []) (rest := []) ⟨Nat.le_of_ble_eq_true rfl, Nat.le_of_ble_eq_true rfl⟩ rfl (Nat.le_of_ble_eq_true rfl) ⟨Nat.zero_le _, Nat.zero_le _⟩ d10_lonely_6 ?_
  refine ok10_isParish hn  (kI h (fun a2 h => ?_))
  refine r_if_ne F (tgt := 15) d10_lonely_9 (by decide) (fun hb => ?_) (fun hb => ?_)
  · replace h := wpo_neg h hb
    refine r_iconst F (z := 0) d10_lonely_15 ?_
    refine r_istore_n F (lv' := [(1, vI 0), (0, vR X 117)]) rfl (Nat.le_of_ble_eq_true rfl) rfl d10_lonely_16 ?_
    refine r_iconst F (z := 0) d10_lonely_17 ?_
    refine r_istore_n F (lv' := [(2, vI 0), (1, vI 0), (0, vR X 117)]) rfl (Nat.le_of_ble_eq_true rfl) rfl d10_lonely_18 ?_
    refine r_weak [2, 1, 0] rfl ?_
    refine at_loopj (A := fun (s1 : Int × Int) => At K X (ZQ K X Q) 0 0 n rt 3 19 [(0, vR X 117), (1, vI s1.1), (2, vI s1.2)] [] a1.2) (B := fun (b1 : Int) => At K X (ZQ K X Q) 0 0 n rt 3 56 [(1, vI b1)] [] a1.2) h (fun b1 h => ?_) (fun s1 h => ?_)
    · refine r_iload_n F 0 rfl rfl d10_lonely_56 ?_
      replace h := wpo_some h
      exact r_iret F h d10_lonely_57
    · refine r_iload_n F 2 rfl rfl d10_lonely_19 ?_
      refine r_aload_nR F 0 rfl rfl d10_lonely_20 ?_
      refine r_getR F (z := 118) lf10_9 (vc117 hn) z117_1 d10_lonely_21 ?_
      refine r_bipush F (z := 7) (by decide) d10_lonely_24 ?_
      refine r_ialdC F (j := 7) (vc118 hn) (by decide) rfl d10_lonely_26 ?_
      refine r_icmp_ge F (tgt := 56) d10_lonely_27 (by decide) (fun hb => ?_) (fun hb => ?_)
      · replace h := wpo_neg h hb
        refine r_weak [1] rfl ?_
        replace h := wpo_inr h
        exact h
      · replace h := wpo_pos h hb
        refine r_iload_n F 1 rfl rfl d10_lonely_30 ?_
        refine r_aload_nR F 0 rfl rfl d10_lonely_31 ?_
        refine r_getR F (z := 139) lf10_80 (vc117 hn) z117_38 d10_lonely_32 ?_
        refine r_iload_n F 2 rfl rfl d10_lonely_35 ?_
        obtain ⟨hx1, h⟩ := wpo_chk h
        refine r_iald F (vc139 hn) hx1 d10_lonely_36 ?_
        refine r_iconst F (z := (-1)) d10_lonely_37 ?_
        refine at_join (B := fun (j1 : Int) => At K X (ZQ K X Q) 0 0 n rt 3 48 [(0, vR X 117), (2, vI s1.2)] [vI j1, vI s1.1] a1.2) h (fun j1 h => ?_) (fun h => ?_)
        · refine r_ior F d10_lonely_48 ?_
          refine r_istore_n F (lv' := [(1, vI (or32 s1.1 j1)), (0, vR X 117), (2, vI s1.2)]) rfl (Nat.le_of_ble_eq_true rfl) rfl d10_lonely_49 ?_
          refine r_iinc F 2 (lv' := [(2, vI (s1.2 + 1)), (1, vI (or32 s1.1 j1)), (0, vR X 117)]) rfl (Nat.le_of_ble_eq_true rfl) rfl d10_lonely_50 ?_
          refine r_goto F (tgt := 19) (by decide) d10_lonely_53 ?_
          refine r_weak [2, 1, 0] rfl ?_
          replace h := wpo_inl h
          exact h
        · refine r_icmp_ne F (tgt := 47) d10_lonely_38 (by decide) (fun hb => ?_) (fun hb => ?_)
          · replace h := wpo_neg h hb
            refine r_iconst F (z := 0) d10_lonely_47 ?_
            refine r_weak [0, 2] rfl ?_
            replace h := wpo_some h
            exact h
          · replace h := wpo_pos h hb
            refine r_iconst F (z := 1) d10_lonely_41 ?_
            refine r_iload_n F 2 rfl rfl d10_lonely_42 ?_
            refine r_ishl F d10_lonely_43 ?_
            refine r_goto F (tgt := 48) (by decide) d10_lonely_44 ?_
            refine r_weak [0, 2] rfl ?_
            replace h := wpo_some h
            exact h
  · replace h := wpo_pos h hb
    refine r_bipush F (z := (-2)) (by decide) d10_lonely_12 ?_
    replace h := wpo_some h
    exact r_iret F h d10_lonely_14
theorem d10_kinder_0 : decode c10_kinder 0 = .ok (.aload_n 0, 1) := by decide +kernel
theorem d10_kinder_1 : decode c10_kinder 1 = .ok (.invokevirtual 274, 3) := by decide +kernel
theorem d10_kinder_4 : decode c10_kinder 4 = .ok (.aload_n 0, 1) := by decide +kernel
theorem d10_kinder_5 : decode c10_kinder 5 = .ok (.iload_n 1, 1) := by decide +kernel
theorem d10_kinder_6 : decode c10_kinder 6 = .ok (.invokevirtual 382, 3) := by decide +kernel
theorem d10_kinder_9 : decode c10_kinder 9 = .ok (.ifCond .ne 6, 3) := by decide +kernel
theorem d10_kinder_12 : decode c10_kinder 12 = .ok (.bipush (-2), 2) := by decide +kernel
theorem d10_kinder_14 : decode c10_kinder 14 = .ok (.ireturn, 1) := by decide +kernel
theorem d10_kinder_15 : decode c10_kinder 15 = .ok (.iconst 0, 1) := by decide +kernel
theorem d10_kinder_16 : decode c10_kinder 16 = .ok (.istore_n 2, 1) := by decide +kernel
theorem d10_kinder_17 : decode c10_kinder 17 = .ok (.iload_n 2, 1) := by decide +kernel
theorem d10_kinder_18 : decode c10_kinder 18 = .ok (.bipush 20, 2) := by decide +kernel
theorem d10_kinder_20 : decode c10_kinder 20 = .ok (.if_icmp .gt 24, 3) := by decide +kernel
theorem d10_kinder_23 : decode c10_kinder 23 = .ok (.aload_n 0, 1) := by decide +kernel
theorem d10_kinder_24 : decode c10_kinder 24 = .ok (.iload_n 1, 1) := by decide +kernel
theorem d10_kinder_25 : decode c10_kinder 25 = .ok (.iload_n 2, 1) := by decide +kernel
theorem d10_kinder_26 : decode c10_kinder 26 = .ok (.invokevirtual 376, 3) := by decide +kernel
theorem d10_kinder_29 : decode c10_kinder 29 = .ok (.iload_n 1, 1) := by decide +kernel
theorem d10_kinder_30 : decode c10_kinder 30 = .ok (.invokestatic 328, 3) := by decide +kernel
theorem d10_kinder_33 : decode c10_kinder 33 = .ok (.if_icmp .ne 5, 3) := by decide +kernel
theorem d10_kinder_36 : decode c10_kinder 36 = .ok (.iload_n 2, 1) := by decide +kernel
theorem d10_kinder_37 : decode c10_kinder 37 = .ok (.ireturn, 1) := by decide +kernel
theorem d10_kinder_38 : decode c10_kinder 38 = .ok (.iinc 2 1, 3) := by decide +kernel
theorem d10_kinder_41 : decode c10_kinder 41 = .ok (.goto (-24), 3) := by decide +kernel
theorem d10_kinder_44 : decode c10_kinder 44 = .ok (.iconst (-1), 1) := by decide +kernel
theorem d10_kinder_45 : decode c10_kinder 45 = .ok (.ireturn, 1) := by decide +kernel
def f10_kinder (D : Mem) (p0 : Int) : Option (Int × Mem) :=
  Option.bind (f10_asItIs D) fun (a1 : Mem) =>
  Option.bind (f10_isSet a1 p0) fun (a2 : Int) =>
  if w32 a2 = 0 then
    some ((-2), a1)
  else
    Option.bind (@loop (Int × Mem) ((Mem) ⊕ (Int × Mem)) (fun s1 =>
      if w32 20 < w32 s1.1 then
        some (Sum.inr (Sum.inl s1.2))
      else
        Option.bind (f10_layPairs s1.2 p0 s1.1) fun (a3 : Int × Mem) =>
        Option.bind (f10_bits a3.2 p0) fun (a4 : Int) =>
        if w32 a3.1 = w32 a4 then
          some (Sum.inr (Sum.inr (s1.1, a3.2)))
        else
          some (Sum.inl ((s1.1 + 1), a3.2))
    ) FU (0, a1)) (fun z => Sum.elim (fun (b1 : Mem) =>
      some ((-1), b1)
    ) (fun rv => some rv) z)
set_option maxHeartbeats 4000000 in
theorem ok10_kinder {l : Launch} {X : XT} {n : Nat} {D : Mem} {Q : Option Value → Nat → Rho → Mem → Prop} (hn : 147 ≤ n) {p0 : Int}  (h : wpo (f10_kinder D p0) (fun a => Q (some (vI a.1)) n rt a.2)) : MOK l y10_kinder c10_kinder 3 (some .int) { frames := 3, cells := 0, slots := 0, locals := 72 } 0 0 X [vR X 117, vI p0] n rt D Q := by
  refine MOK_of 10 (by decide +kernel) rfl (lv := [(0, vR X 117), (1, vI p0)]) (Nat.le_of_ble_eq_true rfl) rfl (fun K hK F hnm => ?_)
  subst hK
  unfold f10_kinder at h
  refine r_aload_nR F 0 rfl rfl d10_kinder_0 ?_
  replace h := wpo_bind h
  refine r_callV0 F lm10_274 mf10_asItIs (vc117 hn) rfl (fr := 1) (lo := 22) (As := []) (rest := []) ⟨Nat.le_of_ble_eq_true rfl, Nat.le_of_ble_eq_true rfl⟩ rfl (Nat.le_of_ble_eq_true rfl) ⟨Nat.zero_le _, Nat.zero_le _⟩ d10_kinder_1 ?_
  refine ok10_asItIs hn  (kVm h (fun a1 h => ?_))
  refine r_aload_nR F 0 rfl rfl d10_kinder_4 ?_
  refine r_iload_n F 1 rfl rfl d10_kinder_5 ?_
  replace h := wpo_bind h
  refine r_callV0 F lm10_382 mf10_isSet (vc117 hn) rfl (fr := 1) (lo := 25) (As := [vI p0]) (rest := []) ⟨Nat.le_of_ble_eq_true rfl, Nat.le_of_ble_eq_true rfl⟩ rfl (Nat.le_of_ble_eq_true rfl) ⟨Nat.zero_le _, Nat.zero_le _⟩ d10_kinder_6 ?_
  refine ok10_isSet hn  (kI h (fun a2 h => ?_))
  refine r_if_ne F (tgt := 15) d10_kinder_9 (by decide) (fun hb => ?_) (fun hb => ?_)
  · replace h := wpo_neg h hb
    refine r_iconst F (z := 0) d10_kinder_15 ?_
    refine r_istore_n F (lv' := [(2, vI 0), (0, vR X 117), (1, vI p0)]) rfl (Nat.le_of_ble_eq_true rfl) rfl d10_kinder_16 ?_
    refine r_weak [1, 2, 0] rfl ?_
    refine at_loopj (A := fun (s1 : Int × Mem) => At K X (ZQ K X Q) 0 0 n rt 3 17 [(0, vR X 117), (1, vI p0), (2, vI s1.1)] [] s1.2) (B := Sum.elim (fun (b1 : Mem) => At K X (ZQ K X Q) 0 0 n rt 3 44 [] [] b1) (fun rv => Q (some (vI rv.1)) n rt rv.2)) h (fun z h => ?_) (fun s1 h => ?_)
    · rcases z with b1 | rv
      · replace h := elim_l h
        refine el_li ?_
        refine r_iconst F (z := (-1)) d10_kinder_44 ?_
        replace h := wpo_some h
        exact r_iret F h d10_kinder_45
      · replace h := elim_r h
        replace h := wpo_some h
        exact el_ri h
    · refine r_iload_n F 2 rfl rfl d10_kinder_17 ?_
      refine r_bipush F (z := 20) (by decide) d10_kinder_18 ?_
      refine r_icmp_gt F (tgt := 44) d10_kinder_20 (by decide) (fun hb => ?_) (fun hb => ?_)
      · replace h := wpo_pos h hb
        refine r_weak [] rfl ?_
        replace h := wpo_inr h
        replace h := el_l h
        exact h
      · replace h := wpo_neg h hb
        refine r_aload_nR F 0 rfl rfl d10_kinder_23 ?_
        refine r_iload_n F 1 rfl rfl d10_kinder_24 ?_
        refine r_iload_n F 2 rfl rfl d10_kinder_25 ?_
        replace h := wpo_bind h
        refine r_callV0 F lm10_376 mf10_layPairs (vc117 hn) rfl (fr := 2) (lo := 45) (As := [vI p0, vI s1.1]) (rest := []) ⟨Nat.le_of_ble_eq_true rfl, Nat.le_of_ble_eq_true rfl⟩ rfl (Nat.le_of_ble_eq_true rfl) ⟨Nat.zero_le _, Nat.zero_le _⟩ d10_kinder_26 ?_
        refine ok10_layPairs hn  (kIm h (fun a3 h => ?_))
        refine r_iload_n F 1 rfl rfl d10_kinder_29 ?_
        replace h := wpo_bind h
        refine r_callS0 F lm10_328 mf10_bits rfl (fr := 0) (lo := 0) (As := [vI p0]) (rest := [vI a3.1]) ⟨Nat.le_of_ble_eq_true rfl, Nat.le_of_ble_eq_true rfl⟩ rfl (Nat.le_of_ble_eq_true rfl) ⟨Nat.zero_le _, Nat.zero_le _⟩ d10_kinder_30 ?_
        refine ok10_bits hn  (kI h (fun a4 h => ?_))
        refine r_icmp_ne F (tgt := 38) d10_kinder_33 (by decide) (fun hb => ?_) (fun hb => ?_)
        · replace h := wpo_neg h hb
          refine r_iinc F 2 (lv' := [(2, vI (s1.1 + 1)), (0, vR X 117), (1, vI p0)]) rfl (Nat.le_of_ble_eq_true rfl) rfl d10_kinder_38 ?_
          refine r_goto F (tgt := 17) (by decide) d10_kinder_41 ?_
          refine r_weak [1, 2, 0] rfl ?_
          replace h := wpo_inl h
          exact h
        · replace h := wpo_pos h hb
          refine r_iload_n F 2 rfl rfl d10_kinder_36 ?_
          replace h := el_r (wpo_inr h)
          exact r_iret F h d10_kinder_37
  · replace h := wpo_pos h hb
    refine r_bipush F (z := (-2)) (by decide) d10_kinder_12 ?_
    replace h := wpo_some h
    exact r_iret F h d10_kinder_14
theorem d10_numberAt_0 : decode c10_numberAt 0 = .ok (.aload_n 0, 1) := by decide +kernel
theorem d10_numberAt_1 : decode c10_numberAt 1 = .ok (.getfield 98, 3) := by decide +kernel
theorem d10_numberAt_4 : decode c10_numberAt 4 = .ok (.bipush 60, 2) := by decide +kernel
theorem d10_numberAt_6 : decode c10_numberAt 6 = .ok (.iload_n 1, 1) := by decide +kernel
theorem d10_numberAt_7 : decode c10_numberAt 7 = .ok (.imul, 1) := by decide +kernel
theorem d10_numberAt_8 : decode c10_numberAt 8 = .ok (.iload_n 2, 1) := by decide +kernel
theorem d10_numberAt_9 : decode c10_numberAt 9 = .ok (.iadd, 1) := by decide +kernel
theorem d10_numberAt_10 : decode c10_numberAt 10 = .ok (.laload, 1) := by decide +kernel
theorem d10_numberAt_11 : decode c10_numberAt 11 = .ok (.lreturn, 1) := by decide +kernel
def f10_numberAt (D : Mem) (p0 : Int) (p1 : Int) : Option (Int) :=
  if 0 ≤ ((60 * p0) + p1) ∧ ((60 * p0) + p1) < 240 then
    some (D 145 ((60 * p0) + p1).toNat)
  else none
set_option maxHeartbeats 4000000 in
theorem ok10_numberAt {l : Launch} {X : XT} {n : Nat} {D : Mem} {Q : Option Value → Nat → Rho → Mem → Prop} (hn : 147 ≤ n) {p0 : Int} {p1 : Int}  (h : wpo (f10_numberAt D p0 p1) (fun a => Q (some (vL a)) n rt D)) : MOK l y10_numberAt c10_numberAt 3 (some .long) { frames := 0, cells := 0, slots := 0, locals := 0 } 0 0 X [vR X 117, vI p0, vI p1] n rt D Q := by
  refine MOK_of 10 (by decide +kernel) rfl (lv := [(0, vR X 117), (1, vI p0), (2, vI p1)]) (Nat.le_of_ble_eq_true rfl) rfl (fun K hK F hnm => ?_)
  subst hK
  unfold f10_numberAt at h
  refine r_aload_nR F 0 rfl rfl d10_numberAt_0 ?_
  refine r_getR F (z := 145) lf10_98 (vc117 hn) z117_45 d10_numberAt_1 ?_
  refine r_bipush F (z := 60) (by decide) d10_numberAt_4 ?_
  refine r_iload_n F 1 rfl rfl d10_numberAt_6 ?_
  refine r_imul F d10_numberAt_7 ?_
  refine r_iload_n F 2 rfl rfl d10_numberAt_8 ?_
  refine r_iadd F d10_numberAt_9 ?_
  obtain ⟨hx1, h⟩ := wpo_chk h
  refine r_lald F (vc145 hn) hx1 d10_numberAt_10 ?_
  replace h := wpo_some h
  exact r_lret F h d10_numberAt_11
theorem d10_isSlot_0 : decode c10_isSlot 0 = .ok (.iload_n 0, 1) := by decide +kernel
theorem d10_isSlot_1 : decode c10_isSlot 1 = .ok (.i2l, 1) := by decide +kernel
theorem d10_isSlot_2 : decode c10_isSlot 2 = .ok (.lconst 0, 1) := by decide +kernel
theorem d10_isSlot_3 : decode c10_isSlot 3 = .ok (.ldc2_w 117, 3) := by decide +kernel
theorem d10_isSlot_6 : decode c10_isSlot 6 = .ok (.invokestatic 109, 3) := by decide +kernel
theorem d10_isSlot_9 : decode c10_isSlot 9 = .ok (.ireturn, 1) := by decide +kernel
def f10_isSlot (D : Mem) (p0 : Int) : Option (Int) :=
  Option.bind (f10_in D (w32 p0) 0 3) fun (a1 : Int) =>
  if a1 = 0 ∨ a1 = 1 then
    some a1
  else none
set_option maxHeartbeats 4000000 in
theorem ok10_isSlot {l : Launch} {X : XT} {n : Nat} {D : Mem} {Q : Option Value → Nat → Rho → Mem → Prop} (hn : 147 ≤ n) {p0 : Int}  (h : wpo (f10_isSlot D p0) (fun a => Q (some (vI a)) n rt D)) : MOK l y10_isSlot c10_isSlot 1 (some .boolean) { frames := 1, cells := 0, slots := 0, locals := 25 } 0 0 X [vI p0] n rt D Q := by
  refine MOK_of 10 (by decide +kernel) rfl (lv := [(0, vI p0)]) (Nat.le_of_ble_eq_true rfl) rfl (fun K hK F hnm => ?_)
  subst hK
  unfold f10_isSlot at h
  refine r_iload_n F 0 rfl rfl d10_isSlot_0 ?_
  refine r_i2l F d10_isSlot_1 ?_
  refine r_lconst F (x := 0) (by decide) d10_isSlot_2 ?_
  refine r_ldc2 F (z := 3) lc10_117 d10_isSlot_3 ?_
  replace h := wpo_bind h
  refine r_callS0 F lm10_109 mf10_in rfl (fr := 0) (lo := 0) (As := [vL (w32 p0), vL 0, vL 3]) (rest := []) ⟨Nat.le_of_ble_eq_true rfl, Nat.le_of_ble_eq_true rfl⟩ rfl (Nat.le_of_ble_eq_true rfl) ⟨Nat.zero_le _, Nat.zero_le _⟩ d10_isSlot_6 ?_
  refine ok10_in hn  (kI h (fun a1 h => ?_))
  obtain ⟨hx1, h⟩ := wpo_chk h
  replace h := wpo_some h
  exact r_zret F hx1 h d10_isSlot_9
theorem d10_layWhose_0 : decode c10_layWhose 0 = .ok (.iload_n 1, 1) := by decide +kernel
theorem d10_layWhose_1 : decode c10_layWhose 1 = .ok (.invokestatic 385, 3) := by decide +kernel
theorem d10_layWhose_4 : decode c10_layWhose 4 = .ok (.ifCond .eq 10, 3) := by decide +kernel
theorem d10_layWhose_7 : decode c10_layWhose 7 = .ok (.aload_n 0, 1) := by decide +kernel
theorem d10_layWhose_8 : decode c10_layWhose 8 = .ok (.invokevirtual 113, 3) := by decide +kernel
theorem d10_layWhose_11 : decode c10_layWhose 11 = .ok (.ifCond .ne 6, 3) := by decide +kernel
theorem d10_layWhose_14 : decode c10_layWhose 14 = .ok (.bipush (-2), 2) := by decide +kernel
theorem d10_layWhose_16 : decode c10_layWhose 16 = .ok (.ireturn, 1) := by decide +kernel
theorem d10_layWhose_17 : decode c10_layWhose 17 = .ok (.aload_n 0, 1) := by decide +kernel
theorem d10_layWhose_18 : decode c10_layWhose 18 = .ok (.getfield 92, 3) := by decide +kernel
theorem d10_layWhose_21 : decode c10_layWhose 21 = .ok (.iload_n 1, 1) := by decide +kernel
theorem d10_layWhose_22 : decode c10_layWhose 22 = .ok (.iaload, 1) := by decide +kernel
theorem d10_layWhose_23 : decode c10_layWhose 23 = .ok (.iconst (-1), 1) := by decide +kernel
theorem d10_layWhose_24 : decode c10_layWhose 24 = .ok (.if_icmp .ne 6, 3) := by decide +kernel
theorem d10_layWhose_27 : decode c10_layWhose 27 = .ok (.bipush (-6), 2) := by decide +kernel
theorem d10_layWhose_29 : decode c10_layWhose 29 = .ok (.ireturn, 1) := by decide +kernel
theorem d10_layWhose_30 : decode c10_layWhose 30 = .ok (.aload_n 0, 1) := by decide +kernel
theorem d10_layWhose_31 : decode c10_layWhose 31 = .ok (.getfield 92, 3) := by decide +kernel
theorem d10_layWhose_34 : decode c10_layWhose 34 = .ok (.iload_n 1, 1) := by decide +kernel
theorem d10_layWhose_35 : decode c10_layWhose 35 = .ok (.iaload, 1) := by decide +kernel
theorem d10_layWhose_36 : decode c10_layWhose 36 = .ok (.iconst 2, 1) := by decide +kernel
theorem d10_layWhose_37 : decode c10_layWhose 37 = .ok (.irem, 1) := by decide +kernel
theorem d10_layWhose_38 : decode c10_layWhose 38 = .ok (.ifCond .eq 6, 3) := by decide +kernel
theorem d10_layWhose_41 : decode c10_layWhose 41 = .ok (.bipush (-2), 2) := by decide +kernel
theorem d10_layWhose_43 : decode c10_layWhose 43 = .ok (.ireturn, 1) := by decide +kernel
theorem d10_layWhose_44 : decode c10_layWhose 44 = .ok (.iconst 0, 1) := by decide +kernel
theorem d10_layWhose_45 : decode c10_layWhose 45 = .ok (.istore_n 2, 1) := by decide +kernel
theorem d10_layWhose_46 : decode c10_layWhose 46 = .ok (.iload_n 2, 1) := by decide +kernel
theorem d10_layWhose_47 : decode c10_layWhose 47 = .ok (.aload_n 0, 1) := by decide +kernel
theorem d10_layWhose_48 : decode c10_layWhose 48 = .ok (.getfield 92, 3) := by decide +kernel
theorem d10_layWhose_51 : decode c10_layWhose 51 = .ok (.iload_n 1, 1) := by decide +kernel
theorem d10_layWhose_52 : decode c10_layWhose 52 = .ok (.iaload, 1) := by decide +kernel
theorem d10_layWhose_53 : decode c10_layWhose 53 = .ok (.if_icmp .ge 43, 3) := by decide +kernel
theorem d10_layWhose_56 : decode c10_layWhose 56 = .ok (.aload_n 0, 1) := by decide +kernel
theorem d10_layWhose_57 : decode c10_layWhose 57 = .ok (.aload_n 0, 1) := by decide +kernel
theorem d10_layWhose_58 : decode c10_layWhose 58 = .ok (.iload_n 1, 1) := by decide +kernel
theorem d10_layWhose_59 : decode c10_layWhose 59 = .ok (.iload_n 2, 1) := by decide +kernel
theorem d10_layWhose_60 : decode c10_layWhose 60 = .ok (.invokevirtual 388, 3) := by decide +kernel
theorem d10_layWhose_63 : decode c10_layWhose 63 = .ok (.invokevirtual 287, 3) := by decide +kernel
theorem d10_layWhose_66 : decode c10_layWhose 66 = .ok (.ifCond .eq 21, 3) := by decide +kernel
theorem d10_layWhose_69 : decode c10_layWhose 69 = .ok (.aload_n 0, 1) := by decide +kernel
theorem d10_layWhose_70 : decode c10_layWhose 70 = .ok (.iload_n 1, 1) := by decide +kernel
theorem d10_layWhose_71 : decode c10_layWhose 71 = .ok (.iload_n 2, 1) := by decide +kernel
theorem d10_layWhose_72 : decode c10_layWhose 72 = .ok (.iconst 1, 1) := by decide +kernel
theorem d10_layWhose_73 : decode c10_layWhose 73 = .ok (.iadd, 1) := by decide +kernel
theorem d10_layWhose_74 : decode c10_layWhose 74 = .ok (.invokevirtual 388, 3) := by decide +kernel
theorem d10_layWhose_77 : decode c10_layWhose 77 = .ok (.lconst 0, 1) := by decide +kernel
theorem d10_layWhose_78 : decode c10_layWhose 78 = .ok (.ldc2_w 310, 3) := by decide +kernel
theorem d10_layWhose_81 : decode c10_layWhose 81 = .ok (.invokestatic 109, 3) := by decide +kernel
theorem d10_layWhose_84 : decode c10_layWhose 84 = .ok (.ifCond .ne 6, 3) := by decide +kernel
theorem d10_layWhose_87 : decode c10_layWhose 87 = .ok (.bipush (-2), 2) := by decide +kernel
theorem d10_layWhose_89 : decode c10_layWhose 89 = .ok (.ireturn, 1) := by decide +kernel
theorem d10_layWhose_90 : decode c10_layWhose 90 = .ok (.iinc 2 2, 3) := by decide +kernel
theorem d10_layWhose_93 : decode c10_layWhose 93 = .ok (.goto (-47), 3) := by decide +kernel
theorem d10_layWhose_96 : decode c10_layWhose 96 = .ok (.aload_n 0, 1) := by decide +kernel
theorem d10_layWhose_97 : decode c10_layWhose 97 = .ok (.invokevirtual 274, 3) := by decide +kernel
theorem d10_layWhose_100 : decode c10_layWhose 100 = .ok (.iconst 0, 1) := by decide +kernel
theorem d10_layWhose_101 : decode c10_layWhose 101 = .ok (.istore_n 2, 1) := by decide +kernel
theorem d10_layWhose_102 : decode c10_layWhose 102 = .ok (.iconst 0, 1) := by decide +kernel
theorem d10_layWhose_103 : decode c10_layWhose 103 = .ok (.istore_n 3, 1) := by decide +kernel
theorem d10_layWhose_104 : decode c10_layWhose 104 = .ok (.iload_n 3, 1) := by decide +kernel
theorem d10_layWhose_105 : decode c10_layWhose 105 = .ok (.bipush 8, 2) := by decide +kernel
theorem d10_layWhose_107 : decode c10_layWhose 107 = .ok (.if_icmp .gt 149, 3) := by decide +kernel
theorem d10_layWhose_110 : decode c10_layWhose 110 = .ok (.iload_n 3, 1) := by decide +kernel
theorem d10_layWhose_111 : decode c10_layWhose 111 = .ok (.bipush 8, 2) := by decide +kernel
theorem d10_layWhose_113 : decode c10_layWhose 113 = .ok (.if_icmp .ge 14, 3) := by decide +kernel
theorem d10_layWhose_116 : decode c10_layWhose 116 = .ok (.aload_n 0, 1) := by decide +kernel
theorem d10_layWhose_117 : decode c10_layWhose 117 = .ok (.iload_n 3, 1) := by decide +kernel
theorem d10_layWhose_118 : decode c10_layWhose 118 = .ok (.invokevirtual 283, 3) := by decide +kernel
theorem d10_layWhose_121 : decode c10_layWhose 121 = .ok (.ifCond .ne 6, 3) := by decide +kernel
theorem d10_layWhose_124 : decode c10_layWhose 124 = .ok (.goto 126, 3) := by decide +kernel
theorem d10_layWhose_127 : decode c10_layWhose 127 = .ok (.aload_n 0, 1) := by decide +kernel
theorem d10_layWhose_128 : decode c10_layWhose 128 = .ok (.iload_n 3, 1) := by decide +kernel
theorem d10_layWhose_129 : decode c10_layWhose 129 = .ok (.putfield 234, 3) := by decide +kernel
theorem d10_layWhose_132 : decode c10_layWhose 132 = .ok (.aload_n 0, 1) := by decide +kernel
theorem d10_layWhose_133 : decode c10_layWhose 133 = .ok (.invokevirtual 277, 3) := by decide +kernel
theorem d10_layWhose_136 : decode c10_layWhose 136 = .ok (.iconst 0, 1) := by decide +kernel
theorem d10_layWhose_137 : decode c10_layWhose 137 = .ok (.istore 4, 2) := by decide +kernel
theorem d10_layWhose_139 : decode c10_layWhose 139 = .ok (.iload 4, 2) := by decide +kernel
theorem d10_layWhose_141 : decode c10_layWhose 141 = .ok (.aload_n 0, 1) := by decide +kernel
theorem d10_layWhose_142 : decode c10_layWhose 142 = .ok (.invokevirtual 256, 3) := by decide +kernel
theorem d10_layWhose_145 : decode c10_layWhose 145 = .ok (.if_icmp .ge 28, 3) := by decide +kernel
theorem d10_layWhose_148 : decode c10_layWhose 148 = .ok (.aload_n 0, 1) := by decide +kernel
theorem d10_layWhose_149 : decode c10_layWhose 149 = .ok (.getfield 83, 3) := by decide +kernel
theorem d10_layWhose_152 : decode c10_layWhose 152 = .ok (.bipush 12, 2) := by decide +kernel
theorem d10_layWhose_154 : decode c10_layWhose 154 = .ok (.iload_n 3, 1) := by decide +kernel
theorem d10_layWhose_155 : decode c10_layWhose 155 = .ok (.imul, 1) := by decide +kernel
theorem d10_layWhose_156 : decode c10_layWhose 156 = .ok (.iload 4, 2) := by decide +kernel
theorem d10_layWhose_158 : decode c10_layWhose 158 = .ok (.iadd, 1) := by decide +kernel
theorem d10_layWhose_159 : decode c10_layWhose 159 = .ok (.aload_n 0, 1) := by decide +kernel
theorem d10_layWhose_160 : decode c10_layWhose 160 = .ok (.getfield 55, 3) := by decide +kernel
theorem d10_layWhose_163 : decode c10_layWhose 163 = .ok (.iload 4, 2) := by decide +kernel
theorem d10_layWhose_165 : decode c10_layWhose 165 = .ok (.iaload, 1) := by decide +kernel
theorem d10_layWhose_166 : decode c10_layWhose 166 = .ok (.iastore, 1) := by decide +kernel
theorem d10_layWhose_167 : decode c10_layWhose 167 = .ok (.iinc 4 1, 3) := by decide +kernel
theorem d10_layWhose_170 : decode c10_layWhose 170 = .ok (.goto (-31), 3) := by decide +kernel
theorem d10_layWhose_173 : decode c10_layWhose 173 = .ok (.iconst 1, 1) := by decide +kernel
theorem d10_layWhose_174 : decode c10_layWhose 174 = .ok (.istore 4, 2) := by decide +kernel
theorem d10_layWhose_176 : decode c10_layWhose 176 = .ok (.iconst 0, 1) := by decide +kernel
theorem d10_layWhose_177 : decode c10_layWhose 177 = .ok (.istore 5, 2) := by decide +kernel
theorem d10_layWhose_179 : decode c10_layWhose 179 = .ok (.iload 5, 2) := by decide +kernel
theorem d10_layWhose_181 : decode c10_layWhose 181 = .ok (.aload_n 0, 1) := by decide +kernel
theorem d10_layWhose_182 : decode c10_layWhose 182 = .ok (.getfield 92, 3) := by decide +kernel
theorem d10_layWhose_185 : decode c10_layWhose 185 = .ok (.iload_n 1, 1) := by decide +kernel
theorem d10_layWhose_186 : decode c10_layWhose 186 = .ok (.iaload, 1) := by decide +kernel
theorem d10_layWhose_187 : decode c10_layWhose 187 = .ok (.if_icmp .ge 48, 3) := by decide +kernel
theorem d10_layWhose_190 : decode c10_layWhose 190 = .ok (.iload 4, 2) := by decide +kernel
theorem d10_layWhose_192 : decode c10_layWhose 192 = .ok (.ifCond .eq 34, 3) := by decide +kernel
theorem d10_layWhose_195 : decode c10_layWhose 195 = .ok (.aload_n 0, 1) := by decide +kernel
theorem d10_layWhose_196 : decode c10_layWhose 196 = .ok (.getfield 55, 3) := by decide +kernel
theorem d10_layWhose_199 : decode c10_layWhose 199 = .ok (.aload_n 0, 1) := by decide +kernel
theorem d10_layWhose_200 : decode c10_layWhose 200 = .ok (.iload_n 1, 1) := by decide +kernel
theorem d10_layWhose_201 : decode c10_layWhose 201 = .ok (.iload 5, 2) := by decide +kernel
theorem d10_layWhose_203 : decode c10_layWhose 203 = .ok (.invokevirtual 388, 3) := by decide +kernel
theorem d10_layWhose_206 : decode c10_layWhose 206 = .ok (.l2i, 1) := by decide +kernel
theorem d10_layWhose_207 : decode c10_layWhose 207 = .ok (.iaload, 1) := by decide +kernel
theorem d10_layWhose_208 : decode c10_layWhose 208 = .ok (.i2l, 1) := by decide +kernel
theorem d10_layWhose_209 : decode c10_layWhose 209 = .ok (.aload_n 0, 1) := by decide +kernel
theorem d10_layWhose_210 : decode c10_layWhose 210 = .ok (.iload_n 1, 1) := by decide +kernel
theorem d10_layWhose_211 : decode c10_layWhose 211 = .ok (.iload 5, 2) := by decide +kernel
theorem d10_layWhose_213 : decode c10_layWhose 213 = .ok (.iconst 1, 1) := by decide +kernel
theorem d10_layWhose_214 : decode c10_layWhose 214 = .ok (.iadd, 1) := by decide +kernel
theorem d10_layWhose_215 : decode c10_layWhose 215 = .ok (.invokevirtual 388, 3) := by decide +kernel
theorem d10_layWhose_218 : decode c10_layWhose 218 = .ok (.lcmp, 1) := by decide +kernel
theorem d10_layWhose_219 : decode c10_layWhose 219 = .ok (.ifCond .ne 7, 3) := by decide +kernel
theorem d10_layWhose_222 : decode c10_layWhose 222 = .ok (.iconst 1, 1) := by decide +kernel
theorem d10_layWhose_223 : decode c10_layWhose 223 = .ok (.goto 4, 3) := by decide +kernel
theorem d10_layWhose_226 : decode c10_layWhose 226 = .ok (.iconst 0, 1) := by decide +kernel
theorem d10_layWhose_227 : decode c10_layWhose 227 = .ok (.istore 4, 2) := by decide +kernel
theorem d10_layWhose_229 : decode c10_layWhose 229 = .ok (.iinc 5 2, 3) := by decide +kernel
theorem d10_layWhose_232 : decode c10_layWhose 232 = .ok (.goto (-53), 3) := by decide +kernel
theorem d10_layWhose_235 : decode c10_layWhose 235 = .ok (.iload_n 2, 1) := by decide +kernel
theorem d10_layWhose_236 : decode c10_layWhose 236 = .ok (.iload 4, 2) := by decide +kernel
theorem d10_layWhose_238 : decode c10_layWhose 238 = .ok (.ifCond .eq 9, 3) := by decide +kernel
theorem d10_layWhose_241 : decode c10_layWhose 241 = .ok (.iconst 1, 1) := by decide +kernel
theorem d10_layWhose_242 : decode c10_layWhose 242 = .ok (.iload_n 3, 1) := by decide +kernel
theorem d10_layWhose_243 : decode c10_layWhose 243 = .ok (.ishl, 1) := by decide +kernel
theorem d10_layWhose_244 : decode c10_layWhose 244 = .ok (.goto 4, 3) := by decide +kernel
theorem d10_layWhose_247 : decode c10_layWhose 247 = .ok (.iconst 0, 1) := by decide +kernel
theorem d10_layWhose_248 : decode c10_layWhose 248 = .ok (.ior, 1) := by decide +kernel
theorem d10_layWhose_249 : decode c10_layWhose 249 = .ok (.istore_n 2, 1) := by decide +kernel
theorem d10_layWhose_250 : decode c10_layWhose 250 = .ok (.iinc 3 1, 3) := by decide +kernel
theorem d10_layWhose_253 : decode c10_layWhose 253 = .ok (.goto (-149), 3) := by decide +kernel
theorem d10_layWhose_256 : decode c10_layWhose 256 = .ok (.iload_n 2, 1) := by decide +kernel
theorem d10_layWhose_257 : decode c10_layWhose 257 = .ok (.ireturn, 1) := by decide +kernel
def f10_layWhose (D : Mem) (p0 : Int) : Option (Int × Mem) :=
  Option.bind (f10_isSlot D p0) fun (a1 : Int) =>
  if w32 a1 = 0 then
    some ((-2), D)
  else
    Option.bind (f10_isParish D) fun (a2 : Int) =>
    if w32 a2 = 0 then
      some ((-2), D)
    else
      if 0 ≤ p0 ∧ p0 < 4 then
        if w32 (D 143 p0.toNat) = w32 (-1) then
          some ((-6), D)
        else
          if w32 (rem32 (D 143 p0.toNat) 2) = 0 then
            Option.bind (@loop (Int) ((Unit) ⊕ (Int × Mem)) (fun s1 =>
              if w32 s1 < w32 (D 143 p0.toNat) then
                Option.bind (f10_numberAt D p0 s1) fun (a3 : Int) =>
                Option.bind (f10_isNight D a3) fun (a4 : Int) =>
                if w32 a4 = 0 then
                  some (Sum.inr (Sum.inr ((-2), D)))
                else
                  Option.bind (f10_numberAt D p0 (s1 + 1)) fun (a5 : Int) =>
                  Option.bind (f10_in D a5 0 20) fun (a6 : Int) =>
                  if w32 a6 = 0 then
                    some (Sum.inr (Sum.inr ((-2), D)))
                  else
                    some (Sum.inl (s1 + 2))
              else
                some (Sum.inr (Sum.inl ()))
            ) FU 0) (fun z => Sum.elim (fun (b1 : Unit) =>
              Option.bind (f10_asItIs D) fun (a7 : Mem) =>
              Option.bind (@loop (Int × Int × Mem) (Int × Mem) (fun s2 =>
                if w32 8 < w32 s2.2.1 then
                  some (Sum.inr (s2.1, s2.2.2))
                else
                  Option.bind (
                    if w32 s2.2.1 < w32 8 then
                      Option.bind (f10_isPerson s2.2.2 s2.2.1) fun (a8 : Int) =>
                      if w32 a8 = 0 then
                        some false
                      else
                        some true
                    else
                      some true
                  ) fun (t1 : Bool) =>
                  Option.bind (
                    if t1 = true then
                      Option.bind (some (mset s2.2.2 117 21 s2.2.1)) fun (D1 : Mem) =>
                      Option.bind (f10_goNights D1) fun (a9 : Mem) =>
                      Option.bind (@loop (Int × Mem) (Mem) (fun s3 =>
                        Option.bind (f10_nights s3.2) fun (a10 : Int) =>
                        if w32 s3.1 < w32 a10 then
                          if 0 ≤ s3.1 ∧ s3.1 < 12 then
                            if 0 ≤ ((12 * s2.2.1) + s3.1) ∧ ((12 * s2.2.1) + s3.1) < 108 then
                              some (Sum.inl ((s3.1 + 1), (mset s3.2 140 ((12 * s2.2.1) + s3.1).toNat (s3.2 131 s3.1.toNat))))
                            else none
                          else none
                        else
                          some (Sum.inr s3.2)
                      ) FU (0, a9)) fun (b3 : Mem) =>
                      Option.bind (@loop (Int × Int) (Int) (fun s4 =>
                        if w32 s4.2 < w32 (b3 143 p0.toNat) then
                          Option.bind (
                            if w32 s4.1 = 0 then
                              some 0
                            else
                              Option.bind (f10_numberAt b3 p0 s4.2) fun (a11 : Int) =>
                              if 0 ≤ a11 ∧ a11 < 12 then
                                Option.bind (f10_numberAt b3 p0 (s4.2 + 1)) fun (a12 : Int) =>
                                if w64 (w32 (b3 131 a11.toNat)) = w64 a12 then
                                  some 1
                                else
                                  some 0
                              else none
                          ) fun (j2 : Int) =>
                          some (Sum.inl (j2, (s4.2 + 2)))
                        else
                          some (Sum.inr s4.1)
                      ) FU (1, 0)) fun (b4 : Int) =>
                      Option.bind (
                        if w32 b4 = 0 then
                          some 0
                        else
                          some (shl32 1 s2.2.1)
                      ) fun (j3 : Int) =>
                      some ((or32 s2.1 j3), b3)
                    else
                      some (s2.1, s2.2.2)
                  ) fun (j1 : Int × Mem) =>
                  some (Sum.inl (j1.1, (s2.2.1 + 1), j1.2))
              ) FU (0, 0, a7)) fun (b2 : Int × Mem) =>
              some (b2.1, b2.2)
            ) (fun rv => some rv) z)
          else
            some ((-2), D)
      else none
set_option maxHeartbeats 4000000 in
theorem ok10_layWhose {l : Launch} {X : XT} {n : Nat} {D : Mem} {Q : Option Value → Nat → Rho → Mem → Prop} (hn : 147 ≤ n) {p0 : Int}  (h : wpo (f10_layWhose D p0) (fun a => Q (some (vI a.1)) n rt a.2)) : MOK l y10_layWhose c10_layWhose 6 (some .int) { frames := 4, cells := 0, slots := 0, locals := 93 } 0 0 X [vR X 117, vI p0] n rt D Q := by
  refine MOK_of 10 (by decide +kernel) rfl (lv := [(0, vR X 117), (1, vI p0)]) (Nat.le_of_ble_eq_true rfl) rfl (fun K hK F hnm => ?_)
  subst hK
  unfold f10_layWhose at h
  refine r_iload_n F 1 rfl rfl d10_layWhose_0 ?_
  replace h := wpo_bind h
  refine r_callS0 F lm10_385 mf10_isSlot rfl (fr := 1) (lo := 25) (As := [vI p0]) (rest := []) ⟨Nat.le_of_ble_eq_true rfl, Nat.le_of_ble_eq_true rfl⟩ rfl (Nat.le_of_ble_eq_true rfl) ⟨Nat.zero_le _, Nat.zero_le _⟩ d10_layWhose_1 ?_
  refine ok10_isSlot hn  (kI h (fun a1 h => ?_))
  refine r_if_eq F (tgt := 14) d10_layWhose_4 (by decide) (fun hb => ?_) (fun hb => ?_)
  · replace h := wpo_pos h hb
    refine r_bipush F (z := (-2)) (by decide) d10_layWhose_14 ?_
    replace h := wpo_some h
    exact r_iret F h d10_layWhose_16
  · replace h := wpo_neg h hb
    refine r_aload_nR F 0 rfl rfl d10_layWhose_7 ?_
    replace h := wpo_bind h
    refine r_callV0 F lm10_113 mf10_isParish (vc117 hn) rfl (fr := 0) (lo := 0) (As := []) (rest := []) ⟨Nat.le_of_ble_eq_true rfl, Nat.le_of_ble_eq_true rfl⟩ rfl (Nat.le_of_ble_eq_true rfl) ⟨Nat.zero_le _, Nat.zero_le _⟩ d10_layWhose_8 ?_
    refine ok10_isParish hn  (kI h (fun a2 h => ?_))
    refine r_if_ne F (tgt := 17) d10_layWhose_11 (by decide) (fun hb => ?_) (fun hb => ?_)
    · replace h := wpo_neg h hb
      refine r_aload_nR F 0 rfl rfl d10_layWhose_17 ?_
      refine r_getR F (z := 143) lf10_92 (vc117 hn) z117_43 d10_layWhose_18 ?_
      refine r_iload_n F 1 rfl rfl d10_layWhose_21 ?_
      obtain ⟨hx1, h⟩ := wpo_chk h
      refine r_iald F (vc143 hn) hx1 d10_layWhose_22 ?_
      refine r_iconst F (z := (-1)) d10_layWhose_23 ?_
      refine r_icmp_ne F (tgt := 30) d10_layWhose_24 (by decide) (fun hb => ?_) (fun hb => ?_)
      · replace h := wpo_neg h hb
        refine r_aload_nR F 0 rfl rfl d10_layWhose_30 ?_
        refine r_getR F (z := 143) lf10_92 (vc117 hn) z117_43 d10_layWhose_31 ?_
        refine r_iload_n F 1 rfl rfl d10_layWhose_34 ?_
        refine r_iald F (vc143 hn) hx1 d10_layWhose_35 ?_
        refine r_iconst F (z := 2) d10_layWhose_36 ?_
        refine r_irem F (by decide +kernel) d10_layWhose_37 ?_
        refine r_if_eq F (tgt := 44) d10_layWhose_38 (by decide) (fun hb => ?_) (fun hb => ?_)
        · replace h := wpo_pos h hb
          refine r_iconst F (z := 0) d10_layWhose_44 ?_
          refine r_istore_n F (lv' := [(2, vI 0), (0, vR X 117), (1, vI p0)]) rfl (Nat.le_of_ble_eq_true rfl) rfl d10_layWhose_45 ?_
          refine r_weak [1, 2, 0] rfl ?_
          refine at_loopj (A := fun (s1 : Int) => At K X (ZQ K X Q) 0 0 n rt 6 46 [(0, vR X 117), (1, vI p0), (2, vI s1)] [] D) (B := Sum.elim (fun (b1 : Unit) => At K X (ZQ K X Q) 0 0 n rt 6 96 [(0, vR X 117), (1, vI p0)] [] D) (fun rv => Q (some (vI rv.1)) n rt rv.2)) h (fun z h => ?_) (fun s1 h => ?_)
          · rcases z with b1 | rv
            · replace h := elim_l h
              refine el_li ?_
              refine r_aload_nR F 0 rfl rfl d10_layWhose_96 ?_
              replace h := wpo_bind h
              refine r_callV0 F lm10_274 mf10_asItIs (vc117 hn) rfl (fr := 1) (lo := 22) (As := []) (rest := []) ⟨Nat.le_of_ble_eq_true rfl, Nat.le_of_ble_eq_true rfl⟩ rfl (Nat.le_of_ble_eq_true rfl) ⟨Nat.zero_le _, Nat.zero_le _⟩ d10_layWhose_97 ?_
              refine ok10_asItIs hn  (kVm h (fun a7 h => ?_))
              refine r_iconst F (z := 0) d10_layWhose_100 ?_
              refine r_istore_n F (lv' := [(2, vI 0), (0, vR X 117), (1, vI p0)]) rfl (Nat.le_of_ble_eq_true rfl) rfl d10_layWhose_101 ?_
              refine r_iconst F (z := 0) d10_layWhose_102 ?_
              refine r_istore_n F (lv' := [(3, vI 0), (2, vI 0), (0, vR X 117), (1, vI p0)]) rfl (Nat.le_of_ble_eq_true rfl) rfl d10_layWhose_103 ?_
              refine r_weak [2, 3, 1, 0] rfl ?_
              refine at_loopj (A := fun (s2 : Int × Int × Mem) => At K X (ZQ K X Q) 0 0 n rt 6 104 [(0, vR X 117), (1, vI p0), (2, vI s2.1), (3, vI s2.2.1)] [] s2.2.2) (B := fun (b2 : Int × Mem) => At K X (ZQ K X Q) 0 0 n rt 6 256 [(2, vI b2.1)] [] b2.2) h (fun b2 h => ?_) (fun s2 h => ?_)
              · refine r_iload_n F 0 rfl rfl d10_layWhose_256 ?_
                replace h := wpo_some h
                exact r_iret F h d10_layWhose_257
              · refine r_iload_n F 3 rfl rfl d10_layWhose_104 ?_
                refine r_bipush F (z := 8) (by decide) d10_layWhose_105 ?_
                refine r_icmp_gt F (tgt := 256) d10_layWhose_107 (by decide) (fun hb => ?_) (fun hb => ?_)
                · replace h := wpo_pos h hb
                  refine r_weak [2] rfl ?_
                  replace h := wpo_inr h
                  exact h
                · replace h := wpo_neg h hb
                  refine r_iload_n F 3 rfl rfl d10_layWhose_110 ?_
                  refine r_bipush F (z := 8) (by decide) d10_layWhose_111 ?_
                  refine at_join (B := fun (t1 : Bool) => (t1 = true → At K X (ZQ K X Q) 0 0 n rt 6 127 [(0, vR X 117), (1, vI p0), (2, vI s2.1), (3, vI s2.2.1)] [] s2.2.2) ∧ (t1 = false → At K X (ZQ K X Q) 0 0 n rt 6 124 [(0, vR X 117), (1, vI p0), (2, vI s2.1), (3, vI s2.2.1)] [] s2.2.2)) h (fun t1 h => ?_) (fun h => ?_)
                  · refine at_join (B := fun (j1 : Int × Mem) => At K X (ZQ K X Q) 0 0 n rt 6 250 [(0, vR X 117), (1, vI p0), (2, vI j1.1), (3, vI s2.2.1)] [] j1.2) h (fun j1 h => ?_) (fun h => ?_)
                    · refine r_iinc F 3 (lv' := [(3, vI (s2.2.1 + 1)), (0, vR X 117), (1, vI p0), (2, vI j1.1)]) rfl (Nat.le_of_ble_eq_true rfl) rfl d10_layWhose_250 ?_
                      refine r_goto F (tgt := 104) (by decide) d10_layWhose_253 ?_
                      refine r_weak [1, 2, 3, 0] rfl ?_
                      replace h := wpo_inl h
                      exact h
                    · refine at_bool h (fun hb h => ?_) (fun hb h => ?_)
                      · refine r_aload_nR F 0 rfl rfl d10_layWhose_127 ?_
                        refine r_iload_n F 3 rfl rfl d10_layWhose_128 ?_
                        refine r_putI F lf10_234 rfl rfl (vc117 hn) d10_layWhose_129 ?_
                        refine r_aload_nR F 0 rfl rfl d10_layWhose_132 ?_
                        refine at_name (B := fun (D1 : Mem) => At K X (ZQ K X Q) 0 0 n rt 6 133 [(0, vR X 117), (1, vI p0), (2, vI s2.1), (3, vI s2.2.1)] [vR X 117] D1) h (fun D1 h => ?_)
                        replace h := wpo_bind h
                        refine r_callV0 F lm10_277 mf10_goNights (vc117 hn) rfl (fr := 3) (lo := 72) (As := []) (rest := []) ⟨Nat.le_of_ble_eq_true rfl, Nat.le_of_ble_eq_true rfl⟩ rfl (Nat.le_of_ble_eq_true rfl) ⟨Nat.zero_le _, Nat.zero_le _⟩ d10_layWhose_133 ?_
                        refine ok10_goNights hn  (kVm h (fun a9 h => ?_))
                        refine r_iconst F (z := 0) d10_layWhose_136 ?_
                        refine r_istore F (lv' := [(4, vI 0), (0, vR X 117), (1, vI p0), (2, vI s2.1), (3, vI s2.2.1)]) (Nat.le_of_ble_eq_true rfl) rfl d10_layWhose_137 ?_
                        refine r_weak [1, 2, 3, 4, 0] rfl ?_
                        refine at_loopj (A := fun (s3 : Int × Mem) => At K X (ZQ K X Q) 0 0 n rt 6 139 [(0, vR X 117), (1, vI p0), (2, vI s2.1), (3, vI s2.2.1), (4, vI s3.1)] [] s3.2) (B := fun (b3 : Mem) => At K X (ZQ K X Q) 0 0 n rt 6 173 [(0, vR X 117), (1, vI p0), (2, vI s2.1), (3, vI s2.2.1)] [] b3) h (fun b3 h => ?_) (fun s3 h => ?_)
                        · refine r_iconst F (z := 1) d10_layWhose_173 ?_
                          refine r_istore F (lv' := [(4, vI 1), (0, vR X 117), (1, vI p0), (2, vI s2.1), (3, vI s2.2.1)]) (Nat.le_of_ble_eq_true rfl) rfl d10_layWhose_174 ?_
                          refine r_iconst F (z := 0) d10_layWhose_176 ?_
                          refine r_istore F (lv' := [(5, vI 0), (4, vI 1), (0, vR X 117), (1, vI p0), (2, vI s2.1), (3, vI s2.2.1)]) (Nat.le_of_ble_eq_true rfl) rfl d10_layWhose_177 ?_
                          refine r_weak [2, 3, 4, 5, 1, 0] rfl ?_
                          refine at_loopj (A := fun (s4 : Int × Int) => At K X (ZQ K X Q) 0 0 n rt 6 179 [(0, vR X 117), (1, vI p0), (2, vI s2.1), (3, vI s2.2.1), (4, vI s4.1), (5, vI s4.2)] [] b3) (B := fun (b4 : Int) => At K X (ZQ K X Q) 0 0 n rt 6 235 [(0, vR X 117), (1, vI p0), (2, vI s2.1), (3, vI s2.2.1), (4, vI b4)] [] b3) h (fun b4 h => ?_) (fun s4 h => ?_)
                          · refine r_iload_n F 2 rfl rfl d10_layWhose_235 ?_
                            refine r_iload F 4 rfl d10_layWhose_236 ?_
                            refine at_join (B := fun (j3 : Int) => At K X (ZQ K X Q) 0 0 n rt 6 248 [(0, vR X 117), (1, vI p0), (3, vI s2.2.1)] [vI j3, vI s2.1] b3) h (fun j3 h => ?_) (fun h => ?_)
                            · refine r_ior F d10_layWhose_248 ?_
                              refine r_istore_n F (lv' := [(2, vI (or32 s2.1 j3)), (0, vR X 117), (1, vI p0), (3, vI s2.2.1)]) rfl (Nat.le_of_ble_eq_true rfl) rfl d10_layWhose_249 ?_
                              refine r_weak [1, 2, 0, 3] rfl ?_
                              replace h := wpo_some h
                              exact h
                            · refine r_if_eq F (tgt := 247) d10_layWhose_238 (by decide) (fun hb => ?_) (fun hb => ?_)
                              · replace h := wpo_pos h hb
                                refine r_iconst F (z := 0) d10_layWhose_247 ?_
                                refine r_weak [0, 1, 3] rfl ?_
                                replace h := wpo_some h
                                exact h
                              · replace h := wpo_neg h hb
                                refine r_iconst F (z := 1) d10_layWhose_241 ?_
                                refine r_iload_n F 3 rfl rfl d10_layWhose_242 ?_
                                refine r_ishl F d10_layWhose_243 ?_
                                refine r_goto F (tgt := 248) (by decide) d10_layWhose_244 ?_
                                refine r_weak [0, 1, 3] rfl ?_
                                replace h := wpo_some h
                                exact h
                          · refine r_iload F 5 rfl d10_layWhose_179 ?_
                            refine r_aload_nR F 0 rfl rfl d10_layWhose_181 ?_
                            refine r_getR F (z := 143) lf10_92 (vc117 hn) z117_43 d10_layWhose_182 ?_
                            refine r_iload_n F 1 rfl rfl d10_layWhose_185 ?_
                            refine r_iald F (vc143 hn) hx1 d10_layWhose_186 ?_
                            refine r_icmp_ge F (tgt := 235) d10_layWhose_187 (by decide) (fun hb => ?_) (fun hb => ?_)
                            · replace h := wpo_neg h hb
                              refine r_weak [0, 1, 2, 3, 4] rfl ?_
                              replace h := wpo_inr h
                              exact h
                            · replace h := wpo_pos h hb
                              refine r_iload F 4 rfl d10_layWhose_190 ?_
                              refine at_join (B := fun (j2 : Int) => At K X (ZQ K X Q) 0 0 n rt 6 227 [(0, vR X 117), (1, vI p0), (2, vI s2.1), (3, vI s2.2.1), (5, vI s4.2)] [vI j2] b3) h (fun j2 h => ?_) (fun h => ?_)
                              · refine r_istore F (lv' := [(4, vI j2), (0, vR X 117), (1, vI p0), (2, vI s2.1), (3, vI s2.2.1), (5, vI s4.2)]) (Nat.le_of_ble_eq_true rfl) rfl d10_layWhose_227 ?_
                                refine r_iinc F 5 (lv' := [(5, vI (s4.2 + 2)), (4, vI j2), (0, vR X 117), (1, vI p0), (2, vI s2.1), (3, vI s2.2.1)]) rfl (Nat.le_of_ble_eq_true rfl) rfl d10_layWhose_229 ?_
                                refine r_goto F (tgt := 179) (by decide) d10_layWhose_232 ?_
                                refine r_weak [2, 3, 4, 5, 1, 0] rfl ?_
                                replace h := wpo_inl h
                                exact h
                              · refine r_if_eq F (tgt := 226) d10_layWhose_192 (by decide) (fun hb => ?_) (fun hb => ?_)
                                · replace h := wpo_pos h hb
                                  refine r_iconst F (z := 0) d10_layWhose_226 ?_
                                  refine r_weak [0, 1, 2, 3, 5] rfl ?_
                                  replace h := wpo_some h
                                  exact h
                                · replace h := wpo_neg h hb
                                  refine r_aload_nR F 0 rfl rfl d10_layWhose_195 ?_
                                  refine r_getR F (z := 131) lf10_55 (vc117 hn) z117_26 d10_layWhose_196 ?_
                                  refine r_aload_nR F 0 rfl rfl d10_layWhose_199 ?_
                                  refine r_iload_n F 1 rfl rfl d10_layWhose_200 ?_
                                  refine r_iload F 5 rfl d10_layWhose_201 ?_
                                  replace h := wpo_bind h
                                  refine r_callV0 F lm10_388 mf10_numberAt (vc117 hn) rfl (fr := 0) (lo := 0) (As := [vI p0, vI s4.2]) (rest := [vR X 131]) ⟨Nat.le_of_ble_eq_true rfl, Nat.le_of_ble_eq_true rfl⟩ rfl (Nat.le_of_ble_eq_true rfl) ⟨Nat.zero_le _, Nat.zero_le _⟩ d10_layWhose_203 ?_
                                  refine ok10_numberAt hn  (kL h (fun a11 h => ?_))
                                  refine r_l2i F d10_layWhose_206 ?_
                                  obtain ⟨hx4, h⟩ := wpo_chk h
                                  refine r_iald F (vc131 hn) hx4 d10_layWhose_207 ?_
                                  refine r_i2l F d10_layWhose_208 ?_
                                  refine r_aload_nR F 0 rfl rfl d10_layWhose_209 ?_
                                  refine r_iload_n F 1 rfl rfl d10_layWhose_210 ?_
                                  refine r_iload F 5 rfl d10_layWhose_211 ?_
                                  refine r_iconst F (z := 1) d10_layWhose_213 ?_
                                  refine r_iadd F d10_layWhose_214 ?_
                                  replace h := wpo_bind h
                                  refine r_callV0 F lm10_388 mf10_numberAt (vc117 hn) rfl (fr := 0) (lo := 0) (As := [vI p0, vI (s4.2 + 1)]) (rest := [vL (w32 (b3 131 a11.toNat))]) ⟨Nat.le_of_ble_eq_true rfl, Nat.le_of_ble_eq_true rfl⟩ rfl (Nat.le_of_ble_eq_true rfl) ⟨Nat.zero_le _, Nat.zero_le _⟩ d10_layWhose_215 ?_
                                  refine ok10_numberAt hn  (kL h (fun a12 h => ?_))
                                  refine r_lc_ne F (tgt := 226) d10_layWhose_218 d10_layWhose_219 (by decide) (fun hb => ?_) (fun hb => ?_)
                                  · replace h := wpo_neg h hb
                                    refine r_iconst F (z := 0) d10_layWhose_226 ?_
                                    refine r_weak [0, 1, 2, 3, 5] rfl ?_
                                    replace h := wpo_some h
                                    exact h
                                  · replace h := wpo_pos h hb
                                    refine r_iconst F (z := 1) d10_layWhose_222 ?_
                                    refine r_goto F (tgt := 227) (by decide) d10_layWhose_223 ?_
                                    refine r_weak [0, 1, 2, 3, 5] rfl ?_
                                    replace h := wpo_some h
                                    exact h
                        · refine r_iload F 4 rfl d10_layWhose_139 ?_
                          refine r_aload_nR F 0 rfl rfl d10_layWhose_141 ?_
                          replace h := wpo_bind h
                          refine r_callV0 F lm10_256 mf10_nights (vc117 hn) rfl (fr := 0) (lo := 0) (As := []) (rest := [vI s3.1]) ⟨Nat.le_of_ble_eq_true rfl, Nat.le_of_ble_eq_true rfl⟩ rfl (Nat.le_of_ble_eq_true rfl) ⟨Nat.zero_le _, Nat.zero_le _⟩ d10_layWhose_142 ?_
                          refine ok10_nights hn  (kI h (fun a10 h => ?_))
                          refine r_icmp_ge F (tgt := 173) d10_layWhose_145 (by decide) (fun hb => ?_) (fun hb => ?_)
                          · replace h := wpo_neg h hb
                            refine r_weak [0, 1, 2, 3] rfl ?_
                            replace h := wpo_inr h
                            exact h
                          · replace h := wpo_pos h hb
                            refine r_aload_nR F 0 rfl rfl d10_layWhose_148 ?_
                            refine r_getR F (z := 140) lf10_83 (vc117 hn) z117_39 d10_layWhose_149 ?_
                            refine r_bipush F (z := 12) (by decide) d10_layWhose_152 ?_
                            refine r_iload_n F 3 rfl rfl d10_layWhose_154 ?_
                            refine r_imul F d10_layWhose_155 ?_
                            refine r_iload F 4 rfl d10_layWhose_156 ?_
                            refine r_iadd F d10_layWhose_158 ?_
                            refine r_aload_nR F 0 rfl rfl d10_layWhose_159 ?_
                            refine r_getR F (z := 131) lf10_55 (vc117 hn) z117_26 d10_layWhose_160 ?_
                            refine r_iload F 4 rfl d10_layWhose_163 ?_
                            obtain ⟨hx2, h⟩ := wpo_chk h
                            refine r_iald F (vc131 hn) hx2 d10_layWhose_165 ?_
                            obtain ⟨hx3, h⟩ := wpo_chk h
                            refine r_iast F (vc140 hn) hx3 d10_layWhose_166 ?_
                            refine r_iinc F 4 (lv' := [(4, vI (s3.1 + 1)), (0, vR X 117), (1, vI p0), (2, vI s2.1), (3, vI s2.2.1)]) rfl (Nat.le_of_ble_eq_true rfl) rfl d10_layWhose_167 ?_
                            refine r_goto F (tgt := 139) (by decide) d10_layWhose_170 ?_
                            refine r_weak [1, 2, 3, 4, 0] rfl ?_
                            replace h := wpo_inl h
                            exact h
                      · refine r_goto F (tgt := 250) (by decide) d10_layWhose_124 ?_
                        replace h := wpo_some h
                        exact h
                  · refine r_icmp_ge F (tgt := 127) d10_layWhose_113 (by decide) (fun hb => ?_) (fun hb => ?_)
                    · replace h := wpo_neg h hb
                      replace h := wpo_some h
                      exact h.1 rfl
                    · replace h := wpo_pos h hb
                      refine r_aload_nR F 0 rfl rfl d10_layWhose_116 ?_
                      refine r_iload_n F 3 rfl rfl d10_layWhose_117 ?_
                      replace h := wpo_bind h
                      refine r_callV0 F lm10_283 mf10_isPerson (vc117 hn) rfl (fr := 1) (lo := 25) (As := [vI s2.2.1]) (rest := []) ⟨Nat.le_of_ble_eq_true rfl, Nat.le_of_ble_eq_true rfl⟩ rfl (Nat.le_of_ble_eq_true rfl) ⟨Nat.zero_le _, Nat.zero_le _⟩ d10_layWhose_118 ?_
                      refine ok10_isPerson hn  (kI h (fun a8 h => ?_))
                      refine r_if_ne F (tgt := 127) d10_layWhose_121 (by decide) (fun hb => ?_) (fun hb => ?_)
                      · replace h := wpo_neg h hb
                        replace h := wpo_some h
                        exact h.1 rfl
                      · replace h := wpo_pos h hb
                        replace h := wpo_some h
                        exact h.2 rfl
            · replace h := elim_r h
              replace h := wpo_some h
              exact el_ri h
          · refine r_iload_n F 2 rfl rfl d10_layWhose_46 ?_
            refine r_aload_nR F 0 rfl rfl d10_layWhose_47 ?_
            refine r_getR F (z := 143) lf10_92 (vc117 hn) z117_43 d10_layWhose_48 ?_
            refine r_iload_n F 1 rfl rfl d10_layWhose_51 ?_
            refine r_iald F (vc143 hn) hx1 d10_layWhose_52 ?_
            refine r_icmp_ge F (tgt := 96) d10_layWhose_53 (by decide) (fun hb => ?_) (fun hb => ?_)
            · replace h := wpo_neg h hb
              refine r_weak [0, 1] rfl ?_
              replace h := wpo_inr h
              replace h := el_l h
              exact h
            · replace h := wpo_pos h hb
              refine r_aload_nR F 0 rfl rfl d10_layWhose_56 ?_
              refine r_aload_nR F 0 rfl rfl d10_layWhose_57 ?_
              refine r_iload_n F 1 rfl rfl d10_layWhose_58 ?_
              refine r_iload_n F 2 rfl rfl d10_layWhose_59 ?_
              replace h := wpo_bind h
              refine r_callV0 F lm10_388 mf10_numberAt (vc117 hn) rfl (fr := 0) (lo := 0) (As := [vI p0, vI s1]) (rest := [vR X 117]) ⟨Nat.le_of_ble_eq_true rfl, Nat.le_of_ble_eq_true rfl⟩ rfl (Nat.le_of_ble_eq_true rfl) ⟨Nat.zero_le _, Nat.zero_le _⟩ d10_layWhose_60 ?_
              refine ok10_numberAt hn  (kL h (fun a3 h => ?_))
              replace h := wpo_bind h
              refine r_callV0 F lm10_287 mf10_isNight (vc117 hn) rfl (fr := 1) (lo := 25) (As := [vL a3]) (rest := []) ⟨Nat.le_of_ble_eq_true rfl, Nat.le_of_ble_eq_true rfl⟩ rfl (Nat.le_of_ble_eq_true rfl) ⟨Nat.zero_le _, Nat.zero_le _⟩ d10_layWhose_63 ?_
              refine ok10_isNight hn  (kI h (fun a4 h => ?_))
              refine r_if_eq F (tgt := 87) d10_layWhose_66 (by decide) (fun hb => ?_) (fun hb => ?_)
              · replace h := wpo_pos h hb
                refine r_bipush F (z := (-2)) (by decide) d10_layWhose_87 ?_
                replace h := el_r (wpo_inr h)
                exact r_iret F h d10_layWhose_89
              · replace h := wpo_neg h hb
                refine r_aload_nR F 0 rfl rfl d10_layWhose_69 ?_
                refine r_iload_n F 1 rfl rfl d10_layWhose_70 ?_
                refine r_iload_n F 2 rfl rfl d10_layWhose_71 ?_
                refine r_iconst F (z := 1) d10_layWhose_72 ?_
                refine r_iadd F d10_layWhose_73 ?_
                replace h := wpo_bind h
                refine r_callV0 F lm10_388 mf10_numberAt (vc117 hn) rfl (fr := 0) (lo := 0) (As := [vI p0, vI (s1 + 1)]) (rest := []) ⟨Nat.le_of_ble_eq_true rfl, Nat.le_of_ble_eq_true rfl⟩ rfl (Nat.le_of_ble_eq_true rfl) ⟨Nat.zero_le _, Nat.zero_le _⟩ d10_layWhose_74 ?_
                refine ok10_numberAt hn  (kL h (fun a5 h => ?_))
                refine r_lconst F (x := 0) (by decide) d10_layWhose_77 ?_
                refine r_ldc2 F (z := 20) lc10_310 d10_layWhose_78 ?_
                replace h := wpo_bind h
                refine r_callS0 F lm10_109 mf10_in rfl (fr := 0) (lo := 0) (As := [vL a5, vL 0, vL 20]) (rest := []) ⟨Nat.le_of_ble_eq_true rfl, Nat.le_of_ble_eq_true rfl⟩ rfl (Nat.le_of_ble_eq_true rfl) ⟨Nat.zero_le _, Nat.zero_le _⟩ d10_layWhose_81 ?_
                refine ok10_in hn  (kI h (fun a6 h => ?_))
                refine r_if_ne F (tgt := 90) d10_layWhose_84 (by decide) (fun hb => ?_) (fun hb => ?_)
                · replace h := wpo_neg h hb
                  refine r_iinc F 2 (lv' := [(2, vI (s1 + 2)), (0, vR X 117), (1, vI p0)]) rfl (Nat.le_of_ble_eq_true rfl) rfl d10_layWhose_90 ?_
                  refine r_goto F (tgt := 46) (by decide) d10_layWhose_93 ?_
                  refine r_weak [1, 2, 0] rfl ?_
                  replace h := wpo_inl h
                  exact h
                · replace h := wpo_pos h hb
                  refine r_bipush F (z := (-2)) (by decide) d10_layWhose_87 ?_
                  replace h := el_r (wpo_inr h)
                  exact r_iret F h d10_layWhose_89
        · replace h := wpo_neg h hb
          refine r_bipush F (z := (-2)) (by decide) d10_layWhose_41 ?_
          replace h := wpo_some h
          exact r_iret F h d10_layWhose_43
      · replace h := wpo_pos h hb
        refine r_bipush F (z := (-6)) (by decide) d10_layWhose_27 ?_
        replace h := wpo_some h
        exact r_iret F h d10_layWhose_29
    · replace h := wpo_pos h hb
      refine r_bipush F (z := (-2)) (by decide) d10_layWhose_14 ?_
      replace h := wpo_some h
      exact r_iret F h d10_layWhose_16
theorem d10_whose_0 : decode c10_whose 0 = .ok (.aload_n 0, 1) := by decide +kernel
theorem d10_whose_1 : decode c10_whose 1 = .ok (.iload_n 1, 1) := by decide +kernel
theorem d10_whose_2 : decode c10_whose 2 = .ok (.invokevirtual 392, 3) := by decide +kernel
theorem d10_whose_5 : decode c10_whose 5 = .ok (.ireturn, 1) := by decide +kernel
def f10_whose (D : Mem) (p0 : Int) : Option (Int × Mem) :=
  Option.bind (f10_layWhose D p0) fun (a1 : Int × Mem) =>
  some (a1.1, a1.2)
set_option maxHeartbeats 4000000 in
theorem ok10_whose {l : Launch} {X : XT} {n : Nat} {D : Mem} {Q : Option Value → Nat → Rho → Mem → Prop} (hn : 147 ≤ n) {p0 : Int}  (h : wpo (f10_whose D p0) (fun a => Q (some (vI a.1)) n rt a.2)) : MOK l y10_whose c10_whose 2 (some .int) { frames := 5, cells := 0, slots := 0, locals := 118 } 0 0 X [vR X 117, vI p0] n rt D Q := by
  refine MOK_of 10 (by decide +kernel) rfl (lv := [(0, vR X 117), (1, vI p0)]) (Nat.le_of_ble_eq_true rfl) rfl (fun K hK F hnm => ?_)
  subst hK
  unfold f10_whose at h
  refine r_aload_nR F 0 rfl rfl d10_whose_0 ?_
  refine r_iload_n F 1 rfl rfl d10_whose_1 ?_
  replace h := wpo_bind h
  refine r_callV0 F lm10_392 mf10_layWhose (vc117 hn) rfl (fr := 4) (lo := 93) (As := [vI p0]) (rest := []) ⟨Nat.le_of_ble_eq_true rfl, Nat.le_of_ble_eq_true rfl⟩ rfl (Nat.le_of_ble_eq_true rfl) ⟨Nat.zero_le _, Nat.zero_le _⟩ d10_whose_2 ?_
  refine ok10_layWhose hn  (kIm h (fun a1 h => ?_))
  replace h := wpo_some h
  exact r_iret F h d10_whose_5
theorem d10_fits_0 : decode c10_fits 0 = .ok (.aload_n 0, 1) := by decide +kernel
theorem d10_fits_1 : decode c10_fits 1 = .ok (.iload_n 1, 1) := by decide +kernel
theorem d10_fits_2 : decode c10_fits 2 = .ok (.invokevirtual 392, 3) := by decide +kernel
theorem d10_fits_5 : decode c10_fits 5 = .ok (.istore_n 2, 1) := by decide +kernel
theorem d10_fits_6 : decode c10_fits 6 = .ok (.iload_n 2, 1) := by decide +kernel
theorem d10_fits_7 : decode c10_fits 7 = .ok (.ifCond .ge 7, 3) := by decide +kernel
theorem d10_fits_10 : decode c10_fits 10 = .ok (.iload_n 2, 1) := by decide +kernel
theorem d10_fits_11 : decode c10_fits 11 = .ok (.goto 7, 3) := by decide +kernel
theorem d10_fits_14 : decode c10_fits 14 = .ok (.iload_n 2, 1) := by decide +kernel
theorem d10_fits_15 : decode c10_fits 15 = .ok (.invokestatic 328, 3) := by decide +kernel
theorem d10_fits_18 : decode c10_fits 18 = .ok (.ireturn, 1) := by decide +kernel
def f10_fits (D : Mem) (p0 : Int) : Option (Int × Mem) :=
  Option.bind (f10_layWhose D p0) fun (a1 : Int × Mem) =>
  if w32 a1.1 < 0 then
    some (a1.1, a1.2)
  else
    Option.bind (f10_bits a1.2 a1.1) fun (a2 : Int) =>
    some (a2, a1.2)
set_option maxHeartbeats 4000000 in
theorem ok10_fits {l : Launch} {X : XT} {n : Nat} {D : Mem} {Q : Option Value → Nat → Rho → Mem → Prop} (hn : 147 ≤ n) {p0 : Int}  (h : wpo (f10_fits D p0) (fun a => Q (some (vI a.1)) n rt a.2)) : MOK l y10_fits c10_fits 3 (some .int) { frames := 5, cells := 0, slots := 0, locals := 118 } 0 0 X [vR X 117, vI p0] n rt D Q := by
  refine MOK_of 10 (by decide +kernel) rfl (lv := [(0, vR X 117), (1, vI p0)]) (Nat.le_of_ble_eq_true rfl) rfl (fun K hK F hnm => ?_)
  subst hK
  unfold f10_fits at h
  refine r_aload_nR F 0 rfl rfl d10_fits_0 ?_
  refine r_iload_n F 1 rfl rfl d10_fits_1 ?_
  replace h := wpo_bind h
  refine r_callV0 F lm10_392 mf10_layWhose (vc117 hn) rfl (fr := 4) (lo := 93) (As := [vI p0]) (rest := []) ⟨Nat.le_of_ble_eq_true rfl, Nat.le_of_ble_eq_true rfl⟩ rfl (Nat.le_of_ble_eq_true rfl) ⟨Nat.zero_le _, Nat.zero_le _⟩ d10_fits_2 ?_
  refine ok10_layWhose hn  (kIm h (fun a1 h => ?_))
  refine r_istore_n F (lv' := [(2, vI a1.1), (0, vR X 117), (1, vI p0)]) rfl (Nat.le_of_ble_eq_true rfl) rfl d10_fits_5 ?_
  refine r_iload_n F 0 rfl rfl d10_fits_6 ?_
  refine r_if_ge F (tgt := 14) d10_fits_7 (by decide) (fun hb => ?_) (fun hb => ?_)
  · replace h := wpo_neg h hb
    refine r_iload_n F 0 rfl rfl d10_fits_14 ?_
    replace h := wpo_bind h
    refine r_callS0 F lm10_328 mf10_bits rfl (fr := 0) (lo := 0) (As := [vI a1.1]) (rest := []) ⟨Nat.le_of_ble_eq_true rfl, Nat.le_of_ble_eq_true rfl⟩ rfl (Nat.le_of_ble_eq_true rfl) ⟨Nat.zero_le _, Nat.zero_le _⟩ d10_fits_15 ?_
    refine ok10_bits hn  (kI h (fun a2 h => ?_))
    replace h := wpo_some h
    exact r_iret F h d10_fits_18
  · replace h := wpo_pos h hb
    refine r_iload_n F 0 rfl rfl d10_fits_10 ?_
    refine r_goto F (tgt := 18) (by decide) d10_fits_11 ?_
    replace h := wpo_some h
    exact r_iret F h d10_fits_18
theorem d10_askOf_0 : decode c10_askOf 0 = .ok (.aload_n 0, 1) := by decide +kernel
theorem d10_askOf_1 : decode c10_askOf 1 = .ok (.iload_n 1, 1) := by decide +kernel
theorem d10_askOf_2 : decode c10_askOf 2 = .ok (.invokestatic 328, 3) := by decide +kernel
theorem d10_askOf_5 : decode c10_askOf 5 = .ok (.putfield 395, 3) := by decide +kernel
theorem d10_askOf_8 : decode c10_askOf 8 = .ok (.iconst (-1), 1) := by decide +kernel
theorem d10_askOf_9 : decode c10_askOf 9 = .ok (.istore_n 2, 1) := by decide +kernel
theorem d10_askOf_10 : decode c10_askOf 10 = .ok (.iconst 0, 1) := by decide +kernel
theorem d10_askOf_11 : decode c10_askOf 11 = .ok (.istore_n 3, 1) := by decide +kernel
theorem d10_askOf_12 : decode c10_askOf 12 = .ok (.iload_n 3, 1) := by decide +kernel
theorem d10_askOf_13 : decode c10_askOf 13 = .ok (.aload_n 0, 1) := by decide +kernel
theorem d10_askOf_14 : decode c10_askOf 14 = .ok (.invokevirtual 256, 3) := by decide +kernel
theorem d10_askOf_17 : decode c10_askOf 17 = .ok (.if_icmp .ge 113, 3) := by decide +kernel
theorem d10_askOf_20 : decode c10_askOf 20 = .ok (.iconst 0, 1) := by decide +kernel
theorem d10_askOf_21 : decode c10_askOf 21 = .ok (.istore 4, 2) := by decide +kernel
theorem d10_askOf_23 : decode c10_askOf 23 = .ok (.iconst 0, 1) := by decide +kernel
theorem d10_askOf_24 : decode c10_askOf 24 = .ok (.istore 5, 2) := by decide +kernel
theorem d10_askOf_26 : decode c10_askOf 26 = .ok (.iload 5, 2) := by decide +kernel
theorem d10_askOf_28 : decode c10_askOf 28 = .ok (.bipush 20, 2) := by decide +kernel
theorem d10_askOf_30 : decode c10_askOf 30 = .ok (.if_icmp .gt 74, 3) := by decide +kernel
theorem d10_askOf_33 : decode c10_askOf 33 = .ok (.iconst 0, 1) := by decide +kernel
theorem d10_askOf_34 : decode c10_askOf 34 = .ok (.istore 6, 2) := by decide +kernel
theorem d10_askOf_36 : decode c10_askOf 36 = .ok (.iconst 0, 1) := by decide +kernel
theorem d10_askOf_37 : decode c10_askOf 37 = .ok (.istore 7, 2) := by decide +kernel
theorem d10_askOf_39 : decode c10_askOf 39 = .ok (.iload 7, 2) := by decide +kernel
theorem d10_askOf_41 : decode c10_askOf 41 = .ok (.bipush 8, 2) := by decide +kernel
theorem d10_askOf_43 : decode c10_askOf 43 = .ok (.if_icmp .gt 46, 3) := by decide +kernel
theorem d10_askOf_46 : decode c10_askOf 46 = .ok (.iload 6, 2) := by decide +kernel
theorem d10_askOf_48 : decode c10_askOf 48 = .ok (.iload_n 1, 1) := by decide +kernel
theorem d10_askOf_49 : decode c10_askOf 49 = .ok (.iload 7, 2) := by decide +kernel
theorem d10_askOf_51 : decode c10_askOf 51 = .ok (.invokestatic 240, 3) := by decide +kernel
theorem d10_askOf_54 : decode c10_askOf 54 = .ok (.iconst 1, 1) := by decide +kernel
theorem d10_askOf_55 : decode c10_askOf 55 = .ok (.if_icmp .ne 24, 3) := by decide +kernel
theorem d10_askOf_58 : decode c10_askOf 58 = .ok (.aload_n 0, 1) := by decide +kernel
theorem d10_askOf_59 : decode c10_askOf 59 = .ok (.getfield 83, 3) := by decide +kernel
theorem d10_askOf_62 : decode c10_askOf 62 = .ok (.bipush 12, 2) := by decide +kernel
theorem d10_askOf_64 : decode c10_askOf 64 = .ok (.iload 7, 2) := by decide +kernel
theorem d10_askOf_66 : decode c10_askOf 66 = .ok (.imul, 1) := by decide +kernel
theorem d10_askOf_67 : decode c10_askOf 67 = .ok (.iload_n 3, 1) := by decide +kernel
theorem d10_askOf_68 : decode c10_askOf 68 = .ok (.iadd, 1) := by decide +kernel
theorem d10_askOf_69 : decode c10_askOf 69 = .ok (.iaload, 1) := by decide +kernel
theorem d10_askOf_70 : decode c10_askOf 70 = .ok (.iload 5, 2) := by decide +kernel
theorem d10_askOf_72 : decode c10_askOf 72 = .ok (.if_icmp .ne 7, 3) := by decide +kernel
theorem d10_askOf_75 : decode c10_askOf 75 = .ok (.iconst 1, 1) := by decide +kernel
theorem d10_askOf_76 : decode c10_askOf 76 = .ok (.goto 4, 3) := by decide +kernel
theorem d10_askOf_79 : decode c10_askOf 79 = .ok (.iconst 0, 1) := by decide +kernel
theorem d10_askOf_80 : decode c10_askOf 80 = .ok (.iadd, 1) := by decide +kernel
theorem d10_askOf_81 : decode c10_askOf 81 = .ok (.istore 6, 2) := by decide +kernel
theorem d10_askOf_83 : decode c10_askOf 83 = .ok (.iinc 7 1, 3) := by decide +kernel
theorem d10_askOf_86 : decode c10_askOf 86 = .ok (.goto (-47), 3) := by decide +kernel
theorem d10_askOf_89 : decode c10_askOf 89 = .ok (.iload 4, 2) := by decide +kernel
theorem d10_askOf_91 : decode c10_askOf 91 = .ok (.iload 6, 2) := by decide +kernel
theorem d10_askOf_93 : decode c10_askOf 93 = .ok (.invokestatic 262, 3) := by decide +kernel
theorem d10_askOf_96 : decode c10_askOf 96 = .ok (.istore 4, 2) := by decide +kernel
theorem d10_askOf_98 : decode c10_askOf 98 = .ok (.iinc 5 1, 3) := by decide +kernel
theorem d10_askOf_101 : decode c10_askOf 101 = .ok (.goto (-75), 3) := by decide +kernel
theorem d10_askOf_104 : decode c10_askOf 104 = .ok (.iload 4, 2) := by decide +kernel
theorem d10_askOf_106 : decode c10_askOf 106 = .ok (.aload_n 0, 1) := by decide +kernel
theorem d10_askOf_107 : decode c10_askOf 107 = .ok (.getfield 395, 3) := by decide +kernel
theorem d10_askOf_110 : decode c10_askOf 110 = .ok (.if_icmp .lt 6, 3) := by decide +kernel
theorem d10_askOf_113 : decode c10_askOf 113 = .ok (.goto 11, 3) := by decide +kernel
theorem d10_askOf_116 : decode c10_askOf 116 = .ok (.aload_n 0, 1) := by decide +kernel
theorem d10_askOf_117 : decode c10_askOf 117 = .ok (.iload 4, 2) := by decide +kernel
theorem d10_askOf_119 : decode c10_askOf 119 = .ok (.putfield 395, 3) := by decide +kernel
theorem d10_askOf_122 : decode c10_askOf 122 = .ok (.iload_n 3, 1) := by decide +kernel
theorem d10_askOf_123 : decode c10_askOf 123 = .ok (.istore_n 2, 1) := by decide +kernel
theorem d10_askOf_124 : decode c10_askOf 124 = .ok (.iinc 3 1, 3) := by decide +kernel
theorem d10_askOf_127 : decode c10_askOf 127 = .ok (.goto (-115), 3) := by decide +kernel
theorem d10_askOf_130 : decode c10_askOf 130 = .ok (.iload_n 2, 1) := by decide +kernel
theorem d10_askOf_131 : decode c10_askOf 131 = .ok (.ireturn, 1) := by decide +kernel
def f10_askOf (D : Mem) (p0 : Int) : Option (Int × Mem) :=
  Option.bind (f10_bits D p0) fun (a1 : Int) =>
  Option.bind (some (mset D 117 40 a1)) fun (D1 : Mem) =>
  Option.bind (@loop (Int × Int × Mem) (Int × Mem) (fun s1 =>
    Option.bind (f10_nights s1.2.2) fun (a2 : Int) =>
    if w32 s1.2.1 < w32 a2 then
      Option.bind (@loop (Int × Int) (Int) (fun s2 =>
        if w32 20 < w32 s2.2 then
          some (Sum.inr s2.1)
        else
          Option.bind (@loop (Int × Int) (Int) (fun s3 =>
            if w32 8 < w32 s3.2 then
              some (Sum.inr s3.1)
            else
              Option.bind (f10_bit s1.2.2 p0 s3.2) fun (a3 : Int) =>
              Option.bind (
                if w32 a3 = w32 1 then
                  if 0 ≤ ((12 * s3.2) + s1.2.1) ∧ ((12 * s3.2) + s1.2.1) < 108 then
                    if w32 (s1.2.2 140 ((12 * s3.2) + s1.2.1).toNat) = w32 s2.2 then
                      some 1
                    else
                      some 0
                  else none
                else
                  some 0
              ) fun (j1 : Int) =>
              some (Sum.inl ((s3.1 + j1), (s3.2 + 1)))
          ) FU (0, 0)) fun (b3 : Int) =>
          some (Sum.inl ((max32 s2.1 b3), (s2.2 + 1)))
      ) FU (0, 0)) fun (b2 : Int) =>
      Option.bind (
        if w32 b2 < w32 (s1.2.2 117 40) then
          some (s1.2.1, (mset s1.2.2 117 40 b2))
        else
          some (s1.1, s1.2.2)
      ) fun (j2 : Int × Mem) =>
      some (Sum.inl (j2.1, (s1.2.1 + 1), j2.2))
    else
      some (Sum.inr (s1.1, s1.2.2))
  ) FU ((-1), 0, D1)) fun (b1 : Int × Mem) =>
  some (b1.1, b1.2)
set_option maxHeartbeats 4000000 in
theorem ok10_askOf {l : Launch} {X : XT} {n : Nat} {D : Mem} {Q : Option Value → Nat → Rho → Mem → Prop} (hn : 147 ≤ n) {p0 : Int}  (h : wpo (f10_askOf D p0) (fun a => Q (some (vI a.1)) n rt a.2)) : MOK l y10_askOf c10_askOf 8 (some .int) { frames := 1, cells := 0, slots := 0, locals := 23 } 0 0 X [vR X 117, vI p0] n rt D Q := by
  refine MOK_of 10 (by decide +kernel) rfl (lv := [(0, vR X 117), (1, vI p0)]) (Nat.le_of_ble_eq_true rfl) rfl (fun K hK F hnm => ?_)
  subst hK
  unfold f10_askOf at h
  refine r_aload_nR F 0 rfl rfl d10_askOf_0 ?_
  refine r_iload_n F 1 rfl rfl d10_askOf_1 ?_
  replace h := wpo_bind h
  refine r_callS0 F lm10_328 mf10_bits rfl (fr := 0) (lo := 0) (As := [vI p0]) (rest := [vR X 117]) ⟨Nat.le_of_ble_eq_true rfl, Nat.le_of_ble_eq_true rfl⟩ rfl (Nat.le_of_ble_eq_true rfl) ⟨Nat.zero_le _, Nat.zero_le _⟩ d10_askOf_2 ?_
  refine ok10_bits hn  (kI h (fun a1 h => ?_))
  refine r_putI F lf10_395 rfl rfl (vc117 hn) d10_askOf_5 ?_
  refine r_iconst F (z := (-1)) d10_askOf_8 ?_
  refine r_istore_n F (lv' := [(2, vI (-1)), (0, vR X 117), (1, vI p0)]) rfl (Nat.le_of_ble_eq_true rfl) rfl d10_askOf_9 ?_
  refine r_iconst F (z := 0) d10_askOf_10 ?_
  refine r_istore_n F (lv' := [(3, vI 0), (2, vI (-1)), (0, vR X 117), (1, vI p0)]) rfl (Nat.le_of_ble_eq_true rfl) rfl d10_askOf_11 ?_
  refine at_name (B := fun (D1 : Mem) => At K X (ZQ K X Q) 0 0 n rt 8 12 [(3, vI 0), (2, vI (-1)), (0, vR X 117), (1, vI p0)] [] D1) h (fun D1 h => ?_)
  refine r_weak [2, 3, 1, 0] rfl ?_
  refine at_loopj (A := fun (s1 : Int × Int × Mem) => At K X (ZQ K X Q) 0 0 n rt 8 12 [(0, vR X 117), (1, vI p0), (2, vI s1.1), (3, vI s1.2.1)] [] s1.2.2) (B := fun (b1 : Int × Mem) => At K X (ZQ K X Q) 0 0 n rt 8 130 [(2, vI b1.1)] [] b1.2) h (fun b1 h => ?_) (fun s1 h => ?_)
  · refine r_iload_n F 0 rfl rfl d10_askOf_130 ?_
    replace h := wpo_some h
    exact r_iret F h d10_askOf_131
  · refine r_iload_n F 3 rfl rfl d10_askOf_12 ?_
    refine r_aload_nR F 0 rfl rfl d10_askOf_13 ?_
    replace h := wpo_bind h
    refine r_callV0 F lm10_256 mf10_nights (vc117 hn) rfl (fr := 0) (lo := 0) (As := []) (rest := [vI s1.2.1]) ⟨Nat.le_of_ble_eq_true rfl, Nat.le_of_ble_eq_true rfl⟩ rfl (Nat.le_of_ble_eq_true rfl) ⟨Nat.zero_le _, Nat.zero_le _⟩ d10_askOf_14 ?_
    refine ok10_nights hn  (kI h (fun a2 h => ?_))
    refine r_icmp_ge F (tgt := 130) d10_askOf_17 (by decide) (fun hb => ?_) (fun hb => ?_)
    · replace h := wpo_neg h hb
      refine r_weak [2] rfl ?_
      replace h := wpo_inr h
      exact h
    · replace h := wpo_pos h hb
      refine r_iconst F (z := 0) d10_askOf_20 ?_
      refine r_istore F (lv' := [(4, vI 0), (0, vR X 117), (1, vI p0), (2, vI s1.1), (3, vI s1.2.1)]) (Nat.le_of_ble_eq_true rfl) rfl d10_askOf_21 ?_
      refine r_iconst F (z := 0) d10_askOf_23 ?_
      refine r_istore F (lv' := [(5, vI 0), (4, vI 0), (0, vR X 117), (1, vI p0), (2, vI s1.1), (3, vI s1.2.1)]) (Nat.le_of_ble_eq_true rfl) rfl d10_askOf_24 ?_
      refine r_weak [2, 3, 4, 5, 1, 0] rfl ?_
      refine at_loopj (A := fun (s2 : Int × Int) => At K X (ZQ K X Q) 0 0 n rt 8 26 [(0, vR X 117), (1, vI p0), (2, vI s1.1), (3, vI s1.2.1), (4, vI s2.1), (5, vI s2.2)] [] s1.2.2) (B := fun (b2 : Int) => At K X (ZQ K X Q) 0 0 n rt 8 104 [(0, vR X 117), (1, vI p0), (2, vI s1.1), (3, vI s1.2.1), (4, vI b2)] [] s1.2.2) h (fun b2 h => ?_) (fun s2 h => ?_)
      · refine r_iload F 4 rfl d10_askOf_104 ?_
        refine r_aload_nR F 0 rfl rfl d10_askOf_106 ?_
        refine r_getI F lf10_395 (vc117 hn) d10_askOf_107 ?_
        refine at_join (B := fun (j2 : Int × Mem) => At K X (ZQ K X Q) 0 0 n rt 8 124 [(0, vR X 117), (1, vI p0), (2, vI j2.1), (3, vI s1.2.1)] [] j2.2) h (fun j2 h => ?_) (fun h => ?_)
        · refine r_iinc F 3 (lv' := [(3, vI (s1.2.1 + 1)), (0, vR X 117), (1, vI p0), (2, vI j2.1)]) rfl (Nat.le_of_ble_eq_true rfl) rfl d10_askOf_124 ?_
          refine r_goto F (tgt := 12) (by decide) d10_askOf_127 ?_
          refine r_weak [1, 2, 3, 0] rfl ?_
          replace h := wpo_inl h
          exact h
        · refine r_icmp_lt F (tgt := 116) d10_askOf_110 (by decide) (fun hb => ?_) (fun hb => ?_)
          · replace h := wpo_pos h hb
            refine r_aload_nR F 0 rfl rfl d10_askOf_116 ?_
            refine r_iload F 4 rfl d10_askOf_117 ?_
            refine r_putI F lf10_395 rfl rfl (vc117 hn) d10_askOf_119 ?_
            refine r_iload_n F 3 rfl rfl d10_askOf_122 ?_
            refine r_istore_n F (lv' := [(2, vI s1.2.1), (0, vR X 117), (1, vI p0), (3, vI s1.2.1), (4, vI b2)]) rfl (Nat.le_of_ble_eq_true rfl) rfl d10_askOf_123 ?_
            refine r_weak [1, 2, 0, 3] rfl ?_
            replace h := wpo_some h
            exact h
          · replace h := wpo_neg h hb
            refine r_goto F (tgt := 124) (by decide) d10_askOf_113 ?_
            refine r_weak [0, 1, 2, 3] rfl ?_
            replace h := wpo_some h
            exact h
      · refine r_iload F 5 rfl d10_askOf_26 ?_
        refine r_bipush F (z := 20) (by decide) d10_askOf_28 ?_
        refine r_icmp_gt F (tgt := 104) d10_askOf_30 (by decide) (fun hb => ?_) (fun hb => ?_)
        · replace h := wpo_pos h hb
          refine r_weak [0, 1, 2, 3, 4] rfl ?_
          replace h := wpo_inr h
          exact h
        · replace h := wpo_neg h hb
          refine r_iconst F (z := 0) d10_askOf_33 ?_
          refine r_istore F (lv' := [(6, vI 0), (0, vR X 117), (1, vI p0), (2, vI s1.1), (3, vI s1.2.1), (4, vI s2.1), (5, vI s2.2)]) (Nat.le_of_ble_eq_true rfl) rfl d10_askOf_34 ?_
          refine r_iconst F (z := 0) d10_askOf_36 ?_
          refine r_istore F (lv' := [(7, vI 0), (6, vI 0), (0, vR X 117), (1, vI p0), (2, vI s1.1), (3, vI s1.2.1), (4, vI s2.1), (5, vI s2.2)]) (Nat.le_of_ble_eq_true rfl) rfl d10_askOf_37 ?_
          refine r_weak [2, 3, 4, 5, 6, 7, 1, 0] rfl ?_
          refine at_loopj (A := fun (s3 : Int × Int) => At K X (ZQ K X Q) 0 0 n rt 8 39 [(0, vR X 117), (1, vI p0), (2, vI s1.1), (3, vI s1.2.1), (4, vI s2.1), (5, vI s2.2), (6, vI s3.1), (7, vI s3.2)] [] s1.2.2) (B := fun (b3 : Int) => At K X (ZQ K X Q) 0 0 n rt 8 89 [(0, vR X 117), (1, vI p0), (2, vI s1.1), (3, vI s1.2.1), (4, vI s2.1), (5, vI s2.2), (6, vI b3)] [] s1.2.2) h (fun b3 h => ?_) (fun s3 h => ?_)
          · refine r_iload F 4 rfl d10_askOf_89 ?_
            refine r_iload F 6 rfl d10_askOf_91 ?_
            refine r_max F lm10_262 wm1 wm0 wm2 ⟨Nat.le_of_ble_eq_true rfl, Nat.le_of_ble_eq_true rfl, Nat.le_of_ble_eq_true rfl, Nat.le_of_ble_eq_true rfl⟩ d10_askOf_93 ?_
            refine r_istore F (lv' := [(4, vI (max32 s2.1 b3)), (0, vR X 117), (1, vI p0), (2, vI s1.1), (3, vI s1.2.1), (5, vI s2.2), (6, vI b3)]) (Nat.le_of_ble_eq_true rfl) rfl d10_askOf_96 ?_
            refine r_iinc F 5 (lv' := [(5, vI (s2.2 + 1)), (4, vI (max32 s2.1 b3)), (0, vR X 117), (1, vI p0), (2, vI s1.1), (3, vI s1.2.1), (6, vI b3)]) rfl (Nat.le_of_ble_eq_true rfl) rfl d10_askOf_98 ?_
            refine r_goto F (tgt := 26) (by decide) d10_askOf_101 ?_
            refine r_weak [2, 3, 4, 5, 1, 0] rfl ?_
            replace h := wpo_inl h
            exact h
          · refine r_iload F 7 rfl d10_askOf_39 ?_
            refine r_bipush F (z := 8) (by decide) d10_askOf_41 ?_
            refine r_icmp_gt F (tgt := 89) d10_askOf_43 (by decide) (fun hb => ?_) (fun hb => ?_)
            · replace h := wpo_pos h hb
              refine r_weak [0, 1, 2, 3, 4, 5, 6] rfl ?_
              replace h := wpo_inr h
              exact h
            · replace h := wpo_neg h hb
              refine r_iload F 6 rfl d10_askOf_46 ?_
              refine r_iload_n F 1 rfl rfl d10_askOf_48 ?_
              refine r_iload F 7 rfl d10_askOf_49 ?_
              replace h := wpo_bind h
              refine r_callS0 F lm10_240 mf10_bit rfl (fr := 0) (lo := 0) (As := [vI p0, vI s3.2]) (rest := [vI s3.1]) ⟨Nat.le_of_ble_eq_true rfl, Nat.le_of_ble_eq_true rfl⟩ rfl (Nat.le_of_ble_eq_true rfl) ⟨Nat.zero_le _, Nat.zero_le _⟩ d10_askOf_51 ?_
              refine ok10_bit hn  (kI h (fun a3 h => ?_))
              refine r_iconst F (z := 1) d10_askOf_54 ?_
              refine at_join (B := fun (j1 : Int) => At K X (ZQ K X Q) 0 0 n rt 8 80 [(0, vR X 117), (1, vI p0), (2, vI s1.1), (3, vI s1.2.1), (4, vI s2.1), (5, vI s2.2), (7, vI s3.2)] [vI j1, vI s3.1] s1.2.2) h (fun j1 h => ?_) (fun h => ?_)
              · refine r_iadd F d10_askOf_80 ?_
                refine r_istore F (lv' := [(6, vI (s3.1 + j1)), (0, vR X 117), (1, vI p0), (2, vI s1.1), (3, vI s1.2.1), (4, vI s2.1), (5, vI s2.2), (7, vI s3.2)]) (Nat.le_of_ble_eq_true rfl) rfl d10_askOf_81 ?_
                refine r_iinc F 7 (lv' := [(7, vI (s3.2 + 1)), (6, vI (s3.1 + j1)), (0, vR X 117), (1, vI p0), (2, vI s1.1), (3, vI s1.2.1), (4, vI s2.1), (5, vI s2.2)]) rfl (Nat.le_of_ble_eq_true rfl) rfl d10_askOf_83 ?_
                refine r_goto F (tgt := 39) (by decide) d10_askOf_86 ?_
                refine r_weak [2, 3, 4, 5, 6, 7, 1, 0] rfl ?_
                replace h := wpo_inl h
                exact h
              · refine r_icmp_ne F (tgt := 79) d10_askOf_55 (by decide) (fun hb => ?_) (fun hb => ?_)
                · replace h := wpo_neg h hb
                  refine r_iconst F (z := 0) d10_askOf_79 ?_
                  refine r_weak [0, 1, 2, 3, 4, 5, 7] rfl ?_
                  replace h := wpo_some h
                  exact h
                · replace h := wpo_pos h hb
                  refine r_aload_nR F 0 rfl rfl d10_askOf_58 ?_
                  refine r_getR F (z := 140) lf10_83 (vc117 hn) z117_39 d10_askOf_59 ?_
                  refine r_bipush F (z := 12) (by decide) d10_askOf_62 ?_
                  refine r_iload F 7 rfl d10_askOf_64 ?_
                  refine r_imul F d10_askOf_66 ?_
                  refine r_iload_n F 3 rfl rfl d10_askOf_67 ?_
                  refine r_iadd F d10_askOf_68 ?_
                  obtain ⟨hx1, h⟩ := wpo_chk h
                  refine r_iald F (vc140 hn) hx1 d10_askOf_69 ?_
                  refine r_iload F 5 rfl d10_askOf_70 ?_
                  refine r_icmp_ne F (tgt := 79) d10_askOf_72 (by decide) (fun hb => ?_) (fun hb => ?_)
                  · replace h := wpo_neg h hb
                    refine r_iconst F (z := 0) d10_askOf_79 ?_
                    refine r_weak [0, 1, 2, 3, 4, 5, 7] rfl ?_
                    replace h := wpo_some h
                    exact h
                  · replace h := wpo_pos h hb
                    refine r_iconst F (z := 1) d10_askOf_75 ?_
                    refine r_goto F (tgt := 80) (by decide) d10_askOf_76 ?_
                    refine r_weak [0, 1, 2, 3, 4, 5, 7] rfl ?_
                    replace h := wpo_some h
                    exact h
theorem d10_ask_0 : decode c10_ask 0 = .ok (.aload_n 0, 1) := by decide +kernel
theorem d10_ask_1 : decode c10_ask 1 = .ok (.iload_n 1, 1) := by decide +kernel
theorem d10_ask_2 : decode c10_ask 2 = .ok (.invokevirtual 392, 3) := by decide +kernel
theorem d10_ask_5 : decode c10_ask 5 = .ok (.istore_n 2, 1) := by decide +kernel
theorem d10_ask_6 : decode c10_ask 6 = .ok (.iload_n 2, 1) := by decide +kernel
theorem d10_ask_7 : decode c10_ask 7 = .ok (.ifCond .ge 7, 3) := by decide +kernel
theorem d10_ask_10 : decode c10_ask 10 = .ok (.iload_n 2, 1) := by decide +kernel
theorem d10_ask_11 : decode c10_ask 11 = .ok (.goto 8, 3) := by decide +kernel
theorem d10_ask_14 : decode c10_ask 14 = .ok (.aload_n 0, 1) := by decide +kernel
theorem d10_ask_15 : decode c10_ask 15 = .ok (.iload_n 2, 1) := by decide +kernel
theorem d10_ask_16 : decode c10_ask 16 = .ok (.invokevirtual 398, 3) := by decide +kernel
theorem d10_ask_19 : decode c10_ask 19 = .ok (.ireturn, 1) := by decide +kernel
def f10_ask (D : Mem) (p0 : Int) : Option (Int × Mem) :=
  Option.bind (f10_layWhose D p0) fun (a1 : Int × Mem) =>
  if w32 a1.1 < 0 then
    some (a1.1, a1.2)
  else
    Option.bind (f10_askOf a1.2 a1.1) fun (a2 : Int × Mem) =>
    some (a2.1, a2.2)
set_option maxHeartbeats 4000000 in
theorem ok10_ask {l : Launch} {X : XT} {n : Nat} {D : Mem} {Q : Option Value → Nat → Rho → Mem → Prop} (hn : 147 ≤ n) {p0 : Int}  (h : wpo (f10_ask D p0) (fun a => Q (some (vI a.1)) n rt a.2)) : MOK l y10_ask c10_ask 3 (some .int) { frames := 5, cells := 0, slots := 0, locals := 118 } 0 0 X [vR X 117, vI p0] n rt D Q := by
  refine MOK_of 10 (by decide +kernel) rfl (lv := [(0, vR X 117), (1, vI p0)]) (Nat.le_of_ble_eq_true rfl) rfl (fun K hK F hnm => ?_)
  subst hK
  unfold f10_ask at h
  refine r_aload_nR F 0 rfl rfl d10_ask_0 ?_
  refine r_iload_n F 1 rfl rfl d10_ask_1 ?_
  replace h := wpo_bind h
  refine r_callV0 F lm10_392 mf10_layWhose (vc117 hn) rfl (fr := 4) (lo := 93) (As := [vI p0]) (rest := []) ⟨Nat.le_of_ble_eq_true rfl, Nat.le_of_ble_eq_true rfl⟩ rfl (Nat.le_of_ble_eq_true rfl) ⟨Nat.zero_le _, Nat.zero_le _⟩ d10_ask_2 ?_
  refine ok10_layWhose hn  (kIm h (fun a1 h => ?_))
  refine r_istore_n F (lv' := [(2, vI a1.1), (0, vR X 117), (1, vI p0)]) rfl (Nat.le_of_ble_eq_true rfl) rfl d10_ask_5 ?_
  refine r_iload_n F 0 rfl rfl d10_ask_6 ?_
  refine r_if_ge F (tgt := 14) d10_ask_7 (by decide) (fun hb => ?_) (fun hb => ?_)
  · replace h := wpo_neg h hb
    refine r_aload_nR F 1 rfl rfl d10_ask_14 ?_
    refine r_iload_n F 0 rfl rfl d10_ask_15 ?_
    replace h := wpo_bind h
    refine r_callV0 F lm10_398 mf10_askOf (vc117 hn) rfl (fr := 1) (lo := 23) (As := [vI a1.1]) (rest := []) ⟨Nat.le_of_ble_eq_true rfl, Nat.le_of_ble_eq_true rfl⟩ rfl (Nat.le_of_ble_eq_true rfl) ⟨Nat.zero_le _, Nat.zero_le _⟩ d10_ask_16 ?_
    refine ok10_askOf hn  (kIm h (fun a2 h => ?_))
    replace h := wpo_some h
    exact r_iret F h d10_ask_19
  · replace h := wpo_pos h hb
    refine r_iload_n F 0 rfl rfl d10_ask_10 ?_
    refine r_goto F (tgt := 19) (by decide) d10_ask_11 ?_
    replace h := wpo_some h
    exact r_iret F h d10_ask_19
theorem d10_leaves_0 : decode c10_leaves 0 = .ok (.aload_n 0, 1) := by decide +kernel
theorem d10_leaves_1 : decode c10_leaves 1 = .ok (.iload_n 1, 1) := by decide +kernel
theorem d10_leaves_2 : decode c10_leaves 2 = .ok (.invokevirtual 392, 3) := by decide +kernel
theorem d10_leaves_5 : decode c10_leaves 5 = .ok (.istore_n 2, 1) := by decide +kernel
theorem d10_leaves_6 : decode c10_leaves 6 = .ok (.iload_n 2, 1) := by decide +kernel
theorem d10_leaves_7 : decode c10_leaves 7 = .ok (.ifCond .ge 5, 3) := by decide +kernel
theorem d10_leaves_10 : decode c10_leaves 10 = .ok (.iload_n 2, 1) := by decide +kernel
theorem d10_leaves_11 : decode c10_leaves 11 = .ok (.ireturn, 1) := by decide +kernel
theorem d10_leaves_12 : decode c10_leaves 12 = .ok (.aload_n 0, 1) := by decide +kernel
theorem d10_leaves_13 : decode c10_leaves 13 = .ok (.iload_n 2, 1) := by decide +kernel
theorem d10_leaves_14 : decode c10_leaves 14 = .ok (.invokevirtual 398, 3) := by decide +kernel
theorem d10_leaves_17 : decode c10_leaves 17 = .ok (.pop, 1) := by decide +kernel
theorem d10_leaves_18 : decode c10_leaves 18 = .ok (.aload_n 0, 1) := by decide +kernel
theorem d10_leaves_19 : decode c10_leaves 19 = .ok (.getfield 395, 3) := by decide +kernel
theorem d10_leaves_22 : decode c10_leaves 22 = .ok (.ireturn, 1) := by decide +kernel
def f10_leaves (D : Mem) (p0 : Int) : Option (Int × Mem) :=
  Option.bind (f10_layWhose D p0) fun (a1 : Int × Mem) =>
  if w32 a1.1 < 0 then
    some (a1.1, a1.2)
  else
    Option.bind (f10_askOf a1.2 a1.1) fun (a2 : Int × Mem) =>
    some ((a2.2 117 40), a2.2)
set_option maxHeartbeats 4000000 in
theorem ok10_leaves {l : Launch} {X : XT} {n : Nat} {D : Mem} {Q : Option Value → Nat → Rho → Mem → Prop} (hn : 147 ≤ n) {p0 : Int}  (h : wpo (f10_leaves D p0) (fun a => Q (some (vI a.1)) n rt a.2)) : MOK l y10_leaves c10_leaves 3 (some .int) { frames := 5, cells := 0, slots := 0, locals := 118 } 0 0 X [vR X 117, vI p0] n rt D Q := by
  refine MOK_of 10 (by decide +kernel) rfl (lv := [(0, vR X 117), (1, vI p0)]) (Nat.le_of_ble_eq_true rfl) rfl (fun K hK F hnm => ?_)
  subst hK
  unfold f10_leaves at h
  refine r_aload_nR F 0 rfl rfl d10_leaves_0 ?_
  refine r_iload_n F 1 rfl rfl d10_leaves_1 ?_
  replace h := wpo_bind h
  refine r_callV0 F lm10_392 mf10_layWhose (vc117 hn) rfl (fr := 4) (lo := 93) (As := [vI p0]) (rest := []) ⟨Nat.le_of_ble_eq_true rfl, Nat.le_of_ble_eq_true rfl⟩ rfl (Nat.le_of_ble_eq_true rfl) ⟨Nat.zero_le _, Nat.zero_le _⟩ d10_leaves_2 ?_
  refine ok10_layWhose hn  (kIm h (fun a1 h => ?_))
  refine r_istore_n F (lv' := [(2, vI a1.1), (0, vR X 117), (1, vI p0)]) rfl (Nat.le_of_ble_eq_true rfl) rfl d10_leaves_5 ?_
  refine r_iload_n F 0 rfl rfl d10_leaves_6 ?_
  refine r_if_ge F (tgt := 12) d10_leaves_7 (by decide) (fun hb => ?_) (fun hb => ?_)
  · replace h := wpo_neg h hb
    refine r_aload_nR F 1 rfl rfl d10_leaves_12 ?_
    refine r_iload_n F 0 rfl rfl d10_leaves_13 ?_
    replace h := wpo_bind h
    refine r_callV0 F lm10_398 mf10_askOf (vc117 hn) rfl (fr := 1) (lo := 23) (As := [vI a1.1]) (rest := []) ⟨Nat.le_of_ble_eq_true rfl, Nat.le_of_ble_eq_true rfl⟩ rfl (Nat.le_of_ble_eq_true rfl) ⟨Nat.zero_le _, Nat.zero_le _⟩ d10_leaves_14 ?_
    refine ok10_askOf hn  (kIm h (fun a2 h => ?_))
    refine r_pop F rfl d10_leaves_17 ?_
    refine r_aload_nR F 1 rfl rfl d10_leaves_18 ?_
    refine r_getI F lf10_395 (vc117 hn) d10_leaves_19 ?_
    replace h := wpo_some h
    exact r_iret F h d10_leaves_22
  · replace h := wpo_pos h hb
    refine r_iload_n F 0 rfl rfl d10_leaves_10 ?_
    replace h := wpo_some h
    exact r_iret F h d10_leaves_11
theorem d10_layBins_0 : decode c10_layBins 0 = .ok (.aload_n 0, 1) := by decide +kernel
theorem d10_layBins_1 : decode c10_layBins 1 = .ok (.invokevirtual 325, 3) := by decide +kernel
theorem d10_layBins_4 : decode c10_layBins 4 = .ok (.aload_n 0, 1) := by decide +kernel
theorem d10_layBins_5 : decode c10_layBins 5 = .ok (.getfield 86, 3) := by decide +kernel
theorem d10_layBins_8 : decode c10_layBins 8 = .ok (.iconst 0, 1) := by decide +kernel
theorem d10_layBins_9 : decode c10_layBins 9 = .ok (.iconst 0, 1) := by decide +kernel
theorem d10_layBins_10 : decode c10_layBins 10 = .ok (.iastore, 1) := by decide +kernel
theorem d10_layBins_11 : decode c10_layBins 11 = .ok (.iconst 1, 1) := by decide +kernel
theorem d10_layBins_12 : decode c10_layBins 12 = .ok (.istore_n 1, 1) := by decide +kernel
theorem d10_layBins_13 : decode c10_layBins 13 = .ok (.iload_n 1, 1) := by decide +kernel
theorem d10_layBins_14 : decode c10_layBins 14 = .ok (.aload_n 0, 1) := by decide +kernel
theorem d10_layBins_15 : decode c10_layBins 15 = .ok (.invokevirtual 320, 3) := by decide +kernel
theorem d10_layBins_18 : decode c10_layBins 18 = .ok (.if_icmp .gt 79, 3) := by decide +kernel
theorem d10_layBins_21 : decode c10_layBins 21 = .ok (.aload_n 0, 1) := by decide +kernel
theorem d10_layBins_22 : decode c10_layBins 22 = .ok (.getfield 86, 3) := by decide +kernel
theorem d10_layBins_25 : decode c10_layBins 25 = .ok (.iload_n 1, 1) := by decide +kernel
theorem d10_layBins_26 : decode c10_layBins 26 = .ok (.ldc_w 306, 3) := by decide +kernel
theorem d10_layBins_29 : decode c10_layBins 29 = .ok (.iastore, 1) := by decide +kernel
theorem d10_layBins_30 : decode c10_layBins 30 = .ok (.iconst 1, 1) := by decide +kernel
theorem d10_layBins_31 : decode c10_layBins 31 = .ok (.istore_n 2, 1) := by decide +kernel
theorem d10_layBins_32 : decode c10_layBins 32 = .ok (.iload_n 2, 1) := by decide +kernel
theorem d10_layBins_33 : decode c10_layBins 33 = .ok (.iload_n 1, 1) := by decide +kernel
theorem d10_layBins_34 : decode c10_layBins 34 = .ok (.if_icmp .gt 57, 3) := by decide +kernel
theorem d10_layBins_37 : decode c10_layBins 37 = .ok (.iload_n 2, 1) := by decide +kernel
theorem d10_layBins_38 : decode c10_layBins 38 = .ok (.iload_n 1, 1) := by decide +kernel
theorem d10_layBins_39 : decode c10_layBins 39 = .ok (.iconst (-1), 1) := by decide +kernel
theorem d10_layBins_40 : decode c10_layBins 40 = .ok (.ixor, 1) := by decide +kernel
theorem d10_layBins_41 : decode c10_layBins 41 = .ok (.iand, 1) := by decide +kernel
theorem d10_layBins_42 : decode c10_layBins 42 = .ok (.ifCond .ne 43, 3) := by decide +kernel
theorem d10_layBins_45 : decode c10_layBins 45 = .ok (.aload_n 0, 1) := by decide +kernel
theorem d10_layBins_46 : decode c10_layBins 46 = .ok (.getfield 61, 3) := by decide +kernel
theorem d10_layBins_49 : decode c10_layBins 49 = .ok (.iload_n 2, 1) := by decide +kernel
theorem d10_layBins_50 : decode c10_layBins 50 = .ok (.iaload, 1) := by decide +kernel
theorem d10_layBins_51 : decode c10_layBins 51 = .ok (.aload_n 0, 1) := by decide +kernel
theorem d10_layBins_52 : decode c10_layBins 52 = .ok (.getfield 228, 3) := by decide +kernel
theorem d10_layBins_55 : decode c10_layBins 55 = .ok (.if_icmp .gt 30, 3) := by decide +kernel
theorem d10_layBins_58 : decode c10_layBins 58 = .ok (.aload_n 0, 1) := by decide +kernel
theorem d10_layBins_59 : decode c10_layBins 59 = .ok (.getfield 86, 3) := by decide +kernel
theorem d10_layBins_62 : decode c10_layBins 62 = .ok (.iload_n 1, 1) := by decide +kernel
theorem d10_layBins_63 : decode c10_layBins 63 = .ok (.aload_n 0, 1) := by decide +kernel
theorem d10_layBins_64 : decode c10_layBins 64 = .ok (.getfield 86, 3) := by decide +kernel
theorem d10_layBins_67 : decode c10_layBins 67 = .ok (.iload_n 1, 1) := by decide +kernel
theorem d10_layBins_68 : decode c10_layBins 68 = .ok (.iaload, 1) := by decide +kernel
theorem d10_layBins_69 : decode c10_layBins 69 = .ok (.iconst 1, 1) := by decide +kernel
theorem d10_layBins_70 : decode c10_layBins 70 = .ok (.aload_n 0, 1) := by decide +kernel
theorem d10_layBins_71 : decode c10_layBins 71 = .ok (.getfield 86, 3) := by decide +kernel
theorem d10_layBins_74 : decode c10_layBins 74 = .ok (.iload_n 1, 1) := by decide +kernel
theorem d10_layBins_75 : decode c10_layBins 75 = .ok (.iload_n 2, 1) := by decide +kernel
theorem d10_layBins_76 : decode c10_layBins 76 = .ok (.iconst (-1), 1) := by decide +kernel
theorem d10_layBins_77 : decode c10_layBins 77 = .ok (.ixor, 1) := by decide +kernel
theorem d10_layBins_78 : decode c10_layBins 78 = .ok (.iand, 1) := by decide +kernel
theorem d10_layBins_79 : decode c10_layBins 79 = .ok (.iaload, 1) := by decide +kernel
theorem d10_layBins_80 : decode c10_layBins 80 = .ok (.iadd, 1) := by decide +kernel
theorem d10_layBins_81 : decode c10_layBins 81 = .ok (.invokestatic 150, 3) := by decide +kernel
theorem d10_layBins_84 : decode c10_layBins 84 = .ok (.iastore, 1) := by decide +kernel
theorem d10_layBins_85 : decode c10_layBins 85 = .ok (.iinc 2 1, 3) := by decide +kernel
theorem d10_layBins_88 : decode c10_layBins 88 = .ok (.goto (-56), 3) := by decide +kernel
theorem d10_layBins_91 : decode c10_layBins 91 = .ok (.iinc 1 1, 3) := by decide +kernel
theorem d10_layBins_94 : decode c10_layBins 94 = .ok (.goto (-81), 3) := by decide +kernel
theorem d10_layBins_97 : decode c10_layBins 97 = .ok (.return_, 1) := by decide +kernel
def f10_layBins (D : Mem) : Option (Mem) :=
  Option.bind (f10_laySums D) fun (a1 : Mem) =>
  Option.bind (some (mset a1 141 0 0)) fun (D1 : Mem) =>
  Option.bind (@loop (Int × Mem) (Mem) (fun s1 =>
    Option.bind (f10_allPersons s1.2) fun (a2 : Int) =>
    if w32 a2 < w32 s1.1 then
      some (Sum.inr s1.2)
    else
      if 0 ≤ s1.1 ∧ s1.1 < 256 then
        Option.bind (some (mset s1.2 141 s1.1.toNat 1000000000)) fun (D2 : Mem) =>
        Option.bind (@loop (Int × Mem) (Mem) (fun s2 =>
          if w32 s1.1 < w32 s2.1 then
            some (Sum.inr s2.2)
          else
            Option.bind (
              if w32 (and32 s2.1 (xor32 s1.1 (-1))) = 0 then
                if 0 ≤ s2.1 ∧ s2.1 < 256 then
                  if w32 (s2.2 117 19) < w32 (s2.2 133 s2.1.toNat) then
                    some s2.2
                  else
                    if 0 ≤ (and32 s1.1 (xor32 s2.1 (-1))) ∧ (and32 s1.1 (xor32 s2.1 (-1))) < 256 then
                      some (mset s2.2 141 s1.1.toNat (min32 (s2.2 141 s1.1.toNat) (1 + (s2.2 141 (and32 s1.1 (xor32 s2.1 (-1))).toNat))))
                    else none
                else none
              else
                some s2.2
            ) fun (j1 : Mem) =>
            some (Sum.inl ((s2.1 + 1), j1))
        ) FU (1, D2)) fun (b2 : Mem) =>
        some (Sum.inl ((s1.1 + 1), b2))
      else none
  ) FU (1, D1)) fun (b1 : Mem) =>
  some b1
set_option maxHeartbeats 4000000 in
theorem ok10_layBins {l : Launch} {X : XT} {n : Nat} {D : Mem} {Q : Option Value → Nat → Rho → Mem → Prop} (hn : 147 ≤ n)  (h : wpo (f10_layBins D) (fun a => Q none n rt a)) : MOK l y10_layBins c10_layBins 3 (none) { frames := 3, cells := 0, slots := 0, locals := 65 } 0 0 X [vR X 117] n rt D Q := by
  refine MOK_of 10 (by decide +kernel) rfl (lv := [(0, vR X 117)]) (Nat.le_of_ble_eq_true rfl) rfl (fun K hK F hnm => ?_)
  subst hK
  unfold f10_layBins at h
  refine r_aload_nR F 0 rfl rfl d10_layBins_0 ?_
  replace h := wpo_bind h
  refine r_callV0 F lm10_325 mf10_laySums (vc117 hn) rfl (fr := 2) (lo := 43) (As := []) (rest := []) ⟨Nat.le_of_ble_eq_true rfl, Nat.le_of_ble_eq_true rfl⟩ rfl (Nat.le_of_ble_eq_true rfl) ⟨Nat.zero_le _, Nat.zero_le _⟩ d10_layBins_1 ?_
  refine ok10_laySums hn  (kVm h (fun a1 h => ?_))
  refine r_aload_nR F 0 rfl rfl d10_layBins_4 ?_
  refine r_getR F (z := 141) lf10_86 (vc117 hn) z117_41 d10_layBins_5 ?_
  refine r_iconst F (z := 0) d10_layBins_8 ?_
  refine r_iconst F (z := 0) d10_layBins_9 ?_
  refine r_iastC F (j := 0) (vc141 hn) (by decide) rfl d10_layBins_10 ?_
  refine r_iconst F (z := 1) d10_layBins_11 ?_
  refine r_istore_n F (lv' := [(1, vI 1), (0, vR X 117)]) rfl (Nat.le_of_ble_eq_true rfl) rfl d10_layBins_12 ?_
  refine at_name (B := fun (D1 : Mem) => At K X (ZQ K X Q) 0 0 n rt 3 13 [(1, vI 1), (0, vR X 117)] [] D1) h (fun D1 h => ?_)
  refine r_weak [1, 0] rfl ?_
  refine at_loopj (A := fun (s1 : Int × Mem) => At K X (ZQ K X Q) 0 0 n rt 3 13 [(0, vR X 117), (1, vI s1.1)] [] s1.2) (B := fun (b1 : Mem) => At K X (ZQ K X Q) 0 0 n rt 3 97 [] [] b1) h (fun b1 h => ?_) (fun s1 h => ?_)
  · replace h := wpo_some h
    exact r_vret F h d10_layBins_97
  · refine r_iload_n F 1 rfl rfl d10_layBins_13 ?_
    refine r_aload_nR F 0 rfl rfl d10_layBins_14 ?_
    replace h := wpo_bind h
    refine r_callV0 F lm10_320 mf10_allPersons (vc117 hn) rfl (fr := 0) (lo := 0) (As := []) (rest := [vI s1.1]) ⟨Nat.le_of_ble_eq_true rfl, Nat.le_of_ble_eq_true rfl⟩ rfl (Nat.le_of_ble_eq_true rfl) ⟨Nat.zero_le _, Nat.zero_le _⟩ d10_layBins_15 ?_
    refine ok10_allPersons hn  (kI h (fun a2 h => ?_))
    refine r_icmp_gt F (tgt := 97) d10_layBins_18 (by decide) (fun hb => ?_) (fun hb => ?_)
    · replace h := wpo_pos h hb
      refine r_weak [] rfl ?_
      replace h := wpo_inr h
      exact h
    · replace h := wpo_neg h hb
      refine r_aload_nR F 0 rfl rfl d10_layBins_21 ?_
      refine r_getR F (z := 141) lf10_86 (vc117 hn) z117_41 d10_layBins_22 ?_
      refine r_iload_n F 1 rfl rfl d10_layBins_25 ?_
      refine r_ldcw F (z := 1000000000) lc10_306 d10_layBins_26 ?_
      obtain ⟨hx1, h⟩ := wpo_chk h
      refine r_iast F (vc141 hn) hx1 d10_layBins_29 ?_
      refine r_iconst F (z := 1) d10_layBins_30 ?_
      refine r_istore_n F (lv' := [(2, vI 1), (0, vR X 117), (1, vI s1.1)]) rfl (Nat.le_of_ble_eq_true rfl) rfl d10_layBins_31 ?_
      refine at_name (B := fun (D2 : Mem) => At K X (ZQ K X Q) 0 0 n rt 3 32 [(2, vI 1), (0, vR X 117), (1, vI s1.1)] [] D2) h (fun D2 h => ?_)
      refine r_weak [1, 2, 0] rfl ?_
      refine at_loopj (A := fun (s2 : Int × Mem) => At K X (ZQ K X Q) 0 0 n rt 3 32 [(0, vR X 117), (1, vI s1.1), (2, vI s2.1)] [] s2.2) (B := fun (b2 : Mem) => At K X (ZQ K X Q) 0 0 n rt 3 91 [(0, vR X 117), (1, vI s1.1)] [] b2) h (fun b2 h => ?_) (fun s2 h => ?_)
      · refine r_iinc F 1 (lv' := [(1, vI (s1.1 + 1)), (0, vR X 117)]) rfl (Nat.le_of_ble_eq_true rfl) rfl d10_layBins_91 ?_
        refine r_goto F (tgt := 13) (by decide) d10_layBins_94 ?_
        refine r_weak [1, 0] rfl ?_
        replace h := wpo_inl h
        exact h
      · refine r_iload_n F 2 rfl rfl d10_layBins_32 ?_
        refine r_iload_n F 1 rfl rfl d10_layBins_33 ?_
        refine r_icmp_gt F (tgt := 91) d10_layBins_34 (by decide) (fun hb => ?_) (fun hb => ?_)
        · replace h := wpo_pos h hb
          refine r_weak [0, 1] rfl ?_
          replace h := wpo_inr h
          exact h
        · replace h := wpo_neg h hb
          refine r_iload_n F 2 rfl rfl d10_layBins_37 ?_
          refine r_iload_n F 1 rfl rfl d10_layBins_38 ?_
          refine r_iconst F (z := (-1)) d10_layBins_39 ?_
          refine r_ixor F d10_layBins_40 ?_
          refine r_iand F d10_layBins_41 ?_
          refine at_join (B := fun (j1 : Mem) => At K X (ZQ K X Q) 0 0 n rt 3 85 [(0, vR X 117), (1, vI s1.1), (2, vI s2.1)] [] j1) h (fun j1 h => ?_) (fun h => ?_)
          · refine r_iinc F 2 (lv' := [(2, vI (s2.1 + 1)), (0, vR X 117), (1, vI s1.1)]) rfl (Nat.le_of_ble_eq_true rfl) rfl d10_layBins_85 ?_
            refine r_goto F (tgt := 32) (by decide) d10_layBins_88 ?_
            refine r_weak [1, 2, 0] rfl ?_
            replace h := wpo_inl h
            exact h
          · refine r_if_ne F (tgt := 85) d10_layBins_42 (by decide) (fun hb => ?_) (fun hb => ?_)
            · replace h := wpo_neg h hb
              replace h := wpo_some h
              exact h
            · replace h := wpo_pos h hb
              refine r_aload_nR F 0 rfl rfl d10_layBins_45 ?_
              refine r_getR F (z := 133) lf10_61 (vc117 hn) z117_29 d10_layBins_46 ?_
              refine r_iload_n F 2 rfl rfl d10_layBins_49 ?_
              obtain ⟨hx2, h⟩ := wpo_chk h
              refine r_iald F (vc133 hn) hx2 d10_layBins_50 ?_
              refine r_aload_nR F 0 rfl rfl d10_layBins_51 ?_
              refine r_getI F lf10_228 (vc117 hn) d10_layBins_52 ?_
              refine r_icmp_gt F (tgt := 85) d10_layBins_55 (by decide) (fun hb => ?_) (fun hb => ?_)
              · replace h := wpo_pos h hb
                replace h := wpo_some h
                exact h
              · replace h := wpo_neg h hb
                refine r_aload_nR F 0 rfl rfl d10_layBins_58 ?_
                refine r_getR F (z := 141) lf10_86 (vc117 hn) z117_41 d10_layBins_59 ?_
                refine r_iload_n F 1 rfl rfl d10_layBins_62 ?_
                refine r_aload_nR F 0 rfl rfl d10_layBins_63 ?_
                refine r_getR F (z := 141) lf10_86 (vc117 hn) z117_41 d10_layBins_64 ?_
                refine r_iload_n F 1 rfl rfl d10_layBins_67 ?_
                refine r_iald F (vc141 hn) hx1 d10_layBins_68 ?_
                refine r_iconst F (z := 1) d10_layBins_69 ?_
                refine r_aload_nR F 0 rfl rfl d10_layBins_70 ?_
                refine r_getR F (z := 141) lf10_86 (vc117 hn) z117_41 d10_layBins_71 ?_
                refine r_iload_n F 1 rfl rfl d10_layBins_74 ?_
                refine r_iload_n F 2 rfl rfl d10_layBins_75 ?_
                refine r_iconst F (z := (-1)) d10_layBins_76 ?_
                refine r_ixor F d10_layBins_77 ?_
                refine r_iand F d10_layBins_78 ?_
                obtain ⟨hx3, h⟩ := wpo_chk h
                refine r_iald F (vc141 hn) hx3 d10_layBins_79 ?_
                refine r_iadd F d10_layBins_80 ?_
                refine r_min F lm10_150 wm3 wm0 wm4 ⟨Nat.le_of_ble_eq_true rfl, Nat.le_of_ble_eq_true rfl, Nat.le_of_ble_eq_true rfl, Nat.le_of_ble_eq_true rfl⟩ d10_layBins_81 ?_
                refine r_iast F (vc141 hn) hx1 d10_layBins_84 ?_
                replace h := wpo_some h
                exact h
theorem d10_asksBins_0 : decode c10_asksBins 0 = .ok (.aload_n 0, 1) := by decide +kernel
theorem d10_asksBins_1 : decode c10_asksBins 1 = .ok (.invokevirtual 274, 3) := by decide +kernel
theorem d10_asksBins_4 : decode c10_asksBins 4 = .ok (.aload_n 0, 1) := by decide +kernel
theorem d10_asksBins_5 : decode c10_asksBins 5 = .ok (.invokevirtual 401, 3) := by decide +kernel
theorem d10_asksBins_8 : decode c10_asksBins 8 = .ok (.aload_n 0, 1) := by decide +kernel
theorem d10_asksBins_9 : decode c10_asksBins 9 = .ok (.invokevirtual 113, 3) := by decide +kernel
theorem d10_asksBins_12 : decode c10_asksBins 12 = .ok (.ireturn, 1) := by decide +kernel
def f10_asksBins (D : Mem) : Option (Int × Mem) :=
  Option.bind (f10_asItIs D) fun (a1 : Mem) =>
  Option.bind (f10_layBins a1) fun (a2 : Mem) =>
  Option.bind (f10_isParish a2) fun (a3 : Int) =>
  if a3 = 0 ∨ a3 = 1 then
    some (a3, a2)
  else none
set_option maxHeartbeats 4000000 in
theorem ok10_asksBins {l : Launch} {X : XT} {n : Nat} {D : Mem} {Q : Option Value → Nat → Rho → Mem → Prop} (hn : 147 ≤ n)  (h : wpo (f10_asksBins D) (fun a => Q (some (vI a.1)) n rt a.2)) : MOK l y10_asksBins c10_asksBins 1 (some .boolean) { frames := 4, cells := 0, slots := 0, locals := 87 } 0 0 X [vR X 117] n rt D Q := by
  refine MOK_of 10 (by decide +kernel) rfl (lv := [(0, vR X 117)]) (Nat.le_of_ble_eq_true rfl) rfl (fun K hK F hnm => ?_)
  subst hK
  unfold f10_asksBins at h
  refine r_aload_nR F 0 rfl rfl d10_asksBins_0 ?_
  replace h := wpo_bind h
  refine r_callV0 F lm10_274 mf10_asItIs (vc117 hn) rfl (fr := 1) (lo := 22) (As := []) (rest := []) ⟨Nat.le_of_ble_eq_true rfl, Nat.le_of_ble_eq_true rfl⟩ rfl (Nat.le_of_ble_eq_true rfl) ⟨Nat.zero_le _, Nat.zero_le _⟩ d10_asksBins_1 ?_
  refine ok10_asItIs hn  (kVm h (fun a1 h => ?_))
  refine r_aload_nR F 0 rfl rfl d10_asksBins_4 ?_
  replace h := wpo_bind h
  refine r_callV0 F lm10_401 mf10_layBins (vc117 hn) rfl (fr := 3) (lo := 65) (As := []) (rest := []) ⟨Nat.le_of_ble_eq_true rfl, Nat.le_of_ble_eq_true rfl⟩ rfl (Nat.le_of_ble_eq_true rfl) ⟨Nat.zero_le _, Nat.zero_le _⟩ d10_asksBins_5 ?_
  refine ok10_layBins hn  (kVm h (fun a2 h => ?_))
  refine r_aload_nR F 0 rfl rfl d10_asksBins_8 ?_
  replace h := wpo_bind h
  refine r_callV0 F lm10_113 mf10_isParish (vc117 hn) rfl (fr := 0) (lo := 0) (As := []) (rest := []) ⟨Nat.le_of_ble_eq_true rfl, Nat.le_of_ble_eq_true rfl⟩ rfl (Nat.le_of_ble_eq_true rfl) ⟨Nat.zero_le _, Nat.zero_le _⟩ d10_asksBins_9 ?_
  refine ok10_isParish hn  (kI h (fun a3 h => ?_))
  obtain ⟨hx1, h⟩ := wpo_chk h
  replace h := wpo_some h
  exact r_zret F hx1 h d10_asksBins_12
theorem d10_orNone_0 : decode c10_orNone 0 = .ok (.iload_n 0, 1) := by decide +kernel
theorem d10_orNone_1 : decode c10_orNone 1 = .ok (.ldc_w 306, 3) := by decide +kernel
theorem d10_orNone_4 : decode c10_orNone 4 = .ok (.if_icmp .lt 7, 3) := by decide +kernel
theorem d10_orNone_7 : decode c10_orNone 7 = .ok (.iconst (-1), 1) := by decide +kernel
theorem d10_orNone_8 : decode c10_orNone 8 = .ok (.goto 4, 3) := by decide +kernel
theorem d10_orNone_11 : decode c10_orNone 11 = .ok (.iload_n 0, 1) := by decide +kernel
theorem d10_orNone_12 : decode c10_orNone 12 = .ok (.ireturn, 1) := by decide +kernel
def f10_orNone (D : Mem) (p0 : Int) : Option (Int) :=
  if w32 p0 < w32 1000000000 then
    some p0
  else
    some (-1)
set_option maxHeartbeats 4000000 in
theorem ok10_orNone {l : Launch} {X : XT} {n : Nat} {D : Mem} {Q : Option Value → Nat → Rho → Mem → Prop} (hn : 147 ≤ n) {p0 : Int}  (h : wpo (f10_orNone D p0) (fun a => Q (some (vI a)) n rt D)) : MOK l y10_orNone c10_orNone 1 (some .int) { frames := 0, cells := 0, slots := 0, locals := 0 } 0 0 X [vI p0] n rt D Q := by
  refine MOK_of 10 (by decide +kernel) rfl (lv := [(0, vI p0)]) (Nat.le_of_ble_eq_true rfl) rfl (fun K hK F hnm => ?_)
  subst hK
  unfold f10_orNone at h
  refine r_iload_n F 0 rfl rfl d10_orNone_0 ?_
  refine r_ldcw F (z := 1000000000) lc10_306 d10_orNone_1 ?_
  refine r_icmp_lt F (tgt := 11) d10_orNone_4 (by decide) (fun hb => ?_) (fun hb => ?_)
  · replace h := wpo_pos h hb
    refine r_iload_n F 0 rfl rfl d10_orNone_11 ?_
    replace h := wpo_some h
    exact r_iret F h d10_orNone_12
  · replace h := wpo_neg h hb
    refine r_iconst F (z := (-1)) d10_orNone_7 ?_
    refine r_goto F (tgt := 12) (by decide) d10_orNone_8 ?_
    replace h := wpo_some h
    exact r_iret F h d10_orNone_12
theorem d10_nightsX_0 : decode c10_nightsX 0 = .ok (.aload_n 0, 1) := by decide +kernel
theorem d10_nightsX_1 : decode c10_nightsX 1 = .ok (.invokevirtual 404, 3) := by decide +kernel
theorem d10_nightsX_4 : decode c10_nightsX 4 = .ok (.ifCond .eq 23, 3) := by decide +kernel
theorem d10_nightsX_7 : decode c10_nightsX 7 = .ok (.aload_n 0, 1) := by decide +kernel
theorem d10_nightsX_8 : decode c10_nightsX 8 = .ok (.iload_n 1, 1) := by decide +kernel
theorem d10_nightsX_9 : decode c10_nightsX 9 = .ok (.invokevirtual 382, 3) := by decide +kernel
theorem d10_nightsX_12 : decode c10_nightsX 12 = .ok (.ifCond .eq 15, 3) := by decide +kernel
theorem d10_nightsX_15 : decode c10_nightsX 15 = .ok (.aload_n 0, 1) := by decide +kernel
theorem d10_nightsX_16 : decode c10_nightsX 16 = .ok (.getfield 86, 3) := by decide +kernel
theorem d10_nightsX_19 : decode c10_nightsX 19 = .ok (.iload_n 1, 1) := by decide +kernel
theorem d10_nightsX_20 : decode c10_nightsX 20 = .ok (.iaload, 1) := by decide +kernel
theorem d10_nightsX_21 : decode c10_nightsX 21 = .ok (.invokestatic 407, 3) := by decide +kernel
theorem d10_nightsX_24 : decode c10_nightsX 24 = .ok (.goto 5, 3) := by decide +kernel
theorem d10_nightsX_27 : decode c10_nightsX 27 = .ok (.bipush (-2), 2) := by decide +kernel
theorem d10_nightsX_29 : decode c10_nightsX 29 = .ok (.ireturn, 1) := by decide +kernel
def f10_nightsX (D : Mem) (p0 : Int) : Option (Int × Mem) :=
  Option.bind (f10_asksBins D) fun (a1 : Int × Mem) =>
  if w32 a1.1 = 0 then
    some ((-2), a1.2)
  else
    Option.bind (f10_isSet a1.2 p0) fun (a2 : Int) =>
    if w32 a2 = 0 then
      some ((-2), a1.2)
    else
      if 0 ≤ p0 ∧ p0 < 256 then
        Option.bind (f10_orNone a1.2 (a1.2 141 p0.toNat)) fun (a3 : Int) =>
        some (a3, a1.2)
      else none
set_option maxHeartbeats 4000000 in
theorem ok10_nightsX {l : Launch} {X : XT} {n : Nat} {D : Mem} {Q : Option Value → Nat → Rho → Mem → Prop} (hn : 147 ≤ n) {p0 : Int}  (h : wpo (f10_nightsX D p0) (fun a => Q (some (vI a.1)) n rt a.2)) : MOK l y10_nightsX c10_nightsX 2 (some .int) { frames := 5, cells := 0, slots := 0, locals := 107 } 0 0 X [vR X 117, vI p0] n rt D Q := by
  refine MOK_of 10 (by decide +kernel) rfl (lv := [(0, vR X 117), (1, vI p0)]) (Nat.le_of_ble_eq_true rfl) rfl (fun K hK F hnm => ?_)
  subst hK
  unfold f10_nightsX at h
  refine r_aload_nR F 0 rfl rfl d10_nightsX_0 ?_
  replace h := wpo_bind h
  refine r_callV0 F lm10_404 mf10_asksBins (vc117 hn) rfl (fr := 4) (lo := 87) (As := []) (rest := []) ⟨Nat.le_of_ble_eq_true rfl, Nat.le_of_ble_eq_true rfl⟩ rfl (Nat.le_of_ble_eq_true rfl) ⟨Nat.zero_le _, Nat.zero_le _⟩ d10_nightsX_1 ?_
  refine ok10_asksBins hn  (kIm h (fun a1 h => ?_))
  refine r_if_eq F (tgt := 27) d10_nightsX_4 (by decide) (fun hb => ?_) (fun hb => ?_)
  · replace h := wpo_pos h hb
    refine r_bipush F (z := (-2)) (by decide) d10_nightsX_27 ?_
    replace h := wpo_some h
    exact r_iret F h d10_nightsX_29
  · replace h := wpo_neg h hb
    refine r_aload_nR F 0 rfl rfl d10_nightsX_7 ?_
    refine r_iload_n F 1 rfl rfl d10_nightsX_8 ?_
    replace h := wpo_bind h
    refine r_callV0 F lm10_382 mf10_isSet (vc117 hn) rfl (fr := 1) (lo := 25) (As := [vI p0]) (rest := []) ⟨Nat.le_of_ble_eq_true rfl, Nat.le_of_ble_eq_true rfl⟩ rfl (Nat.le_of_ble_eq_true rfl) ⟨Nat.zero_le _, Nat.zero_le _⟩ d10_nightsX_9 ?_
    refine ok10_isSet hn  (kI h (fun a2 h => ?_))
    refine r_if_eq F (tgt := 27) d10_nightsX_12 (by decide) (fun hb => ?_) (fun hb => ?_)
    · replace h := wpo_pos h hb
      refine r_bipush F (z := (-2)) (by decide) d10_nightsX_27 ?_
      replace h := wpo_some h
      exact r_iret F h d10_nightsX_29
    · replace h := wpo_neg h hb
      refine r_aload_nR F 0 rfl rfl d10_nightsX_15 ?_
      refine r_getR F (z := 141) lf10_86 (vc117 hn) z117_41 d10_nightsX_16 ?_
      refine r_iload_n F 1 rfl rfl d10_nightsX_19 ?_
      obtain ⟨hx1, h⟩ := wpo_chk h
      refine r_iald F (vc141 hn) hx1 d10_nightsX_20 ?_
      replace h := wpo_bind h
      refine r_callS0 F lm10_407 mf10_orNone rfl (fr := 0) (lo := 0) (As := [vI (a1.2 141 p0.toNat)]) (rest := []) ⟨Nat.le_of_ble_eq_true rfl, Nat.le_of_ble_eq_true rfl⟩ rfl (Nat.le_of_ble_eq_true rfl) ⟨Nat.zero_le _, Nat.zero_le _⟩ d10_nightsX_21 ?_
      refine ok10_orNone hn  (kI h (fun a3 h => ?_))
      refine r_goto F (tgt := 29) (by decide) d10_nightsX_24 ?_
      replace h := wpo_some h
      exact r_iret F h d10_nightsX_29
theorem d10_costs_0 : decode c10_costs 0 = .ok (.aload_n 0, 1) := by decide +kernel
theorem d10_costs_1 : decode c10_costs 1 = .ok (.invokevirtual 404, 3) := by decide +kernel
theorem d10_costs_4 : decode c10_costs 4 = .ok (.ifCond .eq 11, 3) := by decide +kernel
theorem d10_costs_7 : decode c10_costs 7 = .ok (.aload_n 0, 1) := by decide +kernel
theorem d10_costs_8 : decode c10_costs 8 = .ok (.iload_n 1, 1) := by decide +kernel
theorem d10_costs_9 : decode c10_costs 9 = .ok (.invokevirtual 382, 3) := by decide +kernel
theorem d10_costs_12 : decode c10_costs 12 = .ok (.ifCond .ne 6, 3) := by decide +kernel
theorem d10_costs_15 : decode c10_costs 15 = .ok (.bipush (-2), 2) := by decide +kernel
theorem d10_costs_17 : decode c10_costs 17 = .ok (.ireturn, 1) := by decide +kernel
theorem d10_costs_18 : decode c10_costs 18 = .ok (.aload_n 0, 1) := by decide +kernel
theorem d10_costs_19 : decode c10_costs 19 = .ok (.getfield 86, 3) := by decide +kernel
theorem d10_costs_22 : decode c10_costs 22 = .ok (.iload_n 1, 1) := by decide +kernel
theorem d10_costs_23 : decode c10_costs 23 = .ok (.iaload, 1) := by decide +kernel
theorem d10_costs_24 : decode c10_costs 24 = .ok (.ldc_w 306, 3) := by decide +kernel
theorem d10_costs_27 : decode c10_costs 27 = .ok (.if_icmp .lt 7, 3) := by decide +kernel
theorem d10_costs_30 : decode c10_costs 30 = .ok (.iconst (-1), 1) := by decide +kernel
theorem d10_costs_31 : decode c10_costs 31 = .ok (.goto 16, 3) := by decide +kernel
theorem d10_costs_34 : decode c10_costs 34 = .ok (.aload_n 0, 1) := by decide +kernel
theorem d10_costs_35 : decode c10_costs 35 = .ok (.getfield 9, 3) := by decide +kernel
theorem d10_costs_38 : decode c10_costs 38 = .ok (.iconst 5, 1) := by decide +kernel
theorem d10_costs_39 : decode c10_costs 39 = .ok (.iaload, 1) := by decide +kernel
theorem d10_costs_40 : decode c10_costs 40 = .ok (.aload_n 0, 1) := by decide +kernel
theorem d10_costs_41 : decode c10_costs 41 = .ok (.getfield 86, 3) := by decide +kernel
theorem d10_costs_44 : decode c10_costs 44 = .ok (.iload_n 1, 1) := by decide +kernel
theorem d10_costs_45 : decode c10_costs 45 = .ok (.iaload, 1) := by decide +kernel
theorem d10_costs_46 : decode c10_costs 46 = .ok (.imul, 1) := by decide +kernel
theorem d10_costs_47 : decode c10_costs 47 = .ok (.ireturn, 1) := by decide +kernel
def f10_costs (D : Mem) (p0 : Int) : Option (Int × Mem) :=
  Option.bind (f10_asksBins D) fun (a1 : Int × Mem) =>
  if w32 a1.1 = 0 then
    some ((-2), a1.2)
  else
    Option.bind (f10_isSet a1.2 p0) fun (a2 : Int) =>
    if w32 a2 = 0 then
      some ((-2), a1.2)
    else
      if 0 ≤ p0 ∧ p0 < 256 then
        if w32 (a1.2 141 p0.toNat) < w32 1000000000 then
          some (((a1.2 118 5) * (a1.2 141 p0.toNat)), a1.2)
        else
          some ((-1), a1.2)
      else none
set_option maxHeartbeats 4000000 in
theorem ok10_costs {l : Launch} {X : XT} {n : Nat} {D : Mem} {Q : Option Value → Nat → Rho → Mem → Prop} (hn : 147 ≤ n) {p0 : Int}  (h : wpo (f10_costs D p0) (fun a => Q (some (vI a.1)) n rt a.2)) : MOK l y10_costs c10_costs 2 (some .int) { frames := 5, cells := 0, slots := 0, locals := 107 } 0 0 X [vR X 117, vI p0] n rt D Q := by
  refine MOK_of 10 (by decide +kernel) rfl (lv := [(0, vR X 117), (1, vI p0)]) (Nat.le_of_ble_eq_true rfl) rfl (fun K hK F hnm => ?_)
  subst hK
  unfold f10_costs at h
  refine r_aload_nR F 0 rfl rfl d10_costs_0 ?_
  replace h := wpo_bind h
  refine r_callV0 F lm10_404 mf10_asksBins (vc117 hn) rfl (fr := 4) (lo := 87) (As := []) (rest := []) ⟨Nat.le_of_ble_eq_true rfl, Nat.le_of_ble_eq_true rfl⟩ rfl (Nat.le_of_ble_eq_true rfl) ⟨Nat.zero_le _, Nat.zero_le _⟩ d10_costs_1 ?_
  refine ok10_asksBins hn  (kIm h (fun a1 h => ?_))
  refine r_if_eq F (tgt := 15) d10_costs_4 (by decide) (fun hb => ?_) (fun hb => ?_)
  · replace h := wpo_pos h hb
    refine r_bipush F (z := (-2)) (by decide) d10_costs_15 ?_
    replace h := wpo_some h
    exact r_iret F h d10_costs_17
  · replace h := wpo_neg h hb
    refine r_aload_nR F 0 rfl rfl d10_costs_7 ?_
    refine r_iload_n F 1 rfl rfl d10_costs_8 ?_
    replace h := wpo_bind h
    refine r_callV0 F lm10_382 mf10_isSet (vc117 hn) rfl (fr := 1) (lo := 25) (As := [vI p0]) (rest := []) ⟨Nat.le_of_ble_eq_true rfl, Nat.le_of_ble_eq_true rfl⟩ rfl (Nat.le_of_ble_eq_true rfl) ⟨Nat.zero_le _, Nat.zero_le _⟩ d10_costs_9 ?_
    refine ok10_isSet hn  (kI h (fun a2 h => ?_))
    refine r_if_ne F (tgt := 18) d10_costs_12 (by decide) (fun hb => ?_) (fun hb => ?_)
    · replace h := wpo_neg h hb
      refine r_aload_nR F 0 rfl rfl d10_costs_18 ?_
      refine r_getR F (z := 141) lf10_86 (vc117 hn) z117_41 d10_costs_19 ?_
      refine r_iload_n F 1 rfl rfl d10_costs_22 ?_
      obtain ⟨hx1, h⟩ := wpo_chk h
      refine r_iald F (vc141 hn) hx1 d10_costs_23 ?_
      refine r_ldcw F (z := 1000000000) lc10_306 d10_costs_24 ?_
      refine r_icmp_lt F (tgt := 34) d10_costs_27 (by decide) (fun hb => ?_) (fun hb => ?_)
      · replace h := wpo_pos h hb
        refine r_aload_nR F 0 rfl rfl d10_costs_34 ?_
        refine r_getR F (z := 118) lf10_9 (vc117 hn) z117_1 d10_costs_35 ?_
        refine r_iconst F (z := 5) d10_costs_38 ?_
        refine r_ialdC F (j := 5) (vc118 hn) (by decide) rfl d10_costs_39 ?_
        refine r_aload_nR F 0 rfl rfl d10_costs_40 ?_
        refine r_getR F (z := 141) lf10_86 (vc117 hn) z117_41 d10_costs_41 ?_
        refine r_iload_n F 1 rfl rfl d10_costs_44 ?_
        refine r_iald F (vc141 hn) hx1 d10_costs_45 ?_
        refine r_imul F d10_costs_46 ?_
        replace h := wpo_some h
        exact r_iret F h d10_costs_47
      · replace h := wpo_neg h hb
        refine r_iconst F (z := (-1)) d10_costs_30 ?_
        refine r_goto F (tgt := 47) (by decide) d10_costs_31 ?_
        replace h := wpo_some h
        exact r_iret F h d10_costs_47
    · replace h := wpo_pos h hb
      refine r_bipush F (z := (-2)) (by decide) d10_costs_15 ?_
      replace h := wpo_some h
      exact r_iret F h d10_costs_17
theorem d10_askShares_0 : decode c10_askShares 0 = .ok (.iload_n 1, 1) := by decide +kernel
theorem d10_askShares_1 : decode c10_askShares 1 = .ok (.invokestatic 385, 3) := by decide +kernel
theorem d10_askShares_4 : decode c10_askShares 4 = .ok (.ifCond .eq 10, 3) := by decide +kernel
theorem d10_askShares_7 : decode c10_askShares 7 = .ok (.aload_n 0, 1) := by decide +kernel
theorem d10_askShares_8 : decode c10_askShares 8 = .ok (.invokevirtual 113, 3) := by decide +kernel
theorem d10_askShares_11 : decode c10_askShares 11 = .ok (.ifCond .ne 6, 3) := by decide +kernel
theorem d10_askShares_14 : decode c10_askShares 14 = .ok (.bipush (-2), 2) := by decide +kernel
theorem d10_askShares_16 : decode c10_askShares 16 = .ok (.ireturn, 1) := by decide +kernel
theorem d10_askShares_17 : decode c10_askShares 17 = .ok (.aload_n 0, 1) := by decide +kernel
theorem d10_askShares_18 : decode c10_askShares 18 = .ok (.getfield 92, 3) := by decide +kernel
theorem d10_askShares_21 : decode c10_askShares 21 = .ok (.iload_n 1, 1) := by decide +kernel
theorem d10_askShares_22 : decode c10_askShares 22 = .ok (.iaload, 1) := by decide +kernel
theorem d10_askShares_23 : decode c10_askShares 23 = .ok (.iconst (-1), 1) := by decide +kernel
theorem d10_askShares_24 : decode c10_askShares 24 = .ok (.if_icmp .ne 6, 3) := by decide +kernel
theorem d10_askShares_27 : decode c10_askShares 27 = .ok (.bipush (-6), 2) := by decide +kernel
theorem d10_askShares_29 : decode c10_askShares 29 = .ok (.ireturn, 1) := by decide +kernel
theorem d10_askShares_30 : decode c10_askShares 30 = .ok (.aload_n 0, 1) := by decide +kernel
theorem d10_askShares_31 : decode c10_askShares 31 = .ok (.getfield 92, 3) := by decide +kernel
theorem d10_askShares_34 : decode c10_askShares 34 = .ok (.iload_n 1, 1) := by decide +kernel
theorem d10_askShares_35 : decode c10_askShares 35 = .ok (.iaload, 1) := by decide +kernel
theorem d10_askShares_36 : decode c10_askShares 36 = .ok (.aload_n 0, 1) := by decide +kernel
theorem d10_askShares_37 : decode c10_askShares 37 = .ok (.getfield 9, 3) := by decide +kernel
theorem d10_askShares_40 : decode c10_askShares 40 = .ok (.bipush 7, 2) := by decide +kernel
theorem d10_askShares_42 : decode c10_askShares 42 = .ok (.iaload, 1) := by decide +kernel
theorem d10_askShares_43 : decode c10_askShares 43 = .ok (.if_icmp .eq 6, 3) := by decide +kernel
theorem d10_askShares_46 : decode c10_askShares 46 = .ok (.bipush (-2), 2) := by decide +kernel
theorem d10_askShares_48 : decode c10_askShares 48 = .ok (.ireturn, 1) := by decide +kernel
theorem d10_askShares_49 : decode c10_askShares 49 = .ok (.iconst 0, 1) := by decide +kernel
theorem d10_askShares_50 : decode c10_askShares 50 = .ok (.istore_n 2, 1) := by decide +kernel
theorem d10_askShares_51 : decode c10_askShares 51 = .ok (.iload_n 2, 1) := by decide +kernel
theorem d10_askShares_52 : decode c10_askShares 52 = .ok (.aload_n 0, 1) := by decide +kernel
theorem d10_askShares_53 : decode c10_askShares 53 = .ok (.getfield 92, 3) := by decide +kernel
theorem d10_askShares_56 : decode c10_askShares 56 = .ok (.iload_n 1, 1) := by decide +kernel
theorem d10_askShares_57 : decode c10_askShares 57 = .ok (.iaload, 1) := by decide +kernel
theorem d10_askShares_58 : decode c10_askShares 58 = .ok (.if_icmp .ge 28, 3) := by decide +kernel
theorem d10_askShares_61 : decode c10_askShares 61 = .ok (.aload_n 0, 1) := by decide +kernel
theorem d10_askShares_62 : decode c10_askShares 62 = .ok (.iload_n 1, 1) := by decide +kernel
theorem d10_askShares_63 : decode c10_askShares 63 = .ok (.iload_n 2, 1) := by decide +kernel
theorem d10_askShares_64 : decode c10_askShares 64 = .ok (.invokevirtual 388, 3) := by decide +kernel
theorem d10_askShares_67 : decode c10_askShares 67 = .ok (.lconst 0, 1) := by decide +kernel
theorem d10_askShares_68 : decode c10_askShares 68 = .ok (.ldc2_w 410, 3) := by decide +kernel
theorem d10_askShares_71 : decode c10_askShares 71 = .ok (.invokestatic 109, 3) := by decide +kernel
theorem d10_askShares_74 : decode c10_askShares 74 = .ok (.ifCond .ne 6, 3) := by decide +kernel
theorem d10_askShares_77 : decode c10_askShares 77 = .ok (.bipush (-2), 2) := by decide +kernel
theorem d10_askShares_79 : decode c10_askShares 79 = .ok (.ireturn, 1) := by decide +kernel
theorem d10_askShares_80 : decode c10_askShares 80 = .ok (.iinc 2 1, 3) := by decide +kernel
theorem d10_askShares_83 : decode c10_askShares 83 = .ok (.goto (-32), 3) := by decide +kernel
theorem d10_askShares_86 : decode c10_askShares 86 = .ok (.aload_n 0, 1) := by decide +kernel
theorem d10_askShares_87 : decode c10_askShares 87 = .ok (.invokevirtual 404, 3) := by decide +kernel
theorem d10_askShares_90 : decode c10_askShares 90 = .ok (.pop, 1) := by decide +kernel
theorem d10_askShares_91 : decode c10_askShares 91 = .ok (.iconst 0, 1) := by decide +kernel
theorem d10_askShares_92 : decode c10_askShares 92 = .ok (.ireturn, 1) := by decide +kernel
def f10_askShares (D : Mem) (p0 : Int) : Option (Int × Mem) :=
  Option.bind (f10_isSlot D p0) fun (a1 : Int) =>
  if w32 a1 = 0 then
    some ((-2), D)
  else
    Option.bind (f10_isParish D) fun (a2 : Int) =>
    if w32 a2 = 0 then
      some ((-2), D)
    else
      if 0 ≤ p0 ∧ p0 < 4 then
        if w32 (D 143 p0.toNat) = w32 (-1) then
          some ((-6), D)
        else
          if w32 (D 143 p0.toNat) = w32 (D 118 7) then
            Option.bind (@loop (Int) ((Unit) ⊕ (Int × Mem)) (fun s1 =>
              if w32 s1 < w32 (D 143 p0.toNat) then
                Option.bind (f10_numberAt D p0 s1) fun (a3 : Int) =>
                Option.bind (f10_in D a3 0 999) fun (a4 : Int) =>
                if w32 a4 = 0 then
                  some (Sum.inr (Sum.inr ((-2), D)))
                else
                  some (Sum.inl (s1 + 1))
              else
                some (Sum.inr (Sum.inl ()))
            ) FU 0) (fun z => Sum.elim (fun (b1 : Unit) =>
              Option.bind (f10_asksBins D) fun (a5 : Int × Mem) =>
              some (0, a5.2)
            ) (fun rv => some rv) z)
          else
            some ((-2), D)
      else none
set_option maxHeartbeats 4000000 in
theorem ok10_askShares {l : Launch} {X : XT} {n : Nat} {D : Mem} {Q : Option Value → Nat → Rho → Mem → Prop} (hn : 147 ≤ n) {p0 : Int}  (h : wpo (f10_askShares D p0) (fun a => Q (some (vI a.1)) n rt a.2)) : MOK l y10_askShares c10_askShares 3 (some .int) { frames := 5, cells := 0, slots := 0, locals := 107 } 0 0 X [vR X 117, vI p0] n rt D Q := by
  refine MOK_of 10 (by decide +kernel) rfl (lv := [(0, vR X 117), (1, vI p0)]) (Nat.le_of_ble_eq_true rfl) rfl (fun K hK F hnm => ?_)
  subst hK
  unfold f10_askShares at h
  refine r_iload_n F 1 rfl rfl d10_askShares_0 ?_
  replace h := wpo_bind h
  refine r_callS0 F lm10_385 mf10_isSlot rfl (fr := 1) (lo := 25) (As := [vI p0]) (rest := []) ⟨Nat.le_of_ble_eq_true rfl, Nat.le_of_ble_eq_true rfl⟩ rfl (Nat.le_of_ble_eq_true rfl) ⟨Nat.zero_le _, Nat.zero_le _⟩ d10_askShares_1 ?_
  refine ok10_isSlot hn  (kI h (fun a1 h => ?_))
  refine r_if_eq F (tgt := 14) d10_askShares_4 (by decide) (fun hb => ?_) (fun hb => ?_)
  · replace h := wpo_pos h hb
    refine r_bipush F (z := (-2)) (by decide) d10_askShares_14 ?_
    replace h := wpo_some h
    exact r_iret F h d10_askShares_16
  · replace h := wpo_neg h hb
    refine r_aload_nR F 0 rfl rfl d10_askShares_7 ?_
    replace h := wpo_bind h
    refine r_callV0 F lm10_113 mf10_isParish (vc117 hn) rfl (fr := 0) (lo := 0) (As := []) (rest := []) ⟨Nat.le_of_ble_eq_true rfl, Nat.le_of_ble_eq_true rfl⟩ rfl (Nat.le_of_ble_eq_true rfl) ⟨Nat.zero_le _, Nat.zero_le _⟩ d10_askShares_8 ?_
    refine ok10_isParish hn  (kI h (fun a2 h => ?_))
    refine r_if_ne F (tgt := 17) d10_askShares_11 (by decide) (fun hb => ?_) (fun hb => ?_)
    · replace h := wpo_neg h hb
      refine r_aload_nR F 0 rfl rfl d10_askShares_17 ?_
      refine r_getR F (z := 143) lf10_92 (vc117 hn) z117_43 d10_askShares_18 ?_
      refine r_iload_n F 1 rfl rfl d10_askShares_21 ?_
      obtain ⟨hx1, h⟩ := wpo_chk h
      refine r_iald F (vc143 hn) hx1 d10_askShares_22 ?_
      refine r_iconst F (z := (-1)) d10_askShares_23 ?_
      refine r_icmp_ne F (tgt := 30) d10_askShares_24 (by decide) (fun hb => ?_) (fun hb => ?_)
      · replace h := wpo_neg h hb
        refine r_aload_nR F 0 rfl rfl d10_askShares_30 ?_
        refine r_getR F (z := 143) lf10_92 (vc117 hn) z117_43 d10_askShares_31 ?_
        refine r_iload_n F 1 rfl rfl d10_askShares_34 ?_
        refine r_iald F (vc143 hn) hx1 d10_askShares_35 ?_
        refine r_aload_nR F 0 rfl rfl d10_askShares_36 ?_
        refine r_getR F (z := 118) lf10_9 (vc117 hn) z117_1 d10_askShares_37 ?_
        refine r_bipush F (z := 7) (by decide) d10_askShares_40 ?_
        refine r_ialdC F (j := 7) (vc118 hn) (by decide) rfl d10_askShares_42 ?_
        refine r_icmp_eq F (tgt := 49) d10_askShares_43 (by decide) (fun hb => ?_) (fun hb => ?_)
        · replace h := wpo_pos h hb
          refine r_iconst F (z := 0) d10_askShares_49 ?_
          refine r_istore_n F (lv' := [(2, vI 0), (0, vR X 117), (1, vI p0)]) rfl (Nat.le_of_ble_eq_true rfl) rfl d10_askShares_50 ?_
          refine r_weak [1, 2, 0] rfl ?_
          refine at_loopj (A := fun (s1 : Int) => At K X (ZQ K X Q) 0 0 n rt 3 51 [(0, vR X 117), (1, vI p0), (2, vI s1)] [] D) (B := Sum.elim (fun (b1 : Unit) => At K X (ZQ K X Q) 0 0 n rt 3 86 [(0, vR X 117)] [] D) (fun rv => Q (some (vI rv.1)) n rt rv.2)) h (fun z h => ?_) (fun s1 h => ?_)
          · rcases z with b1 | rv
            · replace h := elim_l h
              refine el_li ?_
              refine r_aload_nR F 0 rfl rfl d10_askShares_86 ?_
              replace h := wpo_bind h
              refine r_callV0 F lm10_404 mf10_asksBins (vc117 hn) rfl (fr := 4) (lo := 87) (As := []) (rest := []) ⟨Nat.le_of_ble_eq_true rfl, Nat.le_of_ble_eq_true rfl⟩ rfl (Nat.le_of_ble_eq_true rfl) ⟨Nat.zero_le _, Nat.zero_le _⟩ d10_askShares_87 ?_
              refine ok10_asksBins hn  (kIm h (fun a5 h => ?_))
              refine r_pop F rfl d10_askShares_90 ?_
              refine r_iconst F (z := 0) d10_askShares_91 ?_
              replace h := wpo_some h
              exact r_iret F h d10_askShares_92
            · replace h := elim_r h
              replace h := wpo_some h
              exact el_ri h
          · refine r_iload_n F 2 rfl rfl d10_askShares_51 ?_
            refine r_aload_nR F 0 rfl rfl d10_askShares_52 ?_
            refine r_getR F (z := 143) lf10_92 (vc117 hn) z117_43 d10_askShares_53 ?_
            refine r_iload_n F 1 rfl rfl d10_askShares_56 ?_
            refine r_iald F (vc143 hn) hx1 d10_askShares_57 ?_
            refine r_icmp_ge F (tgt := 86) d10_askShares_58 (by decide) (fun hb => ?_) (fun hb => ?_)
            · replace h := wpo_neg h hb
              refine r_weak [0] rfl ?_
              replace h := wpo_inr h
              replace h := el_l h
              exact h
            · replace h := wpo_pos h hb
              refine r_aload_nR F 0 rfl rfl d10_askShares_61 ?_
              refine r_iload_n F 1 rfl rfl d10_askShares_62 ?_
              refine r_iload_n F 2 rfl rfl d10_askShares_63 ?_
              replace h := wpo_bind h
              refine r_callV0 F lm10_388 mf10_numberAt (vc117 hn) rfl (fr := 0) (lo := 0) (As := [vI p0, vI s1]) (rest := []) ⟨Nat.le_of_ble_eq_true rfl, Nat.le_of_ble_eq_true rfl⟩ rfl (Nat.le_of_ble_eq_true rfl) ⟨Nat.zero_le _, Nat.zero_le _⟩ d10_askShares_64 ?_
              refine ok10_numberAt hn  (kL h (fun a3 h => ?_))
              refine r_lconst F (x := 0) (by decide) d10_askShares_67 ?_
              refine r_ldc2 F (z := 999) lc10_410 d10_askShares_68 ?_
              replace h := wpo_bind h
              refine r_callS0 F lm10_109 mf10_in rfl (fr := 0) (lo := 0) (As := [vL a3, vL 0, vL 999]) (rest := []) ⟨Nat.le_of_ble_eq_true rfl, Nat.le_of_ble_eq_true rfl⟩ rfl (Nat.le_of_ble_eq_true rfl) ⟨Nat.zero_le _, Nat.zero_le _⟩ d10_askShares_71 ?_
              refine ok10_in hn  (kI h (fun a4 h => ?_))
              refine r_if_ne F (tgt := 80) d10_askShares_74 (by decide) (fun hb => ?_) (fun hb => ?_)
              · replace h := wpo_neg h hb
                refine r_iinc F 2 (lv' := [(2, vI (s1 + 1)), (0, vR X 117), (1, vI p0)]) rfl (Nat.le_of_ble_eq_true rfl) rfl d10_askShares_80 ?_
                refine r_goto F (tgt := 51) (by decide) d10_askShares_83 ?_
                refine r_weak [1, 2, 0] rfl ?_
                replace h := wpo_inl h
                exact h
              · replace h := wpo_pos h hb
                refine r_bipush F (z := (-2)) (by decide) d10_askShares_77 ?_
                replace h := el_r (wpo_inr h)
                exact r_iret F h d10_askShares_79
        · replace h := wpo_neg h hb
          refine r_bipush F (z := (-2)) (by decide) d10_askShares_46 ?_
          replace h := wpo_some h
          exact r_iret F h d10_askShares_48
      · replace h := wpo_pos h hb
        refine r_bipush F (z := (-6)) (by decide) d10_askShares_27 ?_
        replace h := wpo_some h
        exact r_iret F h d10_askShares_29
    · replace h := wpo_pos h hb
      refine r_bipush F (z := (-2)) (by decide) d10_askShares_14 ?_
      replace h := wpo_some h
      exact r_iret F h d10_askShares_16
theorem d10_sharesOf_0 : decode c10_sharesOf 0 = .ok (.iconst 0, 1) := by decide +kernel
theorem d10_sharesOf_1 : decode c10_sharesOf 1 = .ok (.istore_n 3, 1) := by decide +kernel
theorem d10_sharesOf_2 : decode c10_sharesOf 2 = .ok (.iconst 0, 1) := by decide +kernel
theorem d10_sharesOf_3 : decode c10_sharesOf 3 = .ok (.istore 4, 2) := by decide +kernel
theorem d10_sharesOf_5 : decode c10_sharesOf 5 = .ok (.iload 4, 2) := by decide +kernel
theorem d10_sharesOf_7 : decode c10_sharesOf 7 = .ok (.aload_n 0, 1) := by decide +kernel
theorem d10_sharesOf_8 : decode c10_sharesOf 8 = .ok (.getfield 9, 3) := by decide +kernel
theorem d10_sharesOf_11 : decode c10_sharesOf 11 = .ok (.bipush 7, 2) := by decide +kernel
theorem d10_sharesOf_13 : decode c10_sharesOf 13 = .ok (.iaload, 1) := by decide +kernel
theorem d10_sharesOf_14 : decode c10_sharesOf 14 = .ok (.if_icmp .ge 27, 3) := by decide +kernel
theorem d10_sharesOf_17 : decode c10_sharesOf 17 = .ok (.iload_n 3, 1) := by decide +kernel
theorem d10_sharesOf_18 : decode c10_sharesOf 18 = .ok (.iload_n 2, 1) := by decide +kernel
theorem d10_sharesOf_19 : decode c10_sharesOf 19 = .ok (.iload 4, 2) := by decide +kernel
theorem d10_sharesOf_21 : decode c10_sharesOf 21 = .ok (.invokestatic 240, 3) := by decide +kernel
theorem d10_sharesOf_24 : decode c10_sharesOf 24 = .ok (.aload_n 0, 1) := by decide +kernel
theorem d10_sharesOf_25 : decode c10_sharesOf 25 = .ok (.iload_n 1, 1) := by decide +kernel
theorem d10_sharesOf_26 : decode c10_sharesOf 26 = .ok (.iload 4, 2) := by decide +kernel
theorem d10_sharesOf_28 : decode c10_sharesOf 28 = .ok (.invokevirtual 388, 3) := by decide +kernel
theorem d10_sharesOf_31 : decode c10_sharesOf 31 = .ok (.l2i, 1) := by decide +kernel
theorem d10_sharesOf_32 : decode c10_sharesOf 32 = .ok (.imul, 1) := by decide +kernel
theorem d10_sharesOf_33 : decode c10_sharesOf 33 = .ok (.iadd, 1) := by decide +kernel
theorem d10_sharesOf_34 : decode c10_sharesOf 34 = .ok (.istore_n 3, 1) := by decide +kernel
theorem d10_sharesOf_35 : decode c10_sharesOf 35 = .ok (.iinc 4 1, 3) := by decide +kernel
theorem d10_sharesOf_38 : decode c10_sharesOf 38 = .ok (.goto (-33), 3) := by decide +kernel
theorem d10_sharesOf_41 : decode c10_sharesOf 41 = .ok (.iload_n 3, 1) := by decide +kernel
theorem d10_sharesOf_42 : decode c10_sharesOf 42 = .ok (.ireturn, 1) := by decide +kernel
def f10_sharesOf (D : Mem) (p0 : Int) (p1 : Int) : Option (Int) :=
  Option.bind (@loop (Int × Int) (Int) (fun s1 =>
    if w32 s1.2 < w32 (D 118 7) then
      Option.bind (f10_bit D p1 s1.2) fun (a1 : Int) =>
      Option.bind (f10_numberAt D p0 s1.2) fun (a2 : Int) =>
      Option.bind (some (s1.1 + (a1 * a2))) fun (v1 : Int) =>
      some (Sum.inl (v1, (s1.2 + 1)))
    else
      some (Sum.inr s1.1)
  ) FU (0, 0)) fun (b1 : Int) =>
  some b1
set_option maxHeartbeats 4000000 in
theorem ok10_sharesOf {l : Launch} {X : XT} {n : Nat} {D : Mem} {Q : Option Value → Nat → Rho → Mem → Prop} (hn : 147 ≤ n) {p0 : Int} {p1 : Int}  (h : wpo (f10_sharesOf D p0 p1) (fun a => Q (some (vI a)) n rt D)) : MOK l y10_sharesOf c10_sharesOf 5 (some .int) { frames := 1, cells := 0, slots := 0, locals := 22 } 0 0 X [vR X 117, vI p0, vI p1] n rt D Q := by
  refine MOK_of 10 (by decide +kernel) rfl (lv := [(0, vR X 117), (1, vI p0), (2, vI p1)]) (Nat.le_of_ble_eq_true rfl) rfl (fun K hK F hnm => ?_)
  subst hK
  unfold f10_sharesOf at h
  refine r_iconst F (z := 0) d10_sharesOf_0 ?_
  refine r_istore_n F (lv' := [(3, vI 0), (0, vR X 117), (1, vI p0), (2, vI p1)]) rfl (Nat.le_of_ble_eq_true rfl) rfl d10_sharesOf_1 ?_
  refine r_iconst F (z := 0) d10_sharesOf_2 ?_
  refine r_istore F (lv' := [(4, vI 0), (3, vI 0), (0, vR X 117), (1, vI p0), (2, vI p1)]) (Nat.le_of_ble_eq_true rfl) rfl d10_sharesOf_3 ?_
  refine r_weak [2, 3, 4, 1, 0] rfl ?_
  refine at_loopj (A := fun (s1 : Int × Int) => At K X (ZQ K X Q) 0 0 n rt 5 5 [(0, vR X 117), (1, vI p0), (2, vI p1), (3, vI s1.1), (4, vI s1.2)] [] D) (B := fun (b1 : Int) => At K X (ZQ K X Q) 0 0 n rt 5 41 [(3, vI b1)] [] D) h (fun b1 h => ?_) (fun s1 h => ?_)
  · refine r_iload_n F 0 rfl rfl d10_sharesOf_41 ?_
    replace h := wpo_some h
    exact r_iret F h d10_sharesOf_42
  · refine r_iload F 4 rfl d10_sharesOf_5 ?_
    refine r_aload_nR F 0 rfl rfl d10_sharesOf_7 ?_
    refine r_getR F (z := 118) lf10_9 (vc117 hn) z117_1 d10_sharesOf_8 ?_
    refine r_bipush F (z := 7) (by decide) d10_sharesOf_11 ?_
    refine r_ialdC F (j := 7) (vc118 hn) (by decide) rfl d10_sharesOf_13 ?_
    refine r_icmp_ge F (tgt := 41) d10_sharesOf_14 (by decide) (fun hb => ?_) (fun hb => ?_)
    · replace h := wpo_neg h hb
      refine r_weak [3] rfl ?_
      replace h := wpo_inr h
      exact h
    · replace h := wpo_pos h hb
      refine r_iload_n F 3 rfl rfl d10_sharesOf_17 ?_
      refine r_iload_n F 2 rfl rfl d10_sharesOf_18 ?_
      refine r_iload F 4 rfl d10_sharesOf_19 ?_
      replace h := wpo_bind h
      refine r_callS0 F lm10_240 mf10_bit rfl (fr := 0) (lo := 0) (As := [vI p1, vI s1.2]) (rest := [vI s1.1]) ⟨Nat.le_of_ble_eq_true rfl, Nat.le_of_ble_eq_true rfl⟩ rfl (Nat.le_of_ble_eq_true rfl) ⟨Nat.zero_le _, Nat.zero_le _⟩ d10_sharesOf_21 ?_
      refine ok10_bit hn  (kI h (fun a1 h => ?_))
      refine r_aload_nR F 0 rfl rfl d10_sharesOf_24 ?_
      refine r_iload_n F 1 rfl rfl d10_sharesOf_25 ?_
      refine r_iload F 4 rfl d10_sharesOf_26 ?_
      replace h := wpo_bind h
      refine r_callV0 F lm10_388 mf10_numberAt (vc117 hn) rfl (fr := 0) (lo := 0) (As := [vI p0, vI s1.2]) (rest := [vI a1, vI s1.1]) ⟨Nat.le_of_ble_eq_true rfl, Nat.le_of_ble_eq_true rfl⟩ rfl (Nat.le_of_ble_eq_true rfl) ⟨Nat.zero_le _, Nat.zero_le _⟩ d10_sharesOf_28 ?_
      refine ok10_numberAt hn  (kL h (fun a2 h => ?_))
      refine r_l2i F d10_sharesOf_31 ?_
      refine r_imul F d10_sharesOf_32 ?_
      refine r_iadd F d10_sharesOf_33 ?_
      refine r_istore_n F (lv' := [(3, vI (s1.1 + (a1 * a2))), (0, vR X 117), (1, vI p0), (2, vI p1), (4, vI s1.2)]) rfl (Nat.le_of_ble_eq_true rfl) rfl d10_sharesOf_34 ?_
      refine at_name (B := fun (v1 : Int) => At K X (ZQ K X Q) 0 0 n rt 5 35 [(3, vI v1), (0, vR X 117), (1, vI p0), (2, vI p1), (4, vI s1.2)] [] D) h (fun v1 h => ?_)
      refine r_iinc F 4 (lv' := [(4, vI (s1.2 + 1)), (3, vI v1), (0, vR X 117), (1, vI p0), (2, vI p1)]) rfl (Nat.le_of_ble_eq_true rfl) rfl d10_sharesOf_35 ?_
      refine r_goto F (tgt := 5) (by decide) d10_sharesOf_38 ?_
      refine r_weak [2, 3, 4, 1, 0] rfl ?_
      replace h := wpo_inl h
      exact h
