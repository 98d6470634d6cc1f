/-! METHODS, printed by wip/whole/gen/mkall.py -/
theorem d6_suspect_0 : decode c6_suspect 0 = .ok (.aload_n 0, 1) := by decide +kernel
theorem d6_suspect_1 : decode c6_suspect 1 = .ok (.getfield 37, 3) := by decide +kernel
theorem d6_suspect_4 : decode c6_suspect 4 = .ok (.invokevirtual 62, 3) := by decide +kernel
theorem d6_suspect_7 : decode c6_suspect 7 = .ok (.iload_n 2, 1) := by decide +kernel
theorem d6_suspect_8 : decode c6_suspect 8 = .ok (.bipush 8, 2) := by decide +kernel
theorem d6_suspect_10 : decode c6_suspect 10 = .ok (.if_icmp .eq 14, 3) := by decide +kernel
theorem d6_suspect_13 : decode c6_suspect 13 = .ok (.aload_n 0, 1) := by decide +kernel
theorem d6_suspect_14 : decode c6_suspect 14 = .ok (.getfield 37, 3) := by decide +kernel
theorem d6_suspect_17 : decode c6_suspect 17 = .ok (.getfield 65, 3) := by decide +kernel
theorem d6_suspect_20 : decode c6_suspect 20 = .ok (.iload_n 2, 1) := by decide +kernel
theorem d6_suspect_21 : decode c6_suspect 21 = .ok (.bipush 100, 2) := by decide +kernel
theorem d6_suspect_23 : decode c6_suspect 23 = .ok (.iastore, 1) := by decide +kernel
theorem d6_suspect_24 : decode c6_suspect 24 = .ok (.aload_n 0, 1) := by decide +kernel
theorem d6_suspect_25 : decode c6_suspect 25 = .ok (.getfield 37, 3) := by decide +kernel
theorem d6_suspect_28 : decode c6_suspect 28 = .ok (.invokevirtual 68, 3) := by decide +kernel
theorem d6_suspect_31 : decode c6_suspect 31 = .ok (.aload_n 0, 1) := by decide +kernel
theorem d6_suspect_32 : decode c6_suspect 32 = .ok (.getfield 37, 3) := by decide +kernel
theorem d6_suspect_35 : decode c6_suspect 35 = .ok (.getfield 71, 3) := by decide +kernel
theorem d6_suspect_38 : decode c6_suspect 38 = .ok (.iconst 0, 1) := by decide +kernel
theorem d6_suspect_39 : decode c6_suspect 39 = .ok (.aload_n 0, 1) := by decide +kernel
theorem d6_suspect_40 : decode c6_suspect 40 = .ok (.getfield 21, 3) := by decide +kernel
theorem d6_suspect_43 : decode c6_suspect 43 = .ok (.iload_n 2, 1) := by decide +kernel
theorem d6_suspect_44 : decode c6_suspect 44 = .ok (.bipush 12, 2) := by decide +kernel
theorem d6_suspect_46 : decode c6_suspect 46 = .ok (.imul, 1) := by decide +kernel
theorem d6_suspect_47 : decode c6_suspect 47 = .ok (.bipush 12, 2) := by decide +kernel
theorem d6_suspect_49 : decode c6_suspect 49 = .ok (.invokestatic 72, 3) := by decide +kernel
theorem d6_suspect_52 : decode c6_suspect 52 = .ok (.iconst 1, 1) := by decide +kernel
theorem d6_suspect_53 : decode c6_suspect 53 = .ok (.istore_n 3, 1) := by decide +kernel
theorem d6_suspect_54 : decode c6_suspect 54 = .ok (.iconst 0, 1) := by decide +kernel
theorem d6_suspect_55 : decode c6_suspect 55 = .ok (.istore 4, 2) := by decide +kernel
theorem d6_suspect_57 : decode c6_suspect 57 = .ok (.iload 4, 2) := by decide +kernel
theorem d6_suspect_59 : decode c6_suspect 59 = .ok (.iconst 1, 1) := by decide +kernel
theorem d6_suspect_60 : decode c6_suspect 60 = .ok (.iadd, 1) := by decide +kernel
theorem d6_suspect_61 : decode c6_suspect 61 = .ok (.aload_n 1, 1) := by decide +kernel
theorem d6_suspect_62 : decode c6_suspect 62 = .ok (.getfield 78, 3) := by decide +kernel
theorem d6_suspect_65 : decode c6_suspect 65 = .ok (.if_icmp .ge 49, 3) := by decide +kernel
theorem d6_suspect_68 : decode c6_suspect 68 = .ok (.iload_n 3, 1) := by decide +kernel
theorem d6_suspect_69 : decode c6_suspect 69 = .ok (.ifCond .eq 37, 3) := by decide +kernel
theorem d6_suspect_72 : decode c6_suspect 72 = .ok (.aload_n 0, 1) := by decide +kernel
theorem d6_suspect_73 : decode c6_suspect 73 = .ok (.getfield 37, 3) := by decide +kernel
theorem d6_suspect_76 : decode c6_suspect 76 = .ok (.getfield 71, 3) := by decide +kernel
theorem d6_suspect_79 : decode c6_suspect 79 = .ok (.aload_n 1, 1) := by decide +kernel
theorem d6_suspect_80 : decode c6_suspect 80 = .ok (.getfield 83, 3) := by decide +kernel
theorem d6_suspect_83 : decode c6_suspect 83 = .ok (.iload 4, 2) := by decide +kernel
theorem d6_suspect_85 : decode c6_suspect 85 = .ok (.laload, 1) := by decide +kernel
theorem d6_suspect_86 : decode c6_suspect 86 = .ok (.l2i, 1) := by decide +kernel
theorem d6_suspect_87 : decode c6_suspect 87 = .ok (.iaload, 1) := by decide +kernel
theorem d6_suspect_88 : decode c6_suspect 88 = .ok (.i2l, 1) := by decide +kernel
theorem d6_suspect_89 : decode c6_suspect 89 = .ok (.aload_n 1, 1) := by decide +kernel
theorem d6_suspect_90 : decode c6_suspect 90 = .ok (.getfield 83, 3) := by decide +kernel
theorem d6_suspect_93 : decode c6_suspect 93 = .ok (.iload 4, 2) := by decide +kernel
theorem d6_suspect_95 : decode c6_suspect 95 = .ok (.iconst 1, 1) := by decide +kernel
theorem d6_suspect_96 : decode c6_suspect 96 = .ok (.iadd, 1) := by decide +kernel
theorem d6_suspect_97 : decode c6_suspect 97 = .ok (.laload, 1) := by decide +kernel
theorem d6_suspect_98 : decode c6_suspect 98 = .ok (.lcmp, 1) := by decide +kernel
theorem d6_suspect_99 : decode c6_suspect 99 = .ok (.ifCond .ne 7, 3) := by decide +kernel
theorem d6_suspect_102 : decode c6_suspect 102 = .ok (.iconst 1, 1) := by decide +kernel
theorem d6_suspect_103 : decode c6_suspect 103 = .ok (.goto 4, 3) := by decide +kernel
theorem d6_suspect_106 : decode c6_suspect 106 = .ok (.iconst 0, 1) := by decide +kernel
theorem d6_suspect_107 : decode c6_suspect 107 = .ok (.istore_n 3, 1) := by decide +kernel
theorem d6_suspect_108 : decode c6_suspect 108 = .ok (.iinc 4 2, 3) := by decide +kernel
theorem d6_suspect_111 : decode c6_suspect 111 = .ok (.goto (-54), 3) := by decide +kernel
theorem d6_suspect_114 : decode c6_suspect 114 = .ok (.iload_n 3, 1) := by decide +kernel
theorem d6_suspect_115 : decode c6_suspect 115 = .ok (.ifCond .eq 15, 3) := by decide +kernel
theorem d6_suspect_118 : decode c6_suspect 118 = .ok (.aload_n 0, 1) := by decide +kernel
theorem d6_suspect_119 : decode c6_suspect 119 = .ok (.dup, 1) := by decide +kernel
theorem d6_suspect_120 : decode c6_suspect 120 = .ok (.getfield 9, 3) := by decide +kernel
theorem d6_suspect_123 : decode c6_suspect 123 = .ok (.iconst 1, 1) := by decide +kernel
theorem d6_suspect_124 : decode c6_suspect 124 = .ok (.iload_n 2, 1) := by decide +kernel
theorem d6_suspect_125 : decode c6_suspect 125 = .ok (.ishl, 1) := by decide +kernel
theorem d6_suspect_126 : decode c6_suspect 126 = .ok (.ior, 1) := by decide +kernel
theorem d6_suspect_127 : decode c6_suspect 127 = .ok (.putfield 9, 3) := by decide +kernel
theorem d6_suspect_130 : decode c6_suspect 130 = .ok (.return_, 1) := by decide +kernel
def f6_suspect (D : Mem) (p0 : Nat) (p1 : Int) : Option (Mem) :=
  Option.bind (f8_prepare D 70) fun (a1 : Mem) =>
  Option.bind (
    if w32 p1 = w32 8 then
      some a1
    else
      if 0 ≤ p1 ∧ p1 < 8 then
        some (mset a1 72 p1.toNat 100)
      else none
  ) fun (j1 : Mem) =>
  Option.bind (f8_pass j1 70) fun (a2 : Mem) =>
  if (0 : Int) ≤ (0 : Int) ∧ (0 : Int) ≤ (p1 * 12) ∧ (0 : Int) ≤ (12 : Int) ∧ (0 : Int) + 12 ≤ (12 : Int) ∧ (p1 * 12) + 12 ≤ (108 : Int) then
    Option.bind (some (mcpy a2 82 0 68 (p1 * 12).toNat 12)) fun (D1 : Mem) =>
    Option.bind (@loop (Int × Int) (Int) (fun s1 =>
      if w32 (s1.2 + 1) < w32 (D1 p0 2) then
        Option.bind (
          if w32 s1.1 = 0 then
            some 0
          else
            if 0 ≤ s1.2 ∧ s1.2 < 60 then
              if 0 ≤ (D1 (p0 + 1) s1.2.toNat) ∧ (D1 (p0 + 1) s1.2.toNat) < 12 then
                if 0 ≤ (s1.2 + 1) ∧ (s1.2 + 1) < 60 then
                  if w64 (w32 (D1 82 (D1 (p0 + 1) s1.2.toNat).toNat)) = w64 (D1 (p0 + 1) (s1.2 + 1).toNat) then
                    some 1
                  else
                    some 0
                else none
              else none
            else none
        ) fun (j2 : Int) =>
        some (Sum.inl (j2, (s1.2 + 2)))
      else
        some (Sum.inr s1.1)
    ) FU (1, 0)) fun (b1 : Int) =>
    if w32 b1 = 0 then
      some D1
    else
      some (mset D1 67 2 (or32 (D1 67 2) (shl32 1 p1)))
  else none
set_option maxHeartbeats 4000000 in
theorem ok6_suspect {l : Launch} {X : XT} {n : Nat} {D : Mem} {Q : Option Value → Nat → Rho → Mem → Prop} (hn : 117 ≤ n) {p0 : Nat} {p1 : Int} (ho0 : VR n p0 5) (h : wpo (f6_suspect D p0 p1) (fun a => Q none n rt a)) : MOK l y6_suspect c6_suspect 5 (none) { frames := 3, cells := 0, slots := 0, locals := 68 } 0 0 X [vR X 67, vR X p0, vI p1] n rt D Q := by
  refine MOK_of 6 (by decide +kernel) rfl (lv := [(0, vR X 67), (1, vR X p0), (2, vI p1)]) (Nat.le_of_ble_eq_true rfl) rfl (fun K hK F hnm => ?_)
  subst hK
  unfold f6_suspect at h
  refine r_aload_nR F 0 rfl rfl d6_suspect_0 ?_
  refine r_getR F (z := 70) lf6_37 (vc67 hn) z67_1 d6_suspect_1 ?_
  replace h := wpo_bind h
  refine r_callV0 F lm6_62 mf8_prepare (vc70 hn) rfl (fr := 1) (lo := 26) (As := []) (rest := []) ⟨Nat.le_of_ble_eq_true rfl, Nat.le_of_ble_eq_true rfl⟩ rfl (Nat.le_of_ble_eq_true rfl) ⟨Nat.zero_le _, Nat.zero_le _⟩ d6_suspect_4 ?_
  refine ok8_prepare hn (vc70 hn) (kVm h (fun a1 h => ?_))
  refine r_iload_n F 2 rfl rfl d6_suspect_7 ?_
  refine r_bipush F (z := 8) (by decide) d6_suspect_8 ?_
  refine at_join (B := fun (j1 : Mem) => At K X (ZQ K X Q) 0 0 n rt 5 24 [(0, vR X 67), (1, vR X p0), (2, vI p1)] [] j1) h (fun j1 h => ?_) (fun h => ?_)
  · refine r_aload_nR F 0 rfl rfl d6_suspect_24 ?_
    refine r_getR F (z := 70) lf6_37 (vc67 hn) z67_1 d6_suspect_25 ?_
    replace h := wpo_bind h
    refine r_callV0 F lm6_68 mf8_pass (vc70 hn) rfl (fr := 2) (lo := 44) (As := []) (rest := []) ⟨Nat.le_of_ble_eq_true rfl, Nat.le_of_ble_eq_true rfl⟩ rfl (Nat.le_of_ble_eq_true rfl) ⟨Nat.zero_le _, Nat.zero_le _⟩ d6_suspect_28 ?_
    refine ok8_pass hn (vc70 hn) (kVm h (fun a2 h => ?_))
    refine r_aload_nR F 0 rfl rfl d6_suspect_31 ?_
    refine r_getR F (z := 70) lf6_37 (vc67 hn) z67_1 d6_suspect_32 ?_
    refine r_getR F (z := 82) lf6_71 (vc70 hn) z70_16 d6_suspect_35 ?_
    refine r_iconst F (z := 0) d6_suspect_38 ?_
    refine r_aload_nR F 0 rfl rfl d6_suspect_39 ?_
    refine r_getR F (z := 68) lf6_21 (vc67 hn) z67_5 d6_suspect_40 ?_
    refine r_iload_n F 2 rfl rfl d6_suspect_43 ?_
    refine r_bipush F (z := 12) (by decide) d6_suspect_44 ?_
    refine r_imul F d6_suspect_46 ?_
    refine r_bipush F (z := 12) (by decide) d6_suspect_47 ?_
    obtain ⟨hx2, h⟩ := wpo_chk h
    refine r_copyI F lm6_72 wn1 wn2 wn3 ⟨Nat.le_of_ble_eq_true rfl, Nat.le_of_ble_eq_true rfl⟩ (vc82 hn) (vc68 hn) hx2 d6_suspect_49 ?_
    refine r_iconst F (z := 1) d6_suspect_52 ?_
    refine r_istore_n F (lv' := [(3, vI 1), (0, vR X 67), (1, vR X p0), (2, vI p1)]) rfl (Nat.le_of_ble_eq_true rfl) rfl d6_suspect_53 ?_
    refine r_iconst F (z := 0) d6_suspect_54 ?_
    refine r_istore F (lv' := [(4, vI 0), (3, vI 1), (0, vR X 67), (1, vR X p0), (2, vI p1)]) (Nat.le_of_ble_eq_true rfl) rfl d6_suspect_55 ?_
    refine at_name (B := fun (D1 : Mem) => At K X (ZQ K X Q) 0 0 n rt 5 57 [(4, vI 0), (3, vI 1), (0, vR X 67), (1, vR X p0), (2, vI p1)] [] D1) h (fun D1 h => ?_)
    refine r_weak [2, 3, 4, 1, 0] rfl ?_
    refine at_loopj (A := fun (s1 : Int × Int) => At K X (ZQ K X Q) 0 0 n rt 5 57 [(0, vR X 67), (1, vR X p0), (2, vI p1), (3, vI s1.1), (4, vI s1.2)] [] D1) (B := fun (b1 : Int) => At K X (ZQ K X Q) 0 0 n rt 5 114 [(0, vR X 67), (2, vI p1), (3, vI b1)] [] D1) h (fun b1 h => ?_) (fun s1 h => ?_)
    · refine r_iload_n F 2 rfl rfl d6_suspect_114 ?_
      refine r_if_eq F (tgt := 130) d6_suspect_115 (by decide) (fun hb => ?_) (fun hb => ?_)
      · replace h := wpo_pos h hb
        replace h := wpo_some h
        exact r_vret F h d6_suspect_130
      · replace h := wpo_neg h hb
        refine r_aload_nR F 0 rfl rfl d6_suspect_118 ?_
        refine r_dup F rfl d6_suspect_119 ?_
        refine r_getI F lf6_9 (vc67 hn) d6_suspect_120 ?_
        refine r_iconst F (z := 1) d6_suspect_123 ?_
        refine r_iload_n F 1 rfl rfl d6_suspect_124 ?_
        refine r_ishl F d6_suspect_125 ?_
        refine r_ior F d6_suspect_126 ?_
        refine r_putI F lf6_9 rfl rfl (vc67 hn) d6_suspect_127 ?_
        replace h := wpo_some h
        exact r_vret F h d6_suspect_130
    · refine r_iload F 4 rfl d6_suspect_57 ?_
      refine r_iconst F (z := 1) d6_suspect_59 ?_
      refine r_iadd F d6_suspect_60 ?_
      refine r_aload_nR F 1 rfl rfl d6_suspect_61 ?_
      refine r_getI F lf6_78 ho0 d6_suspect_62 ?_
      refine r_icmp_ge F (tgt := 114) d6_suspect_65 (by decide) (fun hb => ?_) (fun hb => ?_)
      · replace h := wpo_neg h hb
        refine r_weak [0, 2, 3] rfl ?_
        replace h := wpo_inr h
        exact h
      · replace h := wpo_pos h hb
        refine r_iload_n F 3 rfl rfl d6_suspect_68 ?_
        refine at_join (B := fun (j2 : Int) => At K X (ZQ K X Q) 0 0 n rt 5 107 [(0, vR X 67), (1, vR X p0), (2, vI p1), (4, vI s1.2)] [vI j2] D1) h (fun j2 h => ?_) (fun h => ?_)
        · refine r_istore_n F (lv' := [(3, vI j2), (0, vR X 67), (1, vR X p0), (2, vI p1), (4, vI s1.2)]) rfl (Nat.le_of_ble_eq_true rfl) rfl d6_suspect_107 ?_
          refine r_iinc F 4 (lv' := [(4, vI (s1.2 + 2)), (3, vI j2), (0, vR X 67), (1, vR X p0), (2, vI p1)]) rfl (Nat.le_of_ble_eq_true rfl) rfl d6_suspect_108 ?_
          refine r_goto F (tgt := 57) (by decide) d6_suspect_111 ?_
          refine r_weak [2, 3, 4, 1, 0] rfl ?_
          replace h := wpo_inl h
          exact h
        · refine r_if_eq F (tgt := 106) d6_suspect_69 (by decide) (fun hb => ?_) (fun hb => ?_)
          · replace h := wpo_pos h hb
            refine r_iconst F (z := 0) d6_suspect_106 ?_
            refine r_weak [0, 1, 2, 4] rfl ?_
            replace h := wpo_some h
            exact h
          · replace h := wpo_neg h hb
            refine r_aload_nR F 0 rfl rfl d6_suspect_72 ?_
            refine r_getR F (z := 70) lf6_37 (vc67 hn) z67_1 d6_suspect_73 ?_
            refine r_getR F (z := 82) lf6_71 (vc70 hn) z70_16 d6_suspect_76 ?_
            refine r_aload_nR F 1 rfl rfl d6_suspect_79 ?_
            refine r_getR F (z := (p0 + 1)) lf6_83 ho0 (z5_3 ho0) d6_suspect_80 ?_
            refine r_iload F 4 rfl d6_suspect_83 ?_
            obtain ⟨hx3, h⟩ := wpo_chk h
            refine r_lald F (y5_3 hn ho0) hx3 d6_suspect_85 ?_
            refine r_l2i F d6_suspect_86 ?_
            obtain ⟨hx4, h⟩ := wpo_chk h
            refine r_iald F (vc82 hn) hx4 d6_suspect_87 ?_
            refine r_i2l F d6_suspect_88 ?_
            refine r_aload_nR F 1 rfl rfl d6_suspect_89 ?_
            refine r_getR F (z := (p0 + 1)) lf6_83 ho0 (z5_3 ho0) d6_suspect_90 ?_
            refine r_iload F 4 rfl d6_suspect_93 ?_
            refine r_iconst F (z := 1) d6_suspect_95 ?_
            refine r_iadd F d6_suspect_96 ?_
            obtain ⟨hx5, h⟩ := wpo_chk h
            refine r_lald F (y5_3 hn ho0) hx5 d6_suspect_97 ?_
            refine r_lc_ne F (tgt := 106) d6_suspect_98 d6_suspect_99 (by decide) (fun hb => ?_) (fun hb => ?_)
            · replace h := wpo_neg h hb
              refine r_iconst F (z := 0) d6_suspect_106 ?_
              refine r_weak [0, 1, 2, 4] rfl ?_
              replace h := wpo_some h
              exact h
            · replace h := wpo_pos h hb
              refine r_iconst F (z := 1) d6_suspect_102 ?_
              refine r_goto F (tgt := 107) (by decide) d6_suspect_103 ?_
              refine r_weak [0, 1, 2, 4] rfl ?_
              replace h := wpo_some h
              exact h
  · refine r_icmp_eq F (tgt := 24) d6_suspect_10 (by decide) (fun hb => ?_) (fun hb => ?_)
    · replace h := wpo_pos h hb
      replace h := wpo_some h
      exact h
    · replace h := wpo_neg h hb
      refine r_aload_nR F 0 rfl rfl d6_suspect_13 ?_
      refine r_getR F (z := 70) lf6_37 (vc67 hn) z67_1 d6_suspect_14 ?_
      refine r_getR F (z := 72) lf6_65 (vc70 hn) z70_6 d6_suspect_17 ?_
      refine r_iload_n F 2 rfl rfl d6_suspect_20 ?_
      refine r_bipush F (z := 100) (by decide) d6_suspect_21 ?_
      obtain ⟨hx1, h⟩ := wpo_chk h
      refine r_iast F (vc72 hn) hx1 d6_suspect_23 ?_
      replace h := wpo_some h
      exact h
theorem d6_mostAlike_0 : decode c6_mostAlike 0 = .ok (.aload_n 0, 1) := by decide +kernel
theorem d6_mostAlike_1 : decode c6_mostAlike 1 = .ok (.getfield 25, 3) := by decide +kernel
theorem d6_mostAlike_4 : decode c6_mostAlike 4 = .ok (.iconst 0, 1) := by decide +kernel
theorem d6_mostAlike_5 : decode c6_mostAlike 5 = .ok (.invokestatic 87, 3) := by decide +kernel
theorem d6_mostAlike_8 : decode c6_mostAlike 8 = .ok (.iconst 0, 1) := by decide +kernel
theorem d6_mostAlike_9 : decode c6_mostAlike 9 = .ok (.istore_n 2, 1) := by decide +kernel
theorem d6_mostAlike_10 : decode c6_mostAlike 10 = .ok (.iconst 0, 1) := by decide +kernel
theorem d6_mostAlike_11 : decode c6_mostAlike 11 = .ok (.istore_n 3, 1) := by decide +kernel
theorem d6_mostAlike_12 : decode c6_mostAlike 12 = .ok (.iload_n 3, 1) := by decide +kernel
theorem d6_mostAlike_13 : decode c6_mostAlike 13 = .ok (.bipush 8, 2) := by decide +kernel
theorem d6_mostAlike_15 : decode c6_mostAlike 15 = .ok (.if_icmp .gt 56, 3) := by decide +kernel
theorem d6_mostAlike_18 : decode c6_mostAlike 18 = .ok (.aload_n 0, 1) := by decide +kernel
theorem d6_mostAlike_19 : decode c6_mostAlike 19 = .ok (.getfield 9, 3) := by decide +kernel
theorem d6_mostAlike_22 : decode c6_mostAlike 22 = .ok (.iload_n 3, 1) := by decide +kernel
theorem d6_mostAlike_23 : decode c6_mostAlike 23 = .ok (.ishr, 1) := by decide +kernel
theorem d6_mostAlike_24 : decode c6_mostAlike 24 = .ok (.iconst 1, 1) := by decide +kernel
theorem d6_mostAlike_25 : decode c6_mostAlike 25 = .ok (.iand, 1) := by decide +kernel
theorem d6_mostAlike_26 : decode c6_mostAlike 26 = .ok (.ifCond .eq 39, 3) := by decide +kernel
theorem d6_mostAlike_29 : decode c6_mostAlike 29 = .ok (.aload_n 0, 1) := by decide +kernel
theorem d6_mostAlike_30 : decode c6_mostAlike 30 = .ok (.getfield 21, 3) := by decide +kernel
theorem d6_mostAlike_33 : decode c6_mostAlike 33 = .ok (.iload_n 3, 1) := by decide +kernel
theorem d6_mostAlike_34 : decode c6_mostAlike 34 = .ok (.bipush 12, 2) := by decide +kernel
theorem d6_mostAlike_36 : decode c6_mostAlike 36 = .ok (.imul, 1) := by decide +kernel
theorem d6_mostAlike_37 : decode c6_mostAlike 37 = .ok (.iload_n 1, 1) := by decide +kernel
theorem d6_mostAlike_38 : decode c6_mostAlike 38 = .ok (.iadd, 1) := by decide +kernel
theorem d6_mostAlike_39 : decode c6_mostAlike 39 = .ok (.iaload, 1) := by decide +kernel
theorem d6_mostAlike_40 : decode c6_mostAlike 40 = .ok (.istore 4, 2) := by decide +kernel
theorem d6_mostAlike_42 : decode c6_mostAlike 42 = .ok (.aload_n 0, 1) := by decide +kernel
theorem d6_mostAlike_43 : decode c6_mostAlike 43 = .ok (.getfield 25, 3) := by decide +kernel
theorem d6_mostAlike_46 : decode c6_mostAlike 46 = .ok (.iload 4, 2) := by decide +kernel
theorem d6_mostAlike_48 : decode c6_mostAlike 48 = .ok (.dup2, 1) := by decide +kernel
theorem d6_mostAlike_49 : decode c6_mostAlike 49 = .ok (.iaload, 1) := by decide +kernel
theorem d6_mostAlike_50 : decode c6_mostAlike 50 = .ok (.iconst 1, 1) := by decide +kernel
theorem d6_mostAlike_51 : decode c6_mostAlike 51 = .ok (.iadd, 1) := by decide +kernel
theorem d6_mostAlike_52 : decode c6_mostAlike 52 = .ok (.iastore, 1) := by decide +kernel
theorem d6_mostAlike_53 : decode c6_mostAlike 53 = .ok (.iload_n 2, 1) := by decide +kernel
theorem d6_mostAlike_54 : decode c6_mostAlike 54 = .ok (.aload_n 0, 1) := by decide +kernel
theorem d6_mostAlike_55 : decode c6_mostAlike 55 = .ok (.getfield 25, 3) := by decide +kernel
theorem d6_mostAlike_58 : decode c6_mostAlike 58 = .ok (.iload 4, 2) := by decide +kernel
theorem d6_mostAlike_60 : decode c6_mostAlike 60 = .ok (.iaload, 1) := by decide +kernel
theorem d6_mostAlike_61 : decode c6_mostAlike 61 = .ok (.invokestatic 93, 3) := by decide +kernel
theorem d6_mostAlike_64 : decode c6_mostAlike 64 = .ok (.istore_n 2, 1) := by decide +kernel
theorem d6_mostAlike_65 : decode c6_mostAlike 65 = .ok (.iinc 3 1, 3) := by decide +kernel
theorem d6_mostAlike_68 : decode c6_mostAlike 68 = .ok (.goto (-56), 3) := by decide +kernel
theorem d6_mostAlike_71 : decode c6_mostAlike 71 = .ok (.iload_n 2, 1) := by decide +kernel
theorem d6_mostAlike_72 : decode c6_mostAlike 72 = .ok (.ireturn, 1) := by decide +kernel
def f6_mostAlike (D : Mem) (p0 : Int) : Option (Int × Mem) :=
  Option.bind (f12_fillI D 69 21 0) fun (a1 : Mem) =>
  Option.bind (@loop (Int × Int × Mem) (Int × Mem) (fun s1 =>
    if w32 8 < w32 s1.2.1 then
      some (Sum.inr (s1.1, s1.2.2))
    else
      Option.bind (
        if w32 (and32 (shr32 (s1.2.2 67 2) s1.2.1) 1) = 0 then
          some (s1.1, s1.2.2)
        else
          if 0 ≤ ((s1.2.1 * 12) + p0) ∧ ((s1.2.1 * 12) + p0) < 108 then
            Option.bind (some (s1.2.2 68 ((s1.2.1 * 12) + p0).toNat)) fun (v1 : Int) =>
            if 0 ≤ v1 ∧ v1 < 21 then
              Option.bind (some (mset s1.2.2 69 v1.toNat ((s1.2.2 69 v1.toNat) + 1))) fun (D1 : Mem) =>
              some ((max32 s1.1 (D1 69 v1.toNat)), D1)
            else none
          else none
      ) fun (j1 : Int × Mem) =>
      some (Sum.inl (j1.1, (s1.2.1 + 1), j1.2))
  ) FU (0, 0, a1)) fun (b1 : Int × Mem) =>
  some (b1.1, b1.2)
set_option maxHeartbeats 4000000 in
theorem ok6_mostAlike {l : Launch} {X : XT} {n : Nat} {D : Mem} {Q : Option Value → Nat → Rho → Mem → Prop} (hn : 117 ≤ n) {p0 : Int}  (h : wpo (f6_mostAlike D p0) (fun a => Q (some (vI a.1)) n rt a.2)) : MOK l y6_mostAlike c6_mostAlike 5 (some .int) { frames := 1, cells := 0, slots := 0, locals := 23 } 0 0 X [vR X 67, vI p0] n rt D Q := by
  refine MOK_of 6 (by decide +kernel) rfl (lv := [(0, vR X 67), (1, vI p0)]) (Nat.le_of_ble_eq_true rfl) rfl (fun K hK F hnm => ?_)
  subst hK
  unfold f6_mostAlike at h
  refine r_aload_nR F 0 rfl rfl d6_mostAlike_0 ?_
  refine r_getR F (z := 69) lf6_25 (vc67 hn) z67_6 d6_mostAlike_1 ?_
  refine r_iconst F (z := 0) d6_mostAlike_4 ?_
  replace h := wpo_bind h
  refine r_callS0 F lm6_87 mf12_fillI rfl (fr := 0) (lo := 0) (As := [vR X 69, vI 0]) (rest := []) ⟨Nat.le_of_ble_eq_true rfl, Nat.le_of_ble_eq_true rfl⟩ rfl (Nat.le_of_ble_eq_true rfl) ⟨Nat.zero_le _, Nat.zero_le _⟩ d6_mostAlike_5 ?_
  refine ok12_fillI (vc69 hn) (kVm h (fun a1 h => ?_))
  refine r_iconst F (z := 0) d6_mostAlike_8 ?_
  refine r_istore_n F (lv' := [(2, vI 0), (0, vR X 67), (1, vI p0)]) rfl (Nat.le_of_ble_eq_true rfl) rfl d6_mostAlike_9 ?_
  refine r_iconst F (z := 0) d6_mostAlike_10 ?_
  refine r_istore_n F (lv' := [(3, vI 0), (2, vI 0), (0, vR X 67), (1, vI p0)]) rfl (Nat.le_of_ble_eq_true rfl) rfl d6_mostAlike_11 ?_
  refine r_weak [2, 3, 1, 0] rfl ?_
  refine at_loopj (A := fun (s1 : Int × Int × Mem) => At K X (ZQ K X Q) 0 0 n rt 5 12 [(0, vR X 67), (1, vI p0), (2, vI s1.1), (3, vI s1.2.1)] [] s1.2.2) (B := fun (b1 : Int × Mem) => At K X (ZQ K X Q) 0 0 n rt 5 71 [(2, vI b1.1)] [] b1.2) h (fun b1 h => ?_) (fun s1 h => ?_)
  · refine r_iload_n F 0 rfl rfl d6_mostAlike_71 ?_
    replace h := wpo_some h
    exact r_iret F h d6_mostAlike_72
  · refine r_iload_n F 3 rfl rfl d6_mostAlike_12 ?_
    refine r_bipush F (z := 8) (by decide) d6_mostAlike_13 ?_
    refine r_icmp_gt F (tgt := 71) d6_mostAlike_15 (by decide) (fun hb => ?_) (fun hb => ?_)
    · replace h := wpo_pos h hb
      refine r_weak [2] rfl ?_
      replace h := wpo_inr h
      exact h
    · replace h := wpo_neg h hb
      refine r_aload_nR F 0 rfl rfl d6_mostAlike_18 ?_
      refine r_getI F lf6_9 (vc67 hn) d6_mostAlike_19 ?_
      refine r_iload_n F 3 rfl rfl d6_mostAlike_22 ?_
      refine r_ishr F d6_mostAlike_23 ?_
      refine r_iconst F (z := 1) d6_mostAlike_24 ?_
      refine r_iand F d6_mostAlike_25 ?_
      refine at_join (B := fun (j1 : Int × Mem) => At K X (ZQ K X Q) 0 0 n rt 5 65 [(0, vR X 67), (1, vI p0), (2, vI j1.1), (3, vI s1.2.1)] [] j1.2) h (fun j1 h => ?_) (fun h => ?_)
      · refine r_iinc F 3 (lv' := [(3, vI (s1.2.1 + 1)), (0, vR X 67), (1, vI p0), (2, vI j1.1)]) rfl (Nat.le_of_ble_eq_true rfl) rfl d6_mostAlike_65 ?_
        refine r_goto F (tgt := 12) (by decide) d6_mostAlike_68 ?_
        refine r_weak [1, 2, 3, 0] rfl ?_
        replace h := wpo_inl h
        exact h
      · refine r_if_eq F (tgt := 65) d6_mostAlike_26 (by decide) (fun hb => ?_) (fun hb => ?_)
        · replace h := wpo_pos h hb
          replace h := wpo_some h
          exact h
        · replace h := wpo_neg h hb
          refine r_aload_nR F 0 rfl rfl d6_mostAlike_29 ?_
          refine r_getR F (z := 68) lf6_21 (vc67 hn) z67_5 d6_mostAlike_30 ?_
          refine r_iload_n F 3 rfl rfl d6_mostAlike_33 ?_
          refine r_bipush F (z := 12) (by decide) d6_mostAlike_34 ?_
          refine r_imul F d6_mostAlike_36 ?_
          refine r_iload_n F 1 rfl rfl d6_mostAlike_37 ?_
          refine r_iadd F d6_mostAlike_38 ?_
          obtain ⟨hx1, h⟩ := wpo_chk h
          refine r_iald F (vc68 hn) hx1 d6_mostAlike_39 ?_
          refine r_istore F (lv' := [(4, vI (s1.2.2 68 ((s1.2.1 * 12) + p0).toNat)), (0, vR X 67), (1, vI p0), (2, vI s1.1), (3, vI s1.2.1)]) (Nat.le_of_ble_eq_true rfl) rfl d6_mostAlike_40 ?_
          refine at_name (B := fun (v1 : Int) => At K X (ZQ K X Q) 0 0 n rt 5 42 [(4, vI v1), (0, vR X 67), (1, vI p0), (2, vI s1.1), (3, vI s1.2.1)] [] s1.2.2) h (fun v1 h => ?_)
          refine r_aload_nR F 1 rfl rfl d6_mostAlike_42 ?_
          refine r_getR F (z := 69) lf6_25 (vc67 hn) z67_6 d6_mostAlike_43 ?_
          refine r_iload F 0 rfl d6_mostAlike_46 ?_
          refine r_dup2 F rfl rfl d6_mostAlike_48 ?_
          obtain ⟨hx2, h⟩ := wpo_chk h
          refine r_iald F (vc69 hn) hx2 d6_mostAlike_49 ?_
          refine r_iconst F (z := 1) d6_mostAlike_50 ?_
          refine r_iadd F d6_mostAlike_51 ?_
          refine r_iast F (vc69 hn) hx2 d6_mostAlike_52 ?_
          refine r_iload_n F 3 rfl rfl d6_mostAlike_53 ?_
          refine r_aload_nR F 1 rfl rfl d6_mostAlike_54 ?_
          refine r_getR F (z := 69) lf6_25 (vc67 hn) z67_6 d6_mostAlike_55 ?_
          refine r_iload F 0 rfl d6_mostAlike_58 ?_
          refine at_name (B := fun (D1 : Mem) => At K X (ZQ K X Q) 0 0 n rt 5 60 [(4, vI v1), (0, vR X 67), (1, vI p0), (2, vI s1.1), (3, vI s1.2.1)] [vI v1, vR X 69, vI s1.1] D1) h (fun D1 h => ?_)
          refine r_iald F (vc69 hn) hx2 d6_mostAlike_60 ?_
          refine r_max F lm6_93 wm1 wm0 wm2 ⟨Nat.le_of_ble_eq_true rfl, Nat.le_of_ble_eq_true rfl, Nat.le_of_ble_eq_true rfl, Nat.le_of_ble_eq_true rfl⟩ d6_mostAlike_61 ?_
          refine r_istore_n F (lv' := [(2, vI (max32 s1.1 (D1 69 v1.toNat))), (4, vI v1), (0, vR X 67), (1, vI p0), (3, vI s1.2.1)]) rfl (Nat.le_of_ble_eq_true rfl) rfl d6_mostAlike_64 ?_
          refine r_weak [2, 3, 0, 4] rfl ?_
          replace h := wpo_some h
          exact h
theorem d6_question_0 : decode c6_question 0 = .ok (.aload_n 0, 1) := by decide +kernel
theorem d6_question_1 : decode c6_question 1 = .ok (.iconst 0, 1) := by decide +kernel
theorem d6_question_2 : decode c6_question 2 = .ok (.putfield 9, 3) := by decide +kernel
theorem d6_question_5 : decode c6_question 5 = .ok (.iconst 0, 1) := by decide +kernel
theorem d6_question_6 : decode c6_question 6 = .ok (.istore_n 2, 1) := by decide +kernel
theorem d6_question_7 : decode c6_question 7 = .ok (.iload_n 2, 1) := by decide +kernel
theorem d6_question_8 : decode c6_question 8 = .ok (.bipush 8, 2) := by decide +kernel
theorem d6_question_10 : decode c6_question 10 = .ok (.if_icmp .gt 32, 3) := by decide +kernel
theorem d6_question_13 : decode c6_question 13 = .ok (.iload_n 2, 1) := by decide +kernel
theorem d6_question_14 : decode c6_question 14 = .ok (.aload_n 0, 1) := by decide +kernel
theorem d6_question_15 : decode c6_question 15 = .ok (.getfield 28, 3) := by decide +kernel
theorem d6_question_18 : decode c6_question 18 = .ok (.getfield 41, 3) := by decide +kernel
theorem d6_question_21 : decode c6_question 21 = .ok (.if_icmp .lt 9, 3) := by decide +kernel
theorem d6_question_24 : decode c6_question 24 = .ok (.iload_n 2, 1) := by decide +kernel
theorem d6_question_25 : decode c6_question 25 = .ok (.bipush 8, 2) := by decide +kernel
theorem d6_question_27 : decode c6_question 27 = .ok (.if_icmp .ne 9, 3) := by decide +kernel
theorem d6_question_30 : decode c6_question 30 = .ok (.aload_n 0, 1) := by decide +kernel
theorem d6_question_31 : decode c6_question 31 = .ok (.aload_n 1, 1) := by decide +kernel
theorem d6_question_32 : decode c6_question 32 = .ok (.iload_n 2, 1) := by decide +kernel
theorem d6_question_33 : decode c6_question 33 = .ok (.invokevirtual 46, 3) := by decide +kernel
theorem d6_question_36 : decode c6_question 36 = .ok (.iinc 2 1, 3) := by decide +kernel
theorem d6_question_39 : decode c6_question 39 = .ok (.goto (-32), 3) := by decide +kernel
theorem d6_question_42 : decode c6_question 42 = .ok (.aload_n 0, 1) := by decide +kernel
theorem d6_question_43 : decode c6_question 43 = .ok (.iconst (-1), 1) := by decide +kernel
theorem d6_question_44 : decode c6_question 44 = .ok (.putfield 15, 3) := by decide +kernel
theorem d6_question_47 : decode c6_question 47 = .ok (.aload_n 0, 1) := by decide +kernel
theorem d6_question_48 : decode c6_question 48 = .ok (.aload_n 0, 1) := by decide +kernel
theorem d6_question_49 : decode c6_question 49 = .ok (.getfield 9, 3) := by decide +kernel
theorem d6_question_52 : decode c6_question 52 = .ok (.invokestatic 50, 3) := by decide +kernel
theorem d6_question_55 : decode c6_question 55 = .ok (.putfield 18, 3) := by decide +kernel
theorem d6_question_58 : decode c6_question 58 = .ok (.iconst 0, 1) := by decide +kernel
theorem d6_question_59 : decode c6_question 59 = .ok (.istore_n 2, 1) := by decide +kernel
theorem d6_question_60 : decode c6_question 60 = .ok (.iload_n 2, 1) := by decide +kernel
theorem d6_question_61 : decode c6_question 61 = .ok (.aload_n 0, 1) := by decide +kernel
theorem d6_question_62 : decode c6_question 62 = .ok (.getfield 28, 3) := by decide +kernel
theorem d6_question_65 : decode c6_question 65 = .ok (.getfield 56, 3) := by decide +kernel
theorem d6_question_68 : decode c6_question 68 = .ok (.if_icmp .ge 33, 3) := by decide +kernel
theorem d6_question_71 : decode c6_question 71 = .ok (.aload_n 0, 1) := by decide +kernel
theorem d6_question_72 : decode c6_question 72 = .ok (.iload_n 2, 1) := by decide +kernel
theorem d6_question_73 : decode c6_question 73 = .ok (.invokevirtual 59, 3) := by decide +kernel
theorem d6_question_76 : decode c6_question 76 = .ok (.istore_n 3, 1) := by decide +kernel
theorem d6_question_77 : decode c6_question 77 = .ok (.iload_n 3, 1) := by decide +kernel
theorem d6_question_78 : decode c6_question 78 = .ok (.aload_n 0, 1) := by decide +kernel
theorem d6_question_79 : decode c6_question 79 = .ok (.getfield 18, 3) := by decide +kernel
theorem d6_question_82 : decode c6_question 82 = .ok (.if_icmp .ge 13, 3) := by decide +kernel
theorem d6_question_85 : decode c6_question 85 = .ok (.aload_n 0, 1) := by decide +kernel
theorem d6_question_86 : decode c6_question 86 = .ok (.iload_n 3, 1) := by decide +kernel
theorem d6_question_87 : decode c6_question 87 = .ok (.putfield 18, 3) := by decide +kernel
theorem d6_question_90 : decode c6_question 90 = .ok (.aload_n 0, 1) := by decide +kernel
theorem d6_question_91 : decode c6_question 91 = .ok (.iload_n 2, 1) := by decide +kernel
theorem d6_question_92 : decode c6_question 92 = .ok (.putfield 15, 3) := by decide +kernel
theorem d6_question_95 : decode c6_question 95 = .ok (.iinc 2 1, 3) := by decide +kernel
theorem d6_question_98 : decode c6_question 98 = .ok (.goto (-38), 3) := by decide +kernel
theorem d6_question_101 : decode c6_question 101 = .ok (.return_, 1) := by decide +kernel
def f6_question (D : Mem) (p0 : Nat) : Option (Mem) :=
  Option.bind (some (mset D 67 2 0)) fun (D1 : Mem) =>
  Option.bind (@loop (Int × Mem) (Mem) (fun s1 =>
    if w32 8 < w32 s1.1 then
      some (Sum.inr s1.2)
    else
      Option.bind (
        if w32 s1.1 < w32 (s1.2 12 8) then
          Option.bind (f6_suspect s1.2 p0 s1.1) fun (a1 : Mem) =>
          some a1
        else
          if w32 s1.1 = w32 8 then
            Option.bind (f6_suspect s1.2 p0 s1.1) fun (a2 : Mem) =>
            some a2
          else
            some s1.2
      ) fun (j1 : Mem) =>
      some (Sum.inl ((s1.1 + 1), j1))
  ) FU (0, D1)) fun (b1 : Mem) =>
  Option.bind (some (mset b1 67 3 (-1))) fun (D2 : Mem) =>
  Option.bind (f13_bitCount D2 (D2 67 2)) fun (a3 : Int) =>
  Option.bind (some (mset D2 67 4 a3)) fun (D3 : Mem) =>
  Option.bind (@loop (Int × Mem) (Mem) (fun s2 =>
    if w32 s2.1 < w32 (s2.2 12 1) then
      Option.bind (f6_mostAlike s2.2 s2.1) fun (a4 : Int × Mem) =>
      Option.bind (
        if w32 a4.1 < w32 (a4.2 67 4) then
          Option.bind (some (mset a4.2 67 4 a4.1)) fun (D4 : Mem) =>
          some (mset D4 67 3 s2.1)
        else
          some a4.2
      ) fun (j2 : Mem) =>
      some (Sum.inl ((s2.1 + 1), j2))
    else
      some (Sum.inr s2.2)
  ) FU (0, D3)) fun (b2 : Mem) =>
  some b2
set_option maxHeartbeats 4000000 in
theorem ok6_question {l : Launch} {X : XT} {n : Nat} {D : Mem} {Q : Option Value → Nat → Rho → Mem → Prop} (hn : 117 ≤ n) {p0 : Nat} (ho0 : VR n p0 5) (h : wpo (f6_question D p0) (fun a => Q none n rt a)) : MOK l y6_question c6_question 4 (none) { frames := 4, cells := 0, slots := 0, locals := 92 } 0 0 X [vR X 67, vR X p0] n rt D Q := by
  refine MOK_of 6 (by decide +kernel) rfl (lv := [(0, vR X 67), (1, vR X p0)]) (Nat.le_of_ble_eq_true rfl) rfl (fun K hK F hnm => ?_)
  subst hK
  unfold f6_question at h
  refine r_aload_nR F 0 rfl rfl d6_question_0 ?_
  refine r_iconst F (z := 0) d6_question_1 ?_
  refine r_putI F lf6_9 rfl rfl (vc67 hn) d6_question_2 ?_
  refine r_iconst F (z := 0) d6_question_5 ?_
  refine r_istore_n F (lv' := [(2, vI 0), (0, vR X 67), (1, vR X p0)]) rfl (Nat.le_of_ble_eq_true rfl) rfl d6_question_6 ?_
  refine at_name (B := fun (D1 : Mem) => At K X (ZQ K X Q) 0 0 n rt 4 7 [(2, vI 0), (0, vR X 67), (1, vR X p0)] [] D1) h (fun D1 h => ?_)
  refine r_weak [1, 2, 0] rfl ?_
  refine at_loopj (A := fun (s1 : Int × Mem) => At K X (ZQ K X Q) 0 0 n rt 4 7 [(0, vR X 67), (1, vR X p0), (2, vI s1.1)] [] s1.2) (B := fun (b1 : Mem) => At K X (ZQ K X Q) 0 0 n rt 4 42 [(0, vR X 67)] [] b1) h (fun b1 h => ?_) (fun s1 h => ?_)
  · refine r_aload_nR F 0 rfl rfl d6_question_42 ?_
    refine r_iconst F (z := (-1)) d6_question_43 ?_
    refine r_putI F lf6_15 rfl rfl (vc67 hn) d6_question_44 ?_
    refine r_aload_nR F 0 rfl rfl d6_question_47 ?_
    refine r_aload_nR F 0 rfl rfl d6_question_48 ?_
    refine at_name (B := fun (D2 : Mem) => At K X (ZQ K X Q) 0 0 n rt 4 49 [(0, vR X 67)] [vR X 67, vR X 67] D2) h (fun D2 h => ?_)
    refine r_getI F lf6_9 (vc67 hn) d6_question_49 ?_
    replace h := wpo_bind h
    refine r_callS0 F lm6_50 mf13_bitCount rfl (fr := 0) (lo := 0) (As := [vI (D2 67 2)]) (rest := [vR X 67]) ⟨Nat.le_of_ble_eq_true rfl, Nat.le_of_ble_eq_true rfl⟩ rfl (Nat.le_of_ble_eq_true rfl) ⟨Nat.zero_le _, Nat.zero_le _⟩ d6_question_52 ?_
    refine ok13_bitCount  (kI h (fun a3 h => ?_))
    refine r_putI F lf6_18 rfl rfl (vc67 hn) d6_question_55 ?_
    refine r_iconst F (z := 0) d6_question_58 ?_
    refine r_istore_n F (lv' := [(2, vI 0), (0, vR X 67)]) rfl (Nat.le_of_ble_eq_true rfl) rfl d6_question_59 ?_
    refine at_name (B := fun (D3 : Mem) => At K X (ZQ K X Q) 0 0 n rt 4 60 [(2, vI 0), (0, vR X 67)] [] D3) h (fun D3 h => ?_)
    refine r_weak [1, 0] rfl ?_
    refine at_loopj (A := fun (s2 : Int × Mem) => At K X (ZQ K X Q) 0 0 n rt 4 60 [(0, vR X 67), (2, vI s2.1)] [] s2.2) (B := fun (b2 : Mem) => At K X (ZQ K X Q) 0 0 n rt 4 101 [] [] b2) h (fun b2 h => ?_) (fun s2 h => ?_)
    · replace h := wpo_some h
      exact r_vret F h d6_question_101
    · refine r_iload_n F 1 rfl rfl d6_question_60 ?_
      refine r_aload_nR F 0 rfl rfl d6_question_61 ?_
      refine r_getR F (z := 12) lf6_28 (vc67 hn) z67_0 d6_question_62 ?_
      refine r_getI F lf6_56 (vc12 hn) d6_question_65 ?_
      refine r_icmp_ge F (tgt := 101) d6_question_68 (by decide) (fun hb => ?_) (fun hb => ?_)
      · replace h := wpo_neg h hb
        refine r_weak [] rfl ?_
        replace h := wpo_inr h
        exact h
      · replace h := wpo_pos h hb
        refine r_aload_nR F 0 rfl rfl d6_question_71 ?_
        refine r_iload_n F 1 rfl rfl d6_question_72 ?_
        replace h := wpo_bind h
        refine r_callV0 F lm6_59 mf6_mostAlike (vc67 hn) rfl (fr := 1) (lo := 23) (As := [vI s2.1]) (rest := []) ⟨Nat.le_of_ble_eq_true rfl, Nat.le_of_ble_eq_true rfl⟩ rfl (Nat.le_of_ble_eq_true rfl) ⟨Nat.zero_le _, Nat.zero_le _⟩ d6_question_73 ?_
        refine ok6_mostAlike hn  (kIm h (fun a4 h => ?_))
        refine r_istore_n F (lv' := [(3, vI a4.1), (0, vR X 67), (2, vI s2.1)]) rfl (Nat.le_of_ble_eq_true rfl) rfl d6_question_76 ?_
        refine r_iload_n F 0 rfl rfl d6_question_77 ?_
        refine r_aload_nR F 1 rfl rfl d6_question_78 ?_
        refine r_getI F lf6_18 (vc67 hn) d6_question_79 ?_
        refine at_join (B := fun (j2 : Mem) => At K X (ZQ K X Q) 0 0 n rt 4 95 [(0, vR X 67), (2, vI s2.1)] [] j2) h (fun j2 h => ?_) (fun h => ?_)
        · refine r_iinc F 1 (lv' := [(2, vI (s2.1 + 1)), (0, vR X 67)]) rfl (Nat.le_of_ble_eq_true rfl) rfl d6_question_95 ?_
          refine r_goto F (tgt := 60) (by decide) d6_question_98 ?_
          refine r_weak [1, 0] rfl ?_
          replace h := wpo_inl h
          exact h
        · refine r_icmp_ge F (tgt := 95) d6_question_82 (by decide) (fun hb => ?_) (fun hb => ?_)
          · replace h := wpo_neg h hb
            refine r_weak [1, 2] rfl ?_
            replace h := wpo_some h
            exact h
          · replace h := wpo_pos h hb
            refine r_aload_nR F 1 rfl rfl d6_question_85 ?_
            refine r_iload_n F 0 rfl rfl d6_question_86 ?_
            refine r_putI F lf6_18 rfl rfl (vc67 hn) d6_question_87 ?_
            refine r_aload_nR F 1 rfl rfl d6_question_90 ?_
            refine r_iload_n F 2 rfl rfl d6_question_91 ?_
            refine at_name (B := fun (D4 : Mem) => At K X (ZQ K X Q) 0 0 n rt 4 92 [(3, vI a4.1), (0, vR X 67), (2, vI s2.1)] [vI s2.1, vR X 67] D4) h (fun D4 h => ?_)
            refine r_putI F lf6_15 rfl rfl (vc67 hn) d6_question_92 ?_
            refine r_weak [1, 2] rfl ?_
            replace h := wpo_some h
            exact h
  · refine r_iload_n F 2 rfl rfl d6_question_7 ?_
    refine r_bipush F (z := 8) (by decide) d6_question_8 ?_
    refine r_icmp_gt F (tgt := 42) d6_question_10 (by decide) (fun hb => ?_) (fun hb => ?_)
    · replace h := wpo_pos h hb
      refine r_weak [0] rfl ?_
      replace h := wpo_inr h
      exact h
    · replace h := wpo_neg h hb
      refine r_iload_n F 2 rfl rfl d6_question_13 ?_
      refine r_aload_nR F 0 rfl rfl d6_question_14 ?_
      refine r_getR F (z := 12) lf6_28 (vc67 hn) z67_0 d6_question_15 ?_
      refine r_getI F lf6_41 (vc12 hn) d6_question_18 ?_
      refine at_join (B := fun (j1 : Mem) => At K X (ZQ K X Q) 0 0 n rt 4 36 [(0, vR X 67), (1, vR X p0), (2, vI s1.1)] [] j1) h (fun j1 h => ?_) (fun h => ?_)
      · refine r_iinc F 2 (lv' := [(2, vI (s1.1 + 1)), (0, vR X 67), (1, vR X p0)]) rfl (Nat.le_of_ble_eq_true rfl) rfl d6_question_36 ?_
        refine r_goto F (tgt := 7) (by decide) d6_question_39 ?_
        refine r_weak [1, 2, 0] rfl ?_
        replace h := wpo_inl h
        exact h
      · refine r_icmp_lt F (tgt := 30) d6_question_21 (by decide) (fun hb => ?_) (fun hb => ?_)
        · replace h := wpo_pos h hb
          refine r_aload_nR F 0 rfl rfl d6_question_30 ?_
          refine r_aload_nR F 1 rfl rfl d6_question_31 ?_
          refine r_iload_n F 2 rfl rfl d6_question_32 ?_
          replace h := wpo_bind h
          refine r_callV0 F lm6_46 mf6_suspect (vc67 hn) rfl (fr := 3) (lo := 68) (As := [vR X p0, vI s1.1]) (rest := []) ⟨Nat.le_of_ble_eq_true rfl, Nat.le_of_ble_eq_true rfl⟩ rfl (Nat.le_of_ble_eq_true rfl) ⟨Nat.zero_le _, Nat.zero_le _⟩ d6_question_33 ?_
          refine ok6_suspect hn ho0 (kVm h (fun a1 h => ?_))
          replace h := wpo_some h
          exact h
        · replace h := wpo_neg h hb
          refine r_iload_n F 2 rfl rfl d6_question_24 ?_
          refine r_bipush F (z := 8) (by decide) d6_question_25 ?_
          refine r_icmp_ne F (tgt := 36) d6_question_27 (by decide) (fun hb => ?_) (fun hb => ?_)
          · replace h := wpo_neg h hb
            replace h := wpo_some h
            exact h
          · replace h := wpo_pos h hb
            refine r_aload_nR F 0 rfl rfl d6_question_30 ?_
            refine r_aload_nR F 1 rfl rfl d6_question_31 ?_
            refine r_iload_n F 2 rfl rfl d6_question_32 ?_
            replace h := wpo_bind h
            refine r_callV0 F lm6_46 mf6_suspect (vc67 hn) rfl (fr := 3) (lo := 68) (As := [vR X p0, vI s1.1]) (rest := []) ⟨Nat.le_of_ble_eq_true rfl, Nat.le_of_ble_eq_true rfl⟩ rfl (Nat.le_of_ble_eq_true rfl) ⟨Nat.zero_le _, Nat.zero_le _⟩ d6_question_33 ?_
            refine ok6_suspect hn ho0 (kVm h (fun a2 h => ?_))
            replace h := wpo_some h
            exact h
theorem d9_whose_0 : decode c9_whose 0 = .ok (.aload_n 0, 1) := by decide +kernel
theorem d9_whose_1 : decode c9_whose 1 = .ok (.iload_n 1, 1) := by decide +kernel
theorem d9_whose_2 : decode c9_whose 2 = .ok (.invokevirtual 268, 3) := by decide +kernel
theorem d9_whose_5 : decode c9_whose 5 = .ok (.istore_n 2, 1) := by decide +kernel
theorem d9_whose_6 : decode c9_whose 6 = .ok (.iload_n 2, 1) := by decide +kernel
theorem d9_whose_7 : decode c9_whose 7 = .ok (.ifCond .eq 5, 3) := by decide +kernel
theorem d9_whose_10 : decode c9_whose 10 = .ok (.iload_n 2, 1) := by decide +kernel
theorem d9_whose_11 : decode c9_whose 11 = .ok (.ireturn, 1) := by decide +kernel
theorem d9_whose_12 : decode c9_whose 12 = .ok (.aload_n 0, 1) := by decide +kernel
theorem d9_whose_13 : decode c9_whose 13 = .ok (.getfield 82, 3) := by decide +kernel
theorem d9_whose_16 : decode c9_whose 16 = .ok (.aload_n 0, 1) := by decide +kernel
theorem d9_whose_17 : decode c9_whose 17 = .ok (.getfield 42, 3) := by decide +kernel
theorem d9_whose_20 : decode c9_whose 20 = .ok (.iload_n 1, 1) := by decide +kernel
theorem d9_whose_21 : decode c9_whose 21 = .ok (.aaload, 1) := by decide +kernel
theorem d9_whose_22 : decode c9_whose 22 = .ok (.invokevirtual 271, 3) := by decide +kernel
theorem d9_whose_25 : decode c9_whose 25 = .ok (.aload_n 0, 1) := by decide +kernel
theorem d9_whose_26 : decode c9_whose 26 = .ok (.getfield 82, 3) := by decide +kernel
theorem d9_whose_29 : decode c9_whose 29 = .ok (.getfield 275, 3) := by decide +kernel
theorem d9_whose_32 : decode c9_whose 32 = .ok (.ireturn, 1) := by decide +kernel
def f9_whose (D : Mem) (p0 : Int) : Option (Int × Mem) :=
  Option.bind (f9_troubleOfTeeth D p0) fun (a1 : Int) =>
  if w32 a1 = 0 then
    if 0 ≤ p0 ∧ p0 < 4 then
      Option.bind (f6_question D (109 + 2 * p0.toNat)) fun (a2 : Mem) =>
      some ((a2 67 2), a2)
    else none
  else
    some (a1, D)
set_option maxHeartbeats 4000000 in
theorem ok9_whose {l : Launch} {X : XT} {n : Nat} {D : Mem} {Q : Option Value → Nat → Rho → Mem → Prop} (hn : 117 ≤ n) {p0 : Int}  (h : wpo (f9_whose D p0) (fun a => Q (some (vI a.1)) n rt a.2)) : MOK l y9_whose c9_whose 3 (some .int) { frames := 5, cells := 0, slots := 0, locals := 115 } 0 0 X [vR X 0, vI p0] n rt D Q := by
  refine MOK_of 9 (by decide +kernel) rfl (lv := [(0, vR X 0), (1, vI p0)]) (Nat.le_of_ble_eq_true rfl) rfl (fun K hK F hnm => ?_)
  subst hK
  unfold f9_whose at h
  refine r_aload_nR F 0 rfl rfl d9_whose_0 ?_
  refine r_iload_n F 1 rfl rfl d9_whose_1 ?_
  replace h := wpo_bind h
  refine r_callV0 F lm9_268 mf9_troubleOfTeeth (vc0 hn) rfl (fr := 2) (lo := 42) (As := [vI p0]) (rest := []) ⟨Nat.le_of_ble_eq_true rfl, Nat.le_of_ble_eq_true rfl⟩ rfl (Nat.le_of_ble_eq_true rfl) ⟨Nat.zero_le _, Nat.zero_le _⟩ d9_whose_2 ?_
  refine ok9_troubleOfTeeth hn  (kI h (fun a1 h => ?_))
  refine r_istore_n F (lv' := [(2, vI a1), (0, vR X 0), (1, vI p0)]) rfl (Nat.le_of_ble_eq_true rfl) rfl d9_whose_5 ?_
  refine r_iload_n F 0 rfl rfl d9_whose_6 ?_
  refine r_if_eq F (tgt := 12) d9_whose_7 (by decide) (fun hb => ?_) (fun hb => ?_)
  · replace h := wpo_pos h hb
    refine r_aload_nR F 1 rfl rfl d9_whose_12 ?_
    refine r_getR F (z := 67) lf9_82 (vc0 hn) z0_11 d9_whose_13 ?_
    refine r_aload_nR F 1 rfl rfl d9_whose_16 ?_
    refine r_getR F (z := 22) lf9_42 (vc0 hn) z0_5 d9_whose_17 ?_
    refine r_iload_n F 2 rfl rfl d9_whose_20 ?_
    obtain ⟨hx1, h⟩ := wpo_chk h
    refine r_aaldS F (z := (109 + 2 * p0.toNat)) (vc22 hn) hx1 (zs hx1) d9_whose_21 ?_
    replace h := wpo_bind h
    refine r_callV0 F lm9_271 mf6_question (vc67 hn) rfl (fr := 4) (lo := 92) (As := [vR X (109 + 2 * p0.toNat)]) (rest := []) ⟨Nat.le_of_ble_eq_true rfl, Nat.le_of_ble_eq_true rfl⟩ rfl (Nat.le_of_ble_eq_true rfl) ⟨Nat.zero_le _, Nat.zero_le _⟩ d9_whose_22 ?_
    refine ok6_question hn (vs hn hx1) (kVm h (fun a2 h => ?_))
    refine r_aload_nR F 1 rfl rfl d9_whose_25 ?_
    refine r_getR F (z := 67) lf9_82 (vc0 hn) z0_11 d9_whose_26 ?_
    refine r_getI F lf9_275 (vc67 hn) d9_whose_29 ?_
    replace h := wpo_some h
    exact r_iret F h d9_whose_32
  · replace h := wpo_neg h hb
    refine r_iload_n F 0 rfl rfl d9_whose_10 ?_
    replace h := wpo_some h
    exact r_iret F h d9_whose_11
theorem d9_fits_0 : decode c9_fits 0 = .ok (.aload_n 0, 1) := by decide +kernel
theorem d9_fits_1 : decode c9_fits 1 = .ok (.iload_n 1, 1) := by decide +kernel
theorem d9_fits_2 : decode c9_fits 2 = .ok (.invokevirtual 268, 3) := by decide +kernel
theorem d9_fits_5 : decode c9_fits 5 = .ok (.istore_n 2, 1) := by decide +kernel
theorem d9_fits_6 : decode c9_fits 6 = .ok (.iload_n 2, 1) := by decide +kernel
theorem d9_fits_7 : decode c9_fits 7 = .ok (.ifCond .eq 5, 3) := by decide +kernel
theorem d9_fits_10 : decode c9_fits 10 = .ok (.iload_n 2, 1) := by decide +kernel
theorem d9_fits_11 : decode c9_fits 11 = .ok (.ireturn, 1) := by decide +kernel
theorem d9_fits_12 : decode c9_fits 12 = .ok (.aload_n 0, 1) := by decide +kernel
theorem d9_fits_13 : decode c9_fits 13 = .ok (.getfield 82, 3) := by decide +kernel
theorem d9_fits_16 : decode c9_fits 16 = .ok (.aload_n 0, 1) := by decide +kernel
theorem d9_fits_17 : decode c9_fits 17 = .ok (.getfield 42, 3) := by decide +kernel
theorem d9_fits_20 : decode c9_fits 20 = .ok (.iload_n 1, 1) := by decide +kernel
theorem d9_fits_21 : decode c9_fits 21 = .ok (.aaload, 1) := by decide +kernel
theorem d9_fits_22 : decode c9_fits 22 = .ok (.invokevirtual 271, 3) := by decide +kernel
theorem d9_fits_25 : decode c9_fits 25 = .ok (.aload_n 0, 1) := by decide +kernel
theorem d9_fits_26 : decode c9_fits 26 = .ok (.getfield 82, 3) := by decide +kernel
theorem d9_fits_29 : decode c9_fits 29 = .ok (.getfield 275, 3) := by decide +kernel
theorem d9_fits_32 : decode c9_fits 32 = .ok (.invokestatic 278, 3) := by decide +kernel
theorem d9_fits_35 : decode c9_fits 35 = .ok (.ireturn, 1) := by decide +kernel
def f9_fits (D : Mem) (p0 : Int) : Option (Int × Mem) :=
  Option.bind (f9_troubleOfTeeth D p0) fun (a1 : Int) =>
  if w32 a1 = 0 then
    if 0 ≤ p0 ∧ p0 < 4 then
      Option.bind (f6_question D (109 + 2 * p0.toNat)) fun (a2 : Mem) =>
      Option.bind (f13_bitCount a2 (a2 67 2)) fun (a3 : Int) =>
      some (a3, a2)
    else none
  else
    some (a1, D)
set_option maxHeartbeats 4000000 in
theorem ok9_fits {l : Launch} {X : XT} {n : Nat} {D : Mem} {Q : Option Value → Nat → Rho → Mem → Prop} (hn : 117 ≤ n) {p0 : Int}  (h : wpo (f9_fits D p0) (fun a => Q (some (vI a.1)) n rt a.2)) : MOK l y9_fits c9_fits 3 (some .int) { frames := 5, cells := 0, slots := 0, locals := 115 } 0 0 X [vR X 0, vI p0] n rt D Q := by
  refine MOK_of 9 (by decide +kernel) rfl (lv := [(0, vR X 0), (1, vI p0)]) (Nat.le_of_ble_eq_true rfl) rfl (fun K hK F hnm => ?_)
  subst hK
  unfold f9_fits at h
  refine r_aload_nR F 0 rfl rfl d9_fits_0 ?_
  refine r_iload_n F 1 rfl rfl d9_fits_1 ?_
  replace h := wpo_bind h
  refine r_callV0 F lm9_268 mf9_troubleOfTeeth (vc0 hn) rfl (fr := 2) (lo := 42) (As := [vI p0]) (rest := []) ⟨Nat.le_of_ble_eq_true rfl, Nat.le_of_ble_eq_true rfl⟩ rfl (Nat.le_of_ble_eq_true rfl) ⟨Nat.zero_le _, Nat.zero_le _⟩ d9_fits_2 ?_
  refine ok9_troubleOfTeeth hn  (kI h (fun a1 h => ?_))
  refine r_istore_n F (lv' := [(2, vI a1), (0, vR X 0), (1, vI p0)]) rfl (Nat.le_of_ble_eq_true rfl) rfl d9_fits_5 ?_
  refine r_iload_n F 0 rfl rfl d9_fits_6 ?_
  refine r_if_eq F (tgt := 12) d9_fits_7 (by decide) (fun hb => ?_) (fun hb => ?_)
  · replace h := wpo_pos h hb
    refine r_aload_nR F 1 rfl rfl d9_fits_12 ?_
    refine r_getR F (z := 67) lf9_82 (vc0 hn) z0_11 d9_fits_13 ?_
    refine r_aload_nR F 1 rfl rfl d9_fits_16 ?_
    refine r_getR F (z := 22) lf9_42 (vc0 hn) z0_5 d9_fits_17 ?_
    refine r_iload_n F 2 rfl rfl d9_fits_20 ?_
    obtain ⟨hx1, h⟩ := wpo_chk h
    refine r_aaldS F (z := (109 + 2 * p0.toNat)) (vc22 hn) hx1 (zs hx1) d9_fits_21 ?_
    replace h := wpo_bind h
    refine r_callV0 F lm9_271 mf6_question (vc67 hn) rfl (fr := 4) (lo := 92) (As := [vR X (109 + 2 * p0.toNat)]) (rest := []) ⟨Nat.le_of_ble_eq_true rfl, Nat.le_of_ble_eq_true rfl⟩ rfl (Nat.le_of_ble_eq_true rfl) ⟨Nat.zero_le _, Nat.zero_le _⟩ d9_fits_22 ?_
    refine ok6_question hn (vs hn hx1) (kVm h (fun a2 h => ?_))
    refine r_aload_nR F 1 rfl rfl d9_fits_25 ?_
    refine r_getR F (z := 67) lf9_82 (vc0 hn) z0_11 d9_fits_26 ?_
    refine r_getI F lf9_275 (vc67 hn) d9_fits_29 ?_
    replace h := wpo_bind h
    refine r_callS0 F lm9_278 mf13_bitCount rfl (fr := 0) (lo := 0) (As := [vI (a2 67 2)]) (rest := []) ⟨Nat.le_of_ble_eq_true rfl, Nat.le_of_ble_eq_true rfl⟩ rfl (Nat.le_of_ble_eq_true rfl) ⟨Nat.zero_le _, Nat.zero_le _⟩ d9_fits_32 ?_
    refine ok13_bitCount  (kI h (fun a3 h => ?_))
    replace h := wpo_some h
    exact r_iret F h d9_fits_35
  · replace h := wpo_neg h hb
    refine r_iload_n F 0 rfl rfl d9_fits_10 ?_
    replace h := wpo_some h
    exact r_iret F h d9_fits_11
theorem d9_ask_0 : decode c9_ask 0 = .ok (.aload_n 0, 1) := by decide +kernel
theorem d9_ask_1 : decode c9_ask 1 = .ok (.iload_n 1, 1) := by decide +kernel
theorem d9_ask_2 : decode c9_ask 2 = .ok (.invokevirtual 268, 3) := by decide +kernel
theorem d9_ask_5 : decode c9_ask 5 = .ok (.istore_n 2, 1) := by decide +kernel
theorem d9_ask_6 : decode c9_ask 6 = .ok (.iload_n 2, 1) := by decide +kernel
theorem d9_ask_7 : decode c9_ask 7 = .ok (.ifCond .eq 5, 3) := by decide +kernel
theorem d9_ask_10 : decode c9_ask 10 = .ok (.iload_n 2, 1) := by decide +kernel
theorem d9_ask_11 : decode c9_ask 11 = .ok (.ireturn, 1) := by decide +kernel
theorem d9_ask_12 : decode c9_ask 12 = .ok (.aload_n 0, 1) := by decide +kernel
theorem d9_ask_13 : decode c9_ask 13 = .ok (.getfield 82, 3) := by decide +kernel
theorem d9_ask_16 : decode c9_ask 16 = .ok (.aload_n 0, 1) := by decide +kernel
theorem d9_ask_17 : decode c9_ask 17 = .ok (.getfield 42, 3) := by decide +kernel
theorem d9_ask_20 : decode c9_ask 20 = .ok (.iload_n 1, 1) := by decide +kernel
theorem d9_ask_21 : decode c9_ask 21 = .ok (.aaload, 1) := by decide +kernel
theorem d9_ask_22 : decode c9_ask 22 = .ok (.invokevirtual 271, 3) := by decide +kernel
theorem d9_ask_25 : decode c9_ask 25 = .ok (.aload_n 0, 1) := by decide +kernel
theorem d9_ask_26 : decode c9_ask 26 = .ok (.getfield 82, 3) := by decide +kernel
theorem d9_ask_29 : decode c9_ask 29 = .ok (.getfield 283, 3) := by decide +kernel
theorem d9_ask_32 : decode c9_ask 32 = .ok (.ireturn, 1) := by decide +kernel
def f9_ask (D : Mem) (p0 : Int) : Option (Int × Mem) :=
  Option.bind (f9_troubleOfTeeth D p0) fun (a1 : Int) =>
  if w32 a1 = 0 then
    if 0 ≤ p0 ∧ p0 < 4 then
      Option.bind (f6_question D (109 + 2 * p0.toNat)) fun (a2 : Mem) =>
      some ((a2 67 3), a2)
    else none
  else
    some (a1, D)
set_option maxHeartbeats 4000000 in
theorem ok9_ask {l : Launch} {X : XT} {n : Nat} {D : Mem} {Q : Option Value → Nat → Rho → Mem → Prop} (hn : 117 ≤ n) {p0 : Int}  (h : wpo (f9_ask D p0) (fun a => Q (some (vI a.1)) n rt a.2)) : MOK l y9_ask c9_ask 3 (some .int) { frames := 5, cells := 0, slots := 0, locals := 115 } 0 0 X [vR X 0, vI p0] n rt D Q := by
  refine MOK_of 9 (by decide +kernel) rfl (lv := [(0, vR X 0), (1, vI p0)]) (Nat.le_of_ble_eq_true rfl) rfl (fun K hK F hnm => ?_)
  subst hK
  unfold f9_ask at h
  refine r_aload_nR F 0 rfl rfl d9_ask_0 ?_
  refine r_iload_n F 1 rfl rfl d9_ask_1 ?_
  replace h := wpo_bind h
  refine r_callV0 F lm9_268 mf9_troubleOfTeeth (vc0 hn) rfl (fr := 2) (lo := 42) (As := [vI p0]) (rest := []) ⟨Nat.le_of_ble_eq_true rfl, Nat.le_of_ble_eq_true rfl⟩ rfl (Nat.le_of_ble_eq_true rfl) ⟨Nat.zero_le _, Nat.zero_le _⟩ d9_ask_2 ?_
  refine ok9_troubleOfTeeth hn  (kI h (fun a1 h => ?_))
  refine r_istore_n F (lv' := [(2, vI a1), (0, vR X 0), (1, vI p0)]) rfl (Nat.le_of_ble_eq_true rfl) rfl d9_ask_5 ?_
  refine r_iload_n F 0 rfl rfl d9_ask_6 ?_
  refine r_if_eq F (tgt := 12) d9_ask_7 (by decide) (fun hb => ?_) (fun hb => ?_)
  · replace h := wpo_pos h hb
    refine r_aload_nR F 1 rfl rfl d9_ask_12 ?_
    refine r_getR F (z := 67) lf9_82 (vc0 hn) z0_11 d9_ask_13 ?_
    refine r_aload_nR F 1 rfl rfl d9_ask_16 ?_
    refine r_getR F (z := 22) lf9_42 (vc0 hn) z0_5 d9_ask_17 ?_
    refine r_iload_n F 2 rfl rfl d9_ask_20 ?_
    obtain ⟨hx1, h⟩ := wpo_chk h
    refine r_aaldS F (z := (109 + 2 * p0.toNat)) (vc22 hn) hx1 (zs hx1) d9_ask_21 ?_
    replace h := wpo_bind h
    refine r_callV0 F lm9_271 mf6_question (vc67 hn) rfl (fr := 4) (lo := 92) (As := [vR X (109 + 2 * p0.toNat)]) (rest := []) ⟨Nat.le_of_ble_eq_true rfl, Nat.le_of_ble_eq_true rfl⟩ rfl (Nat.le_of_ble_eq_true rfl) ⟨Nat.zero_le _, Nat.zero_le _⟩ d9_ask_22 ?_
    refine ok6_question hn (vs hn hx1) (kVm h (fun a2 h => ?_))
    refine r_aload_nR F 1 rfl rfl d9_ask_25 ?_
    refine r_getR F (z := 67) lf9_82 (vc0 hn) z0_11 d9_ask_26 ?_
    refine r_getI F lf9_283 (vc67 hn) d9_ask_29 ?_
    replace h := wpo_some h
    exact r_iret F h d9_ask_32
  · replace h := wpo_neg h hb
    refine r_iload_n F 0 rfl rfl d9_ask_10 ?_
    replace h := wpo_some h
    exact r_iret F h d9_ask_11
theorem d9_leaves_0 : decode c9_leaves 0 = .ok (.aload_n 0, 1) := by decide +kernel
theorem d9_leaves_1 : decode c9_leaves 1 = .ok (.iload_n 1, 1) := by decide +kernel
theorem d9_leaves_2 : decode c9_leaves 2 = .ok (.invokevirtual 268, 3) := by decide +kernel
theorem d9_leaves_5 : decode c9_leaves 5 = .ok (.istore_n 2, 1) := by decide +kernel
theorem d9_leaves_6 : decode c9_leaves 6 = .ok (.iload_n 2, 1) := by decide +kernel
theorem d9_leaves_7 : decode c9_leaves 7 = .ok (.ifCond .eq 5, 3) := by decide +kernel
theorem d9_leaves_10 : decode c9_leaves 10 = .ok (.iload_n 2, 1) := by decide +kernel
theorem d9_leaves_11 : decode c9_leaves 11 = .ok (.ireturn, 1) := by decide +kernel
theorem d9_leaves_12 : decode c9_leaves 12 = .ok (.aload_n 0, 1) := by decide +kernel
theorem d9_leaves_13 : decode c9_leaves 13 = .ok (.getfield 82, 3) := by decide +kernel
theorem d9_leaves_16 : decode c9_leaves 16 = .ok (.aload_n 0, 1) := by decide +kernel
theorem d9_leaves_17 : decode c9_leaves 17 = .ok (.getfield 42, 3) := by decide +kernel
theorem d9_leaves_20 : decode c9_leaves 20 = .ok (.iload_n 1, 1) := by decide +kernel
theorem d9_leaves_21 : decode c9_leaves 21 = .ok (.aaload, 1) := by decide +kernel
theorem d9_leaves_22 : decode c9_leaves 22 = .ok (.invokevirtual 271, 3) := by decide +kernel
theorem d9_leaves_25 : decode c9_leaves 25 = .ok (.aload_n 0, 1) := by decide +kernel
theorem d9_leaves_26 : decode c9_leaves 26 = .ok (.getfield 82, 3) := by decide +kernel
theorem d9_leaves_29 : decode c9_leaves 29 = .ok (.getfield 286, 3) := by decide +kernel
theorem d9_leaves_32 : decode c9_leaves 32 = .ok (.ireturn, 1) := by decide +kernel
def f9_leaves (D : Mem) (p0 : Int) : Option (Int × Mem) :=
  Option.bind (f9_troubleOfTeeth D p0) fun (a1 : Int) =>
  if w32 a1 = 0 then
    if 0 ≤ p0 ∧ p0 < 4 then
      Option.bind (f6_question D (109 + 2 * p0.toNat)) fun (a2 : Mem) =>
      some ((a2 67 4), a2)
    else none
  else
    some (a1, D)
set_option maxHeartbeats 4000000 in
theorem ok9_leaves {l : Launch} {X : XT} {n : Nat} {D : Mem} {Q : Option Value → Nat → Rho → Mem → Prop} (hn : 117 ≤ n) {p0 : Int}  (h : wpo (f9_leaves D p0) (fun a => Q (some (vI a.1)) n rt a.2)) : MOK l y9_leaves c9_leaves 3 (some .int) { frames := 5, cells := 0, slots := 0, locals := 115 } 0 0 X [vR X 0, vI p0] n rt D Q := by
  refine MOK_of 9 (by decide +kernel) rfl (lv := [(0, vR X 0), (1, vI p0)]) (Nat.le_of_ble_eq_true rfl) rfl (fun K hK F hnm => ?_)
  subst hK
  unfold f9_leaves at h
  refine r_aload_nR F 0 rfl rfl d9_leaves_0 ?_
  refine r_iload_n F 1 rfl rfl d9_leaves_1 ?_
  replace h := wpo_bind h
  refine r_callV0 F lm9_268 mf9_troubleOfTeeth (vc0 hn) rfl (fr := 2) (lo := 42) (As := [vI p0]) (rest := []) ⟨Nat.le_of_ble_eq_true rfl, Nat.le_of_ble_eq_true rfl⟩ rfl (Nat.le_of_ble_eq_true rfl) ⟨Nat.zero_le _, Nat.zero_le _⟩ d9_leaves_2 ?_
  refine ok9_troubleOfTeeth hn  (kI h (fun a1 h => ?_))
  refine r_istore_n F (lv' := [(2, vI a1), (0, vR X 0), (1, vI p0)]) rfl (Nat.le_of_ble_eq_true rfl) rfl d9_leaves_5 ?_
  refine r_iload_n F 0 rfl rfl d9_leaves_6 ?_
  refine r_if_eq F (tgt := 12) d9_leaves_7 (by decide) (fun hb => ?_) (fun hb => ?_)
  · replace h := wpo_pos h hb
    refine r_aload_nR F 1 rfl rfl d9_leaves_12 ?_
    refine r_getR F (z := 67) lf9_82 (vc0 hn) z0_11 d9_leaves_13 ?_
    refine r_aload_nR F 1 rfl rfl d9_leaves_16 ?_
    refine r_getR F (z := 22) lf9_42 (vc0 hn) z0_5 d9_leaves_17 ?_
    refine r_iload_n F 2 rfl rfl d9_leaves_20 ?_
    obtain ⟨hx1, h⟩ := wpo_chk h
    refine r_aaldS F (z := (109 + 2 * p0.toNat)) (vc22 hn) hx1 (zs hx1) d9_leaves_21 ?_
    replace h := wpo_bind h
    refine r_callV0 F lm9_271 mf6_question (vc67 hn) rfl (fr := 4) (lo := 92) (As := [vR X (109 + 2 * p0.toNat)]) (rest := []) ⟨Nat.le_of_ble_eq_true rfl, Nat.le_of_ble_eq_true rfl⟩ rfl (Nat.le_of_ble_eq_true rfl) ⟨Nat.zero_le _, Nat.zero_le _⟩ d9_leaves_22 ?_
    refine ok6_question hn (vs hn hx1) (kVm h (fun a2 h => ?_))
    refine r_aload_nR F 1 rfl rfl d9_leaves_25 ?_
    refine r_getR F (z := 67) lf9_82 (vc0 hn) z0_11 d9_leaves_26 ?_
    refine r_getI F lf9_286 (vc67 hn) d9_leaves_29 ?_
    replace h := wpo_some h
    exact r_iret F h d9_leaves_32
  · replace h := wpo_neg h hb
    refine r_iload_n F 0 rfl rfl d9_leaves_10 ?_
    replace h := wpo_some h
    exact r_iret F h d9_leaves_11
theorem d1_fewest_0 : decode c1_fewest 0 = .ok (.iload_n 1, 1) := by decide +kernel
theorem d1_fewest_1 : decode c1_fewest 1 = .ok (.iload_n 1, 1) := by decide +kernel
theorem d1_fewest_2 : decode c1_fewest 2 = .ok (.ineg, 1) := by decide +kernel
theorem d1_fewest_3 : decode c1_fewest 3 = .ok (.iand, 1) := by decide +kernel
theorem d1_fewest_4 : decode c1_fewest 4 = .ok (.istore_n 2, 1) := by decide +kernel
theorem d1_fewest_5 : decode c1_fewest 5 = .ok (.iconst (-1), 1) := by decide +kernel
theorem d1_fewest_6 : decode c1_fewest 6 = .ok (.istore_n 3, 1) := by decide +kernel
theorem d1_fewest_7 : decode c1_fewest 7 = .ok (.aload_n 0, 1) := by decide +kernel
theorem d1_fewest_8 : decode c1_fewest 8 = .ok (.getfield 19, 3) := by decide +kernel
theorem d1_fewest_11 : decode c1_fewest 11 = .ok (.iload_n 1, 1) := by decide +kernel
theorem d1_fewest_12 : decode c1_fewest 12 = .ok (.iload_n 2, 1) := by decide +kernel
theorem d1_fewest_13 : decode c1_fewest 13 = .ok (.ixor, 1) := by decide +kernel
theorem d1_fewest_14 : decode c1_fewest 14 = .ok (.iaload, 1) := by decide +kernel
theorem d1_fewest_15 : decode c1_fewest 15 = .ok (.iconst (-1), 1) := by decide +kernel
theorem d1_fewest_16 : decode c1_fewest 16 = .ok (.if_icmp .ne 5, 3) := by decide +kernel
theorem d1_fewest_19 : decode c1_fewest 19 = .ok (.iconst (-1), 1) := by decide +kernel
theorem d1_fewest_20 : decode c1_fewest 20 = .ok (.ireturn, 1) := by decide +kernel
theorem d1_fewest_21 : decode c1_fewest 21 = .ok (.iload_n 1, 1) := by decide +kernel
theorem d1_fewest_22 : decode c1_fewest 22 = .ok (.istore 4, 2) := by decide +kernel
theorem d1_fewest_24 : decode c1_fewest 24 = .ok (.iload 4, 2) := by decide +kernel
theorem d1_fewest_26 : decode c1_fewest 26 = .ok (.ifCond .le 68, 3) := by decide +kernel
theorem d1_fewest_29 : decode c1_fewest 29 = .ok (.iload 4, 2) := by decide +kernel
theorem d1_fewest_31 : decode c1_fewest 31 = .ok (.iload_n 2, 1) := by decide +kernel
theorem d1_fewest_32 : decode c1_fewest 32 = .ok (.iand, 1) := by decide +kernel
theorem d1_fewest_33 : decode c1_fewest 33 = .ok (.ifCond .eq 50, 3) := by decide +kernel
theorem d1_fewest_36 : decode c1_fewest 36 = .ok (.aload_n 0, 1) := by decide +kernel
theorem d1_fewest_37 : decode c1_fewest 37 = .ok (.getfield 15, 3) := by decide +kernel
theorem d1_fewest_40 : decode c1_fewest 40 = .ok (.iload 4, 2) := by decide +kernel
theorem d1_fewest_42 : decode c1_fewest 42 = .ok (.iaload, 1) := by decide +kernel
theorem d1_fewest_43 : decode c1_fewest 43 = .ok (.aload_n 0, 1) := by decide +kernel
theorem d1_fewest_44 : decode c1_fewest 44 = .ok (.getfield 22, 3) := by decide +kernel
theorem d1_fewest_47 : decode c1_fewest 47 = .ok (.getfield 43, 3) := by decide +kernel
theorem d1_fewest_50 : decode c1_fewest 50 = .ok (.if_icmp .gt 33, 3) := by decide +kernel
theorem d1_fewest_53 : decode c1_fewest 53 = .ok (.iconst 1, 1) := by decide +kernel
theorem d1_fewest_54 : decode c1_fewest 54 = .ok (.aload_n 0, 1) := by decide +kernel
theorem d1_fewest_55 : decode c1_fewest 55 = .ok (.getfield 19, 3) := by decide +kernel
theorem d1_fewest_58 : decode c1_fewest 58 = .ok (.iload_n 1, 1) := by decide +kernel
theorem d1_fewest_59 : decode c1_fewest 59 = .ok (.iload 4, 2) := by decide +kernel
theorem d1_fewest_61 : decode c1_fewest 61 = .ok (.ixor, 1) := by decide +kernel
theorem d1_fewest_62 : decode c1_fewest 62 = .ok (.iaload, 1) := by decide +kernel
theorem d1_fewest_63 : decode c1_fewest 63 = .ok (.iadd, 1) := by decide +kernel
theorem d1_fewest_64 : decode c1_fewest 64 = .ok (.istore 5, 2) := by decide +kernel
theorem d1_fewest_66 : decode c1_fewest 66 = .ok (.iload_n 3, 1) := by decide +kernel
theorem d1_fewest_67 : decode c1_fewest 67 = .ok (.iconst (-1), 1) := by decide +kernel
theorem d1_fewest_68 : decode c1_fewest 68 = .ok (.if_icmp .ne 8, 3) := by decide +kernel
theorem d1_fewest_71 : decode c1_fewest 71 = .ok (.iload 5, 2) := by decide +kernel
theorem d1_fewest_73 : decode c1_fewest 73 = .ok (.goto 9, 3) := by decide +kernel
theorem d1_fewest_76 : decode c1_fewest 76 = .ok (.iload_n 3, 1) := by decide +kernel
theorem d1_fewest_77 : decode c1_fewest 77 = .ok (.iload 5, 2) := by decide +kernel
theorem d1_fewest_79 : decode c1_fewest 79 = .ok (.invokestatic 46, 3) := by decide +kernel
theorem d1_fewest_82 : decode c1_fewest 82 = .ok (.istore_n 3, 1) := by decide +kernel
theorem d1_fewest_83 : decode c1_fewest 83 = .ok (.iload 4, 2) := by decide +kernel
theorem d1_fewest_85 : decode c1_fewest 85 = .ok (.iconst 1, 1) := by decide +kernel
theorem d1_fewest_86 : decode c1_fewest 86 = .ok (.isub, 1) := by decide +kernel
theorem d1_fewest_87 : decode c1_fewest 87 = .ok (.iload_n 1, 1) := by decide +kernel
theorem d1_fewest_88 : decode c1_fewest 88 = .ok (.iand, 1) := by decide +kernel
theorem d1_fewest_89 : decode c1_fewest 89 = .ok (.istore 4, 2) := by decide +kernel
theorem d1_fewest_91 : decode c1_fewest 91 = .ok (.goto (-67), 3) := by decide +kernel
theorem d1_fewest_94 : decode c1_fewest 94 = .ok (.iload_n 3, 1) := by decide +kernel
theorem d1_fewest_95 : decode c1_fewest 95 = .ok (.ireturn, 1) := by decide +kernel
def f1_fewest (D : Mem) (p0 : Int) : Option (Int) :=
  if 0 ≤ (xor32 p0 (and32 p0 (-p0))) ∧ (xor32 p0 (and32 p0 (-p0))) < 256 then
    if w32 (D 66 (xor32 p0 (and32 p0 (-p0))).toNat) = w32 (-1) then
      some (-1)
    else
      Option.bind (@loop (Int × Int) (Int) (fun s1 =>
        if 0 < w32 s1.2 then
          Option.bind (
            if w32 (and32 s1.2 (and32 p0 (-p0))) = 0 then
              some s1.1
            else
              if 0 ≤ s1.2 ∧ s1.2 < 256 then
                if w32 (D 12 2) < w32 (D 65 s1.2.toNat) then
                  some s1.1
                else
                  if 0 ≤ (xor32 p0 s1.2) ∧ (xor32 p0 s1.2) < 256 then
                    Option.bind (some (1 + (D 66 (xor32 p0 s1.2).toNat))) fun (v1 : Int) =>
                    Option.bind (
                      if w32 s1.1 = w32 (-1) then
                        some v1
                      else
                        some (min32 s1.1 v1)
                    ) fun (j2 : Int) =>
                    some j2
                  else none
              else none
          ) fun (j1 : Int) =>
          some (Sum.inl (j1, (and32 (s1.2 - 1) p0)))
        else
          some (Sum.inr s1.1)
      ) FU ((-1), p0)) fun (b1 : Int) =>
      some b1
  else none
set_option maxHeartbeats 4000000 in
theorem ok1_fewest {l : Launch} {X : XT} {n : Nat} {D : Mem} {Q : Option Value → Nat → Rho → Mem → Prop} (hn : 117 ≤ n) {p0 : Int}  (h : wpo (f1_fewest D p0) (fun a => Q (some (vI a)) n rt D)) : MOK l y1_fewest c1_fewest 6 (some .int) { frames := 1, cells := 0, slots := 0, locals := 23 } 0 0 X [vR X 64, vI p0] n rt D Q := by
  refine MOK_of 1 (by decide +kernel) rfl (lv := [(0, vR X 64), (1, vI p0)]) (Nat.le_of_ble_eq_true rfl) rfl (fun K hK F hnm => ?_)
  subst hK
  unfold f1_fewest at h
  refine r_iload_n F 1 rfl rfl d1_fewest_0 ?_
  refine r_iload_n F 1 rfl rfl d1_fewest_1 ?_
  refine r_ineg F d1_fewest_2 ?_
  refine r_iand F d1_fewest_3 ?_
  refine r_istore_n F (lv' := [(2, vI (and32 p0 (-p0))), (0, vR X 64), (1, vI p0)]) rfl (Nat.le_of_ble_eq_true rfl) rfl d1_fewest_4 ?_
  refine r_iconst F (z := (-1)) d1_fewest_5 ?_
  refine r_istore_n F (lv' := [(3, vI (-1)), (2, vI (and32 p0 (-p0))), (0, vR X 64), (1, vI p0)]) rfl (Nat.le_of_ble_eq_true rfl) rfl d1_fewest_6 ?_
  refine r_aload_nR F 2 rfl rfl d1_fewest_7 ?_
  refine r_getR F (z := 66) lf1_19 (vc64 hn) z64_3 d1_fewest_8 ?_
  refine r_iload_n F 3 rfl rfl d1_fewest_11 ?_
  refine r_iload_n F 1 rfl rfl d1_fewest_12 ?_
  refine r_ixor F d1_fewest_13 ?_
  obtain ⟨hx1, h⟩ := wpo_chk h
  refine r_iald F (vc66 hn) hx1 d1_fewest_14 ?_
  refine r_iconst F (z := (-1)) d1_fewest_15 ?_
  refine r_icmp_ne F (tgt := 21) d1_fewest_16 (by decide) (fun hb => ?_) (fun hb => ?_)
  · replace h := wpo_neg h hb
    refine r_iload_n F 3 rfl rfl d1_fewest_21 ?_
    refine r_istore F (lv' := [(4, vI p0), (3, vI (-1)), (2, vI (and32 p0 (-p0))), (0, vR X 64), (1, vI p0)]) (Nat.le_of_ble_eq_true rfl) rfl d1_fewest_22 ?_
    refine r_weak [3, 4, 2, 1, 0] rfl ?_
    refine at_loopj (A := fun (s1 : Int × Int) => At K X (ZQ K X Q) 0 0 n rt 6 24 [(0, vR X 64), (1, vI p0), (2, vI (and32 p0 (-p0))), (3, vI s1.1), (4, vI s1.2)] [] D) (B := fun (b1 : Int) => At K X (ZQ K X Q) 0 0 n rt 6 94 [(3, vI b1)] [] D) h (fun b1 h => ?_) (fun s1 h => ?_)
    · refine r_iload_n F 0 rfl rfl d1_fewest_94 ?_
      replace h := wpo_some h
      exact r_iret F h d1_fewest_95
    · refine r_iload F 4 rfl d1_fewest_24 ?_
      refine r_if_le F (tgt := 94) d1_fewest_26 (by decide) (fun hb => ?_) (fun hb => ?_)
      · replace h := wpo_neg h hb
        refine r_weak [3] rfl ?_
        replace h := wpo_inr h
        exact h
      · replace h := wpo_pos h hb
        refine r_iload F 4 rfl d1_fewest_29 ?_
        refine r_iload_n F 2 rfl rfl d1_fewest_31 ?_
        refine r_iand F d1_fewest_32 ?_
        refine at_join (B := fun (j1 : Int) => At K X (ZQ K X Q) 0 0 n rt 6 83 [(0, vR X 64), (1, vI p0), (2, vI (and32 p0 (-p0))), (3, vI j1), (4, vI s1.2)] [] D) h (fun j1 h => ?_) (fun h => ?_)
        · refine r_iload F 4 rfl d1_fewest_83 ?_
          refine r_iconst F (z := 1) d1_fewest_85 ?_
          refine r_isub F d1_fewest_86 ?_
          refine r_iload_n F 1 rfl rfl d1_fewest_87 ?_
          refine r_iand F d1_fewest_88 ?_
          refine r_istore F (lv' := [(4, vI (and32 (s1.2 - 1) p0)), (0, vR X 64), (1, vI p0), (2, vI (and32 p0 (-p0))), (3, vI j1)]) (Nat.le_of_ble_eq_true rfl) rfl d1_fewest_89 ?_
          refine r_goto F (tgt := 24) (by decide) d1_fewest_91 ?_
          refine r_weak [1, 2, 3, 4, 0] rfl ?_
          replace h := wpo_inl h
          exact h
        · refine r_if_eq F (tgt := 83) d1_fewest_33 (by decide) (fun hb => ?_) (fun hb => ?_)
          · replace h := wpo_pos h hb
            replace h := wpo_some h
            exact h
          · replace h := wpo_neg h hb
            refine r_aload_nR F 0 rfl rfl d1_fewest_36 ?_
            refine r_getR F (z := 65) lf1_15 (vc64 hn) z64_2 d1_fewest_37 ?_
            refine r_iload F 4 rfl d1_fewest_40 ?_
            obtain ⟨hx2, h⟩ := wpo_chk h
            refine r_iald F (vc65 hn) hx2 d1_fewest_42 ?_
            refine r_aload_nR F 0 rfl rfl d1_fewest_43 ?_
            refine r_getR F (z := 12) lf1_22 (vc64 hn) z64_0 d1_fewest_44 ?_
            refine r_getI F lf1_43 (vc12 hn) d1_fewest_47 ?_
            refine r_icmp_gt F (tgt := 83) d1_fewest_50 (by decide) (fun hb => ?_) (fun hb => ?_)
            · replace h := wpo_pos h hb
              replace h := wpo_some h
              exact h
            · replace h := wpo_neg h hb
              refine r_iconst F (z := 1) d1_fewest_53 ?_
              refine r_aload_nR F 0 rfl rfl d1_fewest_54 ?_
              refine r_getR F (z := 66) lf1_19 (vc64 hn) z64_3 d1_fewest_55 ?_
              refine r_iload_n F 1 rfl rfl d1_fewest_58 ?_
              refine r_iload F 4 rfl d1_fewest_59 ?_
              refine r_ixor F d1_fewest_61 ?_
              obtain ⟨hx3, h⟩ := wpo_chk h
              refine r_iald F (vc66 hn) hx3 d1_fewest_62 ?_
              refine r_iadd F d1_fewest_63 ?_
              refine r_istore F (lv' := [(5, vI (1 + (D 66 (xor32 p0 s1.2).toNat))), (0, vR X 64), (1, vI p0), (2, vI (and32 p0 (-p0))), (3, vI s1.1), (4, vI s1.2)]) (Nat.le_of_ble_eq_true rfl) rfl d1_fewest_64 ?_
              refine at_name (B := fun (v1 : Int) => At K X (ZQ K X Q) 0 0 n rt 6 66 [(5, vI v1), (0, vR X 64), (1, vI p0), (2, vI (and32 p0 (-p0))), (3, vI s1.1), (4, vI s1.2)] [] D) h (fun v1 h => ?_)
              refine r_iload_n F 4 rfl rfl d1_fewest_66 ?_
              refine r_iconst F (z := (-1)) d1_fewest_67 ?_
              refine at_join (B := fun (j2 : Int) => At K X (ZQ K X Q) 0 0 n rt 6 82 [(0, vR X 64), (1, vI p0), (2, vI (and32 p0 (-p0))), (4, vI s1.2)] [vI j2] D) h (fun j2 h => ?_) (fun h => ?_)
              · refine r_istore_n F (lv' := [(3, vI j2), (0, vR X 64), (1, vI p0), (2, vI (and32 p0 (-p0))), (4, vI s1.2)]) rfl (Nat.le_of_ble_eq_true rfl) rfl d1_fewest_82 ?_
                refine r_weak [1, 2, 3, 0, 4] rfl ?_
                replace h := wpo_some h
                exact h
              · refine r_icmp_ne F (tgt := 76) d1_fewest_68 (by decide) (fun hb => ?_) (fun hb => ?_)
                · replace h := wpo_neg h hb
                  refine r_iload_n F 4 rfl rfl d1_fewest_76 ?_
                  refine r_iload F 0 rfl d1_fewest_77 ?_
                  refine r_min F lm1_46 wm3 wm0 wm4 ⟨Nat.le_of_ble_eq_true rfl, Nat.le_of_ble_eq_true rfl, Nat.le_of_ble_eq_true rfl, Nat.le_of_ble_eq_true rfl⟩ d1_fewest_79 ?_
                  refine r_weak [1, 2, 3, 5] rfl ?_
                  replace h := wpo_some h
                  exact h
                · replace h := wpo_pos h hb
                  refine r_iload F 0 rfl d1_fewest_71 ?_
                  refine r_goto F (tgt := 82) (by decide) d1_fewest_73 ?_
                  refine r_weak [1, 2, 3, 5] rfl ?_
                  replace h := wpo_some h
                  exact h
  · replace h := wpo_pos h hb
    refine r_iconst F (z := (-1)) d1_fewest_19 ?_
    replace h := wpo_some h
    exact r_iret F h d1_fewest_20
theorem d1_work_0 : decode c1_work 0 = .ok (.aload_n 0, 1) := by decide +kernel
theorem d1_work_1 : decode c1_work 1 = .ok (.getfield 9, 3) := by decide +kernel
theorem d1_work_4 : decode c1_work 4 = .ok (.ifCond .eq 4, 3) := by decide +kernel
theorem d1_work_7 : decode c1_work 7 = .ok (.return_, 1) := by decide +kernel
theorem d1_work_8 : decode c1_work 8 = .ok (.aload_n 0, 1) := by decide +kernel
theorem d1_work_9 : decode c1_work 9 = .ok (.getfield 22, 3) := by decide +kernel
theorem d1_work_12 : decode c1_work 12 = .ok (.getfield 26, 3) := by decide +kernel
theorem d1_work_15 : decode c1_work 15 = .ok (.aload_n 0, 1) := by decide +kernel
theorem d1_work_16 : decode c1_work 16 = .ok (.getfield 22, 3) := by decide +kernel
theorem d1_work_19 : decode c1_work 19 = .ok (.getfield 31, 3) := by decide +kernel
theorem d1_work_22 : decode c1_work 22 = .ok (.aload_n 0, 1) := by decide +kernel
theorem d1_work_23 : decode c1_work 23 = .ok (.getfield 15, 3) := by decide +kernel
theorem d1_work_26 : decode c1_work 26 = .ok (.invokestatic 35, 3) := by decide +kernel
theorem d1_work_29 : decode c1_work 29 = .ok (.iconst 1, 1) := by decide +kernel
theorem d1_work_30 : decode c1_work 30 = .ok (.aload_n 0, 1) := by decide +kernel
theorem d1_work_31 : decode c1_work 31 = .ok (.getfield 22, 3) := by decide +kernel
theorem d1_work_34 : decode c1_work 34 = .ok (.getfield 31, 3) := by decide +kernel
theorem d1_work_37 : decode c1_work 37 = .ok (.ishl, 1) := by decide +kernel
theorem d1_work_38 : decode c1_work 38 = .ok (.istore_n 1, 1) := by decide +kernel
theorem d1_work_39 : decode c1_work 39 = .ok (.aload_n 0, 1) := by decide +kernel
theorem d1_work_40 : decode c1_work 40 = .ok (.getfield 19, 3) := by decide +kernel
theorem d1_work_43 : decode c1_work 43 = .ok (.iconst 0, 1) := by decide +kernel
theorem d1_work_44 : decode c1_work 44 = .ok (.iconst 0, 1) := by decide +kernel
theorem d1_work_45 : decode c1_work 45 = .ok (.iastore, 1) := by decide +kernel
theorem d1_work_46 : decode c1_work 46 = .ok (.iconst 1, 1) := by decide +kernel
theorem d1_work_47 : decode c1_work 47 = .ok (.istore_n 2, 1) := by decide +kernel
theorem d1_work_48 : decode c1_work 48 = .ok (.iload_n 2, 1) := by decide +kernel
theorem d1_work_49 : decode c1_work 49 = .ok (.iload_n 1, 1) := by decide +kernel
theorem d1_work_50 : decode c1_work 50 = .ok (.if_icmp .ge 20, 3) := by decide +kernel
theorem d1_work_53 : decode c1_work 53 = .ok (.aload_n 0, 1) := by decide +kernel
theorem d1_work_54 : decode c1_work 54 = .ok (.getfield 19, 3) := by decide +kernel
theorem d1_work_57 : decode c1_work 57 = .ok (.iload_n 2, 1) := by decide +kernel
theorem d1_work_58 : decode c1_work 58 = .ok (.aload_n 0, 1) := by decide +kernel
theorem d1_work_59 : decode c1_work 59 = .ok (.iload_n 2, 1) := by decide +kernel
theorem d1_work_60 : decode c1_work 60 = .ok (.invokevirtual 39, 3) := by decide +kernel
theorem d1_work_63 : decode c1_work 63 = .ok (.iastore, 1) := by decide +kernel
theorem d1_work_64 : decode c1_work 64 = .ok (.iinc 2 1, 3) := by decide +kernel
theorem d1_work_67 : decode c1_work 67 = .ok (.goto (-19), 3) := by decide +kernel
theorem d1_work_70 : decode c1_work 70 = .ok (.aload_n 0, 1) := by decide +kernel
theorem d1_work_71 : decode c1_work 71 = .ok (.iconst 1, 1) := by decide +kernel
theorem d1_work_72 : decode c1_work 72 = .ok (.putfield 9, 3) := by decide +kernel
theorem d1_work_75 : decode c1_work 75 = .ok (.return_, 1) := by decide +kernel
def f1_work (D : Mem) : Option (Mem) :=
  if w32 (D 64 1) = 0 then
    Option.bind (f9_sumBySets D 13 (D 12 8) 65) fun (a1 : Mem) =>
    Option.bind (some (shl32 1 (a1 12 8))) fun (v1 : Int) =>
    Option.bind (some (mset a1 66 0 0)) fun (D1 : Mem) =>
    Option.bind (@loop (Int × Mem) (Mem) (fun s1 =>
      if w32 s1.1 < w32 v1 then
        Option.bind (f1_fewest s1.2 s1.1) fun (a2 : Int) =>
        if 0 ≤ s1.1 ∧ s1.1 < 256 then
          some (Sum.inl ((s1.1 + 1), (mset s1.2 66 s1.1.toNat a2)))
        else none
      else
        some (Sum.inr s1.2)
    ) FU (1, D1)) fun (b1 : Mem) =>
    some (mset b1 64 1 1)
  else
    some D
set_option maxHeartbeats 4000000 in
theorem ok1_work {l : Launch} {X : XT} {n : Nat} {D : Mem} {Q : Option Value → Nat → Rho → Mem → Prop} (hn : 117 ≤ n)  (h : wpo (f1_work D) (fun a => Q none n rt a)) : MOK l y1_work c1_work 3 (none) { frames := 2, cells := 0, slots := 0, locals := 48 } 0 0 X [vR X 64] n rt D Q := by
  refine MOK_of 1 (by decide +kernel) rfl (lv := [(0, vR X 64)]) (Nat.le_of_ble_eq_true rfl) rfl (fun K hK F hnm => ?_)
  subst hK
  unfold f1_work at h
  refine r_aload_nR F 0 rfl rfl d1_work_0 ?_
  refine r_getI F lf1_9 (vc64 hn) d1_work_1 ?_
  refine r_if_eq F (tgt := 8) d1_work_4 (by decide) (fun hb => ?_) (fun hb => ?_)
  · replace h := wpo_pos h hb
    refine r_aload_nR F 0 rfl rfl d1_work_8 ?_
    refine r_getR F (z := 12) lf1_22 (vc64 hn) z64_0 d1_work_9 ?_
    refine r_getR F (z := 13) lf1_26 (vc12 hn) z12_10 d1_work_12 ?_
    refine r_aload_nR F 0 rfl rfl d1_work_15 ?_
    refine r_getR F (z := 12) lf1_22 (vc64 hn) z64_0 d1_work_16 ?_
    refine r_getI F lf1_31 (vc12 hn) d1_work_19 ?_
    refine r_aload_nR F 0 rfl rfl d1_work_22 ?_
    refine r_getR F (z := 65) lf1_15 (vc64 hn) z64_2 d1_work_23 ?_
    replace h := wpo_bind h
    refine r_callS0 F lm1_35 mf9_sumBySets rfl (fr := 0) (lo := 0) (As := [vR X 13, vI (D 12 8), vR X 65]) (rest := []) ⟨Nat.le_of_ble_eq_true rfl, Nat.le_of_ble_eq_true rfl⟩ rfl (Nat.le_of_ble_eq_true rfl) ⟨Nat.zero_le _, Nat.zero_le _⟩ d1_work_26 ?_
    refine ok9_sumBySets hn (vc13 hn) (vc65 hn) (kVm h (fun a1 h => ?_))
    refine r_iconst F (z := 1) d1_work_29 ?_
    refine r_aload_nR F 0 rfl rfl d1_work_30 ?_
    refine r_getR F (z := 12) lf1_22 (vc64 hn) z64_0 d1_work_31 ?_
    refine r_getI F lf1_31 (vc12 hn) d1_work_34 ?_
    refine r_ishl F d1_work_37 ?_
    refine r_istore_n F (lv' := [(1, vI (shl32 1 (a1 12 8))), (0, vR X 64)]) rfl (Nat.le_of_ble_eq_true rfl) rfl d1_work_38 ?_
    refine at_name (B := fun (v1 : Int) => At K X (ZQ K X Q) 0 0 n rt 3 39 [(1, vI v1), (0, vR X 64)] [] a1) h (fun v1 h => ?_)
    refine r_aload_nR F 1 rfl rfl d1_work_39 ?_
    refine r_getR F (z := 66) lf1_19 (vc64 hn) z64_3 d1_work_40 ?_
    refine r_iconst F (z := 0) d1_work_43 ?_
    refine r_iconst F (z := 0) d1_work_44 ?_
    refine r_iastC F (j := 0) (vc66 hn) (by decide) rfl d1_work_45 ?_
    refine r_iconst F (z := 1) d1_work_46 ?_
    refine r_istore_n F (lv' := [(2, vI 1), (1, vI v1), (0, vR X 64)]) rfl (Nat.le_of_ble_eq_true rfl) rfl d1_work_47 ?_
    refine at_name (B := fun (D1 : Mem) => At K X (ZQ K X Q) 0 0 n rt 3 48 [(2, vI 1), (1, vI v1), (0, vR X 64)] [] D1) h (fun D1 h => ?_)
    refine r_weak [2, 1, 0] rfl ?_
    refine at_loopj (A := fun (s1 : Int × Mem) => At K X (ZQ K X Q) 0 0 n rt 3 48 [(0, vR X 64), (1, vI v1), (2, vI s1.1)] [] s1.2) (B := fun (b1 : Mem) => At K X (ZQ K X Q) 0 0 n rt 3 70 [(0, vR X 64)] [] b1) h (fun b1 h => ?_) (fun s1 h => ?_)
    · refine r_aload_nR F 0 rfl rfl d1_work_70 ?_
      refine r_iconst F (z := 1) d1_work_71 ?_
      refine r_putZ F (Or.inr rfl) lf1_9 rfl rfl (vc64 hn) d1_work_72 ?_
      replace h := wpo_some h
      exact r_vret F h d1_work_75
    · refine r_iload_n F 2 rfl rfl d1_work_48 ?_
      refine r_iload_n F 1 rfl rfl d1_work_49 ?_
      refine r_icmp_ge F (tgt := 70) d1_work_50 (by decide) (fun hb => ?_) (fun hb => ?_)
      · replace h := wpo_neg h hb
        refine r_weak [0] rfl ?_
        replace h := wpo_inr h
        exact h
      · replace h := wpo_pos h hb
        refine r_aload_nR F 0 rfl rfl d1_work_53 ?_
        refine r_getR F (z := 66) lf1_19 (vc64 hn) z64_3 d1_work_54 ?_
        refine r_iload_n F 2 rfl rfl d1_work_57 ?_
        refine r_aload_nR F 0 rfl rfl d1_work_58 ?_
        refine r_iload_n F 2 rfl rfl d1_work_59 ?_
        replace h := wpo_bind h
        refine r_callV0 F lm1_39 mf1_fewest (vc64 hn) rfl (fr := 1) (lo := 23) (As := [vI s1.1]) (rest := [vI s1.1, vR X 66]) ⟨Nat.le_of_ble_eq_true rfl, Nat.le_of_ble_eq_true rfl⟩ rfl (Nat.le_of_ble_eq_true rfl) ⟨Nat.zero_le _, Nat.zero_le _⟩ d1_work_60 ?_
        refine ok1_fewest hn  (kI h (fun a2 h => ?_))
        obtain ⟨hx1, h⟩ := wpo_chk h
        refine r_iast F (vc66 hn) hx1 d1_work_63 ?_
        refine r_iinc F 2 (lv' := [(2, vI (s1.1 + 1)), (0, vR X 64), (1, vI v1)]) rfl (Nat.le_of_ble_eq_true rfl) rfl d1_work_64 ?_
        refine r_goto F (tgt := 48) (by decide) d1_work_67 ?_
        refine r_weak [1, 2, 0] rfl ?_
        replace h := wpo_inl h
        exact h
  · replace h := wpo_neg h hb
    replace h := wpo_some h
    exact r_vret F h d1_work_7
theorem d9_nights_0 : decode c9_nights 0 = .ok (.aload_n 0, 1) := by decide +kernel
theorem d9_nights_1 : decode c9_nights 1 = .ok (.iload_n 1, 1) := by decide +kernel
theorem d9_nights_2 : decode c9_nights 2 = .ok (.invokevirtual 261, 3) := by decide +kernel
theorem d9_nights_5 : decode c9_nights 5 = .ok (.ifCond .ne 6, 3) := by decide +kernel
theorem d9_nights_8 : decode c9_nights 8 = .ok (.bipush (-2), 2) := by decide +kernel
theorem d9_nights_10 : decode c9_nights 10 = .ok (.ireturn, 1) := by decide +kernel
theorem d9_nights_11 : decode c9_nights 11 = .ok (.aload_n 0, 1) := by decide +kernel
theorem d9_nights_12 : decode c9_nights 12 = .ok (.getfield 75, 3) := by decide +kernel
theorem d9_nights_15 : decode c9_nights 15 = .ok (.invokevirtual 289, 3) := by decide +kernel
theorem d9_nights_18 : decode c9_nights 18 = .ok (.aload_n 0, 1) := by decide +kernel
theorem d9_nights_19 : decode c9_nights 19 = .ok (.getfield 75, 3) := by decide +kernel
theorem d9_nights_22 : decode c9_nights 22 = .ok (.getfield 290, 3) := by decide +kernel
theorem d9_nights_25 : decode c9_nights 25 = .ok (.iload_n 1, 1) := by decide +kernel
theorem d9_nights_26 : decode c9_nights 26 = .ok (.iaload, 1) := by decide +kernel
theorem d9_nights_27 : decode c9_nights 27 = .ok (.ireturn, 1) := by decide +kernel
def f9_nights (D : Mem) (p0 : Int) : Option (Int × Mem) :=
  Option.bind (f9_isSet D p0) fun (a1 : Int) =>
  if w32 a1 = 0 then
    some ((-2), D)
  else
    Option.bind (f1_work D) fun (a2 : Mem) =>
    if 0 ≤ p0 ∧ p0 < 256 then
      some ((a2 66 p0.toNat), a2)
    else none
set_option maxHeartbeats 4000000 in
theorem ok9_nights {l : Launch} {X : XT} {n : Nat} {D : Mem} {Q : Option Value → Nat → Rho → Mem → Prop} (hn : 117 ≤ n) {p0 : Int}  (h : wpo (f9_nights D p0) (fun a => Q (some (vI a.1)) n rt a.2)) : MOK l y9_nights c9_nights 2 (some .int) { frames := 3, cells := 0, slots := 0, locals := 70 } 0 0 X [vR X 0, vI p0] n rt D Q := by
  refine MOK_of 9 (by decide +kernel) rfl (lv := [(0, vR X 0), (1, vI p0)]) (Nat.le_of_ble_eq_true rfl) rfl (fun K hK F hnm => ?_)
  subst hK
  unfold f9_nights at h
  refine r_aload_nR F 0 rfl rfl d9_nights_0 ?_
  refine r_iload_n F 1 rfl rfl d9_nights_1 ?_
  replace h := wpo_bind h
  refine r_callV0 F lm9_261 mf9_isSet (vc0 hn) rfl (fr := 1) (lo := 20) (As := [vI p0]) (rest := []) ⟨Nat.le_of_ble_eq_true rfl, Nat.le_of_ble_eq_true rfl⟩ rfl (Nat.le_of_ble_eq_true rfl) ⟨Nat.zero_le _, Nat.zero_le _⟩ d9_nights_2 ?_
  refine ok9_isSet hn  (kI h (fun a1 h => ?_))
  refine r_if_ne F (tgt := 11) d9_nights_5 (by decide) (fun hb => ?_) (fun hb => ?_)
  · replace h := wpo_neg h hb
    refine r_aload_nR F 0 rfl rfl d9_nights_11 ?_
    refine r_getR F (z := 64) lf9_75 (vc0 hn) z0_10 d9_nights_12 ?_
    replace h := wpo_bind h
    refine r_callV0 F lm9_289 mf1_work (vc64 hn) rfl (fr := 2) (lo := 48) (As := []) (rest := []) ⟨Nat.le_of_ble_eq_true rfl, Nat.le_of_ble_eq_true rfl⟩ rfl (Nat.le_of_ble_eq_true rfl) ⟨Nat.zero_le _, Nat.zero_le _⟩ d9_nights_15 ?_
    refine ok1_work hn  (kVm h (fun a2 h => ?_))
    refine r_aload_nR F 0 rfl rfl d9_nights_18 ?_
    refine r_getR F (z := 64) lf9_75 (vc0 hn) z0_10 d9_nights_19 ?_
    refine r_getR F (z := 66) lf9_290 (vc64 hn) z64_3 d9_nights_22 ?_
    refine r_iload_n F 1 rfl rfl d9_nights_25 ?_
    obtain ⟨hx1, h⟩ := wpo_chk h
    refine r_iald F (vc66 hn) hx1 d9_nights_26 ?_
    replace h := wpo_some h
    exact r_iret F h d9_nights_27
  · replace h := wpo_pos h hb
    refine r_bipush F (z := (-2)) (by decide) d9_nights_8 ?_
    replace h := wpo_some h
    exact r_iret F h d9_nights_10
theorem d1_costOf_0 : decode c1_costOf 0 = .ok (.aload_n 0, 1) := by decide +kernel
theorem d1_costOf_1 : decode c1_costOf 1 = .ok (.getfield 19, 3) := by decide +kernel
theorem d1_costOf_4 : decode c1_costOf 4 = .ok (.iload_n 1, 1) := by decide +kernel
theorem d1_costOf_5 : decode c1_costOf 5 = .ok (.iaload, 1) := by decide +kernel
theorem d1_costOf_6 : decode c1_costOf 6 = .ok (.iconst (-1), 1) := by decide +kernel
theorem d1_costOf_7 : decode c1_costOf 7 = .ok (.if_icmp .ne 7, 3) := by decide +kernel
theorem d1_costOf_10 : decode c1_costOf 10 = .ok (.iconst (-1), 1) := by decide +kernel
theorem d1_costOf_11 : decode c1_costOf 11 = .ok (.goto 17, 3) := by decide +kernel
theorem d1_costOf_14 : decode c1_costOf 14 = .ok (.aload_n 0, 1) := by decide +kernel
theorem d1_costOf_15 : decode c1_costOf 15 = .ok (.getfield 22, 3) := by decide +kernel
theorem d1_costOf_18 : decode c1_costOf 18 = .ok (.getfield 52, 3) := by decide +kernel
theorem d1_costOf_21 : decode c1_costOf 21 = .ok (.aload_n 0, 1) := by decide +kernel
theorem d1_costOf_22 : decode c1_costOf 22 = .ok (.getfield 19, 3) := by decide +kernel
theorem d1_costOf_25 : decode c1_costOf 25 = .ok (.iload_n 1, 1) := by decide +kernel
theorem d1_costOf_26 : decode c1_costOf 26 = .ok (.iaload, 1) := by decide +kernel
theorem d1_costOf_27 : decode c1_costOf 27 = .ok (.imul, 1) := by decide +kernel
theorem d1_costOf_28 : decode c1_costOf 28 = .ok (.ireturn, 1) := by decide +kernel
def f1_costOf (D : Mem) (p0 : Int) : Option (Int) :=
  if 0 ≤ p0 ∧ p0 < 256 then
    if w32 (D 66 p0.toNat) = w32 (-1) then
      some (-1)
    else
      some ((D 12 6) * (D 66 p0.toNat))
  else none
set_option maxHeartbeats 4000000 in
theorem ok1_costOf {l : Launch} {X : XT} {n : Nat} {D : Mem} {Q : Option Value → Nat → Rho → Mem → Prop} (hn : 117 ≤ n) {p0 : Int}  (h : wpo (f1_costOf D p0) (fun a => Q (some (vI a)) n rt D)) : MOK l y1_costOf c1_costOf 2 (some .int) { frames := 0, cells := 0, slots := 0, locals := 0 } 0 0 X [vR X 64, vI p0] n rt D Q := by
  refine MOK_of 1 (by decide +kernel) rfl (lv := [(0, vR X 64), (1, vI p0)]) (Nat.le_of_ble_eq_true rfl) rfl (fun K hK F hnm => ?_)
  subst hK
  unfold f1_costOf at h
  refine r_aload_nR F 0 rfl rfl d1_costOf_0 ?_
  refine r_getR F (z := 66) lf1_19 (vc64 hn) z64_3 d1_costOf_1 ?_
  refine r_iload_n F 1 rfl rfl d1_costOf_4 ?_
  obtain ⟨hx1, h⟩ := wpo_chk h
  refine r_iald F (vc66 hn) hx1 d1_costOf_5 ?_
  refine r_iconst F (z := (-1)) d1_costOf_6 ?_
  refine r_icmp_ne F (tgt := 14) d1_costOf_7 (by decide) (fun hb => ?_) (fun hb => ?_)
  · replace h := wpo_neg h hb
    refine r_aload_nR F 0 rfl rfl d1_costOf_14 ?_
    refine r_getR F (z := 12) lf1_22 (vc64 hn) z64_0 d1_costOf_15 ?_
    refine r_getI F lf1_52 (vc12 hn) d1_costOf_18 ?_
    refine r_aload_nR F 0 rfl rfl d1_costOf_21 ?_
    refine r_getR F (z := 66) lf1_19 (vc64 hn) z64_3 d1_costOf_22 ?_
    refine r_iload_n F 1 rfl rfl d1_costOf_25 ?_
    refine r_iald F (vc66 hn) hx1 d1_costOf_26 ?_
    refine r_imul F d1_costOf_27 ?_
    replace h := wpo_some h
    exact r_iret F h d1_costOf_28
  · replace h := wpo_pos h hb
    refine r_iconst F (z := (-1)) d1_costOf_10 ?_
    refine r_goto F (tgt := 28) (by decide) d1_costOf_11 ?_
    replace h := wpo_some h
    exact r_iret F h d1_costOf_28
theorem d9_costs_0 : decode c9_costs 0 = .ok (.aload_n 0, 1) := by decide +kernel
theorem d9_costs_1 : decode c9_costs 1 = .ok (.iload_n 1, 1) := by decide +kernel
theorem d9_costs_2 : decode c9_costs 2 = .ok (.invokevirtual 261, 3) := by decide +kernel
theorem d9_costs_5 : decode c9_costs 5 = .ok (.ifCond .ne 6, 3) := by decide +kernel
theorem d9_costs_8 : decode c9_costs 8 = .ok (.bipush (-2), 2) := by decide +kernel
theorem d9_costs_10 : decode c9_costs 10 = .ok (.ireturn, 1) := by decide +kernel
theorem d9_costs_11 : decode c9_costs 11 = .ok (.aload_n 0, 1) := by decide +kernel
theorem d9_costs_12 : decode c9_costs 12 = .ok (.getfield 75, 3) := by decide +kernel
theorem d9_costs_15 : decode c9_costs 15 = .ok (.invokevirtual 289, 3) := by decide +kernel
theorem d9_costs_18 : decode c9_costs 18 = .ok (.aload_n 0, 1) := by decide +kernel
theorem d9_costs_19 : decode c9_costs 19 = .ok (.getfield 75, 3) := by decide +kernel
theorem d9_costs_22 : decode c9_costs 22 = .ok (.iload_n 1, 1) := by decide +kernel
theorem d9_costs_23 : decode c9_costs 23 = .ok (.invokevirtual 292, 3) := by decide +kernel
theorem d9_costs_26 : decode c9_costs 26 = .ok (.ireturn, 1) := by decide +kernel
def f9_costs (D : Mem) (p0 : Int) : Option (Int × Mem) :=
  Option.bind (f9_isSet D p0) fun (a1 : Int) =>
  if w32 a1 = 0 then
    some ((-2), D)
  else
    Option.bind (f1_work D) fun (a2 : Mem) =>
    Option.bind (f1_costOf a2 p0) fun (a3 : Int) =>
    some (a3, a2)
set_option maxHeartbeats 4000000 in
theorem ok9_costs {l : Launch} {X : XT} {n : Nat} {D : Mem} {Q : Option Value → Nat → Rho → Mem → Prop} (hn : 117 ≤ n) {p0 : Int}  (h : wpo (f9_costs D p0) (fun a => Q (some (vI a.1)) n rt a.2)) : MOK l y9_costs c9_costs 2 (some .int) { frames := 3, cells := 0, slots := 0, locals := 70 } 0 0 X [vR X 0, vI p0] n rt D Q := by
  refine MOK_of 9 (by decide +kernel) rfl (lv := [(0, vR X 0), (1, vI p0)]) (Nat.le_of_ble_eq_true rfl) rfl (fun K hK F hnm => ?_)
  subst hK
  unfold f9_costs at h
  refine r_aload_nR F 0 rfl rfl d9_costs_0 ?_
  refine r_iload_n F 1 rfl rfl d9_costs_1 ?_
  replace h := wpo_bind h
  refine r_callV0 F lm9_261 mf9_isSet (vc0 hn) rfl (fr := 1) (lo := 20) (As := [vI p0]) (rest := []) ⟨Nat.le_of_ble_eq_true rfl, Nat.le_of_ble_eq_true rfl⟩ rfl (Nat.le_of_ble_eq_true rfl) ⟨Nat.zero_le _, Nat.zero_le _⟩ d9_costs_2 ?_
  refine ok9_isSet hn  (kI h (fun a1 h => ?_))
  refine r_if_ne F (tgt := 11) d9_costs_5 (by decide) (fun hb => ?_) (fun hb => ?_)
  · replace h := wpo_neg h hb
    refine r_aload_nR F 0 rfl rfl d9_costs_11 ?_
    refine r_getR F (z := 64) lf9_75 (vc0 hn) z0_10 d9_costs_12 ?_
    replace h := wpo_bind h
    refine r_callV0 F lm9_289 mf1_work (vc64 hn) rfl (fr := 2) (lo := 48) (As := []) (rest := []) ⟨Nat.le_of_ble_eq_true rfl, Nat.le_of_ble_eq_true rfl⟩ rfl (Nat.le_of_ble_eq_true rfl) ⟨Nat.zero_le _, Nat.zero_le _⟩ d9_costs_15 ?_
    refine ok1_work hn  (kVm h (fun a2 h => ?_))
    refine r_aload_nR F 0 rfl rfl d9_costs_18 ?_
    refine r_getR F (z := 64) lf9_75 (vc0 hn) z0_10 d9_costs_19 ?_
    refine r_iload_n F 1 rfl rfl d9_costs_22 ?_
    replace h := wpo_bind h
    refine r_callV0 F lm9_292 mf1_costOf (vc64 hn) rfl (fr := 0) (lo := 0) (As := [vI p0]) (rest := []) ⟨Nat.le_of_ble_eq_true rfl, Nat.le_of_ble_eq_true rfl⟩ rfl (Nat.le_of_ble_eq_true rfl) ⟨Nat.zero_le _, Nat.zero_le _⟩ d9_costs_23 ?_
    refine ok1_costOf hn  (kI h (fun a3 h => ?_))
    replace h := wpo_some h
    exact r_iret F h d9_costs_26
  · replace h := wpo_pos h hb
    refine r_bipush F (z := (-2)) (by decide) d9_costs_8 ?_
    replace h := wpo_some h
    exact r_iret F h d9_costs_10
theorem d9_troubleOfShares_0 : decode c9_troubleOfShares 0 = .ok (.aload_n 0, 1) := by decide +kernel
theorem d9_troubleOfShares_1 : decode c9_troubleOfShares 1 = .ok (.iload_n 1, 1) := by decide +kernel
theorem d9_troubleOfShares_2 : decode c9_troubleOfShares 2 = .ok (.invokevirtual 389, 3) := by decide +kernel
theorem d9_troubleOfShares_5 : decode c9_troubleOfShares 5 = .ok (.istore_n 2, 1) := by decide +kernel
theorem d9_troubleOfShares_6 : decode c9_troubleOfShares 6 = .ok (.iload_n 2, 1) := by decide +kernel
theorem d9_troubleOfShares_7 : decode c9_troubleOfShares 7 = .ok (.ifCond .eq 5, 3) := by decide +kernel
theorem d9_troubleOfShares_10 : decode c9_troubleOfShares 10 = .ok (.iload_n 2, 1) := by decide +kernel
theorem d9_troubleOfShares_11 : decode c9_troubleOfShares 11 = .ok (.ireturn, 1) := by decide +kernel
theorem d9_troubleOfShares_12 : decode c9_troubleOfShares 12 = .ok (.aload_n 0, 1) := by decide +kernel
theorem d9_troubleOfShares_13 : decode c9_troubleOfShares 13 = .ok (.getfield 42, 3) := by decide +kernel
theorem d9_troubleOfShares_16 : decode c9_troubleOfShares 16 = .ok (.iload_n 1, 1) := by decide +kernel
theorem d9_troubleOfShares_17 : decode c9_troubleOfShares 17 = .ok (.aaload, 1) := by decide +kernel
theorem d9_troubleOfShares_18 : decode c9_troubleOfShares 18 = .ok (.astore_n 3, 1) := by decide +kernel
theorem d9_troubleOfShares_19 : decode c9_troubleOfShares 19 = .ok (.aload_n 3, 1) := by decide +kernel
theorem d9_troubleOfShares_20 : decode c9_troubleOfShares 20 = .ok (.getfield 367, 3) := by decide +kernel
theorem d9_troubleOfShares_23 : decode c9_troubleOfShares 23 = .ok (.aload_n 0, 1) := by decide +kernel
theorem d9_troubleOfShares_24 : decode c9_troubleOfShares 24 = .ok (.getfield 28, 3) := by decide +kernel
theorem d9_troubleOfShares_27 : decode c9_troubleOfShares 27 = .ok (.getfield 165, 3) := by decide +kernel
theorem d9_troubleOfShares_30 : decode c9_troubleOfShares 30 = .ok (.if_icmp .eq 6, 3) := by decide +kernel
theorem d9_troubleOfShares_33 : decode c9_troubleOfShares 33 = .ok (.bipush (-2), 2) := by decide +kernel
theorem d9_troubleOfShares_35 : decode c9_troubleOfShares 35 = .ok (.ireturn, 1) := by decide +kernel
theorem d9_troubleOfShares_36 : decode c9_troubleOfShares 36 = .ok (.iconst 0, 1) := by decide +kernel
theorem d9_troubleOfShares_37 : decode c9_troubleOfShares 37 = .ok (.istore 4, 2) := by decide +kernel
theorem d9_troubleOfShares_39 : decode c9_troubleOfShares 39 = .ok (.iload 4, 2) := by decide +kernel
theorem d9_troubleOfShares_41 : decode c9_troubleOfShares 41 = .ok (.aload_n 3, 1) := by decide +kernel
theorem d9_troubleOfShares_42 : decode c9_troubleOfShares 42 = .ok (.getfield 367, 3) := by decide +kernel
theorem d9_troubleOfShares_45 : decode c9_troubleOfShares 45 = .ok (.if_icmp .ge 24, 3) := by decide +kernel
theorem d9_troubleOfShares_48 : decode c9_troubleOfShares 48 = .ok (.aload_n 3, 1) := by decide +kernel
theorem d9_troubleOfShares_49 : decode c9_troubleOfShares 49 = .ok (.iload 4, 2) := by decide +kernel
theorem d9_troubleOfShares_51 : decode c9_troubleOfShares 51 = .ok (.sipush 999, 3) := by decide +kernel
theorem d9_troubleOfShares_54 : decode c9_troubleOfShares 54 = .ok (.invokevirtual 392, 3) := by decide +kernel
theorem d9_troubleOfShares_57 : decode c9_troubleOfShares 57 = .ok (.ifCond .ne 6, 3) := by decide +kernel
theorem d9_troubleOfShares_60 : decode c9_troubleOfShares 60 = .ok (.bipush (-2), 2) := by decide +kernel
theorem d9_troubleOfShares_62 : decode c9_troubleOfShares 62 = .ok (.ireturn, 1) := by decide +kernel
theorem d9_troubleOfShares_63 : decode c9_troubleOfShares 63 = .ok (.iinc 4 1, 3) := by decide +kernel
theorem d9_troubleOfShares_66 : decode c9_troubleOfShares 66 = .ok (.goto (-27), 3) := by decide +kernel
theorem d9_troubleOfShares_69 : decode c9_troubleOfShares 69 = .ok (.iconst 0, 1) := by decide +kernel
theorem d9_troubleOfShares_70 : decode c9_troubleOfShares 70 = .ok (.ireturn, 1) := by decide +kernel
def f9_troubleOfShares (D : Mem) (p0 : Int) : Option (Int) :=
  Option.bind (f9_troubleOfRow D p0) fun (a1 : Int) =>
  if w32 a1 = 0 then
    if 0 ≤ p0 ∧ p0 < 4 then
      if w32 (D (109 + 2 * p0.toNat) 2) = w32 (D 12 8) then
        Option.bind (@loop (Int) ((Unit) ⊕ (Int)) (fun s1 =>
          if w32 s1 < w32 (D (109 + 2 * p0.toNat) 2) then
            Option.bind (f5_isWithin D (109 + 2 * p0.toNat) s1 999) fun (a2 : Int) =>
            if w32 a2 = 0 then
              some (Sum.inr (Sum.inr (-2)))
            else
              some (Sum.inl (s1 + 1))
          else
            some (Sum.inr (Sum.inl ()))
        ) FU 0) (fun z => Sum.elim (fun (b1 : Unit) =>
          some 0
        ) (fun rv => some rv) z)
      else
        some (-2)
    else none
  else
    some a1
set_option maxHeartbeats 4000000 in
theorem ok9_troubleOfShares {l : Launch} {X : XT} {n : Nat} {D : Mem} {Q : Option Value → Nat → Rho → Mem → Prop} (hn : 117 ≤ n) {p0 : Int}  (h : wpo (f9_troubleOfShares D p0) (fun a => Q (some (vI a)) n rt D)) : MOK l y9_troubleOfShares c9_troubleOfShares 5 (some .int) { frames := 2, cells := 0, slots := 0, locals := 42 } 0 0 X [vR X 0, vI p0] n rt D Q := by
  refine MOK_of 9 (by decide +kernel) rfl (lv := [(0, vR X 0), (1, vI p0)]) (Nat.le_of_ble_eq_true rfl) rfl (fun K hK F hnm => ?_)
  subst hK
  unfold f9_troubleOfShares at h
  refine r_aload_nR F 0 rfl rfl d9_troubleOfShares_0 ?_
  refine r_iload_n F 1 rfl rfl d9_troubleOfShares_1 ?_
  replace h := wpo_bind h
  refine r_callV0 F lm9_389 mf9_troubleOfRow (vc0 hn) rfl (fr := 1) (lo := 21) (As := [vI p0]) (rest := []) ⟨Nat.le_of_ble_eq_true rfl, Nat.le_of_ble_eq_true rfl⟩ rfl (Nat.le_of_ble_eq_true rfl) ⟨Nat.zero_le _, Nat.zero_le _⟩ d9_troubleOfShares_2 ?_
  refine ok9_troubleOfRow hn  (kI h (fun a1 h => ?_))
  refine r_istore_n F (lv' := [(2, vI a1), (0, vR X 0), (1, vI p0)]) rfl (Nat.le_of_ble_eq_true rfl) rfl d9_troubleOfShares_5 ?_
  refine r_iload_n F 0 rfl rfl d9_troubleOfShares_6 ?_
  refine r_if_eq F (tgt := 12) d9_troubleOfShares_7 (by decide) (fun hb => ?_) (fun hb => ?_)
  · replace h := wpo_pos h hb
    refine r_aload_nR F 1 rfl rfl d9_troubleOfShares_12 ?_
    refine r_getR F (z := 22) lf9_42 (vc0 hn) z0_5 d9_troubleOfShares_13 ?_
    refine r_iload_n F 2 rfl rfl d9_troubleOfShares_16 ?_
    obtain ⟨hx1, h⟩ := wpo_chk h
    refine r_aaldS F (z := (109 + 2 * p0.toNat)) (vc22 hn) hx1 (zs hx1) d9_troubleOfShares_17 ?_
    refine r_astore_nR F (lv' := [(3, vR X (109 + 2 * p0.toNat)), (2, vI a1), (0, vR X 0), (1, vI p0)]) rfl (Nat.le_of_ble_eq_true rfl) rfl d9_troubleOfShares_18 ?_
    refine r_aload_nR F 0 rfl rfl d9_troubleOfShares_19 ?_
    refine r_getI F lf9_367 (vs hn hx1) d9_troubleOfShares_20 ?_
    refine r_aload_nR F 2 rfl rfl d9_troubleOfShares_23 ?_
    refine r_getR F (z := 12) lf9_28 (vc0 hn) z0_2 d9_troubleOfShares_24 ?_
    refine r_getI F lf9_165 (vc12 hn) d9_troubleOfShares_27 ?_
    refine r_icmp_eq F (tgt := 36) d9_troubleOfShares_30 (by decide) (fun hb => ?_) (fun hb => ?_)
    · replace h := wpo_pos h hb
      refine r_iconst F (z := 0) d9_troubleOfShares_36 ?_
      refine r_istore F (lv' := [(4, vI 0), (3, vR X (109 + 2 * p0.toNat)), (2, vI a1), (0, vR X 0), (1, vI p0)]) (Nat.le_of_ble_eq_true rfl) rfl d9_troubleOfShares_37 ?_
      refine r_weak [1, 0] rfl ?_
      refine at_loopj (A := fun (s1 : Int) => At K X (ZQ K X Q) 0 0 n rt 5 39 [(3, vR X (109 + 2 * p0.toNat)), (4, vI s1)] [] D) (B := Sum.elim (fun (b1 : Unit) => At K X (ZQ K X Q) 0 0 n rt 5 69 [] [] D) (fun rv => Q (some (vI rv)) n rt D)) h (fun z h => ?_) (fun s1 h => ?_)
      · rcases z with b1 | rv
        · replace h := elim_l h
          refine el_li ?_
          refine r_iconst F (z := 0) d9_troubleOfShares_69 ?_
          replace h := wpo_some h
          exact r_iret F h d9_troubleOfShares_70
        · replace h := elim_r h
          replace h := wpo_some h
          exact el_ri h
      · refine r_iload F 1 rfl d9_troubleOfShares_39 ?_
        refine r_aload_nR F 0 rfl rfl d9_troubleOfShares_41 ?_
        refine r_getI F lf9_367 (vs hn hx1) d9_troubleOfShares_42 ?_
        refine r_icmp_ge F (tgt := 69) d9_troubleOfShares_45 (by decide) (fun hb => ?_) (fun hb => ?_)
        · replace h := wpo_neg h hb
          refine r_weak [] rfl ?_
          replace h := wpo_inr h
          replace h := el_l h
          exact h
        · replace h := wpo_pos h hb
          refine r_aload_nR F 0 rfl rfl d9_troubleOfShares_48 ?_
          refine r_iload F 1 rfl d9_troubleOfShares_49 ?_
          refine r_sipush F (z := 999) (by decide) d9_troubleOfShares_51 ?_
          replace h := wpo_bind h
          refine r_callV0 F lm9_392 mf5_isWithin (vs hn hx1) rfl (fr := 0) (lo := 0) (As := [vI s1, vI 999]) (rest := []) ⟨Nat.le_of_ble_eq_true rfl, Nat.le_of_ble_eq_true rfl⟩ rfl (Nat.le_of_ble_eq_true rfl) ⟨Nat.zero_le _, Nat.zero_le _⟩ d9_troubleOfShares_54 ?_
          refine ok5_isWithin hn (vs hn hx1) (kI h (fun a2 h => ?_))
          refine r_if_ne F (tgt := 63) d9_troubleOfShares_57 (by decide) (fun hb => ?_) (fun hb => ?_)
          · replace h := wpo_neg h hb
            refine r_iinc F 1 (lv' := [(4, vI (s1 + 1)), (3, vR X (109 + 2 * p0.toNat))]) rfl (Nat.le_of_ble_eq_true rfl) rfl d9_troubleOfShares_63 ?_
            refine r_goto F (tgt := 39) (by decide) d9_troubleOfShares_66 ?_
            refine r_weak [1, 0] rfl ?_
            replace h := wpo_inl h
            exact h
          · replace h := wpo_pos h hb
            refine r_bipush F (z := (-2)) (by decide) d9_troubleOfShares_60 ?_
            replace h := el_r (wpo_inr h)
            exact r_iret F h d9_troubleOfShares_62
    · replace h := wpo_neg h hb
      refine r_bipush F (z := (-2)) (by decide) d9_troubleOfShares_33 ?_
      replace h := wpo_some h
      exact r_iret F h d9_troubleOfShares_35
  · replace h := wpo_neg h hb
    refine r_iload_n F 0 rfl rfl d9_troubleOfShares_10 ?_
    replace h := wpo_some h
    exact r_iret F h d9_troubleOfShares_11
theorem d1_paidBy_0 : decode c1_paidBy 0 = .ok (.iconst 0, 1) := by decide +kernel
theorem d1_paidBy_1 : decode c1_paidBy 1 = .ok (.istore_n 3, 1) := by decide +kernel
theorem d1_paidBy_2 : decode c1_paidBy 2 = .ok (.iconst 0, 1) := by decide +kernel
theorem d1_paidBy_3 : decode c1_paidBy 3 = .ok (.istore 4, 2) := by decide +kernel
theorem d1_paidBy_5 : decode c1_paidBy 5 = .ok (.iload 4, 2) := by decide +kernel
theorem d1_paidBy_7 : decode c1_paidBy 7 = .ok (.aload_n 1, 1) := by decide +kernel
theorem d1_paidBy_8 : decode c1_paidBy 8 = .ok (.getfield 55, 3) := by decide +kernel
theorem d1_paidBy_11 : decode c1_paidBy 11 = .ok (.if_icmp .ge 36, 3) := by decide +kernel
theorem d1_paidBy_14 : decode c1_paidBy 14 = .ok (.iload 4, 2) := by decide +kernel
theorem d1_paidBy_16 : decode c1_paidBy 16 = .ok (.bipush 8, 2) := by decide +kernel
theorem d1_paidBy_18 : decode c1_paidBy 18 = .ok (.if_icmp .ge 29, 3) := by decide +kernel
theorem d1_paidBy_21 : decode c1_paidBy 21 = .ok (.iload_n 2, 1) := by decide +kernel
theorem d1_paidBy_22 : decode c1_paidBy 22 = .ok (.iload 4, 2) := by decide +kernel
theorem d1_paidBy_24 : decode c1_paidBy 24 = .ok (.ishr, 1) := by decide +kernel
theorem d1_paidBy_25 : decode c1_paidBy 25 = .ok (.iconst 1, 1) := by decide +kernel
theorem d1_paidBy_26 : decode c1_paidBy 26 = .ok (.iand, 1) := by decide +kernel
theorem d1_paidBy_27 : decode c1_paidBy 27 = .ok (.ifCond .eq 14, 3) := by decide +kernel
theorem d1_paidBy_30 : decode c1_paidBy 30 = .ok (.iload_n 3, 1) := by decide +kernel
theorem d1_paidBy_31 : decode c1_paidBy 31 = .ok (.aload_n 1, 1) := by decide +kernel
theorem d1_paidBy_32 : decode c1_paidBy 32 = .ok (.getfield 60, 3) := by decide +kernel
theorem d1_paidBy_35 : decode c1_paidBy 35 = .ok (.iload 4, 2) := by decide +kernel
theorem d1_paidBy_37 : decode c1_paidBy 37 = .ok (.laload, 1) := by decide +kernel
theorem d1_paidBy_38 : decode c1_paidBy 38 = .ok (.l2i, 1) := by decide +kernel
theorem d1_paidBy_39 : decode c1_paidBy 39 = .ok (.iadd, 1) := by decide +kernel
theorem d1_paidBy_40 : decode c1_paidBy 40 = .ok (.istore_n 3, 1) := by decide +kernel
theorem d1_paidBy_41 : decode c1_paidBy 41 = .ok (.iinc 4 1, 3) := by decide +kernel
theorem d1_paidBy_44 : decode c1_paidBy 44 = .ok (.goto (-39), 3) := by decide +kernel
theorem d1_paidBy_47 : decode c1_paidBy 47 = .ok (.iload_n 3, 1) := by decide +kernel
theorem d1_paidBy_48 : decode c1_paidBy 48 = .ok (.ireturn, 1) := by decide +kernel
def f1_paidBy (D : Mem) (p0 : Nat) (p1 : Int) : Option (Int) :=
  Option.bind (@loop (Int × Int) (Int) (fun s1 =>
    if w32 s1.2 < w32 (D p0 2) then
      if w32 s1.2 < w32 8 then
        Option.bind (
          if w32 (and32 (shr32 p1 s1.2) 1) = 0 then
            some s1.1
          else
            if 0 ≤ s1.2 ∧ s1.2 < 60 then
              some (s1.1 + (D (p0 + 1) s1.2.toNat))
            else none
        ) fun (j1 : Int) =>
        some (Sum.inl (j1, (s1.2 + 1)))
      else
        some (Sum.inr s1.1)
    else
      some (Sum.inr s1.1)
  ) FU (0, 0)) fun (b1 : Int) =>
  some b1
set_option maxHeartbeats 4000000 in
theorem ok1_paidBy {l : Launch} {X : XT} {n : Nat} {D : Mem} {Q : Option Value → Nat → Rho → Mem → Prop} (hn : 117 ≤ n) {p0 : Nat} {p1 : Int} (ho0 : VR n p0 5) (h : wpo (f1_paidBy D p0 p1) (fun a => Q (some (vI a)) n rt D)) : MOK l y1_paidBy c1_paidBy 5 (some .int) { frames := 0, cells := 0, slots := 0, locals := 0 } 0 0 X [vR X 64, vR X p0, vI p1] n rt D Q := by
  refine MOK_of 1 (by decide +kernel) rfl (lv := [(0, vR X 64), (1, vR X p0), (2, vI p1)]) (Nat.le_of_ble_eq_true rfl) rfl (fun K hK F hnm => ?_)
  subst hK
  unfold f1_paidBy at h
  refine r_iconst F (z := 0) d1_paidBy_0 ?_
  refine r_istore_n F (lv' := [(3, vI 0), (0, vR X 64), (1, vR X p0), (2, vI p1)]) rfl (Nat.le_of_ble_eq_true rfl) rfl d1_paidBy_1 ?_
  refine r_iconst F (z := 0) d1_paidBy_2 ?_
  refine r_istore F (lv' := [(4, vI 0), (3, vI 0), (0, vR X 64), (1, vR X p0), (2, vI p1)]) (Nat.le_of_ble_eq_true rfl) rfl d1_paidBy_3 ?_
  refine r_weak [3, 4, 1, 0] rfl ?_
  refine at_loopj (A := fun (s1 : Int × Int) => At K X (ZQ K X Q) 0 0 n rt 5 5 [(1, vR X p0), (2, vI p1), (3, vI s1.1), (4, vI s1.2)] [] D) (B := fun (b1 : Int) => At K X (ZQ K X Q) 0 0 n rt 5 47 [(3, vI b1)] [] D) h (fun b1 h => ?_) (fun s1 h => ?_)
  · refine r_iload_n F 0 rfl rfl d1_paidBy_47 ?_
    replace h := wpo_some h
    exact r_iret F h d1_paidBy_48
  · refine r_iload F 3 rfl d1_paidBy_5 ?_
    refine r_aload_nR F 0 rfl rfl d1_paidBy_7 ?_
    refine r_getI F lf1_55 ho0 d1_paidBy_8 ?_
    refine r_icmp_ge F (tgt := 47) d1_paidBy_11 (by decide) (fun hb => ?_) (fun hb => ?_)
    · replace h := wpo_neg h hb
      refine r_weak [2] rfl ?_
      replace h := wpo_inr h
      exact h
    · replace h := wpo_pos h hb
      refine r_iload F 3 rfl d1_paidBy_14 ?_
      refine r_bipush F (z := 8) (by decide) d1_paidBy_16 ?_
      refine r_icmp_ge F (tgt := 47) d1_paidBy_18 (by decide) (fun hb => ?_) (fun hb => ?_)
      · replace h := wpo_neg h hb
        refine r_weak [2] rfl ?_
        replace h := wpo_inr h
        exact h
      · replace h := wpo_pos h hb
        refine r_iload_n F 1 rfl rfl d1_paidBy_21 ?_
        refine r_iload F 3 rfl d1_paidBy_22 ?_
        refine r_ishr F d1_paidBy_24 ?_
        refine r_iconst F (z := 1) d1_paidBy_25 ?_
        refine r_iand F d1_paidBy_26 ?_
        refine at_join (B := fun (j1 : Int) => At K X (ZQ K X Q) 0 0 n rt 5 41 [(1, vR X p0), (2, vI p1), (3, vI j1), (4, vI s1.2)] [] D) h (fun j1 h => ?_) (fun h => ?_)
        · refine r_iinc F 3 (lv' := [(4, vI (s1.2 + 1)), (1, vR X p0), (2, vI p1), (3, vI j1)]) rfl (Nat.le_of_ble_eq_true rfl) rfl d1_paidBy_41 ?_
          refine r_goto F (tgt := 5) (by decide) d1_paidBy_44 ?_
          refine r_weak [1, 2, 3, 0] rfl ?_
          replace h := wpo_inl h
          exact h
        · refine r_if_eq F (tgt := 41) d1_paidBy_27 (by decide) (fun hb => ?_) (fun hb => ?_)
          · replace h := wpo_pos h hb
            replace h := wpo_some h
            exact h
          · replace h := wpo_neg h hb
            refine r_iload_n F 2 rfl rfl d1_paidBy_30 ?_
            refine r_aload_nR F 0 rfl rfl d1_paidBy_31 ?_
            refine r_getR F (z := (p0 + 1)) lf1_60 ho0 (z5_3 ho0) d1_paidBy_32 ?_
            refine r_iload F 3 rfl d1_paidBy_35 ?_
            obtain ⟨hx1, h⟩ := wpo_chk h
            refine r_lald F (y5_3 hn ho0) hx1 d1_paidBy_37 ?_
            refine r_l2i F d1_paidBy_38 ?_
            refine r_iadd F d1_paidBy_39 ?_
            refine r_istore_n F (lv' := [(3, vI (s1.1 + (D (p0 + 1) s1.2.toNat))), (1, vR X p0), (2, vI p1), (4, vI s1.2)]) rfl (Nat.le_of_ble_eq_true rfl) rfl d1_paidBy_40 ?_
            refine r_weak [1, 2, 0, 3] rfl ?_
            replace h := wpo_some h
            exact h
theorem d1_leaver_0 : decode c1_leaver 0 = .ok (.iconst 1, 1) := by decide +kernel
theorem d1_leaver_1 : decode c1_leaver 1 = .ok (.aload_n 0, 1) := by decide +kernel
theorem d1_leaver_2 : decode c1_leaver 2 = .ok (.getfield 22, 3) := by decide +kernel
theorem d1_leaver_5 : decode c1_leaver 5 = .ok (.getfield 31, 3) := by decide +kernel
theorem d1_leaver_8 : decode c1_leaver 8 = .ok (.ishl, 1) := by decide +kernel
theorem d1_leaver_9 : decode c1_leaver 9 = .ok (.istore_n 2, 1) := by decide +kernel
theorem d1_leaver_10 : decode c1_leaver 10 = .ok (.iconst 0, 1) := by decide +kernel
theorem d1_leaver_11 : decode c1_leaver 11 = .ok (.istore_n 3, 1) := by decide +kernel
theorem d1_leaver_12 : decode c1_leaver 12 = .ok (.iload_n 3, 1) := by decide +kernel
theorem d1_leaver_13 : decode c1_leaver 13 = .ok (.iload_n 2, 1) := by decide +kernel
theorem d1_leaver_14 : decode c1_leaver 14 = .ok (.if_icmp .ge 35, 3) := by decide +kernel
theorem d1_leaver_17 : decode c1_leaver 17 = .ok (.aload_n 0, 1) := by decide +kernel
theorem d1_leaver_18 : decode c1_leaver 18 = .ok (.iload_n 3, 1) := by decide +kernel
theorem d1_leaver_19 : decode c1_leaver 19 = .ok (.invokevirtual 64, 3) := by decide +kernel
theorem d1_leaver_22 : decode c1_leaver 22 = .ok (.istore 4, 2) := by decide +kernel
theorem d1_leaver_24 : decode c1_leaver 24 = .ok (.iload 4, 2) := by decide +kernel
theorem d1_leaver_26 : decode c1_leaver 26 = .ok (.iconst (-1), 1) := by decide +kernel
theorem d1_leaver_27 : decode c1_leaver 27 = .ok (.if_icmp .eq 16, 3) := by decide +kernel
theorem d1_leaver_30 : decode c1_leaver 30 = .ok (.aload_n 0, 1) := by decide +kernel
theorem d1_leaver_31 : decode c1_leaver 31 = .ok (.aload_n 1, 1) := by decide +kernel
theorem d1_leaver_32 : decode c1_leaver 32 = .ok (.iload_n 3, 1) := by decide +kernel
theorem d1_leaver_33 : decode c1_leaver 33 = .ok (.invokevirtual 67, 3) := by decide +kernel
theorem d1_leaver_36 : decode c1_leaver 36 = .ok (.iload 4, 2) := by decide +kernel
theorem d1_leaver_38 : decode c1_leaver 38 = .ok (.if_icmp .le 5, 3) := by decide +kernel
theorem d1_leaver_41 : decode c1_leaver 41 = .ok (.iload_n 3, 1) := by decide +kernel
theorem d1_leaver_42 : decode c1_leaver 42 = .ok (.ireturn, 1) := by decide +kernel
theorem d1_leaver_43 : decode c1_leaver 43 = .ok (.iinc 3 1, 3) := by decide +kernel
theorem d1_leaver_46 : decode c1_leaver 46 = .ok (.goto (-34), 3) := by decide +kernel
theorem d1_leaver_49 : decode c1_leaver 49 = .ok (.iconst (-1), 1) := by decide +kernel
theorem d1_leaver_50 : decode c1_leaver 50 = .ok (.ireturn, 1) := by decide +kernel
def f1_leaver (D : Mem) (p0 : Nat) : Option (Int) :=
  Option.bind (some (shl32 1 (D 12 8))) fun (v1 : Int) =>
  Option.bind (@loop (Int) ((Unit) ⊕ (Int)) (fun s1 =>
    if w32 s1 < w32 v1 then
      Option.bind (f1_costOf D s1) fun (a1 : Int) =>
      if w32 a1 = w32 (-1) then
        some (Sum.inl (s1 + 1))
      else
        Option.bind (f1_paidBy D p0 s1) fun (a2 : Int) =>
        if w32 a1 < w32 a2 then
          some (Sum.inr (Sum.inr s1))
        else
          some (Sum.inl (s1 + 1))
    else
      some (Sum.inr (Sum.inl ()))
  ) FU 0) (fun z => Sum.elim (fun (b1 : Unit) =>
    some (-1)
  ) (fun rv => some rv) z)
set_option maxHeartbeats 4000000 in
theorem ok1_leaver {l : Launch} {X : XT} {n : Nat} {D : Mem} {Q : Option Value → Nat → Rho → Mem → Prop} (hn : 117 ≤ n) {p0 : Nat} (ho0 : VR n p0 5) (h : wpo (f1_leaver D p0) (fun a => Q (some (vI a)) n rt D)) : MOK l y1_leaver c1_leaver 5 (some .int) { frames := 1, cells := 0, slots := 0, locals := 24 } 0 0 X [vR X 64, vR X p0] n rt D Q := by
  refine MOK_of 1 (by decide +kernel) rfl (lv := [(0, vR X 64), (1, vR X p0)]) (Nat.le_of_ble_eq_true rfl) rfl (fun K hK F hnm => ?_)
  subst hK
  unfold f1_leaver at h
  refine r_iconst F (z := 1) d1_leaver_0 ?_
  refine r_aload_nR F 0 rfl rfl d1_leaver_1 ?_
  refine r_getR F (z := 12) lf1_22 (vc64 hn) z64_0 d1_leaver_2 ?_
  refine r_getI F lf1_31 (vc12 hn) d1_leaver_5 ?_
  refine r_ishl F d1_leaver_8 ?_
  refine r_istore_n F (lv' := [(2, vI (shl32 1 (D 12 8))), (0, vR X 64), (1, vR X p0)]) rfl (Nat.le_of_ble_eq_true rfl) rfl d1_leaver_9 ?_
  refine at_name (B := fun (v1 : Int) => At K X (ZQ K X Q) 0 0 n rt 5 10 [(2, vI v1), (0, vR X 64), (1, vR X p0)] [] D) h (fun v1 h => ?_)
  refine r_iconst F (z := 0) d1_leaver_10 ?_
  refine r_istore_n F (lv' := [(3, vI 0), (2, vI v1), (0, vR X 64), (1, vR X p0)]) rfl (Nat.le_of_ble_eq_true rfl) rfl d1_leaver_11 ?_
  refine r_weak [2, 3, 1, 0] rfl ?_
  refine at_loopj (A := fun (s1 : Int) => At K X (ZQ K X Q) 0 0 n rt 5 12 [(0, vR X 64), (1, vR X p0), (2, vI v1), (3, vI s1)] [] D) (B := Sum.elim (fun (b1 : Unit) => At K X (ZQ K X Q) 0 0 n rt 5 49 [] [] D) (fun rv => Q (some (vI rv)) n rt D)) h (fun z h => ?_) (fun s1 h => ?_)
  · rcases z with b1 | rv
    · replace h := elim_l h
      refine el_li ?_
      refine r_iconst F (z := (-1)) d1_leaver_49 ?_
      replace h := wpo_some h
      exact r_iret F h d1_leaver_50
    · replace h := elim_r h
      replace h := wpo_some h
      exact el_ri h
  · refine r_iload_n F 3 rfl rfl d1_leaver_12 ?_
    refine r_iload_n F 2 rfl rfl d1_leaver_13 ?_
    refine r_icmp_ge F (tgt := 49) d1_leaver_14 (by decide) (fun hb => ?_) (fun hb => ?_)
    · replace h := wpo_neg h hb
      refine r_weak [] rfl ?_
      replace h := wpo_inr h
      replace h := el_l h
      exact h
    · replace h := wpo_pos h hb
      refine r_aload_nR F 0 rfl rfl d1_leaver_17 ?_
      refine r_iload_n F 3 rfl rfl d1_leaver_18 ?_
      replace h := wpo_bind h
      refine r_callV0 F lm1_64 mf1_costOf (vc64 hn) rfl (fr := 0) (lo := 0) (As := [vI s1]) (rest := []) ⟨Nat.le_of_ble_eq_true rfl, Nat.le_of_ble_eq_true rfl⟩ rfl (Nat.le_of_ble_eq_true rfl) ⟨Nat.zero_le _, Nat.zero_le _⟩ d1_leaver_19 ?_
      refine ok1_costOf hn  (kI h (fun a1 h => ?_))
      refine r_istore F (lv' := [(4, vI a1), (0, vR X 64), (1, vR X p0), (2, vI v1), (3, vI s1)]) (Nat.le_of_ble_eq_true rfl) rfl d1_leaver_22 ?_
      refine r_iload F 0 rfl d1_leaver_24 ?_
      refine r_iconst F (z := (-1)) d1_leaver_26 ?_
      refine r_icmp_eq F (tgt := 43) d1_leaver_27 (by decide) (fun hb => ?_) (fun hb => ?_)
      · replace h := wpo_pos h hb
        refine r_iinc F 4 (lv' := [(3, vI (s1 + 1)), (4, vI a1), (0, vR X 64), (1, vR X p0), (2, vI v1)]) rfl (Nat.le_of_ble_eq_true rfl) rfl d1_leaver_43 ?_
        refine r_goto F (tgt := 12) (by decide) d1_leaver_46 ?_
        refine r_weak [2, 3, 4, 0] rfl ?_
        replace h := wpo_inl h
        exact h
      · replace h := wpo_neg h hb
        refine r_aload_nR F 1 rfl rfl d1_leaver_30 ?_
        refine r_aload_nR F 2 rfl rfl d1_leaver_31 ?_
        refine r_iload_n F 4 rfl rfl d1_leaver_32 ?_
        replace h := wpo_bind h
        refine r_callV0 F lm1_67 mf1_paidBy (vc64 hn) rfl (fr := 0) (lo := 0) (As := [vR X p0, vI s1]) (rest := []) ⟨Nat.le_of_ble_eq_true rfl, Nat.le_of_ble_eq_true rfl⟩ rfl (Nat.le_of_ble_eq_true rfl) ⟨Nat.zero_le _, Nat.zero_le _⟩ d1_leaver_33 ?_
        refine ok1_paidBy hn ho0 (kI h (fun a2 h => ?_))
        refine r_iload F 0 rfl d1_leaver_36 ?_
        refine r_icmp_le F (tgt := 43) d1_leaver_38 (by decide) (fun hb => ?_) (fun hb => ?_)
        · replace h := wpo_neg h hb
          refine r_iinc F 4 (lv' := [(3, vI (s1 + 1)), (4, vI a1), (0, vR X 64), (1, vR X p0), (2, vI v1)]) rfl (Nat.le_of_ble_eq_true rfl) rfl d1_leaver_43 ?_
          refine r_goto F (tgt := 12) (by decide) d1_leaver_46 ?_
          refine r_weak [2, 3, 4, 0] rfl ?_
          replace h := wpo_inl h
          exact h
        · replace h := wpo_pos h hb
          refine r_iload_n F 4 rfl rfl d1_leaver_41 ?_
          replace h := el_r (wpo_inr h)
          exact r_iret F h d1_leaver_42
theorem d9_fair_0 : decode c9_fair 0 = .ok (.aload_n 0, 1) := by decide +kernel
theorem d9_fair_1 : decode c9_fair 1 = .ok (.iload_n 1, 1) := by decide +kernel
theorem d9_fair_2 : decode c9_fair 2 = .ok (.invokevirtual 295, 3) := by decide +kernel
theorem d9_fair_5 : decode c9_fair 5 = .ok (.istore_n 2, 1) := by decide +kernel
theorem d9_fair_6 : decode c9_fair 6 = .ok (.iload_n 2, 1) := by decide +kernel
theorem d9_fair_7 : decode c9_fair 7 = .ok (.ifCond .eq 5, 3) := by decide +kernel
theorem d9_fair_10 : decode c9_fair 10 = .ok (.iload_n 2, 1) := by decide +kernel
theorem d9_fair_11 : decode c9_fair 11 = .ok (.ireturn, 1) := by decide +kernel
theorem d9_fair_12 : decode c9_fair 12 = .ok (.aload_n 0, 1) := by decide +kernel
theorem d9_fair_13 : decode c9_fair 13 = .ok (.getfield 75, 3) := by decide +kernel
theorem d9_fair_16 : decode c9_fair 16 = .ok (.invokevirtual 289, 3) := by decide +kernel
theorem d9_fair_19 : decode c9_fair 19 = .ok (.iconst 1, 1) := by decide +kernel
theorem d9_fair_20 : decode c9_fair 20 = .ok (.aload_n 0, 1) := by decide +kernel
theorem d9_fair_21 : decode c9_fair 21 = .ok (.getfield 28, 3) := by decide +kernel
theorem d9_fair_24 : decode c9_fair 24 = .ok (.getfield 165, 3) := by decide +kernel
theorem d9_fair_27 : decode c9_fair 27 = .ok (.ishl, 1) := by decide +kernel
theorem d9_fair_28 : decode c9_fair 28 = .ok (.iconst 1, 1) := by decide +kernel
theorem d9_fair_29 : decode c9_fair 29 = .ok (.isub, 1) := by decide +kernel
theorem d9_fair_30 : decode c9_fair 30 = .ok (.istore_n 3, 1) := by decide +kernel
theorem d9_fair_31 : decode c9_fair 31 = .ok (.aload_n 0, 1) := by decide +kernel
theorem d9_fair_32 : decode c9_fair 32 = .ok (.getfield 75, 3) := by decide +kernel
theorem d9_fair_35 : decode c9_fair 35 = .ok (.iload_n 3, 1) := by decide +kernel
theorem d9_fair_36 : decode c9_fair 36 = .ok (.invokevirtual 292, 3) := by decide +kernel
theorem d9_fair_39 : decode c9_fair 39 = .ok (.istore 4, 2) := by decide +kernel
theorem d9_fair_41 : decode c9_fair 41 = .ok (.iload 4, 2) := by decide +kernel
theorem d9_fair_43 : decode c9_fair 43 = .ok (.iconst (-1), 1) := by decide +kernel
theorem d9_fair_44 : decode c9_fair 44 = .ok (.if_icmp .eq 26, 3) := by decide +kernel
theorem d9_fair_47 : decode c9_fair 47 = .ok (.aload_n 0, 1) := by decide +kernel
theorem d9_fair_48 : decode c9_fair 48 = .ok (.getfield 75, 3) := by decide +kernel
theorem d9_fair_51 : decode c9_fair 51 = .ok (.aload_n 0, 1) := by decide +kernel
theorem d9_fair_52 : decode c9_fair 52 = .ok (.getfield 42, 3) := by decide +kernel
theorem d9_fair_55 : decode c9_fair 55 = .ok (.iload_n 1, 1) := by decide +kernel
theorem d9_fair_56 : decode c9_fair 56 = .ok (.aaload, 1) := by decide +kernel
theorem d9_fair_57 : decode c9_fair 57 = .ok (.iload_n 3, 1) := by decide +kernel
theorem d9_fair_58 : decode c9_fair 58 = .ok (.invokevirtual 298, 3) := by decide +kernel
theorem d9_fair_61 : decode c9_fair 61 = .ok (.iload 4, 2) := by decide +kernel
theorem d9_fair_63 : decode c9_fair 63 = .ok (.if_icmp .ne 7, 3) := by decide +kernel
theorem d9_fair_66 : decode c9_fair 66 = .ok (.iconst 1, 1) := by decide +kernel
theorem d9_fair_67 : decode c9_fair 67 = .ok (.goto 4, 3) := by decide +kernel
theorem d9_fair_70 : decode c9_fair 70 = .ok (.iconst 0, 1) := by decide +kernel
theorem d9_fair_71 : decode c9_fair 71 = .ok (.istore 5, 2) := by decide +kernel
theorem d9_fair_73 : decode c9_fair 73 = .ok (.iload 5, 2) := by decide +kernel
theorem d9_fair_75 : decode c9_fair 75 = .ok (.ifCond .eq 24, 3) := by decide +kernel
theorem d9_fair_78 : decode c9_fair 78 = .ok (.aload_n 0, 1) := by decide +kernel
theorem d9_fair_79 : decode c9_fair 79 = .ok (.getfield 75, 3) := by decide +kernel
theorem d9_fair_82 : decode c9_fair 82 = .ok (.aload_n 0, 1) := by decide +kernel
theorem d9_fair_83 : decode c9_fair 83 = .ok (.getfield 42, 3) := by decide +kernel
theorem d9_fair_86 : decode c9_fair 86 = .ok (.iload_n 1, 1) := by decide +kernel
theorem d9_fair_87 : decode c9_fair 87 = .ok (.aaload, 1) := by decide +kernel
theorem d9_fair_88 : decode c9_fair 88 = .ok (.invokevirtual 302, 3) := by decide +kernel
theorem d9_fair_91 : decode c9_fair 91 = .ok (.iconst (-1), 1) := by decide +kernel
theorem d9_fair_92 : decode c9_fair 92 = .ok (.if_icmp .ne 7, 3) := by decide +kernel
theorem d9_fair_95 : decode c9_fair 95 = .ok (.iconst 1, 1) := by decide +kernel
theorem d9_fair_96 : decode c9_fair 96 = .ok (.goto 4, 3) := by decide +kernel
theorem d9_fair_99 : decode c9_fair 99 = .ok (.iconst 0, 1) := by decide +kernel
theorem d9_fair_100 : decode c9_fair 100 = .ok (.ireturn, 1) := by decide +kernel
def f9_fair (D : Mem) (p0 : Int) : Option (Int × Mem) :=
  Option.bind (f9_troubleOfShares D p0) fun (a1 : Int) =>
  if w32 a1 = 0 then
    Option.bind (f1_work D) fun (a2 : Mem) =>
    Option.bind (some ((shl32 1 (a2 12 8)) - 1)) fun (v1 : Int) =>
    Option.bind (f1_costOf a2 v1) fun (a3 : Int) =>
    Option.bind (
      if w32 a3 = w32 (-1) then
        some 0
      else
        if 0 ≤ p0 ∧ p0 < 4 then
          Option.bind (f1_paidBy a2 (109 + 2 * p0.toNat) v1) fun (a4 : Int) =>
          if w32 a4 = w32 a3 then
            some 1
          else
            some 0
        else none
    ) fun (j1 : Int) =>
    if w32 j1 = 0 then
      some (0, a2)
    else
      if 0 ≤ p0 ∧ p0 < 4 then
        Option.bind (f1_leaver a2 (109 + 2 * p0.toNat)) fun (a5 : Int) =>
        if w32 a5 = w32 (-1) then
          some (1, a2)
        else
          some (0, a2)
      else none
  else
    some (a1, D)
set_option maxHeartbeats 4000000 in
theorem ok9_fair {l : Launch} {X : XT} {n : Nat} {D : Mem} {Q : Option Value → Nat → Rho → Mem → Prop} (hn : 117 ≤ n) {p0 : Int}  (h : wpo (f9_fair D p0) (fun a => Q (some (vI a.1)) n rt a.2)) : MOK l y9_fair c9_fair 6 (some .int) { frames := 3, cells := 0, slots := 0, locals := 70 } 0 0 X [vR X 0, vI p0] n rt D Q := by
  refine MOK_of 9 (by decide +kernel) rfl (lv := [(0, vR X 0), (1, vI p0)]) (Nat.le_of_ble_eq_true rfl) rfl (fun K hK F hnm => ?_)
  subst hK
  unfold f9_fair at h
  refine r_aload_nR F 0 rfl rfl d9_fair_0 ?_
  refine r_iload_n F 1 rfl rfl d9_fair_1 ?_
  replace h := wpo_bind h
  refine r_callV0 F lm9_295 mf9_troubleOfShares (vc0 hn) rfl (fr := 2) (lo := 42) (As := [vI p0]) (rest := []) ⟨Nat.le_of_ble_eq_true rfl, Nat.le_of_ble_eq_true rfl⟩ rfl (Nat.le_of_ble_eq_true rfl) ⟨Nat.zero_le _, Nat.zero_le _⟩ d9_fair_2 ?_
  refine ok9_troubleOfShares hn  (kI h (fun a1 h => ?_))
  refine r_istore_n F (lv' := [(2, vI a1), (0, vR X 0), (1, vI p0)]) rfl (Nat.le_of_ble_eq_true rfl) rfl d9_fair_5 ?_
  refine r_iload_n F 0 rfl rfl d9_fair_6 ?_
  refine r_if_eq F (tgt := 12) d9_fair_7 (by decide) (fun hb => ?_) (fun hb => ?_)
  · replace h := wpo_pos h hb
    refine r_aload_nR F 1 rfl rfl d9_fair_12 ?_
    refine r_getR F (z := 64) lf9_75 (vc0 hn) z0_10 d9_fair_13 ?_
    replace h := wpo_bind h
    refine r_callV0 F lm9_289 mf1_work (vc64 hn) rfl (fr := 2) (lo := 48) (As := []) (rest := []) ⟨Nat.le_of_ble_eq_true rfl, Nat.le_of_ble_eq_true rfl⟩ rfl (Nat.le_of_ble_eq_true rfl) ⟨Nat.zero_le _, Nat.zero_le _⟩ d9_fair_16 ?_
    refine ok1_work hn  (kVm h (fun a2 h => ?_))
    refine r_iconst F (z := 1) d9_fair_19 ?_
    refine r_aload_nR F 1 rfl rfl d9_fair_20 ?_
    refine r_getR F (z := 12) lf9_28 (vc0 hn) z0_2 d9_fair_21 ?_
    refine r_getI F lf9_165 (vc12 hn) d9_fair_24 ?_
    refine r_ishl F d9_fair_27 ?_
    refine r_iconst F (z := 1) d9_fair_28 ?_
    refine r_isub F d9_fair_29 ?_
    refine r_istore_n F (lv' := [(3, vI ((shl32 1 (a2 12 8)) - 1)), (2, vI a1), (0, vR X 0), (1, vI p0)]) rfl (Nat.le_of_ble_eq_true rfl) rfl d9_fair_30 ?_
    refine at_name (B := fun (v1 : Int) => At K X (ZQ K X Q) 0 0 n rt 6 31 [(3, vI v1), (2, vI a1), (0, vR X 0), (1, vI p0)] [] a2) h (fun v1 h => ?_)
    refine r_aload_nR F 2 rfl rfl d9_fair_31 ?_
    refine r_getR F (z := 64) lf9_75 (vc0 hn) z0_10 d9_fair_32 ?_
    refine r_iload_n F 0 rfl rfl d9_fair_35 ?_
    replace h := wpo_bind h
    refine r_callV0 F lm9_292 mf1_costOf (vc64 hn) rfl (fr := 0) (lo := 0) (As := [vI v1]) (rest := []) ⟨Nat.le_of_ble_eq_true rfl, Nat.le_of_ble_eq_true rfl⟩ rfl (Nat.le_of_ble_eq_true rfl) ⟨Nat.zero_le _, Nat.zero_le _⟩ d9_fair_36 ?_
    refine ok1_costOf hn  (kI h (fun a3 h => ?_))
    refine r_istore F (lv' := [(4, vI a3), (3, vI v1), (2, vI a1), (0, vR X 0), (1, vI p0)]) (Nat.le_of_ble_eq_true rfl) rfl d9_fair_39 ?_
    refine r_iload F 0 rfl d9_fair_41 ?_
    refine r_iconst F (z := (-1)) d9_fair_43 ?_
    refine at_join (B := fun (j1 : Int) => At K X (ZQ K X Q) 0 0 n rt 6 71 [(0, vR X 0), (1, vI p0)] [vI j1] a2) h (fun j1 h => ?_) (fun h => ?_)
    · refine r_istore F (lv' := [(5, vI j1), (0, vR X 0), (1, vI p0)]) (Nat.le_of_ble_eq_true rfl) rfl d9_fair_71 ?_
      refine r_iload F 0 rfl d9_fair_73 ?_
      refine r_if_eq F (tgt := 99) d9_fair_75 (by decide) (fun hb => ?_) (fun hb => ?_)
      · replace h := wpo_pos h hb
        refine r_iconst F (z := 0) d9_fair_99 ?_
        replace h := wpo_some h
        exact r_iret F h d9_fair_100
      · replace h := wpo_neg h hb
        refine r_aload_nR F 1 rfl rfl d9_fair_78 ?_
        refine r_getR F (z := 64) lf9_75 (vc0 hn) z0_10 d9_fair_79 ?_
        refine r_aload_nR F 1 rfl rfl d9_fair_82 ?_
        refine r_getR F (z := 22) lf9_42 (vc0 hn) z0_5 d9_fair_83 ?_
        refine r_iload_n F 2 rfl rfl d9_fair_86 ?_
        obtain ⟨hx2, h⟩ := wpo_chk h
        refine r_aaldS F (z := (109 + 2 * p0.toNat)) (vc22 hn) hx2 (zs hx2) d9_fair_87 ?_
        replace h := wpo_bind h
        refine r_callV0 F lm9_302 mf1_leaver (vc64 hn) rfl (fr := 1) (lo := 24) (As := [vR X (109 + 2 * p0.toNat)]) (rest := []) ⟨Nat.le_of_ble_eq_true rfl, Nat.le_of_ble_eq_true rfl⟩ rfl (Nat.le_of_ble_eq_true rfl) ⟨Nat.zero_le _, Nat.zero_le _⟩ d9_fair_88 ?_
        refine ok1_leaver hn (vs hn hx2) (kI h (fun a5 h => ?_))
        refine r_iconst F (z := (-1)) d9_fair_91 ?_
        refine r_icmp_ne F (tgt := 99) d9_fair_92 (by decide) (fun hb => ?_) (fun hb => ?_)
        · replace h := wpo_neg h hb
          refine r_iconst F (z := 0) d9_fair_99 ?_
          replace h := wpo_some h
          exact r_iret F h d9_fair_100
        · replace h := wpo_pos h hb
          refine r_iconst F (z := 1) d9_fair_95 ?_
          refine r_goto F (tgt := 100) (by decide) d9_fair_96 ?_
          replace h := wpo_some h
          exact r_iret F h d9_fair_100
    · refine r_icmp_eq F (tgt := 70) d9_fair_44 (by decide) (fun hb => ?_) (fun hb => ?_)
      · replace h := wpo_pos h hb
        refine r_iconst F (z := 0) d9_fair_70 ?_
        refine r_weak [3, 4] rfl ?_
        replace h := wpo_some h
        exact h
      · replace h := wpo_neg h hb
        refine r_aload_nR F 3 rfl rfl d9_fair_47 ?_
        refine r_getR F (z := 64) lf9_75 (vc0 hn) z0_10 d9_fair_48 ?_
        refine r_aload_nR F 3 rfl rfl d9_fair_51 ?_
        refine r_getR F (z := 22) lf9_42 (vc0 hn) z0_5 d9_fair_52 ?_
        refine r_iload_n F 4 rfl rfl d9_fair_55 ?_
        obtain ⟨hx1, h⟩ := wpo_chk h
        refine r_aaldS F (z := (109 + 2 * p0.toNat)) (vc22 hn) hx1 (zs hx1) d9_fair_56 ?_
        refine r_iload_n F 1 rfl rfl d9_fair_57 ?_
        replace h := wpo_bind h
        refine r_callV0 F lm9_298 mf1_paidBy (vc64 hn) rfl (fr := 0) (lo := 0) (As := [vR X (109 + 2 * p0.toNat), vI v1]) (rest := []) ⟨Nat.le_of_ble_eq_true rfl, Nat.le_of_ble_eq_true rfl⟩ rfl (Nat.le_of_ble_eq_true rfl) ⟨Nat.zero_le _, Nat.zero_le _⟩ d9_fair_58 ?_
        refine ok1_paidBy hn (vs hn hx1) (kI h (fun a4 h => ?_))
        refine r_iload F 0 rfl d9_fair_61 ?_
        refine r_icmp_ne F (tgt := 70) d9_fair_63 (by decide) (fun hb => ?_) (fun hb => ?_)
        · replace h := wpo_neg h hb
          refine r_iconst F (z := 0) d9_fair_70 ?_
          refine r_weak [3, 4] rfl ?_
          replace h := wpo_some h
          exact h
        · replace h := wpo_pos h hb
          refine r_iconst F (z := 1) d9_fair_66 ?_
          refine r_goto F (tgt := 71) (by decide) d9_fair_67 ?_
          refine r_weak [3, 4] rfl ?_
          replace h := wpo_some h
          exact h
  · replace h := wpo_neg h hb
    refine r_iload_n F 0 rfl rfl d9_fair_10 ?_
    replace h := wpo_some h
    exact r_iret F h d9_fair_11
theorem d9_leave_0 : decode c9_leave 0 = .ok (.aload_n 0, 1) := by decide +kernel
theorem d9_leave_1 : decode c9_leave 1 = .ok (.iload_n 1, 1) := by decide +kernel
theorem d9_leave_2 : decode c9_leave 2 = .ok (.invokevirtual 295, 3) := by decide +kernel
theorem d9_leave_5 : decode c9_leave 5 = .ok (.istore_n 2, 1) := by decide +kernel
theorem d9_leave_6 : decode c9_leave 6 = .ok (.iload_n 2, 1) := by decide +kernel
theorem d9_leave_7 : decode c9_leave 7 = .ok (.ifCond .eq 5, 3) := by decide +kernel
theorem d9_leave_10 : decode c9_leave 10 = .ok (.iload_n 2, 1) := by decide +kernel
theorem d9_leave_11 : decode c9_leave 11 = .ok (.ireturn, 1) := by decide +kernel
theorem d9_leave_12 : decode c9_leave 12 = .ok (.aload_n 0, 1) := by decide +kernel
theorem d9_leave_13 : decode c9_leave 13 = .ok (.getfield 75, 3) := by decide +kernel
theorem d9_leave_16 : decode c9_leave 16 = .ok (.invokevirtual 289, 3) := by decide +kernel
theorem d9_leave_19 : decode c9_leave 19 = .ok (.aload_n 0, 1) := by decide +kernel
theorem d9_leave_20 : decode c9_leave 20 = .ok (.getfield 75, 3) := by decide +kernel
theorem d9_leave_23 : decode c9_leave 23 = .ok (.aload_n 0, 1) := by decide +kernel
theorem d9_leave_24 : decode c9_leave 24 = .ok (.getfield 42, 3) := by decide +kernel
theorem d9_leave_27 : decode c9_leave 27 = .ok (.iload_n 1, 1) := by decide +kernel
theorem d9_leave_28 : decode c9_leave 28 = .ok (.aaload, 1) := by decide +kernel
theorem d9_leave_29 : decode c9_leave 29 = .ok (.invokevirtual 302, 3) := by decide +kernel
theorem d9_leave_32 : decode c9_leave 32 = .ok (.ireturn, 1) := by decide +kernel
def f9_leave (D : Mem) (p0 : Int) : Option (Int × Mem) :=
  Option.bind (f9_troubleOfShares D p0) fun (a1 : Int) =>
  if w32 a1 = 0 then
    Option.bind (f1_work D) fun (a2 : Mem) =>
    if 0 ≤ p0 ∧ p0 < 4 then
      Option.bind (f1_leaver a2 (109 + 2 * p0.toNat)) fun (a3 : Int) =>
      some (a3, a2)
    else none
  else
    some (a1, D)
set_option maxHeartbeats 4000000 in
theorem ok9_leave {l : Launch} {X : XT} {n : Nat} {D : Mem} {Q : Option Value → Nat → Rho → Mem → Prop} (hn : 117 ≤ n) {p0 : Int}  (h : wpo (f9_leave D p0) (fun a => Q (some (vI a.1)) n rt a.2)) : MOK l y9_leave c9_leave 3 (some .int) { frames := 3, cells := 0, slots := 0, locals := 70 } 0 0 X [vR X 0, vI p0] n rt D Q := by
  refine MOK_of 9 (by decide +kernel) rfl (lv := [(0, vR X 0), (1, vI p0)]) (Nat.le_of_ble_eq_true rfl) rfl (fun K hK F hnm => ?_)
  subst hK
  unfold f9_leave at h
  refine r_aload_nR F 0 rfl rfl d9_leave_0 ?_
  refine r_iload_n F 1 rfl rfl d9_leave_1 ?_
  replace h := wpo_bind h
  refine r_callV0 F lm9_295 mf9_troubleOfShares (vc0 hn) rfl (fr := 2) (lo := 42) (As := [vI p0]) (rest := []) ⟨Nat.le_of_ble_eq_true rfl, Nat.le_of_ble_eq_true rfl⟩ rfl (Nat.le_of_ble_eq_true rfl) ⟨Nat.zero_le _, Nat.zero_le _⟩ d9_leave_2 ?_
  refine ok9_troubleOfShares hn  (kI h (fun a1 h => ?_))
  refine r_istore_n F (lv' := [(2, vI a1), (0, vR X 0), (1, vI p0)]) rfl (Nat.le_of_ble_eq_true rfl) rfl d9_leave_5 ?_
  refine r_iload_n F 0 rfl rfl d9_leave_6 ?_
  refine r_if_eq F (tgt := 12) d9_leave_7 (by decide) (fun hb => ?_) (fun hb => ?_)
  · replace h := wpo_pos h hb
    refine r_aload_nR F 1 rfl rfl d9_leave_12 ?_
    refine r_getR F (z := 64) lf9_75 (vc0 hn) z0_10 d9_leave_13 ?_
    replace h := wpo_bind h
    refine r_callV0 F lm9_289 mf1_work (vc64 hn) rfl (fr := 2) (lo := 48) (As := []) (rest := []) ⟨Nat.le_of_ble_eq_true rfl, Nat.le_of_ble_eq_true rfl⟩ rfl (Nat.le_of_ble_eq_true rfl) ⟨Nat.zero_le _, Nat.zero_le _⟩ d9_leave_16 ?_
    refine ok1_work hn  (kVm h (fun a2 h => ?_))
    refine r_aload_nR F 1 rfl rfl d9_leave_19 ?_
    refine r_getR F (z := 64) lf9_75 (vc0 hn) z0_10 d9_leave_20 ?_
    refine r_aload_nR F 1 rfl rfl d9_leave_23 ?_
    refine r_getR F (z := 22) lf9_42 (vc0 hn) z0_5 d9_leave_24 ?_
    refine r_iload_n F 2 rfl rfl d9_leave_27 ?_
    obtain ⟨hx1, h⟩ := wpo_chk h
    refine r_aaldS F (z := (109 + 2 * p0.toNat)) (vc22 hn) hx1 (zs hx1) d9_leave_28 ?_
    replace h := wpo_bind h
    refine r_callV0 F lm9_302 mf1_leaver (vc64 hn) rfl (fr := 1) (lo := 24) (As := [vR X (109 + 2 * p0.toNat)]) (rest := []) ⟨Nat.le_of_ble_eq_true rfl, Nat.le_of_ble_eq_true rfl⟩ rfl (Nat.le_of_ble_eq_true rfl) ⟨Nat.zero_le _, Nat.zero_le _⟩ d9_leave_29 ?_
    refine ok1_leaver hn (vs hn hx1) (kI h (fun a3 h => ?_))
    replace h := wpo_some h
    exact r_iret F h d9_leave_32
  · replace h := wpo_neg h hb
    refine r_iload_n F 0 rfl rfl d9_leave_10 ?_
    replace h := wpo_some h
    exact r_iret F h d9_leave_11
theorem d9_areTwo_0 : decode c9_areTwo 0 = .ok (.aload_n 0, 1) := by decide +kernel
theorem d9_areTwo_1 : decode c9_areTwo 1 = .ok (.iload_n 1, 1) := by decide +kernel
theorem d9_areTwo_2 : decode c9_areTwo 2 = .ok (.invokevirtual 124, 3) := by decide +kernel
theorem d9_areTwo_5 : decode c9_areTwo 5 = .ok (.ifCond .eq 20, 3) := by decide +kernel
theorem d9_areTwo_8 : decode c9_areTwo 8 = .ok (.aload_n 0, 1) := by decide +kernel
theorem d9_areTwo_9 : decode c9_areTwo 9 = .ok (.iload_n 2, 1) := by decide +kernel
theorem d9_areTwo_10 : decode c9_areTwo 10 = .ok (.invokevirtual 124, 3) := by decide +kernel
theorem d9_areTwo_13 : decode c9_areTwo 13 = .ok (.ifCond .eq 12, 3) := by decide +kernel
theorem d9_areTwo_16 : decode c9_areTwo 16 = .ok (.iload_n 1, 1) := by decide +kernel
theorem d9_areTwo_17 : decode c9_areTwo 17 = .ok (.iload_n 2, 1) := by decide +kernel
theorem d9_areTwo_18 : decode c9_areTwo 18 = .ok (.if_icmp .eq 7, 3) := by decide +kernel
theorem d9_areTwo_21 : decode c9_areTwo 21 = .ok (.iconst 1, 1) := by decide +kernel
theorem d9_areTwo_22 : decode c9_areTwo 22 = .ok (.goto 4, 3) := by decide +kernel
theorem d9_areTwo_25 : decode c9_areTwo 25 = .ok (.iconst 0, 1) := by decide +kernel
theorem d9_areTwo_26 : decode c9_areTwo 26 = .ok (.ireturn, 1) := by decide +kernel
def f9_areTwo (D : Mem) (p0 : Int) (p1 : Int) : Option (Int) :=
  Option.bind (f9_isPerson D p0) fun (a1 : Int) =>
  if w32 a1 = 0 then
    some 0
  else
    Option.bind (f9_isPerson D p1) fun (a2 : Int) =>
    if w32 a2 = 0 then
      some 0
    else
      if w32 p0 = w32 p1 then
        some 0
      else
        some 1
set_option maxHeartbeats 4000000 in
theorem ok9_areTwo {l : Launch} {X : XT} {n : Nat} {D : Mem} {Q : Option Value → Nat → Rho → Mem → Prop} (hn : 117 ≤ n) {p0 : Int} {p1 : Int}  (h : wpo (f9_areTwo D p0 p1) (fun a => Q (some (vI a)) n rt D)) : MOK l y9_areTwo c9_areTwo 3 (some .boolean) { frames := 1, cells := 0, slots := 0, locals := 21 } 0 0 X [vR X 0, vI p0, vI p1] n rt D Q := by
  refine MOK_of 9 (by decide +kernel) rfl (lv := [(0, vR X 0), (1, vI p0), (2, vI p1)]) (Nat.le_of_ble_eq_true rfl) rfl (fun K hK F hnm => ?_)
  subst hK
  unfold f9_areTwo at h
  refine r_aload_nR F 0 rfl rfl d9_areTwo_0 ?_
  refine r_iload_n F 1 rfl rfl d9_areTwo_1 ?_
  replace h := wpo_bind h
  refine r_callV0 F lm9_124 mf9_isPerson (vc0 hn) rfl (fr := 0) (lo := 0) (As := [vI p0]) (rest := []) ⟨Nat.le_of_ble_eq_true rfl, Nat.le_of_ble_eq_true rfl⟩ rfl (Nat.le_of_ble_eq_true rfl) ⟨Nat.zero_le _, Nat.zero_le _⟩ d9_areTwo_2 ?_
  refine ok9_isPerson hn  (kI h (fun a1 h => ?_))
  refine r_if_eq F (tgt := 25) d9_areTwo_5 (by decide) (fun hb => ?_) (fun hb => ?_)
  · replace h := wpo_pos h hb
    refine r_iconst F (z := 0) d9_areTwo_25 ?_
    replace h := wpo_some h
    exact r_zret F (Or.inl rfl) h d9_areTwo_26
  · replace h := wpo_neg h hb
    refine r_aload_nR F 0 rfl rfl d9_areTwo_8 ?_
    refine r_iload_n F 2 rfl rfl d9_areTwo_9 ?_
    replace h := wpo_bind h
    refine r_callV0 F lm9_124 mf9_isPerson (vc0 hn) rfl (fr := 0) (lo := 0) (As := [vI p1]) (rest := []) ⟨Nat.le_of_ble_eq_true rfl, Nat.le_of_ble_eq_true rfl⟩ rfl (Nat.le_of_ble_eq_true rfl) ⟨Nat.zero_le _, Nat.zero_le _⟩ d9_areTwo_10 ?_
    refine ok9_isPerson hn  (kI h (fun a2 h => ?_))
    refine r_if_eq F (tgt := 25) d9_areTwo_13 (by decide) (fun hb => ?_) (fun hb => ?_)
    · replace h := wpo_pos h hb
      refine r_iconst F (z := 0) d9_areTwo_25 ?_
      replace h := wpo_some h
      exact r_zret F (Or.inl rfl) h d9_areTwo_26
    · replace h := wpo_neg h hb
      refine r_iload_n F 1 rfl rfl d9_areTwo_16 ?_
      refine r_iload_n F 2 rfl rfl d9_areTwo_17 ?_
      refine r_icmp_eq F (tgt := 25) d9_areTwo_18 (by decide) (fun hb => ?_) (fun hb => ?_)
      · replace h := wpo_pos h hb
        refine r_iconst F (z := 0) d9_areTwo_25 ?_
        replace h := wpo_some h
        exact r_zret F (Or.inl rfl) h d9_areTwo_26
      · replace h := wpo_neg h hb
        refine r_iconst F (z := 1) d9_areTwo_21 ?_
        refine r_goto F (tgt := 26) (by decide) d9_areTwo_22 ?_
        replace h := wpo_some h
        exact r_zret F (Or.inr rfl) h d9_areTwo_26
theorem d9_passHolding_0 : decode c9_passHolding 0 = .ok (.aload_n 0, 1) := by decide +kernel
theorem d9_passHolding_1 : decode c9_passHolding 1 = .ok (.getfield 55, 3) := by decide +kernel
theorem d9_passHolding_4 : decode c9_passHolding 4 = .ok (.invokevirtual 205, 3) := by decide +kernel
theorem d9_passHolding_7 : decode c9_passHolding 7 = .ok (.aload_n 0, 1) := by decide +kernel
theorem d9_passHolding_8 : decode c9_passHolding 8 = .ok (.getfield 55, 3) := by decide +kernel
theorem d9_passHolding_11 : decode c9_passHolding 11 = .ok (.getfield 413, 3) := by decide +kernel
theorem d9_passHolding_14 : decode c9_passHolding 14 = .ok (.iload_n 1, 1) := by decide +kernel
theorem d9_passHolding_15 : decode c9_passHolding 15 = .ok (.iload_n 3, 1) := by decide +kernel
theorem d9_passHolding_16 : decode c9_passHolding 16 = .ok (.iastore, 1) := by decide +kernel
theorem d9_passHolding_17 : decode c9_passHolding 17 = .ok (.aload_n 0, 1) := by decide +kernel
theorem d9_passHolding_18 : decode c9_passHolding 18 = .ok (.getfield 55, 3) := by decide +kernel
theorem d9_passHolding_21 : decode c9_passHolding 21 = .ok (.getfield 413, 3) := by decide +kernel
theorem d9_passHolding_24 : decode c9_passHolding 24 = .ok (.iload_n 2, 1) := by decide +kernel
theorem d9_passHolding_25 : decode c9_passHolding 25 = .ok (.iload 4, 2) := by decide +kernel
theorem d9_passHolding_27 : decode c9_passHolding 27 = .ok (.iastore, 1) := by decide +kernel
theorem d9_passHolding_28 : decode c9_passHolding 28 = .ok (.aload_n 0, 1) := by decide +kernel
theorem d9_passHolding_29 : decode c9_passHolding 29 = .ok (.getfield 55, 3) := by decide +kernel
theorem d9_passHolding_32 : decode c9_passHolding 32 = .ok (.invokevirtual 209, 3) := by decide +kernel
theorem d9_passHolding_35 : decode c9_passHolding 35 = .ok (.return_, 1) := by decide +kernel
def f9_passHolding (D : Mem) (p0 : Int) (p1 : Int) (p2 : Int) (p3 : Int) : Option (Mem) :=
  Option.bind (f8_prepare D 36) fun (a1 : Mem) =>
  if 0 ≤ p0 ∧ p0 < 8 then
    Option.bind (some (mset a1 39 p0.toNat p2)) fun (D1 : Mem) =>
    if 0 ≤ p1 ∧ p1 < 8 then
      Option.bind (some (mset D1 39 p1.toNat p3)) fun (D2 : Mem) =>
      Option.bind (f8_pass D2 36) fun (a2 : Mem) =>
      some a2
    else none
  else none
set_option maxHeartbeats 4000000 in
theorem ok9_passHolding {l : Launch} {X : XT} {n : Nat} {D : Mem} {Q : Option Value → Nat → Rho → Mem → Prop} (hn : 117 ≤ n) {p0 : Int} {p1 : Int} {p2 : Int} {p3 : Int}  (h : wpo (f9_passHolding D p0 p1 p2 p3) (fun a => Q none n rt a)) : MOK l y9_passHolding c9_passHolding 5 (none) { frames := 3, cells := 0, slots := 0, locals := 68 } 0 0 X [vR X 0, vI p0, vI p1, vI p2, vI p3] n rt D Q := by
  refine MOK_of 9 (by decide +kernel) rfl (lv := [(0, vR X 0), (1, vI p0), (2, vI p1), (3, vI p2), (4, vI p3)]) (Nat.le_of_ble_eq_true rfl) rfl (fun K hK F hnm => ?_)
  subst hK
  unfold f9_passHolding at h
  refine r_aload_nR F 0 rfl rfl d9_passHolding_0 ?_
  refine r_getR F (z := 36) lf9_55 (vc0 hn) z0_7 d9_passHolding_1 ?_
  replace h := wpo_bind h
  refine r_callV0 F lm9_205 mf8_prepare (vc36 hn) rfl (fr := 1) (lo := 26) (As := []) (rest := []) ⟨Nat.le_of_ble_eq_true rfl, Nat.le_of_ble_eq_true rfl⟩ rfl (Nat.le_of_ble_eq_true rfl) ⟨Nat.zero_le _, Nat.zero_le _⟩ d9_passHolding_4 ?_
  refine ok8_prepare hn (vc36 hn) (kVm h (fun a1 h => ?_))
  refine r_aload_nR F 0 rfl rfl d9_passHolding_7 ?_
  refine r_getR F (z := 36) lf9_55 (vc0 hn) z0_7 d9_passHolding_8 ?_
  refine r_getR F (z := 39) lf9_413 (vc36 hn) z36_7 d9_passHolding_11 ?_
  refine r_iload_n F 1 rfl rfl d9_passHolding_14 ?_
  refine r_iload_n F 3 rfl rfl d9_passHolding_15 ?_
  obtain ⟨hx1, h⟩ := wpo_chk h
  refine r_iast F (vc39 hn) hx1 d9_passHolding_16 ?_
  refine r_aload_nR F 0 rfl rfl d9_passHolding_17 ?_
  refine r_getR F (z := 36) lf9_55 (vc0 hn) z0_7 d9_passHolding_18 ?_
  refine r_getR F (z := 39) lf9_413 (vc36 hn) z36_7 d9_passHolding_21 ?_
  refine r_iload_n F 2 rfl rfl d9_passHolding_24 ?_
  refine r_iload F 4 rfl d9_passHolding_25 ?_
  refine at_name (B := fun (D1 : Mem) => At K X (ZQ K X Q) 0 0 n rt 5 27 [(0, vR X 0), (1, vI p0), (2, vI p1), (3, vI p2), (4, vI p3)] [vI p3, vI p1, vR X 39] D1) h (fun D1 h => ?_)
  obtain ⟨hx2, h⟩ := wpo_chk h
  refine r_iast F (vc39 hn) hx2 d9_passHolding_27 ?_
  refine r_aload_nR F 0 rfl rfl d9_passHolding_28 ?_
  refine r_getR F (z := 36) lf9_55 (vc0 hn) z0_7 d9_passHolding_29 ?_
  refine at_name (B := fun (D2 : Mem) => At K X (ZQ K X Q) 0 0 n rt 5 32 [(0, vR X 0), (1, vI p0), (2, vI p1), (3, vI p2), (4, vI p3)] [vR X 36] D2) h (fun D2 h => ?_)
  replace h := wpo_bind h
  refine r_callV0 F lm9_209 mf8_pass (vc36 hn) rfl (fr := 2) (lo := 44) (As := []) (rest := []) ⟨Nat.le_of_ble_eq_true rfl, Nat.le_of_ble_eq_true rfl⟩ rfl (Nat.le_of_ble_eq_true rfl) ⟨Nat.zero_le _, Nat.zero_le _⟩ d9_passHolding_32 ?_
  refine ok8_pass hn (vc36 hn) (kVm h (fun a2 h => ?_))
  replace h := wpo_some h
  exact r_vret F h d9_passHolding_35
theorem d9_passHoldings_0 : decode c9_passHoldings 0 = .ok (.iconst 0, 1) := by decide +kernel
theorem d9_passHoldings_1 : decode c9_passHoldings 1 = .ok (.istore_n 3, 1) := by decide +kernel
theorem d9_passHoldings_2 : decode c9_passHoldings 2 = .ok (.iload_n 3, 1) := by decide +kernel
theorem d9_passHoldings_3 : decode c9_passHoldings 3 = .ok (.bipush 16, 2) := by decide +kernel
theorem d9_passHoldings_5 : decode c9_passHoldings 5 = .ok (.if_icmp .ge 51, 3) := by decide +kernel
theorem d9_passHoldings_8 : decode c9_passHoldings 8 = .ok (.aload_n 0, 1) := by decide +kernel
theorem d9_passHoldings_9 : decode c9_passHoldings 9 = .ok (.iload_n 1, 1) := by decide +kernel
theorem d9_passHoldings_10 : decode c9_passHoldings 10 = .ok (.iload_n 2, 1) := by decide +kernel
theorem d9_passHoldings_11 : decode c9_passHoldings 11 = .ok (.iload_n 3, 1) := by decide +kernel
theorem d9_passHoldings_12 : decode c9_passHoldings 12 = .ok (.iconst 4, 1) := by decide +kernel
theorem d9_passHoldings_13 : decode c9_passHoldings 13 = .ok (.idiv, 1) := by decide +kernel
theorem d9_passHoldings_14 : decode c9_passHoldings 14 = .ok (.iload_n 3, 1) := by decide +kernel
theorem d9_passHoldings_15 : decode c9_passHoldings 15 = .ok (.iconst 4, 1) := by decide +kernel
theorem d9_passHoldings_16 : decode c9_passHoldings 16 = .ok (.irem, 1) := by decide +kernel
theorem d9_passHoldings_17 : decode c9_passHoldings 17 = .ok (.invokevirtual 319, 3) := by decide +kernel
theorem d9_passHoldings_20 : decode c9_passHoldings 20 = .ok (.aload_n 0, 1) := by decide +kernel
theorem d9_passHoldings_21 : decode c9_passHoldings 21 = .ok (.getfield 86, 3) := by decide +kernel
theorem d9_passHoldings_24 : decode c9_passHoldings 24 = .ok (.iload_n 3, 1) := by decide +kernel
theorem d9_passHoldings_25 : decode c9_passHoldings 25 = .ok (.aload_n 0, 1) := by decide +kernel
theorem d9_passHoldings_26 : decode c9_passHoldings 26 = .ok (.getfield 55, 3) := by decide +kernel
theorem d9_passHoldings_29 : decode c9_passHoldings 29 = .ok (.getfield 155, 3) := by decide +kernel
theorem d9_passHoldings_32 : decode c9_passHoldings 32 = .ok (.iload_n 1, 1) := by decide +kernel
theorem d9_passHoldings_33 : decode c9_passHoldings 33 = .ok (.iaload, 1) := by decide +kernel
theorem d9_passHoldings_34 : decode c9_passHoldings 34 = .ok (.iastore, 1) := by decide +kernel
theorem d9_passHoldings_35 : decode c9_passHoldings 35 = .ok (.aload_n 0, 1) := by decide +kernel
theorem d9_passHoldings_36 : decode c9_passHoldings 36 = .ok (.getfield 90, 3) := by decide +kernel
theorem d9_passHoldings_39 : decode c9_passHoldings 39 = .ok (.iload_n 3, 1) := by decide +kernel
theorem d9_passHoldings_40 : decode c9_passHoldings 40 = .ok (.aload_n 0, 1) := by decide +kernel
theorem d9_passHoldings_41 : decode c9_passHoldings 41 = .ok (.getfield 55, 3) := by decide +kernel
theorem d9_passHoldings_44 : decode c9_passHoldings 44 = .ok (.getfield 155, 3) := by decide +kernel
theorem d9_passHoldings_47 : decode c9_passHoldings 47 = .ok (.iload_n 2, 1) := by decide +kernel
theorem d9_passHoldings_48 : decode c9_passHoldings 48 = .ok (.iaload, 1) := by decide +kernel
theorem d9_passHoldings_49 : decode c9_passHoldings 49 = .ok (.iastore, 1) := by decide +kernel
theorem d9_passHoldings_50 : decode c9_passHoldings 50 = .ok (.iinc 3 1, 3) := by decide +kernel
theorem d9_passHoldings_53 : decode c9_passHoldings 53 = .ok (.goto (-51), 3) := by decide +kernel
theorem d9_passHoldings_56 : decode c9_passHoldings 56 = .ok (.return_, 1) := by decide +kernel
def f9_passHoldings (D : Mem) (p0 : Int) (p1 : Int) : Option (Mem) :=
  Option.bind (@loop (Int × Mem) (Mem) (fun s1 =>
    if w32 s1.1 < w32 16 then
      Option.bind (f9_passHolding s1.2 p0 p1 (div32 s1.1 4) (rem32 s1.1 4)) fun (a1 : Mem) =>
      if 0 ≤ p0 ∧ p0 < 8 then
        if 0 ≤ s1.1 ∧ s1.1 < 16 then
          Option.bind (some (mset a1 83 s1.1.toNat (a1 42 p0.toNat))) fun (D1 : Mem) =>
          if 0 ≤ p1 ∧ p1 < 8 then
            some (Sum.inl ((s1.1 + 1), (mset D1 84 s1.1.toNat (D1 42 p1.toNat))))
          else none
        else none
      else none
    else
      some (Sum.inr s1.2)
  ) FU (0, D)) fun (b1 : Mem) =>
  some b1
set_option maxHeartbeats 4000000 in
theorem ok9_passHoldings {l : Launch} {X : XT} {n : Nat} {D : Mem} {Q : Option Value → Nat → Rho → Mem → Prop} (hn : 117 ≤ n) {p0 : Int} {p1 : Int}  (h : wpo (f9_passHoldings D p0 p1) (fun a => Q none n rt a)) : MOK l y9_passHoldings c9_passHoldings 4 (none) { frames := 4, cells := 0, slots := 0, locals := 92 } 0 0 X [vR X 0, vI p0, vI p1] n rt D Q := by
  refine MOK_of 9 (by decide +kernel) rfl (lv := [(0, vR X 0), (1, vI p0), (2, vI p1)]) (Nat.le_of_ble_eq_true rfl) rfl (fun K hK F hnm => ?_)
  subst hK
  unfold f9_passHoldings at h
  refine r_iconst F (z := 0) d9_passHoldings_0 ?_
  refine r_istore_n F (lv' := [(3, vI 0), (0, vR X 0), (1, vI p0), (2, vI p1)]) rfl (Nat.le_of_ble_eq_true rfl) rfl d9_passHoldings_1 ?_
  refine r_weak [1, 2, 3, 0] rfl ?_
  refine at_loopj (A := fun (s1 : Int × Mem) => At K X (ZQ K X Q) 0 0 n rt 4 2 [(0, vR X 0), (1, vI p0), (2, vI p1), (3, vI s1.1)] [] s1.2) (B := fun (b1 : Mem) => At K X (ZQ K X Q) 0 0 n rt 4 56 [] [] b1) h (fun b1 h => ?_) (fun s1 h => ?_)
  · replace h := wpo_some h
    exact r_vret F h d9_passHoldings_56
  · refine r_iload_n F 3 rfl rfl d9_passHoldings_2 ?_
    refine r_bipush F (z := 16) (by decide) d9_passHoldings_3 ?_
    refine r_icmp_ge F (tgt := 56) d9_passHoldings_5 (by decide) (fun hb => ?_) (fun hb => ?_)
    · replace h := wpo_neg h hb
      refine r_weak [] rfl ?_
      replace h := wpo_inr h
      exact h
    · replace h := wpo_pos h hb
      refine r_aload_nR F 0 rfl rfl d9_passHoldings_8 ?_
      refine r_iload_n F 1 rfl rfl d9_passHoldings_9 ?_
      refine r_iload_n F 2 rfl rfl d9_passHoldings_10 ?_
      refine r_iload_n F 3 rfl rfl d9_passHoldings_11 ?_
      refine r_iconst F (z := 4) d9_passHoldings_12 ?_
      refine r_idiv F (by decide +kernel) d9_passHoldings_13 ?_
      refine r_iload_n F 3 rfl rfl d9_passHoldings_14 ?_
      refine r_iconst F (z := 4) d9_passHoldings_15 ?_
      refine r_irem F (by decide +kernel) d9_passHoldings_16 ?_
      replace h := wpo_bind h
      refine r_callV0 F lm9_319 mf9_passHolding (vc0 hn) rfl (fr := 3) (lo := 68) (As := [vI p0, vI p1, vI (div32 s1.1 4), vI (rem32 s1.1 4)]) (rest := []) ⟨Nat.le_of_ble_eq_true rfl, Nat.le_of_ble_eq_true rfl⟩ rfl (Nat.le_of_ble_eq_true rfl) ⟨Nat.zero_le _, Nat.zero_le _⟩ d9_passHoldings_17 ?_
      refine ok9_passHolding hn  (kVm h (fun a1 h => ?_))
      refine r_aload_nR F 0 rfl rfl d9_passHoldings_20 ?_
      refine r_getR F (z := 83) lf9_86 (vc0 hn) z0_12 d9_passHoldings_21 ?_
      refine r_iload_n F 3 rfl rfl d9_passHoldings_24 ?_
      refine r_aload_nR F 0 rfl rfl d9_passHoldings_25 ?_
      refine r_getR F (z := 36) lf9_55 (vc0 hn) z0_7 d9_passHoldings_26 ?_
      refine r_getR F (z := 42) lf9_155 (vc36 hn) z36_10 d9_passHoldings_29 ?_
      refine r_iload_n F 1 rfl rfl d9_passHoldings_32 ?_
      obtain ⟨hx1, h⟩ := wpo_chk h
      refine r_iald F (vc42 hn) hx1 d9_passHoldings_33 ?_
      obtain ⟨hx2, h⟩ := wpo_chk h
      refine r_iast F (vc83 hn) hx2 d9_passHoldings_34 ?_
      refine r_aload_nR F 0 rfl rfl d9_passHoldings_35 ?_
      refine r_getR F (z := 84) lf9_90 (vc0 hn) z0_13 d9_passHoldings_36 ?_
      refine r_iload_n F 3 rfl rfl d9_passHoldings_39 ?_
      refine r_aload_nR F 0 rfl rfl d9_passHoldings_40 ?_
      refine r_getR F (z := 36) lf9_55 (vc0 hn) z0_7 d9_passHoldings_41 ?_
      refine r_getR F (z := 42) lf9_155 (vc36 hn) z36_10 d9_passHoldings_44 ?_
      refine r_iload_n F 2 rfl rfl d9_passHoldings_47 ?_
      refine at_name (B := fun (D1 : Mem) => At K X (ZQ K X Q) 0 0 n rt 4 48 [(0, vR X 0), (1, vI p0), (2, vI p1), (3, vI s1.1)] [vI p1, vR X 42, vI s1.1, vR X 84] D1) h (fun D1 h => ?_)
      obtain ⟨hx3, h⟩ := wpo_chk h
      refine r_iald F (vc42 hn) hx3 d9_passHoldings_48 ?_
      refine r_iast F (vc84 hn) hx2 d9_passHoldings_49 ?_
      refine r_iinc F 3 (lv' := [(3, vI (s1.1 + 1)), (0, vR X 0), (1, vI p0), (2, vI p1)]) rfl (Nat.le_of_ble_eq_true rfl) rfl d9_passHoldings_50 ?_
      refine r_goto F (tgt := 2) (by decide) d9_passHoldings_53 ?_
      refine r_weak [1, 2, 3, 0] rfl ?_
      replace h := wpo_inl h
      exact h
theorem d9_isRest_0 : decode c9_isRest 0 = .ok (.iconst 4, 1) := by decide +kernel
theorem d9_isRest_1 : decode c9_isRest 1 = .ok (.iload_n 1, 1) := by decide +kernel
theorem d9_isRest_2 : decode c9_isRest 2 = .ok (.imul, 1) := by decide +kernel
theorem d9_isRest_3 : decode c9_isRest 3 = .ok (.iload_n 2, 1) := by decide +kernel
theorem d9_isRest_4 : decode c9_isRest 4 = .ok (.iadd, 1) := by decide +kernel
theorem d9_isRest_5 : decode c9_isRest 5 = .ok (.istore_n 3, 1) := by decide +kernel
theorem d9_isRest_6 : decode c9_isRest 6 = .ok (.iconst 0, 1) := by decide +kernel
theorem d9_isRest_7 : decode c9_isRest 7 = .ok (.istore 4, 2) := by decide +kernel
theorem d9_isRest_9 : decode c9_isRest 9 = .ok (.iload 4, 2) := by decide +kernel
theorem d9_isRest_11 : decode c9_isRest 11 = .ok (.iconst 4, 1) := by decide +kernel
theorem d9_isRest_12 : decode c9_isRest 12 = .ok (.if_icmp .ge 51, 3) := by decide +kernel
theorem d9_isRest_15 : decode c9_isRest 15 = .ok (.aload_n 0, 1) := by decide +kernel
theorem d9_isRest_16 : decode c9_isRest 16 = .ok (.getfield 86, 3) := by decide +kernel
theorem d9_isRest_19 : decode c9_isRest 19 = .ok (.iconst 4, 1) := by decide +kernel
theorem d9_isRest_20 : decode c9_isRest 20 = .ok (.iload 4, 2) := by decide +kernel
theorem d9_isRest_22 : decode c9_isRest 22 = .ok (.imul, 1) := by decide +kernel
theorem d9_isRest_23 : decode c9_isRest 23 = .ok (.iload_n 2, 1) := by decide +kernel
theorem d9_isRest_24 : decode c9_isRest 24 = .ok (.iadd, 1) := by decide +kernel
theorem d9_isRest_25 : decode c9_isRest 25 = .ok (.iaload, 1) := by decide +kernel
theorem d9_isRest_26 : decode c9_isRest 26 = .ok (.aload_n 0, 1) := by decide +kernel
theorem d9_isRest_27 : decode c9_isRest 27 = .ok (.getfield 86, 3) := by decide +kernel
theorem d9_isRest_30 : decode c9_isRest 30 = .ok (.iload_n 3, 1) := by decide +kernel
theorem d9_isRest_31 : decode c9_isRest 31 = .ok (.iaload, 1) := by decide +kernel
theorem d9_isRest_32 : decode c9_isRest 32 = .ok (.if_icmp .lt 23, 3) := by decide +kernel
theorem d9_isRest_35 : decode c9_isRest 35 = .ok (.aload_n 0, 1) := by decide +kernel
theorem d9_isRest_36 : decode c9_isRest 36 = .ok (.getfield 90, 3) := by decide +kernel
theorem d9_isRest_39 : decode c9_isRest 39 = .ok (.iconst 4, 1) := by decide +kernel
theorem d9_isRest_40 : decode c9_isRest 40 = .ok (.iload_n 1, 1) := by decide +kernel
theorem d9_isRest_41 : decode c9_isRest 41 = .ok (.imul, 1) := by decide +kernel
theorem d9_isRest_42 : decode c9_isRest 42 = .ok (.iload 4, 2) := by decide +kernel
theorem d9_isRest_44 : decode c9_isRest 44 = .ok (.iadd, 1) := by decide +kernel
theorem d9_isRest_45 : decode c9_isRest 45 = .ok (.iaload, 1) := by decide +kernel
theorem d9_isRest_46 : decode c9_isRest 46 = .ok (.aload_n 0, 1) := by decide +kernel
theorem d9_isRest_47 : decode c9_isRest 47 = .ok (.getfield 90, 3) := by decide +kernel
theorem d9_isRest_50 : decode c9_isRest 50 = .ok (.iload_n 3, 1) := by decide +kernel
theorem d9_isRest_51 : decode c9_isRest 51 = .ok (.iaload, 1) := by decide +kernel
theorem d9_isRest_52 : decode c9_isRest 52 = .ok (.if_icmp .ge 5, 3) := by decide +kernel
theorem d9_isRest_55 : decode c9_isRest 55 = .ok (.iconst 0, 1) := by decide +kernel
theorem d9_isRest_56 : decode c9_isRest 56 = .ok (.ireturn, 1) := by decide +kernel
theorem d9_isRest_57 : decode c9_isRest 57 = .ok (.iinc 4 1, 3) := by decide +kernel
theorem d9_isRest_60 : decode c9_isRest 60 = .ok (.goto (-51), 3) := by decide +kernel
theorem d9_isRest_63 : decode c9_isRest 63 = .ok (.iconst 1, 1) := by decide +kernel
theorem d9_isRest_64 : decode c9_isRest 64 = .ok (.ireturn, 1) := by decide +kernel
def f9_isRest (D : Mem) (p0 : Int) (p1 : Int) : Option (Int) :=
  Option.bind (@loop (Int) ((Unit) ⊕ (Int)) (fun s1 =>
    if w32 s1 < w32 4 then
      if 0 ≤ ((4 * s1) + p1) ∧ ((4 * s1) + p1) < 16 then
        if 0 ≤ ((4 * p0) + p1) ∧ ((4 * p0) + p1) < 16 then
          if w32 (D 83 ((4 * s1) + p1).toNat) < w32 (D 83 ((4 * p0) + p1).toNat) then
            some (Sum.inr (Sum.inr 0))
          else
            if 0 ≤ ((4 * p0) + s1) ∧ ((4 * p0) + s1) < 16 then
              if w32 (D 84 ((4 * p0) + s1).toNat) < w32 (D 84 ((4 * p0) + p1).toNat) then
                some (Sum.inr (Sum.inr 0))
              else
                some (Sum.inl (s1 + 1))
            else none
        else none
      else none
    else
      some (Sum.inr (Sum.inl ()))
  ) FU 0) (fun z => Sum.elim (fun (b1 : Unit) =>
    some 1
  ) (fun rv => some rv) z)
set_option maxHeartbeats 4000000 in
theorem ok9_isRest {l : Launch} {X : XT} {n : Nat} {D : Mem} {Q : Option Value → Nat → Rho → Mem → Prop} (hn : 117 ≤ n) {p0 : Int} {p1 : Int}  (h : wpo (f9_isRest D p0 p1) (fun a => Q (some (vI a)) n rt D)) : MOK l y9_isRest c9_isRest 5 (some .boolean) { frames := 0, cells := 0, slots := 0, locals := 0 } 0 0 X [vR X 0, vI p0, vI p1] n rt D Q := by
  refine MOK_of 9 (by decide +kernel) rfl (lv := [(0, vR X 0), (1, vI p0), (2, vI p1)]) (Nat.le_of_ble_eq_true rfl) rfl (fun K hK F hnm => ?_)
  subst hK
  unfold f9_isRest at h
  refine r_iconst F (z := 4) d9_isRest_0 ?_
  refine r_iload_n F 1 rfl rfl d9_isRest_1 ?_
  refine r_imul F d9_isRest_2 ?_
  refine r_iload_n F 2 rfl rfl d9_isRest_3 ?_
  refine r_iadd F d9_isRest_4 ?_
  refine r_istore_n F (lv' := [(3, vI ((4 * p0) + p1)), (0, vR X 0), (1, vI p0), (2, vI p1)]) rfl (Nat.le_of_ble_eq_true rfl) rfl d9_isRest_5 ?_
  refine r_iconst F (z := 0) d9_isRest_6 ?_
  refine r_istore F (lv' := [(4, vI 0), (3, vI ((4 * p0) + p1)), (0, vR X 0), (1, vI p0), (2, vI p1)]) (Nat.le_of_ble_eq_true rfl) rfl d9_isRest_7 ?_
  refine r_weak [2, 3, 4, 1, 0] rfl ?_
  refine at_loopj (A := fun (s1 : Int) => At K X (ZQ K X Q) 0 0 n rt 5 9 [(0, vR X 0), (1, vI p0), (2, vI p1), (3, vI ((4 * p0) + p1)), (4, vI s1)] [] D) (B := Sum.elim (fun (b1 : Unit) => At K X (ZQ K X Q) 0 0 n rt 5 63 [] [] D) (fun rv => Q (some (vI rv)) n rt D)) h (fun z h => ?_) (fun s1 h => ?_)
  · rcases z with b1 | rv
    · replace h := elim_l h
      refine el_li ?_
      refine r_iconst F (z := 1) d9_isRest_63 ?_
      replace h := wpo_some h
      exact r_zret F (Or.inr rfl) h d9_isRest_64
    · replace h := elim_r h
      replace h := wpo_some h
      exact el_ri h
  · refine r_iload F 4 rfl d9_isRest_9 ?_
    refine r_iconst F (z := 4) d9_isRest_11 ?_
    refine r_icmp_ge F (tgt := 63) d9_isRest_12 (by decide) (fun hb => ?_) (fun hb => ?_)
    · replace h := wpo_neg h hb
      refine r_weak [] rfl ?_
      replace h := wpo_inr h
      replace h := el_l h
      exact h
    · replace h := wpo_pos h hb
      refine r_aload_nR F 0 rfl rfl d9_isRest_15 ?_
      refine r_getR F (z := 83) lf9_86 (vc0 hn) z0_12 d9_isRest_16 ?_
      refine r_iconst F (z := 4) d9_isRest_19 ?_
      refine r_iload F 4 rfl d9_isRest_20 ?_
      refine r_imul F d9_isRest_22 ?_
      refine r_iload_n F 2 rfl rfl d9_isRest_23 ?_
      refine r_iadd F d9_isRest_24 ?_
      obtain ⟨hx1, h⟩ := wpo_chk h
      refine r_iald F (vc83 hn) hx1 d9_isRest_25 ?_
      refine r_aload_nR F 0 rfl rfl d9_isRest_26 ?_
      refine r_getR F (z := 83) lf9_86 (vc0 hn) z0_12 d9_isRest_27 ?_
      refine r_iload_n F 3 rfl rfl d9_isRest_30 ?_
      obtain ⟨hx2, h⟩ := wpo_chk h
      refine r_iald F (vc83 hn) hx2 d9_isRest_31 ?_
      refine r_icmp_lt F (tgt := 55) d9_isRest_32 (by decide) (fun hb => ?_) (fun hb => ?_)
      · replace h := wpo_pos h hb
        refine r_iconst F (z := 0) d9_isRest_55 ?_
        replace h := el_r (wpo_inr h)
        exact r_zret F (Or.inl rfl) h d9_isRest_56
      · replace h := wpo_neg h hb
        refine r_aload_nR F 0 rfl rfl d9_isRest_35 ?_
        refine r_getR F (z := 84) lf9_90 (vc0 hn) z0_13 d9_isRest_36 ?_
        refine r_iconst F (z := 4) d9_isRest_39 ?_
        refine r_iload_n F 1 rfl rfl d9_isRest_40 ?_
        refine r_imul F d9_isRest_41 ?_
        refine r_iload F 4 rfl d9_isRest_42 ?_
        refine r_iadd F d9_isRest_44 ?_
        obtain ⟨hx3, h⟩ := wpo_chk h
        refine r_iald F (vc84 hn) hx3 d9_isRest_45 ?_
        refine r_aload_nR F 0 rfl rfl d9_isRest_46 ?_
        refine r_getR F (z := 84) lf9_90 (vc0 hn) z0_13 d9_isRest_47 ?_
        refine r_iload_n F 3 rfl rfl d9_isRest_50 ?_
        refine r_iald F (vc84 hn) hx2 d9_isRest_51 ?_
        refine r_icmp_ge F (tgt := 57) d9_isRest_52 (by decide) (fun hb => ?_) (fun hb => ?_)
        · replace h := wpo_neg h hb
          refine r_iinc F 4 (lv' := [(4, vI (s1 + 1)), (0, vR X 0), (1, vI p0), (2, vI p1), (3, vI ((4 * p0) + p1))]) rfl (Nat.le_of_ble_eq_true rfl) rfl d9_isRest_57 ?_
          refine r_goto F (tgt := 9) (by decide) d9_isRest_60 ?_
          refine r_weak [1, 2, 3, 4, 0] rfl ?_
          replace h := wpo_inl h
          exact h
        · replace h := wpo_pos h hb
          refine r_iconst F (z := 0) d9_isRest_55 ?_
          replace h := el_r (wpo_inr h)
          exact r_zret F (Or.inl rfl) h d9_isRest_56
theorem d9_rests_0 : decode c9_rests 0 = .ok (.aload_n 0, 1) := by decide +kernel
theorem d9_rests_1 : decode c9_rests 1 = .ok (.iload_n 1, 1) := by decide +kernel
theorem d9_rests_2 : decode c9_rests 2 = .ok (.iload_n 2, 1) := by decide +kernel
theorem d9_rests_3 : decode c9_rests 3 = .ok (.invokevirtual 306, 3) := by decide +kernel
theorem d9_rests_6 : decode c9_rests 6 = .ok (.ifCond .ne 6, 3) := by decide +kernel
theorem d9_rests_9 : decode c9_rests 9 = .ok (.bipush (-2), 2) := by decide +kernel
theorem d9_rests_11 : decode c9_rests 11 = .ok (.ireturn, 1) := by decide +kernel
theorem d9_rests_12 : decode c9_rests 12 = .ok (.aload_n 0, 1) := by decide +kernel
theorem d9_rests_13 : decode c9_rests 13 = .ok (.iload_n 1, 1) := by decide +kernel
theorem d9_rests_14 : decode c9_rests 14 = .ok (.iload_n 2, 1) := by decide +kernel
theorem d9_rests_15 : decode c9_rests 15 = .ok (.invokevirtual 309, 3) := by decide +kernel
theorem d9_rests_18 : decode c9_rests 18 = .ok (.iconst 0, 1) := by decide +kernel
theorem d9_rests_19 : decode c9_rests 19 = .ok (.istore_n 3, 1) := by decide +kernel
theorem d9_rests_20 : decode c9_rests 20 = .ok (.iconst 0, 1) := by decide +kernel
theorem d9_rests_21 : decode c9_rests 21 = .ok (.istore 4, 2) := by decide +kernel
theorem d9_rests_23 : decode c9_rests 23 = .ok (.iload 4, 2) := by decide +kernel
theorem d9_rests_25 : decode c9_rests 25 = .ok (.bipush 16, 2) := by decide +kernel
theorem d9_rests_27 : decode c9_rests 27 = .ok (.if_icmp .ge 27, 3) := by decide +kernel
theorem d9_rests_30 : decode c9_rests 30 = .ok (.aload_n 0, 1) := by decide +kernel
theorem d9_rests_31 : decode c9_rests 31 = .ok (.iload 4, 2) := by decide +kernel
theorem d9_rests_33 : decode c9_rests 33 = .ok (.iconst 4, 1) := by decide +kernel
theorem d9_rests_34 : decode c9_rests 34 = .ok (.idiv, 1) := by decide +kernel
theorem d9_rests_35 : decode c9_rests 35 = .ok (.iload 4, 2) := by decide +kernel
theorem d9_rests_37 : decode c9_rests 37 = .ok (.iconst 4, 1) := by decide +kernel
theorem d9_rests_38 : decode c9_rests 38 = .ok (.irem, 1) := by decide +kernel
theorem d9_rests_39 : decode c9_rests 39 = .ok (.invokevirtual 313, 3) := by decide +kernel
theorem d9_rests_42 : decode c9_rests 42 = .ok (.ifCond .eq 6, 3) := by decide +kernel
theorem d9_rests_45 : decode c9_rests 45 = .ok (.iinc 3 1, 3) := by decide +kernel
theorem d9_rests_48 : decode c9_rests 48 = .ok (.iinc 4 1, 3) := by decide +kernel
theorem d9_rests_51 : decode c9_rests 51 = .ok (.goto (-28), 3) := by decide +kernel
theorem d9_rests_54 : decode c9_rests 54 = .ok (.iload_n 3, 1) := by decide +kernel
theorem d9_rests_55 : decode c9_rests 55 = .ok (.ireturn, 1) := by decide +kernel
def f9_rests (D : Mem) (p0 : Int) (p1 : Int) : Option (Int × Mem) :=
  Option.bind (f9_areTwo D p0 p1) fun (a1 : Int) =>
  if w32 a1 = 0 then
    some ((-2), D)
  else
    Option.bind (f9_passHoldings D p0 p1) fun (a2 : Mem) =>
    Option.bind (@loop (Int × Int) (Int) (fun s1 =>
      if w32 s1.2 < w32 16 then
        Option.bind (f9_isRest a2 (div32 s1.2 4) (rem32 s1.2 4)) fun (a3 : Int) =>
        Option.bind (
          if w32 a3 = 0 then
            some s1.1
          else
            some (s1.1 + 1)
        ) fun (j1 : Int) =>
        some (Sum.inl (j1, (s1.2 + 1)))
      else
        some (Sum.inr s1.1)
    ) FU (0, 0)) fun (b1 : Int) =>
    some (b1, a2)
set_option maxHeartbeats 4000000 in
theorem ok9_rests {l : Launch} {X : XT} {n : Nat} {D : Mem} {Q : Option Value → Nat → Rho → Mem → Prop} (hn : 117 ≤ n) {p0 : Int} {p1 : Int}  (h : wpo (f9_rests D p0 p1) (fun a => Q (some (vI a.1)) n rt a.2)) : MOK l y9_rests c9_rests 5 (some .int) { frames := 5, cells := 0, slots := 0, locals := 115 } 0 0 X [vR X 0, vI p0, vI p1] n rt D Q := by
  refine MOK_of 9 (by decide +kernel) rfl (lv := [(0, vR X 0), (1, vI p0), (2, vI p1)]) (Nat.le_of_ble_eq_true rfl) rfl (fun K hK F hnm => ?_)
  subst hK
  unfold f9_rests at h
  refine r_aload_nR F 0 rfl rfl d9_rests_0 ?_
  refine r_iload_n F 1 rfl rfl d9_rests_1 ?_
  refine r_iload_n F 2 rfl rfl d9_rests_2 ?_
  replace h := wpo_bind h
  refine r_callV0 F lm9_306 mf9_areTwo (vc0 hn) rfl (fr := 1) (lo := 21) (As := [vI p0, vI p1]) (rest := []) ⟨Nat.le_of_ble_eq_true rfl, Nat.le_of_ble_eq_true rfl⟩ rfl (Nat.le_of_ble_eq_true rfl) ⟨Nat.zero_le _, Nat.zero_le _⟩ d9_rests_3 ?_
  refine ok9_areTwo hn  (kI h (fun a1 h => ?_))
  refine r_if_ne F (tgt := 12) d9_rests_6 (by decide) (fun hb => ?_) (fun hb => ?_)
  · replace h := wpo_neg h hb
    refine r_aload_nR F 0 rfl rfl d9_rests_12 ?_
    refine r_iload_n F 1 rfl rfl d9_rests_13 ?_
    refine r_iload_n F 2 rfl rfl d9_rests_14 ?_
    replace h := wpo_bind h
    refine r_callV0 F lm9_309 mf9_passHoldings (vc0 hn) rfl (fr := 4) (lo := 92) (As := [vI p0, vI p1]) (rest := []) ⟨Nat.le_of_ble_eq_true rfl, Nat.le_of_ble_eq_true rfl⟩ rfl (Nat.le_of_ble_eq_true rfl) ⟨Nat.zero_le _, Nat.zero_le _⟩ d9_rests_15 ?_
    refine ok9_passHoldings hn  (kVm h (fun a2 h => ?_))
    refine r_iconst F (z := 0) d9_rests_18 ?_
    refine r_istore_n F (lv' := [(3, vI 0), (0, vR X 0), (1, vI p0), (2, vI p1)]) rfl (Nat.le_of_ble_eq_true rfl) rfl d9_rests_19 ?_
    refine r_iconst F (z := 0) d9_rests_20 ?_
    refine r_istore F (lv' := [(4, vI 0), (3, vI 0), (0, vR X 0), (1, vI p0), (2, vI p1)]) (Nat.le_of_ble_eq_true rfl) rfl d9_rests_21 ?_
    refine r_weak [2, 1, 0] rfl ?_
    refine at_loopj (A := fun (s1 : Int × Int) => At K X (ZQ K X Q) 0 0 n rt 5 23 [(0, vR X 0), (3, vI s1.1), (4, vI s1.2)] [] a2) (B := fun (b1 : Int) => At K X (ZQ K X Q) 0 0 n rt 5 54 [(3, vI b1)] [] a2) h (fun b1 h => ?_) (fun s1 h => ?_)
    · refine r_iload_n F 0 rfl rfl d9_rests_54 ?_
      replace h := wpo_some h
      exact r_iret F h d9_rests_55
    · refine r_iload F 2 rfl d9_rests_23 ?_
      refine r_bipush F (z := 16) (by decide) d9_rests_25 ?_
      refine r_icmp_ge F (tgt := 54) d9_rests_27 (by decide) (fun hb => ?_) (fun hb => ?_)
      · replace h := wpo_neg h hb
        refine r_weak [1] rfl ?_
        replace h := wpo_inr h
        exact h
      · replace h := wpo_pos h hb
        refine r_aload_nR F 0 rfl rfl d9_rests_30 ?_
        refine r_iload F 2 rfl d9_rests_31 ?_
        refine r_iconst F (z := 4) d9_rests_33 ?_
        refine r_idiv F (by decide +kernel) d9_rests_34 ?_
        refine r_iload F 2 rfl d9_rests_35 ?_
        refine r_iconst F (z := 4) d9_rests_37 ?_
        refine r_irem F (by decide +kernel) d9_rests_38 ?_
        replace h := wpo_bind h
        refine r_callV0 F lm9_313 mf9_isRest (vc0 hn) rfl (fr := 0) (lo := 0) (As := [vI (div32 s1.2 4), vI (rem32 s1.2 4)]) (rest := []) ⟨Nat.le_of_ble_eq_true rfl, Nat.le_of_ble_eq_true rfl⟩ rfl (Nat.le_of_ble_eq_true rfl) ⟨Nat.zero_le _, Nat.zero_le _⟩ d9_rests_39 ?_
        refine ok9_isRest hn  (kI h (fun a3 h => ?_))
        refine at_join (B := fun (j1 : Int) => At K X (ZQ K X Q) 0 0 n rt 5 48 [(0, vR X 0), (3, vI j1), (4, vI s1.2)] [] a2) h (fun j1 h => ?_) (fun h => ?_)
        · refine r_iinc F 2 (lv' := [(4, vI (s1.2 + 1)), (0, vR X 0), (3, vI j1)]) rfl (Nat.le_of_ble_eq_true rfl) rfl d9_rests_48 ?_
          refine r_goto F (tgt := 23) (by decide) d9_rests_51 ?_
          refine r_weak [1, 2, 0] rfl ?_
          replace h := wpo_inl h
          exact h
        · refine r_if_eq F (tgt := 48) d9_rests_42 (by decide) (fun hb => ?_) (fun hb => ?_)
          · replace h := wpo_pos h hb
            replace h := wpo_some h
            exact h
          · replace h := wpo_neg h hb
            refine r_iinc F 1 (lv' := [(3, vI (s1.1 + 1)), (0, vR X 0), (4, vI s1.2)]) rfl (Nat.le_of_ble_eq_true rfl) rfl d9_rests_45 ?_
            refine r_weak [1, 0, 2] rfl ?_
            replace h := wpo_some h
            exact h
  · replace h := wpo_pos h hb
    refine r_bipush F (z := (-2)) (by decide) d9_rests_9 ?_
    replace h := wpo_some h
    exact r_iret F h d9_rests_11
theorem d9_rest_0 : decode c9_rest 0 = .ok (.aload_n 0, 1) := by decide +kernel
theorem d9_rest_1 : decode c9_rest 1 = .ok (.iload_n 1, 1) := by decide +kernel
theorem d9_rest_2 : decode c9_rest 2 = .ok (.iload_n 2, 1) := by decide +kernel
theorem d9_rest_3 : decode c9_rest 3 = .ok (.invokevirtual 306, 3) := by decide +kernel
theorem d9_rest_6 : decode c9_rest 6 = .ok (.ifCond .ne 6, 3) := by decide +kernel
theorem d9_rest_9 : decode c9_rest 9 = .ok (.bipush (-2), 2) := by decide +kernel
theorem d9_rest_11 : decode c9_rest 11 = .ok (.ireturn, 1) := by decide +kernel
theorem d9_rest_12 : decode c9_rest 12 = .ok (.aload_n 0, 1) := by decide +kernel
theorem d9_rest_13 : decode c9_rest 13 = .ok (.iload_n 1, 1) := by decide +kernel
theorem d9_rest_14 : decode c9_rest 14 = .ok (.iload_n 2, 1) := by decide +kernel
theorem d9_rest_15 : decode c9_rest 15 = .ok (.invokevirtual 309, 3) := by decide +kernel
theorem d9_rest_18 : decode c9_rest 18 = .ok (.iconst 0, 1) := by decide +kernel
theorem d9_rest_19 : decode c9_rest 19 = .ok (.istore_n 3, 1) := by decide +kernel
theorem d9_rest_20 : decode c9_rest 20 = .ok (.iload_n 3, 1) := by decide +kernel
theorem d9_rest_21 : decode c9_rest 21 = .ok (.bipush 16, 2) := by decide +kernel
theorem d9_rest_23 : decode c9_rest 23 = .ok (.if_icmp .ge 33, 3) := by decide +kernel
theorem d9_rest_26 : decode c9_rest 26 = .ok (.aload_n 0, 1) := by decide +kernel
theorem d9_rest_27 : decode c9_rest 27 = .ok (.iload_n 3, 1) := by decide +kernel
theorem d9_rest_28 : decode c9_rest 28 = .ok (.iconst 4, 1) := by decide +kernel
theorem d9_rest_29 : decode c9_rest 29 = .ok (.idiv, 1) := by decide +kernel
theorem d9_rest_30 : decode c9_rest 30 = .ok (.iload_n 3, 1) := by decide +kernel
theorem d9_rest_31 : decode c9_rest 31 = .ok (.iconst 4, 1) := by decide +kernel
theorem d9_rest_32 : decode c9_rest 32 = .ok (.irem, 1) := by decide +kernel
theorem d9_rest_33 : decode c9_rest 33 = .ok (.invokevirtual 313, 3) := by decide +kernel
theorem d9_rest_36 : decode c9_rest 36 = .ok (.ifCond .eq 14, 3) := by decide +kernel
theorem d9_rest_39 : decode c9_rest 39 = .ok (.bipush 10, 2) := by decide +kernel
theorem d9_rest_41 : decode c9_rest 41 = .ok (.iload_n 3, 1) := by decide +kernel
theorem d9_rest_42 : decode c9_rest 42 = .ok (.iconst 4, 1) := by decide +kernel
theorem d9_rest_43 : decode c9_rest 43 = .ok (.idiv, 1) := by decide +kernel
theorem d9_rest_44 : decode c9_rest 44 = .ok (.imul, 1) := by decide +kernel
theorem d9_rest_45 : decode c9_rest 45 = .ok (.iload_n 3, 1) := by decide +kernel
theorem d9_rest_46 : decode c9_rest 46 = .ok (.iconst 4, 1) := by decide +kernel
theorem d9_rest_47 : decode c9_rest 47 = .ok (.irem, 1) := by decide +kernel
theorem d9_rest_48 : decode c9_rest 48 = .ok (.iadd, 1) := by decide +kernel
theorem d9_rest_49 : decode c9_rest 49 = .ok (.ireturn, 1) := by decide +kernel
theorem d9_rest_50 : decode c9_rest 50 = .ok (.iinc 3 1, 3) := by decide +kernel
theorem d9_rest_53 : decode c9_rest 53 = .ok (.goto (-33), 3) := by decide +kernel
theorem d9_rest_56 : decode c9_rest 56 = .ok (.iconst (-1), 1) := by decide +kernel
theorem d9_rest_57 : decode c9_rest 57 = .ok (.ireturn, 1) := by decide +kernel
def f9_rest (D : Mem) (p0 : Int) (p1 : Int) : Option (Int × Mem) :=
  Option.bind (f9_areTwo D p0 p1) fun (a1 : Int) =>
  if w32 a1 = 0 then
    some ((-2), D)
  else
    Option.bind (f9_passHoldings D p0 p1) fun (a2 : Mem) =>
    Option.bind (@loop (Int) ((Unit) ⊕ (Int × Mem)) (fun s1 =>
      if w32 s1 < w32 16 then
        Option.bind (f9_isRest a2 (div32 s1 4) (rem32 s1 4)) fun (a3 : Int) =>
        if w32 a3 = 0 then
          some (Sum.inl (s1 + 1))
        else
          some (Sum.inr (Sum.inr (((10 * (div32 s1 4)) + (rem32 s1 4)), a2)))
      else
        some (Sum.inr (Sum.inl ()))
    ) FU 0) (fun z => Sum.elim (fun (b1 : Unit) =>
      some ((-1), a2)
    ) (fun rv => some rv) z)
set_option maxHeartbeats 4000000 in
theorem ok9_rest {l : Launch} {X : XT} {n : Nat} {D : Mem} {Q : Option Value → Nat → Rho → Mem → Prop} (hn : 117 ≤ n) {p0 : Int} {p1 : Int}  (h : wpo (f9_rest D p0 p1) (fun a => Q (some (vI a.1)) n rt a.2)) : MOK l y9_rest c9_rest 4 (some .int) { frames := 5, cells := 0, slots := 0, locals := 115 } 0 0 X [vR X 0, vI p0, vI p1] n rt D Q := by
  refine MOK_of 9 (by decide +kernel) rfl (lv := [(0, vR X 0), (1, vI p0), (2, vI p1)]) (Nat.le_of_ble_eq_true rfl) rfl (fun K hK F hnm => ?_)
  subst hK
  unfold f9_rest at h
  refine r_aload_nR F 0 rfl rfl d9_rest_0 ?_
  refine r_iload_n F 1 rfl rfl d9_rest_1 ?_
  refine r_iload_n F 2 rfl rfl d9_rest_2 ?_
  replace h := wpo_bind h
  refine r_callV0 F lm9_306 mf9_areTwo (vc0 hn) rfl (fr := 1) (lo := 21) (As := [vI p0, vI p1]) (rest := []) ⟨Nat.le_of_ble_eq_true rfl, Nat.le_of_ble_eq_true rfl⟩ rfl (Nat.le_of_ble_eq_true rfl) ⟨Nat.zero_le _, Nat.zero_le _⟩ d9_rest_3 ?_
  refine ok9_areTwo hn  (kI h (fun a1 h => ?_))
  refine r_if_ne F (tgt := 12) d9_rest_6 (by decide) (fun hb => ?_) (fun hb => ?_)
  · replace h := wpo_neg h hb
    refine r_aload_nR F 0 rfl rfl d9_rest_12 ?_
    refine r_iload_n F 1 rfl rfl d9_rest_13 ?_
    refine r_iload_n F 2 rfl rfl d9_rest_14 ?_
    replace h := wpo_bind h
    refine r_callV0 F lm9_309 mf9_passHoldings (vc0 hn) rfl (fr := 4) (lo := 92) (As := [vI p0, vI p1]) (rest := []) ⟨Nat.le_of_ble_eq_true rfl, Nat.le_of_ble_eq_true rfl⟩ rfl (Nat.le_of_ble_eq_true rfl) ⟨Nat.zero_le _, Nat.zero_le _⟩ d9_rest_15 ?_
    refine ok9_passHoldings hn  (kVm h (fun a2 h => ?_))
    refine r_iconst F (z := 0) d9_rest_18 ?_
    refine r_istore_n F (lv' := [(3, vI 0), (0, vR X 0), (1, vI p0), (2, vI p1)]) rfl (Nat.le_of_ble_eq_true rfl) rfl d9_rest_19 ?_
    refine r_weak [1, 0] rfl ?_
    refine at_loopj (A := fun (s1 : Int) => At K X (ZQ K X Q) 0 0 n rt 4 20 [(0, vR X 0), (3, vI s1)] [] a2) (B := Sum.elim (fun (b1 : Unit) => At K X (ZQ K X Q) 0 0 n rt 4 56 [] [] a2) (fun rv => Q (some (vI rv.1)) n rt rv.2)) h (fun z h => ?_) (fun s1 h => ?_)
    · rcases z with b1 | rv
      · replace h := elim_l h
        refine el_li ?_
        refine r_iconst F (z := (-1)) d9_rest_56 ?_
        replace h := wpo_some h
        exact r_iret F h d9_rest_57
      · replace h := elim_r h
        replace h := wpo_some h
        exact el_ri h
    · refine r_iload_n F 1 rfl rfl d9_rest_20 ?_
      refine r_bipush F (z := 16) (by decide) d9_rest_21 ?_
      refine r_icmp_ge F (tgt := 56) d9_rest_23 (by decide) (fun hb => ?_) (fun hb => ?_)
      · replace h := wpo_neg h hb
        refine r_weak [] rfl ?_
        replace h := wpo_inr h
        replace h := el_l h
        exact h
      · replace h := wpo_pos h hb
        refine r_aload_nR F 0 rfl rfl d9_rest_26 ?_
        refine r_iload_n F 1 rfl rfl d9_rest_27 ?_
        refine r_iconst F (z := 4) d9_rest_28 ?_
        refine r_idiv F (by decide +kernel) d9_rest_29 ?_
        refine r_iload_n F 1 rfl rfl d9_rest_30 ?_
        refine r_iconst F (z := 4) d9_rest_31 ?_
        refine r_irem F (by decide +kernel) d9_rest_32 ?_
        replace h := wpo_bind h
        refine r_callV0 F lm9_313 mf9_isRest (vc0 hn) rfl (fr := 0) (lo := 0) (As := [vI (div32 s1 4), vI (rem32 s1 4)]) (rest := []) ⟨Nat.le_of_ble_eq_true rfl, Nat.le_of_ble_eq_true rfl⟩ rfl (Nat.le_of_ble_eq_true rfl) ⟨Nat.zero_le _, Nat.zero_le _⟩ d9_rest_33 ?_
        refine ok9_isRest hn  (kI h (fun a3 h => ?_))
        refine r_if_eq F (tgt := 50) d9_rest_36 (by decide) (fun hb => ?_) (fun hb => ?_)
        · replace h := wpo_pos h hb
          refine r_iinc F 1 (lv' := [(3, vI (s1 + 1)), (0, vR X 0)]) rfl (Nat.le_of_ble_eq_true rfl) rfl d9_rest_50 ?_
          refine r_goto F (tgt := 20) (by decide) d9_rest_53 ?_
          refine r_weak [1, 0] rfl ?_
          replace h := wpo_inl h
          exact h
        · replace h := wpo_neg h hb
          refine r_bipush F (z := 10) (by decide) d9_rest_39 ?_
          refine r_iload_n F 1 rfl rfl d9_rest_41 ?_
          refine r_iconst F (z := 4) d9_rest_42 ?_
          refine r_idiv F (by decide +kernel) d9_rest_43 ?_
          refine r_imul F d9_rest_44 ?_
          refine r_iload_n F 1 rfl rfl d9_rest_45 ?_
          refine r_iconst F (z := 4) d9_rest_46 ?_
          refine r_irem F (by decide +kernel) d9_rest_47 ?_
          refine r_iadd F d9_rest_48 ?_
          replace h := el_r (wpo_inr h)
          exact r_iret F h d9_rest_49
  · replace h := wpo_pos h hb
    refine r_bipush F (z := (-2)) (by decide) d9_rest_9 ?_
    replace h := wpo_some h
    exact r_iret F h d9_rest_11
theorem d9_isHeldBack_0 : decode c9_isHeldBack 0 = .ok (.iload_n 1, 1) := by decide +kernel
theorem d9_isHeldBack_1 : decode c9_isHeldBack 1 = .ok (.ifCond .lt 12, 3) := by decide +kernel
theorem d9_isHeldBack_4 : decode c9_isHeldBack 4 = .ok (.iload_n 1, 1) := by decide +kernel
theorem d9_isHeldBack_5 : decode c9_isHeldBack 5 = .ok (.iconst 4, 1) := by decide +kernel
theorem d9_isHeldBack_6 : decode c9_isHeldBack 6 = .ok (.if_icmp .ge 7, 3) := by decide +kernel
theorem d9_isHeldBack_9 : decode c9_isHeldBack 9 = .ok (.iconst 1, 1) := by decide +kernel
theorem d9_isHeldBack_10 : decode c9_isHeldBack 10 = .ok (.goto 4, 3) := by decide +kernel
theorem d9_isHeldBack_13 : decode c9_isHeldBack 13 = .ok (.iconst 0, 1) := by decide +kernel
theorem d9_isHeldBack_14 : decode c9_isHeldBack 14 = .ok (.ireturn, 1) := by decide +kernel
def f9_isHeldBack (D : Mem) (p0 : Int) : Option (Int) :=
  if w32 p0 < 0 then
    some 0
  else
    if w32 p0 < w32 4 then
      some 1
    else
      some 0
set_option maxHeartbeats 4000000 in
theorem ok9_isHeldBack {l : Launch} {X : XT} {n : Nat} {D : Mem} {Q : Option Value → Nat → Rho → Mem → Prop} (hn : 117 ≤ n) {p0 : Int}  (h : wpo (f9_isHeldBack D p0) (fun a => Q (some (vI a)) n rt D)) : MOK l y9_isHeldBack c9_isHeldBack 2 (some .boolean) { frames := 0, cells := 0, slots := 0, locals := 0 } 0 0 X [vR X 0, vI p0] n rt D Q := by
  refine MOK_of 9 (by decide +kernel) rfl (lv := [(0, vR X 0), (1, vI p0)]) (Nat.le_of_ble_eq_true rfl) rfl (fun K hK F hnm => ?_)
  subst hK
  unfold f9_isHeldBack at h
  refine r_iload_n F 1 rfl rfl d9_isHeldBack_0 ?_
  refine r_if_lt F (tgt := 13) d9_isHeldBack_1 (by decide) (fun hb => ?_) (fun hb => ?_)
  · replace h := wpo_pos h hb
    refine r_iconst F (z := 0) d9_isHeldBack_13 ?_
    replace h := wpo_some h
    exact r_zret F (Or.inl rfl) h d9_isHeldBack_14
  · replace h := wpo_neg h hb
    refine r_iload_n F 1 rfl rfl d9_isHeldBack_4 ?_
    refine r_iconst F (z := 4) d9_isHeldBack_5 ?_
    refine r_icmp_ge F (tgt := 13) d9_isHeldBack_6 (by decide) (fun hb => ?_) (fun hb => ?_)
    · replace h := wpo_neg h hb
      refine r_iconst F (z := 0) d9_isHeldBack_13 ?_
      replace h := wpo_some h
      exact r_zret F (Or.inl rfl) h d9_isHeldBack_14
    · replace h := wpo_pos h hb
      refine r_iconst F (z := 1) d9_isHeldBack_9 ?_
      refine r_goto F (tgt := 14) (by decide) d9_isHeldBack_10 ?_
      replace h := wpo_some h
      exact r_zret F (Or.inr rfl) h d9_isHeldBack_14
theorem d9_holding_0 : decode c9_holding 0 = .ok (.aload_n 0, 1) := by decide +kernel
theorem d9_holding_1 : decode c9_holding 1 = .ok (.iload_n 1, 1) := by decide +kernel
theorem d9_holding_2 : decode c9_holding 2 = .ok (.iload_n 2, 1) := by decide +kernel
theorem d9_holding_3 : decode c9_holding 3 = .ok (.invokevirtual 306, 3) := by decide +kernel
theorem d9_holding_6 : decode c9_holding 6 = .ok (.ifCond .eq 20, 3) := by decide +kernel
theorem d9_holding_9 : decode c9_holding 9 = .ok (.aload_n 0, 1) := by decide +kernel
theorem d9_holding_10 : decode c9_holding 10 = .ok (.iload_n 3, 1) := by decide +kernel
theorem d9_holding_11 : decode c9_holding 11 = .ok (.invokevirtual 316, 3) := by decide +kernel
theorem d9_holding_14 : decode c9_holding 14 = .ok (.ifCond .eq 12, 3) := by decide +kernel
theorem d9_holding_17 : decode c9_holding 17 = .ok (.aload_n 0, 1) := by decide +kernel
theorem d9_holding_18 : decode c9_holding 18 = .ok (.iload 4, 2) := by decide +kernel
theorem d9_holding_20 : decode c9_holding 20 = .ok (.invokevirtual 316, 3) := by decide +kernel
theorem d9_holding_23 : decode c9_holding 23 = .ok (.ifCond .ne 6, 3) := by decide +kernel
theorem d9_holding_26 : decode c9_holding 26 = .ok (.bipush (-2), 2) := by decide +kernel
theorem d9_holding_28 : decode c9_holding 28 = .ok (.ireturn, 1) := by decide +kernel
theorem d9_holding_29 : decode c9_holding 29 = .ok (.aload_n 0, 1) := by decide +kernel
theorem d9_holding_30 : decode c9_holding 30 = .ok (.iload_n 1, 1) := by decide +kernel
theorem d9_holding_31 : decode c9_holding 31 = .ok (.iload_n 2, 1) := by decide +kernel
theorem d9_holding_32 : decode c9_holding 32 = .ok (.iload_n 3, 1) := by decide +kernel
theorem d9_holding_33 : decode c9_holding 33 = .ok (.iload 4, 2) := by decide +kernel
theorem d9_holding_35 : decode c9_holding 35 = .ok (.invokevirtual 319, 3) := by decide +kernel
theorem d9_holding_38 : decode c9_holding 38 = .ok (.aload_n 0, 1) := by decide +kernel
theorem d9_holding_39 : decode c9_holding 39 = .ok (.getfield 55, 3) := by decide +kernel
theorem d9_holding_42 : decode c9_holding 42 = .ok (.getfield 155, 3) := by decide +kernel
theorem d9_holding_45 : decode c9_holding 45 = .ok (.iload_n 1, 1) := by decide +kernel
theorem d9_holding_46 : decode c9_holding 46 = .ok (.iaload, 1) := by decide +kernel
theorem d9_holding_47 : decode c9_holding 47 = .ok (.ireturn, 1) := by decide +kernel
def f9_holding (D : Mem) (p0 : Int) (p1 : Int) (p2 : Int) (p3 : Int) : Option (Int × Mem) :=
  Option.bind (f9_areTwo D p0 p1) fun (a1 : Int) =>
  if w32 a1 = 0 then
    some ((-2), D)
  else
    Option.bind (f9_isHeldBack D p2) fun (a2 : Int) =>
    if w32 a2 = 0 then
      some ((-2), D)
    else
      Option.bind (f9_isHeldBack D p3) fun (a3 : Int) =>
      if w32 a3 = 0 then
        some ((-2), D)
      else
        Option.bind (f9_passHolding D p0 p1 p2 p3) fun (a4 : Mem) =>
        if 0 ≤ p0 ∧ p0 < 8 then
          some ((a4 42 p0.toNat), a4)
        else none
set_option maxHeartbeats 4000000 in
theorem ok9_holding {l : Launch} {X : XT} {n : Nat} {D : Mem} {Q : Option Value → Nat → Rho → Mem → Prop} (hn : 117 ≤ n) {p0 : Int} {p1 : Int} {p2 : Int} {p3 : Int}  (h : wpo (f9_holding D p0 p1 p2 p3) (fun a => Q (some (vI a.1)) n rt a.2)) : MOK l y9_holding c9_holding 5 (some .int) { frames := 4, cells := 0, slots := 0, locals := 92 } 0 0 X [vR X 0, vI p0, vI p1, vI p2, vI p3] n rt D Q := by
  refine MOK_of 9 (by decide +kernel) rfl (lv := [(0, vR X 0), (1, vI p0), (2, vI p1), (3, vI p2), (4, vI p3)]) (Nat.le_of_ble_eq_true rfl) rfl (fun K hK F hnm => ?_)
  subst hK
  unfold f9_holding at h
  refine r_aload_nR F 0 rfl rfl d9_holding_0 ?_
  refine r_iload_n F 1 rfl rfl d9_holding_1 ?_
  refine r_iload_n F 2 rfl rfl d9_holding_2 ?_
  replace h := wpo_bind h
  refine r_callV0 F lm9_306 mf9_areTwo (vc0 hn) rfl (fr := 1) (lo := 21) (As := [vI p0, vI p1]) (rest := []) ⟨Nat.le_of_ble_eq_true rfl, Nat.le_of_ble_eq_true rfl⟩ rfl (Nat.le_of_ble_eq_true rfl) ⟨Nat.zero_le _, Nat.zero_le _⟩ d9_holding_3 ?_
  refine ok9_areTwo hn  (kI h (fun a1 h => ?_))
  refine r_if_eq F (tgt := 26) d9_holding_6 (by decide) (fun hb => ?_) (fun hb => ?_)
  · replace h := wpo_pos h hb
    refine r_bipush F (z := (-2)) (by decide) d9_holding_26 ?_
    replace h := wpo_some h
    exact r_iret F h d9_holding_28
  · replace h := wpo_neg h hb
    refine r_aload_nR F 0 rfl rfl d9_holding_9 ?_
    refine r_iload_n F 3 rfl rfl d9_holding_10 ?_
    replace h := wpo_bind h
    refine r_callV0 F lm9_316 mf9_isHeldBack (vc0 hn) rfl (fr := 0) (lo := 0) (As := [vI p2]) (rest := []) ⟨Nat.le_of_ble_eq_true rfl, Nat.le_of_ble_eq_true rfl⟩ rfl (Nat.le_of_ble_eq_true rfl) ⟨Nat.zero_le _, Nat.zero_le _⟩ d9_holding_11 ?_
    refine ok9_isHeldBack hn  (kI h (fun a2 h => ?_))
    refine r_if_eq F (tgt := 26) d9_holding_14 (by decide) (fun hb => ?_) (fun hb => ?_)
    · replace h := wpo_pos h hb
      refine r_bipush F (z := (-2)) (by decide) d9_holding_26 ?_
      replace h := wpo_some h
      exact r_iret F h d9_holding_28
    · replace h := wpo_neg h hb
      refine r_aload_nR F 0 rfl rfl d9_holding_17 ?_
      refine r_iload F 4 rfl d9_holding_18 ?_
      replace h := wpo_bind h
      refine r_callV0 F lm9_316 mf9_isHeldBack (vc0 hn) rfl (fr := 0) (lo := 0) (As := [vI p3]) (rest := []) ⟨Nat.le_of_ble_eq_true rfl, Nat.le_of_ble_eq_true rfl⟩ rfl (Nat.le_of_ble_eq_true rfl) ⟨Nat.zero_le _, Nat.zero_le _⟩ d9_holding_20 ?_
      refine ok9_isHeldBack hn  (kI h (fun a3 h => ?_))
      refine r_if_ne F (tgt := 29) d9_holding_23 (by decide) (fun hb => ?_) (fun hb => ?_)
      · replace h := wpo_neg h hb
        refine r_aload_nR F 0 rfl rfl d9_holding_29 ?_
        refine r_iload_n F 1 rfl rfl d9_holding_30 ?_
        refine r_iload_n F 2 rfl rfl d9_holding_31 ?_
        refine r_iload_n F 3 rfl rfl d9_holding_32 ?_
        refine r_iload F 4 rfl d9_holding_33 ?_
        replace h := wpo_bind h
        refine r_callV0 F lm9_319 mf9_passHolding (vc0 hn) rfl (fr := 3) (lo := 68) (As := [vI p0, vI p1, vI p2, vI p3]) (rest := []) ⟨Nat.le_of_ble_eq_true rfl, Nat.le_of_ble_eq_true rfl⟩ rfl (Nat.le_of_ble_eq_true rfl) ⟨Nat.zero_le _, Nat.zero_le _⟩ d9_holding_35 ?_
        refine ok9_passHolding hn  (kVm h (fun a4 h => ?_))
        refine r_aload_nR F 0 rfl rfl d9_holding_38 ?_
        refine r_getR F (z := 36) lf9_55 (vc0 hn) z0_7 d9_holding_39 ?_
        refine r_getR F (z := 42) lf9_155 (vc36 hn) z36_10 d9_holding_42 ?_
        refine r_iload_n F 1 rfl rfl d9_holding_45 ?_
        obtain ⟨hx1, h⟩ := wpo_chk h
        refine r_iald F (vc42 hn) hx1 d9_holding_46 ?_
        replace h := wpo_some h
        exact r_iret F h d9_holding_47
      · replace h := wpo_pos h hb
        refine r_bipush F (z := (-2)) (by decide) d9_holding_26 ?_
        replace h := wpo_some h
        exact r_iret F h d9_holding_28
theorem d9_born_0 : decode c9_born 0 = .ok (.aload_n 0, 1) := by decide +kernel
theorem d9_born_1 : decode c9_born 1 = .ok (.iload_n 1, 1) := by decide +kernel
theorem d9_born_2 : decode c9_born 2 = .ok (.invokevirtual 143, 3) := by decide +kernel
theorem d9_born_5 : decode c9_born 5 = .ok (.ifCond .eq 11, 3) := by decide +kernel
theorem d9_born_8 : decode c9_born 8 = .ok (.aload_n 0, 1) := by decide +kernel
theorem d9_born_9 : decode c9_born 9 = .ok (.iload_n 2, 1) := by decide +kernel
theorem d9_born_10 : decode c9_born 10 = .ok (.invokevirtual 197, 3) := by decide +kernel
theorem d9_born_13 : decode c9_born 13 = .ok (.ifCond .ne 7, 3) := by decide +kernel
theorem d9_born_16 : decode c9_born 16 = .ok (.ldc2_w 242, 3) := by decide +kernel
theorem d9_born_19 : decode c9_born 19 = .ok (.lreturn, 1) := by decide +kernel
theorem d9_born_20 : decode c9_born 20 = .ok (.lconst 1, 1) := by decide +kernel
theorem d9_born_21 : decode c9_born 21 = .ok (.lstore_n 3, 1) := by decide +kernel
theorem d9_born_22 : decode c9_born 22 = .ok (.lconst 1, 1) := by decide +kernel
theorem d9_born_23 : decode c9_born 23 = .ok (.lstore 5, 2) := by decide +kernel
theorem d9_born_25 : decode c9_born 25 = .ok (.iconst 0, 1) := by decide +kernel
theorem d9_born_26 : decode c9_born 26 = .ok (.istore 7, 2) := by decide +kernel
theorem d9_born_28 : decode c9_born 28 = .ok (.iload 7, 2) := by decide +kernel
theorem d9_born_30 : decode c9_born 30 = .ok (.iload_n 1, 1) := by decide +kernel
theorem d9_born_31 : decode c9_born 31 = .ok (.if_icmp .gt 31, 3) := by decide +kernel
theorem d9_born_34 : decode c9_born 34 = .ok (.lload_n 3, 1) := by decide +kernel
theorem d9_born_35 : decode c9_born 35 = .ok (.ldc2_w 323, 3) := by decide +kernel
theorem d9_born_38 : decode c9_born 38 = .ok (.lmul, 1) := by decide +kernel
theorem d9_born_39 : decode c9_born 39 = .ok (.lstore_n 3, 1) := by decide +kernel
theorem d9_born_40 : decode c9_born 40 = .ok (.lload 5, 2) := by decide +kernel
theorem d9_born_42 : decode c9_born 42 = .ok (.bipush 10, 2) := by decide +kernel
theorem d9_born_44 : decode c9_born 44 = .ok (.aload_n 0, 1) := by decide +kernel
theorem d9_born_45 : decode c9_born 45 = .ok (.getfield 28, 3) := by decide +kernel
theorem d9_born_48 : decode c9_born 48 = .ok (.getfield 325, 3) := by decide +kernel
theorem d9_born_51 : decode c9_born 51 = .ok (.isub, 1) := by decide +kernel
theorem d9_born_52 : decode c9_born 52 = .ok (.i2l, 1) := by decide +kernel
theorem d9_born_53 : decode c9_born 53 = .ok (.lmul, 1) := by decide +kernel
theorem d9_born_54 : decode c9_born 54 = .ok (.lstore 5, 2) := by decide +kernel
theorem d9_born_56 : decode c9_born 56 = .ok (.iinc 7 1, 3) := by decide +kernel
theorem d9_born_59 : decode c9_born 59 = .ok (.goto (-31), 3) := by decide +kernel
theorem d9_born_62 : decode c9_born 62 = .ok (.lload_n 3, 1) := by decide +kernel
theorem d9_born_63 : decode c9_born 63 = .ok (.lload 5, 2) := by decide +kernel
theorem d9_born_65 : decode c9_born 65 = .ok (.lsub, 1) := by decide +kernel
theorem d9_born_66 : decode c9_born 66 = .ok (.lload_n 3, 1) := by decide +kernel
theorem d9_born_67 : decode c9_born 67 = .ok (.iload_n 2, 1) := by decide +kernel
theorem d9_born_68 : decode c9_born 68 = .ok (.invokestatic 200, 3) := by decide +kernel
theorem d9_born_71 : decode c9_born 71 = .ok (.lreturn, 1) := by decide +kernel
def f9_born (D : Mem) (p0 : Int) (p1 : Int) : Option (Int) :=
  Option.bind (f9_isNight D p0) fun (a1 : Int) =>
  if w32 a1 = 0 then
    some (-2)
  else
    Option.bind (f9_isPart D p1) fun (a2 : Int) =>
    if w32 a2 = 0 then
      some (-2)
    else
      Option.bind (@loop (Int × Int × Int) (Int × Int) (fun s1 =>
        if w32 p0 < w32 s1.2.2 then
          some (Sum.inr (s1.1, s1.2.1))
        else
          Option.bind (some (s1.2.1 * (w32 (10 - (D 12 7))))) fun (v1 : Int) =>
          some (Sum.inl ((s1.1 * 10), v1, (s1.2.2 + 1)))
      ) FU (1, 1, 0)) fun (b1 : Int × Int) =>
      Option.bind (f9_inLowestTerms D (b1.1 - b1.2) b1.1 p1) fun (a3 : Int) =>
      some a3
set_option maxHeartbeats 4000000 in
theorem ok9_born {l : Launch} {X : XT} {n : Nat} {D : Mem} {Q : Option Value → Nat → Rho → Mem → Prop} (hn : 117 ≤ n) {p0 : Int} {p1 : Int}  (h : wpo (f9_born D p0 p1) (fun a => Q (some (vL a)) n rt D)) : MOK l y9_born c9_born 8 (some .long) { frames := 2, cells := 0, slots := 0, locals := 54 } 0 0 X [vR X 0, vI p0, vI p1] n rt D Q := by
  refine MOK_of 9 (by decide +kernel) rfl (lv := [(0, vR X 0), (1, vI p0), (2, vI p1)]) (Nat.le_of_ble_eq_true rfl) rfl (fun K hK F hnm => ?_)
  subst hK
  unfold f9_born at h
  refine r_aload_nR F 0 rfl rfl d9_born_0 ?_
  refine r_iload_n F 1 rfl rfl d9_born_1 ?_
  replace h := wpo_bind h
  refine r_callV0 F lm9_143 mf9_isNight (vc0 hn) rfl (fr := 0) (lo := 0) (As := [vI p0]) (rest := []) ⟨Nat.le_of_ble_eq_true rfl, Nat.le_of_ble_eq_true rfl⟩ rfl (Nat.le_of_ble_eq_true rfl) ⟨Nat.zero_le _, Nat.zero_le _⟩ d9_born_2 ?_
  refine ok9_isNight hn  (kI h (fun a1 h => ?_))
  refine r_if_eq F (tgt := 16) d9_born_5 (by decide) (fun hb => ?_) (fun hb => ?_)
  · replace h := wpo_pos h hb
    refine r_ldc2 F (z := (-2)) lc9_242 d9_born_16 ?_
    replace h := wpo_some h
    exact r_lret F h d9_born_19
  · replace h := wpo_neg h hb
    refine r_aload_nR F 0 rfl rfl d9_born_8 ?_
    refine r_iload_n F 2 rfl rfl d9_born_9 ?_
    replace h := wpo_bind h
    refine r_callV0 F lm9_197 mf9_isPart (vc0 hn) rfl (fr := 0) (lo := 0) (As := [vI p1]) (rest := []) ⟨Nat.le_of_ble_eq_true rfl, Nat.le_of_ble_eq_true rfl⟩ rfl (Nat.le_of_ble_eq_true rfl) ⟨Nat.zero_le _, Nat.zero_le _⟩ d9_born_10 ?_
    refine ok9_isPart hn  (kI h (fun a2 h => ?_))
    refine r_if_ne F (tgt := 20) d9_born_13 (by decide) (fun hb => ?_) (fun hb => ?_)
    · replace h := wpo_neg h hb
      refine r_lconst F (x := 1) (by decide) d9_born_20 ?_
      refine r_lstore_n F (lv' := [(3, vL 1), (0, vR X 0), (1, vI p0), (2, vI p1)]) rfl (Nat.le_of_ble_eq_true rfl) rfl d9_born_21 ?_
      refine r_lconst F (x := 1) (by decide) d9_born_22 ?_
      refine r_lstore F (lv' := [(5, vL 1), (3, vL 1), (0, vR X 0), (1, vI p0), (2, vI p1)]) (Nat.le_of_ble_eq_true rfl) rfl d9_born_23 ?_
      refine r_iconst F (z := 0) d9_born_25 ?_
      refine r_istore F (lv' := [(7, vI 0), (5, vL 1), (3, vL 1), (0, vR X 0), (1, vI p0), (2, vI p1)]) (Nat.le_of_ble_eq_true rfl) rfl d9_born_26 ?_
      refine r_weak [3, 4, 5, 2, 1, 0] rfl ?_
      refine at_loopj (A := fun (s1 : Int × Int × Int) => At K X (ZQ K X Q) 0 0 n rt 8 28 [(0, vR X 0), (1, vI p0), (2, vI p1), (3, vL s1.1), (5, vL s1.2.1), (7, vI s1.2.2)] [] D) (B := fun (b1 : Int × Int) => At K X (ZQ K X Q) 0 0 n rt 8 62 [(2, vI p1), (3, vL b1.1), (5, vL b1.2)] [] D) h (fun b1 h => ?_) (fun s1 h => ?_)
      · refine r_lload_n F 1 rfl rfl d9_born_62 ?_
        refine r_lload F 2 rfl d9_born_63 ?_
        refine r_lsub F d9_born_65 ?_
        refine r_lload_n F 1 rfl rfl d9_born_66 ?_
        refine r_iload_n F 0 rfl rfl d9_born_67 ?_
        replace h := wpo_bind h
        refine r_callS0 F lm9_200 mf9_inLowestTerms rfl (fr := 1) (lo := 26) (As := [vL (b1.1 - b1.2), vL b1.1, vI p1]) (rest := []) ⟨Nat.le_of_ble_eq_true rfl, Nat.le_of_ble_eq_true rfl⟩ rfl (Nat.le_of_ble_eq_true rfl) ⟨Nat.zero_le _, Nat.zero_le _⟩ d9_born_68 ?_
        refine ok9_inLowestTerms hn  (kL h (fun a3 h => ?_))
        replace h := wpo_some h
        exact r_lret F h d9_born_71
      · refine r_iload F 5 rfl d9_born_28 ?_
        refine r_iload_n F 1 rfl rfl d9_born_30 ?_
        refine r_icmp_gt F (tgt := 62) d9_born_31 (by decide) (fun hb => ?_) (fun hb => ?_)
        · replace h := wpo_pos h hb
          refine r_weak [2, 3, 4] rfl ?_
          replace h := wpo_inr h
          exact h
        · replace h := wpo_neg h hb
          refine r_lload_n F 3 rfl rfl d9_born_34 ?_
          refine r_ldc2 F (z := 10) lc9_323 d9_born_35 ?_
          refine r_lmul F d9_born_38 ?_
          refine r_lstore_n F (lv' := [(3, vL (s1.1 * 10)), (0, vR X 0), (1, vI p0), (2, vI p1), (5, vL s1.2.1), (7, vI s1.2.2)]) rfl (Nat.le_of_ble_eq_true rfl) rfl d9_born_39 ?_
          refine r_lload F 4 rfl d9_born_40 ?_
          refine r_bipush F (z := 10) (by decide) d9_born_42 ?_
          refine r_aload_nR F 1 rfl rfl d9_born_44 ?_
          refine r_getR F (z := 12) lf9_28 (vc0 hn) z0_2 d9_born_45 ?_
          refine r_getI F lf9_325 (vc12 hn) d9_born_48 ?_
          refine r_isub F d9_born_51 ?_
          refine r_i2l F d9_born_52 ?_
          refine r_lmul F d9_born_53 ?_
          refine r_lstore F (lv' := [(5, vL (s1.2.1 * (w32 (10 - (D 12 7))))), (3, vL (s1.1 * 10)), (0, vR X 0), (1, vI p0), (2, vI p1), (7, vI s1.2.2)]) (Nat.le_of_ble_eq_true rfl) rfl d9_born_54 ?_
          refine at_name (B := fun (v1 : Int) => At K X (ZQ K X Q) 0 0 n rt 8 56 [(5, vL v1), (3, vL (s1.1 * 10)), (0, vR X 0), (1, vI p0), (2, vI p1), (7, vI s1.2.2)] [] D) h (fun v1 h => ?_)
          refine r_iinc F 5 (lv' := [(7, vI (s1.2.2 + 1)), (5, vL v1), (3, vL (s1.1 * 10)), (0, vR X 0), (1, vI p0), (2, vI p1)]) rfl (Nat.le_of_ble_eq_true rfl) rfl d9_born_56 ?_
          refine r_goto F (tgt := 28) (by decide) d9_born_59 ?_
          refine r_weak [3, 4, 5, 2, 1, 0] rfl ?_
          replace h := wpo_inl h
          exact h
    · replace h := wpo_pos h hb
      refine r_ldc2 F (z := (-2)) lc9_242 d9_born_16 ?_
      replace h := wpo_some h
      exact r_lret F h d9_born_19
theorem d9_passBorn_0 : decode c9_passBorn 0 = .ok (.aload_n 0, 1) := by decide +kernel
theorem d9_passBorn_1 : decode c9_passBorn 1 = .ok (.getfield 55, 3) := by decide +kernel
theorem d9_passBorn_4 : decode c9_passBorn 4 = .ok (.invokevirtual 205, 3) := by decide +kernel
theorem d9_passBorn_7 : decode c9_passBorn 7 = .ok (.aload_n 0, 1) := by decide +kernel
theorem d9_passBorn_8 : decode c9_passBorn 8 = .ok (.getfield 55, 3) := by decide +kernel
theorem d9_passBorn_11 : decode c9_passBorn 11 = .ok (.iload_n 1, 1) := by decide +kernel
theorem d9_passBorn_12 : decode c9_passBorn 12 = .ok (.putfield 404, 3) := by decide +kernel
theorem d9_passBorn_15 : decode c9_passBorn 15 = .ok (.aload_n 0, 1) := by decide +kernel
theorem d9_passBorn_16 : decode c9_passBorn 16 = .ok (.getfield 55, 3) := by decide +kernel
theorem d9_passBorn_19 : decode c9_passBorn 19 = .ok (.invokevirtual 209, 3) := by decide +kernel
theorem d9_passBorn_22 : decode c9_passBorn 22 = .ok (.return_, 1) := by decide +kernel
def f9_passBorn (D : Mem) (p0 : Int) : Option (Mem) :=
  Option.bind (f8_prepare D 36) fun (a1 : Mem) =>
  Option.bind (some (mset a1 36 3 p0)) fun (D1 : Mem) =>
  Option.bind (f8_pass D1 36) fun (a2 : Mem) =>
  some a2
set_option maxHeartbeats 4000000 in
theorem ok9_passBorn {l : Launch} {X : XT} {n : Nat} {D : Mem} {Q : Option Value → Nat → Rho → Mem → Prop} (hn : 117 ≤ n) {p0 : Int}  (h : wpo (f9_passBorn D p0) (fun a => Q none n rt a)) : MOK l y9_passBorn c9_passBorn 2 (none) { frames := 3, cells := 0, slots := 0, locals := 68 } 0 0 X [vR X 0, vI p0] n rt D Q := by
  refine MOK_of 9 (by decide +kernel) rfl (lv := [(0, vR X 0), (1, vI p0)]) (Nat.le_of_ble_eq_true rfl) rfl (fun K hK F hnm => ?_)
  subst hK
  unfold f9_passBorn at h
  refine r_aload_nR F 0 rfl rfl d9_passBorn_0 ?_
  refine r_getR F (z := 36) lf9_55 (vc0 hn) z0_7 d9_passBorn_1 ?_
  replace h := wpo_bind h
  refine r_callV0 F lm9_205 mf8_prepare (vc36 hn) rfl (fr := 1) (lo := 26) (As := []) (rest := []) ⟨Nat.le_of_ble_eq_true rfl, Nat.le_of_ble_eq_true rfl⟩ rfl (Nat.le_of_ble_eq_true rfl) ⟨Nat.zero_le _, Nat.zero_le _⟩ d9_passBorn_4 ?_
  refine ok8_prepare hn (vc36 hn) (kVm h (fun a1 h => ?_))
  refine r_aload_nR F 0 rfl rfl d9_passBorn_7 ?_
  refine r_getR F (z := 36) lf9_55 (vc0 hn) z0_7 d9_passBorn_8 ?_
  refine r_iload_n F 1 rfl rfl d9_passBorn_11 ?_
  refine r_putI F lf9_404 rfl rfl (vc36 hn) d9_passBorn_12 ?_
  refine r_aload_nR F 0 rfl rfl d9_passBorn_15 ?_
  refine r_getR F (z := 36) lf9_55 (vc0 hn) z0_7 d9_passBorn_16 ?_
  refine at_name (B := fun (D1 : Mem) => At K X (ZQ K X Q) 0 0 n rt 2 19 [(0, vR X 0), (1, vI p0)] [vR X 36] D1) h (fun D1 h => ?_)
  replace h := wpo_bind h
  refine r_callV0 F lm9_209 mf8_pass (vc36 hn) rfl (fr := 2) (lo := 44) (As := []) (rest := []) ⟨Nat.le_of_ble_eq_true rfl, Nat.le_of_ble_eq_true rfl⟩ rfl (Nat.le_of_ble_eq_true rfl) ⟨Nat.zero_le _, Nat.zero_le _⟩ d9_passBorn_19 ?_
  refine ok8_pass hn (vc36 hn) (kVm h (fun a2 h => ?_))
  replace h := wpo_some h
  exact r_vret F h d9_passBorn_22
theorem d9_mean_0 : decode c9_mean 0 = .ok (.aload_n 0, 1) := by decide +kernel
theorem d9_mean_1 : decode c9_mean 1 = .ok (.invokevirtual 159, 3) := by decide +kernel
theorem d9_mean_4 : decode c9_mean 4 = .ok (.ifCond .eq 11, 3) := by decide +kernel
theorem d9_mean_7 : decode c9_mean 7 = .ok (.aload_n 0, 1) := by decide +kernel
theorem d9_mean_8 : decode c9_mean 8 = .ok (.iload_n 1, 1) := by decide +kernel
theorem d9_mean_9 : decode c9_mean 9 = .ok (.invokevirtual 197, 3) := by decide +kernel
theorem d9_mean_12 : decode c9_mean 12 = .ok (.ifCond .ne 7, 3) := by decide +kernel
theorem d9_mean_15 : decode c9_mean 15 = .ok (.ldc2_w 242, 3) := by decide +kernel
theorem d9_mean_18 : decode c9_mean 18 = .ok (.lreturn, 1) := by decide +kernel
theorem d9_mean_19 : decode c9_mean 19 = .ok (.lconst 0, 1) := by decide +kernel
theorem d9_mean_20 : decode c9_mean 20 = .ok (.lstore_n 2, 1) := by decide +kernel
theorem d9_mean_21 : decode c9_mean 21 = .ok (.lconst 1, 1) := by decide +kernel
theorem d9_mean_22 : decode c9_mean 22 = .ok (.lstore 4, 2) := by decide +kernel
theorem d9_mean_24 : decode c9_mean 24 = .ok (.lconst 1, 1) := by decide +kernel
theorem d9_mean_25 : decode c9_mean 25 = .ok (.lstore 6, 2) := by decide +kernel
theorem d9_mean_27 : decode c9_mean 27 = .ok (.iconst 0, 1) := by decide +kernel
theorem d9_mean_28 : decode c9_mean 28 = .ok (.istore 8, 2) := by decide +kernel
theorem d9_mean_30 : decode c9_mean 30 = .ok (.iload 8, 2) := by decide +kernel
theorem d9_mean_32 : decode c9_mean 32 = .ok (.aload_n 0, 1) := by decide +kernel
theorem d9_mean_33 : decode c9_mean 33 = .ok (.getfield 28, 3) := by decide +kernel
theorem d9_mean_36 : decode c9_mean 36 = .ok (.getfield 168, 3) := by decide +kernel
theorem d9_mean_39 : decode c9_mean 39 = .ok (.if_icmp .ge 66, 3) := by decide +kernel
theorem d9_mean_42 : decode c9_mean 42 = .ok (.aload_n 0, 1) := by decide +kernel
theorem d9_mean_43 : decode c9_mean 43 = .ok (.iload 8, 2) := by decide +kernel
theorem d9_mean_45 : decode c9_mean 45 = .ok (.invokevirtual 328, 3) := by decide +kernel
theorem d9_mean_48 : decode c9_mean 48 = .ok (.lload_n 2, 1) := by decide +kernel
theorem d9_mean_49 : decode c9_mean 49 = .ok (.ldc2_w 323, 3) := by decide +kernel
theorem d9_mean_52 : decode c9_mean 52 = .ok (.lmul, 1) := by decide +kernel
theorem d9_mean_53 : decode c9_mean 53 = .ok (.lload 4, 2) := by decide +kernel
theorem d9_mean_55 : decode c9_mean 55 = .ok (.aload_n 0, 1) := by decide +kernel
theorem d9_mean_56 : decode c9_mean 56 = .ok (.getfield 28, 3) := by decide +kernel
theorem d9_mean_59 : decode c9_mean 59 = .ok (.getfield 325, 3) := by decide +kernel
theorem d9_mean_62 : decode c9_mean 62 = .ok (.i2l, 1) := by decide +kernel
theorem d9_mean_63 : decode c9_mean 63 = .ok (.lmul, 1) := by decide +kernel
theorem d9_mean_64 : decode c9_mean 64 = .ok (.aload_n 0, 1) := by decide +kernel
theorem d9_mean_65 : decode c9_mean 65 = .ok (.getfield 55, 3) := by decide +kernel
theorem d9_mean_68 : decode c9_mean 68 = .ok (.getfield 162, 3) := by decide +kernel
theorem d9_mean_71 : decode c9_mean 71 = .ok (.i2l, 1) := by decide +kernel
theorem d9_mean_72 : decode c9_mean 72 = .ok (.lmul, 1) := by decide +kernel
theorem d9_mean_73 : decode c9_mean 73 = .ok (.ladd, 1) := by decide +kernel
theorem d9_mean_74 : decode c9_mean 74 = .ok (.lstore_n 2, 1) := by decide +kernel
theorem d9_mean_75 : decode c9_mean 75 = .ok (.lload 4, 2) := by decide +kernel
theorem d9_mean_77 : decode c9_mean 77 = .ok (.bipush 10, 2) := by decide +kernel
theorem d9_mean_79 : decode c9_mean 79 = .ok (.aload_n 0, 1) := by decide +kernel
theorem d9_mean_80 : decode c9_mean 80 = .ok (.getfield 28, 3) := by decide +kernel
theorem d9_mean_83 : decode c9_mean 83 = .ok (.getfield 325, 3) := by decide +kernel
theorem d9_mean_86 : decode c9_mean 86 = .ok (.isub, 1) := by decide +kernel
theorem d9_mean_87 : decode c9_mean 87 = .ok (.i2l, 1) := by decide +kernel
theorem d9_mean_88 : decode c9_mean 88 = .ok (.lmul, 1) := by decide +kernel
theorem d9_mean_89 : decode c9_mean 89 = .ok (.lstore 4, 2) := by decide +kernel
theorem d9_mean_91 : decode c9_mean 91 = .ok (.lload 6, 2) := by decide +kernel
theorem d9_mean_93 : decode c9_mean 93 = .ok (.ldc2_w 323, 3) := by decide +kernel
theorem d9_mean_96 : decode c9_mean 96 = .ok (.lmul, 1) := by decide +kernel
theorem d9_mean_97 : decode c9_mean 97 = .ok (.lstore 6, 2) := by decide +kernel
theorem d9_mean_99 : decode c9_mean 99 = .ok (.iinc 8 1, 3) := by decide +kernel
theorem d9_mean_102 : decode c9_mean 102 = .ok (.goto (-72), 3) := by decide +kernel
theorem d9_mean_105 : decode c9_mean 105 = .ok (.aload_n 0, 1) := by decide +kernel
theorem d9_mean_106 : decode c9_mean 106 = .ok (.bipush 100, 2) := by decide +kernel
theorem d9_mean_108 : decode c9_mean 108 = .ok (.invokevirtual 328, 3) := by decide +kernel
theorem d9_mean_111 : decode c9_mean 111 = .ok (.lload_n 2, 1) := by decide +kernel
theorem d9_mean_112 : decode c9_mean 112 = .ok (.lload 4, 2) := by decide +kernel
theorem d9_mean_114 : decode c9_mean 114 = .ok (.aload_n 0, 1) := by decide +kernel
theorem d9_mean_115 : decode c9_mean 115 = .ok (.getfield 55, 3) := by decide +kernel
theorem d9_mean_118 : decode c9_mean 118 = .ok (.getfield 162, 3) := by decide +kernel
theorem d9_mean_121 : decode c9_mean 121 = .ok (.i2l, 1) := by decide +kernel
theorem d9_mean_122 : decode c9_mean 122 = .ok (.lmul, 1) := by decide +kernel
theorem d9_mean_123 : decode c9_mean 123 = .ok (.ladd, 1) := by decide +kernel
theorem d9_mean_124 : decode c9_mean 124 = .ok (.lload 6, 2) := by decide +kernel
theorem d9_mean_126 : decode c9_mean 126 = .ok (.iload_n 1, 1) := by decide +kernel
theorem d9_mean_127 : decode c9_mean 127 = .ok (.invokestatic 200, 3) := by decide +kernel
theorem d9_mean_130 : decode c9_mean 130 = .ok (.lreturn, 1) := by decide +kernel
def f9_mean (D : Mem) (p0 : Int) : Option (Int × Mem) :=
  Option.bind (f9_isThere D) fun (a1 : Int) =>
  if w32 a1 = 0 then
    some ((-2), D)
  else
    Option.bind (f9_isPart D p0) fun (a2 : Int) =>
    if w32 a2 = 0 then
      some ((-2), D)
    else
      Option.bind (@loop (Int × Int × Int × Int × Mem) (Int × Int × Int × Mem) (fun s1 =>
        if w32 s1.2.2.2.1 < w32 (s1.2.2.2.2 12 1) then
          Option.bind (f9_passBorn s1.2.2.2.2 s1.2.2.2.1) fun (a3 : Mem) =>
          Option.bind (some ((s1.1 * 10) + ((s1.2.1 * (w32 (a3 12 7))) * (w32 (a3 36 4))))) fun (v1 : Int) =>
          Option.bind (some (s1.2.1 * (w32 (10 - (a3 12 7))))) fun (v2 : Int) =>
          some (Sum.inl (v1, v2, (s1.2.2.1 * 10), (s1.2.2.2.1 + 1), a3))
        else
          some (Sum.inr (s1.1, s1.2.1, s1.2.2.1, s1.2.2.2.2))
      ) FU (0, 1, 1, 0, D)) fun (b1 : Int × Int × Int × Mem) =>
      Option.bind (f9_passBorn b1.2.2.2 100) fun (a4 : Mem) =>
      Option.bind (f9_inLowestTerms a4 (b1.1 + (b1.2.1 * (w32 (a4 36 4)))) b1.2.2.1 p0) fun (a5 : Int) =>
      some (a5, a4)
set_option maxHeartbeats 4000000 in
theorem ok9_mean {l : Launch} {X : XT} {n : Nat} {D : Mem} {Q : Option Value → Nat → Rho → Mem → Prop} (hn : 117 ≤ n) {p0 : Int}  (h : wpo (f9_mean D p0) (fun a => Q (some (vL a.1)) n rt a.2)) : MOK l y9_mean c9_mean 9 (some .long) { frames := 4, cells := 0, slots := 0, locals := 89 } 0 0 X [vR X 0, vI p0] n rt D Q := by
  refine MOK_of 9 (by decide +kernel) rfl (lv := [(0, vR X 0), (1, vI p0)]) (Nat.le_of_ble_eq_true rfl) rfl (fun K hK F hnm => ?_)
  subst hK
  unfold f9_mean at h
  refine r_aload_nR F 0 rfl rfl d9_mean_0 ?_
  replace h := wpo_bind h
  refine r_callV0 F lm9_159 mf9_isThere (vc0 hn) rfl (fr := 0) (lo := 0) (As := []) (rest := []) ⟨Nat.le_of_ble_eq_true rfl, Nat.le_of_ble_eq_true rfl⟩ rfl (Nat.le_of_ble_eq_true rfl) ⟨Nat.zero_le _, Nat.zero_le _⟩ d9_mean_1 ?_
  refine ok9_isThere hn  (kI h (fun a1 h => ?_))
  refine r_if_eq F (tgt := 15) d9_mean_4 (by decide) (fun hb => ?_) (fun hb => ?_)
  · replace h := wpo_pos h hb
    refine r_ldc2 F (z := (-2)) lc9_242 d9_mean_15 ?_
    replace h := wpo_some h
    exact r_lret F h d9_mean_18
  · replace h := wpo_neg h hb
    refine r_aload_nR F 0 rfl rfl d9_mean_7 ?_
    refine r_iload_n F 1 rfl rfl d9_mean_8 ?_
    replace h := wpo_bind h
    refine r_callV0 F lm9_197 mf9_isPart (vc0 hn) rfl (fr := 0) (lo := 0) (As := [vI p0]) (rest := []) ⟨Nat.le_of_ble_eq_true rfl, Nat.le_of_ble_eq_true rfl⟩ rfl (Nat.le_of_ble_eq_true rfl) ⟨Nat.zero_le _, Nat.zero_le _⟩ d9_mean_9 ?_
    refine ok9_isPart hn  (kI h (fun a2 h => ?_))
    refine r_if_ne F (tgt := 19) d9_mean_12 (by decide) (fun hb => ?_) (fun hb => ?_)
    · replace h := wpo_neg h hb
      refine r_lconst F (x := 0) (by decide) d9_mean_19 ?_
      refine r_lstore_n F (lv' := [(2, vL 0), (0, vR X 0), (1, vI p0)]) rfl (Nat.le_of_ble_eq_true rfl) rfl d9_mean_20 ?_
      refine r_lconst F (x := 1) (by decide) d9_mean_21 ?_
      refine r_lstore F (lv' := [(4, vL 1), (2, vL 0), (0, vR X 0), (1, vI p0)]) (Nat.le_of_ble_eq_true rfl) rfl d9_mean_22 ?_
      refine r_lconst F (x := 1) (by decide) d9_mean_24 ?_
      refine r_lstore F (lv' := [(6, vL 1), (4, vL 1), (2, vL 0), (0, vR X 0), (1, vI p0)]) (Nat.le_of_ble_eq_true rfl) rfl d9_mean_25 ?_
      refine r_iconst F (z := 0) d9_mean_27 ?_
      refine r_istore F (lv' := [(8, vI 0), (6, vL 1), (4, vL 1), (2, vL 0), (0, vR X 0), (1, vI p0)]) (Nat.le_of_ble_eq_true rfl) rfl d9_mean_28 ?_
      refine r_weak [4, 5, 3, 2, 1, 0] rfl ?_
      refine at_loopj (A := fun (s1 : Int × Int × Int × Int × Mem) => At K X (ZQ K X Q) 0 0 n rt 9 30 [(0, vR X 0), (1, vI p0), (2, vL s1.1), (4, vL s1.2.1), (6, vL s1.2.2.1), (8, vI s1.2.2.2.1)] [] s1.2.2.2.2) (B := fun (b1 : Int × Int × Int × Mem) => At K X (ZQ K X Q) 0 0 n rt 9 105 [(0, vR X 0), (1, vI p0), (2, vL b1.1), (4, vL b1.2.1), (6, vL b1.2.2.1)] [] b1.2.2.2) h (fun b1 h => ?_) (fun s1 h => ?_)
      · refine r_aload_nR F 0 rfl rfl d9_mean_105 ?_
        refine r_bipush F (z := 100) (by decide) d9_mean_106 ?_
        replace h := wpo_bind h
        refine r_callV0 F lm9_328 mf9_passBorn (vc0 hn) rfl (fr := 3) (lo := 68) (As := [vI 100]) (rest := []) ⟨Nat.le_of_ble_eq_true rfl, Nat.le_of_ble_eq_true rfl⟩ rfl (Nat.le_of_ble_eq_true rfl) ⟨Nat.zero_le _, Nat.zero_le _⟩ d9_mean_108 ?_
        refine ok9_passBorn hn  (kVm h (fun a4 h => ?_))
        refine r_lload_n F 2 rfl rfl d9_mean_111 ?_
        refine r_lload F 3 rfl d9_mean_112 ?_
        refine r_aload_nR F 0 rfl rfl d9_mean_114 ?_
        refine r_getR F (z := 36) lf9_55 (vc0 hn) z0_7 d9_mean_115 ?_
        refine r_getI F lf9_162 (vc36 hn) d9_mean_118 ?_
        refine r_i2l F d9_mean_121 ?_
        refine r_lmul F d9_mean_122 ?_
        refine r_ladd F d9_mean_123 ?_
        refine r_lload F 4 rfl d9_mean_124 ?_
        refine r_iload_n F 1 rfl rfl d9_mean_126 ?_
        replace h := wpo_bind h
        refine r_callS0 F lm9_200 mf9_inLowestTerms rfl (fr := 1) (lo := 26) (As := [vL (b1.1 + (b1.2.1 * (w32 (a4 36 4)))), vL b1.2.2.1, vI p0]) (rest := []) ⟨Nat.le_of_ble_eq_true rfl, Nat.le_of_ble_eq_true rfl⟩ rfl (Nat.le_of_ble_eq_true rfl) ⟨Nat.zero_le _, Nat.zero_le _⟩ d9_mean_127 ?_
        refine ok9_inLowestTerms hn  (kL h (fun a5 h => ?_))
        replace h := wpo_some h
        exact r_lret F h d9_mean_130
      · refine r_iload F 5 rfl d9_mean_30 ?_
        refine r_aload_nR F 0 rfl rfl d9_mean_32 ?_
        refine r_getR F (z := 12) lf9_28 (vc0 hn) z0_2 d9_mean_33 ?_
        refine r_getI F lf9_168 (vc12 hn) d9_mean_36 ?_
        refine r_icmp_ge F (tgt := 105) d9_mean_39 (by decide) (fun hb => ?_) (fun hb => ?_)
        · replace h := wpo_neg h hb
          refine r_weak [0, 1, 2, 3, 4] rfl ?_
          replace h := wpo_inr h
          exact h
        · replace h := wpo_pos h hb
          refine r_aload_nR F 0 rfl rfl d9_mean_42 ?_
          refine r_iload F 5 rfl d9_mean_43 ?_
          replace h := wpo_bind h
          refine r_callV0 F lm9_328 mf9_passBorn (vc0 hn) rfl (fr := 3) (lo := 68) (As := [vI s1.2.2.2.1]) (rest := []) ⟨Nat.le_of_ble_eq_true rfl, Nat.le_of_ble_eq_true rfl⟩ rfl (Nat.le_of_ble_eq_true rfl) ⟨Nat.zero_le _, Nat.zero_le _⟩ d9_mean_45 ?_
          refine ok9_passBorn hn  (kVm h (fun a3 h => ?_))
          refine r_lload_n F 2 rfl rfl d9_mean_48 ?_
          refine r_ldc2 F (z := 10) lc9_323 d9_mean_49 ?_
          refine r_lmul F d9_mean_52 ?_
          refine r_lload F 3 rfl d9_mean_53 ?_
          refine r_aload_nR F 0 rfl rfl d9_mean_55 ?_
          refine r_getR F (z := 12) lf9_28 (vc0 hn) z0_2 d9_mean_56 ?_
          refine r_getI F lf9_325 (vc12 hn) d9_mean_59 ?_
          refine r_i2l F d9_mean_62 ?_
          refine r_lmul F d9_mean_63 ?_
          refine r_aload_nR F 0 rfl rfl d9_mean_64 ?_
          refine r_getR F (z := 36) lf9_55 (vc0 hn) z0_7 d9_mean_65 ?_
          refine r_getI F lf9_162 (vc36 hn) d9_mean_68 ?_
          refine r_i2l F d9_mean_71 ?_
          refine r_lmul F d9_mean_72 ?_
          refine r_ladd F d9_mean_73 ?_
          refine r_lstore_n F (lv' := [(2, vL ((s1.1 * 10) + ((s1.2.1 * (w32 (a3 12 7))) * (w32 (a3 36 4))))), (0, vR X 0), (1, vI p0), (4, vL s1.2.1), (6, vL s1.2.2.1), (8, vI s1.2.2.2.1)]) rfl (Nat.le_of_ble_eq_true rfl) rfl d9_mean_74 ?_
          refine at_name (B := fun (v1 : Int) => At K X (ZQ K X Q) 0 0 n rt 9 75 [(2, vL v1), (0, vR X 0), (1, vI p0), (4, vL s1.2.1), (6, vL s1.2.2.1), (8, vI s1.2.2.2.1)] [] a3) h (fun v1 h => ?_)
          refine r_lload F 3 rfl d9_mean_75 ?_
          refine r_bipush F (z := 10) (by decide) d9_mean_77 ?_
          refine r_aload_nR F 1 rfl rfl d9_mean_79 ?_
          refine r_getR F (z := 12) lf9_28 (vc0 hn) z0_2 d9_mean_80 ?_
          refine r_getI F lf9_325 (vc12 hn) d9_mean_83 ?_
          refine r_isub F d9_mean_86 ?_
          refine r_i2l F d9_mean_87 ?_
          refine r_lmul F d9_mean_88 ?_
          refine r_lstore F (lv' := [(4, vL (s1.2.1 * (w32 (10 - (a3 12 7))))), (2, vL v1), (0, vR X 0), (1, vI p0), (6, vL s1.2.2.1), (8, vI s1.2.2.2.1)]) (Nat.le_of_ble_eq_true rfl) rfl d9_mean_89 ?_
          refine at_name (B := fun (v2 : Int) => At K X (ZQ K X Q) 0 0 n rt 9 91 [(4, vL v2), (2, vL v1), (0, vR X 0), (1, vI p0), (6, vL s1.2.2.1), (8, vI s1.2.2.2.1)] [] a3) h (fun v2 h => ?_)
          refine r_lload F 4 rfl d9_mean_91 ?_
          refine r_ldc2 F (z := 10) lc9_323 d9_mean_93 ?_
          refine r_lmul F d9_mean_96 ?_
          refine r_lstore F (lv' := [(6, vL (s1.2.2.1 * 10)), (4, vL v2), (2, vL v1), (0, vR X 0), (1, vI p0), (8, vI s1.2.2.2.1)]) (Nat.le_of_ble_eq_true rfl) rfl d9_mean_97 ?_
          refine r_iinc F 5 (lv' := [(8, vI (s1.2.2.2.1 + 1)), (6, vL (s1.2.2.1 * 10)), (4, vL v2), (2, vL v1), (0, vR X 0), (1, vI p0)]) rfl (Nat.le_of_ble_eq_true rfl) rfl d9_mean_99 ?_
          refine r_goto F (tgt := 30) (by decide) d9_mean_102 ?_
          refine r_weak [4, 5, 3, 2, 1, 0] rfl ?_
          replace h := wpo_inl h
          exact h
    · replace h := wpo_pos h hb
      refine r_ldc2 F (z := (-2)) lc9_242 d9_mean_15 ?_
      replace h := wpo_some h
      exact r_lret F h d9_mean_18
theorem d9_late_0 : decode c9_late 0 = .ok (.aload_n 0, 1) := by decide +kernel
theorem d9_late_1 : decode c9_late 1 = .ok (.iload_n 1, 1) := by decide +kernel
theorem d9_late_2 : decode c9_late 2 = .ok (.invokevirtual 143, 3) := by decide +kernel
theorem d9_late_5 : decode c9_late 5 = .ok (.ifCond .ne 6, 3) := by decide +kernel
theorem d9_late_8 : decode c9_late 8 = .ok (.bipush (-2), 2) := by decide +kernel
theorem d9_late_10 : decode c9_late 10 = .ok (.ireturn, 1) := by decide +kernel
theorem d9_late_11 : decode c9_late 11 = .ok (.aload_n 0, 1) := by decide +kernel
theorem d9_late_12 : decode c9_late 12 = .ok (.iload_n 1, 1) := by decide +kernel
theorem d9_late_13 : decode c9_late 13 = .ok (.invokevirtual 328, 3) := by decide +kernel
theorem d9_late_16 : decode c9_late 16 = .ok (.aload_n 0, 1) := by decide +kernel
theorem d9_late_17 : decode c9_late 17 = .ok (.getfield 55, 3) := by decide +kernel
theorem d9_late_20 : decode c9_late 20 = .ok (.getfield 162, 3) := by decide +kernel
theorem d9_late_23 : decode c9_late 23 = .ok (.ireturn, 1) := by decide +kernel
def f9_late (D : Mem) (p0 : Int) : Option (Int × Mem) :=
  Option.bind (f9_isNight D p0) fun (a1 : Int) =>
  if w32 a1 = 0 then
    some ((-2), D)
  else
    Option.bind (f9_passBorn D p0) fun (a2 : Mem) =>
    some ((a2 36 4), a2)
set_option maxHeartbeats 4000000 in
theorem ok9_late {l : Launch} {X : XT} {n : Nat} {D : Mem} {Q : Option Value → Nat → Rho → Mem → Prop} (hn : 117 ≤ n) {p0 : Int}  (h : wpo (f9_late D p0) (fun a => Q (some (vI a.1)) n rt a.2)) : MOK l y9_late c9_late 2 (some .int) { frames := 4, cells := 0, slots := 0, locals := 89 } 0 0 X [vR X 0, vI p0] n rt D Q := by
  refine MOK_of 9 (by decide +kernel) rfl (lv := [(0, vR X 0), (1, vI p0)]) (Nat.le_of_ble_eq_true rfl) rfl (fun K hK F hnm => ?_)
  subst hK
  unfold f9_late at h
  refine r_aload_nR F 0 rfl rfl d9_late_0 ?_
  refine r_iload_n F 1 rfl rfl d9_late_1 ?_
  replace h := wpo_bind h
  refine r_callV0 F lm9_143 mf9_isNight (vc0 hn) rfl (fr := 0) (lo := 0) (As := [vI p0]) (rest := []) ⟨Nat.le_of_ble_eq_true rfl, Nat.le_of_ble_eq_true rfl⟩ rfl (Nat.le_of_ble_eq_true rfl) ⟨Nat.zero_le _, Nat.zero_le _⟩ d9_late_2 ?_
  refine ok9_isNight hn  (kI h (fun a1 h => ?_))
  refine r_if_ne F (tgt := 11) d9_late_5 (by decide) (fun hb => ?_) (fun hb => ?_)
  · replace h := wpo_neg h hb
    refine r_aload_nR F 0 rfl rfl d9_late_11 ?_
    refine r_iload_n F 1 rfl rfl d9_late_12 ?_
    replace h := wpo_bind h
    refine r_callV0 F lm9_328 mf9_passBorn (vc0 hn) rfl (fr := 3) (lo := 68) (As := [vI p0]) (rest := []) ⟨Nat.le_of_ble_eq_true rfl, Nat.le_of_ble_eq_true rfl⟩ rfl (Nat.le_of_ble_eq_true rfl) ⟨Nat.zero_le _, Nat.zero_le _⟩ d9_late_13 ?_
    refine ok9_passBorn hn  (kVm h (fun a2 h => ?_))
    refine r_aload_nR F 0 rfl rfl d9_late_16 ?_
    refine r_getR F (z := 36) lf9_55 (vc0 hn) z0_7 d9_late_17 ?_
    refine r_getI F lf9_162 (vc36 hn) d9_late_20 ?_
    replace h := wpo_some h
    exact r_iret F h d9_late_23
  · replace h := wpo_pos h hb
    refine r_bipush F (z := (-2)) (by decide) d9_late_8 ?_
    replace h := wpo_some h
    exact r_iret F h d9_late_10
theorem d9_isSeed_0 : decode c9_isSeed 0 = .ok (.iload_n 1, 1) := by decide +kernel
theorem d9_isSeed_1 : decode c9_isSeed 1 = .ok (.ifCond .lt 14, 3) := by decide +kernel
theorem d9_isSeed_4 : decode c9_isSeed 4 = .ok (.iload_n 1, 1) := by decide +kernel
theorem d9_isSeed_5 : decode c9_isSeed 5 = .ok (.ldc_w 388, 3) := by decide +kernel
theorem d9_isSeed_8 : decode c9_isSeed 8 = .ok (.if_icmp .gt 7, 3) := by decide +kernel
theorem d9_isSeed_11 : decode c9_isSeed 11 = .ok (.iconst 1, 1) := by decide +kernel
theorem d9_isSeed_12 : decode c9_isSeed 12 = .ok (.goto 4, 3) := by decide +kernel
theorem d9_isSeed_15 : decode c9_isSeed 15 = .ok (.iconst 0, 1) := by decide +kernel
theorem d9_isSeed_16 : decode c9_isSeed 16 = .ok (.ireturn, 1) := by decide +kernel
def f9_isSeed (D : Mem) (p0 : Int) : Option (Int) :=
  if w32 p0 < 0 then
    some 0
  else
    if w32 2000000000 < w32 p0 then
      some 0
    else
      some 1
set_option maxHeartbeats 4000000 in
theorem ok9_isSeed {l : Launch} {X : XT} {n : Nat} {D : Mem} {Q : Option Value → Nat → Rho → Mem → Prop} (hn : 117 ≤ n) {p0 : Int}  (h : wpo (f9_isSeed D p0) (fun a => Q (some (vI a)) n rt D)) : MOK l y9_isSeed c9_isSeed 2 (some .boolean) { frames := 0, cells := 0, slots := 0, locals := 0 } 0 0 X [vR X 0, vI p0] n rt D Q := by
  refine MOK_of 9 (by decide +kernel) rfl (lv := [(0, vR X 0), (1, vI p0)]) (Nat.le_of_ble_eq_true rfl) rfl (fun K hK F hnm => ?_)
  subst hK
  unfold f9_isSeed at h
  refine r_iload_n F 1 rfl rfl d9_isSeed_0 ?_
  refine r_if_lt F (tgt := 15) d9_isSeed_1 (by decide) (fun hb => ?_) (fun hb => ?_)
  · replace h := wpo_pos h hb
    refine r_iconst F (z := 0) d9_isSeed_15 ?_
    replace h := wpo_some h
    exact r_zret F (Or.inl rfl) h d9_isSeed_16
  · replace h := wpo_neg h hb
    refine r_iload_n F 1 rfl rfl d9_isSeed_4 ?_
    refine r_ldcw F (z := 2000000000) lc9_388 d9_isSeed_5 ?_
    refine r_icmp_gt F (tgt := 15) d9_isSeed_8 (by decide) (fun hb => ?_) (fun hb => ?_)
    · replace h := wpo_pos h hb
      refine r_iconst F (z := 0) d9_isSeed_15 ?_
      replace h := wpo_some h
      exact r_zret F (Or.inl rfl) h d9_isSeed_16
    · replace h := wpo_neg h hb
      refine r_iconst F (z := 1) d9_isSeed_11 ?_
      refine r_goto F (tgt := 16) (by decide) d9_isSeed_12 ?_
      replace h := wpo_some h
      exact r_zret F (Or.inr rfl) h d9_isSeed_16
theorem d9_drawnNight_0 : decode c9_drawnNight 0 = .ok (.lload_n 1, 1) := by decide +kernel
theorem d9_drawnNight_1 : decode c9_drawnNight 1 = .ok (.lstore_n 3, 1) := by decide +kernel
theorem d9_drawnNight_2 : decode c9_drawnNight 2 = .ok (.iconst 0, 1) := by decide +kernel
theorem d9_drawnNight_3 : decode c9_drawnNight 3 = .ok (.istore 5, 2) := by decide +kernel
theorem d9_drawnNight_5 : decode c9_drawnNight 5 = .ok (.iload 5, 2) := by decide +kernel
theorem d9_drawnNight_7 : decode c9_drawnNight 7 = .ok (.aload_n 0, 1) := by decide +kernel
theorem d9_drawnNight_8 : decode c9_drawnNight 8 = .ok (.getfield 28, 3) := by decide +kernel
theorem d9_drawnNight_11 : decode c9_drawnNight 11 = .ok (.getfield 168, 3) := by decide +kernel
theorem d9_drawnNight_14 : decode c9_drawnNight 14 = .ok (.if_icmp .ge 47, 3) := by decide +kernel
theorem d9_drawnNight_17 : decode c9_drawnNight 17 = .ok (.ldc2_w 416, 3) := by decide +kernel
theorem d9_drawnNight_20 : decode c9_drawnNight 20 = .ok (.lload_n 3, 1) := by decide +kernel
theorem d9_drawnNight_21 : decode c9_drawnNight 21 = .ok (.lmul, 1) := by decide +kernel
theorem d9_drawnNight_22 : decode c9_drawnNight 22 = .ok (.ldc2_w 418, 3) := by decide +kernel
theorem d9_drawnNight_25 : decode c9_drawnNight 25 = .ok (.ladd, 1) := by decide +kernel
theorem d9_drawnNight_26 : decode c9_drawnNight 26 = .ok (.ldc2_w 420, 3) := by decide +kernel
theorem d9_drawnNight_29 : decode c9_drawnNight 29 = .ok (.lrem, 1) := by decide +kernel
theorem d9_drawnNight_30 : decode c9_drawnNight 30 = .ok (.lstore_n 3, 1) := by decide +kernel
theorem d9_drawnNight_31 : decode c9_drawnNight 31 = .ok (.lload_n 3, 1) := by decide +kernel
theorem d9_drawnNight_32 : decode c9_drawnNight 32 = .ok (.ldc2_w 422, 3) := by decide +kernel
theorem d9_drawnNight_35 : decode c9_drawnNight 35 = .ok (.ldiv, 1) := by decide +kernel
theorem d9_drawnNight_36 : decode c9_drawnNight 36 = .ok (.ldc2_w 323, 3) := by decide +kernel
theorem d9_drawnNight_39 : decode c9_drawnNight 39 = .ok (.lrem, 1) := by decide +kernel
theorem d9_drawnNight_40 : decode c9_drawnNight 40 = .ok (.aload_n 0, 1) := by decide +kernel
theorem d9_drawnNight_41 : decode c9_drawnNight 41 = .ok (.getfield 28, 3) := by decide +kernel
theorem d9_drawnNight_44 : decode c9_drawnNight 44 = .ok (.getfield 325, 3) := by decide +kernel
theorem d9_drawnNight_47 : decode c9_drawnNight 47 = .ok (.i2l, 1) := by decide +kernel
theorem d9_drawnNight_48 : decode c9_drawnNight 48 = .ok (.lcmp, 1) := by decide +kernel
theorem d9_drawnNight_49 : decode c9_drawnNight 49 = .ok (.ifCond .ge 6, 3) := by decide +kernel
theorem d9_drawnNight_52 : decode c9_drawnNight 52 = .ok (.iload 5, 2) := by decide +kernel
theorem d9_drawnNight_54 : decode c9_drawnNight 54 = .ok (.ireturn, 1) := by decide +kernel
theorem d9_drawnNight_55 : decode c9_drawnNight 55 = .ok (.iinc 5 1, 3) := by decide +kernel
theorem d9_drawnNight_58 : decode c9_drawnNight 58 = .ok (.goto (-53), 3) := by decide +kernel
theorem d9_drawnNight_61 : decode c9_drawnNight 61 = .ok (.iconst (-1), 1) := by decide +kernel
theorem d9_drawnNight_62 : decode c9_drawnNight 62 = .ok (.ireturn, 1) := by decide +kernel
def f9_drawnNight (D : Mem) (p0 : Int) : Option (Int) :=
  Option.bind (@loop (Int × Int) ((Unit) ⊕ (Int)) (fun s1 =>
    if w32 s1.2 < w32 (D 12 1) then
      Option.bind (some (rem64 ((1103515245 * s1.1) + 12345) 2147483648)) fun (v1 : Int) =>
      if w64 (rem64 (div64 v1 65536) 10) < w64 (w32 (D 12 7)) then
        some (Sum.inr (Sum.inr s1.2))
      else
        some (Sum.inl (v1, (s1.2 + 1)))
    else
      some (Sum.inr (Sum.inl ()))
  ) FU (p0, 0)) (fun z => Sum.elim (fun (b1 : Unit) =>
    some (-1)
  ) (fun rv => some rv) z)
set_option maxHeartbeats 4000000 in
theorem ok9_drawnNight {l : Launch} {X : XT} {n : Nat} {D : Mem} {Q : Option Value → Nat → Rho → Mem → Prop} (hn : 117 ≤ n) {p0 : Int}  (h : wpo (f9_drawnNight D p0) (fun a => Q (some (vI a)) n rt D)) : MOK l y9_drawnNight c9_drawnNight 6 (some .int) { frames := 0, cells := 0, slots := 0, locals := 0 } 0 0 X [vR X 0, vL p0] n rt D Q := by
  refine MOK_of 9 (by decide +kernel) rfl (lv := [(0, vR X 0), (1, vL p0)]) (Nat.le_of_ble_eq_true rfl) rfl (fun K hK F hnm => ?_)
  subst hK
  unfold f9_drawnNight at h
  refine r_lload_n F 1 rfl rfl d9_drawnNight_0 ?_
  refine r_lstore_n F (lv' := [(3, vL p0), (0, vR X 0), (1, vL p0)]) rfl (Nat.le_of_ble_eq_true rfl) rfl d9_drawnNight_1 ?_
  refine r_iconst F (z := 0) d9_drawnNight_2 ?_
  refine r_istore F (lv' := [(5, vI 0), (3, vL p0), (0, vR X 0), (1, vL p0)]) (Nat.le_of_ble_eq_true rfl) rfl d9_drawnNight_3 ?_
  refine r_weak [2, 1, 0] rfl ?_
  refine at_loopj (A := fun (s1 : Int × Int) => At K X (ZQ K X Q) 0 0 n rt 6 5 [(0, vR X 0), (3, vL s1.1), (5, vI s1.2)] [] D) (B := Sum.elim (fun (b1 : Unit) => At K X (ZQ K X Q) 0 0 n rt 6 61 [] [] D) (fun rv => Q (some (vI rv)) n rt D)) h (fun z h => ?_) (fun s1 h => ?_)
  · rcases z with b1 | rv
    · replace h := elim_l h
      refine el_li ?_
      refine r_iconst F (z := (-1)) d9_drawnNight_61 ?_
      replace h := wpo_some h
      exact r_iret F h d9_drawnNight_62
    · replace h := elim_r h
      replace h := wpo_some h
      exact el_ri h
  · refine r_iload F 2 rfl d9_drawnNight_5 ?_
    refine r_aload_nR F 0 rfl rfl d9_drawnNight_7 ?_
    refine r_getR F (z := 12) lf9_28 (vc0 hn) z0_2 d9_drawnNight_8 ?_
    refine r_getI F lf9_168 (vc12 hn) d9_drawnNight_11 ?_
    refine r_icmp_ge F (tgt := 61) d9_drawnNight_14 (by decide) (fun hb => ?_) (fun hb => ?_)
    · replace h := wpo_neg h hb
      refine r_weak [] rfl ?_
      replace h := wpo_inr h
      replace h := el_l h
      exact h
    · replace h := wpo_pos h hb
      refine r_ldc2 F (z := 1103515245) lc9_416 d9_drawnNight_17 ?_
      refine r_lload_n F 1 rfl rfl d9_drawnNight_20 ?_
      refine r_lmul F d9_drawnNight_21 ?_
      refine r_ldc2 F (z := 12345) lc9_418 d9_drawnNight_22 ?_
      refine r_ladd F d9_drawnNight_25 ?_
      refine r_ldc2 F (z := 2147483648) lc9_420 d9_drawnNight_26 ?_
      refine r_lrem F (by decide +kernel) d9_drawnNight_29 ?_
      refine r_lstore_n F (lv' := [(3, vL (rem64 ((1103515245 * s1.1) + 12345) 2147483648)), (0, vR X 0), (5, vI s1.2)]) rfl (Nat.le_of_ble_eq_true rfl) rfl d9_drawnNight_30 ?_
      refine at_name (B := fun (v1 : Int) => At K X (ZQ K X Q) 0 0 n rt 6 31 [(3, vL v1), (0, vR X 0), (5, vI s1.2)] [] D) h (fun v1 h => ?_)
      refine r_lload_n F 0 rfl rfl d9_drawnNight_31 ?_
      refine r_ldc2 F (z := 65536) lc9_422 d9_drawnNight_32 ?_
      refine r_ldiv F (by decide +kernel) d9_drawnNight_35 ?_
      refine r_ldc2 F (z := 10) lc9_323 d9_drawnNight_36 ?_
      refine r_lrem F (by decide +kernel) d9_drawnNight_39 ?_
      refine r_aload_nR F 1 rfl rfl d9_drawnNight_40 ?_
      refine r_getR F (z := 12) lf9_28 (vc0 hn) z0_2 d9_drawnNight_41 ?_
      refine r_getI F lf9_325 (vc12 hn) d9_drawnNight_44 ?_
      refine r_i2l F d9_drawnNight_47 ?_
      refine r_lc_ge F (tgt := 55) d9_drawnNight_48 d9_drawnNight_49 (by decide) (fun hb => ?_) (fun hb => ?_)
      · replace h := wpo_neg h hb
        refine r_iinc F 2 (lv' := [(5, vI (s1.2 + 1)), (3, vL v1), (0, vR X 0)]) rfl (Nat.le_of_ble_eq_true rfl) rfl d9_drawnNight_55 ?_
        refine r_goto F (tgt := 5) (by decide) d9_drawnNight_58 ?_
        refine r_weak [2, 1, 0] rfl ?_
        replace h := wpo_inl h
        exact h
      · replace h := wpo_pos h hb
        refine r_iload F 2 rfl d9_drawnNight_52 ?_
        replace h := el_r (wpo_inr h)
        exact r_iret F h d9_drawnNight_54
theorem d9_drawn_0 : decode c9_drawn 0 = .ok (.aload_n 0, 1) := by decide +kernel
theorem d9_drawn_1 : decode c9_drawn 1 = .ok (.invokevirtual 159, 3) := by decide +kernel
theorem d9_drawn_4 : decode c9_drawn 4 = .ok (.ifCond .eq 19, 3) := by decide +kernel
theorem d9_drawn_7 : decode c9_drawn 7 = .ok (.aload_n 0, 1) := by decide +kernel
theorem d9_drawn_8 : decode c9_drawn 8 = .ok (.iload_n 1, 1) := by decide +kernel
theorem d9_drawn_9 : decode c9_drawn 9 = .ok (.invokevirtual 331, 3) := by decide +kernel
theorem d9_drawn_12 : decode c9_drawn 12 = .ok (.ifCond .eq 11, 3) := by decide +kernel
theorem d9_drawn_15 : decode c9_drawn 15 = .ok (.aload_n 0, 1) := by decide +kernel
theorem d9_drawn_16 : decode c9_drawn 16 = .ok (.iload_n 2, 1) := by decide +kernel
theorem d9_drawn_17 : decode c9_drawn 17 = .ok (.invokevirtual 197, 3) := by decide +kernel
theorem d9_drawn_20 : decode c9_drawn 20 = .ok (.ifCond .ne 6, 3) := by decide +kernel
theorem d9_drawn_23 : decode c9_drawn 23 = .ok (.bipush (-2), 2) := by decide +kernel
theorem d9_drawn_25 : decode c9_drawn 25 = .ok (.ireturn, 1) := by decide +kernel
theorem d9_drawn_26 : decode c9_drawn 26 = .ok (.aload_n 0, 1) := by decide +kernel
theorem d9_drawn_27 : decode c9_drawn 27 = .ok (.iload_n 1, 1) := by decide +kernel
theorem d9_drawn_28 : decode c9_drawn 28 = .ok (.i2l, 1) := by decide +kernel
theorem d9_drawn_29 : decode c9_drawn 29 = .ok (.invokevirtual 334, 3) := by decide +kernel
theorem d9_drawn_32 : decode c9_drawn 32 = .ok (.istore_n 3, 1) := by decide +kernel
theorem d9_drawn_33 : decode c9_drawn 33 = .ok (.iload_n 2, 1) := by decide +kernel
theorem d9_drawn_34 : decode c9_drawn 34 = .ok (.ifCond .ne 5, 3) := by decide +kernel
theorem d9_drawn_37 : decode c9_drawn 37 = .ok (.iload_n 3, 1) := by decide +kernel
theorem d9_drawn_38 : decode c9_drawn 38 = .ok (.ireturn, 1) := by decide +kernel
theorem d9_drawn_39 : decode c9_drawn 39 = .ok (.aload_n 0, 1) := by decide +kernel
theorem d9_drawn_40 : decode c9_drawn 40 = .ok (.iload_n 3, 1) := by decide +kernel
theorem d9_drawn_41 : decode c9_drawn 41 = .ok (.iconst (-1), 1) := by decide +kernel
theorem d9_drawn_42 : decode c9_drawn 42 = .ok (.if_icmp .ne 8, 3) := by decide +kernel
theorem d9_drawn_45 : decode c9_drawn 45 = .ok (.bipush 100, 2) := by decide +kernel
theorem d9_drawn_47 : decode c9_drawn 47 = .ok (.goto 4, 3) := by decide +kernel
theorem d9_drawn_50 : decode c9_drawn 50 = .ok (.iload_n 3, 1) := by decide +kernel
theorem d9_drawn_51 : decode c9_drawn 51 = .ok (.invokevirtual 328, 3) := by decide +kernel
theorem d9_drawn_54 : decode c9_drawn 54 = .ok (.aload_n 0, 1) := by decide +kernel
theorem d9_drawn_55 : decode c9_drawn 55 = .ok (.getfield 55, 3) := by decide +kernel
theorem d9_drawn_58 : decode c9_drawn 58 = .ok (.getfield 162, 3) := by decide +kernel
theorem d9_drawn_61 : decode c9_drawn 61 = .ok (.ireturn, 1) := by decide +kernel
def f9_drawn (D : Mem) (p0 : Int) (p1 : Int) : Option (Int × Mem) :=
  Option.bind (f9_isThere D) fun (a1 : Int) =>
  if w32 a1 = 0 then
    some ((-2), D)
  else
    Option.bind (f9_isSeed D p0) fun (a2 : Int) =>
    if w32 a2 = 0 then
      some ((-2), D)
    else
      Option.bind (f9_isPart D p1) fun (a3 : Int) =>
      if w32 a3 = 0 then
        some ((-2), D)
      else
        Option.bind (f9_drawnNight D (w32 p0)) fun (a4 : Int) =>
        if w32 p1 = 0 then
          some (a4, D)
        else
          Option.bind (
            if w32 a4 = w32 (-1) then
              some 100
            else
              some a4
          ) fun (j1 : Int) =>
          Option.bind (f9_passBorn D j1) fun (a5 : Mem) =>
          some ((a5 36 4), a5)
set_option maxHeartbeats 4000000 in
theorem ok9_drawn {l : Launch} {X : XT} {n : Nat} {D : Mem} {Q : Option Value → Nat → Rho → Mem → Prop} (hn : 117 ≤ n) {p0 : Int} {p1 : Int}  (h : wpo (f9_drawn D p0 p1) (fun a => Q (some (vI a.1)) n rt a.2)) : MOK l y9_drawn c9_drawn 4 (some .int) { frames := 4, cells := 0, slots := 0, locals := 89 } 0 0 X [vR X 0, vI p0, vI p1] n rt D Q := by
  refine MOK_of 9 (by decide +kernel) rfl (lv := [(0, vR X 0), (1, vI p0), (2, vI p1)]) (Nat.le_of_ble_eq_true rfl) rfl (fun K hK F hnm => ?_)
  subst hK
  unfold f9_drawn at h
  refine r_aload_nR F 0 rfl rfl d9_drawn_0 ?_
  replace h := wpo_bind h
  refine r_callV0 F lm9_159 mf9_isThere (vc0 hn) rfl (fr := 0) (lo := 0) (As := []) (rest := []) ⟨Nat.le_of_ble_eq_true rfl, Nat.le_of_ble_eq_true rfl⟩ rfl (Nat.le_of_ble_eq_true rfl) ⟨Nat.zero_le _, Nat.zero_le _⟩ d9_drawn_1 ?_
  refine ok9_isThere hn  (kI h (fun a1 h => ?_))
  refine r_if_eq F (tgt := 23) d9_drawn_4 (by decide) (fun hb => ?_) (fun hb => ?_)
  · replace h := wpo_pos h hb
    refine r_bipush F (z := (-2)) (by decide) d9_drawn_23 ?_
    replace h := wpo_some h
    exact r_iret F h d9_drawn_25
  · replace h := wpo_neg h hb
    refine r_aload_nR F 0 rfl rfl d9_drawn_7 ?_
    refine r_iload_n F 1 rfl rfl d9_drawn_8 ?_
    replace h := wpo_bind h
    refine r_callV0 F lm9_331 mf9_isSeed (vc0 hn) rfl (fr := 0) (lo := 0) (As := [vI p0]) (rest := []) ⟨Nat.le_of_ble_eq_true rfl, Nat.le_of_ble_eq_true rfl⟩ rfl (Nat.le_of_ble_eq_true rfl) ⟨Nat.zero_le _, Nat.zero_le _⟩ d9_drawn_9 ?_
    refine ok9_isSeed hn  (kI h (fun a2 h => ?_))
    refine r_if_eq F (tgt := 23) d9_drawn_12 (by decide) (fun hb => ?_) (fun hb => ?_)
    · replace h := wpo_pos h hb
      refine r_bipush F (z := (-2)) (by decide) d9_drawn_23 ?_
      replace h := wpo_some h
      exact r_iret F h d9_drawn_25
    · replace h := wpo_neg h hb
      refine r_aload_nR F 0 rfl rfl d9_drawn_15 ?_
      refine r_iload_n F 2 rfl rfl d9_drawn_16 ?_
      replace h := wpo_bind h
      refine r_callV0 F lm9_197 mf9_isPart (vc0 hn) rfl (fr := 0) (lo := 0) (As := [vI p1]) (rest := []) ⟨Nat.le_of_ble_eq_true rfl, Nat.le_of_ble_eq_true rfl⟩ rfl (Nat.le_of_ble_eq_true rfl) ⟨Nat.zero_le _, Nat.zero_le _⟩ d9_drawn_17 ?_
      refine ok9_isPart hn  (kI h (fun a3 h => ?_))
      refine r_if_ne F (tgt := 26) d9_drawn_20 (by decide) (fun hb => ?_) (fun hb => ?_)
      · replace h := wpo_neg h hb
        refine r_aload_nR F 0 rfl rfl d9_drawn_26 ?_
        refine r_iload_n F 1 rfl rfl d9_drawn_27 ?_
        refine r_i2l F d9_drawn_28 ?_
        replace h := wpo_bind h
        refine r_callV0 F lm9_334 mf9_drawnNight (vc0 hn) rfl (fr := 0) (lo := 0) (As := [vL (w32 p0)]) (rest := []) ⟨Nat.le_of_ble_eq_true rfl, Nat.le_of_ble_eq_true rfl⟩ rfl (Nat.le_of_ble_eq_true rfl) ⟨Nat.zero_le _, Nat.zero_le _⟩ d9_drawn_29 ?_
        refine ok9_drawnNight hn  (kI h (fun a4 h => ?_))
        refine r_istore_n F (lv' := [(3, vI a4), (0, vR X 0), (1, vI p0), (2, vI p1)]) rfl (Nat.le_of_ble_eq_true rfl) rfl d9_drawn_32 ?_
        refine r_iload_n F 3 rfl rfl d9_drawn_33 ?_
        refine r_if_ne F (tgt := 39) d9_drawn_34 (by decide) (fun hb => ?_) (fun hb => ?_)
        · replace h := wpo_neg h hb
          refine r_aload_nR F 1 rfl rfl d9_drawn_39 ?_
          refine r_iload_n F 0 rfl rfl d9_drawn_40 ?_
          refine r_iconst F (z := (-1)) d9_drawn_41 ?_
          refine at_join (B := fun (j1 : Int) => At K X (ZQ K X Q) 0 0 n rt 4 51 [(0, vR X 0)] [vI j1, vR X 0] D) h (fun j1 h => ?_) (fun h => ?_)
          · replace h := wpo_bind h
            refine r_callV0 F lm9_328 mf9_passBorn (vc0 hn) rfl (fr := 3) (lo := 68) (As := [vI j1]) (rest := []) ⟨Nat.le_of_ble_eq_true rfl, Nat.le_of_ble_eq_true rfl⟩ rfl (Nat.le_of_ble_eq_true rfl) ⟨Nat.zero_le _, Nat.zero_le _⟩ d9_drawn_51 ?_
            refine ok9_passBorn hn  (kVm h (fun a5 h => ?_))
            refine r_aload_nR F 0 rfl rfl d9_drawn_54 ?_
            refine r_getR F (z := 36) lf9_55 (vc0 hn) z0_7 d9_drawn_55 ?_
            refine r_getI F lf9_162 (vc36 hn) d9_drawn_58 ?_
            replace h := wpo_some h
            exact r_iret F h d9_drawn_61
          · refine r_icmp_ne F (tgt := 50) d9_drawn_42 (by decide) (fun hb => ?_) (fun hb => ?_)
            · replace h := wpo_neg h hb
              refine r_iload_n F 0 rfl rfl d9_drawn_50 ?_
              refine r_weak [1] rfl ?_
              replace h := wpo_some h
              exact h
            · replace h := wpo_pos h hb
              refine r_bipush F (z := 100) (by decide) d9_drawn_45 ?_
              refine r_goto F (tgt := 51) (by decide) d9_drawn_47 ?_
              refine r_weak [1] rfl ?_
              replace h := wpo_some h
              exact h
        · replace h := wpo_pos h hb
          refine r_iload_n F 0 rfl rfl d9_drawn_37 ?_
          replace h := wpo_some h
          exact r_iret F h d9_drawn_38
      · replace h := wpo_pos h hb
        refine r_bipush F (z := (-2)) (by decide) d9_drawn_23 ?_
        replace h := wpo_some h
        exact r_iret F h d9_drawn_25
theorem d9_luck_0 : decode c9_luck 0 = .ok (.aload_n 0, 1) := by decide +kernel
theorem d9_luck_1 : decode c9_luck 1 = .ok (.iload_n 3, 1) := by decide +kernel
theorem d9_luck_2 : decode c9_luck 2 = .ok (.invokevirtual 124, 3) := by decide +kernel
theorem d9_luck_5 : decode c9_luck 5 = .ok (.ifCond .eq 22, 3) := by decide +kernel
theorem d9_luck_8 : decode c9_luck 8 = .ok (.aload_n 0, 1) := by decide +kernel
theorem d9_luck_9 : decode c9_luck 9 = .ok (.iload_n 1, 1) := by decide +kernel
theorem d9_luck_10 : decode c9_luck 10 = .ok (.invokevirtual 331, 3) := by decide +kernel
theorem d9_luck_13 : decode c9_luck 13 = .ok (.ifCond .eq 14, 3) := by decide +kernel
theorem d9_luck_16 : decode c9_luck 16 = .ok (.iload_n 2, 1) := by decide +kernel
theorem d9_luck_17 : decode c9_luck 17 = .ok (.iconst 1, 1) := by decide +kernel
theorem d9_luck_18 : decode c9_luck 18 = .ok (.if_icmp .lt 9, 3) := by decide +kernel
theorem d9_luck_21 : decode c9_luck 21 = .ok (.iload_n 2, 1) := by decide +kernel
theorem d9_luck_22 : decode c9_luck 22 = .ok (.bipush 20, 2) := by decide +kernel
theorem d9_luck_24 : decode c9_luck 24 = .ok (.if_icmp .le 6, 3) := by decide +kernel
theorem d9_luck_27 : decode c9_luck 27 = .ok (.bipush (-2), 2) := by decide +kernel
theorem d9_luck_29 : decode c9_luck 29 = .ok (.ireturn, 1) := by decide +kernel
theorem d9_luck_30 : decode c9_luck 30 = .ok (.iconst 0, 1) := by decide +kernel
theorem d9_luck_31 : decode c9_luck 31 = .ok (.istore 4, 2) := by decide +kernel
theorem d9_luck_33 : decode c9_luck 33 = .ok (.iconst 0, 1) := by decide +kernel
theorem d9_luck_34 : decode c9_luck 34 = .ok (.istore 5, 2) := by decide +kernel
theorem d9_luck_36 : decode c9_luck 36 = .ok (.iload 5, 2) := by decide +kernel
theorem d9_luck_38 : decode c9_luck 38 = .ok (.iload_n 2, 1) := by decide +kernel
theorem d9_luck_39 : decode c9_luck 39 = .ok (.if_icmp .ge 54, 3) := by decide +kernel
theorem d9_luck_42 : decode c9_luck 42 = .ok (.aload_n 0, 1) := by decide +kernel
theorem d9_luck_43 : decode c9_luck 43 = .ok (.iload_n 1, 1) := by decide +kernel
theorem d9_luck_44 : decode c9_luck 44 = .ok (.i2l, 1) := by decide +kernel
theorem d9_luck_45 : decode c9_luck 45 = .ok (.iload 5, 2) := by decide +kernel
theorem d9_luck_47 : decode c9_luck 47 = .ok (.i2l, 1) := by decide +kernel
theorem d9_luck_48 : decode c9_luck 48 = .ok (.ladd, 1) := by decide +kernel
theorem d9_luck_49 : decode c9_luck 49 = .ok (.invokevirtual 334, 3) := by decide +kernel
theorem d9_luck_52 : decode c9_luck 52 = .ok (.istore 6, 2) := by decide +kernel
theorem d9_luck_54 : decode c9_luck 54 = .ok (.aload_n 0, 1) := by decide +kernel
theorem d9_luck_55 : decode c9_luck 55 = .ok (.iload 6, 2) := by decide +kernel
theorem d9_luck_57 : decode c9_luck 57 = .ok (.iconst (-1), 1) := by decide +kernel
theorem d9_luck_58 : decode c9_luck 58 = .ok (.if_icmp .ne 8, 3) := by decide +kernel
theorem d9_luck_61 : decode c9_luck 61 = .ok (.bipush 100, 2) := by decide +kernel
theorem d9_luck_63 : decode c9_luck 63 = .ok (.goto 5, 3) := by decide +kernel
theorem d9_luck_66 : decode c9_luck 66 = .ok (.iload 6, 2) := by decide +kernel
theorem d9_luck_68 : decode c9_luck 68 = .ok (.invokevirtual 328, 3) := by decide +kernel
theorem d9_luck_71 : decode c9_luck 71 = .ok (.aload_n 0, 1) := by decide +kernel
theorem d9_luck_72 : decode c9_luck 72 = .ok (.getfield 55, 3) := by decide +kernel
theorem d9_luck_75 : decode c9_luck 75 = .ok (.getfield 140, 3) := by decide +kernel
theorem d9_luck_78 : decode c9_luck 78 = .ok (.iload_n 3, 1) := by decide +kernel
theorem d9_luck_79 : decode c9_luck 79 = .ok (.iaload, 1) := by decide +kernel
theorem d9_luck_80 : decode c9_luck 80 = .ok (.iconst (-1), 1) := by decide +kernel
theorem d9_luck_81 : decode c9_luck 81 = .ok (.if_icmp .eq 6, 3) := by decide +kernel
theorem d9_luck_84 : decode c9_luck 84 = .ok (.iinc 4 1, 3) := by decide +kernel
theorem d9_luck_87 : decode c9_luck 87 = .ok (.iinc 5 1, 3) := by decide +kernel
theorem d9_luck_90 : decode c9_luck 90 = .ok (.goto (-54), 3) := by decide +kernel
theorem d9_luck_93 : decode c9_luck 93 = .ok (.iload 4, 2) := by decide +kernel
theorem d9_luck_95 : decode c9_luck 95 = .ok (.ireturn, 1) := by decide +kernel
def f9_luck (D : Mem) (p0 : Int) (p1 : Int) (p2 : Int) : Option (Int × Mem) :=
  Option.bind (f9_isPerson D p2) fun (a1 : Int) =>
  if w32 a1 = 0 then
    some ((-2), D)
  else
    Option.bind (f9_isSeed D p0) fun (a2 : Int) =>
    if w32 a2 = 0 then
      some ((-2), D)
    else
      if w32 p1 < w32 1 then
        some ((-2), D)
      else
        if w32 20 < w32 p1 then
          some ((-2), D)
        else
          Option.bind (@loop (Int × Int × Mem) (Int × Mem) (fun s1 =>
            if w32 s1.2.1 < w32 p1 then
              Option.bind (f9_drawnNight s1.2.2 ((w32 p0) + (w32 s1.2.1))) fun (a3 : Int) =>
              Option.bind (
                if w32 a3 = w32 (-1) then
                  some 100
                else
                  some a3
              ) fun (j1 : Int) =>
              Option.bind (f9_passBorn s1.2.2 j1) fun (a4 : Mem) =>
              if 0 ≤ p2 ∧ p2 < 8 then
                Option.bind (
                  if w32 (a4 41 p2.toNat) = w32 (-1) then
                    some s1.1
                  else
                    some (s1.1 + 1)
                ) fun (j2 : Int) =>
                some (Sum.inl (j2, (s1.2.1 + 1), a4))
              else none
            else
              some (Sum.inr (s1.1, s1.2.2))
          ) FU (0, 0, D)) fun (b1 : Int × Mem) =>
          some (b1.1, b1.2)
set_option maxHeartbeats 4000000 in
theorem ok9_luck {l : Launch} {X : XT} {n : Nat} {D : Mem} {Q : Option Value → Nat → Rho → Mem → Prop} (hn : 117 ≤ n) {p0 : Int} {p1 : Int} {p2 : Int}  (h : wpo (f9_luck D p0 p1 p2) (fun a => Q (some (vI a.1)) n rt a.2)) : MOK l y9_luck c9_luck 7 (some .int) { frames := 4, cells := 0, slots := 0, locals := 89 } 0 0 X [vR X 0, vI p0, vI p1, vI p2] n rt D Q := by
  refine MOK_of 9 (by decide +kernel) rfl (lv := [(0, vR X 0), (1, vI p0), (2, vI p1), (3, vI p2)]) (Nat.le_of_ble_eq_true rfl) rfl (fun K hK F hnm => ?_)
  subst hK
  unfold f9_luck at h
  refine r_aload_nR F 0 rfl rfl d9_luck_0 ?_
  refine r_iload_n F 3 rfl rfl d9_luck_1 ?_
  replace h := wpo_bind h
  refine r_callV0 F lm9_124 mf9_isPerson (vc0 hn) rfl (fr := 0) (lo := 0) (As := [vI p2]) (rest := []) ⟨Nat.le_of_ble_eq_true rfl, Nat.le_of_ble_eq_true rfl⟩ rfl (Nat.le_of_ble_eq_true rfl) ⟨Nat.zero_le _, Nat.zero_le _⟩ d9_luck_2 ?_
  refine ok9_isPerson hn  (kI h (fun a1 h => ?_))
  refine r_if_eq F (tgt := 27) d9_luck_5 (by decide) (fun hb => ?_) (fun hb => ?_)
  · replace h := wpo_pos h hb
    refine r_bipush F (z := (-2)) (by decide) d9_luck_27 ?_
    replace h := wpo_some h
    exact r_iret F h d9_luck_29
  · replace h := wpo_neg h hb
    refine r_aload_nR F 0 rfl rfl d9_luck_8 ?_
    refine r_iload_n F 1 rfl rfl d9_luck_9 ?_
    replace h := wpo_bind h
    refine r_callV0 F lm9_331 mf9_isSeed (vc0 hn) rfl (fr := 0) (lo := 0) (As := [vI p0]) (rest := []) ⟨Nat.le_of_ble_eq_true rfl, Nat.le_of_ble_eq_true rfl⟩ rfl (Nat.le_of_ble_eq_true rfl) ⟨Nat.zero_le _, Nat.zero_le _⟩ d9_luck_10 ?_
    refine ok9_isSeed hn  (kI h (fun a2 h => ?_))
    refine r_if_eq F (tgt := 27) d9_luck_13 (by decide) (fun hb => ?_) (fun hb => ?_)
    · replace h := wpo_pos h hb
      refine r_bipush F (z := (-2)) (by decide) d9_luck_27 ?_
      replace h := wpo_some h
      exact r_iret F h d9_luck_29
    · replace h := wpo_neg h hb
      refine r_iload_n F 2 rfl rfl d9_luck_16 ?_
      refine r_iconst F (z := 1) d9_luck_17 ?_
      refine r_icmp_lt F (tgt := 27) d9_luck_18 (by decide) (fun hb => ?_) (fun hb => ?_)
      · replace h := wpo_pos h hb
        refine r_bipush F (z := (-2)) (by decide) d9_luck_27 ?_
        replace h := wpo_some h
        exact r_iret F h d9_luck_29
      · replace h := wpo_neg h hb
        refine r_iload_n F 2 rfl rfl d9_luck_21 ?_
        refine r_bipush F (z := 20) (by decide) d9_luck_22 ?_
        refine r_icmp_le F (tgt := 30) d9_luck_24 (by decide) (fun hb => ?_) (fun hb => ?_)
        · replace h := wpo_neg h hb
          refine r_iconst F (z := 0) d9_luck_30 ?_
          refine r_istore F (lv' := [(4, vI 0), (0, vR X 0), (1, vI p0), (2, vI p1), (3, vI p2)]) (Nat.le_of_ble_eq_true rfl) rfl d9_luck_31 ?_
          refine r_iconst F (z := 0) d9_luck_33 ?_
          refine r_istore F (lv' := [(5, vI 0), (4, vI 0), (0, vR X 0), (1, vI p0), (2, vI p1), (3, vI p2)]) (Nat.le_of_ble_eq_true rfl) rfl d9_luck_34 ?_
          refine r_weak [2, 3, 4, 5, 1, 0] rfl ?_
          refine at_loopj (A := fun (s1 : Int × Int × Mem) => At K X (ZQ K X Q) 0 0 n rt 7 36 [(0, vR X 0), (1, vI p0), (2, vI p1), (3, vI p2), (4, vI s1.1), (5, vI s1.2.1)] [] s1.2.2) (B := fun (b1 : Int × Mem) => At K X (ZQ K X Q) 0 0 n rt 7 93 [(4, vI b1.1)] [] b1.2) h (fun b1 h => ?_) (fun s1 h => ?_)
          · refine r_iload F 0 rfl d9_luck_93 ?_
            replace h := wpo_some h
            exact r_iret F h d9_luck_95
          · refine r_iload F 5 rfl d9_luck_36 ?_
            refine r_iload_n F 2 rfl rfl d9_luck_38 ?_
            refine r_icmp_ge F (tgt := 93) d9_luck_39 (by decide) (fun hb => ?_) (fun hb => ?_)
            · replace h := wpo_neg h hb
              refine r_weak [4] rfl ?_
              replace h := wpo_inr h
              exact h
            · replace h := wpo_pos h hb
              refine r_aload_nR F 0 rfl rfl d9_luck_42 ?_
              refine r_iload_n F 1 rfl rfl d9_luck_43 ?_
              refine r_i2l F d9_luck_44 ?_
              refine r_iload F 5 rfl d9_luck_45 ?_
              refine r_i2l F d9_luck_47 ?_
              refine r_ladd F d9_luck_48 ?_
              replace h := wpo_bind h
              refine r_callV0 F lm9_334 mf9_drawnNight (vc0 hn) rfl (fr := 0) (lo := 0) (As := [vL ((w32 p0) + (w32 s1.2.1))]) (rest := []) ⟨Nat.le_of_ble_eq_true rfl, Nat.le_of_ble_eq_true rfl⟩ rfl (Nat.le_of_ble_eq_true rfl) ⟨Nat.zero_le _, Nat.zero_le _⟩ d9_luck_49 ?_
              refine ok9_drawnNight hn  (kI h (fun a3 h => ?_))
              refine r_istore F (lv' := [(6, vI a3), (0, vR X 0), (1, vI p0), (2, vI p1), (3, vI p2), (4, vI s1.1), (5, vI s1.2.1)]) (Nat.le_of_ble_eq_true rfl) rfl d9_luck_52 ?_
              refine r_aload_nR F 1 rfl rfl d9_luck_54 ?_
              refine r_iload F 0 rfl d9_luck_55 ?_
              refine r_iconst F (z := (-1)) d9_luck_57 ?_
              refine at_join (B := fun (j1 : Int) => At K X (ZQ K X Q) 0 0 n rt 7 68 [(0, vR X 0), (1, vI p0), (2, vI p1), (3, vI p2), (4, vI s1.1), (5, vI s1.2.1)] [vI j1, vR X 0] s1.2.2) h (fun j1 h => ?_) (fun h => ?_)
              · replace h := wpo_bind h
                refine r_callV0 F lm9_328 mf9_passBorn (vc0 hn) rfl (fr := 3) (lo := 68) (As := [vI j1]) (rest := []) ⟨Nat.le_of_ble_eq_true rfl, Nat.le_of_ble_eq_true rfl⟩ rfl (Nat.le_of_ble_eq_true rfl) ⟨Nat.zero_le _, Nat.zero_le _⟩ d9_luck_68 ?_
                refine ok9_passBorn hn  (kVm h (fun a4 h => ?_))
                refine r_aload_nR F 0 rfl rfl d9_luck_71 ?_
                refine r_getR F (z := 36) lf9_55 (vc0 hn) z0_7 d9_luck_72 ?_
                refine r_getR F (z := 41) lf9_140 (vc36 hn) z36_9 d9_luck_75 ?_
                refine r_iload_n F 3 rfl rfl d9_luck_78 ?_
                obtain ⟨hx1, h⟩ := wpo_chk h
                refine r_iald F (vc41 hn) hx1 d9_luck_79 ?_
                refine r_iconst F (z := (-1)) d9_luck_80 ?_
                refine at_join (B := fun (j2 : Int) => At K X (ZQ K X Q) 0 0 n rt 7 87 [(0, vR X 0), (1, vI p0), (2, vI p1), (3, vI p2), (4, vI j2), (5, vI s1.2.1)] [] a4) h (fun j2 h => ?_) (fun h => ?_)
                · refine r_iinc F 5 (lv' := [(5, vI (s1.2.1 + 1)), (0, vR X 0), (1, vI p0), (2, vI p1), (3, vI p2), (4, vI j2)]) rfl (Nat.le_of_ble_eq_true rfl) rfl d9_luck_87 ?_
                  refine r_goto F (tgt := 36) (by decide) d9_luck_90 ?_
                  refine r_weak [1, 2, 3, 4, 5, 0] rfl ?_
                  replace h := wpo_inl h
                  exact h
                · refine r_icmp_eq F (tgt := 87) d9_luck_81 (by decide) (fun hb => ?_) (fun hb => ?_)
                  · replace h := wpo_pos h hb
                    replace h := wpo_some h
                    exact h
                  · replace h := wpo_neg h hb
                    refine r_iinc F 4 (lv' := [(4, vI (s1.1 + 1)), (0, vR X 0), (1, vI p0), (2, vI p1), (3, vI p2), (5, vI s1.2.1)]) rfl (Nat.le_of_ble_eq_true rfl) rfl d9_luck_84 ?_
                    refine r_weak [1, 2, 3, 4, 0, 5] rfl ?_
                    replace h := wpo_some h
                    exact h
              · refine r_icmp_ne F (tgt := 66) d9_luck_58 (by decide) (fun hb => ?_) (fun hb => ?_)
                · replace h := wpo_neg h hb
                  refine r_iload F 0 rfl d9_luck_66 ?_
                  refine r_weak [1, 2, 3, 4, 5, 6] rfl ?_
                  replace h := wpo_some h
                  exact h
                · replace h := wpo_pos h hb
                  refine r_bipush F (z := 100) (by decide) d9_luck_61 ?_
                  refine r_goto F (tgt := 68) (by decide) d9_luck_63 ?_
                  refine r_weak [1, 2, 3, 4, 5, 6] rfl ?_
                  replace h := wpo_some h
                  exact h
        · replace h := wpo_pos h hb
          refine r_bipush F (z := (-2)) (by decide) d9_luck_27 ?_
          replace h := wpo_some h
          exact r_iret F h d9_luck_29
theorem d2_change_0 : decode c2_change 0 = .ok (.iload_n 2, 1) := by decide +kernel
theorem d2_change_1 : decode c2_change 1 = .ok (.ifCond .ne 10, 3) := by decide +kernel
theorem d2_change_4 : decode c2_change 4 = .ok (.aload_n 0, 1) := by decide +kernel
theorem d2_change_5 : decode c2_change 5 = .ok (.getfield 42, 3) := by decide +kernel
theorem d2_change_8 : decode c2_change 8 = .ok (.goto 7, 3) := by decide +kernel
theorem d2_change_11 : decode c2_change 11 = .ok (.aload_n 0, 1) := by decide +kernel
theorem d2_change_12 : decode c2_change 12 = .ok (.getfield 46, 3) := by decide +kernel
theorem d2_change_15 : decode c2_change 15 = .ok (.astore 4, 2) := by decide +kernel
theorem d2_change_17 : decode c2_change 17 = .ok (.aload 4, 2) := by decide +kernel
theorem d2_change_19 : decode c2_change 19 = .ok (.iload_n 1, 1) := by decide +kernel
theorem d2_change_20 : decode c2_change 20 = .ok (.iaload, 1) := by decide +kernel
theorem d2_change_21 : decode c2_change 21 = .ok (.istore 5, 2) := by decide +kernel
theorem d2_change_23 : decode c2_change 23 = .ok (.aload 4, 2) := by decide +kernel
theorem d2_change_25 : decode c2_change 25 = .ok (.iload_n 1, 1) := by decide +kernel
theorem d2_change_26 : decode c2_change 26 = .ok (.iload_n 3, 1) := by decide +kernel
theorem d2_change_27 : decode c2_change 27 = .ok (.iastore, 1) := by decide +kernel
theorem d2_change_28 : decode c2_change 28 = .ok (.aload_n 0, 1) := by decide +kernel
theorem d2_change_29 : decode c2_change 29 = .ok (.getfield 55, 3) := by decide +kernel
theorem d2_change_32 : decode c2_change 32 = .ok (.aload_n 0, 1) := by decide +kernel
theorem d2_change_33 : decode c2_change 33 = .ok (.getfield 39, 3) := by decide +kernel
theorem d2_change_36 : decode c2_change 36 = .ok (.iload_n 1, 1) := by decide +kernel
theorem d2_change_37 : decode c2_change 37 = .ok (.iastore, 1) := by decide +kernel
theorem d2_change_38 : decode c2_change 38 = .ok (.aload_n 0, 1) := by decide +kernel
theorem d2_change_39 : decode c2_change 39 = .ok (.getfield 58, 3) := by decide +kernel
theorem d2_change_42 : decode c2_change 42 = .ok (.aload_n 0, 1) := by decide +kernel
theorem d2_change_43 : decode c2_change 43 = .ok (.getfield 39, 3) := by decide +kernel
theorem d2_change_46 : decode c2_change 46 = .ok (.iload_n 2, 1) := by decide +kernel
theorem d2_change_47 : decode c2_change 47 = .ok (.iastore, 1) := by decide +kernel
theorem d2_change_48 : decode c2_change 48 = .ok (.aload_n 0, 1) := by decide +kernel
theorem d2_change_49 : decode c2_change 49 = .ok (.getfield 61, 3) := by decide +kernel
theorem d2_change_52 : decode c2_change 52 = .ok (.aload_n 0, 1) := by decide +kernel
theorem d2_change_53 : decode c2_change 53 = .ok (.getfield 39, 3) := by decide +kernel
theorem d2_change_56 : decode c2_change 56 = .ok (.iload 5, 2) := by decide +kernel
theorem d2_change_58 : decode c2_change 58 = .ok (.iastore, 1) := by decide +kernel
theorem d2_change_59 : decode c2_change 59 = .ok (.aload_n 0, 1) := by decide +kernel
theorem d2_change_60 : decode c2_change 60 = .ok (.dup, 1) := by decide +kernel
theorem d2_change_61 : decode c2_change 61 = .ok (.getfield 39, 3) := by decide +kernel
theorem d2_change_64 : decode c2_change 64 = .ok (.iconst 1, 1) := by decide +kernel
theorem d2_change_65 : decode c2_change 65 = .ok (.iadd, 1) := by decide +kernel
theorem d2_change_66 : decode c2_change 66 = .ok (.putfield 39, 3) := by decide +kernel
theorem d2_change_69 : decode c2_change 69 = .ok (.iload 5, 2) := by decide +kernel
theorem d2_change_71 : decode c2_change 71 = .ok (.ireturn, 1) := by decide +kernel
def f2_change (D : Mem) (r : Nat) (p0 : Int) (p1 : Int) (p2 : Int) : Option (Int × Mem) :=
  if w32 p1 = 0 then
    if 0 ≤ p0 ∧ p0 < 8 then
      Option.bind (some (D (r + 1) p0.toNat)) fun (v2 : Int) =>
      Option.bind (some (mset D (r + 1) p0.toNat p2)) fun (D5 : Mem) =>
      if 0 ≤ (D5 r 9) ∧ (D5 r 9) < 30 then
        Option.bind (some (mset D5 (r + 5) (D5 r 9).toNat p0)) fun (D6 : Mem) =>
        if 0 ≤ (D6 r 9) ∧ (D6 r 9) < 30 then
          Option.bind (some (mset D6 (r + 6) (D6 r 9).toNat p1)) fun (D7 : Mem) =>
          if 0 ≤ (D7 r 9) ∧ (D7 r 9) < 30 then
            Option.bind (some (mset D7 (r + 7) (D7 r 9).toNat v2)) fun (D8 : Mem) =>
            some (v2, (mset D8 r 9 ((D8 r 9) + 1)))
          else none
        else none
      else none
    else none
  else
    if 0 ≤ p0 ∧ p0 < 8 then
      Option.bind (some (D (r + 2) p0.toNat)) fun (v1 : Int) =>
      Option.bind (some (mset D (r + 2) p0.toNat p2)) fun (D1 : Mem) =>
      if 0 ≤ (D1 r 9) ∧ (D1 r 9) < 30 then
        Option.bind (some (mset D1 (r + 5) (D1 r 9).toNat p0)) fun (D2 : Mem) =>
        if 0 ≤ (D2 r 9) ∧ (D2 r 9) < 30 then
          Option.bind (some (mset D2 (r + 6) (D2 r 9).toNat p1)) fun (D3 : Mem) =>
          if 0 ≤ (D3 r 9) ∧ (D3 r 9) < 30 then
            Option.bind (some (mset D3 (r + 7) (D3 r 9).toNat v1)) fun (D4 : Mem) =>
            some (v1, (mset D4 r 9 ((D4 r 9) + 1)))
          else none
        else none
      else none
    else none
set_option maxHeartbeats 4000000 in
theorem ok2_change {l : Launch} {X : XT} {n : Nat} {D : Mem} {Q : Option Value → Nat → Rho → Mem → Prop} (hn : 117 ≤ n) {r : Nat} {p0 : Int} {p1 : Int} {p2 : Int} (hr : VR n r 2) (h : wpo (f2_change D r p0 p1 p2) (fun a => Q (some (vI a.1)) n rt a.2)) : MOK l y2_change c2_change 6 (some .int) { frames := 0, cells := 0, slots := 0, locals := 0 } 0 0 X [vR X r, vI p0, vI p1, vI p2] n rt D Q := by
  refine MOK_of 2 (by decide +kernel) rfl (lv := [(0, vR X r), (1, vI p0), (2, vI p1), (3, vI p2)]) (Nat.le_of_ble_eq_true rfl) rfl (fun K hK F hnm => ?_)
  subst hK
  unfold f2_change at h
  refine r_iload_n F 2 rfl rfl d2_change_0 ?_
  refine r_if_ne F (tgt := 11) d2_change_1 (by decide) (fun hb => ?_) (fun hb => ?_)
  · replace h := wpo_neg h hb
    refine r_aload_nR F 0 rfl rfl d2_change_11 ?_
    refine r_getR F (z := (r + 2)) lf2_46 hr (z2_11 hr) d2_change_12 ?_
    refine r_astoreR F (lv' := [(4, vR X (r + 2)), (0, vR X r), (1, vI p0), (2, vI p1), (3, vI p2)]) (Nat.le_of_ble_eq_true rfl) rfl d2_change_15 ?_
    refine r_aloadR F 0 rfl d2_change_17 ?_
    refine r_iload_n F 2 rfl rfl d2_change_19 ?_
    obtain ⟨hx1, h⟩ := wpo_chk h
    refine r_iald F (y2_11 hn hr) hx1 d2_change_20 ?_
    refine r_istore F (lv' := [(5, vI (D (r + 2) p0.toNat)), (4, vR X (r + 2)), (0, vR X r), (1, vI p0), (2, vI p1), (3, vI p2)]) (Nat.le_of_ble_eq_true rfl) rfl d2_change_21 ?_
    refine at_name (B := fun (v1 : Int) => At K X (ZQ K X Q) 0 0 n rt 6 23 [(5, vI v1), (4, vR X (r + 2)), (0, vR X r), (1, vI p0), (2, vI p1), (3, vI p2)] [] D) h (fun v1 h => ?_)
    refine r_aloadR F 1 rfl d2_change_23 ?_
    refine r_iload_n F 3 rfl rfl d2_change_25 ?_
    refine r_iload_n F 5 rfl rfl d2_change_26 ?_
    refine r_iast F (y2_11 hn hr) hx1 d2_change_27 ?_
    refine r_aload_nR F 2 rfl rfl d2_change_28 ?_
    refine r_getR F (z := (r + 5)) lf2_55 hr (z2_14 hr) d2_change_29 ?_
    refine r_aload_nR F 2 rfl rfl d2_change_32 ?_
    refine at_name (B := fun (D1 : Mem) => At K X (ZQ K X Q) 0 0 n rt 6 33 [(5, vI v1), (4, vR X (r + 2)), (0, vR X r), (1, vI p0), (2, vI p1), (3, vI p2)] [vR X r, vR X (r + 5)] D1) h (fun D1 h => ?_)
    refine r_getI F lf2_39 hr d2_change_33 ?_
    refine r_iload_n F 3 rfl rfl d2_change_36 ?_
    obtain ⟨hx2, h⟩ := wpo_chk h
    refine r_iast F (y2_14 hn hr) hx2 d2_change_37 ?_
    refine r_aload_nR F 2 rfl rfl d2_change_38 ?_
    refine r_getR F (z := (r + 6)) lf2_58 hr (z2_15 hr) d2_change_39 ?_
    refine r_aload_nR F 2 rfl rfl d2_change_42 ?_
    refine at_name (B := fun (D2 : Mem) => At K X (ZQ K X Q) 0 0 n rt 6 43 [(5, vI v1), (4, vR X (r + 2)), (0, vR X r), (1, vI p0), (2, vI p1), (3, vI p2)] [vR X r, vR X (r + 6)] D2) h (fun D2 h => ?_)
    refine r_getI F lf2_39 hr d2_change_43 ?_
    refine r_iload_n F 4 rfl rfl d2_change_46 ?_
    obtain ⟨hx3, h⟩ := wpo_chk h
    refine r_iast F (y2_15 hn hr) hx3 d2_change_47 ?_
    refine r_aload_nR F 2 rfl rfl d2_change_48 ?_
    refine r_getR F (z := (r + 7)) lf2_61 hr (z2_16 hr) d2_change_49 ?_
    refine r_aload_nR F 2 rfl rfl d2_change_52 ?_
    refine at_name (B := fun (D3 : Mem) => At K X (ZQ K X Q) 0 0 n rt 6 53 [(5, vI v1), (4, vR X (r + 2)), (0, vR X r), (1, vI p0), (2, vI p1), (3, vI p2)] [vR X r, vR X (r + 7)] D3) h (fun D3 h => ?_)
    refine r_getI F lf2_39 hr d2_change_53 ?_
    refine r_iload F 0 rfl d2_change_56 ?_
    obtain ⟨hx4, h⟩ := wpo_chk h
    refine r_iast F (y2_16 hn hr) hx4 d2_change_58 ?_
    refine r_aload_nR F 2 rfl rfl d2_change_59 ?_
    refine r_dup F rfl d2_change_60 ?_
    refine at_name (B := fun (D4 : Mem) => At K X (ZQ K X Q) 0 0 n rt 6 61 [(5, vI v1), (4, vR X (r + 2)), (0, vR X r), (1, vI p0), (2, vI p1), (3, vI p2)] [vR X r, vR X r] D4) h (fun D4 h => ?_)
    refine r_getI F lf2_39 hr d2_change_61 ?_
    refine r_iconst F (z := 1) d2_change_64 ?_
    refine r_iadd F d2_change_65 ?_
    refine r_putI F lf2_39 rfl rfl hr d2_change_66 ?_
    refine r_iload F 0 rfl d2_change_69 ?_
    replace h := wpo_some h
    exact r_iret F h d2_change_71
  · replace h := wpo_pos h hb
    refine r_aload_nR F 0 rfl rfl d2_change_4 ?_
    refine r_getR F (z := (r + 1)) lf2_42 hr (z2_10 hr) d2_change_5 ?_
    refine r_goto F (tgt := 15) (by decide) d2_change_8 ?_
    refine r_astoreR F (lv' := [(4, vR X (r + 1)), (0, vR X r), (1, vI p0), (2, vI p1), (3, vI p2)]) (Nat.le_of_ble_eq_true rfl) rfl d2_change_15 ?_
    refine r_aloadR F 0 rfl d2_change_17 ?_
    refine r_iload_n F 2 rfl rfl d2_change_19 ?_
    obtain ⟨hx5, h⟩ := wpo_chk h
    refine r_iald F (y2_10 hn hr) hx5 d2_change_20 ?_
    refine r_istore F (lv' := [(5, vI (D (r + 1) p0.toNat)), (4, vR X (r + 1)), (0, vR X r), (1, vI p0), (2, vI p1), (3, vI p2)]) (Nat.le_of_ble_eq_true rfl) rfl d2_change_21 ?_
    refine at_name (B := fun (v2 : Int) => At K X (ZQ K X Q) 0 0 n rt 6 23 [(5, vI v2), (4, vR X (r + 1)), (0, vR X r), (1, vI p0), (2, vI p1), (3, vI p2)] [] D) h (fun v2 h => ?_)
    refine r_aloadR F 1 rfl d2_change_23 ?_
    refine r_iload_n F 3 rfl rfl d2_change_25 ?_
    refine r_iload_n F 5 rfl rfl d2_change_26 ?_
    refine r_iast F (y2_10 hn hr) hx5 d2_change_27 ?_
    refine r_aload_nR F 2 rfl rfl d2_change_28 ?_
    refine r_getR F (z := (r + 5)) lf2_55 hr (z2_14 hr) d2_change_29 ?_
    refine r_aload_nR F 2 rfl rfl d2_change_32 ?_
    refine at_name (B := fun (D5 : Mem) => At K X (ZQ K X Q) 0 0 n rt 6 33 [(5, vI v2), (4, vR X (r + 1)), (0, vR X r), (1, vI p0), (2, vI p1), (3, vI p2)] [vR X r, vR X (r + 5)] D5) h (fun D5 h => ?_)
    refine r_getI F lf2_39 hr d2_change_33 ?_
    refine r_iload_n F 3 rfl rfl d2_change_36 ?_
    obtain ⟨hx6, h⟩ := wpo_chk h
    refine r_iast F (y2_14 hn hr) hx6 d2_change_37 ?_
    refine r_aload_nR F 2 rfl rfl d2_change_38 ?_
    refine r_getR F (z := (r + 6)) lf2_58 hr (z2_15 hr) d2_change_39 ?_
    refine r_aload_nR F 2 rfl rfl d2_change_42 ?_
    refine at_name (B := fun (D6 : Mem) => At K X (ZQ K X Q) 0 0 n rt 6 43 [(5, vI v2), (4, vR X (r + 1)), (0, vR X r), (1, vI p0), (2, vI p1), (3, vI p2)] [vR X r, vR X (r + 6)] D6) h (fun D6 h => ?_)
    refine r_getI F lf2_39 hr d2_change_43 ?_
    refine r_iload_n F 4 rfl rfl d2_change_46 ?_
    obtain ⟨hx7, h⟩ := wpo_chk h
    refine r_iast F (y2_15 hn hr) hx7 d2_change_47 ?_
    refine r_aload_nR F 2 rfl rfl d2_change_48 ?_
    refine r_getR F (z := (r + 7)) lf2_61 hr (z2_16 hr) d2_change_49 ?_
    refine r_aload_nR F 2 rfl rfl d2_change_52 ?_
    refine at_name (B := fun (D7 : Mem) => At K X (ZQ K X Q) 0 0 n rt 6 53 [(5, vI v2), (4, vR X (r + 1)), (0, vR X r), (1, vI p0), (2, vI p1), (3, vI p2)] [vR X r, vR X (r + 7)] D7) h (fun D7 h => ?_)
    refine r_getI F lf2_39 hr d2_change_53 ?_
    refine r_iload F 0 rfl d2_change_56 ?_
    obtain ⟨hx8, h⟩ := wpo_chk h
    refine r_iast F (y2_16 hn hr) hx8 d2_change_58 ?_
    refine r_aload_nR F 2 rfl rfl d2_change_59 ?_
    refine r_dup F rfl d2_change_60 ?_
    refine at_name (B := fun (D8 : Mem) => At K X (ZQ K X Q) 0 0 n rt 6 61 [(5, vI v2), (4, vR X (r + 1)), (0, vR X r), (1, vI p0), (2, vI p1), (3, vI p2)] [vR X r, vR X r] D8) h (fun D8 h => ?_)
    refine r_getI F lf2_39 hr d2_change_61 ?_
    refine r_iconst F (z := 1) d2_change_64 ?_
    refine r_iadd F d2_change_65 ?_
    refine r_putI F lf2_39 rfl rfl hr d2_change_66 ?_
    refine r_iload F 0 rfl d2_change_69 ?_
    replace h := wpo_some h
    exact r_iret F h d2_change_71
theorem d9_act_0 : decode c9_act 0 = .ok (.aload_n 0, 1) := by decide +kernel
theorem d9_act_1 : decode c9_act 1 = .ok (.getfield 28, 3) := by decide +kernel
theorem d9_act_4 : decode c9_act 4 = .ok (.getfield 342, 3) := by decide +kernel
theorem d9_act_7 : decode c9_act 7 = .ok (.bipush 30, 2) := by decide +kernel
theorem d9_act_9 : decode c9_act 9 = .ok (.if_icmp .lt 6, 3) := by decide +kernel
theorem d9_act_12 : decode c9_act 12 = .ok (.bipush (-5), 2) := by decide +kernel
theorem d9_act_14 : decode c9_act 14 = .ok (.ireturn, 1) := by decide +kernel
theorem d9_act_15 : decode c9_act 15 = .ok (.aload_n 0, 1) := by decide +kernel
theorem d9_act_16 : decode c9_act 16 = .ok (.getfield 28, 3) := by decide +kernel
theorem d9_act_19 : decode c9_act 19 = .ok (.iload_n 1, 1) := by decide +kernel
theorem d9_act_20 : decode c9_act 20 = .ok (.iload_n 2, 1) := by decide +kernel
theorem d9_act_21 : decode c9_act 21 = .ok (.iload_n 3, 1) := by decide +kernel
theorem d9_act_22 : decode c9_act 22 = .ok (.invokevirtual 400, 3) := by decide +kernel
theorem d9_act_25 : decode c9_act 25 = .ok (.istore 4, 2) := by decide +kernel
theorem d9_act_27 : decode c9_act 27 = .ok (.aload_n 0, 1) := by decide +kernel
theorem d9_act_28 : decode c9_act 28 = .ok (.invokevirtual 94, 3) := by decide +kernel
theorem d9_act_31 : decode c9_act 31 = .ok (.iload 4, 2) := by decide +kernel
theorem d9_act_33 : decode c9_act 33 = .ok (.ireturn, 1) := by decide +kernel
def f9_act (D : Mem) (p0 : Int) (p1 : Int) (p2 : Int) : Option (Int × Mem) :=
  if w32 (D 12 9) < w32 30 then
    Option.bind (f2_change D 12 p0 p1 p2) fun (a1 : Int × Mem) =>
    Option.bind (f9_changed a1.2) fun (a2 : Mem) =>
    some (a1.1, a2)
  else
    some ((-5), D)
set_option maxHeartbeats 4000000 in
theorem ok9_act {l : Launch} {X : XT} {n : Nat} {D : Mem} {Q : Option Value → Nat → Rho → Mem → Prop} (hn : 117 ≤ n) {p0 : Int} {p1 : Int} {p2 : Int}  (h : wpo (f9_act D p0 p1 p2) (fun a => Q (some (vI a.1)) n rt a.2)) : MOK l y9_act c9_act 5 (some .int) { frames := 4, cells := 0, slots := 0, locals := 88 } 0 0 X [vR X 0, vI p0, vI p1, vI p2] n rt D Q := by
  refine MOK_of 9 (by decide +kernel) rfl (lv := [(0, vR X 0), (1, vI p0), (2, vI p1), (3, vI p2)]) (Nat.le_of_ble_eq_true rfl) rfl (fun K hK F hnm => ?_)
  subst hK
  unfold f9_act at h
  refine r_aload_nR F 0 rfl rfl d9_act_0 ?_
  refine r_getR F (z := 12) lf9_28 (vc0 hn) z0_2 d9_act_1 ?_
  refine r_getI F lf9_342 (vc12 hn) d9_act_4 ?_
  refine r_bipush F (z := 30) (by decide) d9_act_7 ?_
  refine r_icmp_lt F (tgt := 15) d9_act_9 (by decide) (fun hb => ?_) (fun hb => ?_)
  · replace h := wpo_pos h hb
    refine r_aload_nR F 0 rfl rfl d9_act_15 ?_
    refine r_getR F (z := 12) lf9_28 (vc0 hn) z0_2 d9_act_16 ?_
    refine r_iload_n F 1 rfl rfl d9_act_19 ?_
    refine r_iload_n F 2 rfl rfl d9_act_20 ?_
    refine r_iload_n F 3 rfl rfl d9_act_21 ?_
    replace h := wpo_bind h
    refine r_callV0 F lm9_400 mf2_change (vc12 hn) rfl (fr := 0) (lo := 0) (As := [vI p0, vI p1, vI p2]) (rest := []) ⟨Nat.le_of_ble_eq_true rfl, Nat.le_of_ble_eq_true rfl⟩ rfl (Nat.le_of_ble_eq_true rfl) ⟨Nat.zero_le _, Nat.zero_le _⟩ d9_act_22 ?_
    refine ok2_change hn (vc12 hn) (kIm h (fun a1 h => ?_))
    refine r_istore F (lv' := [(4, vI a1.1), (0, vR X 0), (1, vI p0), (2, vI p1), (3, vI p2)]) (Nat.le_of_ble_eq_true rfl) rfl d9_act_25 ?_
    refine r_aload_nR F 1 rfl rfl d9_act_27 ?_
    replace h := wpo_bind h
    refine r_callV0 F lm9_94 mf9_changed (vc0 hn) rfl (fr := 3) (lo := 68) (As := []) (rest := []) ⟨Nat.le_of_ble_eq_true rfl, Nat.le_of_ble_eq_true rfl⟩ rfl (Nat.le_of_ble_eq_true rfl) ⟨Nat.zero_le _, Nat.zero_le _⟩ d9_act_28 ?_
    refine ok9_changed hn  (kVm h (fun a2 h => ?_))
    refine r_iload F 0 rfl d9_act_31 ?_
    replace h := wpo_some h
    exact r_iret F h d9_act_33
  · replace h := wpo_neg h hb
    refine r_bipush F (z := (-5)) (by decide) d9_act_12 ?_
    replace h := wpo_some h
    exact r_iret F h d9_act_14
