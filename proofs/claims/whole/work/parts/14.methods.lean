/-! METHODS, printed by wip/whole/gen/mkall.py -/
theorem d9_ache_0 : decode c9_ache 0 = .ok (.aload_n 0, 1) := by decide +kernel
theorem d9_ache_1 : decode c9_ache 1 = .ok (.iload_n 1, 1) := by decide +kernel
theorem d9_ache_2 : decode c9_ache 2 = .ok (.invokevirtual 124, 3) := by decide +kernel
theorem d9_ache_5 : decode c9_ache 5 = .ok (.ifCond .eq 14, 3) := by decide +kernel
theorem d9_ache_8 : decode c9_ache 8 = .ok (.iload_n 2, 1) := by decide +kernel
theorem d9_ache_9 : decode c9_ache 9 = .ok (.iconst 1, 1) := by decide +kernel
theorem d9_ache_10 : decode c9_ache 10 = .ok (.if_icmp .lt 9, 3) := by decide +kernel
theorem d9_ache_13 : decode c9_ache 13 = .ok (.iload_n 2, 1) := by decide +kernel
theorem d9_ache_14 : decode c9_ache 14 = .ok (.bipush 20, 2) := by decide +kernel
theorem d9_ache_16 : decode c9_ache 16 = .ok (.if_icmp .le 6, 3) := by decide +kernel
theorem d9_ache_19 : decode c9_ache 19 = .ok (.bipush (-2), 2) := by decide +kernel
theorem d9_ache_21 : decode c9_ache 21 = .ok (.ireturn, 1) := by decide +kernel
theorem d9_ache_22 : decode c9_ache 22 = .ok (.aload_n 0, 1) := by decide +kernel
theorem d9_ache_23 : decode c9_ache 23 = .ok (.iload_n 1, 1) := by decide +kernel
theorem d9_ache_24 : decode c9_ache 24 = .ok (.iconst 0, 1) := by decide +kernel
theorem d9_ache_25 : decode c9_ache 25 = .ok (.iload_n 2, 1) := by decide +kernel
theorem d9_ache_26 : decode c9_ache 26 = .ok (.invokevirtual 338, 3) := by decide +kernel
theorem d9_ache_29 : decode c9_ache 29 = .ok (.ireturn, 1) := by decide +kernel
def f9_ache (D : Mem) (p0 : Int) (p1 : Int) : Option (Int × Mem) :=
  Option.bind (f9_isPerson D p0) fun (a1 : Int) =>
  if w32 a1 = 0 then
    some ((-2), D)
  else
    if w32 p1 < w32 1 then
      some ((-2), D)
    else
      if w32 20 < w32 p1 then
        some ((-2), D)
      else
        Option.bind (f9_act D p0 0 p1) fun (a2 : Int × Mem) =>
        some (a2.1, a2.2)
set_option maxHeartbeats 4000000 in
theorem ok9_ache {l : Launch} {X : XT} {n : Nat} {D : Mem} {Q : Option Value → Nat → Rho → Mem → Prop} (hn : 117 ≤ n) {p0 : Int} {p1 : Int}  (h : wpo (f9_ache D p0 p1) (fun a => Q (some (vI a.1)) n rt a.2)) : MOK l y9_ache c9_ache 3 (some .int) { frames := 5, cells := 0, slots := 0, locals := 112 } 0 0 X [vR X 0, vI p0, vI p1] n rt D Q := by
  refine MOK_of 9 (by decide +kernel) rfl (lv := [(0, vR X 0), (1, vI p0), (2, vI p1)]) (Nat.le_of_ble_eq_true rfl) rfl (fun K hK F hnm => ?_)
  subst hK
  unfold f9_ache at h
  refine r_aload_nR F 0 rfl rfl d9_ache_0 ?_
  refine r_iload_n F 1 rfl rfl d9_ache_1 ?_
  replace h := wpo_bind h
  refine r_callV0 F lm9_124 mf9_isPerson (vc0 hn) rfl (fr := 0) (lo := 0) (As := [vI p0]) (rest := []) ⟨Nat.le_of_ble_eq_true rfl, Nat.le_of_ble_eq_true rfl⟩ rfl (Nat.le_of_ble_eq_true rfl) ⟨Nat.zero_le _, Nat.zero_le _⟩ d9_ache_2 ?_
  refine ok9_isPerson hn  (kI h (fun a1 h => ?_))
  refine r_if_eq F (tgt := 19) d9_ache_5 (by decide) (fun hb => ?_) (fun hb => ?_)
  · replace h := wpo_pos h hb
    refine r_bipush F (z := (-2)) (by decide) d9_ache_19 ?_
    replace h := wpo_some h
    exact r_iret F h d9_ache_21
  · replace h := wpo_neg h hb
    refine r_iload_n F 2 rfl rfl d9_ache_8 ?_
    refine r_iconst F (z := 1) d9_ache_9 ?_
    refine r_icmp_lt F (tgt := 19) d9_ache_10 (by decide) (fun hb => ?_) (fun hb => ?_)
    · replace h := wpo_pos h hb
      refine r_bipush F (z := (-2)) (by decide) d9_ache_19 ?_
      replace h := wpo_some h
      exact r_iret F h d9_ache_21
    · replace h := wpo_neg h hb
      refine r_iload_n F 2 rfl rfl d9_ache_13 ?_
      refine r_bipush F (z := 20) (by decide) d9_ache_14 ?_
      refine r_icmp_le F (tgt := 22) d9_ache_16 (by decide) (fun hb => ?_) (fun hb => ?_)
      · replace h := wpo_neg h hb
        refine r_aload_nR F 0 rfl rfl d9_ache_22 ?_
        refine r_iload_n F 1 rfl rfl d9_ache_23 ?_
        refine r_iconst F (z := 0) d9_ache_24 ?_
        refine r_iload_n F 2 rfl rfl d9_ache_25 ?_
        replace h := wpo_bind h
        refine r_callV0 F lm9_338 mf9_act (vc0 hn) rfl (fr := 4) (lo := 88) (As := [vI p0, vI 0, vI p1]) (rest := []) ⟨Nat.le_of_ble_eq_true rfl, Nat.le_of_ble_eq_true rfl⟩ rfl (Nat.le_of_ble_eq_true rfl) ⟨Nat.zero_le _, Nat.zero_le _⟩ d9_ache_26 ?_
        refine ok9_act hn  (kIm h (fun a2 h => ?_))
        replace h := wpo_some h
        exact r_iret F h d9_ache_29
      · replace h := wpo_pos h hb
        refine r_bipush F (z := (-2)) (by decide) d9_ache_19 ?_
        replace h := wpo_some h
        exact r_iret F h d9_ache_21
theorem d9_comes_0 : decode c9_comes 0 = .ok (.aload_n 0, 1) := by decide +kernel
theorem d9_comes_1 : decode c9_comes 1 = .ok (.iload_n 1, 1) := by decide +kernel
theorem d9_comes_2 : decode c9_comes 2 = .ok (.invokevirtual 124, 3) := by decide +kernel
theorem d9_comes_5 : decode c9_comes 5 = .ok (.ifCond .eq 13, 3) := by decide +kernel
theorem d9_comes_8 : decode c9_comes 8 = .ok (.iload_n 2, 1) := by decide +kernel
theorem d9_comes_9 : decode c9_comes 9 = .ok (.ifCond .lt 9, 3) := by decide +kernel
theorem d9_comes_12 : decode c9_comes 12 = .ok (.iload_n 2, 1) := by decide +kernel
theorem d9_comes_13 : decode c9_comes 13 = .ok (.bipush 11, 2) := by decide +kernel
theorem d9_comes_15 : decode c9_comes 15 = .ok (.if_icmp .le 6, 3) := by decide +kernel
theorem d9_comes_18 : decode c9_comes 18 = .ok (.bipush (-2), 2) := by decide +kernel
theorem d9_comes_20 : decode c9_comes 20 = .ok (.ireturn, 1) := by decide +kernel
theorem d9_comes_21 : decode c9_comes 21 = .ok (.aload_n 0, 1) := by decide +kernel
theorem d9_comes_22 : decode c9_comes 22 = .ok (.iload_n 1, 1) := by decide +kernel
theorem d9_comes_23 : decode c9_comes 23 = .ok (.iconst 1, 1) := by decide +kernel
theorem d9_comes_24 : decode c9_comes 24 = .ok (.iload_n 2, 1) := by decide +kernel
theorem d9_comes_25 : decode c9_comes 25 = .ok (.invokevirtual 338, 3) := by decide +kernel
theorem d9_comes_28 : decode c9_comes 28 = .ok (.ireturn, 1) := by decide +kernel
def f9_comes (D : Mem) (p0 : Int) (p1 : Int) : Option (Int × Mem) :=
  Option.bind (f9_isPerson D p0) fun (a1 : Int) =>
  if w32 a1 = 0 then
    some ((-2), D)
  else
    if w32 p1 < 0 then
      some ((-2), D)
    else
      if w32 11 < w32 p1 then
        some ((-2), D)
      else
        Option.bind (f9_act D p0 1 p1) fun (a2 : Int × Mem) =>
        some (a2.1, a2.2)
set_option maxHeartbeats 4000000 in
theorem ok9_comes {l : Launch} {X : XT} {n : Nat} {D : Mem} {Q : Option Value → Nat → Rho → Mem → Prop} (hn : 117 ≤ n) {p0 : Int} {p1 : Int}  (h : wpo (f9_comes D p0 p1) (fun a => Q (some (vI a.1)) n rt a.2)) : MOK l y9_comes c9_comes 3 (some .int) { frames := 5, cells := 0, slots := 0, locals := 112 } 0 0 X [vR X 0, vI p0, vI p1] n rt D Q := by
  refine MOK_of 9 (by decide +kernel) rfl (lv := [(0, vR X 0), (1, vI p0), (2, vI p1)]) (Nat.le_of_ble_eq_true rfl) rfl (fun K hK F hnm => ?_)
  subst hK
  unfold f9_comes at h
  refine r_aload_nR F 0 rfl rfl d9_comes_0 ?_
  refine r_iload_n F 1 rfl rfl d9_comes_1 ?_
  replace h := wpo_bind h
  refine r_callV0 F lm9_124 mf9_isPerson (vc0 hn) rfl (fr := 0) (lo := 0) (As := [vI p0]) (rest := []) ⟨Nat.le_of_ble_eq_true rfl, Nat.le_of_ble_eq_true rfl⟩ rfl (Nat.le_of_ble_eq_true rfl) ⟨Nat.zero_le _, Nat.zero_le _⟩ d9_comes_2 ?_
  refine ok9_isPerson hn  (kI h (fun a1 h => ?_))
  refine r_if_eq F (tgt := 18) d9_comes_5 (by decide) (fun hb => ?_) (fun hb => ?_)
  · replace h := wpo_pos h hb
    refine r_bipush F (z := (-2)) (by decide) d9_comes_18 ?_
    replace h := wpo_some h
    exact r_iret F h d9_comes_20
  · replace h := wpo_neg h hb
    refine r_iload_n F 2 rfl rfl d9_comes_8 ?_
    refine r_if_lt F (tgt := 18) d9_comes_9 (by decide) (fun hb => ?_) (fun hb => ?_)
    · replace h := wpo_pos h hb
      refine r_bipush F (z := (-2)) (by decide) d9_comes_18 ?_
      replace h := wpo_some h
      exact r_iret F h d9_comes_20
    · replace h := wpo_neg h hb
      refine r_iload_n F 2 rfl rfl d9_comes_12 ?_
      refine r_bipush F (z := 11) (by decide) d9_comes_13 ?_
      refine r_icmp_le F (tgt := 21) d9_comes_15 (by decide) (fun hb => ?_) (fun hb => ?_)
      · replace h := wpo_neg h hb
        refine r_aload_nR F 0 rfl rfl d9_comes_21 ?_
        refine r_iload_n F 1 rfl rfl d9_comes_22 ?_
        refine r_iconst F (z := 1) d9_comes_23 ?_
        refine r_iload_n F 2 rfl rfl d9_comes_24 ?_
        replace h := wpo_bind h
        refine r_callV0 F lm9_338 mf9_act (vc0 hn) rfl (fr := 4) (lo := 88) (As := [vI p0, vI 1, vI p1]) (rest := []) ⟨Nat.le_of_ble_eq_true rfl, Nat.le_of_ble_eq_true rfl⟩ rfl (Nat.le_of_ble_eq_true rfl) ⟨Nat.zero_le _, Nat.zero_le _⟩ d9_comes_25 ?_
        refine ok9_act hn  (kIm h (fun a2 h => ?_))
        replace h := wpo_some h
        exact r_iret F h d9_comes_28
      · replace h := wpo_pos h hb
        refine r_bipush F (z := (-2)) (by decide) d9_comes_18 ?_
        replace h := wpo_some h
        exact r_iret F h d9_comes_20
theorem d2_takeBack_0 : decode c2_takeBack 0 = .ok (.aload_n 0, 1) := by decide +kernel
theorem d2_takeBack_1 : decode c2_takeBack 1 = .ok (.getfield 39, 3) := by decide +kernel
theorem d2_takeBack_4 : decode c2_takeBack 4 = .ok (.ifCond .ne 4, 3) := by decide +kernel
theorem d2_takeBack_7 : decode c2_takeBack 7 = .ok (.return_, 1) := by decide +kernel
theorem d2_takeBack_8 : decode c2_takeBack 8 = .ok (.aload_n 0, 1) := by decide +kernel
theorem d2_takeBack_9 : decode c2_takeBack 9 = .ok (.dup, 1) := by decide +kernel
theorem d2_takeBack_10 : decode c2_takeBack 10 = .ok (.getfield 39, 3) := by decide +kernel
theorem d2_takeBack_13 : decode c2_takeBack 13 = .ok (.iconst 1, 1) := by decide +kernel
theorem d2_takeBack_14 : decode c2_takeBack 14 = .ok (.isub, 1) := by decide +kernel
theorem d2_takeBack_15 : decode c2_takeBack 15 = .ok (.putfield 39, 3) := by decide +kernel
theorem d2_takeBack_18 : decode c2_takeBack 18 = .ok (.aload_n 0, 1) := by decide +kernel
theorem d2_takeBack_19 : decode c2_takeBack 19 = .ok (.getfield 58, 3) := by decide +kernel
theorem d2_takeBack_22 : decode c2_takeBack 22 = .ok (.aload_n 0, 1) := by decide +kernel
theorem d2_takeBack_23 : decode c2_takeBack 23 = .ok (.getfield 39, 3) := by decide +kernel
theorem d2_takeBack_26 : decode c2_takeBack 26 = .ok (.iaload, 1) := by decide +kernel
theorem d2_takeBack_27 : decode c2_takeBack 27 = .ok (.ifCond .ne 10, 3) := by decide +kernel
theorem d2_takeBack_30 : decode c2_takeBack 30 = .ok (.aload_n 0, 1) := by decide +kernel
theorem d2_takeBack_31 : decode c2_takeBack 31 = .ok (.getfield 42, 3) := by decide +kernel
theorem d2_takeBack_34 : decode c2_takeBack 34 = .ok (.goto 7, 3) := by decide +kernel
theorem d2_takeBack_37 : decode c2_takeBack 37 = .ok (.aload_n 0, 1) := by decide +kernel
theorem d2_takeBack_38 : decode c2_takeBack 38 = .ok (.getfield 46, 3) := by decide +kernel
theorem d2_takeBack_41 : decode c2_takeBack 41 = .ok (.astore_n 1, 1) := by decide +kernel
theorem d2_takeBack_42 : decode c2_takeBack 42 = .ok (.aload_n 1, 1) := by decide +kernel
theorem d2_takeBack_43 : decode c2_takeBack 43 = .ok (.aload_n 0, 1) := by decide +kernel
theorem d2_takeBack_44 : decode c2_takeBack 44 = .ok (.getfield 55, 3) := by decide +kernel
theorem d2_takeBack_47 : decode c2_takeBack 47 = .ok (.aload_n 0, 1) := by decide +kernel
theorem d2_takeBack_48 : decode c2_takeBack 48 = .ok (.getfield 39, 3) := by decide +kernel
theorem d2_takeBack_51 : decode c2_takeBack 51 = .ok (.iaload, 1) := by decide +kernel
theorem d2_takeBack_52 : decode c2_takeBack 52 = .ok (.aload_n 0, 1) := by decide +kernel
theorem d2_takeBack_53 : decode c2_takeBack 53 = .ok (.getfield 61, 3) := by decide +kernel
theorem d2_takeBack_56 : decode c2_takeBack 56 = .ok (.aload_n 0, 1) := by decide +kernel
theorem d2_takeBack_57 : decode c2_takeBack 57 = .ok (.getfield 39, 3) := by decide +kernel
theorem d2_takeBack_60 : decode c2_takeBack 60 = .ok (.iaload, 1) := by decide +kernel
theorem d2_takeBack_61 : decode c2_takeBack 61 = .ok (.iastore, 1) := by decide +kernel
theorem d2_takeBack_62 : decode c2_takeBack 62 = .ok (.return_, 1) := by decide +kernel
def f2_takeBack (D : Mem) (r : Nat) : Option (Mem) :=
  if w32 (D r 9) = 0 then
    some D
  else
    Option.bind (some (mset D r 9 ((D r 9) - 1))) fun (D1 : Mem) =>
    if 0 ≤ (D1 r 9) ∧ (D1 r 9) < 30 then
      if w32 (D1 (r + 6) (D1 r 9).toNat) = 0 then
        if 0 ≤ (D1 (r + 5) (D1 r 9).toNat) ∧ (D1 (r + 5) (D1 r 9).toNat) < 8 then
          some (mset D1 (r + 1) (D1 (r + 5) (D1 r 9).toNat).toNat (D1 (r + 7) (D1 r 9).toNat))
        else none
      else
        if 0 ≤ (D1 (r + 5) (D1 r 9).toNat) ∧ (D1 (r + 5) (D1 r 9).toNat) < 8 then
          some (mset D1 (r + 2) (D1 (r + 5) (D1 r 9).toNat).toNat (D1 (r + 7) (D1 r 9).toNat))
        else none
    else none
set_option maxHeartbeats 4000000 in
theorem ok2_takeBack {l : Launch} {X : XT} {n : Nat} {D : Mem} {Q : Option Value → Nat → Rho → Mem → Prop} (hn : 117 ≤ n) {r : Nat} (hr : VR n r 2) (h : wpo (f2_takeBack D r) (fun a => Q none n rt a)) : MOK l y2_takeBack c2_takeBack 2 (none) { frames := 0, cells := 0, slots := 0, locals := 0 } 0 0 X [vR X r] n rt D Q := by
  refine MOK_of 2 (by decide +kernel) rfl (lv := [(0, vR X r)]) (Nat.le_of_ble_eq_true rfl) rfl (fun K hK F hnm => ?_)
  subst hK
  unfold f2_takeBack at h
  refine r_aload_nR F 0 rfl rfl d2_takeBack_0 ?_
  refine r_getI F lf2_39 hr d2_takeBack_1 ?_
  refine r_if_ne F (tgt := 8) d2_takeBack_4 (by decide) (fun hb => ?_) (fun hb => ?_)
  · replace h := wpo_neg h hb
    refine r_aload_nR F 0 rfl rfl d2_takeBack_8 ?_
    refine r_dup F rfl d2_takeBack_9 ?_
    refine r_getI F lf2_39 hr d2_takeBack_10 ?_
    refine r_iconst F (z := 1) d2_takeBack_13 ?_
    refine r_isub F d2_takeBack_14 ?_
    refine r_putI F lf2_39 rfl rfl hr d2_takeBack_15 ?_
    refine r_aload_nR F 0 rfl rfl d2_takeBack_18 ?_
    refine r_getR F (z := (r + 6)) lf2_58 hr (z2_15 hr) d2_takeBack_19 ?_
    refine r_aload_nR F 0 rfl rfl d2_takeBack_22 ?_
    refine at_name (B := fun (D1 : Mem) => At K X (ZQ K X Q) 0 0 n rt 2 23 [(0, vR X r)] [vR X r, vR X (r + 6)] D1) h (fun D1 h => ?_)
    refine r_getI F lf2_39 hr d2_takeBack_23 ?_
    obtain ⟨hx1, h⟩ := wpo_chk h
    refine r_iald F (y2_15 hn hr) hx1 d2_takeBack_26 ?_
    refine r_if_ne F (tgt := 37) d2_takeBack_27 (by decide) (fun hb => ?_) (fun hb => ?_)
    · replace h := wpo_neg h hb
      refine r_aload_nR F 0 rfl rfl d2_takeBack_37 ?_
      refine r_getR F (z := (r + 2)) lf2_46 hr (z2_11 hr) d2_takeBack_38 ?_
      refine r_astore_nR F (lv' := [(1, vR X (r + 2)), (0, vR X r)]) rfl (Nat.le_of_ble_eq_true rfl) rfl d2_takeBack_41 ?_
      refine r_aload_nR F 0 rfl rfl d2_takeBack_42 ?_
      refine r_aload_nR F 1 rfl rfl d2_takeBack_43 ?_
      refine r_getR F (z := (r + 5)) lf2_55 hr (z2_14 hr) d2_takeBack_44 ?_
      refine r_aload_nR F 1 rfl rfl d2_takeBack_47 ?_
      refine r_getI F lf2_39 hr d2_takeBack_48 ?_
      refine r_iald F (y2_14 hn hr) hx1 d2_takeBack_51 ?_
      refine r_aload_nR F 1 rfl rfl d2_takeBack_52 ?_
      refine r_getR F (z := (r + 7)) lf2_61 hr (z2_16 hr) d2_takeBack_53 ?_
      refine r_aload_nR F 1 rfl rfl d2_takeBack_56 ?_
      refine r_getI F lf2_39 hr d2_takeBack_57 ?_
      refine r_iald F (y2_16 hn hr) hx1 d2_takeBack_60 ?_
      obtain ⟨hx2, h⟩ := wpo_chk h
      refine r_iast F (y2_11 hn hr) hx2 d2_takeBack_61 ?_
      replace h := wpo_some h
      exact r_vret F h d2_takeBack_62
    · replace h := wpo_pos h hb
      refine r_aload_nR F 0 rfl rfl d2_takeBack_30 ?_
      refine r_getR F (z := (r + 1)) lf2_42 hr (z2_10 hr) d2_takeBack_31 ?_
      refine r_goto F (tgt := 41) (by decide) d2_takeBack_34 ?_
      refine r_astore_nR F (lv' := [(1, vR X (r + 1)), (0, vR X r)]) rfl (Nat.le_of_ble_eq_true rfl) rfl d2_takeBack_41 ?_
      refine r_aload_nR F 0 rfl rfl d2_takeBack_42 ?_
      refine r_aload_nR F 1 rfl rfl d2_takeBack_43 ?_
      refine r_getR F (z := (r + 5)) lf2_55 hr (z2_14 hr) d2_takeBack_44 ?_
      refine r_aload_nR F 1 rfl rfl d2_takeBack_47 ?_
      refine r_getI F lf2_39 hr d2_takeBack_48 ?_
      refine r_iald F (y2_14 hn hr) hx1 d2_takeBack_51 ?_
      refine r_aload_nR F 1 rfl rfl d2_takeBack_52 ?_
      refine r_getR F (z := (r + 7)) lf2_61 hr (z2_16 hr) d2_takeBack_53 ?_
      refine r_aload_nR F 1 rfl rfl d2_takeBack_56 ?_
      refine r_getI F lf2_39 hr d2_takeBack_57 ?_
      refine r_iald F (y2_16 hn hr) hx1 d2_takeBack_60 ?_
      obtain ⟨hx3, h⟩ := wpo_chk h
      refine r_iast F (y2_10 hn hr) hx3 d2_takeBack_61 ?_
      replace h := wpo_some h
      exact r_vret F h d2_takeBack_62
  · replace h := wpo_pos h hb
    replace h := wpo_some h
    exact r_vret F h d2_takeBack_7
theorem d9_undo_0 : decode c9_undo 0 = .ok (.aload_n 0, 1) := by decide +kernel
theorem d9_undo_1 : decode c9_undo 1 = .ok (.invokevirtual 159, 3) := by decide +kernel
theorem d9_undo_4 : decode c9_undo 4 = .ok (.ifCond .ne 6, 3) := by decide +kernel
theorem d9_undo_7 : decode c9_undo 7 = .ok (.bipush (-2), 2) := by decide +kernel
theorem d9_undo_9 : decode c9_undo 9 = .ok (.ireturn, 1) := by decide +kernel
theorem d9_undo_10 : decode c9_undo 10 = .ok (.aload_n 0, 1) := by decide +kernel
theorem d9_undo_11 : decode c9_undo 11 = .ok (.getfield 28, 3) := by decide +kernel
theorem d9_undo_14 : decode c9_undo 14 = .ok (.getfield 342, 3) := by decide +kernel
theorem d9_undo_17 : decode c9_undo 17 = .ok (.ifCond .ne 6, 3) := by decide +kernel
theorem d9_undo_20 : decode c9_undo 20 = .ok (.bipush (-5), 2) := by decide +kernel
theorem d9_undo_22 : decode c9_undo 22 = .ok (.ireturn, 1) := by decide +kernel
theorem d9_undo_23 : decode c9_undo 23 = .ok (.aload_n 0, 1) := by decide +kernel
theorem d9_undo_24 : decode c9_undo 24 = .ok (.getfield 28, 3) := by decide +kernel
theorem d9_undo_27 : decode c9_undo 27 = .ok (.invokevirtual 345, 3) := by decide +kernel
theorem d9_undo_30 : decode c9_undo 30 = .ok (.aload_n 0, 1) := by decide +kernel
theorem d9_undo_31 : decode c9_undo 31 = .ok (.invokevirtual 94, 3) := by decide +kernel
theorem d9_undo_34 : decode c9_undo 34 = .ok (.aload_n 0, 1) := by decide +kernel
theorem d9_undo_35 : decode c9_undo 35 = .ok (.getfield 28, 3) := by decide +kernel
theorem d9_undo_38 : decode c9_undo 38 = .ok (.getfield 342, 3) := by decide +kernel
theorem d9_undo_41 : decode c9_undo 41 = .ok (.ireturn, 1) := by decide +kernel
def f9_undo (D : Mem) : Option (Int × Mem) :=
  Option.bind (f9_isThere D) fun (a1 : Int) =>
  if w32 a1 = 0 then
    some ((-2), D)
  else
    if w32 (D 12 9) = 0 then
      some ((-5), D)
    else
      Option.bind (f2_takeBack D 12) fun (a2 : Mem) =>
      Option.bind (f9_changed a2) fun (a3 : Mem) =>
      some ((a3 12 9), a3)
set_option maxHeartbeats 4000000 in
theorem ok9_undo {l : Launch} {X : XT} {n : Nat} {D : Mem} {Q : Option Value → Nat → Rho → Mem → Prop} (hn : 117 ≤ n)  (h : wpo (f9_undo D) (fun a => Q (some (vI a.1)) n rt a.2)) : MOK l y9_undo c9_undo 1 (some .int) { frames := 4, cells := 0, slots := 0, locals := 88 } 0 0 X [vR X 0] n rt D Q := by
  refine MOK_of 9 (by decide +kernel) rfl (lv := [(0, vR X 0)]) (Nat.le_of_ble_eq_true rfl) rfl (fun K hK F hnm => ?_)
  subst hK
  unfold f9_undo at h
  refine r_aload_nR F 0 rfl rfl d9_undo_0 ?_
  replace h := wpo_bind h
  refine r_callV0 F lm9_159 mf9_isThere (vc0 hn) rfl (fr := 0) (lo := 0) (As := []) (rest := []) ⟨Nat.le_of_ble_eq_true rfl, Nat.le_of_ble_eq_true rfl⟩ rfl (Nat.le_of_ble_eq_true rfl) ⟨Nat.zero_le _, Nat.zero_le _⟩ d9_undo_1 ?_
  refine ok9_isThere hn  (kI h (fun a1 h => ?_))
  refine r_if_ne F (tgt := 10) d9_undo_4 (by decide) (fun hb => ?_) (fun hb => ?_)
  · replace h := wpo_neg h hb
    refine r_aload_nR F 0 rfl rfl d9_undo_10 ?_
    refine r_getR F (z := 12) lf9_28 (vc0 hn) z0_2 d9_undo_11 ?_
    refine r_getI F lf9_342 (vc12 hn) d9_undo_14 ?_
    refine r_if_ne F (tgt := 23) d9_undo_17 (by decide) (fun hb => ?_) (fun hb => ?_)
    · replace h := wpo_neg h hb
      refine r_aload_nR F 0 rfl rfl d9_undo_23 ?_
      refine r_getR F (z := 12) lf9_28 (vc0 hn) z0_2 d9_undo_24 ?_
      replace h := wpo_bind h
      refine r_callV0 F lm9_345 mf2_takeBack (vc12 hn) rfl (fr := 0) (lo := 0) (As := []) (rest := []) ⟨Nat.le_of_ble_eq_true rfl, Nat.le_of_ble_eq_true rfl⟩ rfl (Nat.le_of_ble_eq_true rfl) ⟨Nat.zero_le _, Nat.zero_le _⟩ d9_undo_27 ?_
      refine ok2_takeBack hn (vc12 hn) (kVm h (fun a2 h => ?_))
      refine r_aload_nR F 0 rfl rfl d9_undo_30 ?_
      replace h := wpo_bind h
      refine r_callV0 F lm9_94 mf9_changed (vc0 hn) rfl (fr := 3) (lo := 68) (As := []) (rest := []) ⟨Nat.le_of_ble_eq_true rfl, Nat.le_of_ble_eq_true rfl⟩ rfl (Nat.le_of_ble_eq_true rfl) ⟨Nat.zero_le _, Nat.zero_le _⟩ d9_undo_31 ?_
      refine ok9_changed hn  (kVm h (fun a3 h => ?_))
      refine r_aload_nR F 0 rfl rfl d9_undo_34 ?_
      refine r_getR F (z := 12) lf9_28 (vc0 hn) z0_2 d9_undo_35 ?_
      refine r_getI F lf9_342 (vc12 hn) d9_undo_38 ?_
      replace h := wpo_some h
      exact r_iret F h d9_undo_41
    · replace h := wpo_pos h hb
      refine r_bipush F (z := (-5)) (by decide) d9_undo_20 ?_
      replace h := wpo_some h
      exact r_iret F h d9_undo_22
  · replace h := wpo_pos h hb
    refine r_bipush F (z := (-2)) (by decide) d9_undo_7 ?_
    replace h := wpo_some h
    exact r_iret F h d9_undo_9
theorem d9_anew_0 : decode c9_anew 0 = .ok (.aload_n 0, 1) := by decide +kernel
theorem d9_anew_1 : decode c9_anew 1 = .ok (.invokevirtual 159, 3) := by decide +kernel
theorem d9_anew_4 : decode c9_anew 4 = .ok (.ifCond .ne 6, 3) := by decide +kernel
theorem d9_anew_7 : decode c9_anew 7 = .ok (.bipush (-2), 2) := by decide +kernel
theorem d9_anew_9 : decode c9_anew 9 = .ok (.ireturn, 1) := by decide +kernel
theorem d9_anew_10 : decode c9_anew 10 = .ok (.aload_n 0, 1) := by decide +kernel
theorem d9_anew_11 : decode c9_anew 11 = .ok (.getfield 28, 3) := by decide +kernel
theorem d9_anew_14 : decode c9_anew 14 = .ok (.getfield 342, 3) := by decide +kernel
theorem d9_anew_17 : decode c9_anew 17 = .ok (.istore_n 1, 1) := by decide +kernel
theorem d9_anew_18 : decode c9_anew 18 = .ok (.iconst 0, 1) := by decide +kernel
theorem d9_anew_19 : decode c9_anew 19 = .ok (.istore_n 2, 1) := by decide +kernel
theorem d9_anew_20 : decode c9_anew 20 = .ok (.iload_n 2, 1) := by decide +kernel
theorem d9_anew_21 : decode c9_anew 21 = .ok (.iload_n 1, 1) := by decide +kernel
theorem d9_anew_22 : decode c9_anew 22 = .ok (.if_icmp .ge 16, 3) := by decide +kernel
theorem d9_anew_25 : decode c9_anew 25 = .ok (.aload_n 0, 1) := by decide +kernel
theorem d9_anew_26 : decode c9_anew 26 = .ok (.getfield 28, 3) := by decide +kernel
theorem d9_anew_29 : decode c9_anew 29 = .ok (.invokevirtual 345, 3) := by decide +kernel
theorem d9_anew_32 : decode c9_anew 32 = .ok (.iinc 2 1, 3) := by decide +kernel
theorem d9_anew_35 : decode c9_anew 35 = .ok (.goto (-15), 3) := by decide +kernel
theorem d9_anew_38 : decode c9_anew 38 = .ok (.aload_n 0, 1) := by decide +kernel
theorem d9_anew_39 : decode c9_anew 39 = .ok (.invokevirtual 94, 3) := by decide +kernel
theorem d9_anew_42 : decode c9_anew 42 = .ok (.iload_n 1, 1) := by decide +kernel
theorem d9_anew_43 : decode c9_anew 43 = .ok (.ireturn, 1) := by decide +kernel
def f9_anew (D : Mem) : Option (Int × Mem) :=
  Option.bind (f9_isThere D) fun (a1 : Int) =>
  if w32 a1 = 0 then
    some ((-2), D)
  else
    Option.bind (@loop (Int × Mem) (Mem) (fun s1 =>
      if w32 s1.1 < w32 (D 12 9) then
        Option.bind (f2_takeBack s1.2 12) fun (a2 : Mem) =>
        some (Sum.inl ((s1.1 + 1), a2))
      else
        some (Sum.inr s1.2)
    ) FU (0, D)) fun (b1 : Mem) =>
    Option.bind (f9_changed b1) fun (a3 : Mem) =>
    some ((D 12 9), a3)
set_option maxHeartbeats 4000000 in
theorem ok9_anew {l : Launch} {X : XT} {n : Nat} {D : Mem} {Q : Option Value → Nat → Rho → Mem → Prop} (hn : 117 ≤ n)  (h : wpo (f9_anew D) (fun a => Q (some (vI a.1)) n rt a.2)) : MOK l y9_anew c9_anew 3 (some .int) { frames := 4, cells := 0, slots := 0, locals := 88 } 0 0 X [vR X 0] n rt D Q := by
  refine MOK_of 9 (by decide +kernel) rfl (lv := [(0, vR X 0)]) (Nat.le_of_ble_eq_true rfl) rfl (fun K hK F hnm => ?_)
  subst hK
  unfold f9_anew at h
  refine r_aload_nR F 0 rfl rfl d9_anew_0 ?_
  replace h := wpo_bind h
  refine r_callV0 F lm9_159 mf9_isThere (vc0 hn) rfl (fr := 0) (lo := 0) (As := []) (rest := []) ⟨Nat.le_of_ble_eq_true rfl, Nat.le_of_ble_eq_true rfl⟩ rfl (Nat.le_of_ble_eq_true rfl) ⟨Nat.zero_le _, Nat.zero_le _⟩ d9_anew_1 ?_
  refine ok9_isThere hn  (kI h (fun a1 h => ?_))
  refine r_if_ne F (tgt := 10) d9_anew_4 (by decide) (fun hb => ?_) (fun hb => ?_)
  · replace h := wpo_neg h hb
    refine r_aload_nR F 0 rfl rfl d9_anew_10 ?_
    refine r_getR F (z := 12) lf9_28 (vc0 hn) z0_2 d9_anew_11 ?_
    refine r_getI F lf9_342 (vc12 hn) d9_anew_14 ?_
    refine r_istore_n F (lv' := [(1, vI (D 12 9)), (0, vR X 0)]) rfl (Nat.le_of_ble_eq_true rfl) rfl d9_anew_17 ?_
    refine r_iconst F (z := 0) d9_anew_18 ?_
    refine r_istore_n F (lv' := [(2, vI 0), (1, vI (D 12 9)), (0, vR X 0)]) rfl (Nat.le_of_ble_eq_true rfl) rfl d9_anew_19 ?_
    refine r_weak [2, 1, 0] rfl ?_
    refine at_loopj (A := fun (s1 : Int × Mem) => At K X (ZQ K X Q) 0 0 n rt 3 20 [(0, vR X 0), (1, vI (D 12 9)), (2, vI s1.1)] [] s1.2) (B := fun (b1 : Mem) => At K X (ZQ K X Q) 0 0 n rt 3 38 [(0, vR X 0), (1, vI (D 12 9))] [] b1) h (fun b1 h => ?_) (fun s1 h => ?_)
    · refine r_aload_nR F 0 rfl rfl d9_anew_38 ?_
      replace h := wpo_bind h
      refine r_callV0 F lm9_94 mf9_changed (vc0 hn) rfl (fr := 3) (lo := 68) (As := []) (rest := []) ⟨Nat.le_of_ble_eq_true rfl, Nat.le_of_ble_eq_true rfl⟩ rfl (Nat.le_of_ble_eq_true rfl) ⟨Nat.zero_le _, Nat.zero_le _⟩ d9_anew_39 ?_
      refine ok9_changed hn  (kVm h (fun a3 h => ?_))
      refine r_iload_n F 1 rfl rfl d9_anew_42 ?_
      replace h := wpo_some h
      exact r_iret F h d9_anew_43
    · refine r_iload_n F 2 rfl rfl d9_anew_20 ?_
      refine r_iload_n F 1 rfl rfl d9_anew_21 ?_
      refine r_icmp_ge F (tgt := 38) d9_anew_22 (by decide) (fun hb => ?_) (fun hb => ?_)
      · replace h := wpo_neg h hb
        refine r_weak [0, 1] rfl ?_
        replace h := wpo_inr h
        exact h
      · replace h := wpo_pos h hb
        refine r_aload_nR F 0 rfl rfl d9_anew_25 ?_
        refine r_getR F (z := 12) lf9_28 (vc0 hn) z0_2 d9_anew_26 ?_
        replace h := wpo_bind h
        refine r_callV0 F lm9_345 mf2_takeBack (vc12 hn) rfl (fr := 0) (lo := 0) (As := []) (rest := []) ⟨Nat.le_of_ble_eq_true rfl, Nat.le_of_ble_eq_true rfl⟩ rfl (Nat.le_of_ble_eq_true rfl) ⟨Nat.zero_le _, Nat.zero_le _⟩ d9_anew_29 ?_
        refine ok2_takeBack hn (vc12 hn) (kVm h (fun a2 h => ?_))
        refine r_iinc F 2 (lv' := [(2, vI (s1.1 + 1)), (0, vR X 0), (1, vI (D 12 9))]) rfl (Nat.le_of_ble_eq_true rfl) rfl d9_anew_32 ?_
        refine r_goto F (tgt := 20) (by decide) d9_anew_35 ?_
        refine r_weak [1, 2, 0] rfl ?_
        replace h := wpo_inl h
        exact h
  · replace h := wpo_pos h hb
    refine r_bipush F (z := (-2)) (by decide) d9_anew_7 ?_
    replace h := wpo_some h
    exact r_iret F h d9_anew_9
theorem d9_widen_0 : decode c9_widen 0 = .ok (.aload_n 0, 1) := by decide +kernel
theorem d9_widen_1 : decode c9_widen 1 = .ok (.invokevirtual 159, 3) := by decide +kernel
theorem d9_widen_4 : decode c9_widen 4 = .ok (.ifCond .eq 14, 3) := by decide +kernel
theorem d9_widen_7 : decode c9_widen 7 = .ok (.iload_n 1, 1) := by decide +kernel
theorem d9_widen_8 : decode c9_widen 8 = .ok (.iconst 1, 1) := by decide +kernel
theorem d9_widen_9 : decode c9_widen 9 = .ok (.if_icmp .lt 9, 3) := by decide +kernel
theorem d9_widen_12 : decode c9_widen 12 = .ok (.iload_n 1, 1) := by decide +kernel
theorem d9_widen_13 : decode c9_widen 13 = .ok (.bipush 60, 2) := by decide +kernel
theorem d9_widen_15 : decode c9_widen 15 = .ok (.if_icmp .le 6, 3) := by decide +kernel
theorem d9_widen_18 : decode c9_widen 18 = .ok (.bipush (-2), 2) := by decide +kernel
theorem d9_widen_20 : decode c9_widen 20 = .ok (.ireturn, 1) := by decide +kernel
theorem d9_widen_21 : decode c9_widen 21 = .ok (.aload_n 0, 1) := by decide +kernel
theorem d9_widen_22 : decode c9_widen 22 = .ok (.getfield 28, 3) := by decide +kernel
theorem d9_widen_25 : decode c9_widen 25 = .ok (.getfield 342, 3) := by decide +kernel
theorem d9_widen_28 : decode c9_widen 28 = .ok (.ifCond .le 6, 3) := by decide +kernel
theorem d9_widen_31 : decode c9_widen 31 = .ok (.bipush (-5), 2) := by decide +kernel
theorem d9_widen_33 : decode c9_widen 33 = .ok (.ireturn, 1) := by decide +kernel
theorem d9_widen_34 : decode c9_widen 34 = .ok (.aload_n 0, 1) := by decide +kernel
theorem d9_widen_35 : decode c9_widen 35 = .ok (.getfield 28, 3) := by decide +kernel
theorem d9_widen_38 : decode c9_widen 38 = .ok (.getfield 348, 3) := by decide +kernel
theorem d9_widen_41 : decode c9_widen 41 = .ok (.istore_n 2, 1) := by decide +kernel
theorem d9_widen_42 : decode c9_widen 42 = .ok (.aload_n 0, 1) := by decide +kernel
theorem d9_widen_43 : decode c9_widen 43 = .ok (.getfield 28, 3) := by decide +kernel
theorem d9_widen_46 : decode c9_widen 46 = .ok (.iload_n 1, 1) := by decide +kernel
theorem d9_widen_47 : decode c9_widen 47 = .ok (.putfield 348, 3) := by decide +kernel
theorem d9_widen_50 : decode c9_widen 50 = .ok (.aload_n 0, 1) := by decide +kernel
theorem d9_widen_51 : decode c9_widen 51 = .ok (.invokevirtual 94, 3) := by decide +kernel
theorem d9_widen_54 : decode c9_widen 54 = .ok (.iload_n 2, 1) := by decide +kernel
theorem d9_widen_55 : decode c9_widen 55 = .ok (.ireturn, 1) := by decide +kernel
def f9_widen (D : Mem) (p0 : Int) : Option (Int × Mem) :=
  Option.bind (f9_isThere D) fun (a1 : Int) =>
  if w32 a1 = 0 then
    some ((-2), D)
  else
    if w32 p0 < w32 1 then
      some ((-2), D)
    else
      if w32 60 < w32 p0 then
        some ((-2), D)
      else
        if 0 < w32 (D 12 9) then
          some ((-5), D)
        else
          Option.bind (some (mset D 12 2 p0)) fun (D1 : Mem) =>
          Option.bind (f9_changed D1) fun (a2 : Mem) =>
          some ((D 12 2), a2)
set_option maxHeartbeats 4000000 in
theorem ok9_widen {l : Launch} {X : XT} {n : Nat} {D : Mem} {Q : Option Value → Nat → Rho → Mem → Prop} (hn : 117 ≤ n) {p0 : Int}  (h : wpo (f9_widen D p0) (fun a => Q (some (vI a.1)) n rt a.2)) : MOK l y9_widen c9_widen 3 (some .int) { frames := 4, cells := 0, slots := 0, locals := 88 } 0 0 X [vR X 0, vI p0] n rt D Q := by
  refine MOK_of 9 (by decide +kernel) rfl (lv := [(0, vR X 0), (1, vI p0)]) (Nat.le_of_ble_eq_true rfl) rfl (fun K hK F hnm => ?_)
  subst hK
  unfold f9_widen at h
  refine r_aload_nR F 0 rfl rfl d9_widen_0 ?_
  replace h := wpo_bind h
  refine r_callV0 F lm9_159 mf9_isThere (vc0 hn) rfl (fr := 0) (lo := 0) (As := []) (rest := []) ⟨Nat.le_of_ble_eq_true rfl, Nat.le_of_ble_eq_true rfl⟩ rfl (Nat.le_of_ble_eq_true rfl) ⟨Nat.zero_le _, Nat.zero_le _⟩ d9_widen_1 ?_
  refine ok9_isThere hn  (kI h (fun a1 h => ?_))
  refine r_if_eq F (tgt := 18) d9_widen_4 (by decide) (fun hb => ?_) (fun hb => ?_)
  · replace h := wpo_pos h hb
    refine r_bipush F (z := (-2)) (by decide) d9_widen_18 ?_
    replace h := wpo_some h
    exact r_iret F h d9_widen_20
  · replace h := wpo_neg h hb
    refine r_iload_n F 1 rfl rfl d9_widen_7 ?_
    refine r_iconst F (z := 1) d9_widen_8 ?_
    refine r_icmp_lt F (tgt := 18) d9_widen_9 (by decide) (fun hb => ?_) (fun hb => ?_)
    · replace h := wpo_pos h hb
      refine r_bipush F (z := (-2)) (by decide) d9_widen_18 ?_
      replace h := wpo_some h
      exact r_iret F h d9_widen_20
    · replace h := wpo_neg h hb
      refine r_iload_n F 1 rfl rfl d9_widen_12 ?_
      refine r_bipush F (z := 60) (by decide) d9_widen_13 ?_
      refine r_icmp_le F (tgt := 21) d9_widen_15 (by decide) (fun hb => ?_) (fun hb => ?_)
      · replace h := wpo_neg h hb
        refine r_aload_nR F 0 rfl rfl d9_widen_21 ?_
        refine r_getR F (z := 12) lf9_28 (vc0 hn) z0_2 d9_widen_22 ?_
        refine r_getI F lf9_342 (vc12 hn) d9_widen_25 ?_
        refine r_if_le F (tgt := 34) d9_widen_28 (by decide) (fun hb => ?_) (fun hb => ?_)
        · replace h := wpo_neg h hb
          refine r_aload_nR F 0 rfl rfl d9_widen_34 ?_
          refine r_getR F (z := 12) lf9_28 (vc0 hn) z0_2 d9_widen_35 ?_
          refine r_getI F lf9_348 (vc12 hn) d9_widen_38 ?_
          refine r_istore_n F (lv' := [(2, vI (D 12 2)), (0, vR X 0), (1, vI p0)]) rfl (Nat.le_of_ble_eq_true rfl) rfl d9_widen_41 ?_
          refine r_aload_nR F 1 rfl rfl d9_widen_42 ?_
          refine r_getR F (z := 12) lf9_28 (vc0 hn) z0_2 d9_widen_43 ?_
          refine r_iload_n F 2 rfl rfl d9_widen_46 ?_
          refine r_putI F lf9_348 rfl rfl (vc12 hn) d9_widen_47 ?_
          refine r_aload_nR F 1 rfl rfl d9_widen_50 ?_
          refine at_name (B := fun (D1 : Mem) => At K X (ZQ K X Q) 0 0 n rt 3 51 [(2, vI (D 12 2)), (0, vR X 0), (1, vI p0)] [vR X 0] D1) h (fun D1 h => ?_)
          replace h := wpo_bind h
          refine r_callV0 F lm9_94 mf9_changed (vc0 hn) rfl (fr := 3) (lo := 68) (As := []) (rest := []) ⟨Nat.le_of_ble_eq_true rfl, Nat.le_of_ble_eq_true rfl⟩ rfl (Nat.le_of_ble_eq_true rfl) ⟨Nat.zero_le _, Nat.zero_le _⟩ d9_widen_51 ?_
          refine ok9_changed hn  (kVm h (fun a2 h => ?_))
          refine r_iload_n F 0 rfl rfl d9_widen_54 ?_
          replace h := wpo_some h
          exact r_iret F h d9_widen_55
        · replace h := wpo_pos h hb
          refine r_bipush F (z := (-5)) (by decide) d9_widen_31 ?_
          replace h := wpo_some h
          exact r_iret F h d9_widen_33
      · replace h := wpo_pos h hb
        refine r_bipush F (z := (-2)) (by decide) d9_widen_18 ?_
        replace h := wpo_some h
        exact r_iret F h d9_widen_20
theorem d9_slotsWithRows_0 : decode c9_slotsWithRows 0 = .ok (.iconst 0, 1) := by decide +kernel
theorem d9_slotsWithRows_1 : decode c9_slotsWithRows 1 = .ok (.istore_n 1, 1) := by decide +kernel
theorem d9_slotsWithRows_2 : decode c9_slotsWithRows 2 = .ok (.iconst 0, 1) := by decide +kernel
theorem d9_slotsWithRows_3 : decode c9_slotsWithRows 3 = .ok (.istore_n 2, 1) := by decide +kernel
theorem d9_slotsWithRows_4 : decode c9_slotsWithRows 4 = .ok (.iload_n 2, 1) := by decide +kernel
theorem d9_slotsWithRows_5 : decode c9_slotsWithRows 5 = .ok (.iconst 4, 1) := by decide +kernel
theorem d9_slotsWithRows_6 : decode c9_slotsWithRows 6 = .ok (.if_icmp .ge 24, 3) := by decide +kernel
theorem d9_slotsWithRows_9 : decode c9_slotsWithRows 9 = .ok (.aload_n 0, 1) := by decide +kernel
theorem d9_slotsWithRows_10 : decode c9_slotsWithRows 10 = .ok (.getfield 42, 3) := by decide +kernel
theorem d9_slotsWithRows_13 : decode c9_slotsWithRows 13 = .ok (.iload_n 2, 1) := by decide +kernel
theorem d9_slotsWithRows_14 : decode c9_slotsWithRows 14 = .ok (.aaload, 1) := by decide +kernel
theorem d9_slotsWithRows_15 : decode c9_slotsWithRows 15 = .ok (.getfield 363, 3) := by decide +kernel
theorem d9_slotsWithRows_18 : decode c9_slotsWithRows 18 = .ok (.ifCond .eq 6, 3) := by decide +kernel
theorem d9_slotsWithRows_21 : decode c9_slotsWithRows 21 = .ok (.iinc 1 1, 3) := by decide +kernel
theorem d9_slotsWithRows_24 : decode c9_slotsWithRows 24 = .ok (.iinc 2 1, 3) := by decide +kernel
theorem d9_slotsWithRows_27 : decode c9_slotsWithRows 27 = .ok (.goto (-23), 3) := by decide +kernel
theorem d9_slotsWithRows_30 : decode c9_slotsWithRows 30 = .ok (.iload_n 1, 1) := by decide +kernel
theorem d9_slotsWithRows_31 : decode c9_slotsWithRows 31 = .ok (.ireturn, 1) := by decide +kernel
def f9_slotsWithRows (D : Mem) : Option (Int) :=
  Option.bind (@loop (Int × Int) (Int) (fun s1 =>
    if w32 s1.2 < w32 4 then
      if 0 ≤ s1.2 ∧ s1.2 < 4 then
        Option.bind (
          if w32 (D (109 + 2 * s1.2.toNat) 0) = 0 then
            some s1.1
          else
            some (s1.1 + 1)
        ) fun (j1 : Int) =>
        some (Sum.inl (j1, (s1.2 + 1)))
      else none
    else
      some (Sum.inr s1.1)
  ) FU (0, 0)) fun (b1 : Int) =>
  some b1
set_option maxHeartbeats 4000000 in
theorem ok9_slotsWithRows {l : Launch} {X : XT} {n : Nat} {D : Mem} {Q : Option Value → Nat → Rho → Mem → Prop} (hn : 117 ≤ n)  (h : wpo (f9_slotsWithRows D) (fun a => Q (some (vI a)) n rt D)) : MOK l y9_slotsWithRows c9_slotsWithRows 3 (some .int) { frames := 0, cells := 0, slots := 0, locals := 0 } 0 0 X [vR X 0] n rt D Q := by
  refine MOK_of 9 (by decide +kernel) rfl (lv := [(0, vR X 0)]) (Nat.le_of_ble_eq_true rfl) rfl (fun K hK F hnm => ?_)
  subst hK
  unfold f9_slotsWithRows at h
  refine r_iconst F (z := 0) d9_slotsWithRows_0 ?_
  refine r_istore_n F (lv' := [(1, vI 0), (0, vR X 0)]) rfl (Nat.le_of_ble_eq_true rfl) rfl d9_slotsWithRows_1 ?_
  refine r_iconst F (z := 0) d9_slotsWithRows_2 ?_
  refine r_istore_n F (lv' := [(2, vI 0), (1, vI 0), (0, vR X 0)]) rfl (Nat.le_of_ble_eq_true rfl) rfl d9_slotsWithRows_3 ?_
  refine r_weak [2, 1, 0] rfl ?_
  refine at_loopj (A := fun (s1 : Int × Int) => At K X (ZQ K X Q) 0 0 n rt 3 4 [(0, vR X 0), (1, vI s1.1), (2, vI s1.2)] [] D) (B := fun (b1 : Int) => At K X (ZQ K X Q) 0 0 n rt 3 30 [(1, vI b1)] [] D) h (fun b1 h => ?_) (fun s1 h => ?_)
  · refine r_iload_n F 0 rfl rfl d9_slotsWithRows_30 ?_
    replace h := wpo_some h
    exact r_iret F h d9_slotsWithRows_31
  · refine r_iload_n F 2 rfl rfl d9_slotsWithRows_4 ?_
    refine r_iconst F (z := 4) d9_slotsWithRows_5 ?_
    refine r_icmp_ge F (tgt := 30) d9_slotsWithRows_6 (by decide) (fun hb => ?_) (fun hb => ?_)
    · replace h := wpo_neg h hb
      refine r_weak [1] rfl ?_
      replace h := wpo_inr h
      exact h
    · replace h := wpo_pos h hb
      refine r_aload_nR F 0 rfl rfl d9_slotsWithRows_9 ?_
      refine r_getR F (z := 22) lf9_42 (vc0 hn) z0_5 d9_slotsWithRows_10 ?_
      refine r_iload_n F 2 rfl rfl d9_slotsWithRows_13 ?_
      obtain ⟨hx1, h⟩ := wpo_chk h
      refine r_aaldS F (z := (109 + 2 * s1.2.toNat)) (vc22 hn) hx1 (zs hx1) d9_slotsWithRows_14 ?_
      refine r_getI F lf9_363 (vs hn hx1) d9_slotsWithRows_15 ?_
      refine at_join (B := fun (j1 : Int) => At K X (ZQ K X Q) 0 0 n rt 3 24 [(0, vR X 0), (1, vI j1), (2, vI s1.2)] [] D) h (fun j1 h => ?_) (fun h => ?_)
      · refine r_iinc F 2 (lv' := [(2, vI (s1.2 + 1)), (0, vR X 0), (1, vI j1)]) rfl (Nat.le_of_ble_eq_true rfl) rfl d9_slotsWithRows_24 ?_
        refine r_goto F (tgt := 4) (by decide) d9_slotsWithRows_27 ?_
        refine r_weak [1, 2, 0] rfl ?_
        replace h := wpo_inl h
        exact h
      · refine r_if_eq F (tgt := 24) d9_slotsWithRows_18 (by decide) (fun hb => ?_) (fun hb => ?_)
        · replace h := wpo_pos h hb
          replace h := wpo_some h
          exact h
        · replace h := wpo_neg h hb
          refine r_iinc F 1 (lv' := [(1, vI (s1.1 + 1)), (0, vR X 0), (2, vI s1.2)]) rfl (Nat.le_of_ble_eq_true rfl) rfl d9_slotsWithRows_21 ?_
          refine r_weak [1, 0, 2] rfl ?_
          replace h := wpo_some h
          exact h
theorem d9_count_0 : decode c9_count 0 = .ok (.iload_n 1, 1) := by decide +kernel
theorem d9_count_1 : decode c9_count 1 = .ok (.tableswitch 156 0 11 #[63, 71, 79, 87, 95, 103, 111, 119, 127, 135, 143, 151], 63) := by decide +kernel
theorem d9_count_64 : decode c9_count 64 = .ok (.aload_n 0, 1) := by decide +kernel
theorem d9_count_65 : decode c9_count 65 = .ok (.getfield 28, 3) := by decide +kernel
theorem d9_count_68 : decode c9_count 68 = .ok (.getfield 168, 3) := by decide +kernel
theorem d9_count_71 : decode c9_count 71 = .ok (.ireturn, 1) := by decide +kernel
theorem d9_count_72 : decode c9_count 72 = .ok (.aload_n 0, 1) := by decide +kernel
theorem d9_count_73 : decode c9_count 73 = .ok (.getfield 28, 3) := by decide +kernel
theorem d9_count_76 : decode c9_count 76 = .ok (.getfield 348, 3) := by decide +kernel
theorem d9_count_79 : decode c9_count 79 = .ok (.ireturn, 1) := by decide +kernel
theorem d9_count_80 : decode c9_count 80 = .ok (.aload_n 0, 1) := by decide +kernel
theorem d9_count_81 : decode c9_count 81 = .ok (.getfield 28, 3) := by decide +kernel
theorem d9_count_84 : decode c9_count 84 = .ok (.getfield 349, 3) := by decide +kernel
theorem d9_count_87 : decode c9_count 87 = .ok (.ireturn, 1) := by decide +kernel
theorem d9_count_88 : decode c9_count 88 = .ok (.aload_n 0, 1) := by decide +kernel
theorem d9_count_89 : decode c9_count 89 = .ok (.getfield 28, 3) := by decide +kernel
theorem d9_count_92 : decode c9_count 92 = .ok (.getfield 177, 3) := by decide +kernel
theorem d9_count_95 : decode c9_count 95 = .ok (.ireturn, 1) := by decide +kernel
theorem d9_count_96 : decode c9_count 96 = .ok (.aload_n 0, 1) := by decide +kernel
theorem d9_count_97 : decode c9_count 97 = .ok (.getfield 28, 3) := by decide +kernel
theorem d9_count_100 : decode c9_count 100 = .ok (.getfield 224, 3) := by decide +kernel
theorem d9_count_103 : decode c9_count 103 = .ok (.ireturn, 1) := by decide +kernel
theorem d9_count_104 : decode c9_count 104 = .ok (.aload_n 0, 1) := by decide +kernel
theorem d9_count_105 : decode c9_count 105 = .ok (.getfield 28, 3) := by decide +kernel
theorem d9_count_108 : decode c9_count 108 = .ok (.getfield 184, 3) := by decide +kernel
theorem d9_count_111 : decode c9_count 111 = .ok (.ireturn, 1) := by decide +kernel
theorem d9_count_112 : decode c9_count 112 = .ok (.aload_n 0, 1) := by decide +kernel
theorem d9_count_113 : decode c9_count 113 = .ok (.getfield 28, 3) := by decide +kernel
theorem d9_count_116 : decode c9_count 116 = .ok (.getfield 325, 3) := by decide +kernel
theorem d9_count_119 : decode c9_count 119 = .ok (.ireturn, 1) := by decide +kernel
theorem d9_count_120 : decode c9_count 120 = .ok (.aload_n 0, 1) := by decide +kernel
theorem d9_count_121 : decode c9_count 121 = .ok (.getfield 28, 3) := by decide +kernel
theorem d9_count_124 : decode c9_count 124 = .ok (.getfield 165, 3) := by decide +kernel
theorem d9_count_127 : decode c9_count 127 = .ok (.ireturn, 1) := by decide +kernel
theorem d9_count_128 : decode c9_count 128 = .ok (.aload_n 0, 1) := by decide +kernel
theorem d9_count_129 : decode c9_count 129 = .ok (.getfield 28, 3) := by decide +kernel
theorem d9_count_132 : decode c9_count 132 = .ok (.getfield 342, 3) := by decide +kernel
theorem d9_count_135 : decode c9_count 135 = .ok (.ireturn, 1) := by decide +kernel
theorem d9_count_136 : decode c9_count 136 = .ok (.aload_n 0, 1) := by decide +kernel
theorem d9_count_137 : decode c9_count 137 = .ok (.getfield 28, 3) := by decide +kernel
theorem d9_count_140 : decode c9_count 140 = .ok (.getfield 115, 3) := by decide +kernel
theorem d9_count_143 : decode c9_count 143 = .ok (.ireturn, 1) := by decide +kernel
theorem d9_count_144 : decode c9_count 144 = .ok (.aload_n 0, 1) := by decide +kernel
theorem d9_count_145 : decode c9_count 145 = .ok (.getfield 12, 3) := by decide +kernel
theorem d9_count_148 : decode c9_count 148 = .ok (.getfield 97, 3) := by decide +kernel
theorem d9_count_151 : decode c9_count 151 = .ok (.ireturn, 1) := by decide +kernel
theorem d9_count_152 : decode c9_count 152 = .ok (.aload_n 0, 1) := by decide +kernel
theorem d9_count_153 : decode c9_count 153 = .ok (.invokevirtual 352, 3) := by decide +kernel
theorem d9_count_156 : decode c9_count 156 = .ok (.ireturn, 1) := by decide +kernel
theorem d9_count_157 : decode c9_count 157 = .ok (.iconst (-1), 1) := by decide +kernel
theorem d9_count_158 : decode c9_count 158 = .ok (.ireturn, 1) := by decide +kernel
def f9_count (D : Mem) (p0 : Int) : Option (Int) :=
  if w32 p0 = 0 then
    some (D 12 1)
  else
    if w32 p0 = 1 then
      some (D 12 2)
    else
      if w32 p0 = 2 then
        some (D 12 3)
      else
        if w32 p0 = 3 then
          some (D 12 4)
        else
          if w32 p0 = 4 then
            some (D 12 5)
          else
            if w32 p0 = 5 then
              some (D 12 6)
            else
              if w32 p0 = 6 then
                some (D 12 7)
              else
                if w32 p0 = 7 then
                  some (D 12 8)
                else
                  if w32 p0 = 8 then
                    some (D 12 9)
                  else
                    if w32 p0 = 9 then
                      some (D 12 0)
                    else
                      if w32 p0 = 10 then
                        some (D 1 1)
                      else
                        if w32 p0 = 11 then
                          Option.bind (f9_slotsWithRows D) fun (a1 : Int) =>
                          some a1
                        else
                          some (-1)
set_option maxHeartbeats 4000000 in
theorem ok9_count {l : Launch} {X : XT} {n : Nat} {D : Mem} {Q : Option Value → Nat → Rho → Mem → Prop} (hn : 117 ≤ n) {p0 : Int}  (h : wpo (f9_count D p0) (fun a => Q (some (vI a)) n rt D)) : MOK l y9_count c9_count 2 (some .int) { frames := 1, cells := 0, slots := 0, locals := 22 } 0 0 X [vR X 0, vI p0] n rt D Q := by
  refine MOK_of 9 (by decide +kernel) rfl (lv := [(0, vR X 0), (1, vI p0)]) (Nat.le_of_ble_eq_true rfl) rfl (fun K hK F hnm => ?_)
  subst hK
  unfold f9_count at h
  refine r_iload_n F 1 rfl rfl d9_count_0 ?_
  by_cases hb0 : w32 p0 = 0
  · replace h := wpo_pos h hb0
    refine r_tabIn F 0 hb0 d9_count_1 (by decide) (by decide) rfl (tgt := 64) (by decide) ?_
    refine r_aload_nR F 0 rfl rfl d9_count_64 ?_
    refine r_getR F (z := 12) lf9_28 (vc0 hn) z0_2 d9_count_65 ?_
    refine r_getI F lf9_168 (vc12 hn) d9_count_68 ?_
    replace h := wpo_some h
    exact r_iret F h d9_count_71
  · replace h := wpo_neg h hb0
    by_cases hb1 : w32 p0 = 1
    · replace h := wpo_pos h hb1
      refine r_tabIn F 1 hb1 d9_count_1 (by decide) (by decide) rfl (tgt := 72) (by decide) ?_
      refine r_aload_nR F 0 rfl rfl d9_count_72 ?_
      refine r_getR F (z := 12) lf9_28 (vc0 hn) z0_2 d9_count_73 ?_
      refine r_getI F lf9_348 (vc12 hn) d9_count_76 ?_
      replace h := wpo_some h
      exact r_iret F h d9_count_79
    · replace h := wpo_neg h hb1
      by_cases hb2 : w32 p0 = 2
      · replace h := wpo_pos h hb2
        refine r_tabIn F 2 hb2 d9_count_1 (by decide) (by decide) rfl (tgt := 80) (by decide) ?_
        refine r_aload_nR F 0 rfl rfl d9_count_80 ?_
        refine r_getR F (z := 12) lf9_28 (vc0 hn) z0_2 d9_count_81 ?_
        refine r_getI F lf9_349 (vc12 hn) d9_count_84 ?_
        replace h := wpo_some h
        exact r_iret F h d9_count_87
      · replace h := wpo_neg h hb2
        by_cases hb3 : w32 p0 = 3
        · replace h := wpo_pos h hb3
          refine r_tabIn F 3 hb3 d9_count_1 (by decide) (by decide) rfl (tgt := 88) (by decide) ?_
          refine r_aload_nR F 0 rfl rfl d9_count_88 ?_
          refine r_getR F (z := 12) lf9_28 (vc0 hn) z0_2 d9_count_89 ?_
          refine r_getI F lf9_177 (vc12 hn) d9_count_92 ?_
          replace h := wpo_some h
          exact r_iret F h d9_count_95
        · replace h := wpo_neg h hb3
          by_cases hb4 : w32 p0 = 4
          · replace h := wpo_pos h hb4
            refine r_tabIn F 4 hb4 d9_count_1 (by decide) (by decide) rfl (tgt := 96) (by decide) ?_
            refine r_aload_nR F 0 rfl rfl d9_count_96 ?_
            refine r_getR F (z := 12) lf9_28 (vc0 hn) z0_2 d9_count_97 ?_
            refine r_getI F lf9_224 (vc12 hn) d9_count_100 ?_
            replace h := wpo_some h
            exact r_iret F h d9_count_103
          · replace h := wpo_neg h hb4
            by_cases hb5 : w32 p0 = 5
            · replace h := wpo_pos h hb5
              refine r_tabIn F 5 hb5 d9_count_1 (by decide) (by decide) rfl (tgt := 104) (by decide) ?_
              refine r_aload_nR F 0 rfl rfl d9_count_104 ?_
              refine r_getR F (z := 12) lf9_28 (vc0 hn) z0_2 d9_count_105 ?_
              refine r_getI F lf9_184 (vc12 hn) d9_count_108 ?_
              replace h := wpo_some h
              exact r_iret F h d9_count_111
            · replace h := wpo_neg h hb5
              by_cases hb6 : w32 p0 = 6
              · replace h := wpo_pos h hb6
                refine r_tabIn F 6 hb6 d9_count_1 (by decide) (by decide) rfl (tgt := 112) (by decide) ?_
                refine r_aload_nR F 0 rfl rfl d9_count_112 ?_
                refine r_getR F (z := 12) lf9_28 (vc0 hn) z0_2 d9_count_113 ?_
                refine r_getI F lf9_325 (vc12 hn) d9_count_116 ?_
                replace h := wpo_some h
                exact r_iret F h d9_count_119
              · replace h := wpo_neg h hb6
                by_cases hb7 : w32 p0 = 7
                · replace h := wpo_pos h hb7
                  refine r_tabIn F 7 hb7 d9_count_1 (by decide) (by decide) rfl (tgt := 120) (by decide) ?_
                  refine r_aload_nR F 0 rfl rfl d9_count_120 ?_
                  refine r_getR F (z := 12) lf9_28 (vc0 hn) z0_2 d9_count_121 ?_
                  refine r_getI F lf9_165 (vc12 hn) d9_count_124 ?_
                  replace h := wpo_some h
                  exact r_iret F h d9_count_127
                · replace h := wpo_neg h hb7
                  by_cases hb8 : w32 p0 = 8
                  · replace h := wpo_pos h hb8
                    refine r_tabIn F 8 hb8 d9_count_1 (by decide) (by decide) rfl (tgt := 128) (by decide) ?_
                    refine r_aload_nR F 0 rfl rfl d9_count_128 ?_
                    refine r_getR F (z := 12) lf9_28 (vc0 hn) z0_2 d9_count_129 ?_
                    refine r_getI F lf9_342 (vc12 hn) d9_count_132 ?_
                    replace h := wpo_some h
                    exact r_iret F h d9_count_135
                  · replace h := wpo_neg h hb8
                    by_cases hb9 : w32 p0 = 9
                    · replace h := wpo_pos h hb9
                      refine r_tabIn F 9 hb9 d9_count_1 (by decide) (by decide) rfl (tgt := 136) (by decide) ?_
                      refine r_aload_nR F 0 rfl rfl d9_count_136 ?_
                      refine r_getR F (z := 12) lf9_28 (vc0 hn) z0_2 d9_count_137 ?_
                      refine r_getI F lf9_115 (vc12 hn) d9_count_140 ?_
                      replace h := wpo_some h
                      exact r_iret F h d9_count_143
                    · replace h := wpo_neg h hb9
                      by_cases hb10 : w32 p0 = 10
                      · replace h := wpo_pos h hb10
                        refine r_tabIn F 10 hb10 d9_count_1 (by decide) (by decide) rfl (tgt := 144) (by decide) ?_
                        refine r_aload_nR F 0 rfl rfl d9_count_144 ?_
                        refine r_getR F (z := 1) lf9_12 (vc0 hn) z0_0 d9_count_145 ?_
                        refine r_getI F lf9_97 (vc1 hn) d9_count_148 ?_
                        replace h := wpo_some h
                        exact r_iret F h d9_count_151
                      · replace h := wpo_neg h hb10
                        by_cases hb11 : w32 p0 = 11
                        · replace h := wpo_pos h hb11
                          refine r_tabIn F 11 hb11 d9_count_1 (by decide) (by decide) rfl (tgt := 152) (by decide) ?_
                          refine r_aload_nR F 0 rfl rfl d9_count_152 ?_
                          replace h := wpo_bind h
                          refine r_callV0 F lm9_352 mf9_slotsWithRows (vc0 hn) rfl (fr := 0) (lo := 0) (As := []) (rest := []) ⟨Nat.le_of_ble_eq_true rfl, Nat.le_of_ble_eq_true rfl⟩ rfl (Nat.le_of_ble_eq_true rfl) ⟨Nat.zero_le _, Nat.zero_le _⟩ d9_count_153 ?_
                          refine ok9_slotsWithRows hn  (kI h (fun a1 h => ?_))
                          replace h := wpo_some h
                          exact r_iret F h d9_count_156
                        · replace h := wpo_neg h hb11
                          refine r_tabOut F d9_count_1 ?_ (tgt := 157) (by decide) ?_
                          · omega
                          · refine r_iconst F (z := (-1)) d9_count_157 ?_
                            replace h := wpo_some h
                            exact r_iret F h d9_count_158
theorem d9_isImage_0 : decode c9_isImage 0 = .ok (.iload_n 1, 1) := by decide +kernel
theorem d9_isImage_1 : decode c9_isImage 1 = .ok (.ifCond .lt 12, 3) := by decide +kernel
theorem d9_isImage_4 : decode c9_isImage 4 = .ok (.iload_n 1, 1) := by decide +kernel
theorem d9_isImage_5 : decode c9_isImage 5 = .ok (.iconst 3, 1) := by decide +kernel
theorem d9_isImage_6 : decode c9_isImage 6 = .ok (.if_icmp .ge 7, 3) := by decide +kernel
theorem d9_isImage_9 : decode c9_isImage 9 = .ok (.iconst 1, 1) := by decide +kernel
theorem d9_isImage_10 : decode c9_isImage 10 = .ok (.goto 4, 3) := by decide +kernel
theorem d9_isImage_13 : decode c9_isImage 13 = .ok (.iconst 0, 1) := by decide +kernel
theorem d9_isImage_14 : decode c9_isImage 14 = .ok (.ireturn, 1) := by decide +kernel
def f9_isImage (D : Mem) (p0 : Int) : Option (Int) :=
  if w32 p0 < 0 then
    some 0
  else
    if w32 p0 < w32 3 then
      some 1
    else
      some 0
set_option maxHeartbeats 4000000 in
theorem ok9_isImage {l : Launch} {X : XT} {n : Nat} {D : Mem} {Q : Option Value → Nat → Rho → Mem → Prop} (hn : 117 ≤ n) {p0 : Int}  (h : wpo (f9_isImage D p0) (fun a => Q (some (vI a)) n rt D)) : MOK l y9_isImage c9_isImage 2 (some .boolean) { frames := 0, cells := 0, slots := 0, locals := 0 } 0 0 X [vR X 0, vI p0] n rt D Q := by
  refine MOK_of 9 (by decide +kernel) rfl (lv := [(0, vR X 0), (1, vI p0)]) (Nat.le_of_ble_eq_true rfl) rfl (fun K hK F hnm => ?_)
  subst hK
  unfold f9_isImage at h
  refine r_iload_n F 1 rfl rfl d9_isImage_0 ?_
  refine r_if_lt F (tgt := 13) d9_isImage_1 (by decide) (fun hb => ?_) (fun hb => ?_)
  · replace h := wpo_pos h hb
    refine r_iconst F (z := 0) d9_isImage_13 ?_
    replace h := wpo_some h
    exact r_zret F (Or.inl rfl) h d9_isImage_14
  · replace h := wpo_neg h hb
    refine r_iload_n F 1 rfl rfl d9_isImage_4 ?_
    refine r_iconst F (z := 3) d9_isImage_5 ?_
    refine r_icmp_ge F (tgt := 13) d9_isImage_6 (by decide) (fun hb => ?_) (fun hb => ?_)
    · replace h := wpo_neg h hb
      refine r_iconst F (z := 0) d9_isImage_13 ?_
      replace h := wpo_some h
      exact r_zret F (Or.inl rfl) h d9_isImage_14
    · replace h := wpo_pos h hb
      refine r_iconst F (z := 1) d9_isImage_9 ?_
      refine r_goto F (tgt := 14) (by decide) d9_isImage_10 ?_
      replace h := wpo_some h
      exact r_zret F (Or.inr rfl) h d9_isImage_14
theorem d9_image_0 : decode c9_image 0 = .ok (.aload_n 0, 1) := by decide +kernel
theorem d9_image_1 : decode c9_image 1 = .ok (.iload_n 1, 1) := by decide +kernel
theorem d9_image_2 : decode c9_image 2 = .ok (.invokevirtual 355, 3) := by decide +kernel
theorem d9_image_5 : decode c9_image 5 = .ok (.ifCond .ne 6, 3) := by decide +kernel
theorem d9_image_8 : decode c9_image 8 = .ok (.bipush (-2), 2) := by decide +kernel
theorem d9_image_10 : decode c9_image 10 = .ok (.ireturn, 1) := by decide +kernel
theorem d9_image_11 : decode c9_image 11 = .ok (.aload_n 0, 1) := by decide +kernel
theorem d9_image_12 : decode c9_image 12 = .ok (.getfield 32, 3) := by decide +kernel
theorem d9_image_15 : decode c9_image 15 = .ok (.iload_n 1, 1) := by decide +kernel
theorem d9_image_16 : decode c9_image 16 = .ok (.aaload, 1) := by decide +kernel
theorem d9_image_17 : decode c9_image 17 = .ok (.aload_n 0, 1) := by decide +kernel
theorem d9_image_18 : decode c9_image 18 = .ok (.getfield 28, 3) := by decide +kernel
theorem d9_image_21 : decode c9_image 21 = .ok (.invokevirtual 112, 3) := by decide +kernel
theorem d9_image_24 : decode c9_image 24 = .ok (.aload_n 0, 1) := by decide +kernel
theorem d9_image_25 : decode c9_image 25 = .ok (.getfield 36, 3) := by decide +kernel
theorem d9_image_28 : decode c9_image 28 = .ok (.iload_n 1, 1) := by decide +kernel
theorem d9_image_29 : decode c9_image 29 = .ok (.iconst 1, 1) := by decide +kernel
theorem d9_image_30 : decode c9_image 30 = .ok (.bastore, 1) := by decide +kernel
theorem d9_image_31 : decode c9_image 31 = .ok (.iconst 0, 1) := by decide +kernel
theorem d9_image_32 : decode c9_image 32 = .ok (.ireturn, 1) := by decide +kernel
def f9_image (D : Mem) (p0 : Int) : Option (Int × Mem) :=
  Option.bind (f9_isImage D p0) fun (a1 : Int) =>
  if w32 a1 = 0 then
    some ((-2), D)
  else
    if 0 ≤ p0 ∧ p0 < 3 then
      Option.bind (f2_become D (85 + 8 * p0.toNat) 12) fun (a2 : Mem) =>
      some (0, (mset a2 21 p0.toNat 1))
    else none
set_option maxHeartbeats 4000000 in
theorem ok9_image {l : Launch} {X : XT} {n : Nat} {D : Mem} {Q : Option Value → Nat → Rho → Mem → Prop} (hn : 117 ≤ n) {p0 : Int}  (h : wpo (f9_image D p0) (fun a => Q (some (vI a.1)) n rt a.2)) : MOK l y9_image c9_image 2 (some .int) { frames := 2, cells := 0, slots := 0, locals := 47 } 0 0 X [vR X 0, vI p0] n rt D Q := by
  refine MOK_of 9 (by decide +kernel) rfl (lv := [(0, vR X 0), (1, vI p0)]) (Nat.le_of_ble_eq_true rfl) rfl (fun K hK F hnm => ?_)
  subst hK
  unfold f9_image at h
  refine r_aload_nR F 0 rfl rfl d9_image_0 ?_
  refine r_iload_n F 1 rfl rfl d9_image_1 ?_
  replace h := wpo_bind h
  refine r_callV0 F lm9_355 mf9_isImage (vc0 hn) rfl (fr := 0) (lo := 0) (As := [vI p0]) (rest := []) ⟨Nat.le_of_ble_eq_true rfl, Nat.le_of_ble_eq_true rfl⟩ rfl (Nat.le_of_ble_eq_true rfl) ⟨Nat.zero_le _, Nat.zero_le _⟩ d9_image_2 ?_
  refine ok9_isImage hn  (kI h (fun a1 h => ?_))
  refine r_if_ne F (tgt := 11) d9_image_5 (by decide) (fun hb => ?_) (fun hb => ?_)
  · replace h := wpo_neg h hb
    refine r_aload_nR F 0 rfl rfl d9_image_11 ?_
    refine r_getR F (z := 20) lf9_32 (vc0 hn) z0_3 d9_image_12 ?_
    refine r_iload_n F 1 rfl rfl d9_image_15 ?_
    obtain ⟨hx1, h⟩ := wpo_chk h
    refine r_aaldP F (z := (85 + 8 * p0.toNat)) (vc20 hn) hx1 (zi hx1) d9_image_16 ?_
    refine r_aload_nR F 0 rfl rfl d9_image_17 ?_
    refine r_getR F (z := 12) lf9_28 (vc0 hn) z0_2 d9_image_18 ?_
    replace h := wpo_bind h
    refine r_callV0 F lm9_112 mf2_become (vi hn hx1) rfl (fr := 1) (lo := 26) (As := [vR X 12]) (rest := []) ⟨Nat.le_of_ble_eq_true rfl, Nat.le_of_ble_eq_true rfl⟩ rfl (Nat.le_of_ble_eq_true rfl) ⟨Nat.zero_le _, Nat.zero_le _⟩ d9_image_21 ?_
    refine ok2_become hn (vi hn hx1) (vc12 hn) (kVm h (fun a2 h => ?_))
    refine r_aload_nR F 0 rfl rfl d9_image_24 ?_
    refine r_getR F (z := 21) lf9_36 (vc0 hn) z0_4 d9_image_25 ?_
    refine r_iload_n F 1 rfl rfl d9_image_28 ?_
    refine r_iconst F (z := 1) d9_image_29 ?_
    refine r_zast F (Or.inr rfl) (vc21 hn) hx1 d9_image_30 ?_
    refine r_iconst F (z := 0) d9_image_31 ?_
    replace h := wpo_some h
    exact r_iret F h d9_image_32
  · replace h := wpo_pos h hb
    refine r_bipush F (z := (-2)) (by decide) d9_image_8 ?_
    replace h := wpo_some h
    exact r_iret F h d9_image_10
theorem d9_back_0 : decode c9_back 0 = .ok (.aload_n 0, 1) := by decide +kernel
theorem d9_back_1 : decode c9_back 1 = .ok (.iload_n 1, 1) := by decide +kernel
theorem d9_back_2 : decode c9_back 2 = .ok (.invokevirtual 355, 3) := by decide +kernel
theorem d9_back_5 : decode c9_back 5 = .ok (.ifCond .ne 6, 3) := by decide +kernel
theorem d9_back_8 : decode c9_back 8 = .ok (.bipush (-2), 2) := by decide +kernel
theorem d9_back_10 : decode c9_back 10 = .ok (.ireturn, 1) := by decide +kernel
theorem d9_back_11 : decode c9_back 11 = .ok (.aload_n 0, 1) := by decide +kernel
theorem d9_back_12 : decode c9_back 12 = .ok (.getfield 36, 3) := by decide +kernel
theorem d9_back_15 : decode c9_back 15 = .ok (.iload_n 1, 1) := by decide +kernel
theorem d9_back_16 : decode c9_back 16 = .ok (.baload, 1) := by decide +kernel
theorem d9_back_17 : decode c9_back 17 = .ok (.ifCond .ne 6, 3) := by decide +kernel
theorem d9_back_20 : decode c9_back 20 = .ok (.bipush (-6), 2) := by decide +kernel
theorem d9_back_22 : decode c9_back 22 = .ok (.ireturn, 1) := by decide +kernel
theorem d9_back_23 : decode c9_back 23 = .ok (.aload_n 0, 1) := by decide +kernel
theorem d9_back_24 : decode c9_back 24 = .ok (.getfield 28, 3) := by decide +kernel
theorem d9_back_27 : decode c9_back 27 = .ok (.aload_n 0, 1) := by decide +kernel
theorem d9_back_28 : decode c9_back 28 = .ok (.getfield 32, 3) := by decide +kernel
theorem d9_back_31 : decode c9_back 31 = .ok (.iload_n 1, 1) := by decide +kernel
theorem d9_back_32 : decode c9_back 32 = .ok (.aaload, 1) := by decide +kernel
theorem d9_back_33 : decode c9_back 33 = .ok (.invokevirtual 112, 3) := by decide +kernel
theorem d9_back_36 : decode c9_back 36 = .ok (.aload_n 0, 1) := by decide +kernel
theorem d9_back_37 : decode c9_back 37 = .ok (.invokevirtual 94, 3) := by decide +kernel
theorem d9_back_40 : decode c9_back 40 = .ok (.iconst 0, 1) := by decide +kernel
theorem d9_back_41 : decode c9_back 41 = .ok (.ireturn, 1) := by decide +kernel
def f9_back (D : Mem) (p0 : Int) : Option (Int × Mem) :=
  Option.bind (f9_isImage D p0) fun (a1 : Int) =>
  if w32 a1 = 0 then
    some ((-2), D)
  else
    if 0 ≤ p0 ∧ p0 < 3 then
      if w32 (D 21 p0.toNat) = 0 then
        some ((-6), D)
      else
        Option.bind (f2_become D 12 (85 + 8 * p0.toNat)) fun (a2 : Mem) =>
        Option.bind (f9_changed a2) fun (a3 : Mem) =>
        some (0, a3)
    else none
set_option maxHeartbeats 4000000 in
theorem ok9_back {l : Launch} {X : XT} {n : Nat} {D : Mem} {Q : Option Value → Nat → Rho → Mem → Prop} (hn : 117 ≤ n) {p0 : Int}  (h : wpo (f9_back D p0) (fun a => Q (some (vI a.1)) n rt a.2)) : MOK l y9_back c9_back 2 (some .int) { frames := 4, cells := 0, slots := 0, locals := 88 } 0 0 X [vR X 0, vI p0] n rt D Q := by
  refine MOK_of 9 (by decide +kernel) rfl (lv := [(0, vR X 0), (1, vI p0)]) (Nat.le_of_ble_eq_true rfl) rfl (fun K hK F hnm => ?_)
  subst hK
  unfold f9_back at h
  refine r_aload_nR F 0 rfl rfl d9_back_0 ?_
  refine r_iload_n F 1 rfl rfl d9_back_1 ?_
  replace h := wpo_bind h
  refine r_callV0 F lm9_355 mf9_isImage (vc0 hn) rfl (fr := 0) (lo := 0) (As := [vI p0]) (rest := []) ⟨Nat.le_of_ble_eq_true rfl, Nat.le_of_ble_eq_true rfl⟩ rfl (Nat.le_of_ble_eq_true rfl) ⟨Nat.zero_le _, Nat.zero_le _⟩ d9_back_2 ?_
  refine ok9_isImage hn  (kI h (fun a1 h => ?_))
  refine r_if_ne F (tgt := 11) d9_back_5 (by decide) (fun hb => ?_) (fun hb => ?_)
  · replace h := wpo_neg h hb
    refine r_aload_nR F 0 rfl rfl d9_back_11 ?_
    refine r_getR F (z := 21) lf9_36 (vc0 hn) z0_4 d9_back_12 ?_
    refine r_iload_n F 1 rfl rfl d9_back_15 ?_
    obtain ⟨hx1, h⟩ := wpo_chk h
    refine r_zald F (vc21 hn) hx1 d9_back_16 ?_
    refine r_if_ne F (tgt := 23) d9_back_17 (by decide) (fun hb => ?_) (fun hb => ?_)
    · replace h := wpo_neg h hb
      refine r_aload_nR F 0 rfl rfl d9_back_23 ?_
      refine r_getR F (z := 12) lf9_28 (vc0 hn) z0_2 d9_back_24 ?_
      refine r_aload_nR F 0 rfl rfl d9_back_27 ?_
      refine r_getR F (z := 20) lf9_32 (vc0 hn) z0_3 d9_back_28 ?_
      refine r_iload_n F 1 rfl rfl d9_back_31 ?_
      refine r_aaldP F (z := (85 + 8 * p0.toNat)) (vc20 hn) hx1 (zi hx1) d9_back_32 ?_
      replace h := wpo_bind h
      refine r_callV0 F lm9_112 mf2_become (vc12 hn) rfl (fr := 1) (lo := 26) (As := [vR X (85 + 8 * p0.toNat)]) (rest := []) ⟨Nat.le_of_ble_eq_true rfl, Nat.le_of_ble_eq_true rfl⟩ rfl (Nat.le_of_ble_eq_true rfl) ⟨Nat.zero_le _, Nat.zero_le _⟩ d9_back_33 ?_
      refine ok2_become hn (vc12 hn) (vi hn hx1) (kVm h (fun a2 h => ?_))
      refine r_aload_nR F 0 rfl rfl d9_back_36 ?_
      replace h := wpo_bind h
      refine r_callV0 F lm9_94 mf9_changed (vc0 hn) rfl (fr := 3) (lo := 68) (As := []) (rest := []) ⟨Nat.le_of_ble_eq_true rfl, Nat.le_of_ble_eq_true rfl⟩ rfl (Nat.le_of_ble_eq_true rfl) ⟨Nat.zero_le _, Nat.zero_le _⟩ d9_back_37 ?_
      refine ok9_changed hn  (kVm h (fun a3 h => ?_))
      refine r_iconst F (z := 0) d9_back_40 ?_
      replace h := wpo_some h
      exact r_iret F h d9_back_41
    · replace h := wpo_pos h hb
      refine r_bipush F (z := (-6)) (by decide) d9_back_20 ?_
      replace h := wpo_some h
      exact r_iret F h d9_back_22
  · replace h := wpo_pos h hb
    refine r_bipush F (z := (-2)) (by decide) d9_back_8 ?_
    replace h := wpo_some h
    exact r_iret F h d9_back_10
theorem d12_fillJ_0 : decode c12_fillJ 0 = .ok (.iconst 0, 1) := by decide +kernel
theorem d12_fillJ_1 : decode c12_fillJ 1 = .ok (.istore_n 3, 1) := by decide +kernel
theorem d12_fillJ_2 : decode c12_fillJ 2 = .ok (.aload_n 0, 1) := by decide +kernel
theorem d12_fillJ_3 : decode c12_fillJ 3 = .ok (.arraylength, 1) := by decide +kernel
theorem d12_fillJ_4 : decode c12_fillJ 4 = .ok (.istore 4, 2) := by decide +kernel
theorem d12_fillJ_6 : decode c12_fillJ 6 = .ok (.iload_n 3, 1) := by decide +kernel
theorem d12_fillJ_7 : decode c12_fillJ 7 = .ok (.iload 4, 2) := by decide +kernel
theorem d12_fillJ_9 : decode c12_fillJ 9 = .ok (.if_icmp .ge 13, 3) := by decide +kernel
theorem d12_fillJ_12 : decode c12_fillJ 12 = .ok (.aload_n 0, 1) := by decide +kernel
theorem d12_fillJ_13 : decode c12_fillJ 13 = .ok (.iload_n 3, 1) := by decide +kernel
theorem d12_fillJ_14 : decode c12_fillJ 14 = .ok (.lload_n 1, 1) := by decide +kernel
theorem d12_fillJ_15 : decode c12_fillJ 15 = .ok (.lastore, 1) := by decide +kernel
theorem d12_fillJ_16 : decode c12_fillJ 16 = .ok (.iinc 3 1, 3) := by decide +kernel
theorem d12_fillJ_19 : decode c12_fillJ 19 = .ok (.goto (-13), 3) := by decide +kernel
theorem d12_fillJ_22 : decode c12_fillJ 22 = .ok (.return_, 1) := by decide +kernel
def f12_fillJ (D : Mem) (p0 : Nat) (len : Nat) (p1 : Int) : Option (Mem) :=
  Option.bind (@loop (Int × Mem) (Mem) (fun s1 =>
    if w32 s1.1 < w32 (len : Int) then
      if 0 ≤ s1.1 ∧ s1.1 < (len : Int) then
        some (Sum.inl ((s1.1 + 1), (mset s1.2 p0 s1.1.toNat p1)))
      else none
    else
      some (Sum.inr s1.2)
  ) FU (0, D)) fun (b1 : Mem) =>
  some b1
set_option maxHeartbeats 4000000 in
theorem ok12_fillJ {l : Launch} {X : XT} {n : Nat} {D : Mem} {Q : Option Value → Nat → Rho → Mem → Prop} {p0 : Nat} {len : Nat} {p1 : Int} (ho0 : VA n p0 2 len) (h : wpo (f12_fillJ D p0 len p1) (fun a => Q none n rt a)) : MOK l y12_fillJ c12_fillJ 5 (none) { frames := 0, cells := 0, slots := 0, locals := 0 } 0 0 X [vR X p0, vL p1] n rt D Q := by
  refine MOK_of 12 (by decide +kernel) rfl (lv := [(0, vR X p0), (1, vL p1)]) (Nat.le_of_ble_eq_true rfl) rfl (fun K hK F hnm => ?_)
  subst hK
  unfold f12_fillJ at h
  refine r_iconst F (z := 0) d12_fillJ_0 ?_
  refine r_istore_n F (lv' := [(3, vI 0), (0, vR X p0), (1, vL p1)]) rfl (Nat.le_of_ble_eq_true rfl) rfl d12_fillJ_1 ?_
  refine r_aload_nR F 1 rfl rfl d12_fillJ_2 ?_
  refine r_alen F ho0 (by decide) d12_fillJ_3 ?_
  refine r_istore F (lv' := [(4, vI (len : Int)), (3, vI 0), (0, vR X p0), (1, vL p1)]) (Nat.le_of_ble_eq_true rfl) rfl d12_fillJ_4 ?_
  refine r_weak [2, 3, 1, 0] rfl ?_
  refine at_loopj (A := fun (s1 : Int × Mem) => At K X (ZQ K X Q) 0 0 n rt 5 6 [(0, vR X p0), (1, vL p1), (3, vI s1.1), (4, vI (len : Int))] [] s1.2) (B := fun (b1 : Mem) => At K X (ZQ K X Q) 0 0 n rt 5 22 [] [] b1) h (fun b1 h => ?_) (fun s1 h => ?_)
  · replace h := wpo_some h
    exact r_vret F h d12_fillJ_22
  · refine r_iload_n F 2 rfl rfl d12_fillJ_6 ?_
    refine r_iload F 3 rfl d12_fillJ_7 ?_
    refine r_icmp_ge F (tgt := 22) d12_fillJ_9 (by decide) (fun hb => ?_) (fun hb => ?_)
    · replace h := wpo_neg h hb
      refine r_weak [] rfl ?_
      replace h := wpo_inr h
      exact h
    · replace h := wpo_pos h hb
      refine r_aload_nR F 0 rfl rfl d12_fillJ_12 ?_
      refine r_iload_n F 2 rfl rfl d12_fillJ_13 ?_
      refine r_lload_n F 1 rfl rfl d12_fillJ_14 ?_
      obtain ⟨hx1, h⟩ := wpo_chk h
      refine r_last F ho0 hx1 d12_fillJ_15 ?_
      refine r_iinc F 2 (lv' := [(3, vI (s1.1 + 1)), (0, vR X p0), (1, vL p1), (4, vI (len : Int))]) rfl (Nat.le_of_ble_eq_true rfl) rfl d12_fillJ_16 ?_
      refine r_goto F (tgt := 6) (by decide) d12_fillJ_19 ?_
      refine r_weak [1, 2, 0, 3] rfl ?_
      replace h := wpo_inl h
      exact h
theorem d5_become_0 : decode c5_become 0 = .ok (.aload_n 0, 1) := by decide +kernel
theorem d5_become_1 : decode c5_become 1 = .ok (.iconst 1, 1) := by decide +kernel
theorem d5_become_2 : decode c5_become 2 = .ok (.putfield 9, 3) := by decide +kernel
theorem d5_become_5 : decode c5_become 5 = .ok (.aload_n 0, 1) := by decide +kernel
theorem d5_become_6 : decode c5_become 6 = .ok (.iload_n 1, 1) := by decide +kernel
theorem d5_become_7 : decode c5_become 7 = .ok (.putfield 15, 3) := by decide +kernel
theorem d5_become_10 : decode c5_become 10 = .ok (.aload_n 0, 1) := by decide +kernel
theorem d5_become_11 : decode c5_become 11 = .ok (.iload_n 2, 1) := by decide +kernel
theorem d5_become_12 : decode c5_become 12 = .ok (.putfield 19, 3) := by decide +kernel
theorem d5_become_15 : decode c5_become 15 = .ok (.aload_n 0, 1) := by decide +kernel
theorem d5_become_16 : decode c5_become 16 = .ok (.getfield 22, 3) := by decide +kernel
theorem d5_become_19 : decode c5_become 19 = .ok (.lconst 0, 1) := by decide +kernel
theorem d5_become_20 : decode c5_become 20 = .ok (.invokestatic 26, 3) := by decide +kernel
theorem d5_become_23 : decode c5_become 23 = .ok (.return_, 1) := by decide +kernel
def f5_become (D : Mem) (r : Nat) (p0 : Int) (p1 : Int) : Option (Mem) :=
  Option.bind (some (mset D r 0 1)) fun (D1 : Mem) =>
  Option.bind (some (mset D1 r 1 p0)) fun (D2 : Mem) =>
  Option.bind (some (mset D2 r 2 p1)) fun (D3 : Mem) =>
  Option.bind (f12_fillJ D3 (r + 1) 60 0) fun (a1 : Mem) =>
  some a1
set_option maxHeartbeats 4000000 in
theorem ok5_become {l : Launch} {X : XT} {n : Nat} {D : Mem} {Q : Option Value → Nat → Rho → Mem → Prop} (hn : 117 ≤ n) {r : Nat} {p0 : Int} {p1 : Int} (hr : VR n r 5) (h : wpo (f5_become D r p0 p1) (fun a => Q none n rt a)) : MOK l y5_become c5_become 3 (none) { frames := 1, cells := 0, slots := 0, locals := 24 } 0 0 X [vR X r, vI p0, vI p1] n rt D Q := by
  refine MOK_of 5 (by decide +kernel) rfl (lv := [(0, vR X r), (1, vI p0), (2, vI p1)]) (Nat.le_of_ble_eq_true rfl) rfl (fun K hK F hnm => ?_)
  subst hK
  unfold f5_become at h
  refine r_aload_nR F 0 rfl rfl d5_become_0 ?_
  refine r_iconst F (z := 1) d5_become_1 ?_
  refine r_putZ F (Or.inr rfl) lf5_9 rfl rfl hr d5_become_2 ?_
  refine r_aload_nR F 0 rfl rfl d5_become_5 ?_
  refine r_iload_n F 1 rfl rfl d5_become_6 ?_
  refine at_name (B := fun (D1 : Mem) => At K X (ZQ K X Q) 0 0 n rt 3 7 [(0, vR X r), (1, vI p0), (2, vI p1)] [vI p0, vR X r] D1) h (fun D1 h => ?_)
  refine r_putI F lf5_15 rfl rfl hr d5_become_7 ?_
  refine r_aload_nR F 0 rfl rfl d5_become_10 ?_
  refine r_iload_n F 2 rfl rfl d5_become_11 ?_
  refine at_name (B := fun (D2 : Mem) => At K X (ZQ K X Q) 0 0 n rt 3 12 [(0, vR X r), (1, vI p0), (2, vI p1)] [vI p1, vR X r] D2) h (fun D2 h => ?_)
  refine r_putI F lf5_19 rfl rfl hr d5_become_12 ?_
  refine r_aload_nR F 0 rfl rfl d5_become_15 ?_
  refine r_getR F (z := (r + 1)) lf5_22 hr (z5_3 hr) d5_become_16 ?_
  refine r_lconst F (x := 0) (by decide) d5_become_19 ?_
  refine at_name (B := fun (D3 : Mem) => At K X (ZQ K X Q) 0 0 n rt 3 20 [(0, vR X r), (1, vI p0), (2, vI p1)] [vL 0, vR X (r + 1)] D3) h (fun D3 h => ?_)
  replace h := wpo_bind h
  refine r_callS0 F lm5_26 mf12_fillJ rfl (fr := 0) (lo := 0) (As := [vR X (r + 1), vL 0]) (rest := []) ⟨Nat.le_of_ble_eq_true rfl, Nat.le_of_ble_eq_true rfl⟩ rfl (Nat.le_of_ble_eq_true rfl) ⟨Nat.zero_le _, Nat.zero_le _⟩ d5_become_20 ?_
  refine ok12_fillJ (y5_3 hn hr) (kVm h (fun a1 h => ?_))
  replace h := wpo_some h
  exact r_vret F h d5_become_23
theorem d9_row_0 : decode c9_row 0 = .ok (.aload_n 0, 1) := by decide +kernel
theorem d9_row_1 : decode c9_row 1 = .ok (.iload_n 1, 1) := by decide +kernel
theorem d9_row_2 : decode c9_row 2 = .ok (.invokevirtual 358, 3) := by decide +kernel
theorem d9_row_5 : decode c9_row 5 = .ok (.ifCond .eq 18, 3) := by decide +kernel
theorem d9_row_8 : decode c9_row 8 = .ok (.iload_n 2, 1) := by decide +kernel
theorem d9_row_9 : decode c9_row 9 = .ok (.ifCond .lt 14, 3) := by decide +kernel
theorem d9_row_12 : decode c9_row 12 = .ok (.iload_n 2, 1) := by decide +kernel
theorem d9_row_13 : decode c9_row 13 = .ok (.iconst 4, 1) := by decide +kernel
theorem d9_row_14 : decode c9_row 14 = .ok (.if_icmp .ge 9, 3) := by decide +kernel
theorem d9_row_17 : decode c9_row 17 = .ok (.iload_n 3, 1) := by decide +kernel
theorem d9_row_18 : decode c9_row 18 = .ok (.bipush 60, 2) := by decide +kernel
theorem d9_row_20 : decode c9_row 20 = .ok (.if_icmp .le 6, 3) := by decide +kernel
theorem d9_row_23 : decode c9_row 23 = .ok (.bipush (-2), 2) := by decide +kernel
theorem d9_row_25 : decode c9_row 25 = .ok (.ireturn, 1) := by decide +kernel
theorem d9_row_26 : decode c9_row 26 = .ok (.iload_n 3, 1) := by decide +kernel
theorem d9_row_27 : decode c9_row 27 = .ok (.ifCond .ge 6, 3) := by decide +kernel
theorem d9_row_30 : decode c9_row 30 = .ok (.bipush (-3), 2) := by decide +kernel
theorem d9_row_32 : decode c9_row 32 = .ok (.ireturn, 1) := by decide +kernel
theorem d9_row_33 : decode c9_row 33 = .ok (.aload_n 0, 1) := by decide +kernel
theorem d9_row_34 : decode c9_row 34 = .ok (.getfield 42, 3) := by decide +kernel
theorem d9_row_37 : decode c9_row 37 = .ok (.iload_n 1, 1) := by decide +kernel
theorem d9_row_38 : decode c9_row 38 = .ok (.aaload, 1) := by decide +kernel
theorem d9_row_39 : decode c9_row 39 = .ok (.iload_n 2, 1) := by decide +kernel
theorem d9_row_40 : decode c9_row 40 = .ok (.iload_n 3, 1) := by decide +kernel
theorem d9_row_41 : decode c9_row 41 = .ok (.invokevirtual 361, 3) := by decide +kernel
theorem d9_row_44 : decode c9_row 44 = .ok (.iconst 0, 1) := by decide +kernel
theorem d9_row_45 : decode c9_row 45 = .ok (.ireturn, 1) := by decide +kernel
def f9_row (D : Mem) (p0 : Int) (p1 : Int) (p2 : Int) : Option (Int × Mem) :=
  Option.bind (f9_isSlot D p0) fun (a1 : Int) =>
  if w32 a1 = 0 then
    some ((-2), D)
  else
    if w32 p1 < 0 then
      some ((-2), D)
    else
      if w32 p1 < w32 4 then
        if w32 60 < w32 p2 then
          some ((-2), D)
        else
          if w32 p2 < 0 then
            some ((-3), D)
          else
            if 0 ≤ p0 ∧ p0 < 4 then
              Option.bind (f5_become D (109 + 2 * p0.toNat) p1 p2) fun (a2 : Mem) =>
              some (0, a2)
            else none
      else
        some ((-2), D)
set_option maxHeartbeats 4000000 in
theorem ok9_row {l : Launch} {X : XT} {n : Nat} {D : Mem} {Q : Option Value → Nat → Rho → Mem → Prop} (hn : 117 ≤ n) {p0 : Int} {p1 : Int} {p2 : Int}  (h : wpo (f9_row D p0 p1 p2) (fun a => Q (some (vI a.1)) n rt a.2)) : MOK l y9_row c9_row 4 (some .int) { frames := 2, cells := 0, slots := 0, locals := 46 } 0 0 X [vR X 0, vI p0, vI p1, vI p2] n rt D Q := by
  refine MOK_of 9 (by decide +kernel) rfl (lv := [(0, vR X 0), (1, vI p0), (2, vI p1), (3, vI p2)]) (Nat.le_of_ble_eq_true rfl) rfl (fun K hK F hnm => ?_)
  subst hK
  unfold f9_row at h
  refine r_aload_nR F 0 rfl rfl d9_row_0 ?_
  refine r_iload_n F 1 rfl rfl d9_row_1 ?_
  replace h := wpo_bind h
  refine r_callV0 F lm9_358 mf9_isSlot (vc0 hn) rfl (fr := 0) (lo := 0) (As := [vI p0]) (rest := []) ⟨Nat.le_of_ble_eq_true rfl, Nat.le_of_ble_eq_true rfl⟩ rfl (Nat.le_of_ble_eq_true rfl) ⟨Nat.zero_le _, Nat.zero_le _⟩ d9_row_2 ?_
  refine ok9_isSlot hn  (kI h (fun a1 h => ?_))
  refine r_if_eq F (tgt := 23) d9_row_5 (by decide) (fun hb => ?_) (fun hb => ?_)
  · replace h := wpo_pos h hb
    refine r_bipush F (z := (-2)) (by decide) d9_row_23 ?_
    replace h := wpo_some h
    exact r_iret F h d9_row_25
  · replace h := wpo_neg h hb
    refine r_iload_n F 2 rfl rfl d9_row_8 ?_
    refine r_if_lt F (tgt := 23) d9_row_9 (by decide) (fun hb => ?_) (fun hb => ?_)
    · replace h := wpo_pos h hb
      refine r_bipush F (z := (-2)) (by decide) d9_row_23 ?_
      replace h := wpo_some h
      exact r_iret F h d9_row_25
    · replace h := wpo_neg h hb
      refine r_iload_n F 2 rfl rfl d9_row_12 ?_
      refine r_iconst F (z := 4) d9_row_13 ?_
      refine r_icmp_ge F (tgt := 23) d9_row_14 (by decide) (fun hb => ?_) (fun hb => ?_)
      · replace h := wpo_neg h hb
        refine r_bipush F (z := (-2)) (by decide) d9_row_23 ?_
        replace h := wpo_some h
        exact r_iret F h d9_row_25
      · replace h := wpo_pos h hb
        refine r_iload_n F 3 rfl rfl d9_row_17 ?_
        refine r_bipush F (z := 60) (by decide) d9_row_18 ?_
        refine r_icmp_le F (tgt := 26) d9_row_20 (by decide) (fun hb => ?_) (fun hb => ?_)
        · replace h := wpo_neg h hb
          refine r_iload_n F 3 rfl rfl d9_row_26 ?_
          refine r_if_ge F (tgt := 33) d9_row_27 (by decide) (fun hb => ?_) (fun hb => ?_)
          · replace h := wpo_neg h hb
            refine r_aload_nR F 0 rfl rfl d9_row_33 ?_
            refine r_getR F (z := 22) lf9_42 (vc0 hn) z0_5 d9_row_34 ?_
            refine r_iload_n F 1 rfl rfl d9_row_37 ?_
            obtain ⟨hx1, h⟩ := wpo_chk h
            refine r_aaldS F (z := (109 + 2 * p0.toNat)) (vc22 hn) hx1 (zs hx1) d9_row_38 ?_
            refine r_iload_n F 2 rfl rfl d9_row_39 ?_
            refine r_iload_n F 3 rfl rfl d9_row_40 ?_
            replace h := wpo_bind h
            refine r_callV0 F lm9_361 mf5_become (vs hn hx1) rfl (fr := 1) (lo := 24) (As := [vI p1, vI p2]) (rest := []) ⟨Nat.le_of_ble_eq_true rfl, Nat.le_of_ble_eq_true rfl⟩ rfl (Nat.le_of_ble_eq_true rfl) ⟨Nat.zero_le _, Nat.zero_le _⟩ d9_row_41 ?_
            refine ok5_become hn (vs hn hx1) (kVm h (fun a2 h => ?_))
            refine r_iconst F (z := 0) d9_row_44 ?_
            replace h := wpo_some h
            exact r_iret F h d9_row_45
          · replace h := wpo_pos h hb
            refine r_bipush F (z := (-3)) (by decide) d9_row_30 ?_
            replace h := wpo_some h
            exact r_iret F h d9_row_32
        · replace h := wpo_pos h hb
          refine r_bipush F (z := (-2)) (by decide) d9_row_23 ?_
          replace h := wpo_some h
          exact r_iret F h d9_row_25
theorem d5_narrowed_0 : decode c5_narrowed 0 = .ok (.aload_n 0, 1) := by decide +kernel
theorem d5_narrowed_1 : decode c5_narrowed 1 = .ok (.getfield 15, 3) := by decide +kernel
theorem d5_narrowed_4 : decode c5_narrowed 4 = .ok (.tableswitch 42 0 2 #[28, 33, 38], 28) := by decide +kernel
theorem d5_narrowed_32 : decode c5_narrowed 32 = .ok (.lload_n 1, 1) := by decide +kernel
theorem d5_narrowed_33 : decode c5_narrowed 33 = .ok (.l2i, 1) := by decide +kernel
theorem d5_narrowed_34 : decode c5_narrowed 34 = .ok (.i2b, 1) := by decide +kernel
theorem d5_narrowed_35 : decode c5_narrowed 35 = .ok (.i2l, 1) := by decide +kernel
theorem d5_narrowed_36 : decode c5_narrowed 36 = .ok (.lreturn, 1) := by decide +kernel
theorem d5_narrowed_37 : decode c5_narrowed 37 = .ok (.lload_n 1, 1) := by decide +kernel
theorem d5_narrowed_38 : decode c5_narrowed 38 = .ok (.l2i, 1) := by decide +kernel
theorem d5_narrowed_39 : decode c5_narrowed 39 = .ok (.i2s, 1) := by decide +kernel
theorem d5_narrowed_40 : decode c5_narrowed 40 = .ok (.i2l, 1) := by decide +kernel
theorem d5_narrowed_41 : decode c5_narrowed 41 = .ok (.lreturn, 1) := by decide +kernel
theorem d5_narrowed_42 : decode c5_narrowed 42 = .ok (.lload_n 1, 1) := by decide +kernel
theorem d5_narrowed_43 : decode c5_narrowed 43 = .ok (.l2i, 1) := by decide +kernel
theorem d5_narrowed_44 : decode c5_narrowed 44 = .ok (.i2l, 1) := by decide +kernel
theorem d5_narrowed_45 : decode c5_narrowed 45 = .ok (.lreturn, 1) := by decide +kernel
theorem d5_narrowed_46 : decode c5_narrowed 46 = .ok (.lload_n 1, 1) := by decide +kernel
theorem d5_narrowed_47 : decode c5_narrowed 47 = .ok (.lreturn, 1) := by decide +kernel
def f5_narrowed (D : Mem) (r : Nat) (p0 : Int) : Option (Int) :=
  if w32 (D r 1) = 0 then
    some (w32 (w8 p0))
  else
    if w32 (D r 1) = 1 then
      some (w32 (w16 p0))
    else
      if w32 (D r 1) = 2 then
        some (w32 p0)
      else
        some p0
set_option maxHeartbeats 4000000 in
theorem ok5_narrowed {l : Launch} {X : XT} {n : Nat} {D : Mem} {Q : Option Value → Nat → Rho → Mem → Prop} (hn : 117 ≤ n) {r : Nat} {p0 : Int} (hr : VR n r 5) (h : wpo (f5_narrowed D r p0) (fun a => Q (some (vL a)) n rt D)) : MOK l y5_narrowed c5_narrowed 3 (some .long) { frames := 0, cells := 0, slots := 0, locals := 0 } 0 0 X [vR X r, vL p0] n rt D Q := by
  refine MOK_of 5 (by decide +kernel) rfl (lv := [(0, vR X r), (1, vL p0)]) (Nat.le_of_ble_eq_true rfl) rfl (fun K hK F hnm => ?_)
  subst hK
  unfold f5_narrowed at h
  refine r_aload_nR F 0 rfl rfl d5_narrowed_0 ?_
  refine r_getI F lf5_15 hr d5_narrowed_1 ?_
  by_cases hb0 : w32 (D r 1) = 0
  · replace h := wpo_pos h hb0
    refine r_tabIn F 0 hb0 d5_narrowed_4 (by decide) (by decide) rfl (tgt := 32) (by decide) ?_
    refine r_lload_n F 1 rfl rfl d5_narrowed_32 ?_
    refine r_l2i F d5_narrowed_33 ?_
    refine r_i2b F d5_narrowed_34 ?_
    refine r_i2l F d5_narrowed_35 ?_
    replace h := wpo_some h
    exact r_lret F h d5_narrowed_36
  · replace h := wpo_neg h hb0
    by_cases hb1 : w32 (D r 1) = 1
    · replace h := wpo_pos h hb1
      refine r_tabIn F 1 hb1 d5_narrowed_4 (by decide) (by decide) rfl (tgt := 37) (by decide) ?_
      refine r_lload_n F 1 rfl rfl d5_narrowed_37 ?_
      refine r_l2i F d5_narrowed_38 ?_
      refine r_i2s F d5_narrowed_39 ?_
      refine r_i2l F d5_narrowed_40 ?_
      replace h := wpo_some h
      exact r_lret F h d5_narrowed_41
    · replace h := wpo_neg h hb1
      by_cases hb2 : w32 (D r 1) = 2
      · replace h := wpo_pos h hb2
        refine r_tabIn F 2 hb2 d5_narrowed_4 (by decide) (by decide) rfl (tgt := 42) (by decide) ?_
        refine r_lload_n F 1 rfl rfl d5_narrowed_42 ?_
        refine r_l2i F d5_narrowed_43 ?_
        refine r_i2l F d5_narrowed_44 ?_
        replace h := wpo_some h
        exact r_lret F h d5_narrowed_45
      · replace h := wpo_neg h hb2
        refine r_tabOut F d5_narrowed_4 ?_ (tgt := 46) (by decide) ?_
        · omega
        · refine r_lload_n F 1 rfl rfl d5_narrowed_46 ?_
          replace h := wpo_some h
          exact r_lret F h d5_narrowed_47
theorem d9_write_0 : decode c9_write 0 = .ok (.aload_n 0, 1) := by decide +kernel
theorem d9_write_1 : decode c9_write 1 = .ok (.iload_n 1, 1) := by decide +kernel
theorem d9_write_2 : decode c9_write 2 = .ok (.invokevirtual 358, 3) := by decide +kernel
theorem d9_write_5 : decode c9_write 5 = .ok (.ifCond .ne 6, 3) := by decide +kernel
theorem d9_write_8 : decode c9_write 8 = .ok (.bipush (-2), 2) := by decide +kernel
theorem d9_write_10 : decode c9_write 10 = .ok (.ireturn, 1) := by decide +kernel
theorem d9_write_11 : decode c9_write 11 = .ok (.aload_n 0, 1) := by decide +kernel
theorem d9_write_12 : decode c9_write 12 = .ok (.getfield 42, 3) := by decide +kernel
theorem d9_write_15 : decode c9_write 15 = .ok (.iload_n 1, 1) := by decide +kernel
theorem d9_write_16 : decode c9_write 16 = .ok (.aaload, 1) := by decide +kernel
theorem d9_write_17 : decode c9_write 17 = .ok (.astore 5, 2) := by decide +kernel
theorem d9_write_19 : decode c9_write 19 = .ok (.aload 5, 2) := by decide +kernel
theorem d9_write_21 : decode c9_write 21 = .ok (.getfield 363, 3) := by decide +kernel
theorem d9_write_24 : decode c9_write 24 = .ok (.ifCond .ne 6, 3) := by decide +kernel
theorem d9_write_27 : decode c9_write 27 = .ok (.bipush (-6), 2) := by decide +kernel
theorem d9_write_29 : decode c9_write 29 = .ok (.ireturn, 1) := by decide +kernel
theorem d9_write_30 : decode c9_write 30 = .ok (.iload_n 2, 1) := by decide +kernel
theorem d9_write_31 : decode c9_write 31 = .ok (.ifCond .lt 12, 3) := by decide +kernel
theorem d9_write_34 : decode c9_write 34 = .ok (.iload_n 2, 1) := by decide +kernel
theorem d9_write_35 : decode c9_write 35 = .ok (.aload 5, 2) := by decide +kernel
theorem d9_write_37 : decode c9_write 37 = .ok (.getfield 367, 3) := by decide +kernel
theorem d9_write_40 : decode c9_write 40 = .ok (.if_icmp .lt 6, 3) := by decide +kernel
theorem d9_write_43 : decode c9_write 43 = .ok (.bipush (-7), 2) := by decide +kernel
theorem d9_write_45 : decode c9_write 45 = .ok (.ireturn, 1) := by decide +kernel
theorem d9_write_46 : decode c9_write 46 = .ok (.aload 5, 2) := by decide +kernel
theorem d9_write_48 : decode c9_write 48 = .ok (.getfield 368, 3) := by decide +kernel
theorem d9_write_51 : decode c9_write 51 = .ok (.iload_n 2, 1) := by decide +kernel
theorem d9_write_52 : decode c9_write 52 = .ok (.aload 5, 2) := by decide +kernel
theorem d9_write_54 : decode c9_write 54 = .ok (.lload_n 3, 1) := by decide +kernel
theorem d9_write_55 : decode c9_write 55 = .ok (.invokevirtual 372, 3) := by decide +kernel
theorem d9_write_58 : decode c9_write 58 = .ok (.lastore, 1) := by decide +kernel
theorem d9_write_59 : decode c9_write 59 = .ok (.iconst 0, 1) := by decide +kernel
theorem d9_write_60 : decode c9_write 60 = .ok (.ireturn, 1) := by decide +kernel
def f9_write (D : Mem) (p0 : Int) (p1 : Int) (p2 : Int) : Option (Int × Mem) :=
  Option.bind (f9_isSlot D p0) fun (a1 : Int) =>
  if w32 a1 = 0 then
    some ((-2), D)
  else
    if 0 ≤ p0 ∧ p0 < 4 then
      if w32 (D (109 + 2 * p0.toNat) 0) = 0 then
        some ((-6), D)
      else
        if w32 p1 < 0 then
          some ((-7), D)
        else
          if w32 p1 < w32 (D (109 + 2 * p0.toNat) 2) then
            Option.bind (f5_narrowed D (109 + 2 * p0.toNat) p2) fun (a2 : Int) =>
            if 0 ≤ p1 ∧ p1 < 60 then
              some (0, (mset D ((109 + 2 * p0.toNat) + 1) p1.toNat a2))
            else none
          else
            some ((-7), D)
    else none
set_option maxHeartbeats 4000000 in
theorem ok9_write {l : Launch} {X : XT} {n : Nat} {D : Mem} {Q : Option Value → Nat → Rho → Mem → Prop} (hn : 117 ≤ n) {p0 : Int} {p1 : Int} {p2 : Int}  (h : wpo (f9_write D p0 p1 p2) (fun a => Q (some (vI a.1)) n rt a.2)) : MOK l y9_write c9_write 6 (some .int) { frames := 1, cells := 0, slots := 0, locals := 22 } 0 0 X [vR X 0, vI p0, vI p1, vL p2] n rt D Q := by
  refine MOK_of 9 (by decide +kernel) rfl (lv := [(0, vR X 0), (1, vI p0), (2, vI p1), (3, vL p2)]) (Nat.le_of_ble_eq_true rfl) rfl (fun K hK F hnm => ?_)
  subst hK
  unfold f9_write at h
  refine r_aload_nR F 0 rfl rfl d9_write_0 ?_
  refine r_iload_n F 1 rfl rfl d9_write_1 ?_
  replace h := wpo_bind h
  refine r_callV0 F lm9_358 mf9_isSlot (vc0 hn) rfl (fr := 0) (lo := 0) (As := [vI p0]) (rest := []) ⟨Nat.le_of_ble_eq_true rfl, Nat.le_of_ble_eq_true rfl⟩ rfl (Nat.le_of_ble_eq_true rfl) ⟨Nat.zero_le _, Nat.zero_le _⟩ d9_write_2 ?_
  refine ok9_isSlot hn  (kI h (fun a1 h => ?_))
  refine r_if_ne F (tgt := 11) d9_write_5 (by decide) (fun hb => ?_) (fun hb => ?_)
  · replace h := wpo_neg h hb
    refine r_aload_nR F 0 rfl rfl d9_write_11 ?_
    refine r_getR F (z := 22) lf9_42 (vc0 hn) z0_5 d9_write_12 ?_
    refine r_iload_n F 1 rfl rfl d9_write_15 ?_
    obtain ⟨hx1, h⟩ := wpo_chk h
    refine r_aaldS F (z := (109 + 2 * p0.toNat)) (vc22 hn) hx1 (zs hx1) d9_write_16 ?_
    refine r_astoreR F (lv' := [(5, vR X (109 + 2 * p0.toNat)), (0, vR X 0), (1, vI p0), (2, vI p1), (3, vL p2)]) (Nat.le_of_ble_eq_true rfl) rfl d9_write_17 ?_
    refine r_aloadR F 0 rfl d9_write_19 ?_
    refine r_getI F lf9_363 (vs hn hx1) d9_write_21 ?_
    refine r_if_ne F (tgt := 30) d9_write_24 (by decide) (fun hb => ?_) (fun hb => ?_)
    · replace h := wpo_neg h hb
      refine r_iload_n F 3 rfl rfl d9_write_30 ?_
      refine r_if_lt F (tgt := 43) d9_write_31 (by decide) (fun hb => ?_) (fun hb => ?_)
      · replace h := wpo_pos h hb
        refine r_bipush F (z := (-7)) (by decide) d9_write_43 ?_
        replace h := wpo_some h
        exact r_iret F h d9_write_45
      · replace h := wpo_neg h hb
        refine r_iload_n F 3 rfl rfl d9_write_34 ?_
        refine r_aloadR F 0 rfl d9_write_35 ?_
        refine r_getI F lf9_367 (vs hn hx1) d9_write_37 ?_
        refine r_icmp_lt F (tgt := 46) d9_write_40 (by decide) (fun hb => ?_) (fun hb => ?_)
        · replace h := wpo_pos h hb
          refine r_aloadR F 0 rfl d9_write_46 ?_
          refine r_getR F (z := ((109 + 2 * p0.toNat) + 1)) lf9_368 (vs hn hx1) (z5_3 (vs hn hx1)) d9_write_48 ?_
          refine r_iload_n F 3 rfl rfl d9_write_51 ?_
          refine r_aloadR F 0 rfl d9_write_52 ?_
          refine r_lload_n F 4 rfl rfl d9_write_54 ?_
          replace h := wpo_bind h
          refine r_callV0 F lm9_372 mf5_narrowed (vs hn hx1) rfl (fr := 0) (lo := 0) (As := [vL p2]) (rest := [vI p1, vR X ((109 + 2 * p0.toNat) + 1)]) ⟨Nat.le_of_ble_eq_true rfl, Nat.le_of_ble_eq_true rfl⟩ rfl (Nat.le_of_ble_eq_true rfl) ⟨Nat.zero_le _, Nat.zero_le _⟩ d9_write_55 ?_
          refine ok5_narrowed hn (vs hn hx1) (kL h (fun a2 h => ?_))
          obtain ⟨hx2, h⟩ := wpo_chk h
          refine r_last F (y5_3 hn (vs hn hx1)) hx2 d9_write_58 ?_
          refine r_iconst F (z := 0) d9_write_59 ?_
          replace h := wpo_some h
          exact r_iret F h d9_write_60
        · replace h := wpo_neg h hb
          refine r_bipush F (z := (-7)) (by decide) d9_write_43 ?_
          replace h := wpo_some h
          exact r_iret F h d9_write_45
    · replace h := wpo_pos h hb
      refine r_bipush F (z := (-6)) (by decide) d9_write_27 ?_
      replace h := wpo_some h
      exact r_iret F h d9_write_29
  · replace h := wpo_pos h hb
    refine r_bipush F (z := (-2)) (by decide) d9_write_8 ?_
    replace h := wpo_some h
    exact r_iret F h d9_write_10
theorem d5_reaches_0 : decode c5_reaches 0 = .ok (.iload_n 1, 1) := by decide +kernel
theorem d5_reaches_1 : decode c5_reaches 1 = .ok (.ifCond .lt 21, 3) := by decide +kernel
theorem d5_reaches_4 : decode c5_reaches 4 = .ok (.iload_n 2, 1) := by decide +kernel
theorem d5_reaches_5 : decode c5_reaches 5 = .ok (.ifCond .lt 17, 3) := by decide +kernel
theorem d5_reaches_8 : decode c5_reaches 8 = .ok (.iload_n 1, 1) := by decide +kernel
theorem d5_reaches_9 : decode c5_reaches 9 = .ok (.aload_n 0, 1) := by decide +kernel
theorem d5_reaches_10 : decode c5_reaches 10 = .ok (.getfield 19, 3) := by decide +kernel
theorem d5_reaches_13 : decode c5_reaches 13 = .ok (.iload_n 2, 1) := by decide +kernel
theorem d5_reaches_14 : decode c5_reaches 14 = .ok (.isub, 1) := by decide +kernel
theorem d5_reaches_15 : decode c5_reaches 15 = .ok (.if_icmp .gt 7, 3) := by decide +kernel
theorem d5_reaches_18 : decode c5_reaches 18 = .ok (.iconst 1, 1) := by decide +kernel
theorem d5_reaches_19 : decode c5_reaches 19 = .ok (.goto 4, 3) := by decide +kernel
theorem d5_reaches_22 : decode c5_reaches 22 = .ok (.iconst 0, 1) := by decide +kernel
theorem d5_reaches_23 : decode c5_reaches 23 = .ok (.ireturn, 1) := by decide +kernel
def f5_reaches (D : Mem) (r : Nat) (p0 : Int) (p1 : Int) : Option (Int) :=
  if w32 p0 < 0 then
    some 0
  else
    if w32 p1 < 0 then
      some 0
    else
      if w32 ((D r 2) - p1) < w32 p0 then
        some 0
      else
        some 1
set_option maxHeartbeats 4000000 in
theorem ok5_reaches {l : Launch} {X : XT} {n : Nat} {D : Mem} {Q : Option Value → Nat → Rho → Mem → Prop} (hn : 117 ≤ n) {r : Nat} {p0 : Int} {p1 : Int} (hr : VR n r 5) (h : wpo (f5_reaches D r p0 p1) (fun a => Q (some (vI a)) n rt D)) : MOK l y5_reaches c5_reaches 3 (some .boolean) { frames := 0, cells := 0, slots := 0, locals := 0 } 0 0 X [vR X r, vI p0, vI p1] n rt D Q := by
  refine MOK_of 5 (by decide +kernel) rfl (lv := [(0, vR X r), (1, vI p0), (2, vI p1)]) (Nat.le_of_ble_eq_true rfl) rfl (fun K hK F hnm => ?_)
  subst hK
  unfold f5_reaches at h
  refine r_iload_n F 1 rfl rfl d5_reaches_0 ?_
  refine r_if_lt F (tgt := 22) d5_reaches_1 (by decide) (fun hb => ?_) (fun hb => ?_)
  · replace h := wpo_pos h hb
    refine r_iconst F (z := 0) d5_reaches_22 ?_
    replace h := wpo_some h
    exact r_zret F (Or.inl rfl) h d5_reaches_23
  · replace h := wpo_neg h hb
    refine r_iload_n F 2 rfl rfl d5_reaches_4 ?_
    refine r_if_lt F (tgt := 22) d5_reaches_5 (by decide) (fun hb => ?_) (fun hb => ?_)
    · replace h := wpo_pos h hb
      refine r_iconst F (z := 0) d5_reaches_22 ?_
      replace h := wpo_some h
      exact r_zret F (Or.inl rfl) h d5_reaches_23
    · replace h := wpo_neg h hb
      refine r_iload_n F 1 rfl rfl d5_reaches_8 ?_
      refine r_aload_nR F 0 rfl rfl d5_reaches_9 ?_
      refine r_getI F lf5_19 hr d5_reaches_10 ?_
      refine r_iload_n F 2 rfl rfl d5_reaches_13 ?_
      refine r_isub F d5_reaches_14 ?_
      refine r_icmp_gt F (tgt := 22) d5_reaches_15 (by decide) (fun hb => ?_) (fun hb => ?_)
      · replace h := wpo_pos h hb
        refine r_iconst F (z := 0) d5_reaches_22 ?_
        replace h := wpo_some h
        exact r_zret F (Or.inl rfl) h d5_reaches_23
      · replace h := wpo_neg h hb
        refine r_iconst F (z := 1) d5_reaches_18 ?_
        refine r_goto F (tgt := 23) (by decide) d5_reaches_19 ?_
        replace h := wpo_some h
        exact r_zret F (Or.inr rfl) h d5_reaches_23
theorem d9_paste_0 : decode c9_paste 0 = .ok (.aload_n 0, 1) := by decide +kernel
theorem d9_paste_1 : decode c9_paste 1 = .ok (.iload_n 1, 1) := by decide +kernel
theorem d9_paste_2 : decode c9_paste 2 = .ok (.invokevirtual 358, 3) := by decide +kernel
theorem d9_paste_5 : decode c9_paste 5 = .ok (.ifCond .eq 11, 3) := by decide +kernel
theorem d9_paste_8 : decode c9_paste 8 = .ok (.aload_n 0, 1) := by decide +kernel
theorem d9_paste_9 : decode c9_paste 9 = .ok (.iload_n 3, 1) := by decide +kernel
theorem d9_paste_10 : decode c9_paste 10 = .ok (.invokevirtual 358, 3) := by decide +kernel
theorem d9_paste_13 : decode c9_paste 13 = .ok (.ifCond .ne 6, 3) := by decide +kernel
theorem d9_paste_16 : decode c9_paste 16 = .ok (.bipush (-2), 2) := by decide +kernel
theorem d9_paste_18 : decode c9_paste 18 = .ok (.ireturn, 1) := by decide +kernel
theorem d9_paste_19 : decode c9_paste 19 = .ok (.aload_n 0, 1) := by decide +kernel
theorem d9_paste_20 : decode c9_paste 20 = .ok (.getfield 42, 3) := by decide +kernel
theorem d9_paste_23 : decode c9_paste 23 = .ok (.iload_n 1, 1) := by decide +kernel
theorem d9_paste_24 : decode c9_paste 24 = .ok (.aaload, 1) := by decide +kernel
theorem d9_paste_25 : decode c9_paste 25 = .ok (.astore 6, 2) := by decide +kernel
theorem d9_paste_27 : decode c9_paste 27 = .ok (.aload_n 0, 1) := by decide +kernel
theorem d9_paste_28 : decode c9_paste 28 = .ok (.getfield 42, 3) := by decide +kernel
theorem d9_paste_31 : decode c9_paste 31 = .ok (.iload_n 3, 1) := by decide +kernel
theorem d9_paste_32 : decode c9_paste 32 = .ok (.aaload, 1) := by decide +kernel
theorem d9_paste_33 : decode c9_paste 33 = .ok (.astore 7, 2) := by decide +kernel
theorem d9_paste_35 : decode c9_paste 35 = .ok (.aload 6, 2) := by decide +kernel
theorem d9_paste_37 : decode c9_paste 37 = .ok (.getfield 363, 3) := by decide +kernel
theorem d9_paste_40 : decode c9_paste 40 = .ok (.ifCond .eq 11, 3) := by decide +kernel
theorem d9_paste_43 : decode c9_paste 43 = .ok (.aload 7, 2) := by decide +kernel
theorem d9_paste_45 : decode c9_paste 45 = .ok (.getfield 363, 3) := by decide +kernel
theorem d9_paste_48 : decode c9_paste 48 = .ok (.ifCond .ne 6, 3) := by decide +kernel
theorem d9_paste_51 : decode c9_paste 51 = .ok (.bipush (-6), 2) := by decide +kernel
theorem d9_paste_53 : decode c9_paste 53 = .ok (.ireturn, 1) := by decide +kernel
theorem d9_paste_54 : decode c9_paste 54 = .ok (.aload 6, 2) := by decide +kernel
theorem d9_paste_56 : decode c9_paste 56 = .ok (.getfield 376, 3) := by decide +kernel
theorem d9_paste_59 : decode c9_paste 59 = .ok (.aload 7, 2) := by decide +kernel
theorem d9_paste_61 : decode c9_paste 61 = .ok (.getfield 376, 3) := by decide +kernel
theorem d9_paste_64 : decode c9_paste 64 = .ok (.if_icmp .eq 6, 3) := by decide +kernel
theorem d9_paste_67 : decode c9_paste 67 = .ok (.bipush (-8), 2) := by decide +kernel
theorem d9_paste_69 : decode c9_paste 69 = .ok (.ireturn, 1) := by decide +kernel
theorem d9_paste_70 : decode c9_paste 70 = .ok (.aload 6, 2) := by decide +kernel
theorem d9_paste_72 : decode c9_paste 72 = .ok (.iload_n 2, 1) := by decide +kernel
theorem d9_paste_73 : decode c9_paste 73 = .ok (.iload 5, 2) := by decide +kernel
theorem d9_paste_75 : decode c9_paste 75 = .ok (.invokevirtual 379, 3) := by decide +kernel
theorem d9_paste_78 : decode c9_paste 78 = .ok (.ifCond .eq 15, 3) := by decide +kernel
theorem d9_paste_81 : decode c9_paste 81 = .ok (.aload 7, 2) := by decide +kernel
theorem d9_paste_83 : decode c9_paste 83 = .ok (.iload 4, 2) := by decide +kernel
theorem d9_paste_85 : decode c9_paste 85 = .ok (.iload 5, 2) := by decide +kernel
theorem d9_paste_87 : decode c9_paste 87 = .ok (.invokevirtual 379, 3) := by decide +kernel
theorem d9_paste_90 : decode c9_paste 90 = .ok (.ifCond .ne 6, 3) := by decide +kernel
theorem d9_paste_93 : decode c9_paste 93 = .ok (.bipush (-7), 2) := by decide +kernel
theorem d9_paste_95 : decode c9_paste 95 = .ok (.ireturn, 1) := by decide +kernel
theorem d9_paste_96 : decode c9_paste 96 = .ok (.aload 6, 2) := by decide +kernel
theorem d9_paste_98 : decode c9_paste 98 = .ok (.getfield 368, 3) := by decide +kernel
theorem d9_paste_101 : decode c9_paste 101 = .ok (.iload_n 2, 1) := by decide +kernel
theorem d9_paste_102 : decode c9_paste 102 = .ok (.aload 7, 2) := by decide +kernel
theorem d9_paste_104 : decode c9_paste 104 = .ok (.getfield 368, 3) := by decide +kernel
theorem d9_paste_107 : decode c9_paste 107 = .ok (.iload 4, 2) := by decide +kernel
theorem d9_paste_109 : decode c9_paste 109 = .ok (.iload 5, 2) := by decide +kernel
theorem d9_paste_111 : decode c9_paste 111 = .ok (.invokestatic 382, 3) := by decide +kernel
theorem d9_paste_114 : decode c9_paste 114 = .ok (.iconst 0, 1) := by decide +kernel
theorem d9_paste_115 : decode c9_paste 115 = .ok (.ireturn, 1) := by decide +kernel
def f9_paste (D : Mem) (p0 : Int) (p1 : Int) (p2 : Int) (p3 : Int) (p4 : Int) : Option (Int × Mem) :=
  Option.bind (f9_isSlot D p0) fun (a1 : Int) =>
  if w32 a1 = 0 then
    some ((-2), D)
  else
    Option.bind (f9_isSlot D p2) fun (a2 : Int) =>
    if w32 a2 = 0 then
      some ((-2), D)
    else
      if 0 ≤ p0 ∧ p0 < 4 then
        if 0 ≤ p2 ∧ p2 < 4 then
          if w32 (D (109 + 2 * p0.toNat) 0) = 0 then
            some ((-6), D)
          else
            if w32 (D (109 + 2 * p2.toNat) 0) = 0 then
              some ((-6), D)
            else
              if w32 (D (109 + 2 * p0.toNat) 1) = w32 (D (109 + 2 * p2.toNat) 1) then
                Option.bind (f5_reaches D (109 + 2 * p0.toNat) p1 p4) fun (a3 : Int) =>
                if w32 a3 = 0 then
                  some ((-7), D)
                else
                  Option.bind (f5_reaches D (109 + 2 * p2.toNat) p3 p4) fun (a4 : Int) =>
                  if w32 a4 = 0 then
                    some ((-7), D)
                  else
                    if (0 : Int) ≤ p1 ∧ (0 : Int) ≤ p3 ∧ (0 : Int) ≤ p4 ∧ p1 + p4 ≤ (60 : Int) ∧ p3 + p4 ≤ (60 : Int) then
                      some (0, (mcpy D ((109 + 2 * p0.toNat) + 1) p1.toNat ((109 + 2 * p2.toNat) + 1) p3.toNat p4.toNat))
                    else none
              else
                some ((-8), D)
        else none
      else none
set_option maxHeartbeats 4000000 in
theorem ok9_paste {l : Launch} {X : XT} {n : Nat} {D : Mem} {Q : Option Value → Nat → Rho → Mem → Prop} (hn : 117 ≤ n) {p0 : Int} {p1 : Int} {p2 : Int} {p3 : Int} {p4 : Int}  (h : wpo (f9_paste D p0 p1 p2 p3 p4) (fun a => Q (some (vI a.1)) n rt a.2)) : MOK l y9_paste c9_paste 8 (some .int) { frames := 1, cells := 0, slots := 0, locals := 26 } 0 0 X [vR X 0, vI p0, vI p1, vI p2, vI p3, vI p4] n rt D Q := by
  refine MOK_of 9 (by decide +kernel) rfl (lv := [(0, vR X 0), (1, vI p0), (2, vI p1), (3, vI p2), (4, vI p3), (5, vI p4)]) (Nat.le_of_ble_eq_true rfl) rfl (fun K hK F hnm => ?_)
  subst hK
  unfold f9_paste at h
  refine r_aload_nR F 0 rfl rfl d9_paste_0 ?_
  refine r_iload_n F 1 rfl rfl d9_paste_1 ?_
  replace h := wpo_bind h
  refine r_callV0 F lm9_358 mf9_isSlot (vc0 hn) rfl (fr := 0) (lo := 0) (As := [vI p0]) (rest := []) ⟨Nat.le_of_ble_eq_true rfl, Nat.le_of_ble_eq_true rfl⟩ rfl (Nat.le_of_ble_eq_true rfl) ⟨Nat.zero_le _, Nat.zero_le _⟩ d9_paste_2 ?_
  refine ok9_isSlot hn  (kI h (fun a1 h => ?_))
  refine r_if_eq F (tgt := 16) d9_paste_5 (by decide) (fun hb => ?_) (fun hb => ?_)
  · replace h := wpo_pos h hb
    refine r_bipush F (z := (-2)) (by decide) d9_paste_16 ?_
    replace h := wpo_some h
    exact r_iret F h d9_paste_18
  · replace h := wpo_neg h hb
    refine r_aload_nR F 0 rfl rfl d9_paste_8 ?_
    refine r_iload_n F 3 rfl rfl d9_paste_9 ?_
    replace h := wpo_bind h
    refine r_callV0 F lm9_358 mf9_isSlot (vc0 hn) rfl (fr := 0) (lo := 0) (As := [vI p2]) (rest := []) ⟨Nat.le_of_ble_eq_true rfl, Nat.le_of_ble_eq_true rfl⟩ rfl (Nat.le_of_ble_eq_true rfl) ⟨Nat.zero_le _, Nat.zero_le _⟩ d9_paste_10 ?_
    refine ok9_isSlot hn  (kI h (fun a2 h => ?_))
    refine r_if_ne F (tgt := 19) d9_paste_13 (by decide) (fun hb => ?_) (fun hb => ?_)
    · replace h := wpo_neg h hb
      refine r_aload_nR F 0 rfl rfl d9_paste_19 ?_
      refine r_getR F (z := 22) lf9_42 (vc0 hn) z0_5 d9_paste_20 ?_
      refine r_iload_n F 1 rfl rfl d9_paste_23 ?_
      obtain ⟨hx1, h⟩ := wpo_chk h
      refine r_aaldS F (z := (109 + 2 * p0.toNat)) (vc22 hn) hx1 (zs hx1) d9_paste_24 ?_
      refine r_astoreR F (lv' := [(6, vR X (109 + 2 * p0.toNat)), (0, vR X 0), (1, vI p0), (2, vI p1), (3, vI p2), (4, vI p3), (5, vI p4)]) (Nat.le_of_ble_eq_true rfl) rfl d9_paste_25 ?_
      refine r_aload_nR F 1 rfl rfl d9_paste_27 ?_
      refine r_getR F (z := 22) lf9_42 (vc0 hn) z0_5 d9_paste_28 ?_
      refine r_iload_n F 4 rfl rfl d9_paste_31 ?_
      obtain ⟨hx2, h⟩ := wpo_chk h
      refine r_aaldS F (z := (109 + 2 * p2.toNat)) (vc22 hn) hx2 (zs hx2) d9_paste_32 ?_
      refine r_astoreR F (lv' := [(7, vR X (109 + 2 * p2.toNat)), (6, vR X (109 + 2 * p0.toNat)), (0, vR X 0), (1, vI p0), (2, vI p1), (3, vI p2), (4, vI p3), (5, vI p4)]) (Nat.le_of_ble_eq_true rfl) rfl d9_paste_33 ?_
      refine r_aloadR F 1 rfl d9_paste_35 ?_
      refine r_getI F lf9_363 (vs hn hx1) d9_paste_37 ?_
      refine r_if_eq F (tgt := 51) d9_paste_40 (by decide) (fun hb => ?_) (fun hb => ?_)
      · replace h := wpo_pos h hb
        refine r_bipush F (z := (-6)) (by decide) d9_paste_51 ?_
        replace h := wpo_some h
        exact r_iret F h d9_paste_53
      · replace h := wpo_neg h hb
        refine r_aloadR F 0 rfl d9_paste_43 ?_
        refine r_getI F lf9_363 (vs hn hx2) d9_paste_45 ?_
        refine r_if_ne F (tgt := 54) d9_paste_48 (by decide) (fun hb => ?_) (fun hb => ?_)
        · replace h := wpo_neg h hb
          refine r_aloadR F 1 rfl d9_paste_54 ?_
          refine r_getI F lf9_376 (vs hn hx1) d9_paste_56 ?_
          refine r_aloadR F 0 rfl d9_paste_59 ?_
          refine r_getI F lf9_376 (vs hn hx2) d9_paste_61 ?_
          refine r_icmp_eq F (tgt := 70) d9_paste_64 (by decide) (fun hb => ?_) (fun hb => ?_)
          · replace h := wpo_pos h hb
            refine r_aloadR F 1 rfl d9_paste_70 ?_
            refine r_iload_n F 4 rfl rfl d9_paste_72 ?_
            refine r_iload F 7 rfl d9_paste_73 ?_
            replace h := wpo_bind h
            refine r_callV0 F lm9_379 mf5_reaches (vs hn hx1) rfl (fr := 0) (lo := 0) (As := [vI p1, vI p4]) (rest := []) ⟨Nat.le_of_ble_eq_true rfl, Nat.le_of_ble_eq_true rfl⟩ rfl (Nat.le_of_ble_eq_true rfl) ⟨Nat.zero_le _, Nat.zero_le _⟩ d9_paste_75 ?_
            refine ok5_reaches hn (vs hn hx1) (kI h (fun a3 h => ?_))
            refine r_if_eq F (tgt := 93) d9_paste_78 (by decide) (fun hb => ?_) (fun hb => ?_)
            · replace h := wpo_pos h hb
              refine r_bipush F (z := (-7)) (by decide) d9_paste_93 ?_
              replace h := wpo_some h
              exact r_iret F h d9_paste_95
            · replace h := wpo_neg h hb
              refine r_aloadR F 0 rfl d9_paste_81 ?_
              refine r_iload F 6 rfl d9_paste_83 ?_
              refine r_iload F 7 rfl d9_paste_85 ?_
              replace h := wpo_bind h
              refine r_callV0 F lm9_379 mf5_reaches (vs hn hx2) rfl (fr := 0) (lo := 0) (As := [vI p3, vI p4]) (rest := []) ⟨Nat.le_of_ble_eq_true rfl, Nat.le_of_ble_eq_true rfl⟩ rfl (Nat.le_of_ble_eq_true rfl) ⟨Nat.zero_le _, Nat.zero_le _⟩ d9_paste_87 ?_
              refine ok5_reaches hn (vs hn hx2) (kI h (fun a4 h => ?_))
              refine r_if_ne F (tgt := 96) d9_paste_90 (by decide) (fun hb => ?_) (fun hb => ?_)
              · replace h := wpo_neg h hb
                refine r_aloadR F 1 rfl d9_paste_96 ?_
                refine r_getR F (z := ((109 + 2 * p0.toNat) + 1)) lf9_368 (vs hn hx1) (z5_3 (vs hn hx1)) d9_paste_98 ?_
                refine r_iload_n F 4 rfl rfl d9_paste_101 ?_
                refine r_aloadR F 0 rfl d9_paste_102 ?_
                refine r_getR F (z := ((109 + 2 * p2.toNat) + 1)) lf9_368 (vs hn hx2) (z5_3 (vs hn hx2)) d9_paste_104 ?_
                refine r_iload F 6 rfl d9_paste_107 ?_
                refine r_iload F 7 rfl d9_paste_109 ?_
                obtain ⟨hx3, h⟩ := wpo_chk h
                refine r_copyL F lm9_382 wn1 wn2 wn3 ⟨Nat.le_of_ble_eq_true rfl, Nat.le_of_ble_eq_true rfl⟩ (y5_3 hn (vs hn hx1)) (y5_3 hn (vs hn hx2)) hx3 d9_paste_111 ?_
                refine r_iconst F (z := 0) d9_paste_114 ?_
                replace h := wpo_some h
                exact r_iret F h d9_paste_115
              · replace h := wpo_pos h hb
                refine r_bipush F (z := (-7)) (by decide) d9_paste_93 ?_
                replace h := wpo_some h
                exact r_iret F h d9_paste_95
          · replace h := wpo_neg h hb
            refine r_bipush F (z := (-8)) (by decide) d9_paste_67 ?_
            replace h := wpo_some h
            exact r_iret F h d9_paste_69
        · replace h := wpo_pos h hb
          refine r_bipush F (z := (-6)) (by decide) d9_paste_51 ?_
          replace h := wpo_some h
          exact r_iret F h d9_paste_53
    · replace h := wpo_pos h hb
      refine r_bipush F (z := (-2)) (by decide) d9_paste_16 ?_
      replace h := wpo_some h
      exact r_iret F h d9_paste_18
