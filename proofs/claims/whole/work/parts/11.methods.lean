/-! METHODS, printed by wip/whole/gen/mkall.py -/
theorem d9_isNight_0 : decode c9_isNight 0 = .ok (.iload_n 1, 1) := by decide +kernel
theorem d9_isNight_1 : decode c9_isNight 1 = .ok (.ifCond .lt 18, 3) := by decide +kernel
theorem d9_isNight_4 : decode c9_isNight 4 = .ok (.iload_n 1, 1) := by decide +kernel
theorem d9_isNight_5 : decode c9_isNight 5 = .ok (.aload_n 0, 1) := by decide +kernel
theorem d9_isNight_6 : decode c9_isNight 6 = .ok (.getfield 28, 3) := by decide +kernel
theorem d9_isNight_9 : decode c9_isNight 9 = .ok (.getfield 168, 3) := by decide +kernel
theorem d9_isNight_12 : decode c9_isNight 12 = .ok (.if_icmp .ge 7, 3) := by decide +kernel
theorem d9_isNight_15 : decode c9_isNight 15 = .ok (.iconst 1, 1) := by decide +kernel
theorem d9_isNight_16 : decode c9_isNight 16 = .ok (.goto 4, 3) := by decide +kernel
theorem d9_isNight_19 : decode c9_isNight 19 = .ok (.iconst 0, 1) := by decide +kernel
theorem d9_isNight_20 : decode c9_isNight 20 = .ok (.ireturn, 1) := by decide +kernel
def f9_isNight (D : Mem) (p0 : Int) : Option (Int) :=
  if w32 p0 < 0 then
    some 0
  else
    if w32 p0 < w32 (D 12 1) then
      some 1
    else
      some 0
set_option maxHeartbeats 4000000 in
theorem ok9_isNight {l : Launch} {X : XT} {n : Nat} {D : Mem} {Q : Option Value → Nat → Rho → Mem → Prop} (hn : 117 ≤ n) {p0 : Int}  (h : wpo (f9_isNight D p0) (fun a => Q (some (vI a)) n rt D)) : MOK l y9_isNight c9_isNight 2 (some .boolean) { frames := 0, cells := 0, slots := 0, locals := 0 } 0 0 X [vR X 0, vI p0] n rt D Q := by
  refine MOK_of 9 (by decide +kernel) rfl (lv := [(0, vR X 0), (1, vI p0)]) (Nat.le_of_ble_eq_true rfl) rfl (fun K hK F hnm => ?_)
  subst hK
  unfold f9_isNight at h
  refine r_iload_n F 1 rfl rfl d9_isNight_0 ?_
  refine r_if_lt F (tgt := 19) d9_isNight_1 (by decide) (fun hb => ?_) (fun hb => ?_)
  · replace h := wpo_pos h hb
    refine r_iconst F (z := 0) d9_isNight_19 ?_
    replace h := wpo_some h
    exact r_zret F (Or.inl rfl) h d9_isNight_20
  · replace h := wpo_neg h hb
    refine r_iload_n F 1 rfl rfl d9_isNight_4 ?_
    refine r_aload_nR F 0 rfl rfl d9_isNight_5 ?_
    refine r_getR F (z := 12) lf9_28 (vc0 hn) z0_2 d9_isNight_6 ?_
    refine r_getI F lf9_168 (vc12 hn) d9_isNight_9 ?_
    refine r_icmp_ge F (tgt := 19) d9_isNight_12 (by decide) (fun hb => ?_) (fun hb => ?_)
    · replace h := wpo_neg h hb
      refine r_iconst F (z := 0) d9_isNight_19 ?_
      replace h := wpo_some h
      exact r_zret F (Or.inl rfl) h d9_isNight_20
    · replace h := wpo_pos h hb
      refine r_iconst F (z := 1) d9_isNight_15 ?_
      refine r_goto F (tgt := 20) (by decide) d9_isNight_16 ?_
      replace h := wpo_some h
      exact r_zret F (Or.inr rfl) h d9_isNight_20
theorem d9_given_0 : decode c9_given 0 = .ok (.aload_n 0, 1) := by decide +kernel
theorem d9_given_1 : decode c9_given 1 = .ok (.iload_n 1, 1) := by decide +kernel
theorem d9_given_2 : decode c9_given 2 = .ok (.invokevirtual 143, 3) := by decide +kernel
theorem d9_given_5 : decode c9_given 5 = .ok (.ifCond .eq 15, 3) := by decide +kernel
theorem d9_given_8 : decode c9_given 8 = .ok (.aload_n 0, 1) := by decide +kernel
theorem d9_given_9 : decode c9_given 9 = .ok (.getfield 51, 3) := by decide +kernel
theorem d9_given_12 : decode c9_given 12 = .ok (.getfield 146, 3) := by decide +kernel
theorem d9_given_15 : decode c9_given 15 = .ok (.iload_n 1, 1) := by decide +kernel
theorem d9_given_16 : decode c9_given 16 = .ok (.iaload, 1) := by decide +kernel
theorem d9_given_17 : decode c9_given 17 = .ok (.goto 5, 3) := by decide +kernel
theorem d9_given_20 : decode c9_given 20 = .ok (.bipush (-2), 2) := by decide +kernel
theorem d9_given_22 : decode c9_given 22 = .ok (.ireturn, 1) := by decide +kernel
def f9_given (D : Mem) (p0 : Int) : Option (Int) :=
  Option.bind (f9_isNight D p0) fun (a1 : Int) =>
  if w32 a1 = 0 then
    some (-2)
  else
    if 0 ≤ p0 ∧ p0 < 12 then
      some (D 30 p0.toNat)
    else none
set_option maxHeartbeats 4000000 in
theorem ok9_given {l : Launch} {X : XT} {n : Nat} {D : Mem} {Q : Option Value → Nat → Rho → Mem → Prop} (hn : 117 ≤ n) {p0 : Int}  (h : wpo (f9_given D p0) (fun a => Q (some (vI a)) n rt D)) : MOK l y9_given c9_given 2 (some .int) { frames := 1, cells := 0, slots := 0, locals := 21 } 0 0 X [vR X 0, vI p0] n rt D Q := by
  refine MOK_of 9 (by decide +kernel) rfl (lv := [(0, vR X 0), (1, vI p0)]) (Nat.le_of_ble_eq_true rfl) rfl (fun K hK F hnm => ?_)
  subst hK
  unfold f9_given at h
  refine r_aload_nR F 0 rfl rfl d9_given_0 ?_
  refine r_iload_n F 1 rfl rfl d9_given_1 ?_
  replace h := wpo_bind h
  refine r_callV0 F lm9_143 mf9_isNight (vc0 hn) rfl (fr := 0) (lo := 0) (As := [vI p0]) (rest := []) ⟨Nat.le_of_ble_eq_true rfl, Nat.le_of_ble_eq_true rfl⟩ rfl (Nat.le_of_ble_eq_true rfl) ⟨Nat.zero_le _, Nat.zero_le _⟩ d9_given_2 ?_
  refine ok9_isNight hn  (kI h (fun a1 h => ?_))
  refine r_if_eq F (tgt := 20) d9_given_5 (by decide) (fun hb => ?_) (fun hb => ?_)
  · replace h := wpo_pos h hb
    refine r_bipush F (z := (-2)) (by decide) d9_given_20 ?_
    replace h := wpo_some h
    exact r_iret F h d9_given_22
  · replace h := wpo_neg h hb
    refine r_aload_nR F 0 rfl rfl d9_given_8 ?_
    refine r_getR F (z := 23) lf9_51 (vc0 hn) z0_6 d9_given_9 ?_
    refine r_getR F (z := 30) lf9_146 (vc23 hn) z23_11 d9_given_12 ?_
    refine r_iload_n F 1 rfl rfl d9_given_15 ?_
    obtain ⟨hx1, h⟩ := wpo_chk h
    refine r_iald F (vc30 hn) hx1 d9_given_16 ?_
    refine r_goto F (tgt := 22) (by decide) d9_given_17 ?_
    replace h := wpo_some h
    exact r_iret F h d9_given_22
theorem d9_waits_0 : decode c9_waits 0 = .ok (.aload_n 0, 1) := by decide +kernel
theorem d9_waits_1 : decode c9_waits 1 = .ok (.iload_n 1, 1) := by decide +kernel
theorem d9_waits_2 : decode c9_waits 2 = .ok (.invokevirtual 143, 3) := by decide +kernel
theorem d9_waits_5 : decode c9_waits 5 = .ok (.ifCond .eq 15, 3) := by decide +kernel
theorem d9_waits_8 : decode c9_waits 8 = .ok (.aload_n 0, 1) := by decide +kernel
theorem d9_waits_9 : decode c9_waits 9 = .ok (.getfield 51, 3) := by decide +kernel
theorem d9_waits_12 : decode c9_waits 12 = .ok (.getfield 149, 3) := by decide +kernel
theorem d9_waits_15 : decode c9_waits 15 = .ok (.iload_n 1, 1) := by decide +kernel
theorem d9_waits_16 : decode c9_waits 16 = .ok (.iaload, 1) := by decide +kernel
theorem d9_waits_17 : decode c9_waits 17 = .ok (.goto 5, 3) := by decide +kernel
theorem d9_waits_20 : decode c9_waits 20 = .ok (.bipush (-2), 2) := by decide +kernel
theorem d9_waits_22 : decode c9_waits 22 = .ok (.ireturn, 1) := by decide +kernel
def f9_waits (D : Mem) (p0 : Int) : Option (Int) :=
  Option.bind (f9_isNight D p0) fun (a1 : Int) =>
  if w32 a1 = 0 then
    some (-2)
  else
    if 0 ≤ p0 ∧ p0 < 12 then
      some (D 31 p0.toNat)
    else none
set_option maxHeartbeats 4000000 in
theorem ok9_waits {l : Launch} {X : XT} {n : Nat} {D : Mem} {Q : Option Value → Nat → Rho → Mem → Prop} (hn : 117 ≤ n) {p0 : Int}  (h : wpo (f9_waits D p0) (fun a => Q (some (vI a)) n rt D)) : MOK l y9_waits c9_waits 2 (some .int) { frames := 1, cells := 0, slots := 0, locals := 21 } 0 0 X [vR X 0, vI p0] n rt D Q := by
  refine MOK_of 9 (by decide +kernel) rfl (lv := [(0, vR X 0), (1, vI p0)]) (Nat.le_of_ble_eq_true rfl) rfl (fun K hK F hnm => ?_)
  subst hK
  unfold f9_waits at h
  refine r_aload_nR F 0 rfl rfl d9_waits_0 ?_
  refine r_iload_n F 1 rfl rfl d9_waits_1 ?_
  replace h := wpo_bind h
  refine r_callV0 F lm9_143 mf9_isNight (vc0 hn) rfl (fr := 0) (lo := 0) (As := [vI p0]) (rest := []) ⟨Nat.le_of_ble_eq_true rfl, Nat.le_of_ble_eq_true rfl⟩ rfl (Nat.le_of_ble_eq_true rfl) ⟨Nat.zero_le _, Nat.zero_le _⟩ d9_waits_2 ?_
  refine ok9_isNight hn  (kI h (fun a1 h => ?_))
  refine r_if_eq F (tgt := 20) d9_waits_5 (by decide) (fun hb => ?_) (fun hb => ?_)
  · replace h := wpo_pos h hb
    refine r_bipush F (z := (-2)) (by decide) d9_waits_20 ?_
    replace h := wpo_some h
    exact r_iret F h d9_waits_22
  · replace h := wpo_neg h hb
    refine r_aload_nR F 0 rfl rfl d9_waits_8 ?_
    refine r_getR F (z := 23) lf9_51 (vc0 hn) z0_6 d9_waits_9 ?_
    refine r_getR F (z := 31) lf9_149 (vc23 hn) z23_12 d9_waits_12 ?_
    refine r_iload_n F 1 rfl rfl d9_waits_15 ?_
    obtain ⟨hx1, h⟩ := wpo_chk h
    refine r_iald F (vc31 hn) hx1 d9_waits_16 ?_
    refine r_goto F (tgt := 22) (by decide) d9_waits_17 ?_
    replace h := wpo_some h
    exact r_iret F h d9_waits_22
theorem d9_left_0 : decode c9_left 0 = .ok (.aload_n 0, 1) := by decide +kernel
theorem d9_left_1 : decode c9_left 1 = .ok (.iload_n 1, 1) := by decide +kernel
theorem d9_left_2 : decode c9_left 2 = .ok (.invokevirtual 143, 3) := by decide +kernel
theorem d9_left_5 : decode c9_left 5 = .ok (.ifCond .eq 15, 3) := by decide +kernel
theorem d9_left_8 : decode c9_left 8 = .ok (.aload_n 0, 1) := by decide +kernel
theorem d9_left_9 : decode c9_left 9 = .ok (.getfield 51, 3) := by decide +kernel
theorem d9_left_12 : decode c9_left 12 = .ok (.getfield 152, 3) := by decide +kernel
theorem d9_left_15 : decode c9_left 15 = .ok (.iload_n 1, 1) := by decide +kernel
theorem d9_left_16 : decode c9_left 16 = .ok (.iaload, 1) := by decide +kernel
theorem d9_left_17 : decode c9_left 17 = .ok (.goto 5, 3) := by decide +kernel
theorem d9_left_20 : decode c9_left 20 = .ok (.bipush (-2), 2) := by decide +kernel
theorem d9_left_22 : decode c9_left 22 = .ok (.ireturn, 1) := by decide +kernel
def f9_left (D : Mem) (p0 : Int) : Option (Int) :=
  Option.bind (f9_isNight D p0) fun (a1 : Int) =>
  if w32 a1 = 0 then
    some (-2)
  else
    if 0 ≤ p0 ∧ p0 < 12 then
      some (D 32 p0.toNat)
    else none
set_option maxHeartbeats 4000000 in
theorem ok9_left {l : Launch} {X : XT} {n : Nat} {D : Mem} {Q : Option Value → Nat → Rho → Mem → Prop} (hn : 117 ≤ n) {p0 : Int}  (h : wpo (f9_left D p0) (fun a => Q (some (vI a)) n rt D)) : MOK l y9_left c9_left 2 (some .int) { frames := 1, cells := 0, slots := 0, locals := 21 } 0 0 X [vR X 0, vI p0] n rt D Q := by
  refine MOK_of 9 (by decide +kernel) rfl (lv := [(0, vR X 0), (1, vI p0)]) (Nat.le_of_ble_eq_true rfl) rfl (fun K hK F hnm => ?_)
  subst hK
  unfold f9_left at h
  refine r_aload_nR F 0 rfl rfl d9_left_0 ?_
  refine r_iload_n F 1 rfl rfl d9_left_1 ?_
  replace h := wpo_bind h
  refine r_callV0 F lm9_143 mf9_isNight (vc0 hn) rfl (fr := 0) (lo := 0) (As := [vI p0]) (rest := []) ⟨Nat.le_of_ble_eq_true rfl, Nat.le_of_ble_eq_true rfl⟩ rfl (Nat.le_of_ble_eq_true rfl) ⟨Nat.zero_le _, Nat.zero_le _⟩ d9_left_2 ?_
  refine ok9_isNight hn  (kI h (fun a1 h => ?_))
  refine r_if_eq F (tgt := 20) d9_left_5 (by decide) (fun hb => ?_) (fun hb => ?_)
  · replace h := wpo_pos h hb
    refine r_bipush F (z := (-2)) (by decide) d9_left_20 ?_
    replace h := wpo_some h
    exact r_iret F h d9_left_22
  · replace h := wpo_neg h hb
    refine r_aload_nR F 0 rfl rfl d9_left_8 ?_
    refine r_getR F (z := 23) lf9_51 (vc0 hn) z0_6 d9_left_9 ?_
    refine r_getR F (z := 32) lf9_152 (vc23 hn) z23_13 d9_left_12 ?_
    refine r_iload_n F 1 rfl rfl d9_left_15 ?_
    obtain ⟨hx1, h⟩ := wpo_chk h
    refine r_iald F (vc32 hn) hx1 d9_left_16 ?_
    refine r_goto F (tgt := 22) (by decide) d9_left_17 ?_
    replace h := wpo_some h
    exact r_iret F h d9_left_22
theorem d9_bears_0 : decode c9_bears 0 = .ok (.aload_n 0, 1) := by decide +kernel
theorem d9_bears_1 : decode c9_bears 1 = .ok (.iload_n 1, 1) := by decide +kernel
theorem d9_bears_2 : decode c9_bears 2 = .ok (.invokevirtual 124, 3) := by decide +kernel
theorem d9_bears_5 : decode c9_bears 5 = .ok (.ifCond .eq 15, 3) := by decide +kernel
theorem d9_bears_8 : decode c9_bears 8 = .ok (.aload_n 0, 1) := by decide +kernel
theorem d9_bears_9 : decode c9_bears 9 = .ok (.getfield 51, 3) := by decide +kernel
theorem d9_bears_12 : decode c9_bears 12 = .ok (.getfield 155, 3) := by decide +kernel
theorem d9_bears_15 : decode c9_bears 15 = .ok (.iload_n 1, 1) := by decide +kernel
theorem d9_bears_16 : decode c9_bears 16 = .ok (.iaload, 1) := by decide +kernel
theorem d9_bears_17 : decode c9_bears 17 = .ok (.goto 5, 3) := by decide +kernel
theorem d9_bears_20 : decode c9_bears 20 = .ok (.bipush (-2), 2) := by decide +kernel
theorem d9_bears_22 : decode c9_bears 22 = .ok (.ireturn, 1) := by decide +kernel
def f9_bears (D : Mem) (p0 : Int) : Option (Int) :=
  Option.bind (f9_isPerson D p0) fun (a1 : Int) =>
  if w32 a1 = 0 then
    some (-2)
  else
    if 0 ≤ p0 ∧ p0 < 8 then
      some (D 29 p0.toNat)
    else none
set_option maxHeartbeats 4000000 in
theorem ok9_bears {l : Launch} {X : XT} {n : Nat} {D : Mem} {Q : Option Value → Nat → Rho → Mem → Prop} (hn : 117 ≤ n) {p0 : Int}  (h : wpo (f9_bears D p0) (fun a => Q (some (vI a)) n rt D)) : MOK l y9_bears c9_bears 2 (some .int) { frames := 1, cells := 0, slots := 0, locals := 21 } 0 0 X [vR X 0, vI p0] n rt D Q := by
  refine MOK_of 9 (by decide +kernel) rfl (lv := [(0, vR X 0), (1, vI p0)]) (Nat.le_of_ble_eq_true rfl) rfl (fun K hK F hnm => ?_)
  subst hK
  unfold f9_bears at h
  refine r_aload_nR F 0 rfl rfl d9_bears_0 ?_
  refine r_iload_n F 1 rfl rfl d9_bears_1 ?_
  replace h := wpo_bind h
  refine r_callV0 F lm9_124 mf9_isPerson (vc0 hn) rfl (fr := 0) (lo := 0) (As := [vI p0]) (rest := []) ⟨Nat.le_of_ble_eq_true rfl, Nat.le_of_ble_eq_true rfl⟩ rfl (Nat.le_of_ble_eq_true rfl) ⟨Nat.zero_le _, Nat.zero_le _⟩ d9_bears_2 ?_
  refine ok9_isPerson hn  (kI h (fun a1 h => ?_))
  refine r_if_eq F (tgt := 20) d9_bears_5 (by decide) (fun hb => ?_) (fun hb => ?_)
  · replace h := wpo_pos h hb
    refine r_bipush F (z := (-2)) (by decide) d9_bears_20 ?_
    replace h := wpo_some h
    exact r_iret F h d9_bears_22
  · replace h := wpo_neg h hb
    refine r_aload_nR F 0 rfl rfl d9_bears_8 ?_
    refine r_getR F (z := 23) lf9_51 (vc0 hn) z0_6 d9_bears_9 ?_
    refine r_getR F (z := 29) lf9_155 (vc23 hn) z23_10 d9_bears_12 ?_
    refine r_iload_n F 1 rfl rfl d9_bears_15 ?_
    obtain ⟨hx1, h⟩ := wpo_chk h
    refine r_iald F (vc29 hn) hx1 d9_bears_16 ?_
    refine r_goto F (tgt := 22) (by decide) d9_bears_17 ?_
    replace h := wpo_some h
    exact r_iret F h d9_bears_22
theorem d9_groans_0 : decode c9_groans 0 = .ok (.aload_n 0, 1) := by decide +kernel
theorem d9_groans_1 : decode c9_groans 1 = .ok (.iload_n 1, 1) := by decide +kernel
theorem d9_groans_2 : decode c9_groans 2 = .ok (.invokevirtual 143, 3) := by decide +kernel
theorem d9_groans_5 : decode c9_groans 5 = .ok (.ifCond .eq 15, 3) := by decide +kernel
theorem d9_groans_8 : decode c9_groans 8 = .ok (.aload_n 0, 1) := by decide +kernel
theorem d9_groans_9 : decode c9_groans 9 = .ok (.getfield 51, 3) := by decide +kernel
theorem d9_groans_12 : decode c9_groans 12 = .ok (.getfield 156, 3) := by decide +kernel
theorem d9_groans_15 : decode c9_groans 15 = .ok (.iload_n 1, 1) := by decide +kernel
theorem d9_groans_16 : decode c9_groans 16 = .ok (.iaload, 1) := by decide +kernel
theorem d9_groans_17 : decode c9_groans 17 = .ok (.goto 5, 3) := by decide +kernel
theorem d9_groans_20 : decode c9_groans 20 = .ok (.bipush (-2), 2) := by decide +kernel
theorem d9_groans_22 : decode c9_groans 22 = .ok (.ireturn, 1) := by decide +kernel
def f9_groans (D : Mem) (p0 : Int) : Option (Int) :=
  Option.bind (f9_isNight D p0) fun (a1 : Int) =>
  if w32 a1 = 0 then
    some (-2)
  else
    if 0 ≤ p0 ∧ p0 < 12 then
      some (D 33 p0.toNat)
    else none
set_option maxHeartbeats 4000000 in
theorem ok9_groans {l : Launch} {X : XT} {n : Nat} {D : Mem} {Q : Option Value → Nat → Rho → Mem → Prop} (hn : 117 ≤ n) {p0 : Int}  (h : wpo (f9_groans D p0) (fun a => Q (some (vI a)) n rt D)) : MOK l y9_groans c9_groans 2 (some .int) { frames := 1, cells := 0, slots := 0, locals := 21 } 0 0 X [vR X 0, vI p0] n rt D Q := by
  refine MOK_of 9 (by decide +kernel) rfl (lv := [(0, vR X 0), (1, vI p0)]) (Nat.le_of_ble_eq_true rfl) rfl (fun K hK F hnm => ?_)
  subst hK
  unfold f9_groans at h
  refine r_aload_nR F 0 rfl rfl d9_groans_0 ?_
  refine r_iload_n F 1 rfl rfl d9_groans_1 ?_
  replace h := wpo_bind h
  refine r_callV0 F lm9_143 mf9_isNight (vc0 hn) rfl (fr := 0) (lo := 0) (As := [vI p0]) (rest := []) ⟨Nat.le_of_ble_eq_true rfl, Nat.le_of_ble_eq_true rfl⟩ rfl (Nat.le_of_ble_eq_true rfl) ⟨Nat.zero_le _, Nat.zero_le _⟩ d9_groans_2 ?_
  refine ok9_isNight hn  (kI h (fun a1 h => ?_))
  refine r_if_eq F (tgt := 20) d9_groans_5 (by decide) (fun hb => ?_) (fun hb => ?_)
  · replace h := wpo_pos h hb
    refine r_bipush F (z := (-2)) (by decide) d9_groans_20 ?_
    replace h := wpo_some h
    exact r_iret F h d9_groans_22
  · replace h := wpo_neg h hb
    refine r_aload_nR F 0 rfl rfl d9_groans_8 ?_
    refine r_getR F (z := 23) lf9_51 (vc0 hn) z0_6 d9_groans_9 ?_
    refine r_getR F (z := 33) lf9_156 (vc23 hn) z23_14 d9_groans_12 ?_
    refine r_iload_n F 1 rfl rfl d9_groans_15 ?_
    obtain ⟨hx1, h⟩ := wpo_chk h
    refine r_iald F (vc33 hn) hx1 d9_groans_16 ?_
    refine r_goto F (tgt := 22) (by decide) d9_groans_17 ?_
    replace h := wpo_some h
    exact r_iret F h d9_groans_22
theorem d9_isThere_0 : decode c9_isThere 0 = .ok (.aload_n 0, 1) := by decide +kernel
theorem d9_isThere_1 : decode c9_isThere 1 = .ok (.getfield 28, 3) := by decide +kernel
theorem d9_isThere_4 : decode c9_isThere 4 = .ok (.getfield 115, 3) := by decide +kernel
theorem d9_isThere_7 : decode c9_isThere 7 = .ok (.ifCond .le 7, 3) := by decide +kernel
theorem d9_isThere_10 : decode c9_isThere 10 = .ok (.iconst 1, 1) := by decide +kernel
theorem d9_isThere_11 : decode c9_isThere 11 = .ok (.goto 4, 3) := by decide +kernel
theorem d9_isThere_14 : decode c9_isThere 14 = .ok (.iconst 0, 1) := by decide +kernel
theorem d9_isThere_15 : decode c9_isThere 15 = .ok (.ireturn, 1) := by decide +kernel
def f9_isThere (D : Mem) : Option (Int) :=
  if 0 < w32 (D 12 0) then
    some 1
  else
    some 0
set_option maxHeartbeats 4000000 in
theorem ok9_isThere {l : Launch} {X : XT} {n : Nat} {D : Mem} {Q : Option Value → Nat → Rho → Mem → Prop} (hn : 117 ≤ n)  (h : wpo (f9_isThere D) (fun a => Q (some (vI a)) n rt D)) : MOK l y9_isThere c9_isThere 1 (some .boolean) { frames := 0, cells := 0, slots := 0, locals := 0 } 0 0 X [vR X 0] n rt D Q := by
  refine MOK_of 9 (by decide +kernel) rfl (lv := [(0, vR X 0)]) (Nat.le_of_ble_eq_true rfl) rfl (fun K hK F hnm => ?_)
  subst hK
  unfold f9_isThere at h
  refine r_aload_nR F 0 rfl rfl d9_isThere_0 ?_
  refine r_getR F (z := 12) lf9_28 (vc0 hn) z0_2 d9_isThere_1 ?_
  refine r_getI F lf9_115 (vc12 hn) d9_isThere_4 ?_
  refine r_if_le F (tgt := 14) d9_isThere_7 (by decide) (fun hb => ?_) (fun hb => ?_)
  · replace h := wpo_neg h hb
    refine r_iconst F (z := 0) d9_isThere_14 ?_
    replace h := wpo_some h
    exact r_zret F (Or.inl rfl) h d9_isThere_15
  · replace h := wpo_pos h hb
    refine r_iconst F (z := 1) d9_isThere_10 ?_
    refine r_goto F (tgt := 15) (by decide) d9_isThere_11 ?_
    replace h := wpo_some h
    exact r_zret F (Or.inr rfl) h d9_isThere_15
theorem d9_all_0 : decode c9_all 0 = .ok (.aload_n 0, 1) := by decide +kernel
theorem d9_all_1 : decode c9_all 1 = .ok (.invokevirtual 159, 3) := by decide +kernel
theorem d9_all_4 : decode c9_all 4 = .ok (.ifCond .eq 13, 3) := by decide +kernel
theorem d9_all_7 : decode c9_all 7 = .ok (.aload_n 0, 1) := by decide +kernel
theorem d9_all_8 : decode c9_all 8 = .ok (.getfield 51, 3) := by decide +kernel
theorem d9_all_11 : decode c9_all 11 = .ok (.getfield 162, 3) := by decide +kernel
theorem d9_all_14 : decode c9_all 14 = .ok (.goto 5, 3) := by decide +kernel
theorem d9_all_17 : decode c9_all 17 = .ok (.bipush (-2), 2) := by decide +kernel
theorem d9_all_19 : decode c9_all 19 = .ok (.ireturn, 1) := by decide +kernel
def f9_all (D : Mem) : Option (Int) :=
  Option.bind (f9_isThere D) fun (a1 : Int) =>
  if w32 a1 = 0 then
    some (-2)
  else
    some (D 23 4)
set_option maxHeartbeats 4000000 in
theorem ok9_all {l : Launch} {X : XT} {n : Nat} {D : Mem} {Q : Option Value → Nat → Rho → Mem → Prop} (hn : 117 ≤ n)  (h : wpo (f9_all D) (fun a => Q (some (vI a)) n rt D)) : MOK l y9_all c9_all 1 (some .int) { frames := 1, cells := 0, slots := 0, locals := 20 } 0 0 X [vR X 0] n rt D Q := by
  refine MOK_of 9 (by decide +kernel) rfl (lv := [(0, vR X 0)]) (Nat.le_of_ble_eq_true rfl) rfl (fun K hK F hnm => ?_)
  subst hK
  unfold f9_all at h
  refine r_aload_nR F 0 rfl rfl d9_all_0 ?_
  replace h := wpo_bind h
  refine r_callV0 F lm9_159 mf9_isThere (vc0 hn) rfl (fr := 0) (lo := 0) (As := []) (rest := []) ⟨Nat.le_of_ble_eq_true rfl, Nat.le_of_ble_eq_true rfl⟩ rfl (Nat.le_of_ble_eq_true rfl) ⟨Nat.zero_le _, Nat.zero_le _⟩ d9_all_1 ?_
  refine ok9_isThere hn  (kI h (fun a1 h => ?_))
  refine r_if_eq F (tgt := 17) d9_all_4 (by decide) (fun hb => ?_) (fun hb => ?_)
  · replace h := wpo_pos h hb
    refine r_bipush F (z := (-2)) (by decide) d9_all_17 ?_
    replace h := wpo_some h
    exact r_iret F h d9_all_19
  · replace h := wpo_neg h hb
    refine r_aload_nR F 0 rfl rfl d9_all_7 ?_
    refine r_getR F (z := 23) lf9_51 (vc0 hn) z0_6 d9_all_8 ?_
    refine r_getI F lf9_162 (vc23 hn) d9_all_11 ?_
    refine r_goto F (tgt := 19) (by decide) d9_all_14 ?_
    replace h := wpo_some h
    exact r_iret F h d9_all_19
theorem d9_worst_0 : decode c9_worst 0 = .ok (.aload_n 0, 1) := by decide +kernel
theorem d9_worst_1 : decode c9_worst 1 = .ok (.invokevirtual 159, 3) := by decide +kernel
theorem d9_worst_4 : decode c9_worst 4 = .ok (.ifCond .ne 6, 3) := by decide +kernel
theorem d9_worst_7 : decode c9_worst 7 = .ok (.bipush (-2), 2) := by decide +kernel
theorem d9_worst_9 : decode c9_worst 9 = .ok (.ireturn, 1) := by decide +kernel
theorem d9_worst_10 : decode c9_worst 10 = .ok (.iconst (-1), 1) := by decide +kernel
theorem d9_worst_11 : decode c9_worst 11 = .ok (.istore_n 1, 1) := by decide +kernel
theorem d9_worst_12 : decode c9_worst 12 = .ok (.iconst 0, 1) := by decide +kernel
theorem d9_worst_13 : decode c9_worst 13 = .ok (.istore_n 2, 1) := by decide +kernel
theorem d9_worst_14 : decode c9_worst 14 = .ok (.iconst 0, 1) := by decide +kernel
theorem d9_worst_15 : decode c9_worst 15 = .ok (.istore_n 3, 1) := by decide +kernel
theorem d9_worst_16 : decode c9_worst 16 = .ok (.iload_n 3, 1) := by decide +kernel
theorem d9_worst_17 : decode c9_worst 17 = .ok (.aload_n 0, 1) := by decide +kernel
theorem d9_worst_18 : decode c9_worst 18 = .ok (.getfield 28, 3) := by decide +kernel
theorem d9_worst_21 : decode c9_worst 21 = .ok (.getfield 165, 3) := by decide +kernel
theorem d9_worst_24 : decode c9_worst 24 = .ok (.if_icmp .ge 34, 3) := by decide +kernel
theorem d9_worst_27 : decode c9_worst 27 = .ok (.aload_n 0, 1) := by decide +kernel
theorem d9_worst_28 : decode c9_worst 28 = .ok (.getfield 51, 3) := by decide +kernel
theorem d9_worst_31 : decode c9_worst 31 = .ok (.getfield 155, 3) := by decide +kernel
theorem d9_worst_34 : decode c9_worst 34 = .ok (.iload_n 3, 1) := by decide +kernel
theorem d9_worst_35 : decode c9_worst 35 = .ok (.iaload, 1) := by decide +kernel
theorem d9_worst_36 : decode c9_worst 36 = .ok (.iload_n 2, 1) := by decide +kernel
theorem d9_worst_37 : decode c9_worst 37 = .ok (.if_icmp .le 15, 3) := by decide +kernel
theorem d9_worst_40 : decode c9_worst 40 = .ok (.aload_n 0, 1) := by decide +kernel
theorem d9_worst_41 : decode c9_worst 41 = .ok (.getfield 51, 3) := by decide +kernel
theorem d9_worst_44 : decode c9_worst 44 = .ok (.getfield 155, 3) := by decide +kernel
theorem d9_worst_47 : decode c9_worst 47 = .ok (.iload_n 3, 1) := by decide +kernel
theorem d9_worst_48 : decode c9_worst 48 = .ok (.iaload, 1) := by decide +kernel
theorem d9_worst_49 : decode c9_worst 49 = .ok (.istore_n 2, 1) := by decide +kernel
theorem d9_worst_50 : decode c9_worst 50 = .ok (.iload_n 3, 1) := by decide +kernel
theorem d9_worst_51 : decode c9_worst 51 = .ok (.istore_n 1, 1) := by decide +kernel
theorem d9_worst_52 : decode c9_worst 52 = .ok (.iinc 3 1, 3) := by decide +kernel
theorem d9_worst_55 : decode c9_worst 55 = .ok (.goto (-39), 3) := by decide +kernel
theorem d9_worst_58 : decode c9_worst 58 = .ok (.iload_n 1, 1) := by decide +kernel
theorem d9_worst_59 : decode c9_worst 59 = .ok (.ireturn, 1) := by decide +kernel
def f9_worst (D : Mem) : Option (Int) :=
  Option.bind (f9_isThere D) fun (a1 : Int) =>
  if w32 a1 = 0 then
    some (-2)
  else
    Option.bind (@loop (Int × Int × Int) (Int) (fun s1 =>
      if w32 s1.2.2 < w32 (D 12 8) then
        if 0 ≤ s1.2.2 ∧ s1.2.2 < 8 then
          Option.bind (
            if w32 s1.2.1 < w32 (D 29 s1.2.2.toNat) then
              Option.bind (some (D 29 s1.2.2.toNat)) fun (v1 : Int) =>
              some (s1.2.2, v1)
            else
              some (s1.1, s1.2.1)
          ) fun (j1 : Int × Int) =>
          some (Sum.inl (j1.1, j1.2, (s1.2.2 + 1)))
        else none
      else
        some (Sum.inr s1.1)
    ) FU ((-1), 0, 0)) fun (b1 : Int) =>
    some b1
set_option maxHeartbeats 4000000 in
theorem ok9_worst {l : Launch} {X : XT} {n : Nat} {D : Mem} {Q : Option Value → Nat → Rho → Mem → Prop} (hn : 117 ≤ n)  (h : wpo (f9_worst D) (fun a => Q (some (vI a)) n rt D)) : MOK l y9_worst c9_worst 4 (some .int) { frames := 1, cells := 0, slots := 0, locals := 20 } 0 0 X [vR X 0] n rt D Q := by
  refine MOK_of 9 (by decide +kernel) rfl (lv := [(0, vR X 0)]) (Nat.le_of_ble_eq_true rfl) rfl (fun K hK F hnm => ?_)
  subst hK
  unfold f9_worst at h
  refine r_aload_nR F 0 rfl rfl d9_worst_0 ?_
  replace h := wpo_bind h
  refine r_callV0 F lm9_159 mf9_isThere (vc0 hn) rfl (fr := 0) (lo := 0) (As := []) (rest := []) ⟨Nat.le_of_ble_eq_true rfl, Nat.le_of_ble_eq_true rfl⟩ rfl (Nat.le_of_ble_eq_true rfl) ⟨Nat.zero_le _, Nat.zero_le _⟩ d9_worst_1 ?_
  refine ok9_isThere hn  (kI h (fun a1 h => ?_))
  refine r_if_ne F (tgt := 10) d9_worst_4 (by decide) (fun hb => ?_) (fun hb => ?_)
  · replace h := wpo_neg h hb
    refine r_iconst F (z := (-1)) d9_worst_10 ?_
    refine r_istore_n F (lv' := [(1, vI (-1)), (0, vR X 0)]) rfl (Nat.le_of_ble_eq_true rfl) rfl d9_worst_11 ?_
    refine r_iconst F (z := 0) d9_worst_12 ?_
    refine r_istore_n F (lv' := [(2, vI 0), (1, vI (-1)), (0, vR X 0)]) rfl (Nat.le_of_ble_eq_true rfl) rfl d9_worst_13 ?_
    refine r_iconst F (z := 0) d9_worst_14 ?_
    refine r_istore_n F (lv' := [(3, vI 0), (2, vI 0), (1, vI (-1)), (0, vR X 0)]) rfl (Nat.le_of_ble_eq_true rfl) rfl d9_worst_15 ?_
    refine r_weak [3, 2, 1, 0] rfl ?_
    refine at_loopj (A := fun (s1 : Int × Int × Int) => At K X (ZQ K X Q) 0 0 n rt 4 16 [(0, vR X 0), (1, vI s1.1), (2, vI s1.2.1), (3, vI s1.2.2)] [] D) (B := fun (b1 : Int) => At K X (ZQ K X Q) 0 0 n rt 4 58 [(1, vI b1)] [] D) h (fun b1 h => ?_) (fun s1 h => ?_)
    · refine r_iload_n F 0 rfl rfl d9_worst_58 ?_
      replace h := wpo_some h
      exact r_iret F h d9_worst_59
    · refine r_iload_n F 3 rfl rfl d9_worst_16 ?_
      refine r_aload_nR F 0 rfl rfl d9_worst_17 ?_
      refine r_getR F (z := 12) lf9_28 (vc0 hn) z0_2 d9_worst_18 ?_
      refine r_getI F lf9_165 (vc12 hn) d9_worst_21 ?_
      refine r_icmp_ge F (tgt := 58) d9_worst_24 (by decide) (fun hb => ?_) (fun hb => ?_)
      · replace h := wpo_neg h hb
        refine r_weak [1] rfl ?_
        replace h := wpo_inr h
        exact h
      · replace h := wpo_pos h hb
        refine r_aload_nR F 0 rfl rfl d9_worst_27 ?_
        refine r_getR F (z := 23) lf9_51 (vc0 hn) z0_6 d9_worst_28 ?_
        refine r_getR F (z := 29) lf9_155 (vc23 hn) z23_10 d9_worst_31 ?_
        refine r_iload_n F 3 rfl rfl d9_worst_34 ?_
        obtain ⟨hx1, h⟩ := wpo_chk h
        refine r_iald F (vc29 hn) hx1 d9_worst_35 ?_
        refine r_iload_n F 2 rfl rfl d9_worst_36 ?_
        refine at_join (B := fun (j1 : Int × Int) => At K X (ZQ K X Q) 0 0 n rt 4 52 [(0, vR X 0), (1, vI j1.1), (2, vI j1.2), (3, vI s1.2.2)] [] D) h (fun j1 h => ?_) (fun h => ?_)
        · refine r_iinc F 3 (lv' := [(3, vI (s1.2.2 + 1)), (0, vR X 0), (1, vI j1.1), (2, vI j1.2)]) rfl (Nat.le_of_ble_eq_true rfl) rfl d9_worst_52 ?_
          refine r_goto F (tgt := 16) (by decide) d9_worst_55 ?_
          refine r_weak [1, 2, 3, 0] rfl ?_
          replace h := wpo_inl h
          exact h
        · refine r_icmp_le F (tgt := 52) d9_worst_37 (by decide) (fun hb => ?_) (fun hb => ?_)
          · replace h := wpo_neg h hb
            replace h := wpo_some h
            exact h
          · replace h := wpo_pos h hb
            refine r_aload_nR F 0 rfl rfl d9_worst_40 ?_
            refine r_getR F (z := 23) lf9_51 (vc0 hn) z0_6 d9_worst_41 ?_
            refine r_getR F (z := 29) lf9_155 (vc23 hn) z23_10 d9_worst_44 ?_
            refine r_iload_n F 3 rfl rfl d9_worst_47 ?_
            refine r_iald F (vc29 hn) hx1 d9_worst_48 ?_
            refine r_istore_n F (lv' := [(2, vI (D 29 s1.2.2.toNat)), (0, vR X 0), (1, vI s1.1), (3, vI s1.2.2)]) rfl (Nat.le_of_ble_eq_true rfl) rfl d9_worst_49 ?_
            refine at_name (B := fun (v1 : Int) => At K X (ZQ K X Q) 0 0 n rt 4 50 [(2, vI v1), (0, vR X 0), (1, vI s1.1), (3, vI s1.2.2)] [] D) h (fun v1 h => ?_)
            refine r_iload_n F 3 rfl rfl d9_worst_50 ?_
            refine r_istore_n F (lv' := [(1, vI s1.2.2), (2, vI v1), (0, vR X 0), (3, vI s1.2.2)]) rfl (Nat.le_of_ble_eq_true rfl) rfl d9_worst_51 ?_
            refine r_weak [2, 0, 1, 3] rfl ?_
            replace h := wpo_some h
            exact h
  · replace h := wpo_pos h hb
    refine r_bipush F (z := (-2)) (by decide) d9_worst_7 ?_
    replace h := wpo_some h
    exact r_iret F h d9_worst_9
theorem d9_crowded_0 : decode c9_crowded 0 = .ok (.aload_n 0, 1) := by decide +kernel
theorem d9_crowded_1 : decode c9_crowded 1 = .ok (.invokevirtual 159, 3) := by decide +kernel
theorem d9_crowded_4 : decode c9_crowded 4 = .ok (.ifCond .ne 6, 3) := by decide +kernel
theorem d9_crowded_7 : decode c9_crowded 7 = .ok (.bipush (-2), 2) := by decide +kernel
theorem d9_crowded_9 : decode c9_crowded 9 = .ok (.ireturn, 1) := by decide +kernel
theorem d9_crowded_10 : decode c9_crowded 10 = .ok (.iconst 0, 1) := by decide +kernel
theorem d9_crowded_11 : decode c9_crowded 11 = .ok (.istore_n 1, 1) := by decide +kernel
theorem d9_crowded_12 : decode c9_crowded 12 = .ok (.iload_n 1, 1) := by decide +kernel
theorem d9_crowded_13 : decode c9_crowded 13 = .ok (.aload_n 0, 1) := by decide +kernel
theorem d9_crowded_14 : decode c9_crowded 14 = .ok (.getfield 28, 3) := by decide +kernel
theorem d9_crowded_17 : decode c9_crowded 17 = .ok (.getfield 168, 3) := by decide +kernel
theorem d9_crowded_20 : decode c9_crowded 20 = .ok (.if_icmp .ge 23, 3) := by decide +kernel
theorem d9_crowded_23 : decode c9_crowded 23 = .ok (.aload_n 0, 1) := by decide +kernel
theorem d9_crowded_24 : decode c9_crowded 24 = .ok (.getfield 51, 3) := by decide +kernel
theorem d9_crowded_27 : decode c9_crowded 27 = .ok (.getfield 149, 3) := by decide +kernel
theorem d9_crowded_30 : decode c9_crowded 30 = .ok (.iload_n 1, 1) := by decide +kernel
theorem d9_crowded_31 : decode c9_crowded 31 = .ok (.iaload, 1) := by decide +kernel
theorem d9_crowded_32 : decode c9_crowded 32 = .ok (.ifCond .eq 5, 3) := by decide +kernel
theorem d9_crowded_35 : decode c9_crowded 35 = .ok (.iload_n 1, 1) := by decide +kernel
theorem d9_crowded_36 : decode c9_crowded 36 = .ok (.ireturn, 1) := by decide +kernel
theorem d9_crowded_37 : decode c9_crowded 37 = .ok (.iinc 1 1, 3) := by decide +kernel
theorem d9_crowded_40 : decode c9_crowded 40 = .ok (.goto (-28), 3) := by decide +kernel
theorem d9_crowded_43 : decode c9_crowded 43 = .ok (.iconst (-1), 1) := by decide +kernel
theorem d9_crowded_44 : decode c9_crowded 44 = .ok (.ireturn, 1) := by decide +kernel
def f9_crowded (D : Mem) : Option (Int) :=
  Option.bind (f9_isThere D) fun (a1 : Int) =>
  if w32 a1 = 0 then
    some (-2)
  else
    Option.bind (@loop (Int) ((Unit) ⊕ (Int)) (fun s1 =>
      if w32 s1 < w32 (D 12 1) then
        if 0 ≤ s1 ∧ s1 < 12 then
          if w32 (D 31 s1.toNat) = 0 then
            some (Sum.inl (s1 + 1))
          else
            some (Sum.inr (Sum.inr s1))
        else none
      else
        some (Sum.inr (Sum.inl ()))
    ) FU 0) (fun z => Sum.elim (fun (b1 : Unit) =>
      some (-1)
    ) (fun rv => some rv) z)
set_option maxHeartbeats 4000000 in
theorem ok9_crowded {l : Launch} {X : XT} {n : Nat} {D : Mem} {Q : Option Value → Nat → Rho → Mem → Prop} (hn : 117 ≤ n)  (h : wpo (f9_crowded D) (fun a => Q (some (vI a)) n rt D)) : MOK l y9_crowded c9_crowded 2 (some .int) { frames := 1, cells := 0, slots := 0, locals := 20 } 0 0 X [vR X 0] n rt D Q := by
  refine MOK_of 9 (by decide +kernel) rfl (lv := [(0, vR X 0)]) (Nat.le_of_ble_eq_true rfl) rfl (fun K hK F hnm => ?_)
  subst hK
  unfold f9_crowded at h
  refine r_aload_nR F 0 rfl rfl d9_crowded_0 ?_
  replace h := wpo_bind h
  refine r_callV0 F lm9_159 mf9_isThere (vc0 hn) rfl (fr := 0) (lo := 0) (As := []) (rest := []) ⟨Nat.le_of_ble_eq_true rfl, Nat.le_of_ble_eq_true rfl⟩ rfl (Nat.le_of_ble_eq_true rfl) ⟨Nat.zero_le _, Nat.zero_le _⟩ d9_crowded_1 ?_
  refine ok9_isThere hn  (kI h (fun a1 h => ?_))
  refine r_if_ne F (tgt := 10) d9_crowded_4 (by decide) (fun hb => ?_) (fun hb => ?_)
  · replace h := wpo_neg h hb
    refine r_iconst F (z := 0) d9_crowded_10 ?_
    refine r_istore_n F (lv' := [(1, vI 0), (0, vR X 0)]) rfl (Nat.le_of_ble_eq_true rfl) rfl d9_crowded_11 ?_
    refine r_weak [1, 0] rfl ?_
    refine at_loopj (A := fun (s1 : Int) => At K X (ZQ K X Q) 0 0 n rt 2 12 [(0, vR X 0), (1, vI s1)] [] D) (B := Sum.elim (fun (b1 : Unit) => At K X (ZQ K X Q) 0 0 n rt 2 43 [] [] D) (fun rv => Q (some (vI rv)) n rt D)) h (fun z h => ?_) (fun s1 h => ?_)
    · rcases z with b1 | rv
      · replace h := elim_l h
        refine el_li ?_
        refine r_iconst F (z := (-1)) d9_crowded_43 ?_
        replace h := wpo_some h
        exact r_iret F h d9_crowded_44
      · replace h := elim_r h
        replace h := wpo_some h
        exact el_ri h
    · refine r_iload_n F 1 rfl rfl d9_crowded_12 ?_
      refine r_aload_nR F 0 rfl rfl d9_crowded_13 ?_
      refine r_getR F (z := 12) lf9_28 (vc0 hn) z0_2 d9_crowded_14 ?_
      refine r_getI F lf9_168 (vc12 hn) d9_crowded_17 ?_
      refine r_icmp_ge F (tgt := 43) d9_crowded_20 (by decide) (fun hb => ?_) (fun hb => ?_)
      · replace h := wpo_neg h hb
        refine r_weak [] rfl ?_
        replace h := wpo_inr h
        replace h := el_l h
        exact h
      · replace h := wpo_pos h hb
        refine r_aload_nR F 0 rfl rfl d9_crowded_23 ?_
        refine r_getR F (z := 23) lf9_51 (vc0 hn) z0_6 d9_crowded_24 ?_
        refine r_getR F (z := 31) lf9_149 (vc23 hn) z23_12 d9_crowded_27 ?_
        refine r_iload_n F 1 rfl rfl d9_crowded_30 ?_
        obtain ⟨hx1, h⟩ := wpo_chk h
        refine r_iald F (vc31 hn) hx1 d9_crowded_31 ?_
        refine r_if_eq F (tgt := 37) d9_crowded_32 (by decide) (fun hb => ?_) (fun hb => ?_)
        · replace h := wpo_pos h hb
          refine r_iinc F 1 (lv' := [(1, vI (s1 + 1)), (0, vR X 0)]) rfl (Nat.le_of_ble_eq_true rfl) rfl d9_crowded_37 ?_
          refine r_goto F (tgt := 12) (by decide) d9_crowded_40 ?_
          refine r_weak [1, 0] rfl ?_
          replace h := wpo_inl h
          exact h
        · replace h := wpo_neg h hb
          refine r_iload_n F 1 rfl rfl d9_crowded_35 ?_
          replace h := el_r (wpo_inr h)
          exact r_iret F h d9_crowded_36
  · replace h := wpo_pos h hb
    refine r_bipush F (z := (-2)) (by decide) d9_crowded_7 ?_
    replace h := wpo_some h
    exact r_iret F h d9_crowded_9
theorem d9_holds_0 : decode c9_holds 0 = .ok (.aload_n 0, 1) := by decide +kernel
theorem d9_holds_1 : decode c9_holds 1 = .ok (.iload_n 1, 1) := by decide +kernel
theorem d9_holds_2 : decode c9_holds 2 = .ok (.invokevirtual 143, 3) := by decide +kernel
theorem d9_holds_5 : decode c9_holds 5 = .ok (.ifCond .eq 15, 3) := by decide +kernel
theorem d9_holds_8 : decode c9_holds 8 = .ok (.aload_n 0, 1) := by decide +kernel
theorem d9_holds_9 : decode c9_holds 9 = .ok (.getfield 51, 3) := by decide +kernel
theorem d9_holds_12 : decode c9_holds 12 = .ok (.getfield 171, 3) := by decide +kernel
theorem d9_holds_15 : decode c9_holds 15 = .ok (.iload_n 1, 1) := by decide +kernel
theorem d9_holds_16 : decode c9_holds 16 = .ok (.iaload, 1) := by decide +kernel
theorem d9_holds_17 : decode c9_holds 17 = .ok (.goto 5, 3) := by decide +kernel
theorem d9_holds_20 : decode c9_holds 20 = .ok (.bipush (-2), 2) := by decide +kernel
theorem d9_holds_22 : decode c9_holds 22 = .ok (.ireturn, 1) := by decide +kernel
def f9_holds (D : Mem) (p0 : Int) : Option (Int) :=
  Option.bind (f9_isNight D p0) fun (a1 : Int) =>
  if w32 a1 = 0 then
    some (-2)
  else
    if 0 ≤ p0 ∧ p0 < 12 then
      some (D 34 p0.toNat)
    else none
set_option maxHeartbeats 4000000 in
theorem ok9_holds {l : Launch} {X : XT} {n : Nat} {D : Mem} {Q : Option Value → Nat → Rho → Mem → Prop} (hn : 117 ≤ n) {p0 : Int}  (h : wpo (f9_holds D p0) (fun a => Q (some (vI a)) n rt D)) : MOK l y9_holds c9_holds 2 (some .int) { frames := 1, cells := 0, slots := 0, locals := 21 } 0 0 X [vR X 0, vI p0] n rt D Q := by
  refine MOK_of 9 (by decide +kernel) rfl (lv := [(0, vR X 0), (1, vI p0)]) (Nat.le_of_ble_eq_true rfl) rfl (fun K hK F hnm => ?_)
  subst hK
  unfold f9_holds at h
  refine r_aload_nR F 0 rfl rfl d9_holds_0 ?_
  refine r_iload_n F 1 rfl rfl d9_holds_1 ?_
  replace h := wpo_bind h
  refine r_callV0 F lm9_143 mf9_isNight (vc0 hn) rfl (fr := 0) (lo := 0) (As := [vI p0]) (rest := []) ⟨Nat.le_of_ble_eq_true rfl, Nat.le_of_ble_eq_true rfl⟩ rfl (Nat.le_of_ble_eq_true rfl) ⟨Nat.zero_le _, Nat.zero_le _⟩ d9_holds_2 ?_
  refine ok9_isNight hn  (kI h (fun a1 h => ?_))
  refine r_if_eq F (tgt := 20) d9_holds_5 (by decide) (fun hb => ?_) (fun hb => ?_)
  · replace h := wpo_pos h hb
    refine r_bipush F (z := (-2)) (by decide) d9_holds_20 ?_
    replace h := wpo_some h
    exact r_iret F h d9_holds_22
  · replace h := wpo_neg h hb
    refine r_aload_nR F 0 rfl rfl d9_holds_8 ?_
    refine r_getR F (z := 23) lf9_51 (vc0 hn) z0_6 d9_holds_9 ?_
    refine r_getR F (z := 34) lf9_171 (vc23 hn) z23_15 d9_holds_12 ?_
    refine r_iload_n F 1 rfl rfl d9_holds_15 ?_
    obtain ⟨hx1, h⟩ := wpo_chk h
    refine r_iald F (vc34 hn) hx1 d9_holds_16 ?_
    refine r_goto F (tgt := 22) (by decide) d9_holds_17 ?_
    replace h := wpo_some h
    exact r_iret F h d9_holds_22
theorem d9_cut_0 : decode c9_cut 0 = .ok (.aload_n 0, 1) := by decide +kernel
theorem d9_cut_1 : decode c9_cut 1 = .ok (.iload_n 1, 1) := by decide +kernel
theorem d9_cut_2 : decode c9_cut 2 = .ok (.invokevirtual 143, 3) := by decide +kernel
theorem d9_cut_5 : decode c9_cut 5 = .ok (.ifCond .eq 15, 3) := by decide +kernel
theorem d9_cut_8 : decode c9_cut 8 = .ok (.aload_n 0, 1) := by decide +kernel
theorem d9_cut_9 : decode c9_cut 9 = .ok (.getfield 51, 3) := by decide +kernel
theorem d9_cut_12 : decode c9_cut 12 = .ok (.getfield 174, 3) := by decide +kernel
theorem d9_cut_15 : decode c9_cut 15 = .ok (.iload_n 1, 1) := by decide +kernel
theorem d9_cut_16 : decode c9_cut 16 = .ok (.iaload, 1) := by decide +kernel
theorem d9_cut_17 : decode c9_cut 17 = .ok (.goto 5, 3) := by decide +kernel
theorem d9_cut_20 : decode c9_cut 20 = .ok (.bipush (-2), 2) := by decide +kernel
theorem d9_cut_22 : decode c9_cut 22 = .ok (.ireturn, 1) := by decide +kernel
def f9_cut (D : Mem) (p0 : Int) : Option (Int) :=
  Option.bind (f9_isNight D p0) fun (a1 : Int) =>
  if w32 a1 = 0 then
    some (-2)
  else
    if 0 ≤ p0 ∧ p0 < 12 then
      some (D 35 p0.toNat)
    else none
set_option maxHeartbeats 4000000 in
theorem ok9_cut {l : Launch} {X : XT} {n : Nat} {D : Mem} {Q : Option Value → Nat → Rho → Mem → Prop} (hn : 117 ≤ n) {p0 : Int}  (h : wpo (f9_cut D p0) (fun a => Q (some (vI a)) n rt D)) : MOK l y9_cut c9_cut 2 (some .int) { frames := 1, cells := 0, slots := 0, locals := 21 } 0 0 X [vR X 0, vI p0] n rt D Q := by
  refine MOK_of 9 (by decide +kernel) rfl (lv := [(0, vR X 0), (1, vI p0)]) (Nat.le_of_ble_eq_true rfl) rfl (fun K hK F hnm => ?_)
  subst hK
  unfold f9_cut at h
  refine r_aload_nR F 0 rfl rfl d9_cut_0 ?_
  refine r_iload_n F 1 rfl rfl d9_cut_1 ?_
  replace h := wpo_bind h
  refine r_callV0 F lm9_143 mf9_isNight (vc0 hn) rfl (fr := 0) (lo := 0) (As := [vI p0]) (rest := []) ⟨Nat.le_of_ble_eq_true rfl, Nat.le_of_ble_eq_true rfl⟩ rfl (Nat.le_of_ble_eq_true rfl) ⟨Nat.zero_le _, Nat.zero_le _⟩ d9_cut_2 ?_
  refine ok9_isNight hn  (kI h (fun a1 h => ?_))
  refine r_if_eq F (tgt := 20) d9_cut_5 (by decide) (fun hb => ?_) (fun hb => ?_)
  · replace h := wpo_pos h hb
    refine r_bipush F (z := (-2)) (by decide) d9_cut_20 ?_
    replace h := wpo_some h
    exact r_iret F h d9_cut_22
  · replace h := wpo_neg h hb
    refine r_aload_nR F 0 rfl rfl d9_cut_8 ?_
    refine r_getR F (z := 23) lf9_51 (vc0 hn) z0_6 d9_cut_9 ?_
    refine r_getR F (z := 35) lf9_174 (vc23 hn) z23_16 d9_cut_12 ?_
    refine r_iload_n F 1 rfl rfl d9_cut_15 ?_
    obtain ⟨hx1, h⟩ := wpo_chk h
    refine r_iald F (vc35 hn) hx1 d9_cut_16 ?_
    refine r_goto F (tgt := 22) (by decide) d9_cut_17 ?_
    replace h := wpo_some h
    exact r_iret F h d9_cut_22
theorem d9_nightOfTooth_0 : decode c9_nightOfTooth 0 = .ok (.iconst 0, 1) := by decide +kernel
theorem d9_nightOfTooth_1 : decode c9_nightOfTooth 1 = .ok (.istore_n 2, 1) := by decide +kernel
theorem d9_nightOfTooth_2 : decode c9_nightOfTooth 2 = .ok (.iload_n 2, 1) := by decide +kernel
theorem d9_nightOfTooth_3 : decode c9_nightOfTooth 3 = .ok (.aload_n 0, 1) := by decide +kernel
theorem d9_nightOfTooth_4 : decode c9_nightOfTooth 4 = .ok (.getfield 28, 3) := by decide +kernel
theorem d9_nightOfTooth_7 : decode c9_nightOfTooth 7 = .ok (.getfield 168, 3) := by decide +kernel
theorem d9_nightOfTooth_10 : decode c9_nightOfTooth 10 = .ok (.if_icmp .ge 24, 3) := by decide +kernel
theorem d9_nightOfTooth_13 : decode c9_nightOfTooth 13 = .ok (.aload_n 0, 1) := by decide +kernel
theorem d9_nightOfTooth_14 : decode c9_nightOfTooth 14 = .ok (.getfield 51, 3) := by decide +kernel
theorem d9_nightOfTooth_17 : decode c9_nightOfTooth 17 = .ok (.getfield 174, 3) := by decide +kernel
theorem d9_nightOfTooth_20 : decode c9_nightOfTooth 20 = .ok (.iload_n 2, 1) := by decide +kernel
theorem d9_nightOfTooth_21 : decode c9_nightOfTooth 21 = .ok (.iaload, 1) := by decide +kernel
theorem d9_nightOfTooth_22 : decode c9_nightOfTooth 22 = .ok (.iload_n 1, 1) := by decide +kernel
theorem d9_nightOfTooth_23 : decode c9_nightOfTooth 23 = .ok (.if_icmp .lt 5, 3) := by decide +kernel
theorem d9_nightOfTooth_26 : decode c9_nightOfTooth 26 = .ok (.iload_n 2, 1) := by decide +kernel
theorem d9_nightOfTooth_27 : decode c9_nightOfTooth 27 = .ok (.ireturn, 1) := by decide +kernel
theorem d9_nightOfTooth_28 : decode c9_nightOfTooth 28 = .ok (.iinc 2 1, 3) := by decide +kernel
theorem d9_nightOfTooth_31 : decode c9_nightOfTooth 31 = .ok (.goto (-29), 3) := by decide +kernel
theorem d9_nightOfTooth_34 : decode c9_nightOfTooth 34 = .ok (.iconst (-1), 1) := by decide +kernel
theorem d9_nightOfTooth_35 : decode c9_nightOfTooth 35 = .ok (.ireturn, 1) := by decide +kernel
def f9_nightOfTooth (D : Mem) (p0 : Int) : Option (Int) :=
  Option.bind (@loop (Int) ((Unit) ⊕ (Int)) (fun s1 =>
    if w32 s1 < w32 (D 12 1) then
      if 0 ≤ s1 ∧ s1 < 12 then
        if w32 (D 35 s1.toNat) < w32 p0 then
          some (Sum.inl (s1 + 1))
        else
          some (Sum.inr (Sum.inr s1))
      else none
    else
      some (Sum.inr (Sum.inl ()))
  ) FU 0) (fun z => Sum.elim (fun (b1 : Unit) =>
    some (-1)
  ) (fun rv => some rv) z)
set_option maxHeartbeats 4000000 in
theorem ok9_nightOfTooth {l : Launch} {X : XT} {n : Nat} {D : Mem} {Q : Option Value → Nat → Rho → Mem → Prop} (hn : 117 ≤ n) {p0 : Int}  (h : wpo (f9_nightOfTooth D p0) (fun a => Q (some (vI a)) n rt D)) : MOK l y9_nightOfTooth c9_nightOfTooth 3 (some .int) { frames := 0, cells := 0, slots := 0, locals := 0 } 0 0 X [vR X 0, vI p0] n rt D Q := by
  refine MOK_of 9 (by decide +kernel) rfl (lv := [(0, vR X 0), (1, vI p0)]) (Nat.le_of_ble_eq_true rfl) rfl (fun K hK F hnm => ?_)
  subst hK
  unfold f9_nightOfTooth at h
  refine r_iconst F (z := 0) d9_nightOfTooth_0 ?_
  refine r_istore_n F (lv' := [(2, vI 0), (0, vR X 0), (1, vI p0)]) rfl (Nat.le_of_ble_eq_true rfl) rfl d9_nightOfTooth_1 ?_
  refine r_weak [1, 2, 0] rfl ?_
  refine at_loopj (A := fun (s1 : Int) => At K X (ZQ K X Q) 0 0 n rt 3 2 [(0, vR X 0), (1, vI p0), (2, vI s1)] [] D) (B := Sum.elim (fun (b1 : Unit) => At K X (ZQ K X Q) 0 0 n rt 3 34 [] [] D) (fun rv => Q (some (vI rv)) n rt D)) h (fun z h => ?_) (fun s1 h => ?_)
  · rcases z with b1 | rv
    · replace h := elim_l h
      refine el_li ?_
      refine r_iconst F (z := (-1)) d9_nightOfTooth_34 ?_
      replace h := wpo_some h
      exact r_iret F h d9_nightOfTooth_35
    · replace h := elim_r h
      replace h := wpo_some h
      exact el_ri h
  · refine r_iload_n F 2 rfl rfl d9_nightOfTooth_2 ?_
    refine r_aload_nR F 0 rfl rfl d9_nightOfTooth_3 ?_
    refine r_getR F (z := 12) lf9_28 (vc0 hn) z0_2 d9_nightOfTooth_4 ?_
    refine r_getI F lf9_168 (vc12 hn) d9_nightOfTooth_7 ?_
    refine r_icmp_ge F (tgt := 34) d9_nightOfTooth_10 (by decide) (fun hb => ?_) (fun hb => ?_)
    · replace h := wpo_neg h hb
      refine r_weak [] rfl ?_
      replace h := wpo_inr h
      replace h := el_l h
      exact h
    · replace h := wpo_pos h hb
      refine r_aload_nR F 0 rfl rfl d9_nightOfTooth_13 ?_
      refine r_getR F (z := 23) lf9_51 (vc0 hn) z0_6 d9_nightOfTooth_14 ?_
      refine r_getR F (z := 35) lf9_174 (vc23 hn) z23_16 d9_nightOfTooth_17 ?_
      refine r_iload_n F 2 rfl rfl d9_nightOfTooth_20 ?_
      obtain ⟨hx1, h⟩ := wpo_chk h
      refine r_iald F (vc35 hn) hx1 d9_nightOfTooth_21 ?_
      refine r_iload_n F 1 rfl rfl d9_nightOfTooth_22 ?_
      refine r_icmp_lt F (tgt := 28) d9_nightOfTooth_23 (by decide) (fun hb => ?_) (fun hb => ?_)
      · replace h := wpo_pos h hb
        refine r_iinc F 2 (lv' := [(2, vI (s1 + 1)), (0, vR X 0), (1, vI p0)]) rfl (Nat.le_of_ble_eq_true rfl) rfl d9_nightOfTooth_28 ?_
        refine r_goto F (tgt := 2) (by decide) d9_nightOfTooth_31 ?_
        refine r_weak [1, 2, 0] rfl ?_
        replace h := wpo_inl h
        exact h
      · replace h := wpo_neg h hb
        refine r_iload_n F 2 rfl rfl d9_nightOfTooth_26 ?_
        replace h := el_r (wpo_inr h)
        exact r_iret F h d9_nightOfTooth_27
theorem d9_feast_0 : decode c9_feast 0 = .ok (.aload_n 0, 1) := by decide +kernel
theorem d9_feast_1 : decode c9_feast 1 = .ok (.invokevirtual 159, 3) := by decide +kernel
theorem d9_feast_4 : decode c9_feast 4 = .ok (.ifCond .eq 17, 3) := by decide +kernel
theorem d9_feast_7 : decode c9_feast 7 = .ok (.aload_n 0, 1) := by decide +kernel
theorem d9_feast_8 : decode c9_feast 8 = .ok (.aload_n 0, 1) := by decide +kernel
theorem d9_feast_9 : decode c9_feast 9 = .ok (.getfield 28, 3) := by decide +kernel
theorem d9_feast_12 : decode c9_feast 12 = .ok (.getfield 177, 3) := by decide +kernel
theorem d9_feast_15 : decode c9_feast 15 = .ok (.invokevirtual 180, 3) := by decide +kernel
theorem d9_feast_18 : decode c9_feast 18 = .ok (.goto 5, 3) := by decide +kernel
theorem d9_feast_21 : decode c9_feast 21 = .ok (.bipush (-2), 2) := by decide +kernel
theorem d9_feast_23 : decode c9_feast 23 = .ok (.ireturn, 1) := by decide +kernel
def f9_feast (D : Mem) : Option (Int) :=
  Option.bind (f9_isThere D) fun (a1 : Int) =>
  if w32 a1 = 0 then
    some (-2)
  else
    Option.bind (f9_nightOfTooth D (D 12 4)) fun (a2 : Int) =>
    some a2
set_option maxHeartbeats 4000000 in
theorem ok9_feast {l : Launch} {X : XT} {n : Nat} {D : Mem} {Q : Option Value → Nat → Rho → Mem → Prop} (hn : 117 ≤ n)  (h : wpo (f9_feast D) (fun a => Q (some (vI a)) n rt D)) : MOK l y9_feast c9_feast 1 (some .int) { frames := 1, cells := 0, slots := 0, locals := 22 } 0 0 X [vR X 0] n rt D Q := by
  refine MOK_of 9 (by decide +kernel) rfl (lv := [(0, vR X 0)]) (Nat.le_of_ble_eq_true rfl) rfl (fun K hK F hnm => ?_)
  subst hK
  unfold f9_feast at h
  refine r_aload_nR F 0 rfl rfl d9_feast_0 ?_
  replace h := wpo_bind h
  refine r_callV0 F lm9_159 mf9_isThere (vc0 hn) rfl (fr := 0) (lo := 0) (As := []) (rest := []) ⟨Nat.le_of_ble_eq_true rfl, Nat.le_of_ble_eq_true rfl⟩ rfl (Nat.le_of_ble_eq_true rfl) ⟨Nat.zero_le _, Nat.zero_le _⟩ d9_feast_1 ?_
  refine ok9_isThere hn  (kI h (fun a1 h => ?_))
  refine r_if_eq F (tgt := 21) d9_feast_4 (by decide) (fun hb => ?_) (fun hb => ?_)
  · replace h := wpo_pos h hb
    refine r_bipush F (z := (-2)) (by decide) d9_feast_21 ?_
    replace h := wpo_some h
    exact r_iret F h d9_feast_23
  · replace h := wpo_neg h hb
    refine r_aload_nR F 0 rfl rfl d9_feast_7 ?_
    refine r_aload_nR F 0 rfl rfl d9_feast_8 ?_
    refine r_getR F (z := 12) lf9_28 (vc0 hn) z0_2 d9_feast_9 ?_
    refine r_getI F lf9_177 (vc12 hn) d9_feast_12 ?_
    replace h := wpo_bind h
    refine r_callV0 F lm9_180 mf9_nightOfTooth (vc0 hn) rfl (fr := 0) (lo := 0) (As := [vI (D 12 4)]) (rest := []) ⟨Nat.le_of_ble_eq_true rfl, Nat.le_of_ble_eq_true rfl⟩ rfl (Nat.le_of_ble_eq_true rfl) ⟨Nat.zero_le _, Nat.zero_le _⟩ d9_feast_15 ?_
    refine ok9_nightOfTooth hn  (kI h (fun a2 h => ?_))
    refine r_goto F (tgt := 23) (by decide) d9_feast_18 ?_
    replace h := wpo_some h
    exact r_iret F h d9_feast_23
theorem d8_teethCut_0 : decode c8_teethCut 0 = .ok (.aload_n 0, 1) := by decide +kernel
theorem d8_teethCut_1 : decode c8_teethCut 1 = .ok (.getfield 61, 3) := by decide +kernel
theorem d8_teethCut_4 : decode c8_teethCut 4 = .ok (.getfield 88, 3) := by decide +kernel
theorem d8_teethCut_7 : decode c8_teethCut 7 = .ok (.ifCond .le 20, 3) := by decide +kernel
theorem d8_teethCut_10 : decode c8_teethCut 10 = .ok (.aload_n 0, 1) := by decide +kernel
theorem d8_teethCut_11 : decode c8_teethCut 11 = .ok (.getfield 58, 3) := by decide +kernel
theorem d8_teethCut_14 : decode c8_teethCut 14 = .ok (.aload_n 0, 1) := by decide +kernel
theorem d8_teethCut_15 : decode c8_teethCut 15 = .ok (.getfield 61, 3) := by decide +kernel
theorem d8_teethCut_18 : decode c8_teethCut 18 = .ok (.getfield 88, 3) := by decide +kernel
theorem d8_teethCut_21 : decode c8_teethCut 21 = .ok (.iconst 1, 1) := by decide +kernel
theorem d8_teethCut_22 : decode c8_teethCut 22 = .ok (.isub, 1) := by decide +kernel
theorem d8_teethCut_23 : decode c8_teethCut 23 = .ok (.iaload, 1) := by decide +kernel
theorem d8_teethCut_24 : decode c8_teethCut 24 = .ok (.goto 4, 3) := by decide +kernel
theorem d8_teethCut_27 : decode c8_teethCut 27 = .ok (.iconst 0, 1) := by decide +kernel
theorem d8_teethCut_28 : decode c8_teethCut 28 = .ok (.ireturn, 1) := by decide +kernel
def f8_teethCut (D : Mem) (r : Nat) : Option (Int) :=
  if 0 < w32 (D 12 1) then
    if 0 ≤ ((D 12 1) - 1) ∧ ((D 12 1) - 1) < 12 then
      some (D (r + 12) ((D 12 1) - 1).toNat)
    else none
  else
    some 0
set_option maxHeartbeats 4000000 in
theorem ok8_teethCut {l : Launch} {X : XT} {n : Nat} {D : Mem} {Q : Option Value → Nat → Rho → Mem → Prop} (hn : 117 ≤ n) {r : Nat} (hr : VR n r 8) (h : wpo (f8_teethCut D r) (fun a => Q (some (vI a)) n rt D)) : MOK l y8_teethCut c8_teethCut 1 (some .int) { frames := 0, cells := 0, slots := 0, locals := 0 } 0 0 X [vR X r] n rt D Q := by
  refine MOK_of 8 (by decide +kernel) rfl (lv := [(0, vR X r)]) (Nat.le_of_ble_eq_true rfl) rfl (fun K hK F hnm => ?_)
  subst hK
  unfold f8_teethCut at h
  refine r_aload_nR F 0 rfl rfl d8_teethCut_0 ?_
  refine r_getR F (z := 12) lf8_61 hr (z8_0 hr) d8_teethCut_1 ?_
  refine r_getI F lf8_88 (vc12 hn) d8_teethCut_4 ?_
  refine r_if_le F (tgt := 27) d8_teethCut_7 (by decide) (fun hb => ?_) (fun hb => ?_)
  · replace h := wpo_neg h hb
    refine r_iconst F (z := 0) d8_teethCut_27 ?_
    replace h := wpo_some h
    exact r_iret F h d8_teethCut_28
  · replace h := wpo_pos h hb
    refine r_aload_nR F 0 rfl rfl d8_teethCut_10 ?_
    refine r_getR F (z := (r + 12)) lf8_58 hr (z8_16 hr) d8_teethCut_11 ?_
    refine r_aload_nR F 0 rfl rfl d8_teethCut_14 ?_
    refine r_getR F (z := 12) lf8_61 hr (z8_0 hr) d8_teethCut_15 ?_
    refine r_getI F lf8_88 (vc12 hn) d8_teethCut_18 ?_
    refine r_iconst F (z := 1) d8_teethCut_21 ?_
    refine r_isub F d8_teethCut_22 ?_
    obtain ⟨hx1, h⟩ := wpo_chk h
    refine r_iald F (y8_16 hn hr) hx1 d8_teethCut_23 ?_
    refine r_goto F (tgt := 28) (by decide) d8_teethCut_24 ?_
    replace h := wpo_some h
    exact r_iret F h d8_teethCut_28
theorem d9_paid_0 : decode c9_paid 0 = .ok (.aload_n 0, 1) := by decide +kernel
theorem d9_paid_1 : decode c9_paid 1 = .ok (.invokevirtual 159, 3) := by decide +kernel
theorem d9_paid_4 : decode c9_paid 4 = .ok (.ifCond .eq 21, 3) := by decide +kernel
theorem d9_paid_7 : decode c9_paid 7 = .ok (.aload_n 0, 1) := by decide +kernel
theorem d9_paid_8 : decode c9_paid 8 = .ok (.getfield 28, 3) := by decide +kernel
theorem d9_paid_11 : decode c9_paid 11 = .ok (.getfield 184, 3) := by decide +kernel
theorem d9_paid_14 : decode c9_paid 14 = .ok (.aload_n 0, 1) := by decide +kernel
theorem d9_paid_15 : decode c9_paid 15 = .ok (.getfield 51, 3) := by decide +kernel
theorem d9_paid_18 : decode c9_paid 18 = .ok (.invokevirtual 187, 3) := by decide +kernel
theorem d9_paid_21 : decode c9_paid 21 = .ok (.imul, 1) := by decide +kernel
theorem d9_paid_22 : decode c9_paid 22 = .ok (.goto 5, 3) := by decide +kernel
theorem d9_paid_25 : decode c9_paid 25 = .ok (.bipush (-2), 2) := by decide +kernel
theorem d9_paid_27 : decode c9_paid 27 = .ok (.ireturn, 1) := by decide +kernel
def f9_paid (D : Mem) : Option (Int) :=
  Option.bind (f9_isThere D) fun (a1 : Int) =>
  if w32 a1 = 0 then
    some (-2)
  else
    Option.bind (f8_teethCut D 23) fun (a2 : Int) =>
    some ((D 12 6) * a2)
set_option maxHeartbeats 4000000 in
theorem ok9_paid {l : Launch} {X : XT} {n : Nat} {D : Mem} {Q : Option Value → Nat → Rho → Mem → Prop} (hn : 117 ≤ n)  (h : wpo (f9_paid D) (fun a => Q (some (vI a)) n rt D)) : MOK l y9_paid c9_paid 1 (some .int) { frames := 1, cells := 0, slots := 0, locals := 20 } 0 0 X [vR X 0] n rt D Q := by
  refine MOK_of 9 (by decide +kernel) rfl (lv := [(0, vR X 0)]) (Nat.le_of_ble_eq_true rfl) rfl (fun K hK F hnm => ?_)
  subst hK
  unfold f9_paid at h
  refine r_aload_nR F 0 rfl rfl d9_paid_0 ?_
  replace h := wpo_bind h
  refine r_callV0 F lm9_159 mf9_isThere (vc0 hn) rfl (fr := 0) (lo := 0) (As := []) (rest := []) ⟨Nat.le_of_ble_eq_true rfl, Nat.le_of_ble_eq_true rfl⟩ rfl (Nat.le_of_ble_eq_true rfl) ⟨Nat.zero_le _, Nat.zero_le _⟩ d9_paid_1 ?_
  refine ok9_isThere hn  (kI h (fun a1 h => ?_))
  refine r_if_eq F (tgt := 25) d9_paid_4 (by decide) (fun hb => ?_) (fun hb => ?_)
  · replace h := wpo_pos h hb
    refine r_bipush F (z := (-2)) (by decide) d9_paid_25 ?_
    replace h := wpo_some h
    exact r_iret F h d9_paid_27
  · replace h := wpo_neg h hb
    refine r_aload_nR F 0 rfl rfl d9_paid_7 ?_
    refine r_getR F (z := 12) lf9_28 (vc0 hn) z0_2 d9_paid_8 ?_
    refine r_getI F lf9_184 (vc12 hn) d9_paid_11 ?_
    refine r_aload_nR F 0 rfl rfl d9_paid_14 ?_
    refine r_getR F (z := 23) lf9_51 (vc0 hn) z0_6 d9_paid_15 ?_
    replace h := wpo_bind h
    refine r_callV0 F lm9_187 mf8_teethCut (vc23 hn) rfl (fr := 0) (lo := 0) (As := []) (rest := [vI (D 12 6)]) ⟨Nat.le_of_ble_eq_true rfl, Nat.le_of_ble_eq_true rfl⟩ rfl (Nat.le_of_ble_eq_true rfl) ⟨Nat.zero_le _, Nat.zero_le _⟩ d9_paid_18 ?_
    refine ok8_teethCut hn (vc23 hn) (kI h (fun a2 h => ?_))
    refine r_imul F d9_paid_21 ?_
    refine r_goto F (tgt := 27) (by decide) d9_paid_22 ?_
    replace h := wpo_some h
    exact r_iret F h d9_paid_27
theorem d9_quiet_0 : decode c9_quiet 0 = .ok (.aload_n 0, 1) := by decide +kernel
theorem d9_quiet_1 : decode c9_quiet 1 = .ok (.invokevirtual 159, 3) := by decide +kernel
theorem d9_quiet_4 : decode c9_quiet 4 = .ok (.ifCond .ne 6, 3) := by decide +kernel
theorem d9_quiet_7 : decode c9_quiet 7 = .ok (.bipush (-2), 2) := by decide +kernel
theorem d9_quiet_9 : decode c9_quiet 9 = .ok (.ireturn, 1) := by decide +kernel
theorem d9_quiet_10 : decode c9_quiet 10 = .ok (.iconst 0, 1) := by decide +kernel
theorem d9_quiet_11 : decode c9_quiet 11 = .ok (.istore_n 1, 1) := by decide +kernel
theorem d9_quiet_12 : decode c9_quiet 12 = .ok (.iconst 0, 1) := by decide +kernel
theorem d9_quiet_13 : decode c9_quiet 13 = .ok (.istore_n 2, 1) := by decide +kernel
theorem d9_quiet_14 : decode c9_quiet 14 = .ok (.iload_n 2, 1) := by decide +kernel
theorem d9_quiet_15 : decode c9_quiet 15 = .ok (.aload_n 0, 1) := by decide +kernel
theorem d9_quiet_16 : decode c9_quiet 16 = .ok (.getfield 28, 3) := by decide +kernel
theorem d9_quiet_19 : decode c9_quiet 19 = .ok (.getfield 168, 3) := by decide +kernel
theorem d9_quiet_22 : decode c9_quiet 22 = .ok (.if_icmp .ge 27, 3) := by decide +kernel
theorem d9_quiet_25 : decode c9_quiet 25 = .ok (.aload_n 0, 1) := by decide +kernel
theorem d9_quiet_26 : decode c9_quiet 26 = .ok (.getfield 51, 3) := by decide +kernel
theorem d9_quiet_29 : decode c9_quiet 29 = .ok (.getfield 156, 3) := by decide +kernel
theorem d9_quiet_32 : decode c9_quiet 32 = .ok (.iload_n 2, 1) := by decide +kernel
theorem d9_quiet_33 : decode c9_quiet 33 = .ok (.iaload, 1) := by decide +kernel
theorem d9_quiet_34 : decode c9_quiet 34 = .ok (.ifCond .ne 9, 3) := by decide +kernel
theorem d9_quiet_37 : decode c9_quiet 37 = .ok (.iload_n 1, 1) := by decide +kernel
theorem d9_quiet_38 : decode c9_quiet 38 = .ok (.iconst 1, 1) := by decide +kernel
theorem d9_quiet_39 : decode c9_quiet 39 = .ok (.iload_n 2, 1) := by decide +kernel
theorem d9_quiet_40 : decode c9_quiet 40 = .ok (.ishl, 1) := by decide +kernel
theorem d9_quiet_41 : decode c9_quiet 41 = .ok (.ior, 1) := by decide +kernel
theorem d9_quiet_42 : decode c9_quiet 42 = .ok (.istore_n 1, 1) := by decide +kernel
theorem d9_quiet_43 : decode c9_quiet 43 = .ok (.iinc 2 1, 3) := by decide +kernel
theorem d9_quiet_46 : decode c9_quiet 46 = .ok (.goto (-32), 3) := by decide +kernel
theorem d9_quiet_49 : decode c9_quiet 49 = .ok (.iload_n 1, 1) := by decide +kernel
theorem d9_quiet_50 : decode c9_quiet 50 = .ok (.ireturn, 1) := by decide +kernel
def f9_quiet (D : Mem) : Option (Int) :=
  Option.bind (f9_isThere D) fun (a1 : Int) =>
  if w32 a1 = 0 then
    some (-2)
  else
    Option.bind (@loop (Int × Int) (Int) (fun s1 =>
      if w32 s1.2 < w32 (D 12 1) then
        if 0 ≤ s1.2 ∧ s1.2 < 12 then
          Option.bind (
            if w32 (D 33 s1.2.toNat) = 0 then
              some (or32 s1.1 (shl32 1 s1.2))
            else
              some s1.1
          ) fun (j1 : Int) =>
          some (Sum.inl (j1, (s1.2 + 1)))
        else none
      else
        some (Sum.inr s1.1)
    ) FU (0, 0)) fun (b1 : Int) =>
    some b1
set_option maxHeartbeats 4000000 in
theorem ok9_quiet {l : Launch} {X : XT} {n : Nat} {D : Mem} {Q : Option Value → Nat → Rho → Mem → Prop} (hn : 117 ≤ n)  (h : wpo (f9_quiet D) (fun a => Q (some (vI a)) n rt D)) : MOK l y9_quiet c9_quiet 3 (some .int) { frames := 1, cells := 0, slots := 0, locals := 20 } 0 0 X [vR X 0] n rt D Q := by
  refine MOK_of 9 (by decide +kernel) rfl (lv := [(0, vR X 0)]) (Nat.le_of_ble_eq_true rfl) rfl (fun K hK F hnm => ?_)
  subst hK
  unfold f9_quiet at h
  refine r_aload_nR F 0 rfl rfl d9_quiet_0 ?_
  replace h := wpo_bind h
  refine r_callV0 F lm9_159 mf9_isThere (vc0 hn) rfl (fr := 0) (lo := 0) (As := []) (rest := []) ⟨Nat.le_of_ble_eq_true rfl, Nat.le_of_ble_eq_true rfl⟩ rfl (Nat.le_of_ble_eq_true rfl) ⟨Nat.zero_le _, Nat.zero_le _⟩ d9_quiet_1 ?_
  refine ok9_isThere hn  (kI h (fun a1 h => ?_))
  refine r_if_ne F (tgt := 10) d9_quiet_4 (by decide) (fun hb => ?_) (fun hb => ?_)
  · replace h := wpo_neg h hb
    refine r_iconst F (z := 0) d9_quiet_10 ?_
    refine r_istore_n F (lv' := [(1, vI 0), (0, vR X 0)]) rfl (Nat.le_of_ble_eq_true rfl) rfl d9_quiet_11 ?_
    refine r_iconst F (z := 0) d9_quiet_12 ?_
    refine r_istore_n F (lv' := [(2, vI 0), (1, vI 0), (0, vR X 0)]) rfl (Nat.le_of_ble_eq_true rfl) rfl d9_quiet_13 ?_
    refine r_weak [2, 1, 0] rfl ?_
    refine at_loopj (A := fun (s1 : Int × Int) => At K X (ZQ K X Q) 0 0 n rt 3 14 [(0, vR X 0), (1, vI s1.1), (2, vI s1.2)] [] D) (B := fun (b1 : Int) => At K X (ZQ K X Q) 0 0 n rt 3 49 [(1, vI b1)] [] D) h (fun b1 h => ?_) (fun s1 h => ?_)
    · refine r_iload_n F 0 rfl rfl d9_quiet_49 ?_
      replace h := wpo_some h
      exact r_iret F h d9_quiet_50
    · refine r_iload_n F 2 rfl rfl d9_quiet_14 ?_
      refine r_aload_nR F 0 rfl rfl d9_quiet_15 ?_
      refine r_getR F (z := 12) lf9_28 (vc0 hn) z0_2 d9_quiet_16 ?_
      refine r_getI F lf9_168 (vc12 hn) d9_quiet_19 ?_
      refine r_icmp_ge F (tgt := 49) d9_quiet_22 (by decide) (fun hb => ?_) (fun hb => ?_)
      · replace h := wpo_neg h hb
        refine r_weak [1] rfl ?_
        replace h := wpo_inr h
        exact h
      · replace h := wpo_pos h hb
        refine r_aload_nR F 0 rfl rfl d9_quiet_25 ?_
        refine r_getR F (z := 23) lf9_51 (vc0 hn) z0_6 d9_quiet_26 ?_
        refine r_getR F (z := 33) lf9_156 (vc23 hn) z23_14 d9_quiet_29 ?_
        refine r_iload_n F 2 rfl rfl d9_quiet_32 ?_
        obtain ⟨hx1, h⟩ := wpo_chk h
        refine r_iald F (vc33 hn) hx1 d9_quiet_33 ?_
        refine at_join (B := fun (j1 : Int) => At K X (ZQ K X Q) 0 0 n rt 3 43 [(0, vR X 0), (1, vI j1), (2, vI s1.2)] [] D) h (fun j1 h => ?_) (fun h => ?_)
        · refine r_iinc F 2 (lv' := [(2, vI (s1.2 + 1)), (0, vR X 0), (1, vI j1)]) rfl (Nat.le_of_ble_eq_true rfl) rfl d9_quiet_43 ?_
          refine r_goto F (tgt := 14) (by decide) d9_quiet_46 ?_
          refine r_weak [1, 2, 0] rfl ?_
          replace h := wpo_inl h
          exact h
        · refine r_if_ne F (tgt := 43) d9_quiet_34 (by decide) (fun hb => ?_) (fun hb => ?_)
          · replace h := wpo_neg h hb
            replace h := wpo_some h
            exact h
          · replace h := wpo_pos h hb
            refine r_iload_n F 1 rfl rfl d9_quiet_37 ?_
            refine r_iconst F (z := 1) d9_quiet_38 ?_
            refine r_iload_n F 2 rfl rfl d9_quiet_39 ?_
            refine r_ishl F d9_quiet_40 ?_
            refine r_ior F d9_quiet_41 ?_
            refine r_istore_n F (lv' := [(1, vI (or32 s1.1 (shl32 1 s1.2))), (0, vR X 0), (2, vI s1.2)]) rfl (Nat.le_of_ble_eq_true rfl) rfl d9_quiet_42 ?_
            refine r_weak [1, 0, 2] rfl ?_
            replace h := wpo_some h
            exact h
  · replace h := wpo_pos h hb
    refine r_bipush F (z := (-2)) (by decide) d9_quiet_7 ?_
    replace h := wpo_some h
    exact r_iret F h d9_quiet_9
theorem d9_kept_0 : decode c9_kept 0 = .ok (.aload_n 0, 1) := by decide +kernel
theorem d9_kept_1 : decode c9_kept 1 = .ok (.invokevirtual 159, 3) := by decide +kernel
theorem d9_kept_4 : decode c9_kept 4 = .ok (.ifCond .ne 6, 3) := by decide +kernel
theorem d9_kept_7 : decode c9_kept 7 = .ok (.bipush (-2), 2) := by decide +kernel
theorem d9_kept_9 : decode c9_kept 9 = .ok (.ireturn, 1) := by decide +kernel
theorem d9_kept_10 : decode c9_kept 10 = .ok (.iconst 0, 1) := by decide +kernel
theorem d9_kept_11 : decode c9_kept 11 = .ok (.istore_n 1, 1) := by decide +kernel
theorem d9_kept_12 : decode c9_kept 12 = .ok (.iconst 0, 1) := by decide +kernel
theorem d9_kept_13 : decode c9_kept 13 = .ok (.istore_n 2, 1) := by decide +kernel
theorem d9_kept_14 : decode c9_kept 14 = .ok (.iload_n 2, 1) := by decide +kernel
theorem d9_kept_15 : decode c9_kept 15 = .ok (.aload_n 0, 1) := by decide +kernel
theorem d9_kept_16 : decode c9_kept 16 = .ok (.getfield 28, 3) := by decide +kernel
theorem d9_kept_19 : decode c9_kept 19 = .ok (.getfield 165, 3) := by decide +kernel
theorem d9_kept_22 : decode c9_kept 22 = .ok (.if_icmp .ge 28, 3) := by decide +kernel
theorem d9_kept_25 : decode c9_kept 25 = .ok (.aload_n 0, 1) := by decide +kernel
theorem d9_kept_26 : decode c9_kept 26 = .ok (.getfield 51, 3) := by decide +kernel
theorem d9_kept_29 : decode c9_kept 29 = .ok (.getfield 140, 3) := by decide +kernel
theorem d9_kept_32 : decode c9_kept 32 = .ok (.iload_n 2, 1) := by decide +kernel
theorem d9_kept_33 : decode c9_kept 33 = .ok (.iaload, 1) := by decide +kernel
theorem d9_kept_34 : decode c9_kept 34 = .ok (.iconst (-1), 1) := by decide +kernel
theorem d9_kept_35 : decode c9_kept 35 = .ok (.if_icmp .ne 9, 3) := by decide +kernel
theorem d9_kept_38 : decode c9_kept 38 = .ok (.iload_n 1, 1) := by decide +kernel
theorem d9_kept_39 : decode c9_kept 39 = .ok (.iconst 1, 1) := by decide +kernel
theorem d9_kept_40 : decode c9_kept 40 = .ok (.iload_n 2, 1) := by decide +kernel
theorem d9_kept_41 : decode c9_kept 41 = .ok (.ishl, 1) := by decide +kernel
theorem d9_kept_42 : decode c9_kept 42 = .ok (.ior, 1) := by decide +kernel
theorem d9_kept_43 : decode c9_kept 43 = .ok (.istore_n 1, 1) := by decide +kernel
theorem d9_kept_44 : decode c9_kept 44 = .ok (.iinc 2 1, 3) := by decide +kernel
theorem d9_kept_47 : decode c9_kept 47 = .ok (.goto (-33), 3) := by decide +kernel
theorem d9_kept_50 : decode c9_kept 50 = .ok (.iload_n 1, 1) := by decide +kernel
theorem d9_kept_51 : decode c9_kept 51 = .ok (.ireturn, 1) := by decide +kernel
def f9_kept (D : Mem) : Option (Int) :=
  Option.bind (f9_isThere D) fun (a1 : Int) =>
  if w32 a1 = 0 then
    some (-2)
  else
    Option.bind (@loop (Int × Int) (Int) (fun s1 =>
      if w32 s1.2 < w32 (D 12 8) then
        if 0 ≤ s1.2 ∧ s1.2 < 8 then
          Option.bind (
            if w32 (D 28 s1.2.toNat) = w32 (-1) then
              some (or32 s1.1 (shl32 1 s1.2))
            else
              some s1.1
          ) fun (j1 : Int) =>
          some (Sum.inl (j1, (s1.2 + 1)))
        else none
      else
        some (Sum.inr s1.1)
    ) FU (0, 0)) fun (b1 : Int) =>
    some b1
set_option maxHeartbeats 4000000 in
theorem ok9_kept {l : Launch} {X : XT} {n : Nat} {D : Mem} {Q : Option Value → Nat → Rho → Mem → Prop} (hn : 117 ≤ n)  (h : wpo (f9_kept D) (fun a => Q (some (vI a)) n rt D)) : MOK l y9_kept c9_kept 3 (some .int) { frames := 1, cells := 0, slots := 0, locals := 20 } 0 0 X [vR X 0] n rt D Q := by
  refine MOK_of 9 (by decide +kernel) rfl (lv := [(0, vR X 0)]) (Nat.le_of_ble_eq_true rfl) rfl (fun K hK F hnm => ?_)
  subst hK
  unfold f9_kept at h
  refine r_aload_nR F 0 rfl rfl d9_kept_0 ?_
  replace h := wpo_bind h
  refine r_callV0 F lm9_159 mf9_isThere (vc0 hn) rfl (fr := 0) (lo := 0) (As := []) (rest := []) ⟨Nat.le_of_ble_eq_true rfl, Nat.le_of_ble_eq_true rfl⟩ rfl (Nat.le_of_ble_eq_true rfl) ⟨Nat.zero_le _, Nat.zero_le _⟩ d9_kept_1 ?_
  refine ok9_isThere hn  (kI h (fun a1 h => ?_))
  refine r_if_ne F (tgt := 10) d9_kept_4 (by decide) (fun hb => ?_) (fun hb => ?_)
  · replace h := wpo_neg h hb
    refine r_iconst F (z := 0) d9_kept_10 ?_
    refine r_istore_n F (lv' := [(1, vI 0), (0, vR X 0)]) rfl (Nat.le_of_ble_eq_true rfl) rfl d9_kept_11 ?_
    refine r_iconst F (z := 0) d9_kept_12 ?_
    refine r_istore_n F (lv' := [(2, vI 0), (1, vI 0), (0, vR X 0)]) rfl (Nat.le_of_ble_eq_true rfl) rfl d9_kept_13 ?_
    refine r_weak [2, 1, 0] rfl ?_
    refine at_loopj (A := fun (s1 : Int × Int) => At K X (ZQ K X Q) 0 0 n rt 3 14 [(0, vR X 0), (1, vI s1.1), (2, vI s1.2)] [] D) (B := fun (b1 : Int) => At K X (ZQ K X Q) 0 0 n rt 3 50 [(1, vI b1)] [] D) h (fun b1 h => ?_) (fun s1 h => ?_)
    · refine r_iload_n F 0 rfl rfl d9_kept_50 ?_
      replace h := wpo_some h
      exact r_iret F h d9_kept_51
    · refine r_iload_n F 2 rfl rfl d9_kept_14 ?_
      refine r_aload_nR F 0 rfl rfl d9_kept_15 ?_
      refine r_getR F (z := 12) lf9_28 (vc0 hn) z0_2 d9_kept_16 ?_
      refine r_getI F lf9_165 (vc12 hn) d9_kept_19 ?_
      refine r_icmp_ge F (tgt := 50) d9_kept_22 (by decide) (fun hb => ?_) (fun hb => ?_)
      · replace h := wpo_neg h hb
        refine r_weak [1] rfl ?_
        replace h := wpo_inr h
        exact h
      · replace h := wpo_pos h hb
        refine r_aload_nR F 0 rfl rfl d9_kept_25 ?_
        refine r_getR F (z := 23) lf9_51 (vc0 hn) z0_6 d9_kept_26 ?_
        refine r_getR F (z := 28) lf9_140 (vc23 hn) z23_9 d9_kept_29 ?_
        refine r_iload_n F 2 rfl rfl d9_kept_32 ?_
        obtain ⟨hx1, h⟩ := wpo_chk h
        refine r_iald F (vc28 hn) hx1 d9_kept_33 ?_
        refine r_iconst F (z := (-1)) d9_kept_34 ?_
        refine at_join (B := fun (j1 : Int) => At K X (ZQ K X Q) 0 0 n rt 3 44 [(0, vR X 0), (1, vI j1), (2, vI s1.2)] [] D) h (fun j1 h => ?_) (fun h => ?_)
        · refine r_iinc F 2 (lv' := [(2, vI (s1.2 + 1)), (0, vR X 0), (1, vI j1)]) rfl (Nat.le_of_ble_eq_true rfl) rfl d9_kept_44 ?_
          refine r_goto F (tgt := 14) (by decide) d9_kept_47 ?_
          refine r_weak [1, 2, 0] rfl ?_
          replace h := wpo_inl h
          exact h
        · refine r_icmp_ne F (tgt := 44) d9_kept_35 (by decide) (fun hb => ?_) (fun hb => ?_)
          · replace h := wpo_neg h hb
            replace h := wpo_some h
            exact h
          · replace h := wpo_pos h hb
            refine r_iload_n F 1 rfl rfl d9_kept_38 ?_
            refine r_iconst F (z := 1) d9_kept_39 ?_
            refine r_iload_n F 2 rfl rfl d9_kept_40 ?_
            refine r_ishl F d9_kept_41 ?_
            refine r_ior F d9_kept_42 ?_
            refine r_istore_n F (lv' := [(1, vI (or32 s1.1 (shl32 1 s1.2))), (0, vR X 0), (2, vI s1.2)]) rfl (Nat.le_of_ble_eq_true rfl) rfl d9_kept_43 ?_
            refine r_weak [1, 0, 2] rfl ?_
            replace h := wpo_some h
            exact h
  · replace h := wpo_pos h hb
    refine r_bipush F (z := (-2)) (by decide) d9_kept_7 ?_
    replace h := wpo_some h
    exact r_iret F h d9_kept_9
theorem d9_idle_0 : decode c9_idle 0 = .ok (.aload_n 0, 1) := by decide +kernel
theorem d9_idle_1 : decode c9_idle 1 = .ok (.invokevirtual 159, 3) := by decide +kernel
theorem d9_idle_4 : decode c9_idle 4 = .ok (.ifCond .ne 6, 3) := by decide +kernel
theorem d9_idle_7 : decode c9_idle 7 = .ok (.bipush (-2), 2) := by decide +kernel
theorem d9_idle_9 : decode c9_idle 9 = .ok (.ireturn, 1) := by decide +kernel
theorem d9_idle_10 : decode c9_idle 10 = .ok (.iconst 0, 1) := by decide +kernel
theorem d9_idle_11 : decode c9_idle 11 = .ok (.istore_n 1, 1) := by decide +kernel
theorem d9_idle_12 : decode c9_idle 12 = .ok (.iconst 0, 1) := by decide +kernel
theorem d9_idle_13 : decode c9_idle 13 = .ok (.istore_n 2, 1) := by decide +kernel
theorem d9_idle_14 : decode c9_idle 14 = .ok (.iload_n 2, 1) := by decide +kernel
theorem d9_idle_15 : decode c9_idle 15 = .ok (.aload_n 0, 1) := by decide +kernel
theorem d9_idle_16 : decode c9_idle 16 = .ok (.getfield 28, 3) := by decide +kernel
theorem d9_idle_19 : decode c9_idle 19 = .ok (.getfield 168, 3) := by decide +kernel
theorem d9_idle_22 : decode c9_idle 22 = .ok (.if_icmp .ge 27, 3) := by decide +kernel
theorem d9_idle_25 : decode c9_idle 25 = .ok (.aload_n 0, 1) := by decide +kernel
theorem d9_idle_26 : decode c9_idle 26 = .ok (.getfield 51, 3) := by decide +kernel
theorem d9_idle_29 : decode c9_idle 29 = .ok (.getfield 146, 3) := by decide +kernel
theorem d9_idle_32 : decode c9_idle 32 = .ok (.iload_n 2, 1) := by decide +kernel
theorem d9_idle_33 : decode c9_idle 33 = .ok (.iaload, 1) := by decide +kernel
theorem d9_idle_34 : decode c9_idle 34 = .ok (.ifCond .ne 9, 3) := by decide +kernel
theorem d9_idle_37 : decode c9_idle 37 = .ok (.iload_n 1, 1) := by decide +kernel
theorem d9_idle_38 : decode c9_idle 38 = .ok (.iconst 1, 1) := by decide +kernel
theorem d9_idle_39 : decode c9_idle 39 = .ok (.iload_n 2, 1) := by decide +kernel
theorem d9_idle_40 : decode c9_idle 40 = .ok (.ishl, 1) := by decide +kernel
theorem d9_idle_41 : decode c9_idle 41 = .ok (.ior, 1) := by decide +kernel
theorem d9_idle_42 : decode c9_idle 42 = .ok (.istore_n 1, 1) := by decide +kernel
theorem d9_idle_43 : decode c9_idle 43 = .ok (.iinc 2 1, 3) := by decide +kernel
theorem d9_idle_46 : decode c9_idle 46 = .ok (.goto (-32), 3) := by decide +kernel
theorem d9_idle_49 : decode c9_idle 49 = .ok (.iload_n 1, 1) := by decide +kernel
theorem d9_idle_50 : decode c9_idle 50 = .ok (.ireturn, 1) := by decide +kernel
def f9_idle (D : Mem) : Option (Int) :=
  Option.bind (f9_isThere D) fun (a1 : Int) =>
  if w32 a1 = 0 then
    some (-2)
  else
    Option.bind (@loop (Int × Int) (Int) (fun s1 =>
      if w32 s1.2 < w32 (D 12 1) then
        if 0 ≤ s1.2 ∧ s1.2 < 12 then
          Option.bind (
            if w32 (D 30 s1.2.toNat) = 0 then
              some (or32 s1.1 (shl32 1 s1.2))
            else
              some s1.1
          ) fun (j1 : Int) =>
          some (Sum.inl (j1, (s1.2 + 1)))
        else none
      else
        some (Sum.inr s1.1)
    ) FU (0, 0)) fun (b1 : Int) =>
    some b1
set_option maxHeartbeats 4000000 in
theorem ok9_idle {l : Launch} {X : XT} {n : Nat} {D : Mem} {Q : Option Value → Nat → Rho → Mem → Prop} (hn : 117 ≤ n)  (h : wpo (f9_idle D) (fun a => Q (some (vI a)) n rt D)) : MOK l y9_idle c9_idle 3 (some .int) { frames := 1, cells := 0, slots := 0, locals := 20 } 0 0 X [vR X 0] n rt D Q := by
  refine MOK_of 9 (by decide +kernel) rfl (lv := [(0, vR X 0)]) (Nat.le_of_ble_eq_true rfl) rfl (fun K hK F hnm => ?_)
  subst hK
  unfold f9_idle at h
  refine r_aload_nR F 0 rfl rfl d9_idle_0 ?_
  replace h := wpo_bind h
  refine r_callV0 F lm9_159 mf9_isThere (vc0 hn) rfl (fr := 0) (lo := 0) (As := []) (rest := []) ⟨Nat.le_of_ble_eq_true rfl, Nat.le_of_ble_eq_true rfl⟩ rfl (Nat.le_of_ble_eq_true rfl) ⟨Nat.zero_le _, Nat.zero_le _⟩ d9_idle_1 ?_
  refine ok9_isThere hn  (kI h (fun a1 h => ?_))
  refine r_if_ne F (tgt := 10) d9_idle_4 (by decide) (fun hb => ?_) (fun hb => ?_)
  · replace h := wpo_neg h hb
    refine r_iconst F (z := 0) d9_idle_10 ?_
    refine r_istore_n F (lv' := [(1, vI 0), (0, vR X 0)]) rfl (Nat.le_of_ble_eq_true rfl) rfl d9_idle_11 ?_
    refine r_iconst F (z := 0) d9_idle_12 ?_
    refine r_istore_n F (lv' := [(2, vI 0), (1, vI 0), (0, vR X 0)]) rfl (Nat.le_of_ble_eq_true rfl) rfl d9_idle_13 ?_
    refine r_weak [2, 1, 0] rfl ?_
    refine at_loopj (A := fun (s1 : Int × Int) => At K X (ZQ K X Q) 0 0 n rt 3 14 [(0, vR X 0), (1, vI s1.1), (2, vI s1.2)] [] D) (B := fun (b1 : Int) => At K X (ZQ K X Q) 0 0 n rt 3 49 [(1, vI b1)] [] D) h (fun b1 h => ?_) (fun s1 h => ?_)
    · refine r_iload_n F 0 rfl rfl d9_idle_49 ?_
      replace h := wpo_some h
      exact r_iret F h d9_idle_50
    · refine r_iload_n F 2 rfl rfl d9_idle_14 ?_
      refine r_aload_nR F 0 rfl rfl d9_idle_15 ?_
      refine r_getR F (z := 12) lf9_28 (vc0 hn) z0_2 d9_idle_16 ?_
      refine r_getI F lf9_168 (vc12 hn) d9_idle_19 ?_
      refine r_icmp_ge F (tgt := 49) d9_idle_22 (by decide) (fun hb => ?_) (fun hb => ?_)
      · replace h := wpo_neg h hb
        refine r_weak [1] rfl ?_
        replace h := wpo_inr h
        exact h
      · replace h := wpo_pos h hb
        refine r_aload_nR F 0 rfl rfl d9_idle_25 ?_
        refine r_getR F (z := 23) lf9_51 (vc0 hn) z0_6 d9_idle_26 ?_
        refine r_getR F (z := 30) lf9_146 (vc23 hn) z23_11 d9_idle_29 ?_
        refine r_iload_n F 2 rfl rfl d9_idle_32 ?_
        obtain ⟨hx1, h⟩ := wpo_chk h
        refine r_iald F (vc30 hn) hx1 d9_idle_33 ?_
        refine at_join (B := fun (j1 : Int) => At K X (ZQ K X Q) 0 0 n rt 3 43 [(0, vR X 0), (1, vI j1), (2, vI s1.2)] [] D) h (fun j1 h => ?_) (fun h => ?_)
        · refine r_iinc F 2 (lv' := [(2, vI (s1.2 + 1)), (0, vR X 0), (1, vI j1)]) rfl (Nat.le_of_ble_eq_true rfl) rfl d9_idle_43 ?_
          refine r_goto F (tgt := 14) (by decide) d9_idle_46 ?_
          refine r_weak [1, 2, 0] rfl ?_
          replace h := wpo_inl h
          exact h
        · refine r_if_ne F (tgt := 43) d9_idle_34 (by decide) (fun hb => ?_) (fun hb => ?_)
          · replace h := wpo_neg h hb
            replace h := wpo_some h
            exact h
          · replace h := wpo_pos h hb
            refine r_iload_n F 1 rfl rfl d9_idle_37 ?_
            refine r_iconst F (z := 1) d9_idle_38 ?_
            refine r_iload_n F 2 rfl rfl d9_idle_39 ?_
            refine r_ishl F d9_idle_40 ?_
            refine r_ior F d9_idle_41 ?_
            refine r_istore_n F (lv' := [(1, vI (or32 s1.1 (shl32 1 s1.2))), (0, vR X 0), (2, vI s1.2)]) rfl (Nat.le_of_ble_eq_true rfl) rfl d9_idle_42 ?_
            refine r_weak [1, 0, 2] rfl ?_
            replace h := wpo_some h
            exact h
  · replace h := wpo_pos h hb
    refine r_bipush F (z := (-2)) (by decide) d9_idle_7 ?_
    replace h := wpo_some h
    exact r_iret F h d9_idle_9
theorem d9_big_0 : decode c9_big 0 = .ok (.aload_n 0, 1) := by decide +kernel
theorem d9_big_1 : decode c9_big 1 = .ok (.iload_n 1, 1) := by decide +kernel
theorem d9_big_2 : decode c9_big 2 = .ok (.invokevirtual 143, 3) := by decide +kernel
theorem d9_big_5 : decode c9_big 5 = .ok (.ifCond .ne 6, 3) := by decide +kernel
theorem d9_big_8 : decode c9_big 8 = .ok (.bipush (-2), 2) := by decide +kernel
theorem d9_big_10 : decode c9_big 10 = .ok (.ireturn, 1) := by decide +kernel
theorem d9_big_11 : decode c9_big 11 = .ok (.iconst (-1), 1) := by decide +kernel
theorem d9_big_12 : decode c9_big 12 = .ok (.istore_n 2, 1) := by decide +kernel
theorem d9_big_13 : decode c9_big 13 = .ok (.iconst 0, 1) := by decide +kernel
theorem d9_big_14 : decode c9_big 14 = .ok (.istore_n 3, 1) := by decide +kernel
theorem d9_big_15 : decode c9_big 15 = .ok (.iconst 0, 1) := by decide +kernel
theorem d9_big_16 : decode c9_big 16 = .ok (.istore 4, 2) := by decide +kernel
theorem d9_big_18 : decode c9_big 18 = .ok (.iload 4, 2) := by decide +kernel
theorem d9_big_20 : decode c9_big 20 = .ok (.aload_n 0, 1) := by decide +kernel
theorem d9_big_21 : decode c9_big 21 = .ok (.getfield 28, 3) := by decide +kernel
theorem d9_big_24 : decode c9_big 24 = .ok (.getfield 165, 3) := by decide +kernel
theorem d9_big_27 : decode c9_big 27 = .ok (.if_icmp .ge 51, 3) := by decide +kernel
theorem d9_big_30 : decode c9_big 30 = .ok (.aload_n 0, 1) := by decide +kernel
theorem d9_big_31 : decode c9_big 31 = .ok (.getfield 51, 3) := by decide +kernel
theorem d9_big_34 : decode c9_big 34 = .ok (.getfield 140, 3) := by decide +kernel
theorem d9_big_37 : decode c9_big 37 = .ok (.iload 4, 2) := by decide +kernel
theorem d9_big_39 : decode c9_big 39 = .ok (.iaload, 1) := by decide +kernel
theorem d9_big_40 : decode c9_big 40 = .ok (.iload_n 1, 1) := by decide +kernel
theorem d9_big_41 : decode c9_big 41 = .ok (.if_icmp .ne 31, 3) := by decide +kernel
theorem d9_big_44 : decode c9_big 44 = .ok (.aload_n 0, 1) := by decide +kernel
theorem d9_big_45 : decode c9_big 45 = .ok (.getfield 28, 3) := by decide +kernel
theorem d9_big_48 : decode c9_big 48 = .ok (.getfield 128, 3) := by decide +kernel
theorem d9_big_51 : decode c9_big 51 = .ok (.iload 4, 2) := by decide +kernel
theorem d9_big_53 : decode c9_big 53 = .ok (.iaload, 1) := by decide +kernel
theorem d9_big_54 : decode c9_big 54 = .ok (.iload_n 3, 1) := by decide +kernel
theorem d9_big_55 : decode c9_big 55 = .ok (.if_icmp .le 17, 3) := by decide +kernel
theorem d9_big_58 : decode c9_big 58 = .ok (.aload_n 0, 1) := by decide +kernel
theorem d9_big_59 : decode c9_big 59 = .ok (.getfield 28, 3) := by decide +kernel
theorem d9_big_62 : decode c9_big 62 = .ok (.getfield 128, 3) := by decide +kernel
theorem d9_big_65 : decode c9_big 65 = .ok (.iload 4, 2) := by decide +kernel
theorem d9_big_67 : decode c9_big 67 = .ok (.iaload, 1) := by decide +kernel
theorem d9_big_68 : decode c9_big 68 = .ok (.istore_n 3, 1) := by decide +kernel
theorem d9_big_69 : decode c9_big 69 = .ok (.iload 4, 2) := by decide +kernel
theorem d9_big_71 : decode c9_big 71 = .ok (.istore_n 2, 1) := by decide +kernel
theorem d9_big_72 : decode c9_big 72 = .ok (.iinc 4 1, 3) := by decide +kernel
theorem d9_big_75 : decode c9_big 75 = .ok (.goto (-57), 3) := by decide +kernel
theorem d9_big_78 : decode c9_big 78 = .ok (.iload_n 2, 1) := by decide +kernel
theorem d9_big_79 : decode c9_big 79 = .ok (.ireturn, 1) := by decide +kernel
def f9_big (D : Mem) (p0 : Int) : Option (Int) :=
  Option.bind (f9_isNight D p0) fun (a1 : Int) =>
  if w32 a1 = 0 then
    some (-2)
  else
    Option.bind (@loop (Int × Int × Int) (Int) (fun s1 =>
      if w32 s1.2.2 < w32 (D 12 8) then
        if 0 ≤ s1.2.2 ∧ s1.2.2 < 8 then
          Option.bind (
            if w32 (D 28 s1.2.2.toNat) = w32 p0 then
              if w32 s1.2.1 < w32 (D 13 s1.2.2.toNat) then
                Option.bind (some (D 13 s1.2.2.toNat)) fun (v1 : Int) =>
                some (s1.2.2, v1)
              else
                some (s1.1, s1.2.1)
            else
              some (s1.1, s1.2.1)
          ) fun (j1 : Int × Int) =>
          some (Sum.inl (j1.1, j1.2, (s1.2.2 + 1)))
        else none
      else
        some (Sum.inr s1.1)
    ) FU ((-1), 0, 0)) fun (b1 : Int) =>
    some b1
set_option maxHeartbeats 4000000 in
theorem ok9_big {l : Launch} {X : XT} {n : Nat} {D : Mem} {Q : Option Value → Nat → Rho → Mem → Prop} (hn : 117 ≤ n) {p0 : Int}  (h : wpo (f9_big D p0) (fun a => Q (some (vI a)) n rt D)) : MOK l y9_big c9_big 5 (some .int) { frames := 1, cells := 0, slots := 0, locals := 21 } 0 0 X [vR X 0, vI p0] n rt D Q := by
  refine MOK_of 9 (by decide +kernel) rfl (lv := [(0, vR X 0), (1, vI p0)]) (Nat.le_of_ble_eq_true rfl) rfl (fun K hK F hnm => ?_)
  subst hK
  unfold f9_big at h
  refine r_aload_nR F 0 rfl rfl d9_big_0 ?_
  refine r_iload_n F 1 rfl rfl d9_big_1 ?_
  replace h := wpo_bind h
  refine r_callV0 F lm9_143 mf9_isNight (vc0 hn) rfl (fr := 0) (lo := 0) (As := [vI p0]) (rest := []) ⟨Nat.le_of_ble_eq_true rfl, Nat.le_of_ble_eq_true rfl⟩ rfl (Nat.le_of_ble_eq_true rfl) ⟨Nat.zero_le _, Nat.zero_le _⟩ d9_big_2 ?_
  refine ok9_isNight hn  (kI h (fun a1 h => ?_))
  refine r_if_ne F (tgt := 11) d9_big_5 (by decide) (fun hb => ?_) (fun hb => ?_)
  · replace h := wpo_neg h hb
    refine r_iconst F (z := (-1)) d9_big_11 ?_
    refine r_istore_n F (lv' := [(2, vI (-1)), (0, vR X 0), (1, vI p0)]) rfl (Nat.le_of_ble_eq_true rfl) rfl d9_big_12 ?_
    refine r_iconst F (z := 0) d9_big_13 ?_
    refine r_istore_n F (lv' := [(3, vI 0), (2, vI (-1)), (0, vR X 0), (1, vI p0)]) rfl (Nat.le_of_ble_eq_true rfl) rfl d9_big_14 ?_
    refine r_iconst F (z := 0) d9_big_15 ?_
    refine r_istore F (lv' := [(4, vI 0), (3, vI 0), (2, vI (-1)), (0, vR X 0), (1, vI p0)]) (Nat.le_of_ble_eq_true rfl) rfl d9_big_16 ?_
    refine r_weak [3, 4, 2, 1, 0] rfl ?_
    refine at_loopj (A := fun (s1 : Int × Int × Int) => At K X (ZQ K X Q) 0 0 n rt 5 18 [(0, vR X 0), (1, vI p0), (2, vI s1.1), (3, vI s1.2.1), (4, vI s1.2.2)] [] D) (B := fun (b1 : Int) => At K X (ZQ K X Q) 0 0 n rt 5 78 [(2, vI b1)] [] D) h (fun b1 h => ?_) (fun s1 h => ?_)
    · refine r_iload_n F 0 rfl rfl d9_big_78 ?_
      replace h := wpo_some h
      exact r_iret F h d9_big_79
    · refine r_iload F 4 rfl d9_big_18 ?_
      refine r_aload_nR F 0 rfl rfl d9_big_20 ?_
      refine r_getR F (z := 12) lf9_28 (vc0 hn) z0_2 d9_big_21 ?_
      refine r_getI F lf9_165 (vc12 hn) d9_big_24 ?_
      refine r_icmp_ge F (tgt := 78) d9_big_27 (by decide) (fun hb => ?_) (fun hb => ?_)
      · replace h := wpo_neg h hb
        refine r_weak [2] rfl ?_
        replace h := wpo_inr h
        exact h
      · replace h := wpo_pos h hb
        refine r_aload_nR F 0 rfl rfl d9_big_30 ?_
        refine r_getR F (z := 23) lf9_51 (vc0 hn) z0_6 d9_big_31 ?_
        refine r_getR F (z := 28) lf9_140 (vc23 hn) z23_9 d9_big_34 ?_
        refine r_iload F 4 rfl d9_big_37 ?_
        obtain ⟨hx1, h⟩ := wpo_chk h
        refine r_iald F (vc28 hn) hx1 d9_big_39 ?_
        refine r_iload_n F 1 rfl rfl d9_big_40 ?_
        refine at_join (B := fun (j1 : Int × Int) => At K X (ZQ K X Q) 0 0 n rt 5 72 [(0, vR X 0), (1, vI p0), (2, vI j1.1), (3, vI j1.2), (4, vI s1.2.2)] [] D) h (fun j1 h => ?_) (fun h => ?_)
        · refine r_iinc F 4 (lv' := [(4, vI (s1.2.2 + 1)), (0, vR X 0), (1, vI p0), (2, vI j1.1), (3, vI j1.2)]) rfl (Nat.le_of_ble_eq_true rfl) rfl d9_big_72 ?_
          refine r_goto F (tgt := 18) (by decide) d9_big_75 ?_
          refine r_weak [1, 2, 3, 4, 0] rfl ?_
          replace h := wpo_inl h
          exact h
        · refine r_icmp_ne F (tgt := 72) d9_big_41 (by decide) (fun hb => ?_) (fun hb => ?_)
          · replace h := wpo_neg h hb
            replace h := wpo_some h
            exact h
          · replace h := wpo_pos h hb
            refine r_aload_nR F 0 rfl rfl d9_big_44 ?_
            refine r_getR F (z := 12) lf9_28 (vc0 hn) z0_2 d9_big_45 ?_
            refine r_getR F (z := 13) lf9_128 (vc12 hn) z12_10 d9_big_48 ?_
            refine r_iload F 4 rfl d9_big_51 ?_
            refine r_iald F (vc13 hn) hx1 d9_big_53 ?_
            refine r_iload_n F 3 rfl rfl d9_big_54 ?_
            refine r_icmp_le F (tgt := 72) d9_big_55 (by decide) (fun hb => ?_) (fun hb => ?_)
            · replace h := wpo_neg h hb
              replace h := wpo_some h
              exact h
            · replace h := wpo_pos h hb
              refine r_aload_nR F 0 rfl rfl d9_big_58 ?_
              refine r_getR F (z := 12) lf9_28 (vc0 hn) z0_2 d9_big_59 ?_
              refine r_getR F (z := 13) lf9_128 (vc12 hn) z12_10 d9_big_62 ?_
              refine r_iload F 4 rfl d9_big_65 ?_
              refine r_iald F (vc13 hn) hx1 d9_big_67 ?_
              refine r_istore_n F (lv' := [(3, vI (D 13 s1.2.2.toNat)), (0, vR X 0), (1, vI p0), (2, vI s1.1), (4, vI s1.2.2)]) rfl (Nat.le_of_ble_eq_true rfl) rfl d9_big_68 ?_
              refine at_name (B := fun (v1 : Int) => At K X (ZQ K X Q) 0 0 n rt 5 69 [(3, vI v1), (0, vR X 0), (1, vI p0), (2, vI s1.1), (4, vI s1.2.2)] [] D) h (fun v1 h => ?_)
              refine r_iload F 4 rfl d9_big_69 ?_
              refine r_istore_n F (lv' := [(2, vI s1.2.2), (3, vI v1), (0, vR X 0), (1, vI p0), (4, vI s1.2.2)]) rfl (Nat.le_of_ble_eq_true rfl) rfl d9_big_71 ?_
              refine r_weak [2, 3, 0, 1, 4] rfl ?_
              replace h := wpo_some h
              exact h
  · replace h := wpo_pos h hb
    refine r_bipush F (z := (-2)) (by decide) d9_big_8 ?_
    replace h := wpo_some h
    exact r_iret F h d9_big_10
theorem d9_last_0 : decode c9_last 0 = .ok (.aload_n 0, 1) := by decide +kernel
theorem d9_last_1 : decode c9_last 1 = .ok (.invokevirtual 159, 3) := by decide +kernel
theorem d9_last_4 : decode c9_last 4 = .ok (.ifCond .ne 6, 3) := by decide +kernel
theorem d9_last_7 : decode c9_last 7 = .ok (.bipush (-2), 2) := by decide +kernel
theorem d9_last_9 : decode c9_last 9 = .ok (.ireturn, 1) := by decide +kernel
theorem d9_last_10 : decode c9_last 10 = .ok (.iconst (-1), 1) := by decide +kernel
theorem d9_last_11 : decode c9_last 11 = .ok (.istore_n 1, 1) := by decide +kernel
theorem d9_last_12 : decode c9_last 12 = .ok (.iconst 0, 1) := by decide +kernel
theorem d9_last_13 : decode c9_last 13 = .ok (.istore_n 2, 1) := by decide +kernel
theorem d9_last_14 : decode c9_last 14 = .ok (.iload_n 2, 1) := by decide +kernel
theorem d9_last_15 : decode c9_last 15 = .ok (.aload_n 0, 1) := by decide +kernel
theorem d9_last_16 : decode c9_last 16 = .ok (.getfield 28, 3) := by decide +kernel
theorem d9_last_19 : decode c9_last 19 = .ok (.getfield 165, 3) := by decide +kernel
theorem d9_last_22 : decode c9_last 22 = .ok (.if_icmp .ge 23, 3) := by decide +kernel
theorem d9_last_25 : decode c9_last 25 = .ok (.iload_n 1, 1) := by decide +kernel
theorem d9_last_26 : decode c9_last 26 = .ok (.aload_n 0, 1) := by decide +kernel
theorem d9_last_27 : decode c9_last 27 = .ok (.getfield 51, 3) := by decide +kernel
theorem d9_last_30 : decode c9_last 30 = .ok (.getfield 140, 3) := by decide +kernel
theorem d9_last_33 : decode c9_last 33 = .ok (.iload_n 2, 1) := by decide +kernel
theorem d9_last_34 : decode c9_last 34 = .ok (.iaload, 1) := by decide +kernel
theorem d9_last_35 : decode c9_last 35 = .ok (.invokestatic 191, 3) := by decide +kernel
theorem d9_last_38 : decode c9_last 38 = .ok (.istore_n 1, 1) := by decide +kernel
theorem d9_last_39 : decode c9_last 39 = .ok (.iinc 2 1, 3) := by decide +kernel
theorem d9_last_42 : decode c9_last 42 = .ok (.goto (-28), 3) := by decide +kernel
theorem d9_last_45 : decode c9_last 45 = .ok (.iload_n 1, 1) := by decide +kernel
theorem d9_last_46 : decode c9_last 46 = .ok (.ireturn, 1) := by decide +kernel
def f9_last (D : Mem) : Option (Int) :=
  Option.bind (f9_isThere D) fun (a1 : Int) =>
  if w32 a1 = 0 then
    some (-2)
  else
    Option.bind (@loop (Int × Int) (Int) (fun s1 =>
      if w32 s1.2 < w32 (D 12 8) then
        if 0 ≤ s1.2 ∧ s1.2 < 8 then
          Option.bind (some (max32 s1.1 (D 28 s1.2.toNat))) fun (v1 : Int) =>
          some (Sum.inl (v1, (s1.2 + 1)))
        else none
      else
        some (Sum.inr s1.1)
    ) FU ((-1), 0)) fun (b1 : Int) =>
    some b1
set_option maxHeartbeats 4000000 in
theorem ok9_last {l : Launch} {X : XT} {n : Nat} {D : Mem} {Q : Option Value → Nat → Rho → Mem → Prop} (hn : 117 ≤ n)  (h : wpo (f9_last D) (fun a => Q (some (vI a)) n rt D)) : MOK l y9_last c9_last 3 (some .int) { frames := 1, cells := 0, slots := 0, locals := 23 } 0 0 X [vR X 0] n rt D Q := by
  refine MOK_of 9 (by decide +kernel) rfl (lv := [(0, vR X 0)]) (Nat.le_of_ble_eq_true rfl) rfl (fun K hK F hnm => ?_)
  subst hK
  unfold f9_last at h
  refine r_aload_nR F 0 rfl rfl d9_last_0 ?_
  replace h := wpo_bind h
  refine r_callV0 F lm9_159 mf9_isThere (vc0 hn) rfl (fr := 0) (lo := 0) (As := []) (rest := []) ⟨Nat.le_of_ble_eq_true rfl, Nat.le_of_ble_eq_true rfl⟩ rfl (Nat.le_of_ble_eq_true rfl) ⟨Nat.zero_le _, Nat.zero_le _⟩ d9_last_1 ?_
  refine ok9_isThere hn  (kI h (fun a1 h => ?_))
  refine r_if_ne F (tgt := 10) d9_last_4 (by decide) (fun hb => ?_) (fun hb => ?_)
  · replace h := wpo_neg h hb
    refine r_iconst F (z := (-1)) d9_last_10 ?_
    refine r_istore_n F (lv' := [(1, vI (-1)), (0, vR X 0)]) rfl (Nat.le_of_ble_eq_true rfl) rfl d9_last_11 ?_
    refine r_iconst F (z := 0) d9_last_12 ?_
    refine r_istore_n F (lv' := [(2, vI 0), (1, vI (-1)), (0, vR X 0)]) rfl (Nat.le_of_ble_eq_true rfl) rfl d9_last_13 ?_
    refine r_weak [2, 1, 0] rfl ?_
    refine at_loopj (A := fun (s1 : Int × Int) => At K X (ZQ K X Q) 0 0 n rt 3 14 [(0, vR X 0), (1, vI s1.1), (2, vI s1.2)] [] D) (B := fun (b1 : Int) => At K X (ZQ K X Q) 0 0 n rt 3 45 [(1, vI b1)] [] D) h (fun b1 h => ?_) (fun s1 h => ?_)
    · refine r_iload_n F 0 rfl rfl d9_last_45 ?_
      replace h := wpo_some h
      exact r_iret F h d9_last_46
    · refine r_iload_n F 2 rfl rfl d9_last_14 ?_
      refine r_aload_nR F 0 rfl rfl d9_last_15 ?_
      refine r_getR F (z := 12) lf9_28 (vc0 hn) z0_2 d9_last_16 ?_
      refine r_getI F lf9_165 (vc12 hn) d9_last_19 ?_
      refine r_icmp_ge F (tgt := 45) d9_last_22 (by decide) (fun hb => ?_) (fun hb => ?_)
      · replace h := wpo_neg h hb
        refine r_weak [1] rfl ?_
        replace h := wpo_inr h
        exact h
      · replace h := wpo_pos h hb
        refine r_iload_n F 1 rfl rfl d9_last_25 ?_
        refine r_aload_nR F 0 rfl rfl d9_last_26 ?_
        refine r_getR F (z := 23) lf9_51 (vc0 hn) z0_6 d9_last_27 ?_
        refine r_getR F (z := 28) lf9_140 (vc23 hn) z23_9 d9_last_30 ?_
        refine r_iload_n F 2 rfl rfl d9_last_33 ?_
        obtain ⟨hx1, h⟩ := wpo_chk h
        refine r_iald F (vc28 hn) hx1 d9_last_34 ?_
        refine r_max F lm9_191 wm1 wm0 wm2 ⟨Nat.le_of_ble_eq_true rfl, Nat.le_of_ble_eq_true rfl, Nat.le_of_ble_eq_true rfl, Nat.le_of_ble_eq_true rfl⟩ d9_last_35 ?_
        refine r_istore_n F (lv' := [(1, vI (max32 s1.1 (D 28 s1.2.toNat))), (0, vR X 0), (2, vI s1.2)]) rfl (Nat.le_of_ble_eq_true rfl) rfl d9_last_38 ?_
        refine at_name (B := fun (v1 : Int) => At K X (ZQ K X Q) 0 0 n rt 3 39 [(1, vI v1), (0, vR X 0), (2, vI s1.2)] [] D) h (fun v1 h => ?_)
        refine r_iinc F 2 (lv' := [(2, vI (s1.2 + 1)), (1, vI v1), (0, vR X 0)]) rfl (Nat.le_of_ble_eq_true rfl) rfl d9_last_39 ?_
        refine r_goto F (tgt := 14) (by decide) d9_last_42 ?_
        refine r_weak [2, 1, 0] rfl ?_
        replace h := wpo_inl h
        exact h
  · replace h := wpo_pos h hb
    refine r_bipush F (z := (-2)) (by decide) d9_last_7 ?_
    replace h := wpo_some h
    exact r_iret F h d9_last_9
theorem d9_gap_0 : decode c9_gap 0 = .ok (.aload_n 0, 1) := by decide +kernel
theorem d9_gap_1 : decode c9_gap 1 = .ok (.iload_n 1, 1) := by decide +kernel
theorem d9_gap_2 : decode c9_gap 2 = .ok (.invokevirtual 124, 3) := by decide +kernel
theorem d9_gap_5 : decode c9_gap 5 = .ok (.ifCond .ne 6, 3) := by decide +kernel
theorem d9_gap_8 : decode c9_gap 8 = .ok (.bipush (-2), 2) := by decide +kernel
theorem d9_gap_10 : decode c9_gap 10 = .ok (.ireturn, 1) := by decide +kernel
theorem d9_gap_11 : decode c9_gap 11 = .ok (.aload_n 0, 1) := by decide +kernel
theorem d9_gap_12 : decode c9_gap 12 = .ok (.getfield 51, 3) := by decide +kernel
theorem d9_gap_15 : decode c9_gap 15 = .ok (.getfield 140, 3) := by decide +kernel
theorem d9_gap_18 : decode c9_gap 18 = .ok (.iload_n 1, 1) := by decide +kernel
theorem d9_gap_19 : decode c9_gap 19 = .ok (.iaload, 1) := by decide +kernel
theorem d9_gap_20 : decode c9_gap 20 = .ok (.istore_n 2, 1) := by decide +kernel
theorem d9_gap_21 : decode c9_gap 21 = .ok (.iload_n 2, 1) := by decide +kernel
theorem d9_gap_22 : decode c9_gap 22 = .ok (.iconst (-1), 1) := by decide +kernel
theorem d9_gap_23 : decode c9_gap 23 = .ok (.if_icmp .ne 7, 3) := by decide +kernel
theorem d9_gap_26 : decode c9_gap 26 = .ok (.iconst (-1), 1) := by decide +kernel
theorem d9_gap_27 : decode c9_gap 27 = .ok (.goto 14, 3) := by decide +kernel
theorem d9_gap_30 : decode c9_gap 30 = .ok (.iload_n 2, 1) := by decide +kernel
theorem d9_gap_31 : decode c9_gap 31 = .ok (.aload_n 0, 1) := by decide +kernel
theorem d9_gap_32 : decode c9_gap 32 = .ok (.getfield 28, 3) := by decide +kernel
theorem d9_gap_35 : decode c9_gap 35 = .ok (.getfield 131, 3) := by decide +kernel
theorem d9_gap_38 : decode c9_gap 38 = .ok (.iload_n 1, 1) := by decide +kernel
theorem d9_gap_39 : decode c9_gap 39 = .ok (.iaload, 1) := by decide +kernel
theorem d9_gap_40 : decode c9_gap 40 = .ok (.isub, 1) := by decide +kernel
theorem d9_gap_41 : decode c9_gap 41 = .ok (.ireturn, 1) := by decide +kernel
def f9_gap (D : Mem) (p0 : Int) : Option (Int) :=
  Option.bind (f9_isPerson D p0) fun (a1 : Int) =>
  if w32 a1 = 0 then
    some (-2)
  else
    if 0 ≤ p0 ∧ p0 < 8 then
      if w32 (D 28 p0.toNat) = w32 (-1) then
        some (-1)
      else
        some ((D 28 p0.toNat) - (D 14 p0.toNat))
    else none
set_option maxHeartbeats 4000000 in
theorem ok9_gap {l : Launch} {X : XT} {n : Nat} {D : Mem} {Q : Option Value → Nat → Rho → Mem → Prop} (hn : 117 ≤ n) {p0 : Int}  (h : wpo (f9_gap D p0) (fun a => Q (some (vI a)) n rt D)) : MOK l y9_gap c9_gap 3 (some .int) { frames := 1, cells := 0, slots := 0, locals := 21 } 0 0 X [vR X 0, vI p0] n rt D Q := by
  refine MOK_of 9 (by decide +kernel) rfl (lv := [(0, vR X 0), (1, vI p0)]) (Nat.le_of_ble_eq_true rfl) rfl (fun K hK F hnm => ?_)
  subst hK
  unfold f9_gap at h
  refine r_aload_nR F 0 rfl rfl d9_gap_0 ?_
  refine r_iload_n F 1 rfl rfl d9_gap_1 ?_
  replace h := wpo_bind h
  refine r_callV0 F lm9_124 mf9_isPerson (vc0 hn) rfl (fr := 0) (lo := 0) (As := [vI p0]) (rest := []) ⟨Nat.le_of_ble_eq_true rfl, Nat.le_of_ble_eq_true rfl⟩ rfl (Nat.le_of_ble_eq_true rfl) ⟨Nat.zero_le _, Nat.zero_le _⟩ d9_gap_2 ?_
  refine ok9_isPerson hn  (kI h (fun a1 h => ?_))
  refine r_if_ne F (tgt := 11) d9_gap_5 (by decide) (fun hb => ?_) (fun hb => ?_)
  · replace h := wpo_neg h hb
    refine r_aload_nR F 0 rfl rfl d9_gap_11 ?_
    refine r_getR F (z := 23) lf9_51 (vc0 hn) z0_6 d9_gap_12 ?_
    refine r_getR F (z := 28) lf9_140 (vc23 hn) z23_9 d9_gap_15 ?_
    refine r_iload_n F 1 rfl rfl d9_gap_18 ?_
    obtain ⟨hx1, h⟩ := wpo_chk h
    refine r_iald F (vc28 hn) hx1 d9_gap_19 ?_
    refine r_istore_n F (lv' := [(2, vI (D 28 p0.toNat)), (0, vR X 0), (1, vI p0)]) rfl (Nat.le_of_ble_eq_true rfl) rfl d9_gap_20 ?_
    refine r_iload_n F 0 rfl rfl d9_gap_21 ?_
    refine r_iconst F (z := (-1)) d9_gap_22 ?_
    refine r_icmp_ne F (tgt := 30) d9_gap_23 (by decide) (fun hb => ?_) (fun hb => ?_)
    · replace h := wpo_neg h hb
      refine r_iload_n F 0 rfl rfl d9_gap_30 ?_
      refine r_aload_nR F 1 rfl rfl d9_gap_31 ?_
      refine r_getR F (z := 12) lf9_28 (vc0 hn) z0_2 d9_gap_32 ?_
      refine r_getR F (z := 14) lf9_131 (vc12 hn) z12_11 d9_gap_35 ?_
      refine r_iload_n F 2 rfl rfl d9_gap_38 ?_
      refine r_iald F (vc14 hn) hx1 d9_gap_39 ?_
      refine r_isub F d9_gap_40 ?_
      replace h := wpo_some h
      exact r_iret F h d9_gap_41
    · replace h := wpo_pos h hb
      refine r_iconst F (z := (-1)) d9_gap_26 ?_
      refine r_goto F (tgt := 41) (by decide) d9_gap_27 ?_
      replace h := wpo_some h
      exact r_iret F h d9_gap_41
  · replace h := wpo_pos h hb
    refine r_bipush F (z := (-2)) (by decide) d9_gap_8 ?_
    replace h := wpo_some h
    exact r_iret F h d9_gap_10
theorem d9_when_0 : decode c9_when 0 = .ok (.aload_n 0, 1) := by decide +kernel
theorem d9_when_1 : decode c9_when 1 = .ok (.invokevirtual 159, 3) := by decide +kernel
theorem d9_when_4 : decode c9_when 4 = .ok (.ifCond .eq 14, 3) := by decide +kernel
theorem d9_when_7 : decode c9_when 7 = .ok (.iload_n 1, 1) := by decide +kernel
theorem d9_when_8 : decode c9_when 8 = .ok (.iconst 1, 1) := by decide +kernel
theorem d9_when_9 : decode c9_when 9 = .ok (.if_icmp .lt 9, 3) := by decide +kernel
theorem d9_when_12 : decode c9_when 12 = .ok (.iload_n 1, 1) := by decide +kernel
theorem d9_when_13 : decode c9_when 13 = .ok (.bipush 20, 2) := by decide +kernel
theorem d9_when_15 : decode c9_when 15 = .ok (.if_icmp .le 6, 3) := by decide +kernel
theorem d9_when_18 : decode c9_when 18 = .ok (.bipush (-2), 2) := by decide +kernel
theorem d9_when_20 : decode c9_when 20 = .ok (.ireturn, 1) := by decide +kernel
theorem d9_when_21 : decode c9_when 21 = .ok (.aload_n 0, 1) := by decide +kernel
theorem d9_when_22 : decode c9_when 22 = .ok (.iload_n 1, 1) := by decide +kernel
theorem d9_when_23 : decode c9_when 23 = .ok (.invokevirtual 180, 3) := by decide +kernel
theorem d9_when_26 : decode c9_when 26 = .ok (.ireturn, 1) := by decide +kernel
def f9_when (D : Mem) (p0 : Int) : Option (Int) :=
  Option.bind (f9_isThere D) fun (a1 : Int) =>
  if w32 a1 = 0 then
    some (-2)
  else
    if w32 p0 < w32 1 then
      some (-2)
    else
      if w32 20 < w32 p0 then
        some (-2)
      else
        Option.bind (f9_nightOfTooth D p0) fun (a2 : Int) =>
        some a2
set_option maxHeartbeats 4000000 in
theorem ok9_when {l : Launch} {X : XT} {n : Nat} {D : Mem} {Q : Option Value → Nat → Rho → Mem → Prop} (hn : 117 ≤ n) {p0 : Int}  (h : wpo (f9_when D p0) (fun a => Q (some (vI a)) n rt D)) : MOK l y9_when c9_when 2 (some .int) { frames := 1, cells := 0, slots := 0, locals := 22 } 0 0 X [vR X 0, vI p0] n rt D Q := by
  refine MOK_of 9 (by decide +kernel) rfl (lv := [(0, vR X 0), (1, vI p0)]) (Nat.le_of_ble_eq_true rfl) rfl (fun K hK F hnm => ?_)
  subst hK
  unfold f9_when at h
  refine r_aload_nR F 0 rfl rfl d9_when_0 ?_
  replace h := wpo_bind h
  refine r_callV0 F lm9_159 mf9_isThere (vc0 hn) rfl (fr := 0) (lo := 0) (As := []) (rest := []) ⟨Nat.le_of_ble_eq_true rfl, Nat.le_of_ble_eq_true rfl⟩ rfl (Nat.le_of_ble_eq_true rfl) ⟨Nat.zero_le _, Nat.zero_le _⟩ d9_when_1 ?_
  refine ok9_isThere hn  (kI h (fun a1 h => ?_))
  refine r_if_eq F (tgt := 18) d9_when_4 (by decide) (fun hb => ?_) (fun hb => ?_)
  · replace h := wpo_pos h hb
    refine r_bipush F (z := (-2)) (by decide) d9_when_18 ?_
    replace h := wpo_some h
    exact r_iret F h d9_when_20
  · replace h := wpo_neg h hb
    refine r_iload_n F 1 rfl rfl d9_when_7 ?_
    refine r_iconst F (z := 1) d9_when_8 ?_
    refine r_icmp_lt F (tgt := 18) d9_when_9 (by decide) (fun hb => ?_) (fun hb => ?_)
    · replace h := wpo_pos h hb
      refine r_bipush F (z := (-2)) (by decide) d9_when_18 ?_
      replace h := wpo_some h
      exact r_iret F h d9_when_20
    · replace h := wpo_neg h hb
      refine r_iload_n F 1 rfl rfl d9_when_12 ?_
      refine r_bipush F (z := 20) (by decide) d9_when_13 ?_
      refine r_icmp_le F (tgt := 21) d9_when_15 (by decide) (fun hb => ?_) (fun hb => ?_)
      · replace h := wpo_neg h hb
        refine r_aload_nR F 0 rfl rfl d9_when_21 ?_
        refine r_iload_n F 1 rfl rfl d9_when_22 ?_
        replace h := wpo_bind h
        refine r_callV0 F lm9_180 mf9_nightOfTooth (vc0 hn) rfl (fr := 0) (lo := 0) (As := [vI p0]) (rest := []) ⟨Nat.le_of_ble_eq_true rfl, Nat.le_of_ble_eq_true rfl⟩ rfl (Nat.le_of_ble_eq_true rfl) ⟨Nat.zero_le _, Nat.zero_le _⟩ d9_when_23 ?_
        refine ok9_nightOfTooth hn  (kI h (fun a2 h => ?_))
        replace h := wpo_some h
        exact r_iret F h d9_when_26
      · replace h := wpo_pos h hb
        refine r_bipush F (z := (-2)) (by decide) d9_when_18 ?_
        replace h := wpo_some h
        exact r_iret F h d9_when_20
theorem d9_isPart_0 : decode c9_isPart 0 = .ok (.iload_n 1, 1) := by decide +kernel
theorem d9_isPart_1 : decode c9_isPart 1 = .ok (.ifCond .eq 8, 3) := by decide +kernel
theorem d9_isPart_4 : decode c9_isPart 4 = .ok (.iload_n 1, 1) := by decide +kernel
theorem d9_isPart_5 : decode c9_isPart 5 = .ok (.iconst 1, 1) := by decide +kernel
theorem d9_isPart_6 : decode c9_isPart 6 = .ok (.if_icmp .ne 7, 3) := by decide +kernel
theorem d9_isPart_9 : decode c9_isPart 9 = .ok (.iconst 1, 1) := by decide +kernel
theorem d9_isPart_10 : decode c9_isPart 10 = .ok (.goto 4, 3) := by decide +kernel
theorem d9_isPart_13 : decode c9_isPart 13 = .ok (.iconst 0, 1) := by decide +kernel
theorem d9_isPart_14 : decode c9_isPart 14 = .ok (.ireturn, 1) := by decide +kernel
def f9_isPart (D : Mem) (p0 : Int) : Option (Int) :=
  if w32 p0 = 0 then
    some 1
  else
    if w32 p0 = w32 1 then
      some 1
    else
      some 0
set_option maxHeartbeats 4000000 in
theorem ok9_isPart {l : Launch} {X : XT} {n : Nat} {D : Mem} {Q : Option Value → Nat → Rho → Mem → Prop} (hn : 117 ≤ n) {p0 : Int}  (h : wpo (f9_isPart D p0) (fun a => Q (some (vI a)) n rt D)) : MOK l y9_isPart c9_isPart 2 (some .boolean) { frames := 0, cells := 0, slots := 0, locals := 0 } 0 0 X [vR X 0, vI p0] n rt D Q := by
  refine MOK_of 9 (by decide +kernel) rfl (lv := [(0, vR X 0), (1, vI p0)]) (Nat.le_of_ble_eq_true rfl) rfl (fun K hK F hnm => ?_)
  subst hK
  unfold f9_isPart at h
  refine r_iload_n F 1 rfl rfl d9_isPart_0 ?_
  refine r_if_eq F (tgt := 9) d9_isPart_1 (by decide) (fun hb => ?_) (fun hb => ?_)
  · replace h := wpo_pos h hb
    refine r_iconst F (z := 1) d9_isPart_9 ?_
    refine r_goto F (tgt := 14) (by decide) d9_isPart_10 ?_
    replace h := wpo_some h
    exact r_zret F (Or.inr rfl) h d9_isPart_14
  · replace h := wpo_neg h hb
    refine r_iload_n F 1 rfl rfl d9_isPart_4 ?_
    refine r_iconst F (z := 1) d9_isPart_5 ?_
    refine r_icmp_ne F (tgt := 13) d9_isPart_6 (by decide) (fun hb => ?_) (fun hb => ?_)
    · replace h := wpo_neg h hb
      refine r_iconst F (z := 0) d9_isPart_13 ?_
      replace h := wpo_some h
      exact r_zret F (Or.inl rfl) h d9_isPart_14
    · replace h := wpo_pos h hb
      refine r_iconst F (z := 1) d9_isPart_9 ?_
      refine r_goto F (tgt := 14) (by decide) d9_isPart_10 ?_
      replace h := wpo_some h
      exact r_zret F (Or.inr rfl) h d9_isPart_14
theorem d9_commonDivisor_0 : decode c9_commonDivisor 0 = .ok (.iconst 0, 1) := by decide +kernel
theorem d9_commonDivisor_1 : decode c9_commonDivisor 1 = .ok (.istore 4, 2) := by decide +kernel
theorem d9_commonDivisor_3 : decode c9_commonDivisor 3 = .ok (.iload 4, 2) := by decide +kernel
theorem d9_commonDivisor_5 : decode c9_commonDivisor 5 = .ok (.bipush 100, 2) := by decide +kernel
theorem d9_commonDivisor_7 : decode c9_commonDivisor 7 = .ok (.if_icmp .ge 25, 3) := by decide +kernel
theorem d9_commonDivisor_10 : decode c9_commonDivisor 10 = .ok (.lload_n 2, 1) := by decide +kernel
theorem d9_commonDivisor_11 : decode c9_commonDivisor 11 = .ok (.lconst 0, 1) := by decide +kernel
theorem d9_commonDivisor_12 : decode c9_commonDivisor 12 = .ok (.lcmp, 1) := by decide +kernel
theorem d9_commonDivisor_13 : decode c9_commonDivisor 13 = .ok (.ifCond .eq 19, 3) := by decide +kernel
theorem d9_commonDivisor_16 : decode c9_commonDivisor 16 = .ok (.lload_n 0, 1) := by decide +kernel
theorem d9_commonDivisor_17 : decode c9_commonDivisor 17 = .ok (.lload_n 2, 1) := by decide +kernel
theorem d9_commonDivisor_18 : decode c9_commonDivisor 18 = .ok (.lrem, 1) := by decide +kernel
theorem d9_commonDivisor_19 : decode c9_commonDivisor 19 = .ok (.lstore 5, 2) := by decide +kernel
theorem d9_commonDivisor_21 : decode c9_commonDivisor 21 = .ok (.lload_n 2, 1) := by decide +kernel
theorem d9_commonDivisor_22 : decode c9_commonDivisor 22 = .ok (.lstore_n 0, 1) := by decide +kernel
theorem d9_commonDivisor_23 : decode c9_commonDivisor 23 = .ok (.lload 5, 2) := by decide +kernel
theorem d9_commonDivisor_25 : decode c9_commonDivisor 25 = .ok (.lstore_n 2, 1) := by decide +kernel
theorem d9_commonDivisor_26 : decode c9_commonDivisor 26 = .ok (.iinc 4 1, 3) := by decide +kernel
theorem d9_commonDivisor_29 : decode c9_commonDivisor 29 = .ok (.goto (-26), 3) := by decide +kernel
theorem d9_commonDivisor_32 : decode c9_commonDivisor 32 = .ok (.lload_n 0, 1) := by decide +kernel
theorem d9_commonDivisor_33 : decode c9_commonDivisor 33 = .ok (.lreturn, 1) := by decide +kernel
def f9_commonDivisor (D : Mem) (p0 : Int) (p1 : Int) : Option (Int) :=
  Option.bind (@loop (Int × Int × Int) (Int) (fun s1 =>
    if w32 s1.2.2 < w32 100 then
      if w64 s1.2.1 = w64 0 then
        some (Sum.inr s1.1)
      else
        if ¬ w64 s1.2.1 = 0 then
          Option.bind (some (rem64 s1.1 s1.2.1)) fun (v1 : Int) =>
          some (Sum.inl (s1.2.1, v1, (s1.2.2 + 1)))
        else none
    else
      some (Sum.inr s1.1)
  ) FU (p0, p1, 0)) fun (b1 : Int) =>
  some b1
set_option maxHeartbeats 4000000 in
theorem ok9_commonDivisor {l : Launch} {X : XT} {n : Nat} {D : Mem} {Q : Option Value → Nat → Rho → Mem → Prop} (hn : 117 ≤ n) {p0 : Int} {p1 : Int}  (h : wpo (f9_commonDivisor D p0 p1) (fun a => Q (some (vL a)) n rt D)) : MOK l y9_commonDivisor c9_commonDivisor 7 (some .long) { frames := 0, cells := 0, slots := 0, locals := 0 } 0 0 X [vL p0, vL p1] n rt D Q := by
  refine MOK_of 9 (by decide +kernel) rfl (lv := [(0, vL p0), (2, vL p1)]) (Nat.le_of_ble_eq_true rfl) rfl (fun K hK F hnm => ?_)
  subst hK
  unfold f9_commonDivisor at h
  refine r_iconst F (z := 0) d9_commonDivisor_0 ?_
  refine r_istore F (lv' := [(4, vI 0), (0, vL p0), (2, vL p1)]) (Nat.le_of_ble_eq_true rfl) rfl d9_commonDivisor_1 ?_
  refine r_weak [1, 2, 0] rfl ?_
  refine at_loopj (A := fun (s1 : Int × Int × Int) => At K X (ZQ K X Q) 0 0 n rt 7 3 [(0, vL s1.1), (2, vL s1.2.1), (4, vI s1.2.2)] [] D) (B := fun (b1 : Int) => At K X (ZQ K X Q) 0 0 n rt 7 32 [(0, vL b1)] [] D) h (fun b1 h => ?_) (fun s1 h => ?_)
  · refine r_lload_n F 0 rfl rfl d9_commonDivisor_32 ?_
    replace h := wpo_some h
    exact r_lret F h d9_commonDivisor_33
  · refine r_iload F 2 rfl d9_commonDivisor_3 ?_
    refine r_bipush F (z := 100) (by decide) d9_commonDivisor_5 ?_
    refine r_icmp_ge F (tgt := 32) d9_commonDivisor_7 (by decide) (fun hb => ?_) (fun hb => ?_)
    · replace h := wpo_neg h hb
      refine r_weak [0] rfl ?_
      replace h := wpo_inr h
      exact h
    · replace h := wpo_pos h hb
      refine r_lload_n F 1 rfl rfl d9_commonDivisor_10 ?_
      refine r_lconst F (x := 0) (by decide) d9_commonDivisor_11 ?_
      refine r_lc_eq F (tgt := 32) d9_commonDivisor_12 d9_commonDivisor_13 (by decide) (fun hb => ?_) (fun hb => ?_)
      · replace h := wpo_pos h hb
        refine r_weak [0] rfl ?_
        replace h := wpo_inr h
        exact h
      · replace h := wpo_neg h hb
        refine r_lload_n F 0 rfl rfl d9_commonDivisor_16 ?_
        refine r_lload_n F 1 rfl rfl d9_commonDivisor_17 ?_
        obtain ⟨hx1, h⟩ := wpo_chk h
        refine r_lrem F hx1 d9_commonDivisor_18 ?_
        refine r_lstore F (lv' := [(5, vL (rem64 s1.1 s1.2.1)), (0, vL s1.1), (2, vL s1.2.1), (4, vI s1.2.2)]) (Nat.le_of_ble_eq_true rfl) rfl d9_commonDivisor_19 ?_
        refine at_name (B := fun (v1 : Int) => At K X (ZQ K X Q) 0 0 n rt 7 21 [(5, vL v1), (0, vL s1.1), (2, vL s1.2.1), (4, vI s1.2.2)] [] D) h (fun v1 h => ?_)
        refine r_lload_n F 2 rfl rfl d9_commonDivisor_21 ?_
        refine r_lstore_n F (lv' := [(0, vL s1.2.1), (5, vL v1), (2, vL s1.2.1), (4, vI s1.2.2)]) rfl (Nat.le_of_ble_eq_true rfl) rfl d9_commonDivisor_22 ?_
        refine r_lload F 1 rfl d9_commonDivisor_23 ?_
        refine r_lstore_n F (lv' := [(2, vL v1), (0, vL s1.2.1), (5, vL v1), (4, vI s1.2.2)]) rfl (Nat.le_of_ble_eq_true rfl) rfl d9_commonDivisor_25 ?_
        refine r_iinc F 3 (lv' := [(4, vI (s1.2.2 + 1)), (2, vL v1), (0, vL s1.2.1), (5, vL v1)]) rfl (Nat.le_of_ble_eq_true rfl) rfl d9_commonDivisor_26 ?_
        refine r_goto F (tgt := 3) (by decide) d9_commonDivisor_29 ?_
        refine r_weak [2, 1, 0] rfl ?_
        replace h := wpo_inl h
        exact h
theorem d9_inLowestTerms_0 : decode c9_inLowestTerms 0 = .ok (.lload_n 0, 1) := by decide +kernel
theorem d9_inLowestTerms_1 : decode c9_inLowestTerms 1 = .ok (.lload_n 2, 1) := by decide +kernel
theorem d9_inLowestTerms_2 : decode c9_inLowestTerms 2 = .ok (.invokestatic 424, 3) := by decide +kernel
theorem d9_inLowestTerms_5 : decode c9_inLowestTerms 5 = .ok (.lstore 5, 2) := by decide +kernel
theorem d9_inLowestTerms_7 : decode c9_inLowestTerms 7 = .ok (.iload 4, 2) := by decide +kernel
theorem d9_inLowestTerms_9 : decode c9_inLowestTerms 9 = .ok (.ifCond .ne 7, 3) := by decide +kernel
theorem d9_inLowestTerms_12 : decode c9_inLowestTerms 12 = .ok (.lload_n 0, 1) := by decide +kernel
theorem d9_inLowestTerms_13 : decode c9_inLowestTerms 13 = .ok (.goto 4, 3) := by decide +kernel
theorem d9_inLowestTerms_16 : decode c9_inLowestTerms 16 = .ok (.lload_n 2, 1) := by decide +kernel
theorem d9_inLowestTerms_17 : decode c9_inLowestTerms 17 = .ok (.lstore 7, 2) := by decide +kernel
theorem d9_inLowestTerms_19 : decode c9_inLowestTerms 19 = .ok (.lload 5, 2) := by decide +kernel
theorem d9_inLowestTerms_21 : decode c9_inLowestTerms 21 = .ok (.lconst 0, 1) := by decide +kernel
theorem d9_inLowestTerms_22 : decode c9_inLowestTerms 22 = .ok (.lcmp, 1) := by decide +kernel
theorem d9_inLowestTerms_23 : decode c9_inLowestTerms 23 = .ok (.ifCond .ne 8, 3) := by decide +kernel
theorem d9_inLowestTerms_26 : decode c9_inLowestTerms 26 = .ok (.lload 7, 2) := by decide +kernel
theorem d9_inLowestTerms_28 : decode c9_inLowestTerms 28 = .ok (.goto 8, 3) := by decide +kernel
theorem d9_inLowestTerms_31 : decode c9_inLowestTerms 31 = .ok (.lload 7, 2) := by decide +kernel
theorem d9_inLowestTerms_33 : decode c9_inLowestTerms 33 = .ok (.lload 5, 2) := by decide +kernel
theorem d9_inLowestTerms_35 : decode c9_inLowestTerms 35 = .ok (.ldiv, 1) := by decide +kernel
theorem d9_inLowestTerms_36 : decode c9_inLowestTerms 36 = .ok (.lreturn, 1) := by decide +kernel
def f9_inLowestTerms (D : Mem) (p0 : Int) (p1 : Int) (p2 : Int) : Option (Int) :=
  Option.bind (f9_commonDivisor D p0 p1) fun (a1 : Int) =>
  Option.bind (
    if w32 p2 = 0 then
      some p0
    else
      some p1
  ) fun (j1 : Int) =>
  if w64 a1 = w64 0 then
    some j1
  else
    if ¬ w64 a1 = 0 then
      some (div64 j1 a1)
    else none
set_option maxHeartbeats 4000000 in
theorem ok9_inLowestTerms {l : Launch} {X : XT} {n : Nat} {D : Mem} {Q : Option Value → Nat → Rho → Mem → Prop} (hn : 117 ≤ n) {p0 : Int} {p1 : Int} {p2 : Int}  (h : wpo (f9_inLowestTerms D p0 p1 p2) (fun a => Q (some (vL a)) n rt D)) : MOK l y9_inLowestTerms c9_inLowestTerms 9 (some .long) { frames := 1, cells := 0, slots := 0, locals := 26 } 0 0 X [vL p0, vL p1, vI p2] n rt D Q := by
  refine MOK_of 9 (by decide +kernel) rfl (lv := [(0, vL p0), (2, vL p1), (4, vI p2)]) (Nat.le_of_ble_eq_true rfl) rfl (fun K hK F hnm => ?_)
  subst hK
  unfold f9_inLowestTerms at h
  refine r_lload_n F 0 rfl rfl d9_inLowestTerms_0 ?_
  refine r_lload_n F 1 rfl rfl d9_inLowestTerms_1 ?_
  replace h := wpo_bind h
  refine r_callS0 F lm9_424 mf9_commonDivisor rfl (fr := 0) (lo := 0) (As := [vL p0, vL p1]) (rest := []) ⟨Nat.le_of_ble_eq_true rfl, Nat.le_of_ble_eq_true rfl⟩ rfl (Nat.le_of_ble_eq_true rfl) ⟨Nat.zero_le _, Nat.zero_le _⟩ d9_inLowestTerms_2 ?_
  refine ok9_commonDivisor hn  (kL h (fun a1 h => ?_))
  refine r_lstore F (lv' := [(5, vL a1), (0, vL p0), (2, vL p1), (4, vI p2)]) (Nat.le_of_ble_eq_true rfl) rfl d9_inLowestTerms_5 ?_
  refine r_iload F 3 rfl d9_inLowestTerms_7 ?_
  refine at_join (B := fun (j1 : Int) => At K X (ZQ K X Q) 0 0 n rt 9 17 [(5, vL a1)] [vL j1] D) h (fun j1 h => ?_) (fun h => ?_)
  · refine r_lstore F (lv' := [(7, vL j1), (5, vL a1)]) (Nat.le_of_ble_eq_true rfl) rfl d9_inLowestTerms_17 ?_
    refine r_lload F 1 rfl d9_inLowestTerms_19 ?_
    refine r_lconst F (x := 0) (by decide) d9_inLowestTerms_21 ?_
    refine r_lc_ne F (tgt := 31) d9_inLowestTerms_22 d9_inLowestTerms_23 (by decide) (fun hb => ?_) (fun hb => ?_)
    · replace h := wpo_neg h hb
      refine r_lload F 0 rfl d9_inLowestTerms_31 ?_
      refine r_lload F 1 rfl d9_inLowestTerms_33 ?_
      obtain ⟨hx1, h⟩ := wpo_chk h
      refine r_ldiv F hx1 d9_inLowestTerms_35 ?_
      replace h := wpo_some h
      exact r_lret F h d9_inLowestTerms_36
    · replace h := wpo_pos h hb
      refine r_lload F 0 rfl d9_inLowestTerms_26 ?_
      refine r_goto F (tgt := 36) (by decide) d9_inLowestTerms_28 ?_
      replace h := wpo_some h
      exact r_lret F h d9_inLowestTerms_36
  · refine r_if_ne F (tgt := 16) d9_inLowestTerms_9 (by decide) (fun hb => ?_) (fun hb => ?_)
    · replace h := wpo_neg h hb
      refine r_lload_n F 2 rfl rfl d9_inLowestTerms_16 ?_
      refine r_weak [0] rfl ?_
      replace h := wpo_some h
      exact h
    · replace h := wpo_pos h hb
      refine r_lload_n F 1 rfl rfl d9_inLowestTerms_12 ?_
      refine r_goto F (tgt := 17) (by decide) d9_inLowestTerms_13 ?_
      refine r_weak [0] rfl ?_
      replace h := wpo_some h
      exact h
theorem d9_share_0 : decode c9_share 0 = .ok (.aload_n 0, 1) := by decide +kernel
theorem d9_share_1 : decode c9_share 1 = .ok (.iload_n 1, 1) := by decide +kernel
theorem d9_share_2 : decode c9_share 2 = .ok (.invokevirtual 124, 3) := by decide +kernel
theorem d9_share_5 : decode c9_share 5 = .ok (.ifCond .eq 11, 3) := by decide +kernel
theorem d9_share_8 : decode c9_share 8 = .ok (.aload_n 0, 1) := by decide +kernel
theorem d9_share_9 : decode c9_share 9 = .ok (.iload_n 2, 1) := by decide +kernel
theorem d9_share_10 : decode c9_share 10 = .ok (.invokevirtual 197, 3) := by decide +kernel
theorem d9_share_13 : decode c9_share 13 = .ok (.ifCond .ne 6, 3) := by decide +kernel
theorem d9_share_16 : decode c9_share 16 = .ok (.bipush (-2), 2) := by decide +kernel
theorem d9_share_18 : decode c9_share 18 = .ok (.ireturn, 1) := by decide +kernel
theorem d9_share_19 : decode c9_share 19 = .ok (.aload_n 0, 1) := by decide +kernel
theorem d9_share_20 : decode c9_share 20 = .ok (.getfield 51, 3) := by decide +kernel
theorem d9_share_23 : decode c9_share 23 = .ok (.getfield 162, 3) := by decide +kernel
theorem d9_share_26 : decode c9_share 26 = .ok (.ifCond .ne 5, 3) := by decide +kernel
theorem d9_share_29 : decode c9_share 29 = .ok (.iconst (-1), 1) := by decide +kernel
theorem d9_share_30 : decode c9_share 30 = .ok (.ireturn, 1) := by decide +kernel
theorem d9_share_31 : decode c9_share 31 = .ok (.aload_n 0, 1) := by decide +kernel
theorem d9_share_32 : decode c9_share 32 = .ok (.getfield 51, 3) := by decide +kernel
theorem d9_share_35 : decode c9_share 35 = .ok (.getfield 155, 3) := by decide +kernel
theorem d9_share_38 : decode c9_share 38 = .ok (.iload_n 1, 1) := by decide +kernel
theorem d9_share_39 : decode c9_share 39 = .ok (.iaload, 1) := by decide +kernel
theorem d9_share_40 : decode c9_share 40 = .ok (.i2l, 1) := by decide +kernel
theorem d9_share_41 : decode c9_share 41 = .ok (.aload_n 0, 1) := by decide +kernel
theorem d9_share_42 : decode c9_share 42 = .ok (.getfield 51, 3) := by decide +kernel
theorem d9_share_45 : decode c9_share 45 = .ok (.getfield 162, 3) := by decide +kernel
theorem d9_share_48 : decode c9_share 48 = .ok (.i2l, 1) := by decide +kernel
theorem d9_share_49 : decode c9_share 49 = .ok (.iload_n 2, 1) := by decide +kernel
theorem d9_share_50 : decode c9_share 50 = .ok (.invokestatic 200, 3) := by decide +kernel
theorem d9_share_53 : decode c9_share 53 = .ok (.l2i, 1) := by decide +kernel
theorem d9_share_54 : decode c9_share 54 = .ok (.ireturn, 1) := by decide +kernel
def f9_share (D : Mem) (p0 : Int) (p1 : Int) : Option (Int) :=
  Option.bind (f9_isPerson D p0) fun (a1 : Int) =>
  if w32 a1 = 0 then
    some (-2)
  else
    Option.bind (f9_isPart D p1) fun (a2 : Int) =>
    if w32 a2 = 0 then
      some (-2)
    else
      if w32 (D 23 4) = 0 then
        some (-1)
      else
        if 0 ≤ p0 ∧ p0 < 8 then
          Option.bind (f9_inLowestTerms D (w32 (D 29 p0.toNat)) (w32 (D 23 4)) p1) fun (a3 : Int) =>
          some a3
        else none
set_option maxHeartbeats 4000000 in
theorem ok9_share {l : Launch} {X : XT} {n : Nat} {D : Mem} {Q : Option Value → Nat → Rho → Mem → Prop} (hn : 117 ≤ n) {p0 : Int} {p1 : Int}  (h : wpo (f9_share D p0 p1) (fun a => Q (some (vI a)) n rt D)) : MOK l y9_share c9_share 3 (some .int) { frames := 2, cells := 0, slots := 0, locals := 54 } 0 0 X [vR X 0, vI p0, vI p1] n rt D Q := by
  refine MOK_of 9 (by decide +kernel) rfl (lv := [(0, vR X 0), (1, vI p0), (2, vI p1)]) (Nat.le_of_ble_eq_true rfl) rfl (fun K hK F hnm => ?_)
  subst hK
  unfold f9_share at h
  refine r_aload_nR F 0 rfl rfl d9_share_0 ?_
  refine r_iload_n F 1 rfl rfl d9_share_1 ?_
  replace h := wpo_bind h
  refine r_callV0 F lm9_124 mf9_isPerson (vc0 hn) rfl (fr := 0) (lo := 0) (As := [vI p0]) (rest := []) ⟨Nat.le_of_ble_eq_true rfl, Nat.le_of_ble_eq_true rfl⟩ rfl (Nat.le_of_ble_eq_true rfl) ⟨Nat.zero_le _, Nat.zero_le _⟩ d9_share_2 ?_
  refine ok9_isPerson hn  (kI h (fun a1 h => ?_))
  refine r_if_eq F (tgt := 16) d9_share_5 (by decide) (fun hb => ?_) (fun hb => ?_)
  · replace h := wpo_pos h hb
    refine r_bipush F (z := (-2)) (by decide) d9_share_16 ?_
    replace h := wpo_some h
    exact r_iret F h d9_share_18
  · replace h := wpo_neg h hb
    refine r_aload_nR F 0 rfl rfl d9_share_8 ?_
    refine r_iload_n F 2 rfl rfl d9_share_9 ?_
    replace h := wpo_bind h
    refine r_callV0 F lm9_197 mf9_isPart (vc0 hn) rfl (fr := 0) (lo := 0) (As := [vI p1]) (rest := []) ⟨Nat.le_of_ble_eq_true rfl, Nat.le_of_ble_eq_true rfl⟩ rfl (Nat.le_of_ble_eq_true rfl) ⟨Nat.zero_le _, Nat.zero_le _⟩ d9_share_10 ?_
    refine ok9_isPart hn  (kI h (fun a2 h => ?_))
    refine r_if_ne F (tgt := 19) d9_share_13 (by decide) (fun hb => ?_) (fun hb => ?_)
    · replace h := wpo_neg h hb
      refine r_aload_nR F 0 rfl rfl d9_share_19 ?_
      refine r_getR F (z := 23) lf9_51 (vc0 hn) z0_6 d9_share_20 ?_
      refine r_getI F lf9_162 (vc23 hn) d9_share_23 ?_
      refine r_if_ne F (tgt := 31) d9_share_26 (by decide) (fun hb => ?_) (fun hb => ?_)
      · replace h := wpo_neg h hb
        refine r_aload_nR F 0 rfl rfl d9_share_31 ?_
        refine r_getR F (z := 23) lf9_51 (vc0 hn) z0_6 d9_share_32 ?_
        refine r_getR F (z := 29) lf9_155 (vc23 hn) z23_10 d9_share_35 ?_
        refine r_iload_n F 1 rfl rfl d9_share_38 ?_
        obtain ⟨hx1, h⟩ := wpo_chk h
        refine r_iald F (vc29 hn) hx1 d9_share_39 ?_
        refine r_i2l F d9_share_40 ?_
        refine r_aload_nR F 0 rfl rfl d9_share_41 ?_
        refine r_getR F (z := 23) lf9_51 (vc0 hn) z0_6 d9_share_42 ?_
        refine r_getI F lf9_162 (vc23 hn) d9_share_45 ?_
        refine r_i2l F d9_share_48 ?_
        refine r_iload_n F 2 rfl rfl d9_share_49 ?_
        replace h := wpo_bind h
        refine r_callS0 F lm9_200 mf9_inLowestTerms rfl (fr := 1) (lo := 26) (As := [vL (w32 (D 29 p0.toNat)), vL (w32 (D 23 4)), vI p1]) (rest := []) ⟨Nat.le_of_ble_eq_true rfl, Nat.le_of_ble_eq_true rfl⟩ rfl (Nat.le_of_ble_eq_true rfl) ⟨Nat.zero_le _, Nat.zero_le _⟩ d9_share_50 ?_
        refine ok9_inLowestTerms hn  (kL h (fun a3 h => ?_))
        refine r_l2i F d9_share_53 ?_
        replace h := wpo_some h
        exact r_iret F h d9_share_54
      · replace h := wpo_pos h hb
        refine r_iconst F (z := (-1)) d9_share_29 ?_
        replace h := wpo_some h
        exact r_iret F h d9_share_30
    · replace h := wpo_pos h hb
      refine r_bipush F (z := (-2)) (by decide) d9_share_16 ?_
      replace h := wpo_some h
      exact r_iret F h d9_share_18
theorem d9_suits_0 : decode c9_suits 0 = .ok (.aload_n 0, 1) := by decide +kernel
theorem d9_suits_1 : decode c9_suits 1 = .ok (.iload_n 1, 1) := by decide +kernel
theorem d9_suits_2 : decode c9_suits 2 = .ok (.invokevirtual 124, 3) := by decide +kernel
theorem d9_suits_5 : decode c9_suits 5 = .ok (.ifCond .ne 6, 3) := by decide +kernel
theorem d9_suits_8 : decode c9_suits 8 = .ok (.bipush (-2), 2) := by decide +kernel
theorem d9_suits_10 : decode c9_suits 10 = .ok (.ireturn, 1) := by decide +kernel
theorem d9_suits_11 : decode c9_suits 11 = .ok (.iconst 0, 1) := by decide +kernel
theorem d9_suits_12 : decode c9_suits 12 = .ok (.istore_n 2, 1) := by decide +kernel
theorem d9_suits_13 : decode c9_suits 13 = .ok (.ldc 204, 2) := by decide +kernel
theorem d9_suits_15 : decode c9_suits 15 = .ok (.istore_n 3, 1) := by decide +kernel
theorem d9_suits_16 : decode c9_suits 16 = .ok (.iconst 0, 1) := by decide +kernel
theorem d9_suits_17 : decode c9_suits 17 = .ok (.istore 4, 2) := by decide +kernel
theorem d9_suits_19 : decode c9_suits 19 = .ok (.iload 4, 2) := by decide +kernel
theorem d9_suits_21 : decode c9_suits 21 = .ok (.bipush 11, 2) := by decide +kernel
theorem d9_suits_23 : decode c9_suits 23 = .ok (.if_icmp .gt 56, 3) := by decide +kernel
theorem d9_suits_26 : decode c9_suits 26 = .ok (.aload_n 0, 1) := by decide +kernel
theorem d9_suits_27 : decode c9_suits 27 = .ok (.getfield 55, 3) := by decide +kernel
theorem d9_suits_30 : decode c9_suits 30 = .ok (.invokevirtual 205, 3) := by decide +kernel
theorem d9_suits_33 : decode c9_suits 33 = .ok (.aload_n 0, 1) := by decide +kernel
theorem d9_suits_34 : decode c9_suits 34 = .ok (.getfield 55, 3) := by decide +kernel
theorem d9_suits_37 : decode c9_suits 37 = .ok (.getfield 208, 3) := by decide +kernel
theorem d9_suits_40 : decode c9_suits 40 = .ok (.iload_n 1, 1) := by decide +kernel
theorem d9_suits_41 : decode c9_suits 41 = .ok (.iload 4, 2) := by decide +kernel
theorem d9_suits_43 : decode c9_suits 43 = .ok (.iastore, 1) := by decide +kernel
theorem d9_suits_44 : decode c9_suits 44 = .ok (.aload_n 0, 1) := by decide +kernel
theorem d9_suits_45 : decode c9_suits 45 = .ok (.getfield 55, 3) := by decide +kernel
theorem d9_suits_48 : decode c9_suits 48 = .ok (.invokevirtual 209, 3) := by decide +kernel
theorem d9_suits_51 : decode c9_suits 51 = .ok (.aload_n 0, 1) := by decide +kernel
theorem d9_suits_52 : decode c9_suits 52 = .ok (.getfield 55, 3) := by decide +kernel
theorem d9_suits_55 : decode c9_suits 55 = .ok (.getfield 162, 3) := by decide +kernel
theorem d9_suits_58 : decode c9_suits 58 = .ok (.iload_n 3, 1) := by decide +kernel
theorem d9_suits_59 : decode c9_suits 59 = .ok (.if_icmp .ge 14, 3) := by decide +kernel
theorem d9_suits_62 : decode c9_suits 62 = .ok (.aload_n 0, 1) := by decide +kernel
theorem d9_suits_63 : decode c9_suits 63 = .ok (.getfield 55, 3) := by decide +kernel
theorem d9_suits_66 : decode c9_suits 66 = .ok (.getfield 162, 3) := by decide +kernel
theorem d9_suits_69 : decode c9_suits 69 = .ok (.istore_n 3, 1) := by decide +kernel
theorem d9_suits_70 : decode c9_suits 70 = .ok (.iload 4, 2) := by decide +kernel
theorem d9_suits_72 : decode c9_suits 72 = .ok (.istore_n 2, 1) := by decide +kernel
theorem d9_suits_73 : decode c9_suits 73 = .ok (.iinc 4 1, 3) := by decide +kernel
theorem d9_suits_76 : decode c9_suits 76 = .ok (.goto (-57), 3) := by decide +kernel
theorem d9_suits_79 : decode c9_suits 79 = .ok (.iload_n 2, 1) := by decide +kernel
theorem d9_suits_80 : decode c9_suits 80 = .ok (.ireturn, 1) := by decide +kernel
def f9_suits (D : Mem) (p0 : Int) : Option (Int × Mem) :=
  Option.bind (f9_isPerson D p0) fun (a1 : Int) =>
  if w32 a1 = 0 then
    some ((-2), D)
  else
    Option.bind (@loop (Int × Int × Int × Mem) (Int × Mem) (fun s1 =>
      if w32 11 < w32 s1.2.2.1 then
        some (Sum.inr (s1.1, s1.2.2.2))
      else
        Option.bind (f8_prepare s1.2.2.2 36) fun (a2 : Mem) =>
        if 0 ≤ p0 ∧ p0 < 8 then
          Option.bind (some (mset a2 38 p0.toNat s1.2.2.1)) fun (D1 : Mem) =>
          Option.bind (f8_pass D1 36) fun (a3 : Mem) =>
          Option.bind (
            if w32 (a3 36 4) < w32 s1.2.1 then
              some (s1.2.2.1, (a3 36 4))
            else
              some (s1.1, s1.2.1)
          ) fun (j1 : Int × Int) =>
          some (Sum.inl (j1.1, j1.2, (s1.2.2.1 + 1), a3))
        else none
    ) FU (0, 1000000, 0, D)) fun (b1 : Int × Mem) =>
    some (b1.1, b1.2)
set_option maxHeartbeats 4000000 in
theorem ok9_suits {l : Launch} {X : XT} {n : Nat} {D : Mem} {Q : Option Value → Nat → Rho → Mem → Prop} (hn : 117 ≤ n) {p0 : Int}  (h : wpo (f9_suits D p0) (fun a => Q (some (vI a.1)) n rt a.2)) : MOK l y9_suits c9_suits 5 (some .int) { frames := 3, cells := 0, slots := 0, locals := 68 } 0 0 X [vR X 0, vI p0] n rt D Q := by
  refine MOK_of 9 (by decide +kernel) rfl (lv := [(0, vR X 0), (1, vI p0)]) (Nat.le_of_ble_eq_true rfl) rfl (fun K hK F hnm => ?_)
  subst hK
  unfold f9_suits at h
  refine r_aload_nR F 0 rfl rfl d9_suits_0 ?_
  refine r_iload_n F 1 rfl rfl d9_suits_1 ?_
  replace h := wpo_bind h
  refine r_callV0 F lm9_124 mf9_isPerson (vc0 hn) rfl (fr := 0) (lo := 0) (As := [vI p0]) (rest := []) ⟨Nat.le_of_ble_eq_true rfl, Nat.le_of_ble_eq_true rfl⟩ rfl (Nat.le_of_ble_eq_true rfl) ⟨Nat.zero_le _, Nat.zero_le _⟩ d9_suits_2 ?_
  refine ok9_isPerson hn  (kI h (fun a1 h => ?_))
  refine r_if_ne F (tgt := 11) d9_suits_5 (by decide) (fun hb => ?_) (fun hb => ?_)
  · replace h := wpo_neg h hb
    refine r_iconst F (z := 0) d9_suits_11 ?_
    refine r_istore_n F (lv' := [(2, vI 0), (0, vR X 0), (1, vI p0)]) rfl (Nat.le_of_ble_eq_true rfl) rfl d9_suits_12 ?_
    refine r_ldc F (z := 1000000) lc9_204 d9_suits_13 ?_
    refine r_istore_n F (lv' := [(3, vI 1000000), (2, vI 0), (0, vR X 0), (1, vI p0)]) rfl (Nat.le_of_ble_eq_true rfl) rfl d9_suits_15 ?_
    refine r_iconst F (z := 0) d9_suits_16 ?_
    refine r_istore F (lv' := [(4, vI 0), (3, vI 1000000), (2, vI 0), (0, vR X 0), (1, vI p0)]) (Nat.le_of_ble_eq_true rfl) rfl d9_suits_17 ?_
    refine r_weak [3, 4, 2, 1, 0] rfl ?_
    refine at_loopj (A := fun (s1 : Int × Int × Int × Mem) => At K X (ZQ K X Q) 0 0 n rt 5 19 [(0, vR X 0), (1, vI p0), (2, vI s1.1), (3, vI s1.2.1), (4, vI s1.2.2.1)] [] s1.2.2.2) (B := fun (b1 : Int × Mem) => At K X (ZQ K X Q) 0 0 n rt 5 79 [(2, vI b1.1)] [] b1.2) h (fun b1 h => ?_) (fun s1 h => ?_)
    · refine r_iload_n F 0 rfl rfl d9_suits_79 ?_
      replace h := wpo_some h
      exact r_iret F h d9_suits_80
    · refine r_iload F 4 rfl d9_suits_19 ?_
      refine r_bipush F (z := 11) (by decide) d9_suits_21 ?_
      refine r_icmp_gt F (tgt := 79) d9_suits_23 (by decide) (fun hb => ?_) (fun hb => ?_)
      · replace h := wpo_pos h hb
        refine r_weak [2] rfl ?_
        replace h := wpo_inr h
        exact h
      · replace h := wpo_neg h hb
        refine r_aload_nR F 0 rfl rfl d9_suits_26 ?_
        refine r_getR F (z := 36) lf9_55 (vc0 hn) z0_7 d9_suits_27 ?_
        replace h := wpo_bind h
        refine r_callV0 F lm9_205 mf8_prepare (vc36 hn) rfl (fr := 1) (lo := 26) (As := []) (rest := []) ⟨Nat.le_of_ble_eq_true rfl, Nat.le_of_ble_eq_true rfl⟩ rfl (Nat.le_of_ble_eq_true rfl) ⟨Nat.zero_le _, Nat.zero_le _⟩ d9_suits_30 ?_
        refine ok8_prepare hn (vc36 hn) (kVm h (fun a2 h => ?_))
        refine r_aload_nR F 0 rfl rfl d9_suits_33 ?_
        refine r_getR F (z := 36) lf9_55 (vc0 hn) z0_7 d9_suits_34 ?_
        refine r_getR F (z := 38) lf9_208 (vc36 hn) z36_6 d9_suits_37 ?_
        refine r_iload_n F 1 rfl rfl d9_suits_40 ?_
        refine r_iload F 4 rfl d9_suits_41 ?_
        obtain ⟨hx1, h⟩ := wpo_chk h
        refine r_iast F (vc38 hn) hx1 d9_suits_43 ?_
        refine r_aload_nR F 0 rfl rfl d9_suits_44 ?_
        refine r_getR F (z := 36) lf9_55 (vc0 hn) z0_7 d9_suits_45 ?_
        refine at_name (B := fun (D1 : Mem) => At K X (ZQ K X Q) 0 0 n rt 5 48 [(0, vR X 0), (1, vI p0), (2, vI s1.1), (3, vI s1.2.1), (4, vI s1.2.2.1)] [vR X 36] D1) h (fun D1 h => ?_)
        replace h := wpo_bind h
        refine r_callV0 F lm9_209 mf8_pass (vc36 hn) rfl (fr := 2) (lo := 44) (As := []) (rest := []) ⟨Nat.le_of_ble_eq_true rfl, Nat.le_of_ble_eq_true rfl⟩ rfl (Nat.le_of_ble_eq_true rfl) ⟨Nat.zero_le _, Nat.zero_le _⟩ d9_suits_48 ?_
        refine ok8_pass hn (vc36 hn) (kVm h (fun a3 h => ?_))
        refine r_aload_nR F 0 rfl rfl d9_suits_51 ?_
        refine r_getR F (z := 36) lf9_55 (vc0 hn) z0_7 d9_suits_52 ?_
        refine r_getI F lf9_162 (vc36 hn) d9_suits_55 ?_
        refine r_iload_n F 3 rfl rfl d9_suits_58 ?_
        refine at_join (B := fun (j1 : Int × Int) => At K X (ZQ K X Q) 0 0 n rt 5 73 [(0, vR X 0), (1, vI p0), (2, vI j1.1), (3, vI j1.2), (4, vI s1.2.2.1)] [] a3) h (fun j1 h => ?_) (fun h => ?_)
        · refine r_iinc F 4 (lv' := [(4, vI (s1.2.2.1 + 1)), (0, vR X 0), (1, vI p0), (2, vI j1.1), (3, vI j1.2)]) rfl (Nat.le_of_ble_eq_true rfl) rfl d9_suits_73 ?_
          refine r_goto F (tgt := 19) (by decide) d9_suits_76 ?_
          refine r_weak [1, 2, 3, 4, 0] rfl ?_
          replace h := wpo_inl h
          exact h
        · refine r_icmp_ge F (tgt := 73) d9_suits_59 (by decide) (fun hb => ?_) (fun hb => ?_)
          · replace h := wpo_neg h hb
            replace h := wpo_some h
            exact h
          · replace h := wpo_pos h hb
            refine r_aload_nR F 0 rfl rfl d9_suits_62 ?_
            refine r_getR F (z := 36) lf9_55 (vc0 hn) z0_7 d9_suits_63 ?_
            refine r_getI F lf9_162 (vc36 hn) d9_suits_66 ?_
            refine r_istore_n F (lv' := [(3, vI (a3 36 4)), (0, vR X 0), (1, vI p0), (2, vI s1.1), (4, vI s1.2.2.1)]) rfl (Nat.le_of_ble_eq_true rfl) rfl d9_suits_69 ?_
            refine r_iload F 4 rfl d9_suits_70 ?_
            refine r_istore_n F (lv' := [(2, vI s1.2.2.1), (3, vI (a3 36 4)), (0, vR X 0), (1, vI p0), (4, vI s1.2.2.1)]) rfl (Nat.le_of_ble_eq_true rfl) rfl d9_suits_72 ?_
            refine r_weak [2, 3, 0, 1, 4] rfl ?_
            replace h := wpo_some h
            exact h
  · replace h := wpo_pos h hb
    refine r_bipush F (z := (-2)) (by decide) d9_suits_8 ?_
    replace h := wpo_some h
    exact r_iret F h d9_suits_10
theorem d9_passWithout_0 : decode c9_passWithout 0 = .ok (.aload_n 0, 1) := by decide +kernel
theorem d9_passWithout_1 : decode c9_passWithout 1 = .ok (.getfield 55, 3) := by decide +kernel
theorem d9_passWithout_4 : decode c9_passWithout 4 = .ok (.invokevirtual 205, 3) := by decide +kernel
theorem d9_passWithout_7 : decode c9_passWithout 7 = .ok (.aload_n 0, 1) := by decide +kernel
theorem d9_passWithout_8 : decode c9_passWithout 8 = .ok (.getfield 55, 3) := by decide +kernel
theorem d9_passWithout_11 : decode c9_passWithout 11 = .ok (.getfield 208, 3) := by decide +kernel
theorem d9_passWithout_14 : decode c9_passWithout 14 = .ok (.iload_n 1, 1) := by decide +kernel
theorem d9_passWithout_15 : decode c9_passWithout 15 = .ok (.bipush 100, 2) := by decide +kernel
theorem d9_passWithout_17 : decode c9_passWithout 17 = .ok (.iastore, 1) := by decide +kernel
theorem d9_passWithout_18 : decode c9_passWithout 18 = .ok (.aload_n 0, 1) := by decide +kernel
theorem d9_passWithout_19 : decode c9_passWithout 19 = .ok (.getfield 55, 3) := by decide +kernel
theorem d9_passWithout_22 : decode c9_passWithout 22 = .ok (.invokevirtual 209, 3) := by decide +kernel
theorem d9_passWithout_25 : decode c9_passWithout 25 = .ok (.return_, 1) := by decide +kernel
def f9_passWithout (D : Mem) (p0 : Int) : Option (Mem) :=
  Option.bind (f8_prepare D 36) fun (a1 : Mem) =>
  if 0 ≤ p0 ∧ p0 < 8 then
    Option.bind (some (mset a1 38 p0.toNat 100)) fun (D1 : Mem) =>
    Option.bind (f8_pass D1 36) fun (a2 : Mem) =>
    some a2
  else none
set_option maxHeartbeats 4000000 in
theorem ok9_passWithout {l : Launch} {X : XT} {n : Nat} {D : Mem} {Q : Option Value → Nat → Rho → Mem → Prop} (hn : 117 ≤ n) {p0 : Int}  (h : wpo (f9_passWithout D p0) (fun a => Q none n rt a)) : MOK l y9_passWithout c9_passWithout 2 (none) { frames := 3, cells := 0, slots := 0, locals := 68 } 0 0 X [vR X 0, vI p0] n rt D Q := by
  refine MOK_of 9 (by decide +kernel) rfl (lv := [(0, vR X 0), (1, vI p0)]) (Nat.le_of_ble_eq_true rfl) rfl (fun K hK F hnm => ?_)
  subst hK
  unfold f9_passWithout at h
  refine r_aload_nR F 0 rfl rfl d9_passWithout_0 ?_
  refine r_getR F (z := 36) lf9_55 (vc0 hn) z0_7 d9_passWithout_1 ?_
  replace h := wpo_bind h
  refine r_callV0 F lm9_205 mf8_prepare (vc36 hn) rfl (fr := 1) (lo := 26) (As := []) (rest := []) ⟨Nat.le_of_ble_eq_true rfl, Nat.le_of_ble_eq_true rfl⟩ rfl (Nat.le_of_ble_eq_true rfl) ⟨Nat.zero_le _, Nat.zero_le _⟩ d9_passWithout_4 ?_
  refine ok8_prepare hn (vc36 hn) (kVm h (fun a1 h => ?_))
  refine r_aload_nR F 0 rfl rfl d9_passWithout_7 ?_
  refine r_getR F (z := 36) lf9_55 (vc0 hn) z0_7 d9_passWithout_8 ?_
  refine r_getR F (z := 38) lf9_208 (vc36 hn) z36_6 d9_passWithout_11 ?_
  refine r_iload_n F 1 rfl rfl d9_passWithout_14 ?_
  refine r_bipush F (z := 100) (by decide) d9_passWithout_15 ?_
  obtain ⟨hx1, h⟩ := wpo_chk h
  refine r_iast F (vc38 hn) hx1 d9_passWithout_17 ?_
  refine r_aload_nR F 0 rfl rfl d9_passWithout_18 ?_
  refine r_getR F (z := 36) lf9_55 (vc0 hn) z0_7 d9_passWithout_19 ?_
  refine at_name (B := fun (D1 : Mem) => At K X (ZQ K X Q) 0 0 n rt 2 22 [(0, vR X 0), (1, vI p0)] [vR X 36] D1) h (fun D1 h => ?_)
  replace h := wpo_bind h
  refine r_callV0 F lm9_209 mf8_pass (vc36 hn) rfl (fr := 2) (lo := 44) (As := []) (rest := []) ⟨Nat.le_of_ble_eq_true rfl, Nat.le_of_ble_eq_true rfl⟩ rfl (Nat.le_of_ble_eq_true rfl) ⟨Nat.zero_le _, Nat.zero_le _⟩ d9_passWithout_22 ?_
  refine ok8_pass hn (vc36 hn) (kVm h (fun a2 h => ?_))
  replace h := wpo_some h
  exact r_vret F h d9_passWithout_25
theorem d9_without_0 : decode c9_without 0 = .ok (.aload_n 0, 1) := by decide +kernel
theorem d9_without_1 : decode c9_without 1 = .ok (.iload_n 1, 1) := by decide +kernel
theorem d9_without_2 : decode c9_without 2 = .ok (.invokevirtual 124, 3) := by decide +kernel
theorem d9_without_5 : decode c9_without 5 = .ok (.ifCond .ne 6, 3) := by decide +kernel
theorem d9_without_8 : decode c9_without 8 = .ok (.bipush (-2), 2) := by decide +kernel
theorem d9_without_10 : decode c9_without 10 = .ok (.ireturn, 1) := by decide +kernel
theorem d9_without_11 : decode c9_without 11 = .ok (.aload_n 0, 1) := by decide +kernel
theorem d9_without_12 : decode c9_without 12 = .ok (.iload_n 1, 1) := by decide +kernel
theorem d9_without_13 : decode c9_without 13 = .ok (.invokevirtual 212, 3) := by decide +kernel
theorem d9_without_16 : decode c9_without 16 = .ok (.aload_n 0, 1) := by decide +kernel
theorem d9_without_17 : decode c9_without 17 = .ok (.getfield 55, 3) := by decide +kernel
theorem d9_without_20 : decode c9_without 20 = .ok (.getfield 162, 3) := by decide +kernel
theorem d9_without_23 : decode c9_without 23 = .ok (.ireturn, 1) := by decide +kernel
def f9_without (D : Mem) (p0 : Int) : Option (Int × Mem) :=
  Option.bind (f9_isPerson D p0) fun (a1 : Int) =>
  if w32 a1 = 0 then
    some ((-2), D)
  else
    Option.bind (f9_passWithout D p0) fun (a2 : Mem) =>
    some ((a2 36 4), a2)
set_option maxHeartbeats 4000000 in
theorem ok9_without {l : Launch} {X : XT} {n : Nat} {D : Mem} {Q : Option Value → Nat → Rho → Mem → Prop} (hn : 117 ≤ n) {p0 : Int}  (h : wpo (f9_without D p0) (fun a => Q (some (vI a.1)) n rt a.2)) : MOK l y9_without c9_without 2 (some .int) { frames := 4, cells := 0, slots := 0, locals := 89 } 0 0 X [vR X 0, vI p0] n rt D Q := by
  refine MOK_of 9 (by decide +kernel) rfl (lv := [(0, vR X 0), (1, vI p0)]) (Nat.le_of_ble_eq_true rfl) rfl (fun K hK F hnm => ?_)
  subst hK
  unfold f9_without at h
  refine r_aload_nR F 0 rfl rfl d9_without_0 ?_
  refine r_iload_n F 1 rfl rfl d9_without_1 ?_
  replace h := wpo_bind h
  refine r_callV0 F lm9_124 mf9_isPerson (vc0 hn) rfl (fr := 0) (lo := 0) (As := [vI p0]) (rest := []) ⟨Nat.le_of_ble_eq_true rfl, Nat.le_of_ble_eq_true rfl⟩ rfl (Nat.le_of_ble_eq_true rfl) ⟨Nat.zero_le _, Nat.zero_le _⟩ d9_without_2 ?_
  refine ok9_isPerson hn  (kI h (fun a1 h => ?_))
  refine r_if_ne F (tgt := 11) d9_without_5 (by decide) (fun hb => ?_) (fun hb => ?_)
  · replace h := wpo_neg h hb
    refine r_aload_nR F 0 rfl rfl d9_without_11 ?_
    refine r_iload_n F 1 rfl rfl d9_without_12 ?_
    replace h := wpo_bind h
    refine r_callV0 F lm9_212 mf9_passWithout (vc0 hn) rfl (fr := 3) (lo := 68) (As := [vI p0]) (rest := []) ⟨Nat.le_of_ble_eq_true rfl, Nat.le_of_ble_eq_true rfl⟩ rfl (Nat.le_of_ble_eq_true rfl) ⟨Nat.zero_le _, Nat.zero_le _⟩ d9_without_13 ?_
    refine ok9_passWithout hn  (kVm h (fun a2 h => ?_))
    refine r_aload_nR F 0 rfl rfl d9_without_16 ?_
    refine r_getR F (z := 36) lf9_55 (vc0 hn) z0_7 d9_without_17 ?_
    refine r_getI F lf9_162 (vc36 hn) d9_without_20 ?_
    replace h := wpo_some h
    exact r_iret F h d9_without_23
  · replace h := wpo_pos h hb
    refine r_bipush F (z := (-2)) (by decide) d9_without_8 ?_
    replace h := wpo_some h
    exact r_iret F h d9_without_10
theorem d9_blocks_0 : decode c9_blocks 0 = .ok (.aload_n 0, 1) := by decide +kernel
theorem d9_blocks_1 : decode c9_blocks 1 = .ok (.iload_n 1, 1) := by decide +kernel
theorem d9_blocks_2 : decode c9_blocks 2 = .ok (.invokevirtual 124, 3) := by decide +kernel
theorem d9_blocks_5 : decode c9_blocks 5 = .ok (.ifCond .ne 6, 3) := by decide +kernel
theorem d9_blocks_8 : decode c9_blocks 8 = .ok (.bipush (-2), 2) := by decide +kernel
theorem d9_blocks_10 : decode c9_blocks 10 = .ok (.ireturn, 1) := by decide +kernel
theorem d9_blocks_11 : decode c9_blocks 11 = .ok (.aload_n 0, 1) := by decide +kernel
theorem d9_blocks_12 : decode c9_blocks 12 = .ok (.iload_n 1, 1) := by decide +kernel
theorem d9_blocks_13 : decode c9_blocks 13 = .ok (.invokevirtual 212, 3) := by decide +kernel
theorem d9_blocks_16 : decode c9_blocks 16 = .ok (.iconst 0, 1) := by decide +kernel
theorem d9_blocks_17 : decode c9_blocks 17 = .ok (.istore_n 2, 1) := by decide +kernel
theorem d9_blocks_18 : decode c9_blocks 18 = .ok (.iconst 0, 1) := by decide +kernel
theorem d9_blocks_19 : decode c9_blocks 19 = .ok (.istore_n 3, 1) := by decide +kernel
theorem d9_blocks_20 : decode c9_blocks 20 = .ok (.iload_n 3, 1) := by decide +kernel
theorem d9_blocks_21 : decode c9_blocks 21 = .ok (.aload_n 0, 1) := by decide +kernel
theorem d9_blocks_22 : decode c9_blocks 22 = .ok (.getfield 28, 3) := by decide +kernel
theorem d9_blocks_25 : decode c9_blocks 25 = .ok (.getfield 165, 3) := by decide +kernel
theorem d9_blocks_28 : decode c9_blocks 28 = .ok (.if_icmp .ge 41, 3) := by decide +kernel
theorem d9_blocks_31 : decode c9_blocks 31 = .ok (.iload_n 3, 1) := by decide +kernel
theorem d9_blocks_32 : decode c9_blocks 32 = .ok (.iload_n 1, 1) := by decide +kernel
theorem d9_blocks_33 : decode c9_blocks 33 = .ok (.if_icmp .eq 30, 3) := by decide +kernel
theorem d9_blocks_36 : decode c9_blocks 36 = .ok (.aload_n 0, 1) := by decide +kernel
theorem d9_blocks_37 : decode c9_blocks 37 = .ok (.getfield 55, 3) := by decide +kernel
theorem d9_blocks_40 : decode c9_blocks 40 = .ok (.getfield 155, 3) := by decide +kernel
theorem d9_blocks_43 : decode c9_blocks 43 = .ok (.iload_n 3, 1) := by decide +kernel
theorem d9_blocks_44 : decode c9_blocks 44 = .ok (.iaload, 1) := by decide +kernel
theorem d9_blocks_45 : decode c9_blocks 45 = .ok (.aload_n 0, 1) := by decide +kernel
theorem d9_blocks_46 : decode c9_blocks 46 = .ok (.getfield 51, 3) := by decide +kernel
theorem d9_blocks_49 : decode c9_blocks 49 = .ok (.getfield 155, 3) := by decide +kernel
theorem d9_blocks_52 : decode c9_blocks 52 = .ok (.iload_n 3, 1) := by decide +kernel
theorem d9_blocks_53 : decode c9_blocks 53 = .ok (.iaload, 1) := by decide +kernel
theorem d9_blocks_54 : decode c9_blocks 54 = .ok (.if_icmp .ge 9, 3) := by decide +kernel
theorem d9_blocks_57 : decode c9_blocks 57 = .ok (.iload_n 2, 1) := by decide +kernel
theorem d9_blocks_58 : decode c9_blocks 58 = .ok (.iconst 1, 1) := by decide +kernel
theorem d9_blocks_59 : decode c9_blocks 59 = .ok (.iload_n 3, 1) := by decide +kernel
theorem d9_blocks_60 : decode c9_blocks 60 = .ok (.ishl, 1) := by decide +kernel
theorem d9_blocks_61 : decode c9_blocks 61 = .ok (.ior, 1) := by decide +kernel
theorem d9_blocks_62 : decode c9_blocks 62 = .ok (.istore_n 2, 1) := by decide +kernel
theorem d9_blocks_63 : decode c9_blocks 63 = .ok (.iinc 3 1, 3) := by decide +kernel
theorem d9_blocks_66 : decode c9_blocks 66 = .ok (.goto (-46), 3) := by decide +kernel
theorem d9_blocks_69 : decode c9_blocks 69 = .ok (.iload_n 2, 1) := by decide +kernel
theorem d9_blocks_70 : decode c9_blocks 70 = .ok (.ireturn, 1) := by decide +kernel
def f9_blocks (D : Mem) (p0 : Int) : Option (Int × Mem) :=
  Option.bind (f9_isPerson D p0) fun (a1 : Int) =>
  if w32 a1 = 0 then
    some ((-2), D)
  else
    Option.bind (f9_passWithout D p0) fun (a2 : Mem) =>
    Option.bind (@loop (Int × Int) (Int) (fun s1 =>
      if w32 s1.2 < w32 (a2 12 8) then
        Option.bind (
          if w32 s1.2 = w32 p0 then
            some s1.1
          else
            if 0 ≤ s1.2 ∧ s1.2 < 8 then
              if w32 (a2 42 s1.2.toNat) < w32 (a2 29 s1.2.toNat) then
                some (or32 s1.1 (shl32 1 s1.2))
              else
                some s1.1
            else none
        ) fun (j1 : Int) =>
        some (Sum.inl (j1, (s1.2 + 1)))
      else
        some (Sum.inr s1.1)
    ) FU (0, 0)) fun (b1 : Int) =>
    some (b1, a2)
set_option maxHeartbeats 4000000 in
theorem ok9_blocks {l : Launch} {X : XT} {n : Nat} {D : Mem} {Q : Option Value → Nat → Rho → Mem → Prop} (hn : 117 ≤ n) {p0 : Int}  (h : wpo (f9_blocks D p0) (fun a => Q (some (vI a.1)) n rt a.2)) : MOK l y9_blocks c9_blocks 4 (some .int) { frames := 4, cells := 0, slots := 0, locals := 89 } 0 0 X [vR X 0, vI p0] n rt D Q := by
  refine MOK_of 9 (by decide +kernel) rfl (lv := [(0, vR X 0), (1, vI p0)]) (Nat.le_of_ble_eq_true rfl) rfl (fun K hK F hnm => ?_)
  subst hK
  unfold f9_blocks at h
  refine r_aload_nR F 0 rfl rfl d9_blocks_0 ?_
  refine r_iload_n F 1 rfl rfl d9_blocks_1 ?_
  replace h := wpo_bind h
  refine r_callV0 F lm9_124 mf9_isPerson (vc0 hn) rfl (fr := 0) (lo := 0) (As := [vI p0]) (rest := []) ⟨Nat.le_of_ble_eq_true rfl, Nat.le_of_ble_eq_true rfl⟩ rfl (Nat.le_of_ble_eq_true rfl) ⟨Nat.zero_le _, Nat.zero_le _⟩ d9_blocks_2 ?_
  refine ok9_isPerson hn  (kI h (fun a1 h => ?_))
  refine r_if_ne F (tgt := 11) d9_blocks_5 (by decide) (fun hb => ?_) (fun hb => ?_)
  · replace h := wpo_neg h hb
    refine r_aload_nR F 0 rfl rfl d9_blocks_11 ?_
    refine r_iload_n F 1 rfl rfl d9_blocks_12 ?_
    replace h := wpo_bind h
    refine r_callV0 F lm9_212 mf9_passWithout (vc0 hn) rfl (fr := 3) (lo := 68) (As := [vI p0]) (rest := []) ⟨Nat.le_of_ble_eq_true rfl, Nat.le_of_ble_eq_true rfl⟩ rfl (Nat.le_of_ble_eq_true rfl) ⟨Nat.zero_le _, Nat.zero_le _⟩ d9_blocks_13 ?_
    refine ok9_passWithout hn  (kVm h (fun a2 h => ?_))
    refine r_iconst F (z := 0) d9_blocks_16 ?_
    refine r_istore_n F (lv' := [(2, vI 0), (0, vR X 0), (1, vI p0)]) rfl (Nat.le_of_ble_eq_true rfl) rfl d9_blocks_17 ?_
    refine r_iconst F (z := 0) d9_blocks_18 ?_
    refine r_istore_n F (lv' := [(3, vI 0), (2, vI 0), (0, vR X 0), (1, vI p0)]) rfl (Nat.le_of_ble_eq_true rfl) rfl d9_blocks_19 ?_
    refine r_weak [2, 3, 1, 0] rfl ?_
    refine at_loopj (A := fun (s1 : Int × Int) => At K X (ZQ K X Q) 0 0 n rt 4 20 [(0, vR X 0), (1, vI p0), (2, vI s1.1), (3, vI s1.2)] [] a2) (B := fun (b1 : Int) => At K X (ZQ K X Q) 0 0 n rt 4 69 [(2, vI b1)] [] a2) h (fun b1 h => ?_) (fun s1 h => ?_)
    · refine r_iload_n F 0 rfl rfl d9_blocks_69 ?_
      replace h := wpo_some h
      exact r_iret F h d9_blocks_70
    · refine r_iload_n F 3 rfl rfl d9_blocks_20 ?_
      refine r_aload_nR F 0 rfl rfl d9_blocks_21 ?_
      refine r_getR F (z := 12) lf9_28 (vc0 hn) z0_2 d9_blocks_22 ?_
      refine r_getI F lf9_165 (vc12 hn) d9_blocks_25 ?_
      refine r_icmp_ge F (tgt := 69) d9_blocks_28 (by decide) (fun hb => ?_) (fun hb => ?_)
      · replace h := wpo_neg h hb
        refine r_weak [2] rfl ?_
        replace h := wpo_inr h
        exact h
      · replace h := wpo_pos h hb
        refine r_iload_n F 3 rfl rfl d9_blocks_31 ?_
        refine r_iload_n F 1 rfl rfl d9_blocks_32 ?_
        refine at_join (B := fun (j1 : Int) => At K X (ZQ K X Q) 0 0 n rt 4 63 [(0, vR X 0), (1, vI p0), (2, vI j1), (3, vI s1.2)] [] a2) h (fun j1 h => ?_) (fun h => ?_)
        · refine r_iinc F 3 (lv' := [(3, vI (s1.2 + 1)), (0, vR X 0), (1, vI p0), (2, vI j1)]) rfl (Nat.le_of_ble_eq_true rfl) rfl d9_blocks_63 ?_
          refine r_goto F (tgt := 20) (by decide) d9_blocks_66 ?_
          refine r_weak [1, 2, 3, 0] rfl ?_
          replace h := wpo_inl h
          exact h
        · refine r_icmp_eq F (tgt := 63) d9_blocks_33 (by decide) (fun hb => ?_) (fun hb => ?_)
          · replace h := wpo_pos h hb
            replace h := wpo_some h
            exact h
          · replace h := wpo_neg h hb
            refine r_aload_nR F 0 rfl rfl d9_blocks_36 ?_
            refine r_getR F (z := 36) lf9_55 (vc0 hn) z0_7 d9_blocks_37 ?_
            refine r_getR F (z := 42) lf9_155 (vc36 hn) z36_10 d9_blocks_40 ?_
            refine r_iload_n F 3 rfl rfl d9_blocks_43 ?_
            obtain ⟨hx1, h⟩ := wpo_chk h
            refine r_iald F (vc42 hn) hx1 d9_blocks_44 ?_
            refine r_aload_nR F 0 rfl rfl d9_blocks_45 ?_
            refine r_getR F (z := 23) lf9_51 (vc0 hn) z0_6 d9_blocks_46 ?_
            refine r_getR F (z := 29) lf9_155 (vc23 hn) z23_10 d9_blocks_49 ?_
            refine r_iload_n F 3 rfl rfl d9_blocks_52 ?_
            refine r_iald F (vc29 hn) hx1 d9_blocks_53 ?_
            refine r_icmp_ge F (tgt := 63) d9_blocks_54 (by decide) (fun hb => ?_) (fun hb => ?_)
            · replace h := wpo_neg h hb
              replace h := wpo_some h
              exact h
            · replace h := wpo_pos h hb
              refine r_iload_n F 2 rfl rfl d9_blocks_57 ?_
              refine r_iconst F (z := 1) d9_blocks_58 ?_
              refine r_iload_n F 3 rfl rfl d9_blocks_59 ?_
              refine r_ishl F d9_blocks_60 ?_
              refine r_ior F d9_blocks_61 ?_
              refine r_istore_n F (lv' := [(2, vI (or32 s1.1 (shl32 1 s1.2))), (0, vR X 0), (1, vI p0), (3, vI s1.2)]) rfl (Nat.le_of_ble_eq_true rfl) rfl d9_blocks_62 ?_
              refine r_weak [1, 2, 0, 3] rfl ?_
              replace h := wpo_some h
              exact h
  · replace h := wpo_pos h hb
    refine r_bipush F (z := (-2)) (by decide) d9_blocks_8 ?_
    replace h := wpo_some h
    exact r_iret F h d9_blocks_10
theorem d9_wide_0 : decode c9_wide 0 = .ok (.aload_n 0, 1) := by decide +kernel
theorem d9_wide_1 : decode c9_wide 1 = .ok (.invokevirtual 159, 3) := by decide +kernel
theorem d9_wide_4 : decode c9_wide 4 = .ok (.ifCond .ne 6, 3) := by decide +kernel
theorem d9_wide_7 : decode c9_wide 7 = .ok (.bipush (-2), 2) := by decide +kernel
theorem d9_wide_9 : decode c9_wide 9 = .ok (.ireturn, 1) := by decide +kernel
theorem d9_wide_10 : decode c9_wide 10 = .ok (.iconst 1, 1) := by decide +kernel
theorem d9_wide_11 : decode c9_wide 11 = .ok (.istore_n 1, 1) := by decide +kernel
theorem d9_wide_12 : decode c9_wide 12 = .ok (.iload_n 1, 1) := by decide +kernel
theorem d9_wide_13 : decode c9_wide 13 = .ok (.sipush 160, 3) := by decide +kernel
theorem d9_wide_16 : decode c9_wide 16 = .ok (.if_icmp .gt 43, 3) := by decide +kernel
theorem d9_wide_19 : decode c9_wide 19 = .ok (.aload_n 0, 1) := by decide +kernel
theorem d9_wide_20 : decode c9_wide 20 = .ok (.getfield 55, 3) := by decide +kernel
theorem d9_wide_23 : decode c9_wide 23 = .ok (.invokevirtual 205, 3) := by decide +kernel
theorem d9_wide_26 : decode c9_wide 26 = .ok (.aload_n 0, 1) := by decide +kernel
theorem d9_wide_27 : decode c9_wide 27 = .ok (.getfield 55, 3) := by decide +kernel
theorem d9_wide_30 : decode c9_wide 30 = .ok (.iload_n 1, 1) := by decide +kernel
theorem d9_wide_31 : decode c9_wide 31 = .ok (.putfield 215, 3) := by decide +kernel
theorem d9_wide_34 : decode c9_wide 34 = .ok (.aload_n 0, 1) := by decide +kernel
theorem d9_wide_35 : decode c9_wide 35 = .ok (.getfield 55, 3) := by decide +kernel
theorem d9_wide_38 : decode c9_wide 38 = .ok (.invokevirtual 209, 3) := by decide +kernel
theorem d9_wide_41 : decode c9_wide 41 = .ok (.aload_n 0, 1) := by decide +kernel
theorem d9_wide_42 : decode c9_wide 42 = .ok (.getfield 55, 3) := by decide +kernel
theorem d9_wide_45 : decode c9_wide 45 = .ok (.getfield 162, 3) := by decide +kernel
theorem d9_wide_48 : decode c9_wide 48 = .ok (.ifCond .ne 5, 3) := by decide +kernel
theorem d9_wide_51 : decode c9_wide 51 = .ok (.iload_n 1, 1) := by decide +kernel
theorem d9_wide_52 : decode c9_wide 52 = .ok (.ireturn, 1) := by decide +kernel
theorem d9_wide_53 : decode c9_wide 53 = .ok (.iinc 1 1, 3) := by decide +kernel
theorem d9_wide_56 : decode c9_wide 56 = .ok (.goto (-44), 3) := by decide +kernel
theorem d9_wide_59 : decode c9_wide 59 = .ok (.iconst (-1), 1) := by decide +kernel
theorem d9_wide_60 : decode c9_wide 60 = .ok (.ireturn, 1) := by decide +kernel
def f9_wide (D : Mem) : Option (Int × Mem) :=
  Option.bind (f9_isThere D) fun (a1 : Int) =>
  if w32 a1 = 0 then
    some ((-2), D)
  else
    Option.bind (@loop (Int × Mem) ((Mem) ⊕ (Int × Mem)) (fun s1 =>
      if w32 160 < w32 s1.1 then
        some (Sum.inr (Sum.inl s1.2))
      else
        Option.bind (f8_prepare s1.2 36) fun (a2 : Mem) =>
        Option.bind (some (mset a2 36 1 s1.1)) fun (D1 : Mem) =>
        Option.bind (f8_pass D1 36) fun (a3 : Mem) =>
        if w32 (a3 36 4) = 0 then
          some (Sum.inr (Sum.inr (s1.1, a3)))
        else
          some (Sum.inl ((s1.1 + 1), a3))
    ) FU (1, D)) (fun z => Sum.elim (fun (b1 : Mem) =>
      some ((-1), b1)
    ) (fun rv => some rv) z)
set_option maxHeartbeats 4000000 in
theorem ok9_wide {l : Launch} {X : XT} {n : Nat} {D : Mem} {Q : Option Value → Nat → Rho → Mem → Prop} (hn : 117 ≤ n)  (h : wpo (f9_wide D) (fun a => Q (some (vI a.1)) n rt a.2)) : MOK l y9_wide c9_wide 2 (some .int) { frames := 3, cells := 0, slots := 0, locals := 68 } 0 0 X [vR X 0] n rt D Q := by
  refine MOK_of 9 (by decide +kernel) rfl (lv := [(0, vR X 0)]) (Nat.le_of_ble_eq_true rfl) rfl (fun K hK F hnm => ?_)
  subst hK
  unfold f9_wide at h
  refine r_aload_nR F 0 rfl rfl d9_wide_0 ?_
  replace h := wpo_bind h
  refine r_callV0 F lm9_159 mf9_isThere (vc0 hn) rfl (fr := 0) (lo := 0) (As := []) (rest := []) ⟨Nat.le_of_ble_eq_true rfl, Nat.le_of_ble_eq_true rfl⟩ rfl (Nat.le_of_ble_eq_true rfl) ⟨Nat.zero_le _, Nat.zero_le _⟩ d9_wide_1 ?_
  refine ok9_isThere hn  (kI h (fun a1 h => ?_))
  refine r_if_ne F (tgt := 10) d9_wide_4 (by decide) (fun hb => ?_) (fun hb => ?_)
  · replace h := wpo_neg h hb
    refine r_iconst F (z := 1) d9_wide_10 ?_
    refine r_istore_n F (lv' := [(1, vI 1), (0, vR X 0)]) rfl (Nat.le_of_ble_eq_true rfl) rfl d9_wide_11 ?_
    refine r_weak [1, 0] rfl ?_
    refine at_loopj (A := fun (s1 : Int × Mem) => At K X (ZQ K X Q) 0 0 n rt 2 12 [(0, vR X 0), (1, vI s1.1)] [] s1.2) (B := Sum.elim (fun (b1 : Mem) => At K X (ZQ K X Q) 0 0 n rt 2 59 [] [] b1) (fun rv => Q (some (vI rv.1)) n rt rv.2)) h (fun z h => ?_) (fun s1 h => ?_)
    · rcases z with b1 | rv
      · replace h := elim_l h
        refine el_li ?_
        refine r_iconst F (z := (-1)) d9_wide_59 ?_
        replace h := wpo_some h
        exact r_iret F h d9_wide_60
      · replace h := elim_r h
        replace h := wpo_some h
        exact el_ri h
    · refine r_iload_n F 1 rfl rfl d9_wide_12 ?_
      refine r_sipush F (z := 160) (by decide) d9_wide_13 ?_
      refine r_icmp_gt F (tgt := 59) d9_wide_16 (by decide) (fun hb => ?_) (fun hb => ?_)
      · replace h := wpo_pos h hb
        refine r_weak [] rfl ?_
        replace h := wpo_inr h
        replace h := el_l h
        exact h
      · replace h := wpo_neg h hb
        refine r_aload_nR F 0 rfl rfl d9_wide_19 ?_
        refine r_getR F (z := 36) lf9_55 (vc0 hn) z0_7 d9_wide_20 ?_
        replace h := wpo_bind h
        refine r_callV0 F lm9_205 mf8_prepare (vc36 hn) rfl (fr := 1) (lo := 26) (As := []) (rest := []) ⟨Nat.le_of_ble_eq_true rfl, Nat.le_of_ble_eq_true rfl⟩ rfl (Nat.le_of_ble_eq_true rfl) ⟨Nat.zero_le _, Nat.zero_le _⟩ d9_wide_23 ?_
        refine ok8_prepare hn (vc36 hn) (kVm h (fun a2 h => ?_))
        refine r_aload_nR F 0 rfl rfl d9_wide_26 ?_
        refine r_getR F (z := 36) lf9_55 (vc0 hn) z0_7 d9_wide_27 ?_
        refine r_iload_n F 1 rfl rfl d9_wide_30 ?_
        refine r_putI F lf9_215 rfl rfl (vc36 hn) d9_wide_31 ?_
        refine r_aload_nR F 0 rfl rfl d9_wide_34 ?_
        refine r_getR F (z := 36) lf9_55 (vc0 hn) z0_7 d9_wide_35 ?_
        refine at_name (B := fun (D1 : Mem) => At K X (ZQ K X Q) 0 0 n rt 2 38 [(0, vR X 0), (1, vI s1.1)] [vR X 36] D1) h (fun D1 h => ?_)
        replace h := wpo_bind h
        refine r_callV0 F lm9_209 mf8_pass (vc36 hn) rfl (fr := 2) (lo := 44) (As := []) (rest := []) ⟨Nat.le_of_ble_eq_true rfl, Nat.le_of_ble_eq_true rfl⟩ rfl (Nat.le_of_ble_eq_true rfl) ⟨Nat.zero_le _, Nat.zero_le _⟩ d9_wide_38 ?_
        refine ok8_pass hn (vc36 hn) (kVm h (fun a3 h => ?_))
        refine r_aload_nR F 0 rfl rfl d9_wide_41 ?_
        refine r_getR F (z := 36) lf9_55 (vc0 hn) z0_7 d9_wide_42 ?_
        refine r_getI F lf9_162 (vc36 hn) d9_wide_45 ?_
        refine r_if_ne F (tgt := 53) d9_wide_48 (by decide) (fun hb => ?_) (fun hb => ?_)
        · replace h := wpo_neg h hb
          refine r_iinc F 1 (lv' := [(1, vI (s1.1 + 1)), (0, vR X 0)]) rfl (Nat.le_of_ble_eq_true rfl) rfl d9_wide_53 ?_
          refine r_goto F (tgt := 12) (by decide) d9_wide_56 ?_
          refine r_weak [1, 0] rfl ?_
          replace h := wpo_inl h
          exact h
        · replace h := wpo_pos h hb
          refine r_iload_n F 1 rfl rfl d9_wide_51 ?_
          replace h := el_r (wpo_inr h)
          exact r_iret F h d9_wide_52
  · replace h := wpo_pos h hb
    refine r_bipush F (z := (-2)) (by decide) d9_wide_7 ?_
    replace h := wpo_some h
    exact r_iret F h d9_wide_9
theorem d9_mild_0 : decode c9_mild 0 = .ok (.aload_n 0, 1) := by decide +kernel
theorem d9_mild_1 : decode c9_mild 1 = .ok (.invokevirtual 159, 3) := by decide +kernel
theorem d9_mild_4 : decode c9_mild 4 = .ok (.ifCond .eq 14, 3) := by decide +kernel
theorem d9_mild_7 : decode c9_mild 7 = .ok (.iload_n 1, 1) := by decide +kernel
theorem d9_mild_8 : decode c9_mild 8 = .ok (.ifCond .lt 10, 3) := by decide +kernel
theorem d9_mild_11 : decode c9_mild 11 = .ok (.iload_n 1, 1) := by decide +kernel
theorem d9_mild_12 : decode c9_mild 12 = .ok (.sipush 160, 3) := by decide +kernel
theorem d9_mild_15 : decode c9_mild 15 = .ok (.if_icmp .le 6, 3) := by decide +kernel
theorem d9_mild_18 : decode c9_mild 18 = .ok (.bipush (-2), 2) := by decide +kernel
theorem d9_mild_20 : decode c9_mild 20 = .ok (.ireturn, 1) := by decide +kernel
theorem d9_mild_21 : decode c9_mild 21 = .ok (.iconst 0, 1) := by decide +kernel
theorem d9_mild_22 : decode c9_mild 22 = .ok (.istore_n 2, 1) := by decide +kernel
theorem d9_mild_23 : decode c9_mild 23 = .ok (.iconst 0, 1) := by decide +kernel
theorem d9_mild_24 : decode c9_mild 24 = .ok (.istore_n 3, 1) := by decide +kernel
theorem d9_mild_25 : decode c9_mild 25 = .ok (.iconst 1, 1) := by decide +kernel
theorem d9_mild_26 : decode c9_mild 26 = .ok (.istore 4, 2) := by decide +kernel
theorem d9_mild_28 : decode c9_mild 28 = .ok (.iload 4, 2) := by decide +kernel
theorem d9_mild_30 : decode c9_mild 30 = .ok (.bipush 20, 2) := by decide +kernel
theorem d9_mild_32 : decode c9_mild 32 = .ok (.if_icmp .gt 61, 3) := by decide +kernel
theorem d9_mild_35 : decode c9_mild 35 = .ok (.iconst 0, 1) := by decide +kernel
theorem d9_mild_36 : decode c9_mild 36 = .ok (.istore 5, 2) := by decide +kernel
theorem d9_mild_38 : decode c9_mild 38 = .ok (.iload 5, 2) := by decide +kernel
theorem d9_mild_40 : decode c9_mild 40 = .ok (.aload_n 0, 1) := by decide +kernel
theorem d9_mild_41 : decode c9_mild 41 = .ok (.getfield 28, 3) := by decide +kernel
theorem d9_mild_44 : decode c9_mild 44 = .ok (.getfield 165, 3) := by decide +kernel
theorem d9_mild_47 : decode c9_mild 47 = .ok (.if_icmp .ge 40, 3) := by decide +kernel
theorem d9_mild_50 : decode c9_mild 50 = .ok (.aload_n 0, 1) := by decide +kernel
theorem d9_mild_51 : decode c9_mild 51 = .ok (.getfield 28, 3) := by decide +kernel
theorem d9_mild_54 : decode c9_mild 54 = .ok (.getfield 128, 3) := by decide +kernel
theorem d9_mild_57 : decode c9_mild 57 = .ok (.iload 5, 2) := by decide +kernel
theorem d9_mild_59 : decode c9_mild 59 = .ok (.iaload, 1) := by decide +kernel
theorem d9_mild_60 : decode c9_mild 60 = .ok (.iload 4, 2) := by decide +kernel
theorem d9_mild_62 : decode c9_mild 62 = .ok (.if_icmp .ne 19, 3) := by decide +kernel
theorem d9_mild_65 : decode c9_mild 65 = .ok (.iload_n 3, 1) := by decide +kernel
theorem d9_mild_66 : decode c9_mild 66 = .ok (.iload 4, 2) := by decide +kernel
theorem d9_mild_68 : decode c9_mild 68 = .ok (.iadd, 1) := by decide +kernel
theorem d9_mild_69 : decode c9_mild 69 = .ok (.iload_n 1, 1) := by decide +kernel
theorem d9_mild_70 : decode c9_mild 70 = .ok (.if_icmp .gt 11, 3) := by decide +kernel
theorem d9_mild_73 : decode c9_mild 73 = .ok (.iload_n 3, 1) := by decide +kernel
theorem d9_mild_74 : decode c9_mild 74 = .ok (.iload 4, 2) := by decide +kernel
theorem d9_mild_76 : decode c9_mild 76 = .ok (.iadd, 1) := by decide +kernel
theorem d9_mild_77 : decode c9_mild 77 = .ok (.istore_n 3, 1) := by decide +kernel
theorem d9_mild_78 : decode c9_mild 78 = .ok (.iinc 2 1, 3) := by decide +kernel
theorem d9_mild_81 : decode c9_mild 81 = .ok (.iinc 5 1, 3) := by decide +kernel
theorem d9_mild_84 : decode c9_mild 84 = .ok (.goto (-46), 3) := by decide +kernel
theorem d9_mild_87 : decode c9_mild 87 = .ok (.iinc 4 1, 3) := by decide +kernel
theorem d9_mild_90 : decode c9_mild 90 = .ok (.goto (-62), 3) := by decide +kernel
theorem d9_mild_93 : decode c9_mild 93 = .ok (.iload_n 2, 1) := by decide +kernel
theorem d9_mild_94 : decode c9_mild 94 = .ok (.ireturn, 1) := by decide +kernel
def f9_mild (D : Mem) (p0 : Int) : Option (Int) :=
  Option.bind (f9_isThere D) fun (a1 : Int) =>
  if w32 a1 = 0 then
    some (-2)
  else
    if w32 p0 < 0 then
      some (-2)
    else
      if w32 160 < w32 p0 then
        some (-2)
      else
        Option.bind (@loop (Int × Int × Int) (Int) (fun s1 =>
          if w32 20 < w32 s1.2.2 then
            some (Sum.inr s1.1)
          else
            Option.bind (@loop (Int × Int × Int) (Int × Int) (fun s2 =>
              if w32 s2.2.2 < w32 (D 12 8) then
                if 0 ≤ s2.2.2 ∧ s2.2.2 < 8 then
                  Option.bind (
                    if w32 (D 13 s2.2.2.toNat) = w32 s1.2.2 then
                      if w32 p0 < w32 (s2.2.1 + s1.2.2) then
                        some (s2.1, s2.2.1)
                      else
                        Option.bind (some (s2.2.1 + s1.2.2)) fun (v1 : Int) =>
                        some ((s2.1 + 1), v1)
                    else
                      some (s2.1, s2.2.1)
                  ) fun (j1 : Int × Int) =>
                  some (Sum.inl (j1.1, j1.2, (s2.2.2 + 1)))
                else none
              else
                some (Sum.inr (s2.1, s2.2.1))
            ) FU (s1.1, s1.2.1, 0)) fun (b2 : Int × Int) =>
            some (Sum.inl (b2.1, b2.2, (s1.2.2 + 1)))
        ) FU (0, 0, 1)) fun (b1 : Int) =>
        some b1
set_option maxHeartbeats 4000000 in
theorem ok9_mild {l : Launch} {X : XT} {n : Nat} {D : Mem} {Q : Option Value → Nat → Rho → Mem → Prop} (hn : 117 ≤ n) {p0 : Int}  (h : wpo (f9_mild D p0) (fun a => Q (some (vI a)) n rt D)) : MOK l y9_mild c9_mild 6 (some .int) { frames := 1, cells := 0, slots := 0, locals := 20 } 0 0 X [vR X 0, vI p0] n rt D Q := by
  refine MOK_of 9 (by decide +kernel) rfl (lv := [(0, vR X 0), (1, vI p0)]) (Nat.le_of_ble_eq_true rfl) rfl (fun K hK F hnm => ?_)
  subst hK
  unfold f9_mild at h
  refine r_aload_nR F 0 rfl rfl d9_mild_0 ?_
  replace h := wpo_bind h
  refine r_callV0 F lm9_159 mf9_isThere (vc0 hn) rfl (fr := 0) (lo := 0) (As := []) (rest := []) ⟨Nat.le_of_ble_eq_true rfl, Nat.le_of_ble_eq_true rfl⟩ rfl (Nat.le_of_ble_eq_true rfl) ⟨Nat.zero_le _, Nat.zero_le _⟩ d9_mild_1 ?_
  refine ok9_isThere hn  (kI h (fun a1 h => ?_))
  refine r_if_eq F (tgt := 18) d9_mild_4 (by decide) (fun hb => ?_) (fun hb => ?_)
  · replace h := wpo_pos h hb
    refine r_bipush F (z := (-2)) (by decide) d9_mild_18 ?_
    replace h := wpo_some h
    exact r_iret F h d9_mild_20
  · replace h := wpo_neg h hb
    refine r_iload_n F 1 rfl rfl d9_mild_7 ?_
    refine r_if_lt F (tgt := 18) d9_mild_8 (by decide) (fun hb => ?_) (fun hb => ?_)
    · replace h := wpo_pos h hb
      refine r_bipush F (z := (-2)) (by decide) d9_mild_18 ?_
      replace h := wpo_some h
      exact r_iret F h d9_mild_20
    · replace h := wpo_neg h hb
      refine r_iload_n F 1 rfl rfl d9_mild_11 ?_
      refine r_sipush F (z := 160) (by decide) d9_mild_12 ?_
      refine r_icmp_le F (tgt := 21) d9_mild_15 (by decide) (fun hb => ?_) (fun hb => ?_)
      · replace h := wpo_neg h hb
        refine r_iconst F (z := 0) d9_mild_21 ?_
        refine r_istore_n F (lv' := [(2, vI 0), (0, vR X 0), (1, vI p0)]) rfl (Nat.le_of_ble_eq_true rfl) rfl d9_mild_22 ?_
        refine r_iconst F (z := 0) d9_mild_23 ?_
        refine r_istore_n F (lv' := [(3, vI 0), (2, vI 0), (0, vR X 0), (1, vI p0)]) rfl (Nat.le_of_ble_eq_true rfl) rfl d9_mild_24 ?_
        refine r_iconst F (z := 1) d9_mild_25 ?_
        refine r_istore F (lv' := [(4, vI 1), (3, vI 0), (2, vI 0), (0, vR X 0), (1, vI p0)]) (Nat.le_of_ble_eq_true rfl) rfl d9_mild_26 ?_
        refine r_weak [3, 4, 2, 1, 0] rfl ?_
        refine at_loopj (A := fun (s1 : Int × Int × Int) => At K X (ZQ K X Q) 0 0 n rt 6 28 [(0, vR X 0), (1, vI p0), (2, vI s1.1), (3, vI s1.2.1), (4, vI s1.2.2)] [] D) (B := fun (b1 : Int) => At K X (ZQ K X Q) 0 0 n rt 6 93 [(2, vI b1)] [] D) h (fun b1 h => ?_) (fun s1 h => ?_)
        · refine r_iload_n F 0 rfl rfl d9_mild_93 ?_
          replace h := wpo_some h
          exact r_iret F h d9_mild_94
        · refine r_iload F 4 rfl d9_mild_28 ?_
          refine r_bipush F (z := 20) (by decide) d9_mild_30 ?_
          refine r_icmp_gt F (tgt := 93) d9_mild_32 (by decide) (fun hb => ?_) (fun hb => ?_)
          · replace h := wpo_pos h hb
            refine r_weak [2] rfl ?_
            replace h := wpo_inr h
            exact h
          · replace h := wpo_neg h hb
            refine r_iconst F (z := 0) d9_mild_35 ?_
            refine r_istore F (lv' := [(5, vI 0), (0, vR X 0), (1, vI p0), (2, vI s1.1), (3, vI s1.2.1), (4, vI s1.2.2)]) (Nat.le_of_ble_eq_true rfl) rfl d9_mild_36 ?_
            refine r_weak [1, 2, 3, 4, 5, 0] rfl ?_
            refine at_loopj (A := fun (s2 : Int × Int × Int) => At K X (ZQ K X Q) 0 0 n rt 6 38 [(0, vR X 0), (1, vI p0), (2, vI s2.1), (3, vI s2.2.1), (4, vI s1.2.2), (5, vI s2.2.2)] [] D) (B := fun (b2 : Int × Int) => At K X (ZQ K X Q) 0 0 n rt 6 87 [(0, vR X 0), (1, vI p0), (2, vI b2.1), (3, vI b2.2), (4, vI s1.2.2)] [] D) h (fun b2 h => ?_) (fun s2 h => ?_)
            · refine r_iinc F 4 (lv' := [(4, vI (s1.2.2 + 1)), (0, vR X 0), (1, vI p0), (2, vI b2.1), (3, vI b2.2)]) rfl (Nat.le_of_ble_eq_true rfl) rfl d9_mild_87 ?_
              refine r_goto F (tgt := 28) (by decide) d9_mild_90 ?_
              refine r_weak [1, 2, 3, 4, 0] rfl ?_
              replace h := wpo_inl h
              exact h
            · refine r_iload F 5 rfl d9_mild_38 ?_
              refine r_aload_nR F 0 rfl rfl d9_mild_40 ?_
              refine r_getR F (z := 12) lf9_28 (vc0 hn) z0_2 d9_mild_41 ?_
              refine r_getI F lf9_165 (vc12 hn) d9_mild_44 ?_
              refine r_icmp_ge F (tgt := 87) d9_mild_47 (by decide) (fun hb => ?_) (fun hb => ?_)
              · replace h := wpo_neg h hb
                refine r_weak [0, 1, 2, 3, 4] rfl ?_
                replace h := wpo_inr h
                exact h
              · replace h := wpo_pos h hb
                refine r_aload_nR F 0 rfl rfl d9_mild_50 ?_
                refine r_getR F (z := 12) lf9_28 (vc0 hn) z0_2 d9_mild_51 ?_
                refine r_getR F (z := 13) lf9_128 (vc12 hn) z12_10 d9_mild_54 ?_
                refine r_iload F 5 rfl d9_mild_57 ?_
                obtain ⟨hx1, h⟩ := wpo_chk h
                refine r_iald F (vc13 hn) hx1 d9_mild_59 ?_
                refine r_iload F 4 rfl d9_mild_60 ?_
                refine at_join (B := fun (j1 : Int × Int) => At K X (ZQ K X Q) 0 0 n rt 6 81 [(0, vR X 0), (1, vI p0), (2, vI j1.1), (3, vI j1.2), (4, vI s1.2.2), (5, vI s2.2.2)] [] D) h (fun j1 h => ?_) (fun h => ?_)
                · refine r_iinc F 5 (lv' := [(5, vI (s2.2.2 + 1)), (0, vR X 0), (1, vI p0), (2, vI j1.1), (3, vI j1.2), (4, vI s1.2.2)]) rfl (Nat.le_of_ble_eq_true rfl) rfl d9_mild_81 ?_
                  refine r_goto F (tgt := 38) (by decide) d9_mild_84 ?_
                  refine r_weak [1, 2, 3, 4, 5, 0] rfl ?_
                  replace h := wpo_inl h
                  exact h
                · refine r_icmp_ne F (tgt := 81) d9_mild_62 (by decide) (fun hb => ?_) (fun hb => ?_)
                  · replace h := wpo_neg h hb
                    replace h := wpo_some h
                    exact h
                  · replace h := wpo_pos h hb
                    refine r_iload_n F 3 rfl rfl d9_mild_65 ?_
                    refine r_iload F 4 rfl d9_mild_66 ?_
                    refine r_iadd F d9_mild_68 ?_
                    refine r_iload_n F 1 rfl rfl d9_mild_69 ?_
                    refine r_icmp_gt F (tgt := 81) d9_mild_70 (by decide) (fun hb => ?_) (fun hb => ?_)
                    · replace h := wpo_pos h hb
                      replace h := wpo_some h
                      exact h
                    · replace h := wpo_neg h hb
                      refine r_iload_n F 3 rfl rfl d9_mild_73 ?_
                      refine r_iload F 4 rfl d9_mild_74 ?_
                      refine r_iadd F d9_mild_76 ?_
                      refine r_istore_n F (lv' := [(3, vI (s2.2.1 + s1.2.2)), (0, vR X 0), (1, vI p0), (2, vI s2.1), (4, vI s1.2.2), (5, vI s2.2.2)]) rfl (Nat.le_of_ble_eq_true rfl) rfl d9_mild_77 ?_
                      refine at_name (B := fun (v1 : Int) => At K X (ZQ K X Q) 0 0 n rt 6 78 [(3, vI v1), (0, vR X 0), (1, vI p0), (2, vI s2.1), (4, vI s1.2.2), (5, vI s2.2.2)] [] D) h (fun v1 h => ?_)
                      refine r_iinc F 3 (lv' := [(2, vI (s2.1 + 1)), (3, vI v1), (0, vR X 0), (1, vI p0), (4, vI s1.2.2), (5, vI s2.2.2)]) rfl (Nat.le_of_ble_eq_true rfl) rfl d9_mild_78 ?_
                      refine r_weak [2, 3, 0, 1, 4, 5] rfl ?_
                      replace h := wpo_some h
                      exact h
      · replace h := wpo_pos h hb
        refine r_bipush F (z := (-2)) (by decide) d9_mild_18 ?_
        replace h := wpo_some h
        exact r_iret F h d9_mild_20
theorem d9_isRule_0 : decode c9_isRule 0 = .ok (.iload_n 1, 1) := by decide +kernel
theorem d9_isRule_1 : decode c9_isRule 1 = .ok (.ifCond .lt 12, 3) := by decide +kernel
theorem d9_isRule_4 : decode c9_isRule 4 = .ok (.iload_n 1, 1) := by decide +kernel
theorem d9_isRule_5 : decode c9_isRule 5 = .ok (.iconst 4, 1) := by decide +kernel
theorem d9_isRule_6 : decode c9_isRule 6 = .ok (.if_icmp .ge 7, 3) := by decide +kernel
theorem d9_isRule_9 : decode c9_isRule 9 = .ok (.iconst 1, 1) := by decide +kernel
theorem d9_isRule_10 : decode c9_isRule 10 = .ok (.goto 4, 3) := by decide +kernel
theorem d9_isRule_13 : decode c9_isRule 13 = .ok (.iconst 0, 1) := by decide +kernel
theorem d9_isRule_14 : decode c9_isRule 14 = .ok (.ireturn, 1) := by decide +kernel
def f9_isRule (D : Mem) (p0 : Int) : Option (Int) :=
  if w32 p0 < 0 then
    some 0
  else
    if w32 p0 < w32 4 then
      some 1
    else
      some 0
set_option maxHeartbeats 4000000 in
theorem ok9_isRule {l : Launch} {X : XT} {n : Nat} {D : Mem} {Q : Option Value → Nat → Rho → Mem → Prop} (hn : 117 ≤ n) {p0 : Int}  (h : wpo (f9_isRule D p0) (fun a => Q (some (vI a)) n rt D)) : MOK l y9_isRule c9_isRule 2 (some .boolean) { frames := 0, cells := 0, slots := 0, locals := 0 } 0 0 X [vR X 0, vI p0] n rt D Q := by
  refine MOK_of 9 (by decide +kernel) rfl (lv := [(0, vR X 0), (1, vI p0)]) (Nat.le_of_ble_eq_true rfl) rfl (fun K hK F hnm => ?_)
  subst hK
  unfold f9_isRule at h
  refine r_iload_n F 1 rfl rfl d9_isRule_0 ?_
  refine r_if_lt F (tgt := 13) d9_isRule_1 (by decide) (fun hb => ?_) (fun hb => ?_)
  · replace h := wpo_pos h hb
    refine r_iconst F (z := 0) d9_isRule_13 ?_
    replace h := wpo_some h
    exact r_zret F (Or.inl rfl) h d9_isRule_14
  · replace h := wpo_neg h hb
    refine r_iload_n F 1 rfl rfl d9_isRule_4 ?_
    refine r_iconst F (z := 4) d9_isRule_5 ?_
    refine r_icmp_ge F (tgt := 13) d9_isRule_6 (by decide) (fun hb => ?_) (fun hb => ?_)
    · replace h := wpo_neg h hb
      refine r_iconst F (z := 0) d9_isRule_13 ?_
      replace h := wpo_some h
      exact r_zret F (Or.inl rfl) h d9_isRule_14
    · replace h := wpo_pos h hb
      refine r_iconst F (z := 1) d9_isRule_9 ?_
      refine r_goto F (tgt := 14) (by decide) d9_isRule_10 ?_
      replace h := wpo_some h
      exact r_zret F (Or.inr rfl) h d9_isRule_14
theorem d9_passBy_0 : decode c9_passBy 0 = .ok (.aload_n 0, 1) := by decide +kernel
theorem d9_passBy_1 : decode c9_passBy 1 = .ok (.getfield 55, 3) := by decide +kernel
theorem d9_passBy_4 : decode c9_passBy 4 = .ok (.invokevirtual 205, 3) := by decide +kernel
theorem d9_passBy_7 : decode c9_passBy 7 = .ok (.aload_n 0, 1) := by decide +kernel
theorem d9_passBy_8 : decode c9_passBy 8 = .ok (.getfield 55, 3) := by decide +kernel
theorem d9_passBy_11 : decode c9_passBy 11 = .ok (.iload_n 1, 1) := by decide +kernel
theorem d9_passBy_12 : decode c9_passBy 12 = .ok (.putfield 403, 3) := by decide +kernel
theorem d9_passBy_15 : decode c9_passBy 15 = .ok (.aload_n 0, 1) := by decide +kernel
theorem d9_passBy_16 : decode c9_passBy 16 = .ok (.getfield 55, 3) := by decide +kernel
theorem d9_passBy_19 : decode c9_passBy 19 = .ok (.invokevirtual 209, 3) := by decide +kernel
theorem d9_passBy_22 : decode c9_passBy 22 = .ok (.return_, 1) := by decide +kernel
def f9_passBy (D : Mem) (p0 : Int) : Option (Mem) :=
  Option.bind (f8_prepare D 36) fun (a1 : Mem) =>
  Option.bind (some (mset a1 36 2 p0)) fun (D1 : Mem) =>
  Option.bind (f8_pass D1 36) fun (a2 : Mem) =>
  some a2
set_option maxHeartbeats 4000000 in
theorem ok9_passBy {l : Launch} {X : XT} {n : Nat} {D : Mem} {Q : Option Value → Nat → Rho → Mem → Prop} (hn : 117 ≤ n) {p0 : Int}  (h : wpo (f9_passBy D p0) (fun a => Q none n rt a)) : MOK l y9_passBy c9_passBy 2 (none) { frames := 3, cells := 0, slots := 0, locals := 68 } 0 0 X [vR X 0, vI p0] n rt D Q := by
  refine MOK_of 9 (by decide +kernel) rfl (lv := [(0, vR X 0), (1, vI p0)]) (Nat.le_of_ble_eq_true rfl) rfl (fun K hK F hnm => ?_)
  subst hK
  unfold f9_passBy at h
  refine r_aload_nR F 0 rfl rfl d9_passBy_0 ?_
  refine r_getR F (z := 36) lf9_55 (vc0 hn) z0_7 d9_passBy_1 ?_
  replace h := wpo_bind h
  refine r_callV0 F lm9_205 mf8_prepare (vc36 hn) rfl (fr := 1) (lo := 26) (As := []) (rest := []) ⟨Nat.le_of_ble_eq_true rfl, Nat.le_of_ble_eq_true rfl⟩ rfl (Nat.le_of_ble_eq_true rfl) ⟨Nat.zero_le _, Nat.zero_le _⟩ d9_passBy_4 ?_
  refine ok8_prepare hn (vc36 hn) (kVm h (fun a1 h => ?_))
  refine r_aload_nR F 0 rfl rfl d9_passBy_7 ?_
  refine r_getR F (z := 36) lf9_55 (vc0 hn) z0_7 d9_passBy_8 ?_
  refine r_iload_n F 1 rfl rfl d9_passBy_11 ?_
  refine r_putI F lf9_403 rfl rfl (vc36 hn) d9_passBy_12 ?_
  refine r_aload_nR F 0 rfl rfl d9_passBy_15 ?_
  refine r_getR F (z := 36) lf9_55 (vc0 hn) z0_7 d9_passBy_16 ?_
  refine at_name (B := fun (D1 : Mem) => At K X (ZQ K X Q) 0 0 n rt 2 19 [(0, vR X 0), (1, vI p0)] [vR X 36] D1) h (fun D1 h => ?_)
  replace h := wpo_bind h
  refine r_callV0 F lm9_209 mf8_pass (vc36 hn) rfl (fr := 2) (lo := 44) (As := []) (rest := []) ⟨Nat.le_of_ble_eq_true rfl, Nat.le_of_ble_eq_true rfl⟩ rfl (Nat.le_of_ble_eq_true rfl) ⟨Nat.zero_le _, Nat.zero_le _⟩ d9_passBy_19 ?_
  refine ok8_pass hn (vc36 hn) (kVm h (fun a2 h => ?_))
  replace h := wpo_some h
  exact r_vret F h d9_passBy_22
theorem d9_by_0 : decode c9_by 0 = .ok (.aload_n 0, 1) := by decide +kernel
theorem d9_by_1 : decode c9_by 1 = .ok (.invokevirtual 159, 3) := by decide +kernel
theorem d9_by_4 : decode c9_by 4 = .ok (.ifCond .eq 11, 3) := by decide +kernel
theorem d9_by_7 : decode c9_by 7 = .ok (.aload_n 0, 1) := by decide +kernel
theorem d9_by_8 : decode c9_by 8 = .ok (.iload_n 1, 1) := by decide +kernel
theorem d9_by_9 : decode c9_by 9 = .ok (.invokevirtual 218, 3) := by decide +kernel
theorem d9_by_12 : decode c9_by 12 = .ok (.ifCond .ne 6, 3) := by decide +kernel
theorem d9_by_15 : decode c9_by 15 = .ok (.bipush (-2), 2) := by decide +kernel
theorem d9_by_17 : decode c9_by 17 = .ok (.ireturn, 1) := by decide +kernel
theorem d9_by_18 : decode c9_by 18 = .ok (.aload_n 0, 1) := by decide +kernel
theorem d9_by_19 : decode c9_by 19 = .ok (.iload_n 1, 1) := by decide +kernel
theorem d9_by_20 : decode c9_by 20 = .ok (.invokevirtual 221, 3) := by decide +kernel
theorem d9_by_23 : decode c9_by 23 = .ok (.aload_n 0, 1) := by decide +kernel
theorem d9_by_24 : decode c9_by 24 = .ok (.getfield 55, 3) := by decide +kernel
theorem d9_by_27 : decode c9_by 27 = .ok (.getfield 162, 3) := by decide +kernel
theorem d9_by_30 : decode c9_by 30 = .ok (.ireturn, 1) := by decide +kernel
def f9_by (D : Mem) (p0 : Int) : Option (Int × Mem) :=
  Option.bind (f9_isThere D) fun (a1 : Int) =>
  if w32 a1 = 0 then
    some ((-2), D)
  else
    Option.bind (f9_isRule D p0) fun (a2 : Int) =>
    if w32 a2 = 0 then
      some ((-2), D)
    else
      Option.bind (f9_passBy D p0) fun (a3 : Mem) =>
      some ((a3 36 4), a3)
set_option maxHeartbeats 4000000 in
theorem ok9_by {l : Launch} {X : XT} {n : Nat} {D : Mem} {Q : Option Value → Nat → Rho → Mem → Prop} (hn : 117 ≤ n) {p0 : Int}  (h : wpo (f9_by D p0) (fun a => Q (some (vI a.1)) n rt a.2)) : MOK l y9_by c9_by 2 (some .int) { frames := 4, cells := 0, slots := 0, locals := 89 } 0 0 X [vR X 0, vI p0] n rt D Q := by
  refine MOK_of 9 (by decide +kernel) rfl (lv := [(0, vR X 0), (1, vI p0)]) (Nat.le_of_ble_eq_true rfl) rfl (fun K hK F hnm => ?_)
  subst hK
  unfold f9_by at h
  refine r_aload_nR F 0 rfl rfl d9_by_0 ?_
  replace h := wpo_bind h
  refine r_callV0 F lm9_159 mf9_isThere (vc0 hn) rfl (fr := 0) (lo := 0) (As := []) (rest := []) ⟨Nat.le_of_ble_eq_true rfl, Nat.le_of_ble_eq_true rfl⟩ rfl (Nat.le_of_ble_eq_true rfl) ⟨Nat.zero_le _, Nat.zero_le _⟩ d9_by_1 ?_
  refine ok9_isThere hn  (kI h (fun a1 h => ?_))
  refine r_if_eq F (tgt := 15) d9_by_4 (by decide) (fun hb => ?_) (fun hb => ?_)
  · replace h := wpo_pos h hb
    refine r_bipush F (z := (-2)) (by decide) d9_by_15 ?_
    replace h := wpo_some h
    exact r_iret F h d9_by_17
  · replace h := wpo_neg h hb
    refine r_aload_nR F 0 rfl rfl d9_by_7 ?_
    refine r_iload_n F 1 rfl rfl d9_by_8 ?_
    replace h := wpo_bind h
    refine r_callV0 F lm9_218 mf9_isRule (vc0 hn) rfl (fr := 0) (lo := 0) (As := [vI p0]) (rest := []) ⟨Nat.le_of_ble_eq_true rfl, Nat.le_of_ble_eq_true rfl⟩ rfl (Nat.le_of_ble_eq_true rfl) ⟨Nat.zero_le _, Nat.zero_le _⟩ d9_by_9 ?_
    refine ok9_isRule hn  (kI h (fun a2 h => ?_))
    refine r_if_ne F (tgt := 18) d9_by_12 (by decide) (fun hb => ?_) (fun hb => ?_)
    · replace h := wpo_neg h hb
      refine r_aload_nR F 0 rfl rfl d9_by_18 ?_
      refine r_iload_n F 1 rfl rfl d9_by_19 ?_
      replace h := wpo_bind h
      refine r_callV0 F lm9_221 mf9_passBy (vc0 hn) rfl (fr := 3) (lo := 68) (As := [vI p0]) (rest := []) ⟨Nat.le_of_ble_eq_true rfl, Nat.le_of_ble_eq_true rfl⟩ rfl (Nat.le_of_ble_eq_true rfl) ⟨Nat.zero_le _, Nat.zero_le _⟩ d9_by_20 ?_
      refine ok9_passBy hn  (kVm h (fun a3 h => ?_))
      refine r_aload_nR F 0 rfl rfl d9_by_23 ?_
      refine r_getR F (z := 36) lf9_55 (vc0 hn) z0_7 d9_by_24 ?_
      refine r_getI F lf9_162 (vc36 hn) d9_by_27 ?_
      replace h := wpo_some h
      exact r_iret F h d9_by_30
    · replace h := wpo_pos h hb
      refine r_bipush F (z := (-2)) (by decide) d9_by_15 ?_
      replace h := wpo_some h
      exact r_iret F h d9_by_17
theorem d9_rule_0 : decode c9_rule 0 = .ok (.aload_n 0, 1) := by decide +kernel
theorem d9_rule_1 : decode c9_rule 1 = .ok (.invokevirtual 159, 3) := by decide +kernel
theorem d9_rule_4 : decode c9_rule 4 = .ok (.ifCond .ne 6, 3) := by decide +kernel
theorem d9_rule_7 : decode c9_rule 7 = .ok (.bipush (-2), 2) := by decide +kernel
theorem d9_rule_9 : decode c9_rule 9 = .ok (.ireturn, 1) := by decide +kernel
theorem d9_rule_10 : decode c9_rule 10 = .ok (.iconst 0, 1) := by decide +kernel
theorem d9_rule_11 : decode c9_rule 11 = .ok (.istore_n 1, 1) := by decide +kernel
theorem d9_rule_12 : decode c9_rule 12 = .ok (.ldc 204, 2) := by decide +kernel
theorem d9_rule_14 : decode c9_rule 14 = .ok (.istore_n 2, 1) := by decide +kernel
theorem d9_rule_15 : decode c9_rule 15 = .ok (.iconst 0, 1) := by decide +kernel
theorem d9_rule_16 : decode c9_rule 16 = .ok (.istore_n 3, 1) := by decide +kernel
theorem d9_rule_17 : decode c9_rule 17 = .ok (.iload_n 3, 1) := by decide +kernel
theorem d9_rule_18 : decode c9_rule 18 = .ok (.iconst 4, 1) := by decide +kernel
theorem d9_rule_19 : decode c9_rule 19 = .ok (.if_icmp .ge 35, 3) := by decide +kernel
theorem d9_rule_22 : decode c9_rule 22 = .ok (.aload_n 0, 1) := by decide +kernel
theorem d9_rule_23 : decode c9_rule 23 = .ok (.iload_n 3, 1) := by decide +kernel
theorem d9_rule_24 : decode c9_rule 24 = .ok (.invokevirtual 221, 3) := by decide +kernel
theorem d9_rule_27 : decode c9_rule 27 = .ok (.aload_n 0, 1) := by decide +kernel
theorem d9_rule_28 : decode c9_rule 28 = .ok (.getfield 55, 3) := by decide +kernel
theorem d9_rule_31 : decode c9_rule 31 = .ok (.getfield 162, 3) := by decide +kernel
theorem d9_rule_34 : decode c9_rule 34 = .ok (.iload_n 2, 1) := by decide +kernel
theorem d9_rule_35 : decode c9_rule 35 = .ok (.if_icmp .ge 13, 3) := by decide +kernel
theorem d9_rule_38 : decode c9_rule 38 = .ok (.aload_n 0, 1) := by decide +kernel
theorem d9_rule_39 : decode c9_rule 39 = .ok (.getfield 55, 3) := by decide +kernel
theorem d9_rule_42 : decode c9_rule 42 = .ok (.getfield 162, 3) := by decide +kernel
theorem d9_rule_45 : decode c9_rule 45 = .ok (.istore_n 2, 1) := by decide +kernel
theorem d9_rule_46 : decode c9_rule 46 = .ok (.iload_n 3, 1) := by decide +kernel
theorem d9_rule_47 : decode c9_rule 47 = .ok (.istore_n 1, 1) := by decide +kernel
theorem d9_rule_48 : decode c9_rule 48 = .ok (.iinc 3 1, 3) := by decide +kernel
theorem d9_rule_51 : decode c9_rule 51 = .ok (.goto (-34), 3) := by decide +kernel
theorem d9_rule_54 : decode c9_rule 54 = .ok (.iload_n 1, 1) := by decide +kernel
theorem d9_rule_55 : decode c9_rule 55 = .ok (.ireturn, 1) := by decide +kernel
def f9_rule (D : Mem) : Option (Int × Mem) :=
  Option.bind (f9_isThere D) fun (a1 : Int) =>
  if w32 a1 = 0 then
    some ((-2), D)
  else
    Option.bind (@loop (Int × Int × Int × Mem) (Int × Mem) (fun s1 =>
      if w32 s1.2.2.1 < w32 4 then
        Option.bind (f9_passBy s1.2.2.2 s1.2.2.1) fun (a2 : Mem) =>
        Option.bind (
          if w32 (a2 36 4) < w32 s1.2.1 then
            some (s1.2.2.1, (a2 36 4))
          else
            some (s1.1, s1.2.1)
        ) fun (j1 : Int × Int) =>
        some (Sum.inl (j1.1, j1.2, (s1.2.2.1 + 1), a2))
      else
        some (Sum.inr (s1.1, s1.2.2.2))
    ) FU (0, 1000000, 0, D)) fun (b1 : Int × Mem) =>
    some (b1.1, b1.2)
set_option maxHeartbeats 4000000 in
theorem ok9_rule {l : Launch} {X : XT} {n : Nat} {D : Mem} {Q : Option Value → Nat → Rho → Mem → Prop} (hn : 117 ≤ n)  (h : wpo (f9_rule D) (fun a => Q (some (vI a.1)) n rt a.2)) : MOK l y9_rule c9_rule 4 (some .int) { frames := 4, cells := 0, slots := 0, locals := 89 } 0 0 X [vR X 0] n rt D Q := by
  refine MOK_of 9 (by decide +kernel) rfl (lv := [(0, vR X 0)]) (Nat.le_of_ble_eq_true rfl) rfl (fun K hK F hnm => ?_)
  subst hK
  unfold f9_rule at h
  refine r_aload_nR F 0 rfl rfl d9_rule_0 ?_
  replace h := wpo_bind h
  refine r_callV0 F lm9_159 mf9_isThere (vc0 hn) rfl (fr := 0) (lo := 0) (As := []) (rest := []) ⟨Nat.le_of_ble_eq_true rfl, Nat.le_of_ble_eq_true rfl⟩ rfl (Nat.le_of_ble_eq_true rfl) ⟨Nat.zero_le _, Nat.zero_le _⟩ d9_rule_1 ?_
  refine ok9_isThere hn  (kI h (fun a1 h => ?_))
  refine r_if_ne F (tgt := 10) d9_rule_4 (by decide) (fun hb => ?_) (fun hb => ?_)
  · replace h := wpo_neg h hb
    refine r_iconst F (z := 0) d9_rule_10 ?_
    refine r_istore_n F (lv' := [(1, vI 0), (0, vR X 0)]) rfl (Nat.le_of_ble_eq_true rfl) rfl d9_rule_11 ?_
    refine r_ldc F (z := 1000000) lc9_204 d9_rule_12 ?_
    refine r_istore_n F (lv' := [(2, vI 1000000), (1, vI 0), (0, vR X 0)]) rfl (Nat.le_of_ble_eq_true rfl) rfl d9_rule_14 ?_
    refine r_iconst F (z := 0) d9_rule_15 ?_
    refine r_istore_n F (lv' := [(3, vI 0), (2, vI 1000000), (1, vI 0), (0, vR X 0)]) rfl (Nat.le_of_ble_eq_true rfl) rfl d9_rule_16 ?_
    refine r_weak [3, 2, 1, 0] rfl ?_
    refine at_loopj (A := fun (s1 : Int × Int × Int × Mem) => At K X (ZQ K X Q) 0 0 n rt 4 17 [(0, vR X 0), (1, vI s1.1), (2, vI s1.2.1), (3, vI s1.2.2.1)] [] s1.2.2.2) (B := fun (b1 : Int × Mem) => At K X (ZQ K X Q) 0 0 n rt 4 54 [(1, vI b1.1)] [] b1.2) h (fun b1 h => ?_) (fun s1 h => ?_)
    · refine r_iload_n F 0 rfl rfl d9_rule_54 ?_
      replace h := wpo_some h
      exact r_iret F h d9_rule_55
    · refine r_iload_n F 3 rfl rfl d9_rule_17 ?_
      refine r_iconst F (z := 4) d9_rule_18 ?_
      refine r_icmp_ge F (tgt := 54) d9_rule_19 (by decide) (fun hb => ?_) (fun hb => ?_)
      · replace h := wpo_neg h hb
        refine r_weak [1] rfl ?_
        replace h := wpo_inr h
        exact h
      · replace h := wpo_pos h hb
        refine r_aload_nR F 0 rfl rfl d9_rule_22 ?_
        refine r_iload_n F 3 rfl rfl d9_rule_23 ?_
        replace h := wpo_bind h
        refine r_callV0 F lm9_221 mf9_passBy (vc0 hn) rfl (fr := 3) (lo := 68) (As := [vI s1.2.2.1]) (rest := []) ⟨Nat.le_of_ble_eq_true rfl, Nat.le_of_ble_eq_true rfl⟩ rfl (Nat.le_of_ble_eq_true rfl) ⟨Nat.zero_le _, Nat.zero_le _⟩ d9_rule_24 ?_
        refine ok9_passBy hn  (kVm h (fun a2 h => ?_))
        refine r_aload_nR F 0 rfl rfl d9_rule_27 ?_
        refine r_getR F (z := 36) lf9_55 (vc0 hn) z0_7 d9_rule_28 ?_
        refine r_getI F lf9_162 (vc36 hn) d9_rule_31 ?_
        refine r_iload_n F 2 rfl rfl d9_rule_34 ?_
        refine at_join (B := fun (j1 : Int × Int) => At K X (ZQ K X Q) 0 0 n rt 4 48 [(0, vR X 0), (1, vI j1.1), (2, vI j1.2), (3, vI s1.2.2.1)] [] a2) h (fun j1 h => ?_) (fun h => ?_)
        · refine r_iinc F 3 (lv' := [(3, vI (s1.2.2.1 + 1)), (0, vR X 0), (1, vI j1.1), (2, vI j1.2)]) rfl (Nat.le_of_ble_eq_true rfl) rfl d9_rule_48 ?_
          refine r_goto F (tgt := 17) (by decide) d9_rule_51 ?_
          refine r_weak [1, 2, 3, 0] rfl ?_
          replace h := wpo_inl h
          exact h
        · refine r_icmp_ge F (tgt := 48) d9_rule_35 (by decide) (fun hb => ?_) (fun hb => ?_)
          · replace h := wpo_neg h hb
            replace h := wpo_some h
            exact h
          · replace h := wpo_pos h hb
            refine r_aload_nR F 0 rfl rfl d9_rule_38 ?_
            refine r_getR F (z := 36) lf9_55 (vc0 hn) z0_7 d9_rule_39 ?_
            refine r_getI F lf9_162 (vc36 hn) d9_rule_42 ?_
            refine r_istore_n F (lv' := [(2, vI (a2 36 4)), (0, vR X 0), (1, vI s1.1), (3, vI s1.2.2.1)]) rfl (Nat.le_of_ble_eq_true rfl) rfl d9_rule_45 ?_
            refine r_iload_n F 3 rfl rfl d9_rule_46 ?_
            refine r_istore_n F (lv' := [(1, vI s1.2.2.1), (2, vI (a2 36 4)), (0, vR X 0), (3, vI s1.2.2.1)]) rfl (Nat.le_of_ble_eq_true rfl) rfl d9_rule_47 ?_
            refine r_weak [2, 0, 1, 3] rfl ?_
            replace h := wpo_some h
            exact h
  · replace h := wpo_pos h hb
    refine r_bipush F (z := (-2)) (by decide) d9_rule_7 ?_
    replace h := wpo_some h
    exact r_iret F h d9_rule_9
theorem d8_looksAtAches_0 : decode c8_looksAtAches 0 = .ok (.aload_n 0, 1) := by decide +kernel
theorem d8_looksAtAches_1 : decode c8_looksAtAches 1 = .ok (.getfield 15, 3) := by decide +kernel
theorem d8_looksAtAches_4 : decode c8_looksAtAches 4 = .ok (.iconst 1, 1) := by decide +kernel
theorem d8_looksAtAches_5 : decode c8_looksAtAches 5 = .ok (.if_icmp .eq 11, 3) := by decide +kernel
theorem d8_looksAtAches_8 : decode c8_looksAtAches 8 = .ok (.aload_n 0, 1) := by decide +kernel
theorem d8_looksAtAches_9 : decode c8_looksAtAches 9 = .ok (.getfield 15, 3) := by decide +kernel
theorem d8_looksAtAches_12 : decode c8_looksAtAches 12 = .ok (.iconst 2, 1) := by decide +kernel
theorem d8_looksAtAches_13 : decode c8_looksAtAches 13 = .ok (.if_icmp .ne 7, 3) := by decide +kernel
theorem d8_looksAtAches_16 : decode c8_looksAtAches 16 = .ok (.iconst 1, 1) := by decide +kernel
theorem d8_looksAtAches_17 : decode c8_looksAtAches 17 = .ok (.goto 4, 3) := by decide +kernel
theorem d8_looksAtAches_20 : decode c8_looksAtAches 20 = .ok (.iconst 0, 1) := by decide +kernel
theorem d8_looksAtAches_21 : decode c8_looksAtAches 21 = .ok (.ireturn, 1) := by decide +kernel
def f8_looksAtAches (D : Mem) (r : Nat) : Option (Int) :=
  if w32 (D r 2) = w32 1 then
    some 1
  else
    if w32 (D r 2) = w32 2 then
      some 1
    else
      some 0
set_option maxHeartbeats 4000000 in
theorem ok8_looksAtAches {l : Launch} {X : XT} {n : Nat} {D : Mem} {Q : Option Value → Nat → Rho → Mem → Prop} (hn : 117 ≤ n) {r : Nat} (hr : VR n r 8) (h : wpo (f8_looksAtAches D r) (fun a => Q (some (vI a)) n rt D)) : MOK l y8_looksAtAches c8_looksAtAches 1 (some .boolean) { frames := 0, cells := 0, slots := 0, locals := 0 } 0 0 X [vR X r] n rt D Q := by
  refine MOK_of 8 (by decide +kernel) rfl (lv := [(0, vR X r)]) (Nat.le_of_ble_eq_true rfl) rfl (fun K hK F hnm => ?_)
  subst hK
  unfold f8_looksAtAches at h
  refine r_aload_nR F 0 rfl rfl d8_looksAtAches_0 ?_
  refine r_getI F lf8_15 hr d8_looksAtAches_1 ?_
  refine r_iconst F (z := 1) d8_looksAtAches_4 ?_
  refine r_icmp_eq F (tgt := 16) d8_looksAtAches_5 (by decide) (fun hb => ?_) (fun hb => ?_)
  · replace h := wpo_pos h hb
    refine r_iconst F (z := 1) d8_looksAtAches_16 ?_
    refine r_goto F (tgt := 21) (by decide) d8_looksAtAches_17 ?_
    replace h := wpo_some h
    exact r_zret F (Or.inr rfl) h d8_looksAtAches_21
  · replace h := wpo_neg h hb
    refine r_aload_nR F 0 rfl rfl d8_looksAtAches_8 ?_
    refine r_getI F lf8_15 hr d8_looksAtAches_9 ?_
    refine r_iconst F (z := 2) d8_looksAtAches_12 ?_
    refine r_icmp_ne F (tgt := 20) d8_looksAtAches_13 (by decide) (fun hb => ?_) (fun hb => ?_)
    · replace h := wpo_neg h hb
      refine r_iconst F (z := 0) d8_looksAtAches_20 ?_
      replace h := wpo_some h
      exact r_zret F (Or.inl rfl) h d8_looksAtAches_21
    · replace h := wpo_pos h hb
      refine r_iconst F (z := 1) d8_looksAtAches_16 ?_
      refine r_goto F (tgt := 21) (by decide) d8_looksAtAches_17 ?_
      replace h := wpo_some h
      exact r_zret F (Or.inr rfl) h d8_looksAtAches_21
theorem d9_leastGroan_0 : decode c9_leastGroan 0 = .ok (.aload_n 0, 1) := by decide +kernel
theorem d9_leastGroan_1 : decode c9_leastGroan 1 = .ok (.iload_n 2, 1) := by decide +kernel
theorem d9_leastGroan_2 : decode c9_leastGroan 2 = .ok (.invokevirtual 221, 3) := by decide +kernel
theorem d9_leastGroan_5 : decode c9_leastGroan 5 = .ok (.aload_n 0, 1) := by decide +kernel
theorem d9_leastGroan_6 : decode c9_leastGroan 6 = .ok (.getfield 55, 3) := by decide +kernel
theorem d9_leastGroan_9 : decode c9_leastGroan 9 = .ok (.getfield 155, 3) := by decide +kernel
theorem d9_leastGroan_12 : decode c9_leastGroan 12 = .ok (.iload_n 1, 1) := by decide +kernel
theorem d9_leastGroan_13 : decode c9_leastGroan 13 = .ok (.iaload, 1) := by decide +kernel
theorem d9_leastGroan_14 : decode c9_leastGroan 14 = .ok (.istore_n 3, 1) := by decide +kernel
theorem d9_leastGroan_15 : decode c9_leastGroan 15 = .ok (.iload_n 3, 1) := by decide +kernel
theorem d9_leastGroan_16 : decode c9_leastGroan 16 = .ok (.ifCond .eq 13, 3) := by decide +kernel
theorem d9_leastGroan_19 : decode c9_leastGroan 19 = .ok (.aload_n 0, 1) := by decide +kernel
theorem d9_leastGroan_20 : decode c9_leastGroan 20 = .ok (.getfield 55, 3) := by decide +kernel
theorem d9_leastGroan_23 : decode c9_leastGroan 23 = .ok (.invokevirtual 407, 3) := by decide +kernel
theorem d9_leastGroan_26 : decode c9_leastGroan 26 = .ok (.ifCond .ne 5, 3) := by decide +kernel
theorem d9_leastGroan_29 : decode c9_leastGroan 29 = .ok (.iconst (-1), 1) := by decide +kernel
theorem d9_leastGroan_30 : decode c9_leastGroan 30 = .ok (.ireturn, 1) := by decide +kernel
theorem d9_leastGroan_31 : decode c9_leastGroan 31 = .ok (.iconst 1, 1) := by decide +kernel
theorem d9_leastGroan_32 : decode c9_leastGroan 32 = .ok (.istore 4, 2) := by decide +kernel
theorem d9_leastGroan_34 : decode c9_leastGroan 34 = .ok (.iload 4, 2) := by decide +kernel
theorem d9_leastGroan_36 : decode c9_leastGroan 36 = .ok (.bipush 20, 2) := by decide +kernel
theorem d9_leastGroan_38 : decode c9_leastGroan 38 = .ok (.if_icmp .gt 61, 3) := by decide +kernel
theorem d9_leastGroan_41 : decode c9_leastGroan 41 = .ok (.aload_n 0, 1) := by decide +kernel
theorem d9_leastGroan_42 : decode c9_leastGroan 42 = .ok (.getfield 55, 3) := by decide +kernel
theorem d9_leastGroan_45 : decode c9_leastGroan 45 = .ok (.invokevirtual 205, 3) := by decide +kernel
theorem d9_leastGroan_48 : decode c9_leastGroan 48 = .ok (.aload_n 0, 1) := by decide +kernel
theorem d9_leastGroan_49 : decode c9_leastGroan 49 = .ok (.getfield 55, 3) := by decide +kernel
theorem d9_leastGroan_52 : decode c9_leastGroan 52 = .ok (.iload_n 2, 1) := by decide +kernel
theorem d9_leastGroan_53 : decode c9_leastGroan 53 = .ok (.putfield 403, 3) := by decide +kernel
theorem d9_leastGroan_56 : decode c9_leastGroan 56 = .ok (.aload_n 0, 1) := by decide +kernel
theorem d9_leastGroan_57 : decode c9_leastGroan 57 = .ok (.getfield 55, 3) := by decide +kernel
theorem d9_leastGroan_60 : decode c9_leastGroan 60 = .ok (.getfield 410, 3) := by decide +kernel
theorem d9_leastGroan_63 : decode c9_leastGroan 63 = .ok (.iload_n 1, 1) := by decide +kernel
theorem d9_leastGroan_64 : decode c9_leastGroan 64 = .ok (.dup2, 1) := by decide +kernel
theorem d9_leastGroan_65 : decode c9_leastGroan 65 = .ok (.iaload, 1) := by decide +kernel
theorem d9_leastGroan_66 : decode c9_leastGroan 66 = .ok (.iload 4, 2) := by decide +kernel
theorem d9_leastGroan_68 : decode c9_leastGroan 68 = .ok (.iadd, 1) := by decide +kernel
theorem d9_leastGroan_69 : decode c9_leastGroan 69 = .ok (.iastore, 1) := by decide +kernel
theorem d9_leastGroan_70 : decode c9_leastGroan 70 = .ok (.aload_n 0, 1) := by decide +kernel
theorem d9_leastGroan_71 : decode c9_leastGroan 71 = .ok (.getfield 55, 3) := by decide +kernel
theorem d9_leastGroan_74 : decode c9_leastGroan 74 = .ok (.invokevirtual 209, 3) := by decide +kernel
theorem d9_leastGroan_77 : decode c9_leastGroan 77 = .ok (.aload_n 0, 1) := by decide +kernel
theorem d9_leastGroan_78 : decode c9_leastGroan 78 = .ok (.getfield 55, 3) := by decide +kernel
theorem d9_leastGroan_81 : decode c9_leastGroan 81 = .ok (.getfield 155, 3) := by decide +kernel
theorem d9_leastGroan_84 : decode c9_leastGroan 84 = .ok (.iload_n 1, 1) := by decide +kernel
theorem d9_leastGroan_85 : decode c9_leastGroan 85 = .ok (.iaload, 1) := by decide +kernel
theorem d9_leastGroan_86 : decode c9_leastGroan 86 = .ok (.iload_n 3, 1) := by decide +kernel
theorem d9_leastGroan_87 : decode c9_leastGroan 87 = .ok (.if_icmp .ge 6, 3) := by decide +kernel
theorem d9_leastGroan_90 : decode c9_leastGroan 90 = .ok (.iload 4, 2) := by decide +kernel
theorem d9_leastGroan_92 : decode c9_leastGroan 92 = .ok (.ireturn, 1) := by decide +kernel
theorem d9_leastGroan_93 : decode c9_leastGroan 93 = .ok (.iinc 4 1, 3) := by decide +kernel
theorem d9_leastGroan_96 : decode c9_leastGroan 96 = .ok (.goto (-62), 3) := by decide +kernel
theorem d9_leastGroan_99 : decode c9_leastGroan 99 = .ok (.iconst (-1), 1) := by decide +kernel
theorem d9_leastGroan_100 : decode c9_leastGroan 100 = .ok (.ireturn, 1) := by decide +kernel
def f9_leastGroan (D : Mem) (p0 : Int) (p1 : Int) : Option (Int × Mem) :=
  Option.bind (f9_passBy D p1) fun (a1 : Mem) =>
  if 0 ≤ p0 ∧ p0 < 8 then
    if w32 (a1 42 p0.toNat) = 0 then
      some ((-1), a1)
    else
      Option.bind (f8_looksAtAches a1 36) fun (a2 : Int) =>
      if w32 a2 = 0 then
        some ((-1), a1)
      else
        Option.bind (@loop (Int × Mem) ((Mem) ⊕ (Int × Mem)) (fun s1 =>
          if w32 20 < w32 s1.1 then
            some (Sum.inr (Sum.inl s1.2))
          else
            Option.bind (f8_prepare s1.2 36) fun (a3 : Mem) =>
            Option.bind (some (mset a3 36 2 p1)) fun (D1 : Mem) =>
            Option.bind (some (mset D1 37 p0.toNat ((D1 37 p0.toNat) + s1.1))) fun (D2 : Mem) =>
            Option.bind (f8_pass D2 36) fun (a4 : Mem) =>
            if w32 (a4 42 p0.toNat) < w32 (a1 42 p0.toNat) then
              some (Sum.inr (Sum.inr (s1.1, a4)))
            else
              some (Sum.inl ((s1.1 + 1), a4))
        ) FU (1, a1)) (fun z => Sum.elim (fun (b1 : Mem) =>
          some ((-1), b1)
        ) (fun rv => some rv) z)
  else none
set_option maxHeartbeats 4000000 in
theorem ok9_leastGroan {l : Launch} {X : XT} {n : Nat} {D : Mem} {Q : Option Value → Nat → Rho → Mem → Prop} (hn : 117 ≤ n) {p0 : Int} {p1 : Int}  (h : wpo (f9_leastGroan D p0 p1) (fun a => Q (some (vI a.1)) n rt a.2)) : MOK l y9_leastGroan c9_leastGroan 5 (some .int) { frames := 4, cells := 0, slots := 0, locals := 89 } 0 0 X [vR X 0, vI p0, vI p1] n rt D Q := by
  refine MOK_of 9 (by decide +kernel) rfl (lv := [(0, vR X 0), (1, vI p0), (2, vI p1)]) (Nat.le_of_ble_eq_true rfl) rfl (fun K hK F hnm => ?_)
  subst hK
  unfold f9_leastGroan at h
  refine r_aload_nR F 0 rfl rfl d9_leastGroan_0 ?_
  refine r_iload_n F 2 rfl rfl d9_leastGroan_1 ?_
  replace h := wpo_bind h
  refine r_callV0 F lm9_221 mf9_passBy (vc0 hn) rfl (fr := 3) (lo := 68) (As := [vI p1]) (rest := []) ⟨Nat.le_of_ble_eq_true rfl, Nat.le_of_ble_eq_true rfl⟩ rfl (Nat.le_of_ble_eq_true rfl) ⟨Nat.zero_le _, Nat.zero_le _⟩ d9_leastGroan_2 ?_
  refine ok9_passBy hn  (kVm h (fun a1 h => ?_))
  refine r_aload_nR F 0 rfl rfl d9_leastGroan_5 ?_
  refine r_getR F (z := 36) lf9_55 (vc0 hn) z0_7 d9_leastGroan_6 ?_
  refine r_getR F (z := 42) lf9_155 (vc36 hn) z36_10 d9_leastGroan_9 ?_
  refine r_iload_n F 1 rfl rfl d9_leastGroan_12 ?_
  obtain ⟨hx1, h⟩ := wpo_chk h
  refine r_iald F (vc42 hn) hx1 d9_leastGroan_13 ?_
  refine r_istore_n F (lv' := [(3, vI (a1 42 p0.toNat)), (0, vR X 0), (1, vI p0), (2, vI p1)]) rfl (Nat.le_of_ble_eq_true rfl) rfl d9_leastGroan_14 ?_
  refine r_iload_n F 0 rfl rfl d9_leastGroan_15 ?_
  refine r_if_eq F (tgt := 29) d9_leastGroan_16 (by decide) (fun hb => ?_) (fun hb => ?_)
  · replace h := wpo_pos h hb
    refine r_iconst F (z := (-1)) d9_leastGroan_29 ?_
    replace h := wpo_some h
    exact r_iret F h d9_leastGroan_30
  · replace h := wpo_neg h hb
    refine r_aload_nR F 1 rfl rfl d9_leastGroan_19 ?_
    refine r_getR F (z := 36) lf9_55 (vc0 hn) z0_7 d9_leastGroan_20 ?_
    replace h := wpo_bind h
    refine r_callV0 F lm9_407 mf8_looksAtAches (vc36 hn) rfl (fr := 0) (lo := 0) (As := []) (rest := []) ⟨Nat.le_of_ble_eq_true rfl, Nat.le_of_ble_eq_true rfl⟩ rfl (Nat.le_of_ble_eq_true rfl) ⟨Nat.zero_le _, Nat.zero_le _⟩ d9_leastGroan_23 ?_
    refine ok8_looksAtAches hn (vc36 hn) (kI h (fun a2 h => ?_))
    refine r_if_ne F (tgt := 31) d9_leastGroan_26 (by decide) (fun hb => ?_) (fun hb => ?_)
    · replace h := wpo_neg h hb
      refine r_iconst F (z := 1) d9_leastGroan_31 ?_
      refine r_istore F (lv' := [(4, vI 1), (3, vI (a1 42 p0.toNat)), (0, vR X 0), (1, vI p0), (2, vI p1)]) (Nat.le_of_ble_eq_true rfl) rfl d9_leastGroan_32 ?_
      refine r_weak [2, 3, 4, 1, 0] rfl ?_
      refine at_loopj (A := fun (s1 : Int × Mem) => At K X (ZQ K X Q) 0 0 n rt 5 34 [(0, vR X 0), (1, vI p0), (2, vI p1), (3, vI (a1 42 p0.toNat)), (4, vI s1.1)] [] s1.2) (B := Sum.elim (fun (b1 : Mem) => At K X (ZQ K X Q) 0 0 n rt 5 99 [] [] b1) (fun rv => Q (some (vI rv.1)) n rt rv.2)) h (fun z h => ?_) (fun s1 h => ?_)
      · rcases z with b1 | rv
        · replace h := elim_l h
          refine el_li ?_
          refine r_iconst F (z := (-1)) d9_leastGroan_99 ?_
          replace h := wpo_some h
          exact r_iret F h d9_leastGroan_100
        · replace h := elim_r h
          replace h := wpo_some h
          exact el_ri h
      · refine r_iload F 4 rfl d9_leastGroan_34 ?_
        refine r_bipush F (z := 20) (by decide) d9_leastGroan_36 ?_
        refine r_icmp_gt F (tgt := 99) d9_leastGroan_38 (by decide) (fun hb => ?_) (fun hb => ?_)
        · replace h := wpo_pos h hb
          refine r_weak [] rfl ?_
          replace h := wpo_inr h
          replace h := el_l h
          exact h
        · replace h := wpo_neg h hb
          refine r_aload_nR F 0 rfl rfl d9_leastGroan_41 ?_
          refine r_getR F (z := 36) lf9_55 (vc0 hn) z0_7 d9_leastGroan_42 ?_
          replace h := wpo_bind h
          refine r_callV0 F lm9_205 mf8_prepare (vc36 hn) rfl (fr := 1) (lo := 26) (As := []) (rest := []) ⟨Nat.le_of_ble_eq_true rfl, Nat.le_of_ble_eq_true rfl⟩ rfl (Nat.le_of_ble_eq_true rfl) ⟨Nat.zero_le _, Nat.zero_le _⟩ d9_leastGroan_45 ?_
          refine ok8_prepare hn (vc36 hn) (kVm h (fun a3 h => ?_))
          refine r_aload_nR F 0 rfl rfl d9_leastGroan_48 ?_
          refine r_getR F (z := 36) lf9_55 (vc0 hn) z0_7 d9_leastGroan_49 ?_
          refine r_iload_n F 2 rfl rfl d9_leastGroan_52 ?_
          refine r_putI F lf9_403 rfl rfl (vc36 hn) d9_leastGroan_53 ?_
          refine r_aload_nR F 0 rfl rfl d9_leastGroan_56 ?_
          refine r_getR F (z := 36) lf9_55 (vc0 hn) z0_7 d9_leastGroan_57 ?_
          refine r_getR F (z := 37) lf9_410 (vc36 hn) z36_5 d9_leastGroan_60 ?_
          refine r_iload_n F 1 rfl rfl d9_leastGroan_63 ?_
          refine r_dup2 F rfl rfl d9_leastGroan_64 ?_
          refine at_name (B := fun (D1 : Mem) => At K X (ZQ K X Q) 0 0 n rt 5 65 [(0, vR X 0), (1, vI p0), (2, vI p1), (3, vI (a1 42 p0.toNat)), (4, vI s1.1)] [vI p0, vR X 37, vI p0, vR X 37] D1) h (fun D1 h => ?_)
          refine r_iald F (vc37 hn) hx1 d9_leastGroan_65 ?_
          refine r_iload F 4 rfl d9_leastGroan_66 ?_
          refine r_iadd F d9_leastGroan_68 ?_
          refine r_iast F (vc37 hn) hx1 d9_leastGroan_69 ?_
          refine r_aload_nR F 0 rfl rfl d9_leastGroan_70 ?_
          refine r_getR F (z := 36) lf9_55 (vc0 hn) z0_7 d9_leastGroan_71 ?_
          refine at_name (B := fun (D2 : Mem) => At K X (ZQ K X Q) 0 0 n rt 5 74 [(0, vR X 0), (1, vI p0), (2, vI p1), (3, vI (a1 42 p0.toNat)), (4, vI s1.1)] [vR X 36] D2) h (fun D2 h => ?_)
          replace h := wpo_bind h
          refine r_callV0 F lm9_209 mf8_pass (vc36 hn) rfl (fr := 2) (lo := 44) (As := []) (rest := []) ⟨Nat.le_of_ble_eq_true rfl, Nat.le_of_ble_eq_true rfl⟩ rfl (Nat.le_of_ble_eq_true rfl) ⟨Nat.zero_le _, Nat.zero_le _⟩ d9_leastGroan_74 ?_
          refine ok8_pass hn (vc36 hn) (kVm h (fun a4 h => ?_))
          refine r_aload_nR F 0 rfl rfl d9_leastGroan_77 ?_
          refine r_getR F (z := 36) lf9_55 (vc0 hn) z0_7 d9_leastGroan_78 ?_
          refine r_getR F (z := 42) lf9_155 (vc36 hn) z36_10 d9_leastGroan_81 ?_
          refine r_iload_n F 1 rfl rfl d9_leastGroan_84 ?_
          refine r_iald F (vc42 hn) hx1 d9_leastGroan_85 ?_
          refine r_iload_n F 3 rfl rfl d9_leastGroan_86 ?_
          refine r_icmp_ge F (tgt := 93) d9_leastGroan_87 (by decide) (fun hb => ?_) (fun hb => ?_)
          · replace h := wpo_neg h hb
            refine r_iinc F 4 (lv' := [(4, vI (s1.1 + 1)), (0, vR X 0), (1, vI p0), (2, vI p1), (3, vI (a1 42 p0.toNat))]) rfl (Nat.le_of_ble_eq_true rfl) rfl d9_leastGroan_93 ?_
            refine r_goto F (tgt := 34) (by decide) d9_leastGroan_96 ?_
            refine r_weak [1, 2, 3, 4, 0] rfl ?_
            replace h := wpo_inl h
            exact h
          · replace h := wpo_pos h hb
            refine r_iload F 4 rfl d9_leastGroan_90 ?_
            replace h := el_r (wpo_inr h)
            exact r_iret F h d9_leastGroan_92
    · replace h := wpo_pos h hb
      refine r_iconst F (z := (-1)) d9_leastGroan_29 ?_
      replace h := wpo_some h
      exact r_iret F h d9_leastGroan_30
theorem d9_groan_0 : decode c9_groan 0 = .ok (.aload_n 0, 1) := by decide +kernel
theorem d9_groan_1 : decode c9_groan 1 = .ok (.iload_n 1, 1) := by decide +kernel
theorem d9_groan_2 : decode c9_groan 2 = .ok (.invokevirtual 124, 3) := by decide +kernel
theorem d9_groan_5 : decode c9_groan 5 = .ok (.ifCond .eq 18, 3) := by decide +kernel
theorem d9_groan_8 : decode c9_groan 8 = .ok (.aload_n 0, 1) := by decide +kernel
theorem d9_groan_9 : decode c9_groan 9 = .ok (.iload_n 1, 1) := by decide +kernel
theorem d9_groan_10 : decode c9_groan 10 = .ok (.aload_n 0, 1) := by decide +kernel
theorem d9_groan_11 : decode c9_groan 11 = .ok (.getfield 28, 3) := by decide +kernel
theorem d9_groan_14 : decode c9_groan 14 = .ok (.getfield 224, 3) := by decide +kernel
theorem d9_groan_17 : decode c9_groan 17 = .ok (.invokevirtual 227, 3) := by decide +kernel
theorem d9_groan_20 : decode c9_groan 20 = .ok (.goto 5, 3) := by decide +kernel
theorem d9_groan_23 : decode c9_groan 23 = .ok (.bipush (-2), 2) := by decide +kernel
theorem d9_groan_25 : decode c9_groan 25 = .ok (.ireturn, 1) := by decide +kernel
def f9_groan (D : Mem) (p0 : Int) : Option (Int × Mem) :=
  Option.bind (f9_isPerson D p0) fun (a1 : Int) =>
  if w32 a1 = 0 then
    some ((-2), D)
  else
    Option.bind (f9_leastGroan D p0 (D 12 5)) fun (a2 : Int × Mem) =>
    some (a2.1, a2.2)
set_option maxHeartbeats 4000000 in
theorem ok9_groan {l : Launch} {X : XT} {n : Nat} {D : Mem} {Q : Option Value → Nat → Rho → Mem → Prop} (hn : 117 ≤ n) {p0 : Int}  (h : wpo (f9_groan D p0) (fun a => Q (some (vI a.1)) n rt a.2)) : MOK l y9_groan c9_groan 2 (some .int) { frames := 5, cells := 0, slots := 0, locals := 113 } 0 0 X [vR X 0, vI p0] n rt D Q := by
  refine MOK_of 9 (by decide +kernel) rfl (lv := [(0, vR X 0), (1, vI p0)]) (Nat.le_of_ble_eq_true rfl) rfl (fun K hK F hnm => ?_)
  subst hK
  unfold f9_groan at h
  refine r_aload_nR F 0 rfl rfl d9_groan_0 ?_
  refine r_iload_n F 1 rfl rfl d9_groan_1 ?_
  replace h := wpo_bind h
  refine r_callV0 F lm9_124 mf9_isPerson (vc0 hn) rfl (fr := 0) (lo := 0) (As := [vI p0]) (rest := []) ⟨Nat.le_of_ble_eq_true rfl, Nat.le_of_ble_eq_true rfl⟩ rfl (Nat.le_of_ble_eq_true rfl) ⟨Nat.zero_le _, Nat.zero_le _⟩ d9_groan_2 ?_
  refine ok9_isPerson hn  (kI h (fun a1 h => ?_))
  refine r_if_eq F (tgt := 23) d9_groan_5 (by decide) (fun hb => ?_) (fun hb => ?_)
  · replace h := wpo_pos h hb
    refine r_bipush F (z := (-2)) (by decide) d9_groan_23 ?_
    replace h := wpo_some h
    exact r_iret F h d9_groan_25
  · replace h := wpo_neg h hb
    refine r_aload_nR F 0 rfl rfl d9_groan_8 ?_
    refine r_iload_n F 1 rfl rfl d9_groan_9 ?_
    refine r_aload_nR F 0 rfl rfl d9_groan_10 ?_
    refine r_getR F (z := 12) lf9_28 (vc0 hn) z0_2 d9_groan_11 ?_
    refine r_getI F lf9_224 (vc12 hn) d9_groan_14 ?_
    replace h := wpo_bind h
    refine r_callV0 F lm9_227 mf9_leastGroan (vc0 hn) rfl (fr := 4) (lo := 89) (As := [vI p0, vI (D 12 5)]) (rest := []) ⟨Nat.le_of_ble_eq_true rfl, Nat.le_of_ble_eq_true rfl⟩ rfl (Nat.le_of_ble_eq_true rfl) ⟨Nat.zero_le _, Nat.zero_le _⟩ d9_groan_17 ?_
    refine ok9_leastGroan hn  (kIm h (fun a2 h => ?_))
    refine r_goto F (tgt := 25) (by decide) d9_groan_20 ?_
    replace h := wpo_some h
    exact r_iret F h d9_groan_25
theorem d9_tempted_0 : decode c9_tempted 0 = .ok (.iconst 0, 1) := by decide +kernel
theorem d9_tempted_1 : decode c9_tempted 1 = .ok (.istore_n 2, 1) := by decide +kernel
theorem d9_tempted_2 : decode c9_tempted 2 = .ok (.iconst 0, 1) := by decide +kernel
theorem d9_tempted_3 : decode c9_tempted 3 = .ok (.istore_n 3, 1) := by decide +kernel
theorem d9_tempted_4 : decode c9_tempted 4 = .ok (.iload_n 3, 1) := by decide +kernel
theorem d9_tempted_5 : decode c9_tempted 5 = .ok (.aload_n 0, 1) := by decide +kernel
theorem d9_tempted_6 : decode c9_tempted 6 = .ok (.getfield 28, 3) := by decide +kernel
theorem d9_tempted_9 : decode c9_tempted 9 = .ok (.getfield 165, 3) := by decide +kernel
theorem d9_tempted_12 : decode c9_tempted 12 = .ok (.if_icmp .ge 25, 3) := by decide +kernel
theorem d9_tempted_15 : decode c9_tempted 15 = .ok (.aload_n 0, 1) := by decide +kernel
theorem d9_tempted_16 : decode c9_tempted 16 = .ok (.iload_n 3, 1) := by decide +kernel
theorem d9_tempted_17 : decode c9_tempted 17 = .ok (.iload_n 1, 1) := by decide +kernel
theorem d9_tempted_18 : decode c9_tempted 18 = .ok (.invokevirtual 227, 3) := by decide +kernel
theorem d9_tempted_21 : decode c9_tempted 21 = .ok (.iconst (-1), 1) := by decide +kernel
theorem d9_tempted_22 : decode c9_tempted 22 = .ok (.if_icmp .eq 9, 3) := by decide +kernel
theorem d9_tempted_25 : decode c9_tempted 25 = .ok (.iload_n 2, 1) := by decide +kernel
theorem d9_tempted_26 : decode c9_tempted 26 = .ok (.iconst 1, 1) := by decide +kernel
theorem d9_tempted_27 : decode c9_tempted 27 = .ok (.iload_n 3, 1) := by decide +kernel
theorem d9_tempted_28 : decode c9_tempted 28 = .ok (.ishl, 1) := by decide +kernel
theorem d9_tempted_29 : decode c9_tempted 29 = .ok (.ior, 1) := by decide +kernel
theorem d9_tempted_30 : decode c9_tempted 30 = .ok (.istore_n 2, 1) := by decide +kernel
theorem d9_tempted_31 : decode c9_tempted 31 = .ok (.iinc 3 1, 3) := by decide +kernel
theorem d9_tempted_34 : decode c9_tempted 34 = .ok (.goto (-30), 3) := by decide +kernel
theorem d9_tempted_37 : decode c9_tempted 37 = .ok (.iload_n 2, 1) := by decide +kernel
theorem d9_tempted_38 : decode c9_tempted 38 = .ok (.ireturn, 1) := by decide +kernel
def f9_tempted (D : Mem) (p0 : Int) : Option (Int × Mem) :=
  Option.bind (@loop (Int × Int × Mem) (Int × Mem) (fun s1 =>
    if w32 s1.2.1 < w32 (s1.2.2 12 8) then
      Option.bind (f9_leastGroan s1.2.2 s1.2.1 p0) fun (a1 : Int × Mem) =>
      Option.bind (
        if w32 a1.1 = w32 (-1) then
          some s1.1
        else
          some (or32 s1.1 (shl32 1 s1.2.1))
      ) fun (j1 : Int) =>
      some (Sum.inl (j1, (s1.2.1 + 1), a1.2))
    else
      some (Sum.inr (s1.1, s1.2.2))
  ) FU (0, 0, D)) fun (b1 : Int × Mem) =>
  some (b1.1, b1.2)
set_option maxHeartbeats 4000000 in
theorem ok9_tempted {l : Launch} {X : XT} {n : Nat} {D : Mem} {Q : Option Value → Nat → Rho → Mem → Prop} (hn : 117 ≤ n) {p0 : Int}  (h : wpo (f9_tempted D p0) (fun a => Q (some (vI a.1)) n rt a.2)) : MOK l y9_tempted c9_tempted 4 (some .int) { frames := 5, cells := 0, slots := 0, locals := 113 } 0 0 X [vR X 0, vI p0] n rt D Q := by
  refine MOK_of 9 (by decide +kernel) rfl (lv := [(0, vR X 0), (1, vI p0)]) (Nat.le_of_ble_eq_true rfl) rfl (fun K hK F hnm => ?_)
  subst hK
  unfold f9_tempted at h
  refine r_iconst F (z := 0) d9_tempted_0 ?_
  refine r_istore_n F (lv' := [(2, vI 0), (0, vR X 0), (1, vI p0)]) rfl (Nat.le_of_ble_eq_true rfl) rfl d9_tempted_1 ?_
  refine r_iconst F (z := 0) d9_tempted_2 ?_
  refine r_istore_n F (lv' := [(3, vI 0), (2, vI 0), (0, vR X 0), (1, vI p0)]) rfl (Nat.le_of_ble_eq_true rfl) rfl d9_tempted_3 ?_
  refine r_weak [2, 3, 1, 0] rfl ?_
  refine at_loopj (A := fun (s1 : Int × Int × Mem) => At K X (ZQ K X Q) 0 0 n rt 4 4 [(0, vR X 0), (1, vI p0), (2, vI s1.1), (3, vI s1.2.1)] [] s1.2.2) (B := fun (b1 : Int × Mem) => At K X (ZQ K X Q) 0 0 n rt 4 37 [(2, vI b1.1)] [] b1.2) h (fun b1 h => ?_) (fun s1 h => ?_)
  · refine r_iload_n F 0 rfl rfl d9_tempted_37 ?_
    replace h := wpo_some h
    exact r_iret F h d9_tempted_38
  · refine r_iload_n F 3 rfl rfl d9_tempted_4 ?_
    refine r_aload_nR F 0 rfl rfl d9_tempted_5 ?_
    refine r_getR F (z := 12) lf9_28 (vc0 hn) z0_2 d9_tempted_6 ?_
    refine r_getI F lf9_165 (vc12 hn) d9_tempted_9 ?_
    refine r_icmp_ge F (tgt := 37) d9_tempted_12 (by decide) (fun hb => ?_) (fun hb => ?_)
    · replace h := wpo_neg h hb
      refine r_weak [2] rfl ?_
      replace h := wpo_inr h
      exact h
    · replace h := wpo_pos h hb
      refine r_aload_nR F 0 rfl rfl d9_tempted_15 ?_
      refine r_iload_n F 3 rfl rfl d9_tempted_16 ?_
      refine r_iload_n F 1 rfl rfl d9_tempted_17 ?_
      replace h := wpo_bind h
      refine r_callV0 F lm9_227 mf9_leastGroan (vc0 hn) rfl (fr := 4) (lo := 89) (As := [vI s1.2.1, vI p0]) (rest := []) ⟨Nat.le_of_ble_eq_true rfl, Nat.le_of_ble_eq_true rfl⟩ rfl (Nat.le_of_ble_eq_true rfl) ⟨Nat.zero_le _, Nat.zero_le _⟩ d9_tempted_18 ?_
      refine ok9_leastGroan hn  (kIm h (fun a1 h => ?_))
      refine r_iconst F (z := (-1)) d9_tempted_21 ?_
      refine at_join (B := fun (j1 : Int) => At K X (ZQ K X Q) 0 0 n rt 4 31 [(0, vR X 0), (1, vI p0), (2, vI j1), (3, vI s1.2.1)] [] a1.2) h (fun j1 h => ?_) (fun h => ?_)
      · refine r_iinc F 3 (lv' := [(3, vI (s1.2.1 + 1)), (0, vR X 0), (1, vI p0), (2, vI j1)]) rfl (Nat.le_of_ble_eq_true rfl) rfl d9_tempted_31 ?_
        refine r_goto F (tgt := 4) (by decide) d9_tempted_34 ?_
        refine r_weak [1, 2, 3, 0] rfl ?_
        replace h := wpo_inl h
        exact h
      · refine r_icmp_eq F (tgt := 31) d9_tempted_22 (by decide) (fun hb => ?_) (fun hb => ?_)
        · replace h := wpo_pos h hb
          replace h := wpo_some h
          exact h
        · replace h := wpo_neg h hb
          refine r_iload_n F 2 rfl rfl d9_tempted_25 ?_
          refine r_iconst F (z := 1) d9_tempted_26 ?_
          refine r_iload_n F 3 rfl rfl d9_tempted_27 ?_
          refine r_ishl F d9_tempted_28 ?_
          refine r_ior F d9_tempted_29 ?_
          refine r_istore_n F (lv' := [(2, vI (or32 s1.1 (shl32 1 s1.2.1))), (0, vR X 0), (1, vI p0), (3, vI s1.2.1)]) rfl (Nat.le_of_ble_eq_true rfl) rfl d9_tempted_30 ?_
          refine r_weak [1, 2, 0, 3] rfl ?_
          replace h := wpo_some h
          exact h
theorem d9_tempts_0 : decode c9_tempts 0 = .ok (.aload_n 0, 1) := by decide +kernel
theorem d9_tempts_1 : decode c9_tempts 1 = .ok (.invokevirtual 159, 3) := by decide +kernel
theorem d9_tempts_4 : decode c9_tempts 4 = .ok (.ifCond .eq 19, 3) := by decide +kernel
theorem d9_tempts_7 : decode c9_tempts 7 = .ok (.aload_n 0, 1) := by decide +kernel
theorem d9_tempts_8 : decode c9_tempts 8 = .ok (.iload_n 1, 1) := by decide +kernel
theorem d9_tempts_9 : decode c9_tempts 9 = .ok (.invokevirtual 218, 3) := by decide +kernel
theorem d9_tempts_12 : decode c9_tempts 12 = .ok (.ifCond .eq 11, 3) := by decide +kernel
theorem d9_tempts_15 : decode c9_tempts 15 = .ok (.aload_n 0, 1) := by decide +kernel
theorem d9_tempts_16 : decode c9_tempts 16 = .ok (.iload_n 1, 1) := by decide +kernel
theorem d9_tempts_17 : decode c9_tempts 17 = .ok (.invokevirtual 230, 3) := by decide +kernel
theorem d9_tempts_20 : decode c9_tempts 20 = .ok (.goto 5, 3) := by decide +kernel
theorem d9_tempts_23 : decode c9_tempts 23 = .ok (.bipush (-2), 2) := by decide +kernel
theorem d9_tempts_25 : decode c9_tempts 25 = .ok (.ireturn, 1) := by decide +kernel
def f9_tempts (D : Mem) (p0 : Int) : Option (Int × Mem) :=
  Option.bind (f9_isThere D) fun (a1 : Int) =>
  if w32 a1 = 0 then
    some ((-2), D)
  else
    Option.bind (f9_isRule D p0) fun (a2 : Int) =>
    if w32 a2 = 0 then
      some ((-2), D)
    else
      Option.bind (f9_tempted D p0) fun (a3 : Int × Mem) =>
      some (a3.1, a3.2)
set_option maxHeartbeats 4000000 in
theorem ok9_tempts {l : Launch} {X : XT} {n : Nat} {D : Mem} {Q : Option Value → Nat → Rho → Mem → Prop} (hn : 117 ≤ n) {p0 : Int}  (h : wpo (f9_tempts D p0) (fun a => Q (some (vI a.1)) n rt a.2)) : MOK l y9_tempts c9_tempts 2 (some .int) { frames := 6, cells := 0, slots := 0, locals := 136 } 0 0 X [vR X 0, vI p0] n rt D Q := by
  refine MOK_of 9 (by decide +kernel) rfl (lv := [(0, vR X 0), (1, vI p0)]) (Nat.le_of_ble_eq_true rfl) rfl (fun K hK F hnm => ?_)
  subst hK
  unfold f9_tempts at h
  refine r_aload_nR F 0 rfl rfl d9_tempts_0 ?_
  replace h := wpo_bind h
  refine r_callV0 F lm9_159 mf9_isThere (vc0 hn) rfl (fr := 0) (lo := 0) (As := []) (rest := []) ⟨Nat.le_of_ble_eq_true rfl, Nat.le_of_ble_eq_true rfl⟩ rfl (Nat.le_of_ble_eq_true rfl) ⟨Nat.zero_le _, Nat.zero_le _⟩ d9_tempts_1 ?_
  refine ok9_isThere hn  (kI h (fun a1 h => ?_))
  refine r_if_eq F (tgt := 23) d9_tempts_4 (by decide) (fun hb => ?_) (fun hb => ?_)
  · replace h := wpo_pos h hb
    refine r_bipush F (z := (-2)) (by decide) d9_tempts_23 ?_
    replace h := wpo_some h
    exact r_iret F h d9_tempts_25
  · replace h := wpo_neg h hb
    refine r_aload_nR F 0 rfl rfl d9_tempts_7 ?_
    refine r_iload_n F 1 rfl rfl d9_tempts_8 ?_
    replace h := wpo_bind h
    refine r_callV0 F lm9_218 mf9_isRule (vc0 hn) rfl (fr := 0) (lo := 0) (As := [vI p0]) (rest := []) ⟨Nat.le_of_ble_eq_true rfl, Nat.le_of_ble_eq_true rfl⟩ rfl (Nat.le_of_ble_eq_true rfl) ⟨Nat.zero_le _, Nat.zero_le _⟩ d9_tempts_9 ?_
    refine ok9_isRule hn  (kI h (fun a2 h => ?_))
    refine r_if_eq F (tgt := 23) d9_tempts_12 (by decide) (fun hb => ?_) (fun hb => ?_)
    · replace h := wpo_pos h hb
      refine r_bipush F (z := (-2)) (by decide) d9_tempts_23 ?_
      replace h := wpo_some h
      exact r_iret F h d9_tempts_25
    · replace h := wpo_neg h hb
      refine r_aload_nR F 0 rfl rfl d9_tempts_15 ?_
      refine r_iload_n F 1 rfl rfl d9_tempts_16 ?_
      replace h := wpo_bind h
      refine r_callV0 F lm9_230 mf9_tempted (vc0 hn) rfl (fr := 5) (lo := 113) (As := [vI p0]) (rest := []) ⟨Nat.le_of_ble_eq_true rfl, Nat.le_of_ble_eq_true rfl⟩ rfl (Nat.le_of_ble_eq_true rfl) ⟨Nat.zero_le _, Nat.zero_le _⟩ d9_tempts_17 ?_
      refine ok9_tempted hn  (kIm h (fun a3 h => ?_))
      refine r_goto F (tgt := 25) (by decide) d9_tempts_20 ?_
      replace h := wpo_some h
      exact r_iret F h d9_tempts_25
theorem d9_proof_0 : decode c9_proof 0 = .ok (.aload_n 0, 1) := by decide +kernel
theorem d9_proof_1 : decode c9_proof 1 = .ok (.invokevirtual 159, 3) := by decide +kernel
theorem d9_proof_4 : decode c9_proof 4 = .ok (.ifCond .ne 6, 3) := by decide +kernel
theorem d9_proof_7 : decode c9_proof 7 = .ok (.bipush (-2), 2) := by decide +kernel
theorem d9_proof_9 : decode c9_proof 9 = .ok (.ireturn, 1) := by decide +kernel
theorem d9_proof_10 : decode c9_proof 10 = .ok (.iconst 0, 1) := by decide +kernel
theorem d9_proof_11 : decode c9_proof 11 = .ok (.istore_n 1, 1) := by decide +kernel
theorem d9_proof_12 : decode c9_proof 12 = .ok (.iconst 0, 1) := by decide +kernel
theorem d9_proof_13 : decode c9_proof 13 = .ok (.istore_n 2, 1) := by decide +kernel
theorem d9_proof_14 : decode c9_proof 14 = .ok (.iload_n 2, 1) := by decide +kernel
theorem d9_proof_15 : decode c9_proof 15 = .ok (.iconst 4, 1) := by decide +kernel
theorem d9_proof_16 : decode c9_proof 16 = .ok (.if_icmp .ge 23, 3) := by decide +kernel
theorem d9_proof_19 : decode c9_proof 19 = .ok (.aload_n 0, 1) := by decide +kernel
theorem d9_proof_20 : decode c9_proof 20 = .ok (.iload_n 2, 1) := by decide +kernel
theorem d9_proof_21 : decode c9_proof 21 = .ok (.invokevirtual 230, 3) := by decide +kernel
theorem d9_proof_24 : decode c9_proof 24 = .ok (.ifCond .ne 9, 3) := by decide +kernel
theorem d9_proof_27 : decode c9_proof 27 = .ok (.iload_n 1, 1) := by decide +kernel
theorem d9_proof_28 : decode c9_proof 28 = .ok (.iconst 1, 1) := by decide +kernel
theorem d9_proof_29 : decode c9_proof 29 = .ok (.iload_n 2, 1) := by decide +kernel
theorem d9_proof_30 : decode c9_proof 30 = .ok (.ishl, 1) := by decide +kernel
theorem d9_proof_31 : decode c9_proof 31 = .ok (.ior, 1) := by decide +kernel
theorem d9_proof_32 : decode c9_proof 32 = .ok (.istore_n 1, 1) := by decide +kernel
theorem d9_proof_33 : decode c9_proof 33 = .ok (.iinc 2 1, 3) := by decide +kernel
theorem d9_proof_36 : decode c9_proof 36 = .ok (.goto (-22), 3) := by decide +kernel
theorem d9_proof_39 : decode c9_proof 39 = .ok (.iload_n 1, 1) := by decide +kernel
theorem d9_proof_40 : decode c9_proof 40 = .ok (.ireturn, 1) := by decide +kernel
def f9_proof (D : Mem) : Option (Int × Mem) :=
  Option.bind (f9_isThere D) fun (a1 : Int) =>
  if w32 a1 = 0 then
    some ((-2), D)
  else
    Option.bind (@loop (Int × Int × Mem) (Int × Mem) (fun s1 =>
      if w32 s1.2.1 < w32 4 then
        Option.bind (f9_tempted s1.2.2 s1.2.1) fun (a2 : Int × Mem) =>
        Option.bind (
          if w32 a2.1 = 0 then
            some (or32 s1.1 (shl32 1 s1.2.1))
          else
            some s1.1
        ) fun (j1 : Int) =>
        some (Sum.inl (j1, (s1.2.1 + 1), a2.2))
      else
        some (Sum.inr (s1.1, s1.2.2))
    ) FU (0, 0, D)) fun (b1 : Int × Mem) =>
    some (b1.1, b1.2)
set_option maxHeartbeats 4000000 in
theorem ok9_proof {l : Launch} {X : XT} {n : Nat} {D : Mem} {Q : Option Value → Nat → Rho → Mem → Prop} (hn : 117 ≤ n)  (h : wpo (f9_proof D) (fun a => Q (some (vI a.1)) n rt a.2)) : MOK l y9_proof c9_proof 3 (some .int) { frames := 6, cells := 0, slots := 0, locals := 136 } 0 0 X [vR X 0] n rt D Q := by
  refine MOK_of 9 (by decide +kernel) rfl (lv := [(0, vR X 0)]) (Nat.le_of_ble_eq_true rfl) rfl (fun K hK F hnm => ?_)
  subst hK
  unfold f9_proof at h
  refine r_aload_nR F 0 rfl rfl d9_proof_0 ?_
  replace h := wpo_bind h
  refine r_callV0 F lm9_159 mf9_isThere (vc0 hn) rfl (fr := 0) (lo := 0) (As := []) (rest := []) ⟨Nat.le_of_ble_eq_true rfl, Nat.le_of_ble_eq_true rfl⟩ rfl (Nat.le_of_ble_eq_true rfl) ⟨Nat.zero_le _, Nat.zero_le _⟩ d9_proof_1 ?_
  refine ok9_isThere hn  (kI h (fun a1 h => ?_))
  refine r_if_ne F (tgt := 10) d9_proof_4 (by decide) (fun hb => ?_) (fun hb => ?_)
  · replace h := wpo_neg h hb
    refine r_iconst F (z := 0) d9_proof_10 ?_
    refine r_istore_n F (lv' := [(1, vI 0), (0, vR X 0)]) rfl (Nat.le_of_ble_eq_true rfl) rfl d9_proof_11 ?_
    refine r_iconst F (z := 0) d9_proof_12 ?_
    refine r_istore_n F (lv' := [(2, vI 0), (1, vI 0), (0, vR X 0)]) rfl (Nat.le_of_ble_eq_true rfl) rfl d9_proof_13 ?_
    refine r_weak [2, 1, 0] rfl ?_
    refine at_loopj (A := fun (s1 : Int × Int × Mem) => At K X (ZQ K X Q) 0 0 n rt 3 14 [(0, vR X 0), (1, vI s1.1), (2, vI s1.2.1)] [] s1.2.2) (B := fun (b1 : Int × Mem) => At K X (ZQ K X Q) 0 0 n rt 3 39 [(1, vI b1.1)] [] b1.2) h (fun b1 h => ?_) (fun s1 h => ?_)
    · refine r_iload_n F 0 rfl rfl d9_proof_39 ?_
      replace h := wpo_some h
      exact r_iret F h d9_proof_40
    · refine r_iload_n F 2 rfl rfl d9_proof_14 ?_
      refine r_iconst F (z := 4) d9_proof_15 ?_
      refine r_icmp_ge F (tgt := 39) d9_proof_16 (by decide) (fun hb => ?_) (fun hb => ?_)
      · replace h := wpo_neg h hb
        refine r_weak [1] rfl ?_
        replace h := wpo_inr h
        exact h
      · replace h := wpo_pos h hb
        refine r_aload_nR F 0 rfl rfl d9_proof_19 ?_
        refine r_iload_n F 2 rfl rfl d9_proof_20 ?_
        replace h := wpo_bind h
        refine r_callV0 F lm9_230 mf9_tempted (vc0 hn) rfl (fr := 5) (lo := 113) (As := [vI s1.2.1]) (rest := []) ⟨Nat.le_of_ble_eq_true rfl, Nat.le_of_ble_eq_true rfl⟩ rfl (Nat.le_of_ble_eq_true rfl) ⟨Nat.zero_le _, Nat.zero_le _⟩ d9_proof_21 ?_
        refine ok9_tempted hn  (kIm h (fun a2 h => ?_))
        refine at_join (B := fun (j1 : Int) => At K X (ZQ K X Q) 0 0 n rt 3 33 [(0, vR X 0), (1, vI j1), (2, vI s1.2.1)] [] a2.2) h (fun j1 h => ?_) (fun h => ?_)
        · refine r_iinc F 2 (lv' := [(2, vI (s1.2.1 + 1)), (0, vR X 0), (1, vI j1)]) rfl (Nat.le_of_ble_eq_true rfl) rfl d9_proof_33 ?_
          refine r_goto F (tgt := 14) (by decide) d9_proof_36 ?_
          refine r_weak [1, 2, 0] rfl ?_
          replace h := wpo_inl h
          exact h
        · refine r_if_ne F (tgt := 33) d9_proof_24 (by decide) (fun hb => ?_) (fun hb => ?_)
          · replace h := wpo_neg h hb
            replace h := wpo_some h
            exact h
          · replace h := wpo_pos h hb
            refine r_iload_n F 1 rfl rfl d9_proof_27 ?_
            refine r_iconst F (z := 1) d9_proof_28 ?_
            refine r_iload_n F 2 rfl rfl d9_proof_29 ?_
            refine r_ishl F d9_proof_30 ?_
            refine r_ior F d9_proof_31 ?_
            refine r_istore_n F (lv' := [(1, vI (or32 s1.1 (shl32 1 s1.2.1))), (0, vR X 0), (2, vI s1.2.1)]) rfl (Nat.le_of_ble_eq_true rfl) rfl d9_proof_32 ?_
            refine r_weak [1, 0, 2] rfl ?_
            replace h := wpo_some h
            exact h
  · replace h := wpo_pos h hb
    refine r_bipush F (z := (-2)) (by decide) d9_proof_7 ?_
    replace h := wpo_some h
    exact r_iret F h d9_proof_9
theorem d9_sumBySets_0 : decode c9_sumBySets 0 = .ok (.aload_n 2, 1) := by decide +kernel
theorem d9_sumBySets_1 : decode c9_sumBySets 1 = .ok (.iconst 0, 1) := by decide +kernel
theorem d9_sumBySets_2 : decode c9_sumBySets 2 = .ok (.iconst 0, 1) := by decide +kernel
theorem d9_sumBySets_3 : decode c9_sumBySets 3 = .ok (.iastore, 1) := by decide +kernel
theorem d9_sumBySets_4 : decode c9_sumBySets 4 = .ok (.iconst 0, 1) := by decide +kernel
theorem d9_sumBySets_5 : decode c9_sumBySets 5 = .ok (.istore_n 3, 1) := by decide +kernel
theorem d9_sumBySets_6 : decode c9_sumBySets 6 = .ok (.iload_n 3, 1) := by decide +kernel
theorem d9_sumBySets_7 : decode c9_sumBySets 7 = .ok (.iload_n 1, 1) := by decide +kernel
theorem d9_sumBySets_8 : decode c9_sumBySets 8 = .ok (.if_icmp .ge 45, 3) := by decide +kernel
theorem d9_sumBySets_11 : decode c9_sumBySets 11 = .ok (.iconst 1, 1) := by decide +kernel
theorem d9_sumBySets_12 : decode c9_sumBySets 12 = .ok (.iload_n 3, 1) := by decide +kernel
theorem d9_sumBySets_13 : decode c9_sumBySets 13 = .ok (.ishl, 1) := by decide +kernel
theorem d9_sumBySets_14 : decode c9_sumBySets 14 = .ok (.istore 4, 2) := by decide +kernel
theorem d9_sumBySets_16 : decode c9_sumBySets 16 = .ok (.iconst 0, 1) := by decide +kernel
theorem d9_sumBySets_17 : decode c9_sumBySets 17 = .ok (.istore 5, 2) := by decide +kernel
theorem d9_sumBySets_19 : decode c9_sumBySets 19 = .ok (.iload 5, 2) := by decide +kernel
theorem d9_sumBySets_21 : decode c9_sumBySets 21 = .ok (.iload 4, 2) := by decide +kernel
theorem d9_sumBySets_23 : decode c9_sumBySets 23 = .ok (.if_icmp .ge 24, 3) := by decide +kernel
theorem d9_sumBySets_26 : decode c9_sumBySets 26 = .ok (.aload_n 2, 1) := by decide +kernel
theorem d9_sumBySets_27 : decode c9_sumBySets 27 = .ok (.iload 5, 2) := by decide +kernel
theorem d9_sumBySets_29 : decode c9_sumBySets 29 = .ok (.iload 4, 2) := by decide +kernel
theorem d9_sumBySets_31 : decode c9_sumBySets 31 = .ok (.ior, 1) := by decide +kernel
theorem d9_sumBySets_32 : decode c9_sumBySets 32 = .ok (.aload_n 2, 1) := by decide +kernel
theorem d9_sumBySets_33 : decode c9_sumBySets 33 = .ok (.iload 5, 2) := by decide +kernel
theorem d9_sumBySets_35 : decode c9_sumBySets 35 = .ok (.iaload, 1) := by decide +kernel
theorem d9_sumBySets_36 : decode c9_sumBySets 36 = .ok (.aload_n 0, 1) := by decide +kernel
theorem d9_sumBySets_37 : decode c9_sumBySets 37 = .ok (.iload_n 3, 1) := by decide +kernel
theorem d9_sumBySets_38 : decode c9_sumBySets 38 = .ok (.iaload, 1) := by decide +kernel
theorem d9_sumBySets_39 : decode c9_sumBySets 39 = .ok (.iadd, 1) := by decide +kernel
theorem d9_sumBySets_40 : decode c9_sumBySets 40 = .ok (.iastore, 1) := by decide +kernel
theorem d9_sumBySets_41 : decode c9_sumBySets 41 = .ok (.iinc 5 1, 3) := by decide +kernel
theorem d9_sumBySets_44 : decode c9_sumBySets 44 = .ok (.goto (-25), 3) := by decide +kernel
theorem d9_sumBySets_47 : decode c9_sumBySets 47 = .ok (.iinc 3 1, 3) := by decide +kernel
theorem d9_sumBySets_50 : decode c9_sumBySets 50 = .ok (.goto (-44), 3) := by decide +kernel
theorem d9_sumBySets_53 : decode c9_sumBySets 53 = .ok (.return_, 1) := by decide +kernel
def f9_sumBySets (D : Mem) (p0 : Nat) (p1 : Int) (p2 : Nat) : Option (Mem) :=
  Option.bind (some (mset D p2 0 0)) fun (D1 : Mem) =>
  Option.bind (@loop (Int × Mem) (Mem) (fun s1 =>
    if w32 s1.1 < w32 p1 then
      Option.bind (@loop (Int × Mem) (Mem) (fun s2 =>
        if w32 s2.1 < w32 (shl32 1 s1.1) then
          if 0 ≤ s2.1 ∧ s2.1 < 256 then
            if 0 ≤ s1.1 ∧ s1.1 < 8 then
              if 0 ≤ (or32 s2.1 (shl32 1 s1.1)) ∧ (or32 s2.1 (shl32 1 s1.1)) < 256 then
                some (Sum.inl ((s2.1 + 1), (mset s2.2 p2 (or32 s2.1 (shl32 1 s1.1)).toNat ((s2.2 p2 s2.1.toNat) + (s2.2 p0 s1.1.toNat)))))
              else none
            else none
          else none
        else
          some (Sum.inr s2.2)
      ) FU (0, s1.2)) fun (b2 : Mem) =>
      some (Sum.inl ((s1.1 + 1), b2))
    else
      some (Sum.inr s1.2)
  ) FU (0, D1)) fun (b1 : Mem) =>
  some b1
set_option maxHeartbeats 4000000 in
theorem ok9_sumBySets {l : Launch} {X : XT} {n : Nat} {D : Mem} {Q : Option Value → Nat → Rho → Mem → Prop} (hn : 117 ≤ n) {p0 : Nat} {p1 : Int} {p2 : Nat} (ho0 : VA n p0 1 8) (ho2 : VA n p2 1 256) (h : wpo (f9_sumBySets D p0 p1 p2) (fun a => Q none n rt a)) : MOK l y9_sumBySets c9_sumBySets 6 (none) { frames := 0, cells := 0, slots := 0, locals := 0 } 0 0 X [vR X p0, vI p1, vR X p2] n rt D Q := by
  refine MOK_of 9 (by decide +kernel) rfl (lv := [(0, vR X p0), (1, vI p1), (2, vR X p2)]) (Nat.le_of_ble_eq_true rfl) rfl (fun K hK F hnm => ?_)
  subst hK
  unfold f9_sumBySets at h
  refine r_aload_nR F 2 rfl rfl d9_sumBySets_0 ?_
  refine r_iconst F (z := 0) d9_sumBySets_1 ?_
  refine r_iconst F (z := 0) d9_sumBySets_2 ?_
  refine r_iastC F (j := 0) ho2 (by decide) rfl d9_sumBySets_3 ?_
  refine r_iconst F (z := 0) d9_sumBySets_4 ?_
  refine r_istore_n F (lv' := [(3, vI 0), (0, vR X p0), (1, vI p1), (2, vR X p2)]) rfl (Nat.le_of_ble_eq_true rfl) rfl d9_sumBySets_5 ?_
  refine at_name (B := fun (D1 : Mem) => At K X (ZQ K X Q) 0 0 n rt 6 6 [(3, vI 0), (0, vR X p0), (1, vI p1), (2, vR X p2)] [] D1) h (fun D1 h => ?_)
  refine r_weak [1, 2, 3, 0] rfl ?_
  refine at_loopj (A := fun (s1 : Int × Mem) => At K X (ZQ K X Q) 0 0 n rt 6 6 [(0, vR X p0), (1, vI p1), (2, vR X p2), (3, vI s1.1)] [] s1.2) (B := fun (b1 : Mem) => At K X (ZQ K X Q) 0 0 n rt 6 53 [] [] b1) h (fun b1 h => ?_) (fun s1 h => ?_)
  · replace h := wpo_some h
    exact r_vret F h d9_sumBySets_53
  · refine r_iload_n F 3 rfl rfl d9_sumBySets_6 ?_
    refine r_iload_n F 1 rfl rfl d9_sumBySets_7 ?_
    refine r_icmp_ge F (tgt := 53) d9_sumBySets_8 (by decide) (fun hb => ?_) (fun hb => ?_)
    · replace h := wpo_neg h hb
      refine r_weak [] rfl ?_
      replace h := wpo_inr h
      exact h
    · replace h := wpo_pos h hb
      refine r_iconst F (z := 1) d9_sumBySets_11 ?_
      refine r_iload_n F 3 rfl rfl d9_sumBySets_12 ?_
      refine r_ishl F d9_sumBySets_13 ?_
      refine r_istore F (lv' := [(4, vI (shl32 1 s1.1)), (0, vR X p0), (1, vI p1), (2, vR X p2), (3, vI s1.1)]) (Nat.le_of_ble_eq_true rfl) rfl d9_sumBySets_14 ?_
      refine r_iconst F (z := 0) d9_sumBySets_16 ?_
      refine r_istore F (lv' := [(5, vI 0), (4, vI (shl32 1 s1.1)), (0, vR X p0), (1, vI p1), (2, vR X p2), (3, vI s1.1)]) (Nat.le_of_ble_eq_true rfl) rfl d9_sumBySets_17 ?_
      refine r_weak [2, 3, 4, 5, 1, 0] rfl ?_
      refine at_loopj (A := fun (s2 : Int × Mem) => At K X (ZQ K X Q) 0 0 n rt 6 19 [(0, vR X p0), (1, vI p1), (2, vR X p2), (3, vI s1.1), (4, vI (shl32 1 s1.1)), (5, vI s2.1)] [] s2.2) (B := fun (b2 : Mem) => At K X (ZQ K X Q) 0 0 n rt 6 47 [(0, vR X p0), (1, vI p1), (2, vR X p2), (3, vI s1.1)] [] b2) h (fun b2 h => ?_) (fun s2 h => ?_)
      · refine r_iinc F 3 (lv' := [(3, vI (s1.1 + 1)), (0, vR X p0), (1, vI p1), (2, vR X p2)]) rfl (Nat.le_of_ble_eq_true rfl) rfl d9_sumBySets_47 ?_
        refine r_goto F (tgt := 6) (by decide) d9_sumBySets_50 ?_
        refine r_weak [1, 2, 3, 0] rfl ?_
        replace h := wpo_inl h
        exact h
      · refine r_iload F 5 rfl d9_sumBySets_19 ?_
        refine r_iload F 4 rfl d9_sumBySets_21 ?_
        refine r_icmp_ge F (tgt := 47) d9_sumBySets_23 (by decide) (fun hb => ?_) (fun hb => ?_)
        · replace h := wpo_neg h hb
          refine r_weak [0, 1, 2, 3] rfl ?_
          replace h := wpo_inr h
          exact h
        · replace h := wpo_pos h hb
          refine r_aload_nR F 2 rfl rfl d9_sumBySets_26 ?_
          refine r_iload F 5 rfl d9_sumBySets_27 ?_
          refine r_iload F 4 rfl d9_sumBySets_29 ?_
          refine r_ior F d9_sumBySets_31 ?_
          refine r_aload_nR F 2 rfl rfl d9_sumBySets_32 ?_
          refine r_iload F 5 rfl d9_sumBySets_33 ?_
          obtain ⟨hx1, h⟩ := wpo_chk h
          refine r_iald F ho2 hx1 d9_sumBySets_35 ?_
          refine r_aload_nR F 0 rfl rfl d9_sumBySets_36 ?_
          refine r_iload_n F 3 rfl rfl d9_sumBySets_37 ?_
          obtain ⟨hx2, h⟩ := wpo_chk h
          refine r_iald F ho0 hx2 d9_sumBySets_38 ?_
          refine r_iadd F d9_sumBySets_39 ?_
          obtain ⟨hx3, h⟩ := wpo_chk h
          refine r_iast F ho2 hx3 d9_sumBySets_40 ?_
          refine r_iinc F 5 (lv' := [(5, vI (s2.1 + 1)), (0, vR X p0), (1, vI p1), (2, vR X p2), (3, vI s1.1), (4, vI (shl32 1 s1.1))]) rfl (Nat.le_of_ble_eq_true rfl) rfl d9_sumBySets_41 ?_
          refine r_goto F (tgt := 19) (by decide) d9_sumBySets_44 ?_
          refine r_weak [1, 2, 3, 4, 5, 0] rfl ?_
          replace h := wpo_inl h
          exact h
theorem d3_shiftOf_0 : decode c3_shiftOf 0 = .ok (.iconst 4, 1) := by decide +kernel
theorem d3_shiftOf_1 : decode c3_shiftOf 1 = .ok (.bipush 7, 2) := by decide +kernel
theorem d3_shiftOf_3 : decode c3_shiftOf 3 = .ok (.iload_n 0, 1) := by decide +kernel
theorem d3_shiftOf_4 : decode c3_shiftOf 4 = .ok (.isub, 1) := by decide +kernel
theorem d3_shiftOf_5 : decode c3_shiftOf 5 = .ok (.imul, 1) := by decide +kernel
theorem d3_shiftOf_6 : decode c3_shiftOf 6 = .ok (.ireturn, 1) := by decide +kernel
def f3_shiftOf (D : Mem) (p0 : Int) : Option (Int) :=
  some (4 * (7 - p0))
set_option maxHeartbeats 4000000 in
theorem ok3_shiftOf {l : Launch} {X : XT} {n : Nat} {D : Mem} {Q : Option Value → Nat → Rho → Mem → Prop} (hn : 117 ≤ n) {p0 : Int}  (h : wpo (f3_shiftOf D p0) (fun a => Q (some (vI a)) n rt D)) : MOK l y3_shiftOf c3_shiftOf 1 (some .int) { frames := 0, cells := 0, slots := 0, locals := 0 } 0 0 X [vI p0] n rt D Q := by
  refine MOK_of 3 (by decide +kernel) rfl (lv := [(0, vI p0)]) (Nat.le_of_ble_eq_true rfl) rfl (fun K hK F hnm => ?_)
  subst hK
  unfold f3_shiftOf at h
  refine r_iconst F (z := 4) d3_shiftOf_0 ?_
  refine r_bipush F (z := 7) (by decide) d3_shiftOf_1 ?_
  refine r_iload_n F 0 rfl rfl d3_shiftOf_3 ?_
  refine r_isub F d3_shiftOf_4 ?_
  refine r_imul F d3_shiftOf_5 ?_
  replace h := wpo_some h
  exact r_iret F h d3_shiftOf_6
theorem d3_addUp_0 : decode c3_addUp 0 = .ok (.aload_n 0, 1) := by decide +kernel
theorem d3_addUp_1 : decode c3_addUp 1 = .ok (.getfield 52, 3) := by decide +kernel
theorem d3_addUp_4 : decode c3_addUp 4 = .ok (.getfield 77, 3) := by decide +kernel
theorem d3_addUp_7 : decode c3_addUp 7 = .ok (.istore_n 1, 1) := by decide +kernel
theorem d3_addUp_8 : decode c3_addUp 8 = .ok (.aload_n 0, 1) := by decide +kernel
theorem d3_addUp_9 : decode c3_addUp 9 = .ok (.getfield 52, 3) := by decide +kernel
theorem d3_addUp_12 : decode c3_addUp 12 = .ok (.getfield 80, 3) := by decide +kernel
theorem d3_addUp_15 : decode c3_addUp 15 = .ok (.iload_n 1, 1) := by decide +kernel
theorem d3_addUp_16 : decode c3_addUp 16 = .ok (.aload_n 0, 1) := by decide +kernel
theorem d3_addUp_17 : decode c3_addUp 17 = .ok (.getfield 30, 3) := by decide +kernel
theorem d3_addUp_20 : decode c3_addUp 20 = .ok (.invokestatic 83, 3) := by decide +kernel
theorem d3_addUp_23 : decode c3_addUp 23 = .ok (.iconst 0, 1) := by decide +kernel
theorem d3_addUp_24 : decode c3_addUp 24 = .ok (.istore_n 2, 1) := by decide +kernel
theorem d3_addUp_25 : decode c3_addUp 25 = .ok (.iload_n 2, 1) := by decide +kernel
theorem d3_addUp_26 : decode c3_addUp 26 = .ok (.iload_n 1, 1) := by decide +kernel
theorem d3_addUp_27 : decode c3_addUp 27 = .ok (.if_icmp .ge 34, 3) := by decide +kernel
theorem d3_addUp_30 : decode c3_addUp 30 = .ok (.aload_n 0, 1) := by decide +kernel
theorem d3_addUp_31 : decode c3_addUp 31 = .ok (.getfield 26, 3) := by decide +kernel
theorem d3_addUp_34 : decode c3_addUp 34 = .ok (.iload_n 2, 1) := by decide +kernel
theorem d3_addUp_35 : decode c3_addUp 35 = .ok (.aload_n 0, 1) := by decide +kernel
theorem d3_addUp_36 : decode c3_addUp 36 = .ok (.getfield 52, 3) := by decide +kernel
theorem d3_addUp_39 : decode c3_addUp 39 = .ok (.getfield 80, 3) := by decide +kernel
theorem d3_addUp_42 : decode c3_addUp 42 = .ok (.iload_n 2, 1) := by decide +kernel
theorem d3_addUp_43 : decode c3_addUp 43 = .ok (.iaload, 1) := by decide +kernel
theorem d3_addUp_44 : decode c3_addUp 44 = .ok (.aload_n 0, 1) := by decide +kernel
theorem d3_addUp_45 : decode c3_addUp 45 = .ok (.getfield 52, 3) := by decide +kernel
theorem d3_addUp_48 : decode c3_addUp 48 = .ok (.getfield 87, 3) := by decide +kernel
theorem d3_addUp_51 : decode c3_addUp 51 = .ok (.iload_n 2, 1) := by decide +kernel
theorem d3_addUp_52 : decode c3_addUp 52 = .ok (.iaload, 1) := by decide +kernel
theorem d3_addUp_53 : decode c3_addUp 53 = .ok (.imul, 1) := by decide +kernel
theorem d3_addUp_54 : decode c3_addUp 54 = .ok (.iastore, 1) := by decide +kernel
theorem d3_addUp_55 : decode c3_addUp 55 = .ok (.iinc 2 1, 3) := by decide +kernel
theorem d3_addUp_58 : decode c3_addUp 58 = .ok (.goto (-33), 3) := by decide +kernel
theorem d3_addUp_61 : decode c3_addUp 61 = .ok (.aload_n 0, 1) := by decide +kernel
theorem d3_addUp_62 : decode c3_addUp 62 = .ok (.getfield 26, 3) := by decide +kernel
theorem d3_addUp_65 : decode c3_addUp 65 = .ok (.iload_n 1, 1) := by decide +kernel
theorem d3_addUp_66 : decode c3_addUp 66 = .ok (.aload_n 0, 1) := by decide +kernel
theorem d3_addUp_67 : decode c3_addUp 67 = .ok (.getfield 33, 3) := by decide +kernel
theorem d3_addUp_70 : decode c3_addUp 70 = .ok (.invokestatic 83, 3) := by decide +kernel
theorem d3_addUp_73 : decode c3_addUp 73 = .ok (.iconst 0, 1) := by decide +kernel
theorem d3_addUp_74 : decode c3_addUp 74 = .ok (.istore_n 2, 1) := by decide +kernel
theorem d3_addUp_75 : decode c3_addUp 75 = .ok (.iload_n 2, 1) := by decide +kernel
theorem d3_addUp_76 : decode c3_addUp 76 = .ok (.iload_n 1, 1) := by decide +kernel
theorem d3_addUp_77 : decode c3_addUp 77 = .ok (.if_icmp .ge 44, 3) := by decide +kernel
theorem d3_addUp_80 : decode c3_addUp 80 = .ok (.aload_n 0, 1) := by decide +kernel
theorem d3_addUp_81 : decode c3_addUp 81 = .ok (.getfield 26, 3) := by decide +kernel
theorem d3_addUp_84 : decode c3_addUp 84 = .ok (.iload_n 2, 1) := by decide +kernel
theorem d3_addUp_85 : decode c3_addUp 85 = .ok (.aload_n 0, 1) := by decide +kernel
theorem d3_addUp_86 : decode c3_addUp 86 = .ok (.getfield 52, 3) := by decide +kernel
theorem d3_addUp_89 : decode c3_addUp 89 = .ok (.getfield 80, 3) := by decide +kernel
theorem d3_addUp_92 : decode c3_addUp 92 = .ok (.iload_n 2, 1) := by decide +kernel
theorem d3_addUp_93 : decode c3_addUp 93 = .ok (.iaload, 1) := by decide +kernel
theorem d3_addUp_94 : decode c3_addUp 94 = .ok (.aload_n 0, 1) := by decide +kernel
theorem d3_addUp_95 : decode c3_addUp 95 = .ok (.getfield 52, 3) := by decide +kernel
theorem d3_addUp_98 : decode c3_addUp 98 = .ok (.getfield 87, 3) := by decide +kernel
theorem d3_addUp_101 : decode c3_addUp 101 = .ok (.iload_n 2, 1) := by decide +kernel
theorem d3_addUp_102 : decode c3_addUp 102 = .ok (.iaload, 1) := by decide +kernel
theorem d3_addUp_103 : decode c3_addUp 103 = .ok (.imul, 1) := by decide +kernel
theorem d3_addUp_104 : decode c3_addUp 104 = .ok (.aload_n 0, 1) := by decide +kernel
theorem d3_addUp_105 : decode c3_addUp 105 = .ok (.getfield 52, 3) := by decide +kernel
theorem d3_addUp_108 : decode c3_addUp 108 = .ok (.getfield 90, 3) := by decide +kernel
theorem d3_addUp_111 : decode c3_addUp 111 = .ok (.iload_n 2, 1) := by decide +kernel
theorem d3_addUp_112 : decode c3_addUp 112 = .ok (.iaload, 1) := by decide +kernel
theorem d3_addUp_113 : decode c3_addUp 113 = .ok (.imul, 1) := by decide +kernel
theorem d3_addUp_114 : decode c3_addUp 114 = .ok (.iastore, 1) := by decide +kernel
theorem d3_addUp_115 : decode c3_addUp 115 = .ok (.iinc 2 1, 3) := by decide +kernel
theorem d3_addUp_118 : decode c3_addUp 118 = .ok (.goto (-43), 3) := by decide +kernel
theorem d3_addUp_121 : decode c3_addUp 121 = .ok (.aload_n 0, 1) := by decide +kernel
theorem d3_addUp_122 : decode c3_addUp 122 = .ok (.getfield 26, 3) := by decide +kernel
theorem d3_addUp_125 : decode c3_addUp 125 = .ok (.iload_n 1, 1) := by decide +kernel
theorem d3_addUp_126 : decode c3_addUp 126 = .ok (.aload_n 0, 1) := by decide +kernel
theorem d3_addUp_127 : decode c3_addUp 127 = .ok (.getfield 36, 3) := by decide +kernel
theorem d3_addUp_130 : decode c3_addUp 130 = .ok (.invokestatic 83, 3) := by decide +kernel
theorem d3_addUp_133 : decode c3_addUp 133 = .ok (.iconst 0, 1) := by decide +kernel
theorem d3_addUp_134 : decode c3_addUp 134 = .ok (.istore_n 2, 1) := by decide +kernel
theorem d3_addUp_135 : decode c3_addUp 135 = .ok (.iload_n 2, 1) := by decide +kernel
theorem d3_addUp_136 : decode c3_addUp 136 = .ok (.iload_n 1, 1) := by decide +kernel
theorem d3_addUp_137 : decode c3_addUp 137 = .ok (.if_icmp .ge 58, 3) := by decide +kernel
theorem d3_addUp_140 : decode c3_addUp 140 = .ok (.iconst 0, 1) := by decide +kernel
theorem d3_addUp_141 : decode c3_addUp 141 = .ok (.aload_n 0, 1) := by decide +kernel
theorem d3_addUp_142 : decode c3_addUp 142 = .ok (.getfield 52, 3) := by decide +kernel
theorem d3_addUp_145 : decode c3_addUp 145 = .ok (.getfield 93, 3) := by decide +kernel
theorem d3_addUp_148 : decode c3_addUp 148 = .ok (.aload_n 0, 1) := by decide +kernel
theorem d3_addUp_149 : decode c3_addUp 149 = .ok (.getfield 52, 3) := by decide +kernel
theorem d3_addUp_152 : decode c3_addUp 152 = .ok (.getfield 90, 3) := by decide +kernel
theorem d3_addUp_155 : decode c3_addUp 155 = .ok (.iload_n 2, 1) := by decide +kernel
theorem d3_addUp_156 : decode c3_addUp 156 = .ok (.iaload, 1) := by decide +kernel
theorem d3_addUp_157 : decode c3_addUp 157 = .ok (.isub, 1) := by decide +kernel
theorem d3_addUp_158 : decode c3_addUp 158 = .ok (.invokestatic 96, 3) := by decide +kernel
theorem d3_addUp_161 : decode c3_addUp 161 = .ok (.istore_n 3, 1) := by decide +kernel
theorem d3_addUp_162 : decode c3_addUp 162 = .ok (.aload_n 0, 1) := by decide +kernel
theorem d3_addUp_163 : decode c3_addUp 163 = .ok (.getfield 26, 3) := by decide +kernel
theorem d3_addUp_166 : decode c3_addUp 166 = .ok (.iload_n 2, 1) := by decide +kernel
theorem d3_addUp_167 : decode c3_addUp 167 = .ok (.aload_n 0, 1) := by decide +kernel
theorem d3_addUp_168 : decode c3_addUp 168 = .ok (.getfield 52, 3) := by decide +kernel
theorem d3_addUp_171 : decode c3_addUp 171 = .ok (.getfield 80, 3) := by decide +kernel
theorem d3_addUp_174 : decode c3_addUp 174 = .ok (.iload_n 2, 1) := by decide +kernel
theorem d3_addUp_175 : decode c3_addUp 175 = .ok (.iaload, 1) := by decide +kernel
theorem d3_addUp_176 : decode c3_addUp 176 = .ok (.aload_n 0, 1) := by decide +kernel
theorem d3_addUp_177 : decode c3_addUp 177 = .ok (.getfield 52, 3) := by decide +kernel
theorem d3_addUp_180 : decode c3_addUp 180 = .ok (.getfield 87, 3) := by decide +kernel
theorem d3_addUp_183 : decode c3_addUp 183 = .ok (.iload_n 2, 1) := by decide +kernel
theorem d3_addUp_184 : decode c3_addUp 184 = .ok (.iaload, 1) := by decide +kernel
theorem d3_addUp_185 : decode c3_addUp 185 = .ok (.imul, 1) := by decide +kernel
theorem d3_addUp_186 : decode c3_addUp 186 = .ok (.iload_n 3, 1) := by decide +kernel
theorem d3_addUp_187 : decode c3_addUp 187 = .ok (.imul, 1) := by decide +kernel
theorem d3_addUp_188 : decode c3_addUp 188 = .ok (.iastore, 1) := by decide +kernel
theorem d3_addUp_189 : decode c3_addUp 189 = .ok (.iinc 2 1, 3) := by decide +kernel
theorem d3_addUp_192 : decode c3_addUp 192 = .ok (.goto (-57), 3) := by decide +kernel
theorem d3_addUp_195 : decode c3_addUp 195 = .ok (.aload_n 0, 1) := by decide +kernel
theorem d3_addUp_196 : decode c3_addUp 196 = .ok (.getfield 26, 3) := by decide +kernel
theorem d3_addUp_199 : decode c3_addUp 199 = .ok (.iload_n 1, 1) := by decide +kernel
theorem d3_addUp_200 : decode c3_addUp 200 = .ok (.aload_n 0, 1) := by decide +kernel
theorem d3_addUp_201 : decode c3_addUp 201 = .ok (.getfield 39, 3) := by decide +kernel
theorem d3_addUp_204 : decode c3_addUp 204 = .ok (.invokestatic 83, 3) := by decide +kernel
theorem d3_addUp_207 : decode c3_addUp 207 = .ok (.aload_n 0, 1) := by decide +kernel
theorem d3_addUp_208 : decode c3_addUp 208 = .ok (.getfield 42, 3) := by decide +kernel
theorem d3_addUp_211 : decode c3_addUp 211 = .ok (.iconst 0, 1) := by decide +kernel
theorem d3_addUp_212 : decode c3_addUp 212 = .ok (.lconst 0, 1) := by decide +kernel
theorem d3_addUp_213 : decode c3_addUp 213 = .ok (.lastore, 1) := by decide +kernel
theorem d3_addUp_214 : decode c3_addUp 214 = .ok (.iconst 0, 1) := by decide +kernel
theorem d3_addUp_215 : decode c3_addUp 215 = .ok (.istore_n 2, 1) := by decide +kernel
theorem d3_addUp_216 : decode c3_addUp 216 = .ok (.iload_n 2, 1) := by decide +kernel
theorem d3_addUp_217 : decode c3_addUp 217 = .ok (.iload_n 1, 1) := by decide +kernel
theorem d3_addUp_218 : decode c3_addUp 218 = .ok (.if_icmp .ge 51, 3) := by decide +kernel
theorem d3_addUp_221 : decode c3_addUp 221 = .ok (.iconst 1, 1) := by decide +kernel
theorem d3_addUp_222 : decode c3_addUp 222 = .ok (.iload_n 2, 1) := by decide +kernel
theorem d3_addUp_223 : decode c3_addUp 223 = .ok (.ishl, 1) := by decide +kernel
theorem d3_addUp_224 : decode c3_addUp 224 = .ok (.istore_n 3, 1) := by decide +kernel
theorem d3_addUp_225 : decode c3_addUp 225 = .ok (.iconst 0, 1) := by decide +kernel
theorem d3_addUp_226 : decode c3_addUp 226 = .ok (.istore 4, 2) := by decide +kernel
theorem d3_addUp_228 : decode c3_addUp 228 = .ok (.iload 4, 2) := by decide +kernel
theorem d3_addUp_230 : decode c3_addUp 230 = .ok (.iload_n 3, 1) := by decide +kernel
theorem d3_addUp_231 : decode c3_addUp 231 = .ok (.if_icmp .ge 32, 3) := by decide +kernel
theorem d3_addUp_234 : decode c3_addUp 234 = .ok (.aload_n 0, 1) := by decide +kernel
theorem d3_addUp_235 : decode c3_addUp 235 = .ok (.getfield 42, 3) := by decide +kernel
theorem d3_addUp_238 : decode c3_addUp 238 = .ok (.iload 4, 2) := by decide +kernel
theorem d3_addUp_240 : decode c3_addUp 240 = .ok (.iload_n 3, 1) := by decide +kernel
theorem d3_addUp_241 : decode c3_addUp 241 = .ok (.ior, 1) := by decide +kernel
theorem d3_addUp_242 : decode c3_addUp 242 = .ok (.aload_n 0, 1) := by decide +kernel
theorem d3_addUp_243 : decode c3_addUp 243 = .ok (.getfield 42, 3) := by decide +kernel
theorem d3_addUp_246 : decode c3_addUp 246 = .ok (.iload 4, 2) := by decide +kernel
theorem d3_addUp_248 : decode c3_addUp 248 = .ok (.laload, 1) := by decide +kernel
theorem d3_addUp_249 : decode c3_addUp 249 = .ok (.lconst 1, 1) := by decide +kernel
theorem d3_addUp_250 : decode c3_addUp 250 = .ok (.iload_n 2, 1) := by decide +kernel
theorem d3_addUp_251 : decode c3_addUp 251 = .ok (.invokestatic 68, 3) := by decide +kernel
theorem d3_addUp_254 : decode c3_addUp 254 = .ok (.lshl, 1) := by decide +kernel
theorem d3_addUp_255 : decode c3_addUp 255 = .ok (.ladd, 1) := by decide +kernel
theorem d3_addUp_256 : decode c3_addUp 256 = .ok (.lastore, 1) := by decide +kernel
theorem d3_addUp_257 : decode c3_addUp 257 = .ok (.iinc 4 1, 3) := by decide +kernel
theorem d3_addUp_260 : decode c3_addUp 260 = .ok (.goto (-32), 3) := by decide +kernel
theorem d3_addUp_263 : decode c3_addUp 263 = .ok (.iinc 2 1, 3) := by decide +kernel
theorem d3_addUp_266 : decode c3_addUp 266 = .ok (.goto (-50), 3) := by decide +kernel
theorem d3_addUp_269 : decode c3_addUp 269 = .ok (.return_, 1) := by decide +kernel
def f3_addUp (D : Mem) : Option (Mem) :=
  Option.bind (f9_sumBySets D 13 (D 12 8) 51) fun (a1 : Mem) =>
  Option.bind (@loop (Int × Mem) (Mem) (fun s1 =>
    if w32 s1.1 < w32 (D 12 8) then
      if 0 ≤ s1.1 ∧ s1.1 < 8 then
        some (Sum.inl ((s1.1 + 1), (mset s1.2 50 s1.1.toNat ((s1.2 13 s1.1.toNat) * (s1.2 15 s1.1.toNat)))))
      else none
    else
      some (Sum.inr s1.2)
  ) FU (0, a1)) fun (b1 : Mem) =>
  Option.bind (f9_sumBySets b1 50 (D 12 8) 52) fun (a2 : Mem) =>
  Option.bind (@loop (Int × Mem) (Mem) (fun s2 =>
    if w32 s2.1 < w32 (D 12 8) then
      if 0 ≤ s2.1 ∧ s2.1 < 8 then
        some (Sum.inl ((s2.1 + 1), (mset s2.2 50 s2.1.toNat (((s2.2 13 s2.1.toNat) * (s2.2 15 s2.1.toNat)) * (s2.2 14 s2.1.toNat)))))
      else none
    else
      some (Sum.inr s2.2)
  ) FU (0, a2)) fun (b2 : Mem) =>
  Option.bind (f9_sumBySets b2 50 (D 12 8) 53) fun (a3 : Mem) =>
  Option.bind (@loop (Int × Mem) (Mem) (fun s3 =>
    if w32 s3.1 < w32 (D 12 8) then
      if 0 ≤ s3.1 ∧ s3.1 < 8 then
        Option.bind (some (max32 0 ((s3.2 12 1) - (s3.2 14 s3.1.toNat)))) fun (v1 : Int) =>
        some (Sum.inl ((s3.1 + 1), (mset s3.2 50 s3.1.toNat (((s3.2 13 s3.1.toNat) * (s3.2 15 s3.1.toNat)) * v1))))
      else none
    else
      some (Sum.inr s3.2)
  ) FU (0, a3)) fun (b3 : Mem) =>
  Option.bind (f9_sumBySets b3 50 (D 12 8) 54) fun (a4 : Mem) =>
  Option.bind (some (mset a4 55 0 0)) fun (D1 : Mem) =>
  Option.bind (@loop (Int × Mem) (Mem) (fun s4 =>
    if w32 s4.1 < w32 (D 12 8) then
      Option.bind (@loop (Int × Mem) (Mem) (fun s5 =>
        if w32 s5.1 < w32 (shl32 1 s4.1) then
          if 0 ≤ s5.1 ∧ s5.1 < 256 then
            Option.bind (f3_shiftOf s5.2 s4.1) fun (a5 : Int) =>
            if 0 ≤ (or32 s5.1 (shl32 1 s4.1)) ∧ (or32 s5.1 (shl32 1 s4.1)) < 256 then
              some (Sum.inl ((s5.1 + 1), (mset s5.2 55 (or32 s5.1 (shl32 1 s4.1)).toNat ((s5.2 55 s5.1.toNat) + (shl64 1 a5)))))
            else none
          else none
        else
          some (Sum.inr s5.2)
      ) FU (0, s4.2)) fun (b5 : Mem) =>
      some (Sum.inl ((s4.1 + 1), b5))
    else
      some (Sum.inr s4.2)
  ) FU (0, D1)) fun (b4 : Mem) =>
  some b4
set_option maxHeartbeats 4000000 in
theorem ok3_addUp {l : Launch} {X : XT} {n : Nat} {D : Mem} {Q : Option Value → Nat → Rho → Mem → Prop} (hn : 117 ≤ n)  (h : wpo (f3_addUp D) (fun a => Q none n rt a)) : MOK l y3_addUp c3_addUp 5 (none) { frames := 1, cells := 0, slots := 0, locals := 25 } 0 0 X [vR X 49] n rt D Q := by
  refine MOK_of 3 (by decide +kernel) rfl (lv := [(0, vR X 49)]) (Nat.le_of_ble_eq_true rfl) rfl (fun K hK F hnm => ?_)
  subst hK
  unfold f3_addUp at h
  refine r_aload_nR F 0 rfl rfl d3_addUp_0 ?_
  refine r_getR F (z := 12) lf3_52 (vc49 hn) z49_0 d3_addUp_1 ?_
  refine r_getI F lf3_77 (vc12 hn) d3_addUp_4 ?_
  refine r_istore_n F (lv' := [(1, vI (D 12 8)), (0, vR X 49)]) rfl (Nat.le_of_ble_eq_true rfl) rfl d3_addUp_7 ?_
  refine r_aload_nR F 1 rfl rfl d3_addUp_8 ?_
  refine r_getR F (z := 12) lf3_52 (vc49 hn) z49_0 d3_addUp_9 ?_
  refine r_getR F (z := 13) lf3_80 (vc12 hn) z12_10 d3_addUp_12 ?_
  refine r_iload_n F 0 rfl rfl d3_addUp_15 ?_
  refine r_aload_nR F 1 rfl rfl d3_addUp_16 ?_
  refine r_getR F (z := 51) lf3_30 (vc49 hn) z49_6 d3_addUp_17 ?_
  replace h := wpo_bind h
  refine r_callS0 F lm3_83 mf9_sumBySets rfl (fr := 0) (lo := 0) (As := [vR X 13, vI (D 12 8), vR X 51]) (rest := []) ⟨Nat.le_of_ble_eq_true rfl, Nat.le_of_ble_eq_true rfl⟩ rfl (Nat.le_of_ble_eq_true rfl) ⟨Nat.zero_le _, Nat.zero_le _⟩ d3_addUp_20 ?_
  refine ok9_sumBySets hn (vc13 hn) (vc51 hn) (kVm h (fun a1 h => ?_))
  refine r_iconst F (z := 0) d3_addUp_23 ?_
  refine r_istore_n F (lv' := [(2, vI 0), (1, vI (D 12 8)), (0, vR X 49)]) rfl (Nat.le_of_ble_eq_true rfl) rfl d3_addUp_24 ?_
  refine r_weak [2, 1, 0] rfl ?_
  refine at_loopj (A := fun (s1 : Int × Mem) => At K X (ZQ K X Q) 0 0 n rt 5 25 [(0, vR X 49), (1, vI (D 12 8)), (2, vI s1.1)] [] s1.2) (B := fun (b1 : Mem) => At K X (ZQ K X Q) 0 0 n rt 5 61 [(0, vR X 49), (1, vI (D 12 8))] [] b1) h (fun b1 h => ?_) (fun s1 h => ?_)
  · refine r_aload_nR F 0 rfl rfl d3_addUp_61 ?_
    refine r_getR F (z := 50) lf3_26 (vc49 hn) z49_5 d3_addUp_62 ?_
    refine r_iload_n F 1 rfl rfl d3_addUp_65 ?_
    refine r_aload_nR F 0 rfl rfl d3_addUp_66 ?_
    refine r_getR F (z := 52) lf3_33 (vc49 hn) z49_7 d3_addUp_67 ?_
    replace h := wpo_bind h
    refine r_callS0 F lm3_83 mf9_sumBySets rfl (fr := 0) (lo := 0) (As := [vR X 50, vI (D 12 8), vR X 52]) (rest := []) ⟨Nat.le_of_ble_eq_true rfl, Nat.le_of_ble_eq_true rfl⟩ rfl (Nat.le_of_ble_eq_true rfl) ⟨Nat.zero_le _, Nat.zero_le _⟩ d3_addUp_70 ?_
    refine ok9_sumBySets hn (vc50 hn) (vc52 hn) (kVm h (fun a2 h => ?_))
    refine r_iconst F (z := 0) d3_addUp_73 ?_
    refine r_istore_n F (lv' := [(2, vI 0), (0, vR X 49), (1, vI (D 12 8))]) rfl (Nat.le_of_ble_eq_true rfl) rfl d3_addUp_74 ?_
    refine r_weak [1, 2, 0] rfl ?_
    refine at_loopj (A := fun (s2 : Int × Mem) => At K X (ZQ K X Q) 0 0 n rt 5 75 [(0, vR X 49), (1, vI (D 12 8)), (2, vI s2.1)] [] s2.2) (B := fun (b2 : Mem) => At K X (ZQ K X Q) 0 0 n rt 5 121 [(0, vR X 49), (1, vI (D 12 8))] [] b2) h (fun b2 h => ?_) (fun s2 h => ?_)
    · refine r_aload_nR F 0 rfl rfl d3_addUp_121 ?_
      refine r_getR F (z := 50) lf3_26 (vc49 hn) z49_5 d3_addUp_122 ?_
      refine r_iload_n F 1 rfl rfl d3_addUp_125 ?_
      refine r_aload_nR F 0 rfl rfl d3_addUp_126 ?_
      refine r_getR F (z := 53) lf3_36 (vc49 hn) z49_8 d3_addUp_127 ?_
      replace h := wpo_bind h
      refine r_callS0 F lm3_83 mf9_sumBySets rfl (fr := 0) (lo := 0) (As := [vR X 50, vI (D 12 8), vR X 53]) (rest := []) ⟨Nat.le_of_ble_eq_true rfl, Nat.le_of_ble_eq_true rfl⟩ rfl (Nat.le_of_ble_eq_true rfl) ⟨Nat.zero_le _, Nat.zero_le _⟩ d3_addUp_130 ?_
      refine ok9_sumBySets hn (vc50 hn) (vc53 hn) (kVm h (fun a3 h => ?_))
      refine r_iconst F (z := 0) d3_addUp_133 ?_
      refine r_istore_n F (lv' := [(2, vI 0), (0, vR X 49), (1, vI (D 12 8))]) rfl (Nat.le_of_ble_eq_true rfl) rfl d3_addUp_134 ?_
      refine r_weak [1, 2, 0] rfl ?_
      refine at_loopj (A := fun (s3 : Int × Mem) => At K X (ZQ K X Q) 0 0 n rt 5 135 [(0, vR X 49), (1, vI (D 12 8)), (2, vI s3.1)] [] s3.2) (B := fun (b3 : Mem) => At K X (ZQ K X Q) 0 0 n rt 5 195 [(0, vR X 49), (1, vI (D 12 8))] [] b3) h (fun b3 h => ?_) (fun s3 h => ?_)
      · refine r_aload_nR F 0 rfl rfl d3_addUp_195 ?_
        refine r_getR F (z := 50) lf3_26 (vc49 hn) z49_5 d3_addUp_196 ?_
        refine r_iload_n F 1 rfl rfl d3_addUp_199 ?_
        refine r_aload_nR F 0 rfl rfl d3_addUp_200 ?_
        refine r_getR F (z := 54) lf3_39 (vc49 hn) z49_9 d3_addUp_201 ?_
        replace h := wpo_bind h
        refine r_callS0 F lm3_83 mf9_sumBySets rfl (fr := 0) (lo := 0) (As := [vR X 50, vI (D 12 8), vR X 54]) (rest := []) ⟨Nat.le_of_ble_eq_true rfl, Nat.le_of_ble_eq_true rfl⟩ rfl (Nat.le_of_ble_eq_true rfl) ⟨Nat.zero_le _, Nat.zero_le _⟩ d3_addUp_204 ?_
        refine ok9_sumBySets hn (vc50 hn) (vc54 hn) (kVm h (fun a4 h => ?_))
        refine r_aload_nR F 0 rfl rfl d3_addUp_207 ?_
        refine r_getR F (z := 55) lf3_42 (vc49 hn) z49_10 d3_addUp_208 ?_
        refine r_iconst F (z := 0) d3_addUp_211 ?_
        refine r_lconst F (x := 0) (by decide) d3_addUp_212 ?_
        refine r_lastC F (j := 0) (vc55 hn) (by decide) rfl d3_addUp_213 ?_
        refine r_iconst F (z := 0) d3_addUp_214 ?_
        refine r_istore_n F (lv' := [(2, vI 0), (0, vR X 49), (1, vI (D 12 8))]) rfl (Nat.le_of_ble_eq_true rfl) rfl d3_addUp_215 ?_
        refine at_name (B := fun (D1 : Mem) => At K X (ZQ K X Q) 0 0 n rt 5 216 [(2, vI 0), (0, vR X 49), (1, vI (D 12 8))] [] D1) h (fun D1 h => ?_)
        refine r_weak [1, 2, 0] rfl ?_
        refine at_loopj (A := fun (s4 : Int × Mem) => At K X (ZQ K X Q) 0 0 n rt 5 216 [(0, vR X 49), (1, vI (D 12 8)), (2, vI s4.1)] [] s4.2) (B := fun (b4 : Mem) => At K X (ZQ K X Q) 0 0 n rt 5 269 [] [] b4) h (fun b4 h => ?_) (fun s4 h => ?_)
        · replace h := wpo_some h
          exact r_vret F h d3_addUp_269
        · refine r_iload_n F 2 rfl rfl d3_addUp_216 ?_
          refine r_iload_n F 1 rfl rfl d3_addUp_217 ?_
          refine r_icmp_ge F (tgt := 269) d3_addUp_218 (by decide) (fun hb => ?_) (fun hb => ?_)
          · replace h := wpo_neg h hb
            refine r_weak [] rfl ?_
            replace h := wpo_inr h
            exact h
          · replace h := wpo_pos h hb
            refine r_iconst F (z := 1) d3_addUp_221 ?_
            refine r_iload_n F 2 rfl rfl d3_addUp_222 ?_
            refine r_ishl F d3_addUp_223 ?_
            refine r_istore_n F (lv' := [(3, vI (shl32 1 s4.1)), (0, vR X 49), (1, vI (D 12 8)), (2, vI s4.1)]) rfl (Nat.le_of_ble_eq_true rfl) rfl d3_addUp_224 ?_
            refine r_iconst F (z := 0) d3_addUp_225 ?_
            refine r_istore F (lv' := [(4, vI 0), (3, vI (shl32 1 s4.1)), (0, vR X 49), (1, vI (D 12 8)), (2, vI s4.1)]) (Nat.le_of_ble_eq_true rfl) rfl d3_addUp_226 ?_
            refine r_weak [2, 3, 4, 1, 0] rfl ?_
            refine at_loopj (A := fun (s5 : Int × Mem) => At K X (ZQ K X Q) 0 0 n rt 5 228 [(0, vR X 49), (1, vI (D 12 8)), (2, vI s4.1), (3, vI (shl32 1 s4.1)), (4, vI s5.1)] [] s5.2) (B := fun (b5 : Mem) => At K X (ZQ K X Q) 0 0 n rt 5 263 [(0, vR X 49), (1, vI (D 12 8)), (2, vI s4.1)] [] b5) h (fun b5 h => ?_) (fun s5 h => ?_)
            · refine r_iinc F 2 (lv' := [(2, vI (s4.1 + 1)), (0, vR X 49), (1, vI (D 12 8))]) rfl (Nat.le_of_ble_eq_true rfl) rfl d3_addUp_263 ?_
              refine r_goto F (tgt := 216) (by decide) d3_addUp_266 ?_
              refine r_weak [1, 2, 0] rfl ?_
              replace h := wpo_inl h
              exact h
            · refine r_iload F 4 rfl d3_addUp_228 ?_
              refine r_iload_n F 3 rfl rfl d3_addUp_230 ?_
              refine r_icmp_ge F (tgt := 263) d3_addUp_231 (by decide) (fun hb => ?_) (fun hb => ?_)
              · replace h := wpo_neg h hb
                refine r_weak [0, 1, 2] rfl ?_
                replace h := wpo_inr h
                exact h
              · replace h := wpo_pos h hb
                refine r_aload_nR F 0 rfl rfl d3_addUp_234 ?_
                refine r_getR F (z := 55) lf3_42 (vc49 hn) z49_10 d3_addUp_235 ?_
                refine r_iload F 4 rfl d3_addUp_238 ?_
                refine r_iload_n F 3 rfl rfl d3_addUp_240 ?_
                refine r_ior F d3_addUp_241 ?_
                refine r_aload_nR F 0 rfl rfl d3_addUp_242 ?_
                refine r_getR F (z := 55) lf3_42 (vc49 hn) z49_10 d3_addUp_243 ?_
                refine r_iload F 4 rfl d3_addUp_246 ?_
                obtain ⟨hx4, h⟩ := wpo_chk h
                refine r_lald F (vc55 hn) hx4 d3_addUp_248 ?_
                refine r_lconst F (x := 1) (by decide) d3_addUp_249 ?_
                refine r_iload_n F 2 rfl rfl d3_addUp_250 ?_
                replace h := wpo_bind h
                refine r_callS0 F lm3_68 mf3_shiftOf rfl (fr := 0) (lo := 0) (As := [vI s4.1]) (rest := [vL 1, vL (s5.2 55 s5.1.toNat), vI (or32 s5.1 (shl32 1 s4.1)), vR X 55]) ⟨Nat.le_of_ble_eq_true rfl, Nat.le_of_ble_eq_true rfl⟩ rfl (Nat.le_of_ble_eq_true rfl) ⟨Nat.zero_le _, Nat.zero_le _⟩ d3_addUp_251 ?_
                refine ok3_shiftOf hn  (kI h (fun a5 h => ?_))
                refine r_lshl F d3_addUp_254 ?_
                refine r_ladd F d3_addUp_255 ?_
                obtain ⟨hx5, h⟩ := wpo_chk h
                refine r_last F (vc55 hn) hx5 d3_addUp_256 ?_
                refine r_iinc F 4 (lv' := [(4, vI (s5.1 + 1)), (0, vR X 49), (1, vI (D 12 8)), (2, vI s4.1), (3, vI (shl32 1 s4.1))]) rfl (Nat.le_of_ble_eq_true rfl) rfl d3_addUp_257 ?_
                refine r_goto F (tgt := 228) (by decide) d3_addUp_260 ?_
                refine r_weak [1, 2, 3, 4, 0] rfl ?_
                replace h := wpo_inl h
                exact h
      · refine r_iload_n F 2 rfl rfl d3_addUp_135 ?_
        refine r_iload_n F 1 rfl rfl d3_addUp_136 ?_
        refine r_icmp_ge F (tgt := 195) d3_addUp_137 (by decide) (fun hb => ?_) (fun hb => ?_)
        · replace h := wpo_neg h hb
          refine r_weak [0, 1] rfl ?_
          replace h := wpo_inr h
          exact h
        · replace h := wpo_pos h hb
          refine r_iconst F (z := 0) d3_addUp_140 ?_
          refine r_aload_nR F 0 rfl rfl d3_addUp_141 ?_
          refine r_getR F (z := 12) lf3_52 (vc49 hn) z49_0 d3_addUp_142 ?_
          refine r_getI F lf3_93 (vc12 hn) d3_addUp_145 ?_
          refine r_aload_nR F 0 rfl rfl d3_addUp_148 ?_
          refine r_getR F (z := 12) lf3_52 (vc49 hn) z49_0 d3_addUp_149 ?_
          refine r_getR F (z := 14) lf3_90 (vc12 hn) z12_11 d3_addUp_152 ?_
          refine r_iload_n F 2 rfl rfl d3_addUp_155 ?_
          obtain ⟨hx3, h⟩ := wpo_chk h
          refine r_iald F (vc14 hn) hx3 d3_addUp_156 ?_
          refine r_isub F d3_addUp_157 ?_
          refine r_max F lm3_96 wm1 wm0 wm2 ⟨Nat.le_of_ble_eq_true rfl, Nat.le_of_ble_eq_true rfl, Nat.le_of_ble_eq_true rfl, Nat.le_of_ble_eq_true rfl⟩ d3_addUp_158 ?_
          refine r_istore_n F (lv' := [(3, vI (max32 0 ((s3.2 12 1) - (s3.2 14 s3.1.toNat)))), (0, vR X 49), (1, vI (D 12 8)), (2, vI s3.1)]) rfl (Nat.le_of_ble_eq_true rfl) rfl d3_addUp_161 ?_
          refine at_name (B := fun (v1 : Int) => At K X (ZQ K X Q) 0 0 n rt 5 162 [(3, vI v1), (0, vR X 49), (1, vI (D 12 8)), (2, vI s3.1)] [] s3.2) h (fun v1 h => ?_)
          refine r_aload_nR F 1 rfl rfl d3_addUp_162 ?_
          refine r_getR F (z := 50) lf3_26 (vc49 hn) z49_5 d3_addUp_163 ?_
          refine r_iload_n F 3 rfl rfl d3_addUp_166 ?_
          refine r_aload_nR F 1 rfl rfl d3_addUp_167 ?_
          refine r_getR F (z := 12) lf3_52 (vc49 hn) z49_0 d3_addUp_168 ?_
          refine r_getR F (z := 13) lf3_80 (vc12 hn) z12_10 d3_addUp_171 ?_
          refine r_iload_n F 3 rfl rfl d3_addUp_174 ?_
          refine r_iald F (vc13 hn) hx3 d3_addUp_175 ?_
          refine r_aload_nR F 1 rfl rfl d3_addUp_176 ?_
          refine r_getR F (z := 12) lf3_52 (vc49 hn) z49_0 d3_addUp_177 ?_
          refine r_getR F (z := 15) lf3_87 (vc12 hn) z12_12 d3_addUp_180 ?_
          refine r_iload_n F 3 rfl rfl d3_addUp_183 ?_
          refine r_iald F (vc15 hn) hx3 d3_addUp_184 ?_
          refine r_imul F d3_addUp_185 ?_
          refine r_iload_n F 0 rfl rfl d3_addUp_186 ?_
          refine r_imul F d3_addUp_187 ?_
          refine r_iast F (vc50 hn) hx3 d3_addUp_188 ?_
          refine r_iinc F 3 (lv' := [(2, vI (s3.1 + 1)), (3, vI v1), (0, vR X 49), (1, vI (D 12 8))]) rfl (Nat.le_of_ble_eq_true rfl) rfl d3_addUp_189 ?_
          refine r_goto F (tgt := 135) (by decide) d3_addUp_192 ?_
          refine r_weak [2, 3, 0] rfl ?_
          replace h := wpo_inl h
          exact h
    · refine r_iload_n F 2 rfl rfl d3_addUp_75 ?_
      refine r_iload_n F 1 rfl rfl d3_addUp_76 ?_
      refine r_icmp_ge F (tgt := 121) d3_addUp_77 (by decide) (fun hb => ?_) (fun hb => ?_)
      · replace h := wpo_neg h hb
        refine r_weak [0, 1] rfl ?_
        replace h := wpo_inr h
        exact h
      · replace h := wpo_pos h hb
        refine r_aload_nR F 0 rfl rfl d3_addUp_80 ?_
        refine r_getR F (z := 50) lf3_26 (vc49 hn) z49_5 d3_addUp_81 ?_
        refine r_iload_n F 2 rfl rfl d3_addUp_84 ?_
        refine r_aload_nR F 0 rfl rfl d3_addUp_85 ?_
        refine r_getR F (z := 12) lf3_52 (vc49 hn) z49_0 d3_addUp_86 ?_
        refine r_getR F (z := 13) lf3_80 (vc12 hn) z12_10 d3_addUp_89 ?_
        refine r_iload_n F 2 rfl rfl d3_addUp_92 ?_
        obtain ⟨hx2, h⟩ := wpo_chk h
        refine r_iald F (vc13 hn) hx2 d3_addUp_93 ?_
        refine r_aload_nR F 0 rfl rfl d3_addUp_94 ?_
        refine r_getR F (z := 12) lf3_52 (vc49 hn) z49_0 d3_addUp_95 ?_
        refine r_getR F (z := 15) lf3_87 (vc12 hn) z12_12 d3_addUp_98 ?_
        refine r_iload_n F 2 rfl rfl d3_addUp_101 ?_
        refine r_iald F (vc15 hn) hx2 d3_addUp_102 ?_
        refine r_imul F d3_addUp_103 ?_
        refine r_aload_nR F 0 rfl rfl d3_addUp_104 ?_
        refine r_getR F (z := 12) lf3_52 (vc49 hn) z49_0 d3_addUp_105 ?_
        refine r_getR F (z := 14) lf3_90 (vc12 hn) z12_11 d3_addUp_108 ?_
        refine r_iload_n F 2 rfl rfl d3_addUp_111 ?_
        refine r_iald F (vc14 hn) hx2 d3_addUp_112 ?_
        refine r_imul F d3_addUp_113 ?_
        refine r_iast F (vc50 hn) hx2 d3_addUp_114 ?_
        refine r_iinc F 2 (lv' := [(2, vI (s2.1 + 1)), (0, vR X 49), (1, vI (D 12 8))]) rfl (Nat.le_of_ble_eq_true rfl) rfl d3_addUp_115 ?_
        refine r_goto F (tgt := 75) (by decide) d3_addUp_118 ?_
        refine r_weak [1, 2, 0] rfl ?_
        replace h := wpo_inl h
        exact h
  · refine r_iload_n F 2 rfl rfl d3_addUp_25 ?_
    refine r_iload_n F 1 rfl rfl d3_addUp_26 ?_
    refine r_icmp_ge F (tgt := 61) d3_addUp_27 (by decide) (fun hb => ?_) (fun hb => ?_)
    · replace h := wpo_neg h hb
      refine r_weak [0, 1] rfl ?_
      replace h := wpo_inr h
      exact h
    · replace h := wpo_pos h hb
      refine r_aload_nR F 0 rfl rfl d3_addUp_30 ?_
      refine r_getR F (z := 50) lf3_26 (vc49 hn) z49_5 d3_addUp_31 ?_
      refine r_iload_n F 2 rfl rfl d3_addUp_34 ?_
      refine r_aload_nR F 0 rfl rfl d3_addUp_35 ?_
      refine r_getR F (z := 12) lf3_52 (vc49 hn) z49_0 d3_addUp_36 ?_
      refine r_getR F (z := 13) lf3_80 (vc12 hn) z12_10 d3_addUp_39 ?_
      refine r_iload_n F 2 rfl rfl d3_addUp_42 ?_
      obtain ⟨hx1, h⟩ := wpo_chk h
      refine r_iald F (vc13 hn) hx1 d3_addUp_43 ?_
      refine r_aload_nR F 0 rfl rfl d3_addUp_44 ?_
      refine r_getR F (z := 12) lf3_52 (vc49 hn) z49_0 d3_addUp_45 ?_
      refine r_getR F (z := 15) lf3_87 (vc12 hn) z12_12 d3_addUp_48 ?_
      refine r_iload_n F 2 rfl rfl d3_addUp_51 ?_
      refine r_iald F (vc15 hn) hx1 d3_addUp_52 ?_
      refine r_imul F d3_addUp_53 ?_
      refine r_iast F (vc50 hn) hx1 d3_addUp_54 ?_
      refine r_iinc F 2 (lv' := [(2, vI (s1.1 + 1)), (0, vR X 49), (1, vI (D 12 8))]) rfl (Nat.le_of_ble_eq_true rfl) rfl d3_addUp_55 ?_
      refine r_goto F (tgt := 25) (by decide) d3_addUp_58 ?_
      refine r_weak [1, 2, 0] rfl ?_
      replace h := wpo_inl h
      exact h
