/-! METHODS, printed by wip/whole/gen/mkall.py -/
theorem d3_giveInNight_0 : decode c3_giveInNight 0 = .ok (.aload_n 0, 1) := by decide +kernel
theorem d3_giveInNight_1 : decode c3_giveInNight 1 = .ok (.getfield 46, 3) := by decide +kernel
theorem d3_giveInNight_4 : decode c3_giveInNight 4 = .ok (.iload_n 1, 1) := by decide +kernel
theorem d3_giveInNight_5 : decode c3_giveInNight 5 = .ok (.laload, 1) := by decide +kernel
theorem d3_giveInNight_6 : decode c3_giveInNight 6 = .ok (.lstore 4, 2) := by decide +kernel
theorem d3_giveInNight_8 : decode c3_giveInNight 8 = .ok (.aload_n 0, 1) := by decide +kernel
theorem d3_giveInNight_9 : decode c3_giveInNight 9 = .ok (.getfield 49, 3) := by decide +kernel
theorem d3_giveInNight_12 : decode c3_giveInNight 12 = .ok (.iload_n 1, 1) := by decide +kernel
theorem d3_giveInNight_13 : decode c3_giveInNight 13 = .ok (.laload, 1) := by decide +kernel
theorem d3_giveInNight_14 : decode c3_giveInNight 14 = .ok (.lstore 6, 2) := by decide +kernel
theorem d3_giveInNight_16 : decode c3_giveInNight 16 = .ok (.iload_n 1, 1) := by decide +kernel
theorem d3_giveInNight_17 : decode c3_giveInNight 17 = .ok (.istore 8, 2) := by decide +kernel
theorem d3_giveInNight_19 : decode c3_giveInNight 19 = .ok (.iload 8, 2) := by decide +kernel
theorem d3_giveInNight_21 : decode c3_giveInNight 21 = .ok (.ifCond .le 160, 3) := by decide +kernel
theorem d3_giveInNight_24 : decode c3_giveInNight 24 = .ok (.aload_n 0, 1) := by decide +kernel
theorem d3_giveInNight_25 : decode c3_giveInNight 25 = .ok (.getfield 30, 3) := by decide +kernel
theorem d3_giveInNight_28 : decode c3_giveInNight 28 = .ok (.iload 8, 2) := by decide +kernel
theorem d3_giveInNight_30 : decode c3_giveInNight 30 = .ok (.iaload, 1) := by decide +kernel
theorem d3_giveInNight_31 : decode c3_giveInNight 31 = .ok (.iload_n 3, 1) := by decide +kernel
theorem d3_giveInNight_32 : decode c3_giveInNight 32 = .ok (.if_icmp .gt 138, 3) := by decide +kernel
theorem d3_giveInNight_35 : decode c3_giveInNight 35 = .ok (.aload_n 0, 1) := by decide +kernel
theorem d3_giveInNight_36 : decode c3_giveInNight 36 = .ok (.getfield 46, 3) := by decide +kernel
theorem d3_giveInNight_39 : decode c3_giveInNight 39 = .ok (.iload_n 1, 1) := by decide +kernel
theorem d3_giveInNight_40 : decode c3_giveInNight 40 = .ok (.iload 8, 2) := by decide +kernel
theorem d3_giveInNight_42 : decode c3_giveInNight 42 = .ok (.ixor, 1) := by decide +kernel
theorem d3_giveInNight_43 : decode c3_giveInNight 43 = .ok (.laload, 1) := by decide +kernel
theorem d3_giveInNight_44 : decode c3_giveInNight 44 = .ok (.ldc2_w 108, 3) := by decide +kernel
theorem d3_giveInNight_47 : decode c3_giveInNight 47 = .ok (.lcmp, 1) := by decide +kernel
theorem d3_giveInNight_48 : decode c3_giveInNight 48 = .ok (.ifCond .lt 6, 3) := by decide +kernel
theorem d3_giveInNight_51 : decode c3_giveInNight 51 = .ok (.goto 119, 3) := by decide +kernel
theorem d3_giveInNight_54 : decode c3_giveInNight 54 = .ok (.aload_n 0, 1) := by decide +kernel
theorem d3_giveInNight_55 : decode c3_giveInNight 55 = .ok (.getfield 33, 3) := by decide +kernel
theorem d3_giveInNight_58 : decode c3_giveInNight 58 = .ok (.iload 8, 2) := by decide +kernel
theorem d3_giveInNight_60 : decode c3_giveInNight 60 = .ok (.iaload, 1) := by decide +kernel
theorem d3_giveInNight_61 : decode c3_giveInNight 61 = .ok (.i2l, 1) := by decide +kernel
theorem d3_giveInNight_62 : decode c3_giveInNight 62 = .ok (.iload_n 2, 1) := by decide +kernel
theorem d3_giveInNight_63 : decode c3_giveInNight 63 = .ok (.i2l, 1) := by decide +kernel
theorem d3_giveInNight_64 : decode c3_giveInNight 64 = .ok (.lmul, 1) := by decide +kernel
theorem d3_giveInNight_65 : decode c3_giveInNight 65 = .ok (.aload_n 0, 1) := by decide +kernel
theorem d3_giveInNight_66 : decode c3_giveInNight 66 = .ok (.getfield 36, 3) := by decide +kernel
theorem d3_giveInNight_69 : decode c3_giveInNight 69 = .ok (.iload 8, 2) := by decide +kernel
theorem d3_giveInNight_71 : decode c3_giveInNight 71 = .ok (.iaload, 1) := by decide +kernel
theorem d3_giveInNight_72 : decode c3_giveInNight 72 = .ok (.i2l, 1) := by decide +kernel
theorem d3_giveInNight_73 : decode c3_giveInNight 73 = .ok (.lsub, 1) := by decide +kernel
theorem d3_giveInNight_74 : decode c3_giveInNight 74 = .ok (.lstore 9, 2) := by decide +kernel
theorem d3_giveInNight_76 : decode c3_giveInNight 76 = .ok (.aload_n 0, 1) := by decide +kernel
theorem d3_giveInNight_77 : decode c3_giveInNight 77 = .ok (.getfield 46, 3) := by decide +kernel
theorem d3_giveInNight_80 : decode c3_giveInNight 80 = .ok (.iload_n 1, 1) := by decide +kernel
theorem d3_giveInNight_81 : decode c3_giveInNight 81 = .ok (.iload 8, 2) := by decide +kernel
theorem d3_giveInNight_83 : decode c3_giveInNight 83 = .ok (.ixor, 1) := by decide +kernel
theorem d3_giveInNight_84 : decode c3_giveInNight 84 = .ok (.laload, 1) := by decide +kernel
theorem d3_giveInNight_85 : decode c3_giveInNight 85 = .ok (.lload 9, 2) := by decide +kernel
theorem d3_giveInNight_87 : decode c3_giveInNight 87 = .ok (.bipush 32, 2) := by decide +kernel
theorem d3_giveInNight_89 : decode c3_giveInNight 89 = .ok (.lshl, 1) := by decide +kernel
theorem d3_giveInNight_90 : decode c3_giveInNight 90 = .ok (.ladd, 1) := by decide +kernel
theorem d3_giveInNight_91 : decode c3_giveInNight 91 = .ok (.aload_n 0, 1) := by decide +kernel
theorem d3_giveInNight_92 : decode c3_giveInNight 92 = .ok (.getfield 42, 3) := by decide +kernel
theorem d3_giveInNight_95 : decode c3_giveInNight 95 = .ok (.iload 8, 2) := by decide +kernel
theorem d3_giveInNight_97 : decode c3_giveInNight 97 = .ok (.laload, 1) := by decide +kernel
theorem d3_giveInNight_98 : decode c3_giveInNight 98 = .ok (.iload_n 2, 1) := by decide +kernel
theorem d3_giveInNight_99 : decode c3_giveInNight 99 = .ok (.iconst 1, 1) := by decide +kernel
theorem d3_giveInNight_100 : decode c3_giveInNight 100 = .ok (.iadd, 1) := by decide +kernel
theorem d3_giveInNight_101 : decode c3_giveInNight 101 = .ok (.i2l, 1) := by decide +kernel
theorem d3_giveInNight_102 : decode c3_giveInNight 102 = .ok (.lmul, 1) := by decide +kernel
theorem d3_giveInNight_103 : decode c3_giveInNight 103 = .ok (.ladd, 1) := by decide +kernel
theorem d3_giveInNight_104 : decode c3_giveInNight 104 = .ok (.lstore 11, 2) := by decide +kernel
theorem d3_giveInNight_106 : decode c3_giveInNight 106 = .ok (.lload 11, 2) := by decide +kernel
theorem d3_giveInNight_108 : decode c3_giveInNight 108 = .ok (.bipush 32, 2) := by decide +kernel
theorem d3_giveInNight_110 : decode c3_giveInNight 110 = .ok (.lshr, 1) := by decide +kernel
theorem d3_giveInNight_111 : decode c3_giveInNight 111 = .ok (.lload 4, 2) := by decide +kernel
theorem d3_giveInNight_113 : decode c3_giveInNight 113 = .ok (.bipush 32, 2) := by decide +kernel
theorem d3_giveInNight_115 : decode c3_giveInNight 115 = .ok (.lshr, 1) := by decide +kernel
theorem d3_giveInNight_116 : decode c3_giveInNight 116 = .ok (.lsub, 1) := by decide +kernel
theorem d3_giveInNight_117 : decode c3_giveInNight 117 = .ok (.lstore 13, 2) := by decide +kernel
theorem d3_giveInNight_119 : decode c3_giveInNight 119 = .ok (.lload 13, 2) := by decide +kernel
theorem d3_giveInNight_121 : decode c3_giveInNight 121 = .ok (.lconst 0, 1) := by decide +kernel
theorem d3_giveInNight_122 : decode c3_giveInNight 122 = .ok (.lcmp, 1) := by decide +kernel
theorem d3_giveInNight_123 : decode c3_giveInNight 123 = .ok (.ifCond .ne 20, 3) := by decide +kernel
theorem d3_giveInNight_126 : decode c3_giveInNight 126 = .ok (.lload 6, 2) := by decide +kernel
theorem d3_giveInNight_128 : decode c3_giveInNight 128 = .ok (.aload_n 0, 1) := by decide +kernel
theorem d3_giveInNight_129 : decode c3_giveInNight 129 = .ok (.getfield 49, 3) := by decide +kernel
theorem d3_giveInNight_132 : decode c3_giveInNight 132 = .ok (.iload_n 1, 1) := by decide +kernel
theorem d3_giveInNight_133 : decode c3_giveInNight 133 = .ok (.iload 8, 2) := by decide +kernel
theorem d3_giveInNight_135 : decode c3_giveInNight 135 = .ok (.ixor, 1) := by decide +kernel
theorem d3_giveInNight_136 : decode c3_giveInNight 136 = .ok (.laload, 1) := by decide +kernel
theorem d3_giveInNight_137 : decode c3_giveInNight 137 = .ok (.ladd, 1) := by decide +kernel
theorem d3_giveInNight_138 : decode c3_giveInNight 138 = .ok (.lstore 6, 2) := by decide +kernel
theorem d3_giveInNight_140 : decode c3_giveInNight 140 = .ok (.goto 21, 3) := by decide +kernel
theorem d3_giveInNight_143 : decode c3_giveInNight 143 = .ok (.lload 13, 2) := by decide +kernel
theorem d3_giveInNight_145 : decode c3_giveInNight 145 = .ok (.lconst 0, 1) := by decide +kernel
theorem d3_giveInNight_146 : decode c3_giveInNight 146 = .ok (.lcmp, 1) := by decide +kernel
theorem d3_giveInNight_147 : decode c3_giveInNight 147 = .ok (.ifCond .ge 14, 3) := by decide +kernel
theorem d3_giveInNight_150 : decode c3_giveInNight 150 = .ok (.aload_n 0, 1) := by decide +kernel
theorem d3_giveInNight_151 : decode c3_giveInNight 151 = .ok (.getfield 49, 3) := by decide +kernel
theorem d3_giveInNight_154 : decode c3_giveInNight 154 = .ok (.iload_n 1, 1) := by decide +kernel
theorem d3_giveInNight_155 : decode c3_giveInNight 155 = .ok (.iload 8, 2) := by decide +kernel
theorem d3_giveInNight_157 : decode c3_giveInNight 157 = .ok (.ixor, 1) := by decide +kernel
theorem d3_giveInNight_158 : decode c3_giveInNight 158 = .ok (.laload, 1) := by decide +kernel
theorem d3_giveInNight_159 : decode c3_giveInNight 159 = .ok (.lstore 6, 2) := by decide +kernel
theorem d3_giveInNight_161 : decode c3_giveInNight 161 = .ok (.lload 4, 2) := by decide +kernel
theorem d3_giveInNight_163 : decode c3_giveInNight 163 = .ok (.lload 11, 2) := by decide +kernel
theorem d3_giveInNight_165 : decode c3_giveInNight 165 = .ok (.invokestatic 120, 3) := by decide +kernel
theorem d3_giveInNight_168 : decode c3_giveInNight 168 = .ok (.lstore 4, 2) := by decide +kernel
theorem d3_giveInNight_170 : decode c3_giveInNight 170 = .ok (.iload 8, 2) := by decide +kernel
theorem d3_giveInNight_172 : decode c3_giveInNight 172 = .ok (.iconst 1, 1) := by decide +kernel
theorem d3_giveInNight_173 : decode c3_giveInNight 173 = .ok (.isub, 1) := by decide +kernel
theorem d3_giveInNight_174 : decode c3_giveInNight 174 = .ok (.iload_n 1, 1) := by decide +kernel
theorem d3_giveInNight_175 : decode c3_giveInNight 175 = .ok (.iand, 1) := by decide +kernel
theorem d3_giveInNight_176 : decode c3_giveInNight 176 = .ok (.istore 8, 2) := by decide +kernel
theorem d3_giveInNight_178 : decode c3_giveInNight 178 = .ok (.goto (-159), 3) := by decide +kernel
theorem d3_giveInNight_181 : decode c3_giveInNight 181 = .ok (.aload_n 0, 1) := by decide +kernel
theorem d3_giveInNight_182 : decode c3_giveInNight 182 = .ok (.getfield 46, 3) := by decide +kernel
theorem d3_giveInNight_185 : decode c3_giveInNight 185 = .ok (.iload_n 1, 1) := by decide +kernel
theorem d3_giveInNight_186 : decode c3_giveInNight 186 = .ok (.lload 4, 2) := by decide +kernel
theorem d3_giveInNight_188 : decode c3_giveInNight 188 = .ok (.lastore, 1) := by decide +kernel
theorem d3_giveInNight_189 : decode c3_giveInNight 189 = .ok (.aload_n 0, 1) := by decide +kernel
theorem d3_giveInNight_190 : decode c3_giveInNight 190 = .ok (.getfield 49, 3) := by decide +kernel
theorem d3_giveInNight_193 : decode c3_giveInNight 193 = .ok (.iload_n 1, 1) := by decide +kernel
theorem d3_giveInNight_194 : decode c3_giveInNight 194 = .ok (.lload 6, 2) := by decide +kernel
theorem d3_giveInNight_196 : decode c3_giveInNight 196 = .ok (.lastore, 1) := by decide +kernel
theorem d3_giveInNight_197 : decode c3_giveInNight 197 = .ok (.return_, 1) := by decide +kernel
def f3_giveInNight (D : Mem) (p0 : Int) (p1 : Int) (p2 : Int) : Option (Mem) :=
  if 0 ≤ p0 ∧ p0 < 256 then
    Option.bind (@loop (Int × Int × Int) (Int × Int) (fun s1 =>
      if 0 < w32 s1.2.2 then
        if 0 ≤ s1.2.2 ∧ s1.2.2 < 256 then
          Option.bind (
            if w32 p2 < w32 (D 51 s1.2.2.toNat) then
              some (s1.1, s1.2.1)
            else
              if 0 ≤ (xor32 p0 s1.2.2) ∧ (xor32 p0 s1.2.2) < 256 then
                if w64 (D 56 (xor32 p0 s1.2.2).toNat) < w64 4294967296000000 then
                  Option.bind (some (((w32 (D 52 s1.2.2.toNat)) * (w32 p1)) - (w32 (D 53 s1.2.2.toNat)))) fun (v1 : Int) =>
                  Option.bind (some (((D 56 (xor32 p0 s1.2.2).toNat) + (shl64 v1 32)) + ((D 55 s1.2.2.toNat) * (w32 (p1 + 1))))) fun (v2 : Int) =>
                  Option.bind (some ((shr64 v2 32) - (shr64 s1.1 32))) fun (v3 : Int) =>
                  if w64 v3 = w64 0 then
                    some ((min64 s1.1 v2), (s1.2.1 + (D 57 (xor32 p0 s1.2.2).toNat)))
                  else
                    if w64 v3 < w64 0 then
                      Option.bind (some (D 57 (xor32 p0 s1.2.2).toNat)) fun (v4 : Int) =>
                      some ((min64 s1.1 v2), v4)
                    else
                      some ((min64 s1.1 v2), s1.2.1)
                else
                  some (s1.1, s1.2.1)
              else none
          ) fun (j1 : Int × Int) =>
          some (Sum.inl (j1.1, j1.2, (and32 (s1.2.2 - 1) p0)))
        else none
      else
        some (Sum.inr (s1.1, s1.2.1))
    ) FU ((D 56 p0.toNat), (D 57 p0.toNat), p0)) fun (b1 : Int × Int) =>
    Option.bind (some (mset D 56 p0.toNat b1.1)) fun (D1 : Mem) =>
    some (mset D1 57 p0.toNat b1.2)
  else none
set_option maxHeartbeats 4000000 in
theorem ok3_giveInNight {l : Launch} {X : XT} {n : Nat} {D : Mem} {Q : Option Value → Nat → Rho → Mem → Prop} (hn : 117 ≤ n) {p0 : Int} {p1 : Int} {p2 : Int}  (h : wpo (f3_giveInNight D p0 p1 p2) (fun a => Q none n rt a)) : MOK l y3_giveInNight c3_giveInNight 15 (none) { frames := 1, cells := 0, slots := 0, locals := 23 } 0 0 X [vR X 49, vI p0, vI p1, vI p2] n rt D Q := by
  refine MOK_of 3 (by decide +kernel) rfl (lv := [(0, vR X 49), (1, vI p0), (2, vI p1), (3, vI p2)]) (Nat.le_of_ble_eq_true rfl) rfl (fun K hK F hnm => ?_)
  subst hK
  unfold f3_giveInNight at h
  refine r_aload_nR F 0 rfl rfl d3_giveInNight_0 ?_
  refine r_getR F (z := 56) lf3_46 (vc49 hn) z49_11 d3_giveInNight_1 ?_
  refine r_iload_n F 1 rfl rfl d3_giveInNight_4 ?_
  obtain ⟨hx1, h⟩ := wpo_chk h
  refine r_lald F (vc56 hn) hx1 d3_giveInNight_5 ?_
  refine r_lstore F (lv' := [(4, vL (D 56 p0.toNat)), (0, vR X 49), (1, vI p0), (2, vI p1), (3, vI p2)]) (Nat.le_of_ble_eq_true rfl) rfl d3_giveInNight_6 ?_
  refine r_aload_nR F 1 rfl rfl d3_giveInNight_8 ?_
  refine r_getR F (z := 57) lf3_49 (vc49 hn) z49_12 d3_giveInNight_9 ?_
  refine r_iload_n F 2 rfl rfl d3_giveInNight_12 ?_
  refine r_lald F (vc57 hn) hx1 d3_giveInNight_13 ?_
  refine r_lstore F (lv' := [(6, vL (D 57 p0.toNat)), (4, vL (D 56 p0.toNat)), (0, vR X 49), (1, vI p0), (2, vI p1), (3, vI p2)]) (Nat.le_of_ble_eq_true rfl) rfl d3_giveInNight_14 ?_
  refine r_iload_n F 3 rfl rfl d3_giveInNight_16 ?_
  refine r_istore F (lv' := [(8, vI p0), (6, vL (D 57 p0.toNat)), (4, vL (D 56 p0.toNat)), (0, vR X 49), (1, vI p0), (2, vI p1), (3, vI p2)]) (Nat.le_of_ble_eq_true rfl) rfl d3_giveInNight_17 ?_
  refine r_weak [3, 4, 5, 6, 2, 1, 0] rfl ?_
  refine at_loopj (A := fun (s1 : Int × Int × Int) => At K X (ZQ K X Q) 0 0 n rt 15 19 [(0, vR X 49), (1, vI p0), (2, vI p1), (3, vI p2), (4, vL s1.1), (6, vL s1.2.1), (8, vI s1.2.2)] [] D) (B := fun (b1 : Int × Int) => At K X (ZQ K X Q) 0 0 n rt 15 181 [(0, vR X 49), (1, vI p0), (4, vL b1.1), (6, vL b1.2)] [] D) h (fun b1 h => ?_) (fun s1 h => ?_)
  · refine r_aload_nR F 0 rfl rfl d3_giveInNight_181 ?_
    refine r_getR F (z := 56) lf3_46 (vc49 hn) z49_11 d3_giveInNight_182 ?_
    refine r_iload_n F 1 rfl rfl d3_giveInNight_185 ?_
    refine r_lload F 2 rfl d3_giveInNight_186 ?_
    refine r_last F (vc56 hn) hx1 d3_giveInNight_188 ?_
    refine r_aload_nR F 0 rfl rfl d3_giveInNight_189 ?_
    refine r_getR F (z := 57) lf3_49 (vc49 hn) z49_12 d3_giveInNight_190 ?_
    refine r_iload_n F 1 rfl rfl d3_giveInNight_193 ?_
    refine r_lload F 3 rfl d3_giveInNight_194 ?_
    refine at_name (B := fun (D1 : Mem) => At K X (ZQ K X Q) 0 0 n rt 15 196 [(0, vR X 49), (1, vI p0), (4, vL b1.1), (6, vL b1.2)] [vL b1.2, vI p0, vR X 57] D1) h (fun D1 h => ?_)
    refine r_last F (vc57 hn) hx1 d3_giveInNight_196 ?_
    replace h := wpo_some h
    exact r_vret F h d3_giveInNight_197
  · refine r_iload F 6 rfl d3_giveInNight_19 ?_
    refine r_if_le F (tgt := 181) d3_giveInNight_21 (by decide) (fun hb => ?_) (fun hb => ?_)
    · replace h := wpo_neg h hb
      refine r_weak [0, 1, 4, 5] rfl ?_
      replace h := wpo_inr h
      exact h
    · replace h := wpo_pos h hb
      refine r_aload_nR F 0 rfl rfl d3_giveInNight_24 ?_
      refine r_getR F (z := 51) lf3_30 (vc49 hn) z49_6 d3_giveInNight_25 ?_
      refine r_iload F 6 rfl d3_giveInNight_28 ?_
      obtain ⟨hx2, h⟩ := wpo_chk h
      refine r_iald F (vc51 hn) hx2 d3_giveInNight_30 ?_
      refine r_iload_n F 3 rfl rfl d3_giveInNight_31 ?_
      refine at_join (B := fun (j1 : Int × Int) => At K X (ZQ K X Q) 0 0 n rt 15 170 [(0, vR X 49), (1, vI p0), (2, vI p1), (3, vI p2), (4, vL j1.1), (6, vL j1.2), (8, vI s1.2.2)] [] D) h (fun j1 h => ?_) (fun h => ?_)
      · refine r_iload F 6 rfl d3_giveInNight_170 ?_
        refine r_iconst F (z := 1) d3_giveInNight_172 ?_
        refine r_isub F d3_giveInNight_173 ?_
        refine r_iload_n F 1 rfl rfl d3_giveInNight_174 ?_
        refine r_iand F d3_giveInNight_175 ?_
        refine r_istore F (lv' := [(8, vI (and32 (s1.2.2 - 1) p0)), (0, vR X 49), (1, vI p0), (2, vI p1), (3, vI p2), (4, vL j1.1), (6, vL j1.2)]) (Nat.le_of_ble_eq_true rfl) rfl d3_giveInNight_176 ?_
        refine r_goto F (tgt := 19) (by decide) d3_giveInNight_178 ?_
        refine r_weak [1, 2, 3, 4, 5, 6, 0] rfl ?_
        replace h := wpo_inl h
        exact h
      · refine r_icmp_gt F (tgt := 170) d3_giveInNight_32 (by decide) (fun hb => ?_) (fun hb => ?_)
        · replace h := wpo_pos h hb
          replace h := wpo_some h
          exact h
        · replace h := wpo_neg h hb
          refine r_aload_nR F 0 rfl rfl d3_giveInNight_35 ?_
          refine r_getR F (z := 56) lf3_46 (vc49 hn) z49_11 d3_giveInNight_36 ?_
          refine r_iload_n F 1 rfl rfl d3_giveInNight_39 ?_
          refine r_iload F 6 rfl d3_giveInNight_40 ?_
          refine r_ixor F d3_giveInNight_42 ?_
          obtain ⟨hx3, h⟩ := wpo_chk h
          refine r_lald F (vc56 hn) hx3 d3_giveInNight_43 ?_
          refine r_ldc2 F (z := 4294967296000000) lc3_108 d3_giveInNight_44 ?_
          refine r_lc_lt F (tgt := 54) d3_giveInNight_47 d3_giveInNight_48 (by decide) (fun hb => ?_) (fun hb => ?_)
          · replace h := wpo_pos h hb
            refine r_aload_nR F 0 rfl rfl d3_giveInNight_54 ?_
            refine r_getR F (z := 52) lf3_33 (vc49 hn) z49_7 d3_giveInNight_55 ?_
            refine r_iload F 6 rfl d3_giveInNight_58 ?_
            refine r_iald F (vc52 hn) hx2 d3_giveInNight_60 ?_
            refine r_i2l F d3_giveInNight_61 ?_
            refine r_iload_n F 2 rfl rfl d3_giveInNight_62 ?_
            refine r_i2l F d3_giveInNight_63 ?_
            refine r_lmul F d3_giveInNight_64 ?_
            refine r_aload_nR F 0 rfl rfl d3_giveInNight_65 ?_
            refine r_getR F (z := 53) lf3_36 (vc49 hn) z49_8 d3_giveInNight_66 ?_
            refine r_iload F 6 rfl d3_giveInNight_69 ?_
            refine r_iald F (vc53 hn) hx2 d3_giveInNight_71 ?_
            refine r_i2l F d3_giveInNight_72 ?_
            refine r_lsub F d3_giveInNight_73 ?_
            refine r_lstore F (lv' := [(9, vL (((w32 (D 52 s1.2.2.toNat)) * (w32 p1)) - (w32 (D 53 s1.2.2.toNat)))), (0, vR X 49), (1, vI p0), (2, vI p1), (3, vI p2), (4, vL s1.1), (6, vL s1.2.1), (8, vI s1.2.2)]) (Nat.le_of_ble_eq_true rfl) rfl d3_giveInNight_74 ?_
            refine at_name (B := fun (v1 : Int) => At K X (ZQ K X Q) 0 0 n rt 15 76 [(9, vL v1), (0, vR X 49), (1, vI p0), (2, vI p1), (3, vI p2), (4, vL s1.1), (6, vL s1.2.1), (8, vI s1.2.2)] [] D) h (fun v1 h => ?_)
            refine r_aload_nR F 1 rfl rfl d3_giveInNight_76 ?_
            refine r_getR F (z := 56) lf3_46 (vc49 hn) z49_11 d3_giveInNight_77 ?_
            refine r_iload_n F 2 rfl rfl d3_giveInNight_80 ?_
            refine r_iload F 7 rfl d3_giveInNight_81 ?_
            refine r_ixor F d3_giveInNight_83 ?_
            refine r_lald F (vc56 hn) hx3 d3_giveInNight_84 ?_
            refine r_lload F 0 rfl d3_giveInNight_85 ?_
            refine r_bipush F (z := 32) (by decide) d3_giveInNight_87 ?_
            refine r_lshl F d3_giveInNight_89 ?_
            refine r_ladd F d3_giveInNight_90 ?_
            refine r_aload_nR F 1 rfl rfl d3_giveInNight_91 ?_
            refine r_getR F (z := 55) lf3_42 (vc49 hn) z49_10 d3_giveInNight_92 ?_
            refine r_iload F 7 rfl d3_giveInNight_95 ?_
            refine r_lald F (vc55 hn) hx2 d3_giveInNight_97 ?_
            refine r_iload_n F 3 rfl rfl d3_giveInNight_98 ?_
            refine r_iconst F (z := 1) d3_giveInNight_99 ?_
            refine r_iadd F d3_giveInNight_100 ?_
            refine r_i2l F d3_giveInNight_101 ?_
            refine r_lmul F d3_giveInNight_102 ?_
            refine r_ladd F d3_giveInNight_103 ?_
            refine r_lstore F (lv' := [(11, vL (((D 56 (xor32 p0 s1.2.2).toNat) + (shl64 v1 32)) + ((D 55 s1.2.2.toNat) * (w32 (p1 + 1))))), (9, vL v1), (0, vR X 49), (1, vI p0), (2, vI p1), (3, vI p2), (4, vL s1.1), (6, vL s1.2.1), (8, vI s1.2.2)]) (Nat.le_of_ble_eq_true rfl) rfl d3_giveInNight_104 ?_
            refine at_name (B := fun (v2 : Int) => At K X (ZQ K X Q) 0 0 n rt 15 106 [(11, vL v2), (9, vL v1), (0, vR X 49), (1, vI p0), (2, vI p1), (3, vI p2), (4, vL s1.1), (6, vL s1.2.1), (8, vI s1.2.2)] [] D) h (fun v2 h => ?_)
            refine r_lload F 0 rfl d3_giveInNight_106 ?_
            refine r_bipush F (z := 32) (by decide) d3_giveInNight_108 ?_
            refine r_lshr F d3_giveInNight_110 ?_
            refine r_lload F 6 rfl d3_giveInNight_111 ?_
            refine r_bipush F (z := 32) (by decide) d3_giveInNight_113 ?_
            refine r_lshr F d3_giveInNight_115 ?_
            refine r_lsub F d3_giveInNight_116 ?_
            refine r_lstore F (lv' := [(13, vL ((shr64 v2 32) - (shr64 s1.1 32))), (11, vL v2), (9, vL v1), (0, vR X 49), (1, vI p0), (2, vI p1), (3, vI p2), (4, vL s1.1), (6, vL s1.2.1), (8, vI s1.2.2)]) (Nat.le_of_ble_eq_true rfl) rfl d3_giveInNight_117 ?_
            refine at_name (B := fun (v3 : Int) => At K X (ZQ K X Q) 0 0 n rt 15 119 [(13, vL v3), (11, vL v2), (9, vL v1), (0, vR X 49), (1, vI p0), (2, vI p1), (3, vI p2), (4, vL s1.1), (6, vL s1.2.1), (8, vI s1.2.2)] [] D) h (fun v3 h => ?_)
            refine r_lload F 0 rfl d3_giveInNight_119 ?_
            refine r_lconst F (x := 0) (by decide) d3_giveInNight_121 ?_
            refine r_lc_ne F (tgt := 143) d3_giveInNight_122 d3_giveInNight_123 (by decide) (fun hb => ?_) (fun hb => ?_)
            · replace h := wpo_neg h hb
              refine r_lload F 0 rfl d3_giveInNight_143 ?_
              refine r_lconst F (x := 0) (by decide) d3_giveInNight_145 ?_
              refine r_lc_ge F (tgt := 161) d3_giveInNight_146 d3_giveInNight_147 (by decide) (fun hb => ?_) (fun hb => ?_)
              · replace h := wpo_neg h hb
                refine r_lload F 7 rfl d3_giveInNight_161 ?_
                refine r_lload F 1 rfl d3_giveInNight_163 ?_
                refine r_minL F lm3_120 wm5 wm0 wm6 ⟨Nat.le_of_ble_eq_true rfl, Nat.le_of_ble_eq_true rfl, Nat.le_of_ble_eq_true rfl, Nat.le_of_ble_eq_true rfl⟩ d3_giveInNight_165 ?_
                refine r_lstore F (lv' := [(4, vL (min64 s1.1 v2)), (13, vL v3), (11, vL v2), (9, vL v1), (0, vR X 49), (1, vI p0), (2, vI p1), (3, vI p2), (6, vL s1.2.1), (8, vI s1.2.2)]) (Nat.le_of_ble_eq_true rfl) rfl d3_giveInNight_168 ?_
                refine r_weak [4, 5, 6, 7, 0, 8, 9] rfl ?_
                replace h := wpo_some h
                exact h
              · replace h := wpo_pos h hb
                refine r_aload_nR F 3 rfl rfl d3_giveInNight_150 ?_
                refine r_getR F (z := 57) lf3_49 (vc49 hn) z49_12 d3_giveInNight_151 ?_
                refine r_iload_n F 4 rfl rfl d3_giveInNight_154 ?_
                refine r_iload F 9 rfl d3_giveInNight_155 ?_
                refine r_ixor F d3_giveInNight_157 ?_
                refine r_lald F (vc57 hn) hx3 d3_giveInNight_158 ?_
                refine r_lstore F (lv' := [(6, vL (D 57 (xor32 p0 s1.2.2).toNat)), (13, vL v3), (11, vL v2), (9, vL v1), (0, vR X 49), (1, vI p0), (2, vI p1), (3, vI p2), (4, vL s1.1), (8, vI s1.2.2)]) (Nat.le_of_ble_eq_true rfl) rfl d3_giveInNight_159 ?_
                refine at_name (B := fun (v4 : Int) => At K X (ZQ K X Q) 0 0 n rt 15 161 [(6, vL v4), (13, vL v3), (11, vL v2), (9, vL v1), (0, vR X 49), (1, vI p0), (2, vI p1), (3, vI p2), (4, vL s1.1), (8, vI s1.2.2)] [] D) h (fun v4 h => ?_)
                refine r_lload F 8 rfl d3_giveInNight_161 ?_
                refine r_lload F 2 rfl d3_giveInNight_163 ?_
                refine r_minL F lm3_120 wm5 wm0 wm6 ⟨Nat.le_of_ble_eq_true rfl, Nat.le_of_ble_eq_true rfl, Nat.le_of_ble_eq_true rfl, Nat.le_of_ble_eq_true rfl⟩ d3_giveInNight_165 ?_
                refine r_lstore F (lv' := [(4, vL (min64 s1.1 v2)), (6, vL v4), (13, vL v3), (11, vL v2), (9, vL v1), (0, vR X 49), (1, vI p0), (2, vI p1), (3, vI p2), (8, vI s1.2.2)]) (Nat.le_of_ble_eq_true rfl) rfl d3_giveInNight_168 ?_
                refine r_weak [5, 6, 7, 8, 0, 1, 9] rfl ?_
                replace h := wpo_some h
                exact h
            · replace h := wpo_pos h hb
              refine r_lload F 8 rfl d3_giveInNight_126 ?_
              refine r_aload_nR F 3 rfl rfl d3_giveInNight_128 ?_
              refine r_getR F (z := 57) lf3_49 (vc49 hn) z49_12 d3_giveInNight_129 ?_
              refine r_iload_n F 4 rfl rfl d3_giveInNight_132 ?_
              refine r_iload F 9 rfl d3_giveInNight_133 ?_
              refine r_ixor F d3_giveInNight_135 ?_
              refine r_lald F (vc57 hn) hx3 d3_giveInNight_136 ?_
              refine r_ladd F d3_giveInNight_137 ?_
              refine r_lstore F (lv' := [(6, vL (s1.2.1 + (D 57 (xor32 p0 s1.2.2).toNat))), (13, vL v3), (11, vL v2), (9, vL v1), (0, vR X 49), (1, vI p0), (2, vI p1), (3, vI p2), (4, vL s1.1), (8, vI s1.2.2)]) (Nat.le_of_ble_eq_true rfl) rfl d3_giveInNight_138 ?_
              refine r_goto F (tgt := 161) (by decide) d3_giveInNight_140 ?_
              refine r_lload F 8 rfl d3_giveInNight_161 ?_
              refine r_lload F 2 rfl d3_giveInNight_163 ?_
              refine r_minL F lm3_120 wm5 wm0 wm6 ⟨Nat.le_of_ble_eq_true rfl, Nat.le_of_ble_eq_true rfl, Nat.le_of_ble_eq_true rfl, Nat.le_of_ble_eq_true rfl⟩ d3_giveInNight_165 ?_
              refine r_lstore F (lv' := [(4, vL (min64 s1.1 v2)), (6, vL (s1.2.1 + (D 57 (xor32 p0 s1.2.2).toNat))), (13, vL v3), (11, vL v2), (9, vL v1), (0, vR X 49), (1, vI p0), (2, vI p1), (3, vI p2), (8, vI s1.2.2)]) (Nat.le_of_ble_eq_true rfl) rfl d3_giveInNight_168 ?_
              refine r_weak [5, 6, 7, 8, 0, 1, 9] rfl ?_
              replace h := wpo_some h
              exact h
          · replace h := wpo_neg h hb
            refine r_goto F (tgt := 170) (by decide) d3_giveInNight_51 ?_
            replace h := wpo_some h
            exact h
theorem d3_takeLeast_0 : decode c3_takeLeast 0 = .ok (.ldc2_w 108, 3) := by decide +kernel
theorem d3_takeLeast_3 : decode c3_takeLeast 3 = .ok (.lstore_n 2, 1) := by decide +kernel
theorem d3_takeLeast_4 : decode c3_takeLeast 4 = .ok (.aload_n 0, 1) := by decide +kernel
theorem d3_takeLeast_5 : decode c3_takeLeast 5 = .ok (.lconst 0, 1) := by decide +kernel
theorem d3_takeLeast_6 : decode c3_takeLeast 6 = .ok (.putfield 19, 3) := by decide +kernel
theorem d3_takeLeast_9 : decode c3_takeLeast 9 = .ok (.iconst 0, 1) := by decide +kernel
theorem d3_takeLeast_10 : decode c3_takeLeast 10 = .ok (.istore 4, 2) := by decide +kernel
theorem d3_takeLeast_12 : decode c3_takeLeast 12 = .ok (.iload 4, 2) := by decide +kernel
theorem d3_takeLeast_14 : decode c3_takeLeast 14 = .ok (.iload_n 1, 1) := by decide +kernel
theorem d3_takeLeast_15 : decode c3_takeLeast 15 = .ok (.if_icmp .gt 112, 3) := by decide +kernel
theorem d3_takeLeast_18 : decode c3_takeLeast 18 = .ok (.aload_n 0, 1) := by decide +kernel
theorem d3_takeLeast_19 : decode c3_takeLeast 19 = .ok (.getfield 46, 3) := by decide +kernel
theorem d3_takeLeast_22 : decode c3_takeLeast 22 = .ok (.iload 4, 2) := by decide +kernel
theorem d3_takeLeast_24 : decode c3_takeLeast 24 = .ok (.laload, 1) := by decide +kernel
theorem d3_takeLeast_25 : decode c3_takeLeast 25 = .ok (.ldc2_w 108, 3) := by decide +kernel
theorem d3_takeLeast_28 : decode c3_takeLeast 28 = .ok (.lcmp, 1) := by decide +kernel
theorem d3_takeLeast_29 : decode c3_takeLeast 29 = .ok (.ifCond .lt 6, 3) := by decide +kernel
theorem d3_takeLeast_32 : decode c3_takeLeast 32 = .ok (.goto 89, 3) := by decide +kernel
theorem d3_takeLeast_35 : decode c3_takeLeast 35 = .ok (.aload_n 0, 1) := by decide +kernel
theorem d3_takeLeast_36 : decode c3_takeLeast 36 = .ok (.getfield 46, 3) := by decide +kernel
theorem d3_takeLeast_39 : decode c3_takeLeast 39 = .ok (.iload 4, 2) := by decide +kernel
theorem d3_takeLeast_41 : decode c3_takeLeast 41 = .ok (.laload, 1) := by decide +kernel
theorem d3_takeLeast_42 : decode c3_takeLeast 42 = .ok (.aload_n 0, 1) := by decide +kernel
theorem d3_takeLeast_43 : decode c3_takeLeast 43 = .ok (.getfield 39, 3) := by decide +kernel
theorem d3_takeLeast_46 : decode c3_takeLeast 46 = .ok (.iload_n 1, 1) := by decide +kernel
theorem d3_takeLeast_47 : decode c3_takeLeast 47 = .ok (.iload 4, 2) := by decide +kernel
theorem d3_takeLeast_49 : decode c3_takeLeast 49 = .ok (.ixor, 1) := by decide +kernel
theorem d3_takeLeast_50 : decode c3_takeLeast 50 = .ok (.iaload, 1) := by decide +kernel
theorem d3_takeLeast_51 : decode c3_takeLeast 51 = .ok (.i2l, 1) := by decide +kernel
theorem d3_takeLeast_52 : decode c3_takeLeast 52 = .ok (.bipush 32, 2) := by decide +kernel
theorem d3_takeLeast_54 : decode c3_takeLeast 54 = .ok (.lshl, 1) := by decide +kernel
theorem d3_takeLeast_55 : decode c3_takeLeast 55 = .ok (.ladd, 1) := by decide +kernel
theorem d3_takeLeast_56 : decode c3_takeLeast 56 = .ok (.lstore 5, 2) := by decide +kernel
theorem d3_takeLeast_58 : decode c3_takeLeast 58 = .ok (.lload 5, 2) := by decide +kernel
theorem d3_takeLeast_60 : decode c3_takeLeast 60 = .ok (.bipush 32, 2) := by decide +kernel
theorem d3_takeLeast_62 : decode c3_takeLeast 62 = .ok (.lshr, 1) := by decide +kernel
theorem d3_takeLeast_63 : decode c3_takeLeast 63 = .ok (.lload_n 2, 1) := by decide +kernel
theorem d3_takeLeast_64 : decode c3_takeLeast 64 = .ok (.bipush 32, 2) := by decide +kernel
theorem d3_takeLeast_66 : decode c3_takeLeast 66 = .ok (.lshr, 1) := by decide +kernel
theorem d3_takeLeast_67 : decode c3_takeLeast 67 = .ok (.lsub, 1) := by decide +kernel
theorem d3_takeLeast_68 : decode c3_takeLeast 68 = .ok (.lstore 7, 2) := by decide +kernel
theorem d3_takeLeast_70 : decode c3_takeLeast 70 = .ok (.lload 7, 2) := by decide +kernel
theorem d3_takeLeast_72 : decode c3_takeLeast 72 = .ok (.lconst 0, 1) := by decide +kernel
theorem d3_takeLeast_73 : decode c3_takeLeast 73 = .ok (.lcmp, 1) := by decide +kernel
theorem d3_takeLeast_74 : decode c3_takeLeast 74 = .ok (.ifCond .ne 22, 3) := by decide +kernel
theorem d3_takeLeast_77 : decode c3_takeLeast 77 = .ok (.aload_n 0, 1) := by decide +kernel
theorem d3_takeLeast_78 : decode c3_takeLeast 78 = .ok (.dup, 1) := by decide +kernel
theorem d3_takeLeast_79 : decode c3_takeLeast 79 = .ok (.getfield 19, 3) := by decide +kernel
theorem d3_takeLeast_82 : decode c3_takeLeast 82 = .ok (.aload_n 0, 1) := by decide +kernel
theorem d3_takeLeast_83 : decode c3_takeLeast 83 = .ok (.getfield 49, 3) := by decide +kernel
theorem d3_takeLeast_86 : decode c3_takeLeast 86 = .ok (.iload 4, 2) := by decide +kernel
theorem d3_takeLeast_88 : decode c3_takeLeast 88 = .ok (.laload, 1) := by decide +kernel
theorem d3_takeLeast_89 : decode c3_takeLeast 89 = .ok (.ladd, 1) := by decide +kernel
theorem d3_takeLeast_90 : decode c3_takeLeast 90 = .ok (.putfield 19, 3) := by decide +kernel
theorem d3_takeLeast_93 : decode c3_takeLeast 93 = .ok (.goto 21, 3) := by decide +kernel
theorem d3_takeLeast_96 : decode c3_takeLeast 96 = .ok (.lload 7, 2) := by decide +kernel
theorem d3_takeLeast_98 : decode c3_takeLeast 98 = .ok (.lconst 0, 1) := by decide +kernel
theorem d3_takeLeast_99 : decode c3_takeLeast 99 = .ok (.lcmp, 1) := by decide +kernel
theorem d3_takeLeast_100 : decode c3_takeLeast 100 = .ok (.ifCond .ge 14, 3) := by decide +kernel
theorem d3_takeLeast_103 : decode c3_takeLeast 103 = .ok (.aload_n 0, 1) := by decide +kernel
theorem d3_takeLeast_104 : decode c3_takeLeast 104 = .ok (.aload_n 0, 1) := by decide +kernel
theorem d3_takeLeast_105 : decode c3_takeLeast 105 = .ok (.getfield 49, 3) := by decide +kernel
theorem d3_takeLeast_108 : decode c3_takeLeast 108 = .ok (.iload 4, 2) := by decide +kernel
theorem d3_takeLeast_110 : decode c3_takeLeast 110 = .ok (.laload, 1) := by decide +kernel
theorem d3_takeLeast_111 : decode c3_takeLeast 111 = .ok (.putfield 19, 3) := by decide +kernel
theorem d3_takeLeast_114 : decode c3_takeLeast 114 = .ok (.lload_n 2, 1) := by decide +kernel
theorem d3_takeLeast_115 : decode c3_takeLeast 115 = .ok (.lload 5, 2) := by decide +kernel
theorem d3_takeLeast_117 : decode c3_takeLeast 117 = .ok (.invokestatic 120, 3) := by decide +kernel
theorem d3_takeLeast_120 : decode c3_takeLeast 120 = .ok (.lstore_n 2, 1) := by decide +kernel
theorem d3_takeLeast_121 : decode c3_takeLeast 121 = .ok (.iinc 4 1, 3) := by decide +kernel
theorem d3_takeLeast_124 : decode c3_takeLeast 124 = .ok (.goto (-112), 3) := by decide +kernel
theorem d3_takeLeast_127 : decode c3_takeLeast 127 = .ok (.aload_n 0, 1) := by decide +kernel
theorem d3_takeLeast_128 : decode c3_takeLeast 128 = .ok (.lload_n 2, 1) := by decide +kernel
theorem d3_takeLeast_129 : decode c3_takeLeast 129 = .ok (.bipush 32, 2) := by decide +kernel
theorem d3_takeLeast_131 : decode c3_takeLeast 131 = .ok (.lshr, 1) := by decide +kernel
theorem d3_takeLeast_132 : decode c3_takeLeast 132 = .ok (.l2i, 1) := by decide +kernel
theorem d3_takeLeast_133 : decode c3_takeLeast 133 = .ok (.putfield 15, 3) := by decide +kernel
theorem d3_takeLeast_136 : decode c3_takeLeast 136 = .ok (.aload_n 0, 1) := by decide +kernel
theorem d3_takeLeast_137 : decode c3_takeLeast 137 = .ok (.lload_n 2, 1) := by decide +kernel
theorem d3_takeLeast_138 : decode c3_takeLeast 138 = .ok (.ldc2_w 123, 3) := by decide +kernel
theorem d3_takeLeast_141 : decode c3_takeLeast 141 = .ok (.land, 1) := by decide +kernel
theorem d3_takeLeast_142 : decode c3_takeLeast 142 = .ok (.putfield 23, 3) := by decide +kernel
theorem d3_takeLeast_145 : decode c3_takeLeast 145 = .ok (.return_, 1) := by decide +kernel
def f3_takeLeast (D : Mem) (p0 : Int) : Option (Mem) :=
  Option.bind (some (mset D 49 3 0)) fun (D1 : Mem) =>
  Option.bind (@loop (Int × Int × Mem) (Int × Mem) (fun s1 =>
    if w32 p0 < w32 s1.2.1 then
      some (Sum.inr (s1.1, s1.2.2))
    else
      if 0 ≤ s1.2.1 ∧ s1.2.1 < 256 then
        if w64 (s1.2.2 56 s1.2.1.toNat) < w64 4294967296000000 then
          if 0 ≤ (xor32 p0 s1.2.1) ∧ (xor32 p0 s1.2.1) < 256 then
            Option.bind (some ((s1.2.2 56 s1.2.1.toNat) + (shl64 (w32 (s1.2.2 54 (xor32 p0 s1.2.1).toNat)) 32))) fun (v1 : Int) =>
            Option.bind (some ((shr64 v1 32) - (shr64 s1.1 32))) fun (v2 : Int) =>
            if w64 v2 = w64 0 then
              some (Sum.inl ((min64 s1.1 v1), (s1.2.1 + 1), (mset s1.2.2 49 3 ((s1.2.2 49 3) + (s1.2.2 57 s1.2.1.toNat)))))
            else
              if w64 v2 < w64 0 then
                some (Sum.inl ((min64 s1.1 v1), (s1.2.1 + 1), (mset s1.2.2 49 3 (s1.2.2 57 s1.2.1.toNat))))
              else
                some (Sum.inl ((min64 s1.1 v1), (s1.2.1 + 1), s1.2.2))
          else none
        else
          some (Sum.inl (s1.1, (s1.2.1 + 1), s1.2.2))
      else none
  ) FU (4294967296000000, 0, D1)) fun (b1 : Int × Mem) =>
  Option.bind (some (mset b1.2 49 2 (shr64 b1.1 32))) fun (D2 : Mem) =>
  some (mset D2 49 4 (and64 b1.1 4294967295))
set_option maxHeartbeats 4000000 in
theorem ok3_takeLeast {l : Launch} {X : XT} {n : Nat} {D : Mem} {Q : Option Value → Nat → Rho → Mem → Prop} (hn : 117 ≤ n) {p0 : Int}  (h : wpo (f3_takeLeast D p0) (fun a => Q none n rt a)) : MOK l y3_takeLeast c3_takeLeast 9 (none) { frames := 1, cells := 0, slots := 0, locals := 23 } 0 0 X [vR X 49, vI p0] n rt D Q := by
  refine MOK_of 3 (by decide +kernel) rfl (lv := [(0, vR X 49), (1, vI p0)]) (Nat.le_of_ble_eq_true rfl) rfl (fun K hK F hnm => ?_)
  subst hK
  unfold f3_takeLeast at h
  refine r_ldc2 F (z := 4294967296000000) lc3_108 d3_takeLeast_0 ?_
  refine r_lstore_n F (lv' := [(2, vL 4294967296000000), (0, vR X 49), (1, vI p0)]) rfl (Nat.le_of_ble_eq_true rfl) rfl d3_takeLeast_3 ?_
  refine r_aload_nR F 1 rfl rfl d3_takeLeast_4 ?_
  refine r_lconst F (x := 0) (by decide) d3_takeLeast_5 ?_
  refine r_putL F lf3_19 rfl rfl (vc49 hn) d3_takeLeast_6 ?_
  refine r_iconst F (z := 0) d3_takeLeast_9 ?_
  refine r_istore F (lv' := [(4, vI 0), (2, vL 4294967296000000), (0, vR X 49), (1, vI p0)]) (Nat.le_of_ble_eq_true rfl) rfl d3_takeLeast_10 ?_
  refine at_name (B := fun (D1 : Mem) => At K X (ZQ K X Q) 0 0 n rt 9 12 [(4, vI 0), (2, vL 4294967296000000), (0, vR X 49), (1, vI p0)] [] D1) h (fun D1 h => ?_)
  refine r_weak [2, 3, 1, 0] rfl ?_
  refine at_loopj (A := fun (s1 : Int × Int × Mem) => At K X (ZQ K X Q) 0 0 n rt 9 12 [(0, vR X 49), (1, vI p0), (2, vL s1.1), (4, vI s1.2.1)] [] s1.2.2) (B := fun (b1 : Int × Mem) => At K X (ZQ K X Q) 0 0 n rt 9 127 [(0, vR X 49), (2, vL b1.1)] [] b1.2) h (fun b1 h => ?_) (fun s1 h => ?_)
  · refine r_aload_nR F 0 rfl rfl d3_takeLeast_127 ?_
    refine r_lload_n F 1 rfl rfl d3_takeLeast_128 ?_
    refine r_bipush F (z := 32) (by decide) d3_takeLeast_129 ?_
    refine r_lshr F d3_takeLeast_131 ?_
    refine r_l2i F d3_takeLeast_132 ?_
    refine r_putI F lf3_15 rfl rfl (vc49 hn) d3_takeLeast_133 ?_
    refine r_aload_nR F 0 rfl rfl d3_takeLeast_136 ?_
    refine r_lload_n F 1 rfl rfl d3_takeLeast_137 ?_
    refine r_ldc2 F (z := 4294967295) lc3_123 d3_takeLeast_138 ?_
    refine r_land F d3_takeLeast_141 ?_
    refine at_name (B := fun (D2 : Mem) => At K X (ZQ K X Q) 0 0 n rt 9 142 [(0, vR X 49), (2, vL b1.1)] [vL (and64 b1.1 4294967295), vR X 49] D2) h (fun D2 h => ?_)
    refine r_putL F lf3_23 rfl rfl (vc49 hn) d3_takeLeast_142 ?_
    replace h := wpo_some h
    exact r_vret F h d3_takeLeast_145
  · refine r_iload F 3 rfl d3_takeLeast_12 ?_
    refine r_iload_n F 1 rfl rfl d3_takeLeast_14 ?_
    refine r_icmp_gt F (tgt := 127) d3_takeLeast_15 (by decide) (fun hb => ?_) (fun hb => ?_)
    · replace h := wpo_pos h hb
      refine r_weak [0, 2] rfl ?_
      replace h := wpo_inr h
      exact h
    · replace h := wpo_neg h hb
      refine r_aload_nR F 0 rfl rfl d3_takeLeast_18 ?_
      refine r_getR F (z := 56) lf3_46 (vc49 hn) z49_11 d3_takeLeast_19 ?_
      refine r_iload F 3 rfl d3_takeLeast_22 ?_
      obtain ⟨hx1, h⟩ := wpo_chk h
      refine r_lald F (vc56 hn) hx1 d3_takeLeast_24 ?_
      refine r_ldc2 F (z := 4294967296000000) lc3_108 d3_takeLeast_25 ?_
      refine r_lc_lt F (tgt := 35) d3_takeLeast_28 d3_takeLeast_29 (by decide) (fun hb => ?_) (fun hb => ?_)
      · replace h := wpo_pos h hb
        refine r_aload_nR F 0 rfl rfl d3_takeLeast_35 ?_
        refine r_getR F (z := 56) lf3_46 (vc49 hn) z49_11 d3_takeLeast_36 ?_
        refine r_iload F 3 rfl d3_takeLeast_39 ?_
        refine r_lald F (vc56 hn) hx1 d3_takeLeast_41 ?_
        refine r_aload_nR F 0 rfl rfl d3_takeLeast_42 ?_
        refine r_getR F (z := 54) lf3_39 (vc49 hn) z49_9 d3_takeLeast_43 ?_
        refine r_iload_n F 1 rfl rfl d3_takeLeast_46 ?_
        refine r_iload F 3 rfl d3_takeLeast_47 ?_
        refine r_ixor F d3_takeLeast_49 ?_
        obtain ⟨hx2, h⟩ := wpo_chk h
        refine r_iald F (vc54 hn) hx2 d3_takeLeast_50 ?_
        refine r_i2l F d3_takeLeast_51 ?_
        refine r_bipush F (z := 32) (by decide) d3_takeLeast_52 ?_
        refine r_lshl F d3_takeLeast_54 ?_
        refine r_ladd F d3_takeLeast_55 ?_
        refine r_lstore F (lv' := [(5, vL ((s1.2.2 56 s1.2.1.toNat) + (shl64 (w32 (s1.2.2 54 (xor32 p0 s1.2.1).toNat)) 32))), (0, vR X 49), (1, vI p0), (2, vL s1.1), (4, vI s1.2.1)]) (Nat.le_of_ble_eq_true rfl) rfl d3_takeLeast_56 ?_
        refine at_name (B := fun (v1 : Int) => At K X (ZQ K X Q) 0 0 n rt 9 58 [(5, vL v1), (0, vR X 49), (1, vI p0), (2, vL s1.1), (4, vI s1.2.1)] [] s1.2.2) h (fun v1 h => ?_)
        refine r_lload F 0 rfl d3_takeLeast_58 ?_
        refine r_bipush F (z := 32) (by decide) d3_takeLeast_60 ?_
        refine r_lshr F d3_takeLeast_62 ?_
        refine r_lload_n F 3 rfl rfl d3_takeLeast_63 ?_
        refine r_bipush F (z := 32) (by decide) d3_takeLeast_64 ?_
        refine r_lshr F d3_takeLeast_66 ?_
        refine r_lsub F d3_takeLeast_67 ?_
        refine r_lstore F (lv' := [(7, vL ((shr64 v1 32) - (shr64 s1.1 32))), (5, vL v1), (0, vR X 49), (1, vI p0), (2, vL s1.1), (4, vI s1.2.1)]) (Nat.le_of_ble_eq_true rfl) rfl d3_takeLeast_68 ?_
        refine at_name (B := fun (v2 : Int) => At K X (ZQ K X Q) 0 0 n rt 9 70 [(7, vL v2), (5, vL v1), (0, vR X 49), (1, vI p0), (2, vL s1.1), (4, vI s1.2.1)] [] s1.2.2) h (fun v2 h => ?_)
        refine r_lload F 0 rfl d3_takeLeast_70 ?_
        refine r_lconst F (x := 0) (by decide) d3_takeLeast_72 ?_
        refine r_lc_ne F (tgt := 96) d3_takeLeast_73 d3_takeLeast_74 (by decide) (fun hb => ?_) (fun hb => ?_)
        · replace h := wpo_neg h hb
          refine r_lload F 0 rfl d3_takeLeast_96 ?_
          refine r_lconst F (x := 0) (by decide) d3_takeLeast_98 ?_
          refine r_lc_ge F (tgt := 114) d3_takeLeast_99 d3_takeLeast_100 (by decide) (fun hb => ?_) (fun hb => ?_)
          · replace h := wpo_neg h hb
            refine r_lload_n F 4 rfl rfl d3_takeLeast_114 ?_
            refine r_lload F 1 rfl d3_takeLeast_115 ?_
            refine r_minL F lm3_120 wm5 wm0 wm6 ⟨Nat.le_of_ble_eq_true rfl, Nat.le_of_ble_eq_true rfl, Nat.le_of_ble_eq_true rfl, Nat.le_of_ble_eq_true rfl⟩ d3_takeLeast_117 ?_
            refine r_lstore_n F (lv' := [(2, vL (min64 s1.1 v1)), (7, vL v2), (5, vL v1), (0, vR X 49), (1, vI p0), (4, vI s1.2.1)]) rfl (Nat.le_of_ble_eq_true rfl) rfl d3_takeLeast_120 ?_
            refine r_iinc F 5 (lv' := [(4, vI (s1.2.1 + 1)), (2, vL (min64 s1.1 v1)), (7, vL v2), (5, vL v1), (0, vR X 49), (1, vI p0)]) rfl (Nat.le_of_ble_eq_true rfl) rfl d3_takeLeast_121 ?_
            refine r_goto F (tgt := 12) (by decide) d3_takeLeast_124 ?_
            refine r_weak [4, 5, 1, 0] rfl ?_
            replace h := wpo_inl h
            exact h
          · replace h := wpo_pos h hb
            refine r_aload_nR F 2 rfl rfl d3_takeLeast_103 ?_
            refine r_aload_nR F 2 rfl rfl d3_takeLeast_104 ?_
            refine r_getR F (z := 57) lf3_49 (vc49 hn) z49_12 d3_takeLeast_105 ?_
            refine r_iload F 5 rfl d3_takeLeast_108 ?_
            refine r_lald F (vc57 hn) hx1 d3_takeLeast_110 ?_
            refine r_putL F lf3_19 rfl rfl (vc49 hn) d3_takeLeast_111 ?_
            refine r_lload_n F 4 rfl rfl d3_takeLeast_114 ?_
            refine r_lload F 1 rfl d3_takeLeast_115 ?_
            refine r_minL F lm3_120 wm5 wm0 wm6 ⟨Nat.le_of_ble_eq_true rfl, Nat.le_of_ble_eq_true rfl, Nat.le_of_ble_eq_true rfl, Nat.le_of_ble_eq_true rfl⟩ d3_takeLeast_117 ?_
            refine r_lstore_n F (lv' := [(2, vL (min64 s1.1 v1)), (7, vL v2), (5, vL v1), (0, vR X 49), (1, vI p0), (4, vI s1.2.1)]) rfl (Nat.le_of_ble_eq_true rfl) rfl d3_takeLeast_120 ?_
            refine r_iinc F 5 (lv' := [(4, vI (s1.2.1 + 1)), (2, vL (min64 s1.1 v1)), (7, vL v2), (5, vL v1), (0, vR X 49), (1, vI p0)]) rfl (Nat.le_of_ble_eq_true rfl) rfl d3_takeLeast_121 ?_
            refine r_goto F (tgt := 12) (by decide) d3_takeLeast_124 ?_
            refine r_weak [4, 5, 1, 0] rfl ?_
            replace h := wpo_inl h
            exact h
        · replace h := wpo_pos h hb
          refine r_aload_nR F 2 rfl rfl d3_takeLeast_77 ?_
          refine r_dup F rfl d3_takeLeast_78 ?_
          refine r_getL F lf3_19 (vc49 hn) d3_takeLeast_79 ?_
          refine r_aload_nR F 2 rfl rfl d3_takeLeast_82 ?_
          refine r_getR F (z := 57) lf3_49 (vc49 hn) z49_12 d3_takeLeast_83 ?_
          refine r_iload F 5 rfl d3_takeLeast_86 ?_
          refine r_lald F (vc57 hn) hx1 d3_takeLeast_88 ?_
          refine r_ladd F d3_takeLeast_89 ?_
          refine r_putL F lf3_19 rfl rfl (vc49 hn) d3_takeLeast_90 ?_
          refine r_goto F (tgt := 114) (by decide) d3_takeLeast_93 ?_
          refine r_lload_n F 4 rfl rfl d3_takeLeast_114 ?_
          refine r_lload F 1 rfl d3_takeLeast_115 ?_
          refine r_minL F lm3_120 wm5 wm0 wm6 ⟨Nat.le_of_ble_eq_true rfl, Nat.le_of_ble_eq_true rfl, Nat.le_of_ble_eq_true rfl, Nat.le_of_ble_eq_true rfl⟩ d3_takeLeast_117 ?_
          refine r_lstore_n F (lv' := [(2, vL (min64 s1.1 v1)), (7, vL v2), (5, vL v1), (0, vR X 49), (1, vI p0), (4, vI s1.2.1)]) rfl (Nat.le_of_ble_eq_true rfl) rfl d3_takeLeast_120 ?_
          refine r_iinc F 5 (lv' := [(4, vI (s1.2.1 + 1)), (2, vL (min64 s1.1 v1)), (7, vL v2), (5, vL v1), (0, vR X 49), (1, vI p0)]) rfl (Nat.le_of_ble_eq_true rfl) rfl d3_takeLeast_121 ?_
          refine r_goto F (tgt := 12) (by decide) d3_takeLeast_124 ?_
          refine r_weak [4, 5, 1, 0] rfl ?_
          replace h := wpo_inl h
          exact h
      · replace h := wpo_neg h hb
        refine r_goto F (tgt := 121) (by decide) d3_takeLeast_32 ?_
        refine r_iinc F 3 (lv' := [(4, vI (s1.2.1 + 1)), (0, vR X 49), (1, vI p0), (2, vL s1.1)]) rfl (Nat.le_of_ble_eq_true rfl) rfl d3_takeLeast_121 ?_
        refine r_goto F (tgt := 12) (by decide) d3_takeLeast_124 ?_
        refine r_weak [1, 2, 3, 0] rfl ?_
        replace h := wpo_inl h
        exact h
theorem d3_search_0 : decode c3_search 0 = .ok (.iconst 1, 1) := by decide +kernel
theorem d3_search_1 : decode c3_search 1 = .ok (.aload_n 0, 1) := by decide +kernel
theorem d3_search_2 : decode c3_search 2 = .ok (.getfield 52, 3) := by decide +kernel
theorem d3_search_5 : decode c3_search 5 = .ok (.getfield 77, 3) := by decide +kernel
theorem d3_search_8 : decode c3_search 8 = .ok (.ishl, 1) := by decide +kernel
theorem d3_search_9 : decode c3_search 9 = .ok (.iconst 1, 1) := by decide +kernel
theorem d3_search_10 : decode c3_search 10 = .ok (.isub, 1) := by decide +kernel
theorem d3_search_11 : decode c3_search 11 = .ok (.istore_n 2, 1) := by decide +kernel
theorem d3_search_12 : decode c3_search 12 = .ok (.aload_n 0, 1) := by decide +kernel
theorem d3_search_13 : decode c3_search 13 = .ok (.getfield 52, 3) := by decide +kernel
theorem d3_search_16 : decode c3_search 16 = .ok (.getfield 102, 3) := by decide +kernel
theorem d3_search_19 : decode c3_search 19 = .ok (.aload_n 0, 1) := by decide +kernel
theorem d3_search_20 : decode c3_search 20 = .ok (.getfield 52, 3) := by decide +kernel
theorem d3_search_23 : decode c3_search 23 = .ok (.getfield 105, 3) := by decide +kernel
theorem d3_search_26 : decode c3_search 26 = .ok (.imul, 1) := by decide +kernel
theorem d3_search_27 : decode c3_search 27 = .ok (.istore_n 3, 1) := by decide +kernel
theorem d3_search_28 : decode c3_search 28 = .ok (.iconst 0, 1) := by decide +kernel
theorem d3_search_29 : decode c3_search 29 = .ok (.istore 4, 2) := by decide +kernel
theorem d3_search_31 : decode c3_search 31 = .ok (.iload 4, 2) := by decide +kernel
theorem d3_search_33 : decode c3_search 33 = .ok (.iload_n 2, 1) := by decide +kernel
theorem d3_search_34 : decode c3_search 34 = .ok (.if_icmp .gt 27, 3) := by decide +kernel
theorem d3_search_37 : decode c3_search 37 = .ok (.aload_n 0, 1) := by decide +kernel
theorem d3_search_38 : decode c3_search 38 = .ok (.getfield 46, 3) := by decide +kernel
theorem d3_search_41 : decode c3_search 41 = .ok (.iload 4, 2) := by decide +kernel
theorem d3_search_43 : decode c3_search 43 = .ok (.ldc2_w 108, 3) := by decide +kernel
theorem d3_search_46 : decode c3_search 46 = .ok (.lastore, 1) := by decide +kernel
theorem d3_search_47 : decode c3_search 47 = .ok (.aload_n 0, 1) := by decide +kernel
theorem d3_search_48 : decode c3_search 48 = .ok (.getfield 49, 3) := by decide +kernel
theorem d3_search_51 : decode c3_search 51 = .ok (.iload 4, 2) := by decide +kernel
theorem d3_search_53 : decode c3_search 53 = .ok (.lconst 0, 1) := by decide +kernel
theorem d3_search_54 : decode c3_search 54 = .ok (.lastore, 1) := by decide +kernel
theorem d3_search_55 : decode c3_search 55 = .ok (.iinc 4 1, 3) := by decide +kernel
theorem d3_search_58 : decode c3_search 58 = .ok (.goto (-27), 3) := by decide +kernel
theorem d3_search_61 : decode c3_search 61 = .ok (.aload_n 0, 1) := by decide +kernel
theorem d3_search_62 : decode c3_search 62 = .ok (.getfield 46, 3) := by decide +kernel
theorem d3_search_65 : decode c3_search 65 = .ok (.iconst 0, 1) := by decide +kernel
theorem d3_search_66 : decode c3_search 66 = .ok (.lconst 0, 1) := by decide +kernel
theorem d3_search_67 : decode c3_search 67 = .ok (.lastore, 1) := by decide +kernel
theorem d3_search_68 : decode c3_search 68 = .ok (.aload_n 0, 1) := by decide +kernel
theorem d3_search_69 : decode c3_search 69 = .ok (.getfield 49, 3) := by decide +kernel
theorem d3_search_72 : decode c3_search 72 = .ok (.iconst 0, 1) := by decide +kernel
theorem d3_search_73 : decode c3_search 73 = .ok (.lconst 1, 1) := by decide +kernel
theorem d3_search_74 : decode c3_search 74 = .ok (.lastore, 1) := by decide +kernel
theorem d3_search_75 : decode c3_search 75 = .ok (.iconst 0, 1) := by decide +kernel
theorem d3_search_76 : decode c3_search 76 = .ok (.istore 4, 2) := by decide +kernel
theorem d3_search_78 : decode c3_search 78 = .ok (.iload 4, 2) := by decide +kernel
theorem d3_search_80 : decode c3_search 80 = .ok (.aload_n 0, 1) := by decide +kernel
theorem d3_search_81 : decode c3_search 81 = .ok (.getfield 52, 3) := by decide +kernel
theorem d3_search_84 : decode c3_search 84 = .ok (.getfield 93, 3) := by decide +kernel
theorem d3_search_87 : decode c3_search 87 = .ok (.if_icmp .ge 111, 3) := by decide +kernel
theorem d3_search_90 : decode c3_search 90 = .ok (.iconst 0, 1) := by decide +kernel
theorem d3_search_91 : decode c3_search 91 = .ok (.istore 5, 2) := by decide +kernel
theorem d3_search_93 : decode c3_search 93 = .ok (.iconst 0, 1) := by decide +kernel
theorem d3_search_94 : decode c3_search 94 = .ok (.istore 6, 2) := by decide +kernel
theorem d3_search_96 : decode c3_search 96 = .ok (.iload 6, 2) := by decide +kernel
theorem d3_search_98 : decode c3_search 98 = .ok (.aload_n 0, 1) := by decide +kernel
theorem d3_search_99 : decode c3_search 99 = .ok (.getfield 52, 3) := by decide +kernel
theorem d3_search_102 : decode c3_search 102 = .ok (.getfield 77, 3) := by decide +kernel
theorem d3_search_105 : decode c3_search 105 = .ok (.if_icmp .ge 33, 3) := by decide +kernel
theorem d3_search_108 : decode c3_search 108 = .ok (.aload_n 0, 1) := by decide +kernel
theorem d3_search_109 : decode c3_search 109 = .ok (.getfield 52, 3) := by decide +kernel
theorem d3_search_112 : decode c3_search 112 = .ok (.getfield 90, 3) := by decide +kernel
theorem d3_search_115 : decode c3_search 115 = .ok (.iload 6, 2) := by decide +kernel
theorem d3_search_117 : decode c3_search 117 = .ok (.iaload, 1) := by decide +kernel
theorem d3_search_118 : decode c3_search 118 = .ok (.iload 4, 2) := by decide +kernel
theorem d3_search_120 : decode c3_search 120 = .ok (.if_icmp .gt 12, 3) := by decide +kernel
theorem d3_search_123 : decode c3_search 123 = .ok (.iload 5, 2) := by decide +kernel
theorem d3_search_125 : decode c3_search 125 = .ok (.iconst 1, 1) := by decide +kernel
theorem d3_search_126 : decode c3_search 126 = .ok (.iload 6, 2) := by decide +kernel
theorem d3_search_128 : decode c3_search 128 = .ok (.ishl, 1) := by decide +kernel
theorem d3_search_129 : decode c3_search 129 = .ok (.ior, 1) := by decide +kernel
theorem d3_search_130 : decode c3_search 130 = .ok (.istore 5, 2) := by decide +kernel
theorem d3_search_132 : decode c3_search 132 = .ok (.iinc 6 1, 3) := by decide +kernel
theorem d3_search_135 : decode c3_search 135 = .ok (.goto (-39), 3) := by decide +kernel
theorem d3_search_138 : decode c3_search 138 = .ok (.iload_n 3, 1) := by decide +kernel
theorem d3_search_139 : decode c3_search 139 = .ok (.iload_n 1, 1) := by decide +kernel
theorem d3_search_140 : decode c3_search 140 = .ok (.iload 4, 2) := by decide +kernel
theorem d3_search_142 : decode c3_search 142 = .ok (.iconst 1, 1) := by decide +kernel
theorem d3_search_143 : decode c3_search 143 = .ok (.iadd, 1) := by decide +kernel
theorem d3_search_144 : decode c3_search 144 = .ok (.imul, 1) := by decide +kernel
theorem d3_search_145 : decode c3_search 145 = .ok (.invokestatic 110, 3) := by decide +kernel
theorem d3_search_148 : decode c3_search 148 = .ok (.istore 6, 2) := by decide +kernel
theorem d3_search_150 : decode c3_search 150 = .ok (.iload 5, 2) := by decide +kernel
theorem d3_search_152 : decode c3_search 152 = .ok (.istore 7, 2) := by decide +kernel
theorem d3_search_154 : decode c3_search 154 = .ok (.iload 7, 2) := by decide +kernel
theorem d3_search_156 : decode c3_search 156 = .ok (.ifCond .le 36, 3) := by decide +kernel
theorem d3_search_159 : decode c3_search 159 = .ok (.aload_n 0, 1) := by decide +kernel
theorem d3_search_160 : decode c3_search 160 = .ok (.getfield 30, 3) := by decide +kernel
theorem d3_search_163 : decode c3_search 163 = .ok (.iload 7, 2) := by decide +kernel
theorem d3_search_165 : decode c3_search 165 = .ok (.iaload, 1) := by decide +kernel
theorem d3_search_166 : decode c3_search 166 = .ok (.iload 6, 2) := by decide +kernel
theorem d3_search_168 : decode c3_search 168 = .ok (.if_icmp .gt 12, 3) := by decide +kernel
theorem d3_search_171 : decode c3_search 171 = .ok (.aload_n 0, 1) := by decide +kernel
theorem d3_search_172 : decode c3_search 172 = .ok (.iload 7, 2) := by decide +kernel
theorem d3_search_174 : decode c3_search 174 = .ok (.iload 4, 2) := by decide +kernel
theorem d3_search_176 : decode c3_search 176 = .ok (.iload_n 1, 1) := by decide +kernel
theorem d3_search_177 : decode c3_search 177 = .ok (.invokevirtual 113, 3) := by decide +kernel
theorem d3_search_180 : decode c3_search 180 = .ok (.iload 7, 2) := by decide +kernel
theorem d3_search_182 : decode c3_search 182 = .ok (.iconst 1, 1) := by decide +kernel
theorem d3_search_183 : decode c3_search 183 = .ok (.isub, 1) := by decide +kernel
theorem d3_search_184 : decode c3_search 184 = .ok (.iload 5, 2) := by decide +kernel
theorem d3_search_186 : decode c3_search 186 = .ok (.iand, 1) := by decide +kernel
theorem d3_search_187 : decode c3_search 187 = .ok (.istore 7, 2) := by decide +kernel
theorem d3_search_189 : decode c3_search 189 = .ok (.goto (-35), 3) := by decide +kernel
theorem d3_search_192 : decode c3_search 192 = .ok (.iinc 4 1, 3) := by decide +kernel
theorem d3_search_195 : decode c3_search 195 = .ok (.goto (-117), 3) := by decide +kernel
theorem d3_search_198 : decode c3_search 198 = .ok (.aload_n 0, 1) := by decide +kernel
theorem d3_search_199 : decode c3_search 199 = .ok (.iload_n 2, 1) := by decide +kernel
theorem d3_search_200 : decode c3_search 200 = .ok (.invokevirtual 117, 3) := by decide +kernel
theorem d3_search_203 : decode c3_search 203 = .ok (.return_, 1) := by decide +kernel
def f3_search (D : Mem) (p0 : Int) : Option (Mem) :=
  Option.bind (some ((shl32 1 (D 12 8)) - 1)) fun (v1 : Int) =>
  Option.bind (some ((D 12 3) * (D 12 4))) fun (v2 : Int) =>
  Option.bind (@loop (Int × Mem) (Mem) (fun s1 =>
    if w32 v1 < w32 s1.1 then
      some (Sum.inr s1.2)
    else
      if 0 ≤ s1.1 ∧ s1.1 < 256 then
        Option.bind (some (mset s1.2 56 s1.1.toNat 4294967296000000)) fun (D1 : Mem) =>
        some (Sum.inl ((s1.1 + 1), (mset D1 57 s1.1.toNat 0)))
      else none
  ) FU (0, D)) fun (b1 : Mem) =>
  Option.bind (some (mset b1 56 0 0)) fun (D2 : Mem) =>
  Option.bind (some (mset D2 57 0 1)) fun (D3 : Mem) =>
  Option.bind (@loop (Int × Mem) (Mem) (fun s2 =>
    if w32 s2.1 < w32 (s2.2 12 1) then
      Option.bind (@loop (Int × Int) (Int) (fun s3 =>
        if w32 s3.2 < w32 (s2.2 12 8) then
          if 0 ≤ s3.2 ∧ s3.2 < 8 then
            Option.bind (
              if w32 s2.1 < w32 (s2.2 14 s3.2.toNat) then
                some s3.1
              else
                some (or32 s3.1 (shl32 1 s3.2))
            ) fun (j1 : Int) =>
            some (Sum.inl (j1, (s3.2 + 1)))
          else none
        else
          some (Sum.inr s3.1)
      ) FU (0, 0)) fun (b3 : Int) =>
      Option.bind (some (min32 v2 (p0 * (s2.1 + 1)))) fun (v3 : Int) =>
      Option.bind (@loop (Int × Mem) (Mem) (fun s4 =>
        if 0 < w32 s4.1 then
          if 0 ≤ s4.1 ∧ s4.1 < 256 then
            Option.bind (
              if w32 v3 < w32 (s4.2 51 s4.1.toNat) then
                some s4.2
              else
                Option.bind (f3_giveInNight s4.2 s4.1 s2.1 p0) fun (a1 : Mem) =>
                some a1
            ) fun (j2 : Mem) =>
            some (Sum.inl ((and32 (s4.1 - 1) b3), j2))
          else none
        else
          some (Sum.inr s4.2)
      ) FU (b3, s2.2)) fun (b4 : Mem) =>
      some (Sum.inl ((s2.1 + 1), b4))
    else
      some (Sum.inr s2.2)
  ) FU (0, D3)) fun (b2 : Mem) =>
  Option.bind (f3_takeLeast b2 v1) fun (a2 : Mem) =>
  some a2
set_option maxHeartbeats 4000000 in
theorem ok3_search {l : Launch} {X : XT} {n : Nat} {D : Mem} {Q : Option Value → Nat → Rho → Mem → Prop} (hn : 117 ≤ n) {p0 : Int}  (h : wpo (f3_search D p0) (fun a => Q none n rt a)) : MOK l y3_search c3_search 8 (none) { frames := 2, cells := 0, slots := 0, locals := 57 } 0 0 X [vR X 49, vI p0] n rt D Q := by
  refine MOK_of 3 (by decide +kernel) rfl (lv := [(0, vR X 49), (1, vI p0)]) (Nat.le_of_ble_eq_true rfl) rfl (fun K hK F hnm => ?_)
  subst hK
  unfold f3_search at h
  refine r_iconst F (z := 1) d3_search_0 ?_
  refine r_aload_nR F 0 rfl rfl d3_search_1 ?_
  refine r_getR F (z := 12) lf3_52 (vc49 hn) z49_0 d3_search_2 ?_
  refine r_getI F lf3_77 (vc12 hn) d3_search_5 ?_
  refine r_ishl F d3_search_8 ?_
  refine r_iconst F (z := 1) d3_search_9 ?_
  refine r_isub F d3_search_10 ?_
  refine r_istore_n F (lv' := [(2, vI ((shl32 1 (D 12 8)) - 1)), (0, vR X 49), (1, vI p0)]) rfl (Nat.le_of_ble_eq_true rfl) rfl d3_search_11 ?_
  refine at_name (B := fun (v1 : Int) => At K X (ZQ K X Q) 0 0 n rt 8 12 [(2, vI v1), (0, vR X 49), (1, vI p0)] [] D) h (fun v1 h => ?_)
  refine r_aload_nR F 1 rfl rfl d3_search_12 ?_
  refine r_getR F (z := 12) lf3_52 (vc49 hn) z49_0 d3_search_13 ?_
  refine r_getI F lf3_102 (vc12 hn) d3_search_16 ?_
  refine r_aload_nR F 1 rfl rfl d3_search_19 ?_
  refine r_getR F (z := 12) lf3_52 (vc49 hn) z49_0 d3_search_20 ?_
  refine r_getI F lf3_105 (vc12 hn) d3_search_23 ?_
  refine r_imul F d3_search_26 ?_
  refine r_istore_n F (lv' := [(3, vI ((D 12 3) * (D 12 4))), (2, vI v1), (0, vR X 49), (1, vI p0)]) rfl (Nat.le_of_ble_eq_true rfl) rfl d3_search_27 ?_
  refine at_name (B := fun (v2 : Int) => At K X (ZQ K X Q) 0 0 n rt 8 28 [(3, vI v2), (2, vI v1), (0, vR X 49), (1, vI p0)] [] D) h (fun v2 h => ?_)
  refine r_iconst F (z := 0) d3_search_28 ?_
  refine r_istore F (lv' := [(4, vI 0), (3, vI v2), (2, vI v1), (0, vR X 49), (1, vI p0)]) (Nat.le_of_ble_eq_true rfl) rfl d3_search_29 ?_
  refine r_weak [3, 4, 2, 1, 0] rfl ?_
  refine at_loopj (A := fun (s1 : Int × Mem) => At K X (ZQ K X Q) 0 0 n rt 8 31 [(0, vR X 49), (1, vI p0), (2, vI v1), (3, vI v2), (4, vI s1.1)] [] s1.2) (B := fun (b1 : Mem) => At K X (ZQ K X Q) 0 0 n rt 8 61 [(0, vR X 49), (1, vI p0), (2, vI v1), (3, vI v2)] [] b1) h (fun b1 h => ?_) (fun s1 h => ?_)
  · refine r_aload_nR F 0 rfl rfl d3_search_61 ?_
    refine r_getR F (z := 56) lf3_46 (vc49 hn) z49_11 d3_search_62 ?_
    refine r_iconst F (z := 0) d3_search_65 ?_
    refine r_lconst F (x := 0) (by decide) d3_search_66 ?_
    refine r_lastC F (j := 0) (vc56 hn) (by decide) rfl d3_search_67 ?_
    refine r_aload_nR F 0 rfl rfl d3_search_68 ?_
    refine r_getR F (z := 57) lf3_49 (vc49 hn) z49_12 d3_search_69 ?_
    refine r_iconst F (z := 0) d3_search_72 ?_
    refine r_lconst F (x := 1) (by decide) d3_search_73 ?_
    refine at_name (B := fun (D2 : Mem) => At K X (ZQ K X Q) 0 0 n rt 8 74 [(0, vR X 49), (1, vI p0), (2, vI v1), (3, vI v2)] [vL 1, vI 0, vR X 57] D2) h (fun D2 h => ?_)
    refine r_lastC F (j := 0) (vc57 hn) (by decide) rfl d3_search_74 ?_
    refine r_iconst F (z := 0) d3_search_75 ?_
    refine r_istore F (lv' := [(4, vI 0), (0, vR X 49), (1, vI p0), (2, vI v1), (3, vI v2)]) (Nat.le_of_ble_eq_true rfl) rfl d3_search_76 ?_
    refine at_name (B := fun (D3 : Mem) => At K X (ZQ K X Q) 0 0 n rt 8 78 [(4, vI 0), (0, vR X 49), (1, vI p0), (2, vI v1), (3, vI v2)] [] D3) h (fun D3 h => ?_)
    refine r_weak [1, 2, 3, 4, 0] rfl ?_
    refine at_loopj (A := fun (s2 : Int × Mem) => At K X (ZQ K X Q) 0 0 n rt 8 78 [(0, vR X 49), (1, vI p0), (2, vI v1), (3, vI v2), (4, vI s2.1)] [] s2.2) (B := fun (b2 : Mem) => At K X (ZQ K X Q) 0 0 n rt 8 198 [(0, vR X 49), (2, vI v1)] [] b2) h (fun b2 h => ?_) (fun s2 h => ?_)
    · refine r_aload_nR F 0 rfl rfl d3_search_198 ?_
      refine r_iload_n F 1 rfl rfl d3_search_199 ?_
      replace h := wpo_bind h
      refine r_callV0 F lm3_117 mf3_takeLeast (vc49 hn) rfl (fr := 1) (lo := 23) (As := [vI v1]) (rest := []) ⟨Nat.le_of_ble_eq_true rfl, Nat.le_of_ble_eq_true rfl⟩ rfl (Nat.le_of_ble_eq_true rfl) ⟨Nat.zero_le _, Nat.zero_le _⟩ d3_search_200 ?_
      refine ok3_takeLeast hn  (kVm h (fun a2 h => ?_))
      replace h := wpo_some h
      exact r_vret F h d3_search_203
    · refine r_iload F 4 rfl d3_search_78 ?_
      refine r_aload_nR F 0 rfl rfl d3_search_80 ?_
      refine r_getR F (z := 12) lf3_52 (vc49 hn) z49_0 d3_search_81 ?_
      refine r_getI F lf3_93 (vc12 hn) d3_search_84 ?_
      refine r_icmp_ge F (tgt := 198) d3_search_87 (by decide) (fun hb => ?_) (fun hb => ?_)
      · replace h := wpo_neg h hb
        refine r_weak [0, 2] rfl ?_
        replace h := wpo_inr h
        exact h
      · replace h := wpo_pos h hb
        refine r_iconst F (z := 0) d3_search_90 ?_
        refine r_istore F (lv' := [(5, vI 0), (0, vR X 49), (1, vI p0), (2, vI v1), (3, vI v2), (4, vI s2.1)]) (Nat.le_of_ble_eq_true rfl) rfl d3_search_91 ?_
        refine r_iconst F (z := 0) d3_search_93 ?_
        refine r_istore F (lv' := [(6, vI 0), (5, vI 0), (0, vR X 49), (1, vI p0), (2, vI v1), (3, vI v2), (4, vI s2.1)]) (Nat.le_of_ble_eq_true rfl) rfl d3_search_94 ?_
        refine r_weak [2, 3, 4, 5, 6, 1, 0] rfl ?_
        refine at_loopj (A := fun (s3 : Int × Int) => At K X (ZQ K X Q) 0 0 n rt 8 96 [(0, vR X 49), (1, vI p0), (2, vI v1), (3, vI v2), (4, vI s2.1), (5, vI s3.1), (6, vI s3.2)] [] s2.2) (B := fun (b3 : Int) => At K X (ZQ K X Q) 0 0 n rt 8 138 [(0, vR X 49), (1, vI p0), (2, vI v1), (3, vI v2), (4, vI s2.1), (5, vI b3)] [] s2.2) h (fun b3 h => ?_) (fun s3 h => ?_)
        · refine r_iload_n F 3 rfl rfl d3_search_138 ?_
          refine r_iload_n F 1 rfl rfl d3_search_139 ?_
          refine r_iload F 4 rfl d3_search_140 ?_
          refine r_iconst F (z := 1) d3_search_142 ?_
          refine r_iadd F d3_search_143 ?_
          refine r_imul F d3_search_144 ?_
          refine r_min F lm3_110 wm3 wm0 wm4 ⟨Nat.le_of_ble_eq_true rfl, Nat.le_of_ble_eq_true rfl, Nat.le_of_ble_eq_true rfl, Nat.le_of_ble_eq_true rfl⟩ d3_search_145 ?_
          refine r_istore F (lv' := [(6, vI (min32 v2 (p0 * (s2.1 + 1)))), (0, vR X 49), (1, vI p0), (2, vI v1), (3, vI v2), (4, vI s2.1), (5, vI b3)]) (Nat.le_of_ble_eq_true rfl) rfl d3_search_148 ?_
          refine at_name (B := fun (v3 : Int) => At K X (ZQ K X Q) 0 0 n rt 8 150 [(6, vI v3), (0, vR X 49), (1, vI p0), (2, vI v1), (3, vI v2), (4, vI s2.1), (5, vI b3)] [] s2.2) h (fun v3 h => ?_)
          refine r_iload F 6 rfl d3_search_150 ?_
          refine r_istore F (lv' := [(7, vI b3), (6, vI v3), (0, vR X 49), (1, vI p0), (2, vI v1), (3, vI v2), (4, vI s2.1), (5, vI b3)]) (Nat.le_of_ble_eq_true rfl) rfl d3_search_152 ?_
          refine r_weak [2, 3, 4, 5, 6, 7, 1, 0] rfl ?_
          refine at_loopj (A := fun (s4 : Int × Mem) => At K X (ZQ K X Q) 0 0 n rt 8 154 [(0, vR X 49), (1, vI p0), (2, vI v1), (3, vI v2), (4, vI s2.1), (5, vI b3), (6, vI v3), (7, vI s4.1)] [] s4.2) (B := fun (b4 : Mem) => At K X (ZQ K X Q) 0 0 n rt 8 192 [(0, vR X 49), (1, vI p0), (2, vI v1), (3, vI v2), (4, vI s2.1)] [] b4) h (fun b4 h => ?_) (fun s4 h => ?_)
          · refine r_iinc F 4 (lv' := [(4, vI (s2.1 + 1)), (0, vR X 49), (1, vI p0), (2, vI v1), (3, vI v2)]) rfl (Nat.le_of_ble_eq_true rfl) rfl d3_search_192 ?_
            refine r_goto F (tgt := 78) (by decide) d3_search_195 ?_
            refine r_weak [1, 2, 3, 4, 0] rfl ?_
            replace h := wpo_inl h
            exact h
          · refine r_iload F 7 rfl d3_search_154 ?_
            refine r_if_le F (tgt := 192) d3_search_156 (by decide) (fun hb => ?_) (fun hb => ?_)
            · replace h := wpo_neg h hb
              refine r_weak [0, 1, 2, 3, 4] rfl ?_
              replace h := wpo_inr h
              exact h
            · replace h := wpo_pos h hb
              refine r_aload_nR F 0 rfl rfl d3_search_159 ?_
              refine r_getR F (z := 51) lf3_30 (vc49 hn) z49_6 d3_search_160 ?_
              refine r_iload F 7 rfl d3_search_163 ?_
              obtain ⟨hx3, h⟩ := wpo_chk h
              refine r_iald F (vc51 hn) hx3 d3_search_165 ?_
              refine r_iload F 6 rfl d3_search_166 ?_
              refine at_join (B := fun (j2 : Mem) => At K X (ZQ K X Q) 0 0 n rt 8 180 [(0, vR X 49), (1, vI p0), (2, vI v1), (3, vI v2), (4, vI s2.1), (5, vI b3), (6, vI v3), (7, vI s4.1)] [] j2) h (fun j2 h => ?_) (fun h => ?_)
              · refine r_iload F 7 rfl d3_search_180 ?_
                refine r_iconst F (z := 1) d3_search_182 ?_
                refine r_isub F d3_search_183 ?_
                refine r_iload F 5 rfl d3_search_184 ?_
                refine r_iand F d3_search_186 ?_
                refine r_istore F (lv' := [(7, vI (and32 (s4.1 - 1) b3)), (0, vR X 49), (1, vI p0), (2, vI v1), (3, vI v2), (4, vI s2.1), (5, vI b3), (6, vI v3)]) (Nat.le_of_ble_eq_true rfl) rfl d3_search_187 ?_
                refine r_goto F (tgt := 154) (by decide) d3_search_189 ?_
                refine r_weak [1, 2, 3, 4, 5, 6, 7, 0] rfl ?_
                replace h := wpo_inl h
                exact h
              · refine r_icmp_gt F (tgt := 180) d3_search_168 (by decide) (fun hb => ?_) (fun hb => ?_)
                · replace h := wpo_pos h hb
                  replace h := wpo_some h
                  exact h
                · replace h := wpo_neg h hb
                  refine r_aload_nR F 0 rfl rfl d3_search_171 ?_
                  refine r_iload F 7 rfl d3_search_172 ?_
                  refine r_iload F 4 rfl d3_search_174 ?_
                  refine r_iload_n F 1 rfl rfl d3_search_176 ?_
                  replace h := wpo_bind h
                  refine r_callV0 F lm3_113 mf3_giveInNight (vc49 hn) rfl (fr := 1) (lo := 23) (As := [vI s4.1, vI s2.1, vI p0]) (rest := []) ⟨Nat.le_of_ble_eq_true rfl, Nat.le_of_ble_eq_true rfl⟩ rfl (Nat.le_of_ble_eq_true rfl) ⟨Nat.zero_le _, Nat.zero_le _⟩ d3_search_177 ?_
                  refine ok3_giveInNight hn  (kVm h (fun a1 h => ?_))
                  replace h := wpo_some h
                  exact h
        · refine r_iload F 6 rfl d3_search_96 ?_
          refine r_aload_nR F 0 rfl rfl d3_search_98 ?_
          refine r_getR F (z := 12) lf3_52 (vc49 hn) z49_0 d3_search_99 ?_
          refine r_getI F lf3_77 (vc12 hn) d3_search_102 ?_
          refine r_icmp_ge F (tgt := 138) d3_search_105 (by decide) (fun hb => ?_) (fun hb => ?_)
          · replace h := wpo_neg h hb
            refine r_weak [0, 1, 2, 3, 4, 5] rfl ?_
            replace h := wpo_inr h
            exact h
          · replace h := wpo_pos h hb
            refine r_aload_nR F 0 rfl rfl d3_search_108 ?_
            refine r_getR F (z := 12) lf3_52 (vc49 hn) z49_0 d3_search_109 ?_
            refine r_getR F (z := 14) lf3_90 (vc12 hn) z12_11 d3_search_112 ?_
            refine r_iload F 6 rfl d3_search_115 ?_
            obtain ⟨hx2, h⟩ := wpo_chk h
            refine r_iald F (vc14 hn) hx2 d3_search_117 ?_
            refine r_iload F 4 rfl d3_search_118 ?_
            refine at_join (B := fun (j1 : Int) => At K X (ZQ K X Q) 0 0 n rt 8 132 [(0, vR X 49), (1, vI p0), (2, vI v1), (3, vI v2), (4, vI s2.1), (5, vI j1), (6, vI s3.2)] [] s2.2) h (fun j1 h => ?_) (fun h => ?_)
            · refine r_iinc F 6 (lv' := [(6, vI (s3.2 + 1)), (0, vR X 49), (1, vI p0), (2, vI v1), (3, vI v2), (4, vI s2.1), (5, vI j1)]) rfl (Nat.le_of_ble_eq_true rfl) rfl d3_search_132 ?_
              refine r_goto F (tgt := 96) (by decide) d3_search_135 ?_
              refine r_weak [1, 2, 3, 4, 5, 6, 0] rfl ?_
              replace h := wpo_inl h
              exact h
            · refine r_icmp_gt F (tgt := 132) d3_search_120 (by decide) (fun hb => ?_) (fun hb => ?_)
              · replace h := wpo_pos h hb
                replace h := wpo_some h
                exact h
              · replace h := wpo_neg h hb
                refine r_iload F 5 rfl d3_search_123 ?_
                refine r_iconst F (z := 1) d3_search_125 ?_
                refine r_iload F 6 rfl d3_search_126 ?_
                refine r_ishl F d3_search_128 ?_
                refine r_ior F d3_search_129 ?_
                refine r_istore F (lv' := [(5, vI (or32 s3.1 (shl32 1 s3.2))), (0, vR X 49), (1, vI p0), (2, vI v1), (3, vI v2), (4, vI s2.1), (6, vI s3.2)]) (Nat.le_of_ble_eq_true rfl) rfl d3_search_130 ?_
                refine r_weak [1, 2, 3, 4, 5, 0, 6] rfl ?_
                replace h := wpo_some h
                exact h
  · refine r_iload F 4 rfl d3_search_31 ?_
    refine r_iload_n F 2 rfl rfl d3_search_33 ?_
    refine r_icmp_gt F (tgt := 61) d3_search_34 (by decide) (fun hb => ?_) (fun hb => ?_)
    · replace h := wpo_pos h hb
      refine r_weak [0, 1, 2, 3] rfl ?_
      replace h := wpo_inr h
      exact h
    · replace h := wpo_neg h hb
      refine r_aload_nR F 0 rfl rfl d3_search_37 ?_
      refine r_getR F (z := 56) lf3_46 (vc49 hn) z49_11 d3_search_38 ?_
      refine r_iload F 4 rfl d3_search_41 ?_
      refine r_ldc2 F (z := 4294967296000000) lc3_108 d3_search_43 ?_
      obtain ⟨hx1, h⟩ := wpo_chk h
      refine r_last F (vc56 hn) hx1 d3_search_46 ?_
      refine r_aload_nR F 0 rfl rfl d3_search_47 ?_
      refine r_getR F (z := 57) lf3_49 (vc49 hn) z49_12 d3_search_48 ?_
      refine r_iload F 4 rfl d3_search_51 ?_
      refine r_lconst F (x := 0) (by decide) d3_search_53 ?_
      refine at_name (B := fun (D1 : Mem) => At K X (ZQ K X Q) 0 0 n rt 8 54 [(0, vR X 49), (1, vI p0), (2, vI v1), (3, vI v2), (4, vI s1.1)] [vL 0, vI s1.1, vR X 57] D1) h (fun D1 h => ?_)
      refine r_last F (vc57 hn) hx1 d3_search_54 ?_
      refine r_iinc F 4 (lv' := [(4, vI (s1.1 + 1)), (0, vR X 49), (1, vI p0), (2, vI v1), (3, vI v2)]) rfl (Nat.le_of_ble_eq_true rfl) rfl d3_search_55 ?_
      refine r_goto F (tgt := 31) (by decide) d3_search_58 ?_
      refine r_weak [1, 2, 3, 4, 0] rfl ?_
      replace h := wpo_inl h
      exact h
theorem d3_work_0 : decode c3_work 0 = .ok (.aload_n 0, 1) := by decide +kernel
theorem d3_work_1 : decode c3_work 1 = .ok (.getfield 11, 3) := by decide +kernel
theorem d3_work_4 : decode c3_work 4 = .ok (.ifCond .eq 4, 3) := by decide +kernel
theorem d3_work_7 : decode c3_work 7 = .ok (.return_, 1) := by decide +kernel
theorem d3_work_8 : decode c3_work 8 = .ok (.aload_n 0, 1) := by decide +kernel
theorem d3_work_9 : decode c3_work 9 = .ok (.invokevirtual 56, 3) := by decide +kernel
theorem d3_work_12 : decode c3_work 12 = .ok (.aload_n 0, 1) := by decide +kernel
theorem d3_work_13 : decode c3_work 13 = .ok (.aload_n 0, 1) := by decide +kernel
theorem d3_work_14 : decode c3_work 14 = .ok (.getfield 52, 3) := by decide +kernel
theorem d3_work_17 : decode c3_work 17 = .ok (.getfield 59, 3) := by decide +kernel
theorem d3_work_20 : decode c3_work 20 = .ok (.invokevirtual 64, 3) := by decide +kernel
theorem d3_work_23 : decode c3_work 23 = .ok (.aload_n 0, 1) := by decide +kernel
theorem d3_work_24 : decode c3_work 24 = .ok (.iconst 1, 1) := by decide +kernel
theorem d3_work_25 : decode c3_work 25 = .ok (.putfield 11, 3) := by decide +kernel
theorem d3_work_28 : decode c3_work 28 = .ok (.return_, 1) := by decide +kernel
def f3_work (D : Mem) : Option (Mem) :=
  if w32 (D 49 1) = 0 then
    Option.bind (f3_addUp D) fun (a1 : Mem) =>
    Option.bind (f3_search a1 (a1 12 2)) fun (a2 : Mem) =>
    some (mset a2 49 1 1)
  else
    some D
set_option maxHeartbeats 4000000 in
theorem ok3_work {l : Launch} {X : XT} {n : Nat} {D : Mem} {Q : Option Value → Nat → Rho → Mem → Prop} (hn : 117 ≤ n)  (h : wpo (f3_work D) (fun a => Q none n rt a)) : MOK l y3_work c3_work 1 (none) { frames := 3, cells := 0, slots := 0, locals := 84 } 0 0 X [vR X 49] n rt D Q := by
  refine MOK_of 3 (by decide +kernel) rfl (lv := [(0, vR X 49)]) (Nat.le_of_ble_eq_true rfl) rfl (fun K hK F hnm => ?_)
  subst hK
  unfold f3_work at h
  refine r_aload_nR F 0 rfl rfl d3_work_0 ?_
  refine r_getI F lf3_11 (vc49 hn) d3_work_1 ?_
  refine r_if_eq F (tgt := 8) d3_work_4 (by decide) (fun hb => ?_) (fun hb => ?_)
  · replace h := wpo_pos h hb
    refine r_aload_nR F 0 rfl rfl d3_work_8 ?_
    replace h := wpo_bind h
    refine r_callV0 F lm3_56 mf3_addUp (vc49 hn) rfl (fr := 1) (lo := 25) (As := []) (rest := []) ⟨Nat.le_of_ble_eq_true rfl, Nat.le_of_ble_eq_true rfl⟩ rfl (Nat.le_of_ble_eq_true rfl) ⟨Nat.zero_le _, Nat.zero_le _⟩ d3_work_9 ?_
    refine ok3_addUp hn  (kVm h (fun a1 h => ?_))
    refine r_aload_nR F 0 rfl rfl d3_work_12 ?_
    refine r_aload_nR F 0 rfl rfl d3_work_13 ?_
    refine r_getR F (z := 12) lf3_52 (vc49 hn) z49_0 d3_work_14 ?_
    refine r_getI F lf3_59 (vc12 hn) d3_work_17 ?_
    replace h := wpo_bind h
    refine r_callV0 F lm3_64 mf3_search (vc49 hn) rfl (fr := 2) (lo := 57) (As := [vI (a1 12 2)]) (rest := []) ⟨Nat.le_of_ble_eq_true rfl, Nat.le_of_ble_eq_true rfl⟩ rfl (Nat.le_of_ble_eq_true rfl) ⟨Nat.zero_le _, Nat.zero_le _⟩ d3_work_20 ?_
    refine ok3_search hn  (kVm h (fun a2 h => ?_))
    refine r_aload_nR F 0 rfl rfl d3_work_23 ?_
    refine r_iconst F (z := 1) d3_work_24 ?_
    refine r_putZ F (Or.inr rfl) lf3_11 rfl rfl (vc49 hn) d3_work_25 ?_
    replace h := wpo_some h
    exact r_vret F h d3_work_28
  · replace h := wpo_neg h hb
    replace h := wpo_some h
    exact r_vret F h d3_work_7
theorem d9_least_0 : decode c9_least 0 = .ok (.aload_n 0, 1) := by decide +kernel
theorem d9_least_1 : decode c9_least 1 = .ok (.invokevirtual 159, 3) := by decide +kernel
theorem d9_least_4 : decode c9_least 4 = .ok (.ifCond .ne 6, 3) := by decide +kernel
theorem d9_least_7 : decode c9_least 7 = .ok (.bipush (-2), 2) := by decide +kernel
theorem d9_least_9 : decode c9_least 9 = .ok (.ireturn, 1) := by decide +kernel
theorem d9_least_10 : decode c9_least 10 = .ok (.aload_n 0, 1) := by decide +kernel
theorem d9_least_11 : decode c9_least 11 = .ok (.getfield 61, 3) := by decide +kernel
theorem d9_least_14 : decode c9_least 14 = .ok (.invokevirtual 233, 3) := by decide +kernel
theorem d9_least_17 : decode c9_least 17 = .ok (.aload_n 0, 1) := by decide +kernel
theorem d9_least_18 : decode c9_least 18 = .ok (.getfield 61, 3) := by decide +kernel
theorem d9_least_21 : decode c9_least 21 = .ok (.getfield 236, 3) := by decide +kernel
theorem d9_least_24 : decode c9_least 24 = .ok (.ireturn, 1) := by decide +kernel
def f9_least (D : Mem) : Option (Int × Mem) :=
  Option.bind (f9_isThere D) fun (a1 : Int) =>
  if w32 a1 = 0 then
    some ((-2), D)
  else
    Option.bind (f3_work D) fun (a2 : Mem) =>
    some ((a2 49 2), a2)
set_option maxHeartbeats 4000000 in
theorem ok9_least {l : Launch} {X : XT} {n : Nat} {D : Mem} {Q : Option Value → Nat → Rho → Mem → Prop} (hn : 117 ≤ n)  (h : wpo (f9_least D) (fun a => Q (some (vI a.1)) n rt a.2)) : MOK l y9_least c9_least 1 (some .int) { frames := 4, cells := 0, slots := 0, locals := 104 } 0 0 X [vR X 0] n rt D Q := by
  refine MOK_of 9 (by decide +kernel) rfl (lv := [(0, vR X 0)]) (Nat.le_of_ble_eq_true rfl) rfl (fun K hK F hnm => ?_)
  subst hK
  unfold f9_least at h
  refine r_aload_nR F 0 rfl rfl d9_least_0 ?_
  replace h := wpo_bind h
  refine r_callV0 F lm9_159 mf9_isThere (vc0 hn) rfl (fr := 0) (lo := 0) (As := []) (rest := []) ⟨Nat.le_of_ble_eq_true rfl, Nat.le_of_ble_eq_true rfl⟩ rfl (Nat.le_of_ble_eq_true rfl) ⟨Nat.zero_le _, Nat.zero_le _⟩ d9_least_1 ?_
  refine ok9_isThere hn  (kI h (fun a1 h => ?_))
  refine r_if_ne F (tgt := 10) d9_least_4 (by decide) (fun hb => ?_) (fun hb => ?_)
  · replace h := wpo_neg h hb
    refine r_aload_nR F 0 rfl rfl d9_least_10 ?_
    refine r_getR F (z := 49) lf9_61 (vc0 hn) z0_8 d9_least_11 ?_
    replace h := wpo_bind h
    refine r_callV0 F lm9_233 mf3_work (vc49 hn) rfl (fr := 3) (lo := 84) (As := []) (rest := []) ⟨Nat.le_of_ble_eq_true rfl, Nat.le_of_ble_eq_true rfl⟩ rfl (Nat.le_of_ble_eq_true rfl) ⟨Nat.zero_le _, Nat.zero_le _⟩ d9_least_14 ?_
    refine ok3_work hn  (kVm h (fun a2 h => ?_))
    refine r_aload_nR F 0 rfl rfl d9_least_17 ?_
    refine r_getR F (z := 49) lf9_61 (vc0 hn) z0_8 d9_least_18 ?_
    refine r_getI F lf9_236 (vc49 hn) d9_least_21 ?_
    replace h := wpo_some h
    exact r_iret F h d9_least_24
  · replace h := wpo_pos h hb
    refine r_bipush F (z := (-2)) (by decide) d9_least_7 ?_
    replace h := wpo_some h
    exact r_iret F h d9_least_9
theorem d9_regret_0 : decode c9_regret 0 = .ok (.aload_n 0, 1) := by decide +kernel
theorem d9_regret_1 : decode c9_regret 1 = .ok (.invokevirtual 159, 3) := by decide +kernel
theorem d9_regret_4 : decode c9_regret 4 = .ok (.ifCond .ne 6, 3) := by decide +kernel
theorem d9_regret_7 : decode c9_regret 7 = .ok (.bipush (-2), 2) := by decide +kernel
theorem d9_regret_9 : decode c9_regret 9 = .ok (.ireturn, 1) := by decide +kernel
theorem d9_regret_10 : decode c9_regret 10 = .ok (.aload_n 0, 1) := by decide +kernel
theorem d9_regret_11 : decode c9_regret 11 = .ok (.getfield 61, 3) := by decide +kernel
theorem d9_regret_14 : decode c9_regret 14 = .ok (.invokevirtual 233, 3) := by decide +kernel
theorem d9_regret_17 : decode c9_regret 17 = .ok (.aload_n 0, 1) := by decide +kernel
theorem d9_regret_18 : decode c9_regret 18 = .ok (.getfield 51, 3) := by decide +kernel
theorem d9_regret_21 : decode c9_regret 21 = .ok (.getfield 162, 3) := by decide +kernel
theorem d9_regret_24 : decode c9_regret 24 = .ok (.aload_n 0, 1) := by decide +kernel
theorem d9_regret_25 : decode c9_regret 25 = .ok (.getfield 61, 3) := by decide +kernel
theorem d9_regret_28 : decode c9_regret 28 = .ok (.getfield 236, 3) := by decide +kernel
theorem d9_regret_31 : decode c9_regret 31 = .ok (.isub, 1) := by decide +kernel
theorem d9_regret_32 : decode c9_regret 32 = .ok (.ireturn, 1) := by decide +kernel
def f9_regret (D : Mem) : Option (Int × Mem) :=
  Option.bind (f9_isThere D) fun (a1 : Int) =>
  if w32 a1 = 0 then
    some ((-2), D)
  else
    Option.bind (f3_work D) fun (a2 : Mem) =>
    some (((a2 23 4) - (a2 49 2)), a2)
set_option maxHeartbeats 4000000 in
theorem ok9_regret {l : Launch} {X : XT} {n : Nat} {D : Mem} {Q : Option Value → Nat → Rho → Mem → Prop} (hn : 117 ≤ n)  (h : wpo (f9_regret D) (fun a => Q (some (vI a.1)) n rt a.2)) : MOK l y9_regret c9_regret 1 (some .int) { frames := 4, cells := 0, slots := 0, locals := 104 } 0 0 X [vR X 0] n rt D Q := by
  refine MOK_of 9 (by decide +kernel) rfl (lv := [(0, vR X 0)]) (Nat.le_of_ble_eq_true rfl) rfl (fun K hK F hnm => ?_)
  subst hK
  unfold f9_regret at h
  refine r_aload_nR F 0 rfl rfl d9_regret_0 ?_
  replace h := wpo_bind h
  refine r_callV0 F lm9_159 mf9_isThere (vc0 hn) rfl (fr := 0) (lo := 0) (As := []) (rest := []) ⟨Nat.le_of_ble_eq_true rfl, Nat.le_of_ble_eq_true rfl⟩ rfl (Nat.le_of_ble_eq_true rfl) ⟨Nat.zero_le _, Nat.zero_le _⟩ d9_regret_1 ?_
  refine ok9_isThere hn  (kI h (fun a1 h => ?_))
  refine r_if_ne F (tgt := 10) d9_regret_4 (by decide) (fun hb => ?_) (fun hb => ?_)
  · replace h := wpo_neg h hb
    refine r_aload_nR F 0 rfl rfl d9_regret_10 ?_
    refine r_getR F (z := 49) lf9_61 (vc0 hn) z0_8 d9_regret_11 ?_
    replace h := wpo_bind h
    refine r_callV0 F lm9_233 mf3_work (vc49 hn) rfl (fr := 3) (lo := 84) (As := []) (rest := []) ⟨Nat.le_of_ble_eq_true rfl, Nat.le_of_ble_eq_true rfl⟩ rfl (Nat.le_of_ble_eq_true rfl) ⟨Nat.zero_le _, Nat.zero_le _⟩ d9_regret_14 ?_
    refine ok3_work hn  (kVm h (fun a2 h => ?_))
    refine r_aload_nR F 0 rfl rfl d9_regret_17 ?_
    refine r_getR F (z := 23) lf9_51 (vc0 hn) z0_6 d9_regret_18 ?_
    refine r_getI F lf9_162 (vc23 hn) d9_regret_21 ?_
    refine r_aload_nR F 0 rfl rfl d9_regret_24 ?_
    refine r_getR F (z := 49) lf9_61 (vc0 hn) z0_8 d9_regret_25 ?_
    refine r_getI F lf9_236 (vc49 hn) d9_regret_28 ?_
    refine r_isub F d9_regret_31 ?_
    replace h := wpo_some h
    exact r_iret F h d9_regret_32
  · replace h := wpo_pos h hb
    refine r_bipush F (z := (-2)) (by decide) d9_regret_7 ?_
    replace h := wpo_some h
    exact r_iret F h d9_regret_9
theorem d3_nightOf_0 : decode c3_nightOf 0 = .ok (.aload_n 0, 1) := by decide +kernel
theorem d3_nightOf_1 : decode c3_nightOf 1 = .ok (.getfield 23, 3) := by decide +kernel
theorem d3_nightOf_4 : decode c3_nightOf 4 = .ok (.iload_n 1, 1) := by decide +kernel
theorem d3_nightOf_5 : decode c3_nightOf 5 = .ok (.invokestatic 68, 3) := by decide +kernel
theorem d3_nightOf_8 : decode c3_nightOf 8 = .ok (.lshr, 1) := by decide +kernel
theorem d3_nightOf_9 : decode c3_nightOf 9 = .ok (.ldc2_w 72, 3) := by decide +kernel
theorem d3_nightOf_12 : decode c3_nightOf 12 = .ok (.land, 1) := by decide +kernel
theorem d3_nightOf_13 : decode c3_nightOf 13 = .ok (.l2i, 1) := by decide +kernel
theorem d3_nightOf_14 : decode c3_nightOf 14 = .ok (.iconst 1, 1) := by decide +kernel
theorem d3_nightOf_15 : decode c3_nightOf 15 = .ok (.isub, 1) := by decide +kernel
theorem d3_nightOf_16 : decode c3_nightOf 16 = .ok (.ireturn, 1) := by decide +kernel
def f3_nightOf (D : Mem) (p0 : Int) : Option (Int) :=
  Option.bind (f3_shiftOf D p0) fun (a1 : Int) =>
  some ((and64 (shr64 (D 49 4) a1) 15) - 1)
set_option maxHeartbeats 4000000 in
theorem ok3_nightOf {l : Launch} {X : XT} {n : Nat} {D : Mem} {Q : Option Value → Nat → Rho → Mem → Prop} (hn : 117 ≤ n) {p0 : Int}  (h : wpo (f3_nightOf D p0) (fun a => Q (some (vI a)) n rt D)) : MOK l y3_nightOf c3_nightOf 2 (some .int) { frames := 1, cells := 0, slots := 0, locals := 20 } 0 0 X [vR X 49, vI p0] n rt D Q := by
  refine MOK_of 3 (by decide +kernel) rfl (lv := [(0, vR X 49), (1, vI p0)]) (Nat.le_of_ble_eq_true rfl) rfl (fun K hK F hnm => ?_)
  subst hK
  unfold f3_nightOf at h
  refine r_aload_nR F 0 rfl rfl d3_nightOf_0 ?_
  refine r_getL F lf3_23 (vc49 hn) d3_nightOf_1 ?_
  refine r_iload_n F 1 rfl rfl d3_nightOf_4 ?_
  replace h := wpo_bind h
  refine r_callS0 F lm3_68 mf3_shiftOf rfl (fr := 0) (lo := 0) (As := [vI p0]) (rest := [vL (D 49 4)]) ⟨Nat.le_of_ble_eq_true rfl, Nat.le_of_ble_eq_true rfl⟩ rfl (Nat.le_of_ble_eq_true rfl) ⟨Nat.zero_le _, Nat.zero_le _⟩ d3_nightOf_5 ?_
  refine ok3_shiftOf hn  (kI h (fun a1 h => ?_))
  refine r_lshr F d3_nightOf_8 ?_
  refine r_ldc2 F (z := 15) lc3_72 d3_nightOf_9 ?_
  refine r_land F d3_nightOf_12 ?_
  refine r_l2i F d3_nightOf_13 ?_
  refine r_iconst F (z := 1) d3_nightOf_14 ?_
  refine r_isub F d3_nightOf_15 ?_
  replace h := wpo_some h
  exact r_iret F h d3_nightOf_16
theorem d9_plan_0 : decode c9_plan 0 = .ok (.aload_n 0, 1) := by decide +kernel
theorem d9_plan_1 : decode c9_plan 1 = .ok (.iload_n 1, 1) := by decide +kernel
theorem d9_plan_2 : decode c9_plan 2 = .ok (.invokevirtual 124, 3) := by decide +kernel
theorem d9_plan_5 : decode c9_plan 5 = .ok (.ifCond .ne 6, 3) := by decide +kernel
theorem d9_plan_8 : decode c9_plan 8 = .ok (.bipush (-2), 2) := by decide +kernel
theorem d9_plan_10 : decode c9_plan 10 = .ok (.ireturn, 1) := by decide +kernel
theorem d9_plan_11 : decode c9_plan 11 = .ok (.aload_n 0, 1) := by decide +kernel
theorem d9_plan_12 : decode c9_plan 12 = .ok (.getfield 61, 3) := by decide +kernel
theorem d9_plan_15 : decode c9_plan 15 = .ok (.invokevirtual 233, 3) := by decide +kernel
theorem d9_plan_18 : decode c9_plan 18 = .ok (.aload_n 0, 1) := by decide +kernel
theorem d9_plan_19 : decode c9_plan 19 = .ok (.getfield 61, 3) := by decide +kernel
theorem d9_plan_22 : decode c9_plan 22 = .ok (.iload_n 1, 1) := by decide +kernel
theorem d9_plan_23 : decode c9_plan 23 = .ok (.invokevirtual 239, 3) := by decide +kernel
theorem d9_plan_26 : decode c9_plan 26 = .ok (.ireturn, 1) := by decide +kernel
def f9_plan (D : Mem) (p0 : Int) : Option (Int × Mem) :=
  Option.bind (f9_isPerson D p0) fun (a1 : Int) =>
  if w32 a1 = 0 then
    some ((-2), D)
  else
    Option.bind (f3_work D) fun (a2 : Mem) =>
    Option.bind (f3_nightOf a2 p0) fun (a3 : Int) =>
    some (a3, a2)
set_option maxHeartbeats 4000000 in
theorem ok9_plan {l : Launch} {X : XT} {n : Nat} {D : Mem} {Q : Option Value → Nat → Rho → Mem → Prop} (hn : 117 ≤ n) {p0 : Int}  (h : wpo (f9_plan D p0) (fun a => Q (some (vI a.1)) n rt a.2)) : MOK l y9_plan c9_plan 2 (some .int) { frames := 4, cells := 0, slots := 0, locals := 104 } 0 0 X [vR X 0, vI p0] n rt D Q := by
  refine MOK_of 9 (by decide +kernel) rfl (lv := [(0, vR X 0), (1, vI p0)]) (Nat.le_of_ble_eq_true rfl) rfl (fun K hK F hnm => ?_)
  subst hK
  unfold f9_plan at h
  refine r_aload_nR F 0 rfl rfl d9_plan_0 ?_
  refine r_iload_n F 1 rfl rfl d9_plan_1 ?_
  replace h := wpo_bind h
  refine r_callV0 F lm9_124 mf9_isPerson (vc0 hn) rfl (fr := 0) (lo := 0) (As := [vI p0]) (rest := []) ⟨Nat.le_of_ble_eq_true rfl, Nat.le_of_ble_eq_true rfl⟩ rfl (Nat.le_of_ble_eq_true rfl) ⟨Nat.zero_le _, Nat.zero_le _⟩ d9_plan_2 ?_
  refine ok9_isPerson hn  (kI h (fun a1 h => ?_))
  refine r_if_ne F (tgt := 11) d9_plan_5 (by decide) (fun hb => ?_) (fun hb => ?_)
  · replace h := wpo_neg h hb
    refine r_aload_nR F 0 rfl rfl d9_plan_11 ?_
    refine r_getR F (z := 49) lf9_61 (vc0 hn) z0_8 d9_plan_12 ?_
    replace h := wpo_bind h
    refine r_callV0 F lm9_233 mf3_work (vc49 hn) rfl (fr := 3) (lo := 84) (As := []) (rest := []) ⟨Nat.le_of_ble_eq_true rfl, Nat.le_of_ble_eq_true rfl⟩ rfl (Nat.le_of_ble_eq_true rfl) ⟨Nat.zero_le _, Nat.zero_le _⟩ d9_plan_15 ?_
    refine ok3_work hn  (kVm h (fun a2 h => ?_))
    refine r_aload_nR F 0 rfl rfl d9_plan_18 ?_
    refine r_getR F (z := 49) lf9_61 (vc0 hn) z0_8 d9_plan_19 ?_
    refine r_iload_n F 1 rfl rfl d9_plan_22 ?_
    replace h := wpo_bind h
    refine r_callV0 F lm9_239 mf3_nightOf (vc49 hn) rfl (fr := 1) (lo := 20) (As := [vI p0]) (rest := []) ⟨Nat.le_of_ble_eq_true rfl, Nat.le_of_ble_eq_true rfl⟩ rfl (Nat.le_of_ble_eq_true rfl) ⟨Nat.zero_le _, Nat.zero_le _⟩ d9_plan_23 ?_
    refine ok3_nightOf hn  (kI h (fun a3 h => ?_))
    replace h := wpo_some h
    exact r_iret F h d9_plan_26
  · replace h := wpo_pos h hb
    refine r_bipush F (z := (-2)) (by decide) d9_plan_8 ?_
    replace h := wpo_some h
    exact r_iret F h d9_plan_10
theorem d9_ways_0 : decode c9_ways 0 = .ok (.aload_n 0, 1) := by decide +kernel
theorem d9_ways_1 : decode c9_ways 1 = .ok (.invokevirtual 159, 3) := by decide +kernel
theorem d9_ways_4 : decode c9_ways 4 = .ok (.ifCond .ne 7, 3) := by decide +kernel
theorem d9_ways_7 : decode c9_ways 7 = .ok (.ldc2_w 242, 3) := by decide +kernel
theorem d9_ways_10 : decode c9_ways 10 = .ok (.lreturn, 1) := by decide +kernel
theorem d9_ways_11 : decode c9_ways 11 = .ok (.aload_n 0, 1) := by decide +kernel
theorem d9_ways_12 : decode c9_ways 12 = .ok (.getfield 61, 3) := by decide +kernel
theorem d9_ways_15 : decode c9_ways 15 = .ok (.invokevirtual 233, 3) := by decide +kernel
theorem d9_ways_18 : decode c9_ways 18 = .ok (.aload_n 0, 1) := by decide +kernel
theorem d9_ways_19 : decode c9_ways 19 = .ok (.getfield 61, 3) := by decide +kernel
theorem d9_ways_22 : decode c9_ways 22 = .ok (.getfield 244, 3) := by decide +kernel
theorem d9_ways_25 : decode c9_ways 25 = .ok (.lreturn, 1) := by decide +kernel
def f9_ways (D : Mem) : Option (Int × Mem) :=
  Option.bind (f9_isThere D) fun (a1 : Int) =>
  if w32 a1 = 0 then
    some ((-2), D)
  else
    Option.bind (f3_work D) fun (a2 : Mem) =>
    some ((a2 49 3), a2)
set_option maxHeartbeats 4000000 in
theorem ok9_ways {l : Launch} {X : XT} {n : Nat} {D : Mem} {Q : Option Value → Nat → Rho → Mem → Prop} (hn : 117 ≤ n)  (h : wpo (f9_ways D) (fun a => Q (some (vL a.1)) n rt a.2)) : MOK l y9_ways c9_ways 1 (some .long) { frames := 4, cells := 0, slots := 0, locals := 104 } 0 0 X [vR X 0] n rt D Q := by
  refine MOK_of 9 (by decide +kernel) rfl (lv := [(0, vR X 0)]) (Nat.le_of_ble_eq_true rfl) rfl (fun K hK F hnm => ?_)
  subst hK
  unfold f9_ways at h
  refine r_aload_nR F 0 rfl rfl d9_ways_0 ?_
  replace h := wpo_bind h
  refine r_callV0 F lm9_159 mf9_isThere (vc0 hn) rfl (fr := 0) (lo := 0) (As := []) (rest := []) ⟨Nat.le_of_ble_eq_true rfl, Nat.le_of_ble_eq_true rfl⟩ rfl (Nat.le_of_ble_eq_true rfl) ⟨Nat.zero_le _, Nat.zero_le _⟩ d9_ways_1 ?_
  refine ok9_isThere hn  (kI h (fun a1 h => ?_))
  refine r_if_ne F (tgt := 11) d9_ways_4 (by decide) (fun hb => ?_) (fun hb => ?_)
  · replace h := wpo_neg h hb
    refine r_aload_nR F 0 rfl rfl d9_ways_11 ?_
    refine r_getR F (z := 49) lf9_61 (vc0 hn) z0_8 d9_ways_12 ?_
    replace h := wpo_bind h
    refine r_callV0 F lm9_233 mf3_work (vc49 hn) rfl (fr := 3) (lo := 84) (As := []) (rest := []) ⟨Nat.le_of_ble_eq_true rfl, Nat.le_of_ble_eq_true rfl⟩ rfl (Nat.le_of_ble_eq_true rfl) ⟨Nat.zero_le _, Nat.zero_le _⟩ d9_ways_15 ?_
    refine ok3_work hn  (kVm h (fun a2 h => ?_))
    refine r_aload_nR F 0 rfl rfl d9_ways_18 ?_
    refine r_getR F (z := 49) lf9_61 (vc0 hn) z0_8 d9_ways_19 ?_
    refine r_getL F lf9_244 (vc49 hn) d9_ways_22 ?_
    replace h := wpo_some h
    exact r_lret F h d9_ways_25
  · replace h := wpo_pos h hb
    refine r_ldc2 F (z := (-2)) lc9_242 d9_ways_7 ?_
    replace h := wpo_some h
    exact r_lret F h d9_ways_10
theorem d3_leastBy_0 : decode c3_leastBy 0 = .ok (.aload_n 0, 1) := by decide +kernel
theorem d3_leastBy_1 : decode c3_leastBy 1 = .ok (.getfield 15, 3) := by decide +kernel
theorem d3_leastBy_4 : decode c3_leastBy 4 = .ok (.istore_n 2, 1) := by decide +kernel
theorem d3_leastBy_5 : decode c3_leastBy 5 = .ok (.aload_n 0, 1) := by decide +kernel
theorem d3_leastBy_6 : decode c3_leastBy 6 = .ok (.getfield 19, 3) := by decide +kernel
theorem d3_leastBy_9 : decode c3_leastBy 9 = .ok (.lstore_n 3, 1) := by decide +kernel
theorem d3_leastBy_10 : decode c3_leastBy 10 = .ok (.aload_n 0, 1) := by decide +kernel
theorem d3_leastBy_11 : decode c3_leastBy 11 = .ok (.getfield 23, 3) := by decide +kernel
theorem d3_leastBy_14 : decode c3_leastBy 14 = .ok (.lstore 5, 2) := by decide +kernel
theorem d3_leastBy_16 : decode c3_leastBy 16 = .ok (.aload_n 0, 1) := by decide +kernel
theorem d3_leastBy_17 : decode c3_leastBy 17 = .ok (.iload_n 1, 1) := by decide +kernel
theorem d3_leastBy_18 : decode c3_leastBy 18 = .ok (.invokevirtual 64, 3) := by decide +kernel
theorem d3_leastBy_21 : decode c3_leastBy 21 = .ok (.aload_n 0, 1) := by decide +kernel
theorem d3_leastBy_22 : decode c3_leastBy 22 = .ok (.getfield 15, 3) := by decide +kernel
theorem d3_leastBy_25 : decode c3_leastBy 25 = .ok (.istore 7, 2) := by decide +kernel
theorem d3_leastBy_27 : decode c3_leastBy 27 = .ok (.aload_n 0, 1) := by decide +kernel
theorem d3_leastBy_28 : decode c3_leastBy 28 = .ok (.iload_n 2, 1) := by decide +kernel
theorem d3_leastBy_29 : decode c3_leastBy 29 = .ok (.putfield 15, 3) := by decide +kernel
theorem d3_leastBy_32 : decode c3_leastBy 32 = .ok (.aload_n 0, 1) := by decide +kernel
theorem d3_leastBy_33 : decode c3_leastBy 33 = .ok (.lload_n 3, 1) := by decide +kernel
theorem d3_leastBy_34 : decode c3_leastBy 34 = .ok (.putfield 19, 3) := by decide +kernel
theorem d3_leastBy_37 : decode c3_leastBy 37 = .ok (.aload_n 0, 1) := by decide +kernel
theorem d3_leastBy_38 : decode c3_leastBy 38 = .ok (.lload 5, 2) := by decide +kernel
theorem d3_leastBy_40 : decode c3_leastBy 40 = .ok (.putfield 23, 3) := by decide +kernel
theorem d3_leastBy_43 : decode c3_leastBy 43 = .ok (.iload 7, 2) := by decide +kernel
theorem d3_leastBy_45 : decode c3_leastBy 45 = .ok (.ireturn, 1) := by decide +kernel
def f3_leastBy (D : Mem) (p0 : Int) : Option (Int × Mem) :=
  Option.bind (f3_search D p0) fun (a1 : Mem) =>
  Option.bind (some (mset a1 49 2 (D 49 2))) fun (D1 : Mem) =>
  Option.bind (some (mset D1 49 3 (D 49 3))) fun (D2 : Mem) =>
  some ((a1 49 2), (mset D2 49 4 (D 49 4)))
set_option maxHeartbeats 4000000 in
theorem ok3_leastBy {l : Launch} {X : XT} {n : Nat} {D : Mem} {Q : Option Value → Nat → Rho → Mem → Prop} (hn : 117 ≤ n) {p0 : Int}  (h : wpo (f3_leastBy D p0) (fun a => Q (some (vI a.1)) n rt a.2)) : MOK l y3_leastBy c3_leastBy 8 (some .int) { frames := 3, cells := 0, slots := 0, locals := 84 } 0 0 X [vR X 49, vI p0] n rt D Q := by
  refine MOK_of 3 (by decide +kernel) rfl (lv := [(0, vR X 49), (1, vI p0)]) (Nat.le_of_ble_eq_true rfl) rfl (fun K hK F hnm => ?_)
  subst hK
  unfold f3_leastBy at h
  refine r_aload_nR F 0 rfl rfl d3_leastBy_0 ?_
  refine r_getI F lf3_15 (vc49 hn) d3_leastBy_1 ?_
  refine r_istore_n F (lv' := [(2, vI (D 49 2)), (0, vR X 49), (1, vI p0)]) rfl (Nat.le_of_ble_eq_true rfl) rfl d3_leastBy_4 ?_
  refine r_aload_nR F 1 rfl rfl d3_leastBy_5 ?_
  refine r_getL F lf3_19 (vc49 hn) d3_leastBy_6 ?_
  refine r_lstore_n F (lv' := [(3, vL (D 49 3)), (2, vI (D 49 2)), (0, vR X 49), (1, vI p0)]) rfl (Nat.le_of_ble_eq_true rfl) rfl d3_leastBy_9 ?_
  refine r_aload_nR F 2 rfl rfl d3_leastBy_10 ?_
  refine r_getL F lf3_23 (vc49 hn) d3_leastBy_11 ?_
  refine r_lstore F (lv' := [(5, vL (D 49 4)), (3, vL (D 49 3)), (2, vI (D 49 2)), (0, vR X 49), (1, vI p0)]) (Nat.le_of_ble_eq_true rfl) rfl d3_leastBy_14 ?_
  refine r_aload_nR F 3 rfl rfl d3_leastBy_16 ?_
  refine r_iload_n F 4 rfl rfl d3_leastBy_17 ?_
  replace h := wpo_bind h
  refine r_callV0 F lm3_64 mf3_search (vc49 hn) rfl (fr := 2) (lo := 57) (As := [vI p0]) (rest := []) ⟨Nat.le_of_ble_eq_true rfl, Nat.le_of_ble_eq_true rfl⟩ rfl (Nat.le_of_ble_eq_true rfl) ⟨Nat.zero_le _, Nat.zero_le _⟩ d3_leastBy_18 ?_
  refine ok3_search hn  (kVm h (fun a1 h => ?_))
  refine r_aload_nR F 3 rfl rfl d3_leastBy_21 ?_
  refine r_getI F lf3_15 (vc49 hn) d3_leastBy_22 ?_
  refine r_istore F (lv' := [(7, vI (a1 49 2)), (5, vL (D 49 4)), (3, vL (D 49 3)), (2, vI (D 49 2)), (0, vR X 49), (1, vI p0)]) (Nat.le_of_ble_eq_true rfl) rfl d3_leastBy_25 ?_
  refine r_aload_nR F 4 rfl rfl d3_leastBy_27 ?_
  refine r_iload_n F 3 rfl rfl d3_leastBy_28 ?_
  refine r_putI F lf3_15 rfl rfl (vc49 hn) d3_leastBy_29 ?_
  refine r_aload_nR F 4 rfl rfl d3_leastBy_32 ?_
  refine r_lload_n F 2 rfl rfl d3_leastBy_33 ?_
  refine at_name (B := fun (D1 : Mem) => At K X (ZQ K X Q) 0 0 n rt 8 34 [(7, vI (a1 49 2)), (5, vL (D 49 4)), (3, vL (D 49 3)), (2, vI (D 49 2)), (0, vR X 49), (1, vI p0)] [vL (D 49 3), vR X 49] D1) h (fun D1 h => ?_)
  refine r_putL F lf3_19 rfl rfl (vc49 hn) d3_leastBy_34 ?_
  refine r_aload_nR F 4 rfl rfl d3_leastBy_37 ?_
  refine r_lload F 1 rfl d3_leastBy_38 ?_
  refine at_name (B := fun (D2 : Mem) => At K X (ZQ K X Q) 0 0 n rt 8 40 [(7, vI (a1 49 2)), (5, vL (D 49 4)), (3, vL (D 49 3)), (2, vI (D 49 2)), (0, vR X 49), (1, vI p0)] [vL (D 49 4), vR X 49] D2) h (fun D2 h => ?_)
  refine r_putL F lf3_23 rfl rfl (vc49 hn) d3_leastBy_40 ?_
  refine r_iload F 0 rfl d3_leastBy_43 ?_
  replace h := wpo_some h
  exact r_iret F h d3_leastBy_45
theorem d3_leastRoom_0 : decode c3_leastRoom 0 = .ok (.aload_n 0, 1) := by decide +kernel
theorem d3_leastRoom_1 : decode c3_leastRoom 1 = .ok (.sipush 160, 3) := by decide +kernel
theorem d3_leastRoom_4 : decode c3_leastRoom 4 = .ok (.invokevirtual 74, 3) := by decide +kernel
theorem d3_leastRoom_7 : decode c3_leastRoom 7 = .ok (.iload_n 1, 1) := by decide +kernel
theorem d3_leastRoom_8 : decode c3_leastRoom 8 = .ok (.if_icmp .le 5, 3) := by decide +kernel
theorem d3_leastRoom_11 : decode c3_leastRoom 11 = .ok (.iconst (-1), 1) := by decide +kernel
theorem d3_leastRoom_12 : decode c3_leastRoom 12 = .ok (.ireturn, 1) := by decide +kernel
theorem d3_leastRoom_13 : decode c3_leastRoom 13 = .ok (.iconst 0, 1) := by decide +kernel
theorem d3_leastRoom_14 : decode c3_leastRoom 14 = .ok (.istore_n 2, 1) := by decide +kernel
theorem d3_leastRoom_15 : decode c3_leastRoom 15 = .ok (.sipush 160, 3) := by decide +kernel
theorem d3_leastRoom_18 : decode c3_leastRoom 18 = .ok (.istore_n 3, 1) := by decide +kernel
theorem d3_leastRoom_19 : decode c3_leastRoom 19 = .ok (.iconst 0, 1) := by decide +kernel
theorem d3_leastRoom_20 : decode c3_leastRoom 20 = .ok (.istore 4, 2) := by decide +kernel
theorem d3_leastRoom_22 : decode c3_leastRoom 22 = .ok (.iload 4, 2) := by decide +kernel
theorem d3_leastRoom_24 : decode c3_leastRoom 24 = .ok (.bipush 10, 2) := by decide +kernel
theorem d3_leastRoom_26 : decode c3_leastRoom 26 = .ok (.if_icmp .ge 42, 3) := by decide +kernel
theorem d3_leastRoom_29 : decode c3_leastRoom 29 = .ok (.iload_n 3, 1) := by decide +kernel
theorem d3_leastRoom_30 : decode c3_leastRoom 30 = .ok (.iload_n 2, 1) := by decide +kernel
theorem d3_leastRoom_31 : decode c3_leastRoom 31 = .ok (.isub, 1) := by decide +kernel
theorem d3_leastRoom_32 : decode c3_leastRoom 32 = .ok (.iconst 1, 1) := by decide +kernel
theorem d3_leastRoom_33 : decode c3_leastRoom 33 = .ok (.if_icmp .le 35, 3) := by decide +kernel
theorem d3_leastRoom_36 : decode c3_leastRoom 36 = .ok (.iload_n 2, 1) := by decide +kernel
theorem d3_leastRoom_37 : decode c3_leastRoom 37 = .ok (.iload_n 3, 1) := by decide +kernel
theorem d3_leastRoom_38 : decode c3_leastRoom 38 = .ok (.iadd, 1) := by decide +kernel
theorem d3_leastRoom_39 : decode c3_leastRoom 39 = .ok (.iconst 2, 1) := by decide +kernel
theorem d3_leastRoom_40 : decode c3_leastRoom 40 = .ok (.idiv, 1) := by decide +kernel
theorem d3_leastRoom_41 : decode c3_leastRoom 41 = .ok (.istore 5, 2) := by decide +kernel
theorem d3_leastRoom_43 : decode c3_leastRoom 43 = .ok (.aload_n 0, 1) := by decide +kernel
theorem d3_leastRoom_44 : decode c3_leastRoom 44 = .ok (.iload 5, 2) := by decide +kernel
theorem d3_leastRoom_46 : decode c3_leastRoom 46 = .ok (.invokevirtual 74, 3) := by decide +kernel
theorem d3_leastRoom_49 : decode c3_leastRoom 49 = .ok (.iload_n 1, 1) := by decide +kernel
theorem d3_leastRoom_50 : decode c3_leastRoom 50 = .ok (.if_icmp .gt 9, 3) := by decide +kernel
theorem d3_leastRoom_53 : decode c3_leastRoom 53 = .ok (.iload 5, 2) := by decide +kernel
theorem d3_leastRoom_55 : decode c3_leastRoom 55 = .ok (.istore_n 3, 1) := by decide +kernel
theorem d3_leastRoom_56 : decode c3_leastRoom 56 = .ok (.goto 6, 3) := by decide +kernel
theorem d3_leastRoom_59 : decode c3_leastRoom 59 = .ok (.iload 5, 2) := by decide +kernel
theorem d3_leastRoom_61 : decode c3_leastRoom 61 = .ok (.istore_n 2, 1) := by decide +kernel
theorem d3_leastRoom_62 : decode c3_leastRoom 62 = .ok (.iinc 4 1, 3) := by decide +kernel
theorem d3_leastRoom_65 : decode c3_leastRoom 65 = .ok (.goto (-43), 3) := by decide +kernel
theorem d3_leastRoom_68 : decode c3_leastRoom 68 = .ok (.iload_n 3, 1) := by decide +kernel
theorem d3_leastRoom_69 : decode c3_leastRoom 69 = .ok (.ireturn, 1) := by decide +kernel
def f3_leastRoom (D : Mem) (p0 : Int) : Option (Int × Mem) :=
  Option.bind (f3_leastBy D 160) fun (a1 : Int × Mem) =>
  if w32 p0 < w32 a1.1 then
    some ((-1), a1.2)
  else
    Option.bind (@loop (Int × Int × Int × Mem) (Int × Mem) (fun s1 =>
      if w32 s1.2.2.1 < w32 10 then
        if w32 1 < w32 (s1.2.1 - s1.1) then
          Option.bind (some (div32 (s1.1 + s1.2.1) 2)) fun (v1 : Int) =>
          Option.bind (f3_leastBy s1.2.2.2 v1) fun (a2 : Int × Mem) =>
          Option.bind (
            if w32 p0 < w32 a2.1 then
              some (v1, s1.2.1)
            else
              some (s1.1, v1)
          ) fun (j1 : Int × Int) =>
          some (Sum.inl (j1.1, j1.2, (s1.2.2.1 + 1), a2.2))
        else
          some (Sum.inr (s1.2.1, s1.2.2.2))
      else
        some (Sum.inr (s1.2.1, s1.2.2.2))
    ) FU (0, 160, 0, a1.2)) fun (b1 : Int × Mem) =>
    some (b1.1, b1.2)
set_option maxHeartbeats 4000000 in
theorem ok3_leastRoom {l : Launch} {X : XT} {n : Nat} {D : Mem} {Q : Option Value → Nat → Rho → Mem → Prop} (hn : 117 ≤ n) {p0 : Int}  (h : wpo (f3_leastRoom D p0) (fun a => Q (some (vI a.1)) n rt a.2)) : MOK l y3_leastRoom c3_leastRoom 6 (some .int) { frames := 4, cells := 0, slots := 0, locals := 111 } 0 0 X [vR X 49, vI p0] n rt D Q := by
  refine MOK_of 3 (by decide +kernel) rfl (lv := [(0, vR X 49), (1, vI p0)]) (Nat.le_of_ble_eq_true rfl) rfl (fun K hK F hnm => ?_)
  subst hK
  unfold f3_leastRoom at h
  refine r_aload_nR F 0 rfl rfl d3_leastRoom_0 ?_
  refine r_sipush F (z := 160) (by decide) d3_leastRoom_1 ?_
  replace h := wpo_bind h
  refine r_callV0 F lm3_74 mf3_leastBy (vc49 hn) rfl (fr := 3) (lo := 84) (As := [vI 160]) (rest := []) ⟨Nat.le_of_ble_eq_true rfl, Nat.le_of_ble_eq_true rfl⟩ rfl (Nat.le_of_ble_eq_true rfl) ⟨Nat.zero_le _, Nat.zero_le _⟩ d3_leastRoom_4 ?_
  refine ok3_leastBy hn  (kIm h (fun a1 h => ?_))
  refine r_iload_n F 1 rfl rfl d3_leastRoom_7 ?_
  refine r_icmp_le F (tgt := 13) d3_leastRoom_8 (by decide) (fun hb => ?_) (fun hb => ?_)
  · replace h := wpo_neg h hb
    refine r_iconst F (z := 0) d3_leastRoom_13 ?_
    refine r_istore_n F (lv' := [(2, vI 0), (0, vR X 49), (1, vI p0)]) rfl (Nat.le_of_ble_eq_true rfl) rfl d3_leastRoom_14 ?_
    refine r_sipush F (z := 160) (by decide) d3_leastRoom_15 ?_
    refine r_istore_n F (lv' := [(3, vI 160), (2, vI 0), (0, vR X 49), (1, vI p0)]) rfl (Nat.le_of_ble_eq_true rfl) rfl d3_leastRoom_18 ?_
    refine r_iconst F (z := 0) d3_leastRoom_19 ?_
    refine r_istore F (lv' := [(4, vI 0), (3, vI 160), (2, vI 0), (0, vR X 49), (1, vI p0)]) (Nat.le_of_ble_eq_true rfl) rfl d3_leastRoom_20 ?_
    refine r_weak [3, 4, 2, 1, 0] rfl ?_
    refine at_loopj (A := fun (s1 : Int × Int × Int × Mem) => At K X (ZQ K X Q) 0 0 n rt 6 22 [(0, vR X 49), (1, vI p0), (2, vI s1.1), (3, vI s1.2.1), (4, vI s1.2.2.1)] [] s1.2.2.2) (B := fun (b1 : Int × Mem) => At K X (ZQ K X Q) 0 0 n rt 6 68 [(3, vI b1.1)] [] b1.2) h (fun b1 h => ?_) (fun s1 h => ?_)
    · refine r_iload_n F 0 rfl rfl d3_leastRoom_68 ?_
      replace h := wpo_some h
      exact r_iret F h d3_leastRoom_69
    · refine r_iload F 4 rfl d3_leastRoom_22 ?_
      refine r_bipush F (z := 10) (by decide) d3_leastRoom_24 ?_
      refine r_icmp_ge F (tgt := 68) d3_leastRoom_26 (by decide) (fun hb => ?_) (fun hb => ?_)
      · replace h := wpo_neg h hb
        refine r_weak [3] rfl ?_
        replace h := wpo_inr h
        exact h
      · replace h := wpo_pos h hb
        refine r_iload_n F 3 rfl rfl d3_leastRoom_29 ?_
        refine r_iload_n F 2 rfl rfl d3_leastRoom_30 ?_
        refine r_isub F d3_leastRoom_31 ?_
        refine r_iconst F (z := 1) d3_leastRoom_32 ?_
        refine r_icmp_le F (tgt := 68) d3_leastRoom_33 (by decide) (fun hb => ?_) (fun hb => ?_)
        · replace h := wpo_neg h hb
          refine r_weak [3] rfl ?_
          replace h := wpo_inr h
          exact h
        · replace h := wpo_pos h hb
          refine r_iload_n F 2 rfl rfl d3_leastRoom_36 ?_
          refine r_iload_n F 3 rfl rfl d3_leastRoom_37 ?_
          refine r_iadd F d3_leastRoom_38 ?_
          refine r_iconst F (z := 2) d3_leastRoom_39 ?_
          refine r_idiv F (by decide +kernel) d3_leastRoom_40 ?_
          refine r_istore F (lv' := [(5, vI (div32 (s1.1 + s1.2.1) 2)), (0, vR X 49), (1, vI p0), (2, vI s1.1), (3, vI s1.2.1), (4, vI s1.2.2.1)]) (Nat.le_of_ble_eq_true rfl) rfl d3_leastRoom_41 ?_
          refine at_name (B := fun (v1 : Int) => At K X (ZQ K X Q) 0 0 n rt 6 43 [(5, vI v1), (0, vR X 49), (1, vI p0), (2, vI s1.1), (3, vI s1.2.1), (4, vI s1.2.2.1)] [] s1.2.2.2) h (fun v1 h => ?_)
          refine r_aload_nR F 1 rfl rfl d3_leastRoom_43 ?_
          refine r_iload F 0 rfl d3_leastRoom_44 ?_
          replace h := wpo_bind h
          refine r_callV0 F lm3_74 mf3_leastBy (vc49 hn) rfl (fr := 3) (lo := 84) (As := [vI v1]) (rest := []) ⟨Nat.le_of_ble_eq_true rfl, Nat.le_of_ble_eq_true rfl⟩ rfl (Nat.le_of_ble_eq_true rfl) ⟨Nat.zero_le _, Nat.zero_le _⟩ d3_leastRoom_46 ?_
          refine ok3_leastBy hn  (kIm h (fun a2 h => ?_))
          refine r_iload_n F 2 rfl rfl d3_leastRoom_49 ?_
          refine at_join (B := fun (j1 : Int × Int) => At K X (ZQ K X Q) 0 0 n rt 6 62 [(0, vR X 49), (1, vI p0), (2, vI j1.1), (3, vI j1.2), (4, vI s1.2.2.1)] [] a2.2) h (fun j1 h => ?_) (fun h => ?_)
          · refine r_iinc F 4 (lv' := [(4, vI (s1.2.2.1 + 1)), (0, vR X 49), (1, vI p0), (2, vI j1.1), (3, vI j1.2)]) rfl (Nat.le_of_ble_eq_true rfl) rfl d3_leastRoom_62 ?_
            refine r_goto F (tgt := 22) (by decide) d3_leastRoom_65 ?_
            refine r_weak [1, 2, 3, 4, 0] rfl ?_
            replace h := wpo_inl h
            exact h
          · refine r_icmp_gt F (tgt := 59) d3_leastRoom_50 (by decide) (fun hb => ?_) (fun hb => ?_)
            · replace h := wpo_pos h hb
              refine r_iload F 0 rfl d3_leastRoom_59 ?_
              refine r_istore_n F (lv' := [(2, vI v1), (5, vI v1), (0, vR X 49), (1, vI p0), (3, vI s1.2.1), (4, vI s1.2.2.1)]) rfl (Nat.le_of_ble_eq_true rfl) rfl d3_leastRoom_61 ?_
              refine r_weak [2, 3, 0, 4, 5] rfl ?_
              replace h := wpo_some h
              exact h
            · replace h := wpo_neg h hb
              refine r_iload F 0 rfl d3_leastRoom_53 ?_
              refine r_istore_n F (lv' := [(3, vI v1), (5, vI v1), (0, vR X 49), (1, vI p0), (2, vI s1.1), (4, vI s1.2.2.1)]) rfl (Nat.le_of_ble_eq_true rfl) rfl d3_leastRoom_55 ?_
              refine r_goto F (tgt := 62) (by decide) d3_leastRoom_56 ?_
              refine r_weak [2, 3, 4, 0, 5] rfl ?_
              replace h := wpo_some h
              exact h
  · replace h := wpo_pos h hb
    refine r_iconst F (z := (-1)) d3_leastRoom_11 ?_
    replace h := wpo_some h
    exact r_iret F h d3_leastRoom_12
theorem d9_room_0 : decode c9_room 0 = .ok (.aload_n 0, 1) := by decide +kernel
theorem d9_room_1 : decode c9_room 1 = .ok (.invokevirtual 159, 3) := by decide +kernel
theorem d9_room_4 : decode c9_room 4 = .ok (.ifCond .eq 14, 3) := by decide +kernel
theorem d9_room_7 : decode c9_room 7 = .ok (.iload_n 1, 1) := by decide +kernel
theorem d9_room_8 : decode c9_room 8 = .ok (.ifCond .lt 10, 3) := by decide +kernel
theorem d9_room_11 : decode c9_room 11 = .ok (.iload_n 1, 1) := by decide +kernel
theorem d9_room_12 : decode c9_room 12 = .ok (.sipush 20000, 3) := by decide +kernel
theorem d9_room_15 : decode c9_room 15 = .ok (.if_icmp .le 6, 3) := by decide +kernel
theorem d9_room_18 : decode c9_room 18 = .ok (.bipush (-2), 2) := by decide +kernel
theorem d9_room_20 : decode c9_room 20 = .ok (.ireturn, 1) := by decide +kernel
theorem d9_room_21 : decode c9_room 21 = .ok (.aload_n 0, 1) := by decide +kernel
theorem d9_room_22 : decode c9_room 22 = .ok (.getfield 61, 3) := by decide +kernel
theorem d9_room_25 : decode c9_room 25 = .ok (.invokevirtual 233, 3) := by decide +kernel
theorem d9_room_28 : decode c9_room 28 = .ok (.aload_n 0, 1) := by decide +kernel
theorem d9_room_29 : decode c9_room 29 = .ok (.getfield 61, 3) := by decide +kernel
theorem d9_room_32 : decode c9_room 32 = .ok (.iload_n 1, 1) := by decide +kernel
theorem d9_room_33 : decode c9_room 33 = .ok (.invokevirtual 248, 3) := by decide +kernel
theorem d9_room_36 : decode c9_room 36 = .ok (.ireturn, 1) := by decide +kernel
def f9_room (D : Mem) (p0 : Int) : Option (Int × Mem) :=
  Option.bind (f9_isThere D) fun (a1 : Int) =>
  if w32 a1 = 0 then
    some ((-2), D)
  else
    if w32 p0 < 0 then
      some ((-2), D)
    else
      if w32 20000 < w32 p0 then
        some ((-2), D)
      else
        Option.bind (f3_work D) fun (a2 : Mem) =>
        Option.bind (f3_leastRoom a2 p0) fun (a3 : Int × Mem) =>
        some (a3.1, a3.2)
set_option maxHeartbeats 4000000 in
theorem ok9_room {l : Launch} {X : XT} {n : Nat} {D : Mem} {Q : Option Value → Nat → Rho → Mem → Prop} (hn : 117 ≤ n) {p0 : Int}  (h : wpo (f9_room D p0) (fun a => Q (some (vI a.1)) n rt a.2)) : MOK l y9_room c9_room 2 (some .int) { frames := 5, cells := 0, slots := 0, locals := 136 } 0 0 X [vR X 0, vI p0] n rt D Q := by
  refine MOK_of 9 (by decide +kernel) rfl (lv := [(0, vR X 0), (1, vI p0)]) (Nat.le_of_ble_eq_true rfl) rfl (fun K hK F hnm => ?_)
  subst hK
  unfold f9_room at h
  refine r_aload_nR F 0 rfl rfl d9_room_0 ?_
  replace h := wpo_bind h
  refine r_callV0 F lm9_159 mf9_isThere (vc0 hn) rfl (fr := 0) (lo := 0) (As := []) (rest := []) ⟨Nat.le_of_ble_eq_true rfl, Nat.le_of_ble_eq_true rfl⟩ rfl (Nat.le_of_ble_eq_true rfl) ⟨Nat.zero_le _, Nat.zero_le _⟩ d9_room_1 ?_
  refine ok9_isThere hn  (kI h (fun a1 h => ?_))
  refine r_if_eq F (tgt := 18) d9_room_4 (by decide) (fun hb => ?_) (fun hb => ?_)
  · replace h := wpo_pos h hb
    refine r_bipush F (z := (-2)) (by decide) d9_room_18 ?_
    replace h := wpo_some h
    exact r_iret F h d9_room_20
  · replace h := wpo_neg h hb
    refine r_iload_n F 1 rfl rfl d9_room_7 ?_
    refine r_if_lt F (tgt := 18) d9_room_8 (by decide) (fun hb => ?_) (fun hb => ?_)
    · replace h := wpo_pos h hb
      refine r_bipush F (z := (-2)) (by decide) d9_room_18 ?_
      replace h := wpo_some h
      exact r_iret F h d9_room_20
    · replace h := wpo_neg h hb
      refine r_iload_n F 1 rfl rfl d9_room_11 ?_
      refine r_sipush F (z := 20000) (by decide) d9_room_12 ?_
      refine r_icmp_le F (tgt := 21) d9_room_15 (by decide) (fun hb => ?_) (fun hb => ?_)
      · replace h := wpo_neg h hb
        refine r_aload_nR F 0 rfl rfl d9_room_21 ?_
        refine r_getR F (z := 49) lf9_61 (vc0 hn) z0_8 d9_room_22 ?_
        replace h := wpo_bind h
        refine r_callV0 F lm9_233 mf3_work (vc49 hn) rfl (fr := 3) (lo := 84) (As := []) (rest := []) ⟨Nat.le_of_ble_eq_true rfl, Nat.le_of_ble_eq_true rfl⟩ rfl (Nat.le_of_ble_eq_true rfl) ⟨Nat.zero_le _, Nat.zero_le _⟩ d9_room_25 ?_
        refine ok3_work hn  (kVm h (fun a2 h => ?_))
        refine r_aload_nR F 0 rfl rfl d9_room_28 ?_
        refine r_getR F (z := 49) lf9_61 (vc0 hn) z0_8 d9_room_29 ?_
        refine r_iload_n F 1 rfl rfl d9_room_32 ?_
        replace h := wpo_bind h
        refine r_callV0 F lm9_248 mf3_leastRoom (vc49 hn) rfl (fr := 4) (lo := 111) (As := [vI p0]) (rest := []) ⟨Nat.le_of_ble_eq_true rfl, Nat.le_of_ble_eq_true rfl⟩ rfl (Nat.le_of_ble_eq_true rfl) ⟨Nat.zero_le _, Nat.zero_le _⟩ d9_room_33 ?_
        refine ok3_leastRoom hn  (kIm h (fun a3 h => ?_))
        replace h := wpo_some h
        exact r_iret F h d9_room_36
      · replace h := wpo_pos h hb
        refine r_bipush F (z := (-2)) (by decide) d9_room_18 ?_
        replace h := wpo_some h
        exact r_iret F h d9_room_20
theorem d0_findHelpers_0 : decode c0_findHelpers 0 = .ok (.iconst 0, 1) := by decide +kernel
theorem d0_findHelpers_1 : decode c0_findHelpers 1 = .ok (.istore 4, 2) := by decide +kernel
theorem d0_findHelpers_3 : decode c0_findHelpers 3 = .ok (.iload 4, 2) := by decide +kernel
theorem d0_findHelpers_5 : decode c0_findHelpers 5 = .ok (.aload_n 0, 1) := by decide +kernel
theorem d0_findHelpers_6 : decode c0_findHelpers 6 = .ok (.getfield 38, 3) := by decide +kernel
theorem d0_findHelpers_9 : decode c0_findHelpers 9 = .ok (.getfield 52, 3) := by decide +kernel
theorem d0_findHelpers_12 : decode c0_findHelpers 12 = .ok (.if_icmp .ge 95, 3) := by decide +kernel
theorem d0_findHelpers_15 : decode c0_findHelpers 15 = .ok (.aload_n 1, 1) := by decide +kernel
theorem d0_findHelpers_16 : decode c0_findHelpers 16 = .ok (.iload 4, 2) := by decide +kernel
theorem d0_findHelpers_18 : decode c0_findHelpers 18 = .ok (.iconst 0, 1) := by decide +kernel
theorem d0_findHelpers_19 : decode c0_findHelpers 19 = .ok (.iastore, 1) := by decide +kernel
theorem d0_findHelpers_20 : decode c0_findHelpers 20 = .ok (.iconst 0, 1) := by decide +kernel
theorem d0_findHelpers_21 : decode c0_findHelpers 21 = .ok (.istore 5, 2) := by decide +kernel
theorem d0_findHelpers_23 : decode c0_findHelpers 23 = .ok (.iload 5, 2) := by decide +kernel
theorem d0_findHelpers_25 : decode c0_findHelpers 25 = .ok (.aload_n 0, 1) := by decide +kernel
theorem d0_findHelpers_26 : decode c0_findHelpers 26 = .ok (.getfield 38, 3) := by decide +kernel
theorem d0_findHelpers_29 : decode c0_findHelpers 29 = .ok (.getfield 52, 3) := by decide +kernel
theorem d0_findHelpers_32 : decode c0_findHelpers 32 = .ok (.if_icmp .ge 69, 3) := by decide +kernel
theorem d0_findHelpers_35 : decode c0_findHelpers 35 = .ok (.aload_n 0, 1) := by decide +kernel
theorem d0_findHelpers_36 : decode c0_findHelpers 36 = .ok (.getfield 38, 3) := by decide +kernel
theorem d0_findHelpers_39 : decode c0_findHelpers 39 = .ok (.getfield 57, 3) := by decide +kernel
theorem d0_findHelpers_42 : decode c0_findHelpers 42 = .ok (.iload 5, 2) := by decide +kernel
theorem d0_findHelpers_44 : decode c0_findHelpers 44 = .ok (.iaload, 1) := by decide +kernel
theorem d0_findHelpers_45 : decode c0_findHelpers 45 = .ok (.iload_n 2, 1) := by decide +kernel
theorem d0_findHelpers_46 : decode c0_findHelpers 46 = .ok (.iload 5, 2) := by decide +kernel
theorem d0_findHelpers_48 : decode c0_findHelpers 48 = .ok (.ishr, 1) := by decide +kernel
theorem d0_findHelpers_49 : decode c0_findHelpers 49 = .ok (.iconst 1, 1) := by decide +kernel
theorem d0_findHelpers_50 : decode c0_findHelpers 50 = .ok (.iand, 1) := by decide +kernel
theorem d0_findHelpers_51 : decode c0_findHelpers 51 = .ok (.ifCond .eq 7, 3) := by decide +kernel
theorem d0_findHelpers_54 : decode c0_findHelpers 54 = .ok (.iload_n 3, 1) := by decide +kernel
theorem d0_findHelpers_55 : decode c0_findHelpers 55 = .ok (.goto 4, 3) := by decide +kernel
theorem d0_findHelpers_58 : decode c0_findHelpers 58 = .ok (.iconst 0, 1) := by decide +kernel
theorem d0_findHelpers_59 : decode c0_findHelpers 59 = .ok (.iadd, 1) := by decide +kernel
theorem d0_findHelpers_60 : decode c0_findHelpers 60 = .ok (.istore 6, 2) := by decide +kernel
theorem d0_findHelpers_62 : decode c0_findHelpers 62 = .ok (.iload 5, 2) := by decide +kernel
theorem d0_findHelpers_64 : decode c0_findHelpers 64 = .ok (.iload 4, 2) := by decide +kernel
theorem d0_findHelpers_66 : decode c0_findHelpers 66 = .ok (.if_icmp .eq 29, 3) := by decide +kernel
theorem d0_findHelpers_69 : decode c0_findHelpers 69 = .ok (.aload_n 0, 1) := by decide +kernel
theorem d0_findHelpers_70 : decode c0_findHelpers 70 = .ok (.getfield 38, 3) := by decide +kernel
theorem d0_findHelpers_73 : decode c0_findHelpers 73 = .ok (.getfield 60, 3) := by decide +kernel
theorem d0_findHelpers_76 : decode c0_findHelpers 76 = .ok (.iload 4, 2) := by decide +kernel
theorem d0_findHelpers_78 : decode c0_findHelpers 78 = .ok (.iaload, 1) := by decide +kernel
theorem d0_findHelpers_79 : decode c0_findHelpers 79 = .ok (.iload 6, 2) := by decide +kernel
theorem d0_findHelpers_81 : decode c0_findHelpers 81 = .ok (.if_icmp .gt 14, 3) := by decide +kernel
theorem d0_findHelpers_84 : decode c0_findHelpers 84 = .ok (.aload_n 1, 1) := by decide +kernel
theorem d0_findHelpers_85 : decode c0_findHelpers 85 = .ok (.iload 4, 2) := by decide +kernel
theorem d0_findHelpers_87 : decode c0_findHelpers 87 = .ok (.dup2, 1) := by decide +kernel
theorem d0_findHelpers_88 : decode c0_findHelpers 88 = .ok (.iaload, 1) := by decide +kernel
theorem d0_findHelpers_89 : decode c0_findHelpers 89 = .ok (.iconst 1, 1) := by decide +kernel
theorem d0_findHelpers_90 : decode c0_findHelpers 90 = .ok (.iload 5, 2) := by decide +kernel
theorem d0_findHelpers_92 : decode c0_findHelpers 92 = .ok (.ishl, 1) := by decide +kernel
theorem d0_findHelpers_93 : decode c0_findHelpers 93 = .ok (.ior, 1) := by decide +kernel
theorem d0_findHelpers_94 : decode c0_findHelpers 94 = .ok (.iastore, 1) := by decide +kernel
theorem d0_findHelpers_95 : decode c0_findHelpers 95 = .ok (.iinc 5 1, 3) := by decide +kernel
theorem d0_findHelpers_98 : decode c0_findHelpers 98 = .ok (.goto (-75), 3) := by decide +kernel
theorem d0_findHelpers_101 : decode c0_findHelpers 101 = .ok (.iinc 4 1, 3) := by decide +kernel
theorem d0_findHelpers_104 : decode c0_findHelpers 104 = .ok (.goto (-101), 3) := by decide +kernel
theorem d0_findHelpers_107 : decode c0_findHelpers 107 = .ok (.return_, 1) := by decide +kernel
def f0_findHelpers (D : Mem) (p0 : Nat) (p1 : Int) (p2 : Int) : Option (Mem) :=
  Option.bind (@loop (Int × Mem) (Mem) (fun s1 =>
    if w32 s1.1 < w32 (s1.2 12 8) then
      if 0 ≤ s1.1 ∧ s1.1 < 8 then
        Option.bind (some (mset s1.2 p0 s1.1.toNat 0)) fun (D1 : Mem) =>
        Option.bind (@loop (Int × Mem) (Mem) (fun s2 =>
          if w32 s2.1 < w32 (s2.2 12 8) then
            if 0 ≤ s2.1 ∧ s2.1 < 8 then
              Option.bind (
                if w32 (and32 (shr32 p1 s2.1) 1) = 0 then
                  some 0
                else
                  some p2
              ) fun (j1 : Int) =>
              Option.bind (some ((s2.2 16 s2.1.toNat) + j1)) fun (v1 : Int) =>
              Option.bind (
                if w32 s2.1 = w32 s1.1 then
                  some s2.2
                else
                  if w32 v1 < w32 (s2.2 13 s1.1.toNat) then
                    some s2.2
                  else
                    some (mset s2.2 p0 s1.1.toNat (or32 (s2.2 p0 s1.1.toNat) (shl32 1 s2.1)))
              ) fun (j2 : Mem) =>
              some (Sum.inl ((s2.1 + 1), j2))
            else none
          else
            some (Sum.inr s2.2)
        ) FU (0, D1)) fun (b2 : Mem) =>
        some (Sum.inl ((s1.1 + 1), b2))
      else none
    else
      some (Sum.inr s1.2)
  ) FU (0, D)) fun (b1 : Mem) =>
  some b1
set_option maxHeartbeats 4000000 in
theorem ok0_findHelpers {l : Launch} {X : XT} {n : Nat} {D : Mem} {Q : Option Value → Nat → Rho → Mem → Prop} (hn : 117 ≤ n) {p0 : Nat} {p1 : Int} {p2 : Int} (ho0 : VA n p0 1 8) (h : wpo (f0_findHelpers D p0 p1 p2) (fun a => Q none n rt a)) : MOK l y0_findHelpers c0_findHelpers 7 (none) { frames := 0, cells := 0, slots := 0, locals := 0 } 0 0 X [vR X 58, vR X p0, vI p1, vI p2] n rt D Q := by
  refine MOK_of 0 (by decide +kernel) rfl (lv := [(0, vR X 58), (1, vR X p0), (2, vI p1), (3, vI p2)]) (Nat.le_of_ble_eq_true rfl) rfl (fun K hK F hnm => ?_)
  subst hK
  unfold f0_findHelpers at h
  refine r_iconst F (z := 0) d0_findHelpers_0 ?_
  refine r_istore F (lv' := [(4, vI 0), (0, vR X 58), (1, vR X p0), (2, vI p1), (3, vI p2)]) (Nat.le_of_ble_eq_true rfl) rfl d0_findHelpers_1 ?_
  refine r_weak [1, 2, 3, 4, 0] rfl ?_
  refine at_loopj (A := fun (s1 : Int × Mem) => At K X (ZQ K X Q) 0 0 n rt 7 3 [(0, vR X 58), (1, vR X p0), (2, vI p1), (3, vI p2), (4, vI s1.1)] [] s1.2) (B := fun (b1 : Mem) => At K X (ZQ K X Q) 0 0 n rt 7 107 [] [] b1) h (fun b1 h => ?_) (fun s1 h => ?_)
  · replace h := wpo_some h
    exact r_vret F h d0_findHelpers_107
  · refine r_iload F 4 rfl d0_findHelpers_3 ?_
    refine r_aload_nR F 0 rfl rfl d0_findHelpers_5 ?_
    refine r_getR F (z := 12) lf0_38 (vc58 hn) z58_0 d0_findHelpers_6 ?_
    refine r_getI F lf0_52 (vc12 hn) d0_findHelpers_9 ?_
    refine r_icmp_ge F (tgt := 107) d0_findHelpers_12 (by decide) (fun hb => ?_) (fun hb => ?_)
    · replace h := wpo_neg h hb
      refine r_weak [] rfl ?_
      replace h := wpo_inr h
      exact h
    · replace h := wpo_pos h hb
      refine r_aload_nR F 1 rfl rfl d0_findHelpers_15 ?_
      refine r_iload F 4 rfl d0_findHelpers_16 ?_
      refine r_iconst F (z := 0) d0_findHelpers_18 ?_
      obtain ⟨hx1, h⟩ := wpo_chk h
      refine r_iast F ho0 hx1 d0_findHelpers_19 ?_
      refine r_iconst F (z := 0) d0_findHelpers_20 ?_
      refine r_istore F (lv' := [(5, vI 0), (0, vR X 58), (1, vR X p0), (2, vI p1), (3, vI p2), (4, vI s1.1)]) (Nat.le_of_ble_eq_true rfl) rfl d0_findHelpers_21 ?_
      refine at_name (B := fun (D1 : Mem) => At K X (ZQ K X Q) 0 0 n rt 7 23 [(5, vI 0), (0, vR X 58), (1, vR X p0), (2, vI p1), (3, vI p2), (4, vI s1.1)] [] D1) h (fun D1 h => ?_)
      refine r_weak [1, 2, 3, 4, 5, 0] rfl ?_
      refine at_loopj (A := fun (s2 : Int × Mem) => At K X (ZQ K X Q) 0 0 n rt 7 23 [(0, vR X 58), (1, vR X p0), (2, vI p1), (3, vI p2), (4, vI s1.1), (5, vI s2.1)] [] s2.2) (B := fun (b2 : Mem) => At K X (ZQ K X Q) 0 0 n rt 7 101 [(0, vR X 58), (1, vR X p0), (2, vI p1), (3, vI p2), (4, vI s1.1)] [] b2) h (fun b2 h => ?_) (fun s2 h => ?_)
      · refine r_iinc F 4 (lv' := [(4, vI (s1.1 + 1)), (0, vR X 58), (1, vR X p0), (2, vI p1), (3, vI p2)]) rfl (Nat.le_of_ble_eq_true rfl) rfl d0_findHelpers_101 ?_
        refine r_goto F (tgt := 3) (by decide) d0_findHelpers_104 ?_
        refine r_weak [1, 2, 3, 4, 0] rfl ?_
        replace h := wpo_inl h
        exact h
      · refine r_iload F 5 rfl d0_findHelpers_23 ?_
        refine r_aload_nR F 0 rfl rfl d0_findHelpers_25 ?_
        refine r_getR F (z := 12) lf0_38 (vc58 hn) z58_0 d0_findHelpers_26 ?_
        refine r_getI F lf0_52 (vc12 hn) d0_findHelpers_29 ?_
        refine r_icmp_ge F (tgt := 101) d0_findHelpers_32 (by decide) (fun hb => ?_) (fun hb => ?_)
        · replace h := wpo_neg h hb
          refine r_weak [0, 1, 2, 3, 4] rfl ?_
          replace h := wpo_inr h
          exact h
        · replace h := wpo_pos h hb
          refine r_aload_nR F 0 rfl rfl d0_findHelpers_35 ?_
          refine r_getR F (z := 12) lf0_38 (vc58 hn) z58_0 d0_findHelpers_36 ?_
          refine r_getR F (z := 16) lf0_57 (vc12 hn) z12_13 d0_findHelpers_39 ?_
          refine r_iload F 5 rfl d0_findHelpers_42 ?_
          obtain ⟨hx2, h⟩ := wpo_chk h
          refine r_iald F (vc16 hn) hx2 d0_findHelpers_44 ?_
          refine r_iload_n F 2 rfl rfl d0_findHelpers_45 ?_
          refine r_iload F 5 rfl d0_findHelpers_46 ?_
          refine r_ishr F d0_findHelpers_48 ?_
          refine r_iconst F (z := 1) d0_findHelpers_49 ?_
          refine r_iand F d0_findHelpers_50 ?_
          refine at_join (B := fun (j1 : Int) => At K X (ZQ K X Q) 0 0 n rt 7 59 [(0, vR X 58), (1, vR X p0), (2, vI p1), (3, vI p2), (4, vI s1.1), (5, vI s2.1)] [vI j1, vI (s2.2 16 s2.1.toNat)] s2.2) h (fun j1 h => ?_) (fun h => ?_)
          · refine r_iadd F d0_findHelpers_59 ?_
            refine r_istore F (lv' := [(6, vI ((s2.2 16 s2.1.toNat) + j1)), (0, vR X 58), (1, vR X p0), (2, vI p1), (3, vI p2), (4, vI s1.1), (5, vI s2.1)]) (Nat.le_of_ble_eq_true rfl) rfl d0_findHelpers_60 ?_
            refine at_name (B := fun (v1 : Int) => At K X (ZQ K X Q) 0 0 n rt 7 62 [(6, vI v1), (0, vR X 58), (1, vR X p0), (2, vI p1), (3, vI p2), (4, vI s1.1), (5, vI s2.1)] [] s2.2) h (fun v1 h => ?_)
            refine r_iload F 6 rfl d0_findHelpers_62 ?_
            refine r_iload F 5 rfl d0_findHelpers_64 ?_
            refine at_join (B := fun (j2 : Mem) => At K X (ZQ K X Q) 0 0 n rt 7 95 [(0, vR X 58), (1, vR X p0), (2, vI p1), (3, vI p2), (4, vI s1.1), (5, vI s2.1)] [] j2) h (fun j2 h => ?_) (fun h => ?_)
            · refine r_iinc F 5 (lv' := [(5, vI (s2.1 + 1)), (0, vR X 58), (1, vR X p0), (2, vI p1), (3, vI p2), (4, vI s1.1)]) rfl (Nat.le_of_ble_eq_true rfl) rfl d0_findHelpers_95 ?_
              refine r_goto F (tgt := 23) (by decide) d0_findHelpers_98 ?_
              refine r_weak [1, 2, 3, 4, 5, 0] rfl ?_
              replace h := wpo_inl h
              exact h
            · refine r_icmp_eq F (tgt := 95) d0_findHelpers_66 (by decide) (fun hb => ?_) (fun hb => ?_)
              · replace h := wpo_pos h hb
                refine r_weak [1, 2, 3, 4, 5, 6] rfl ?_
                replace h := wpo_some h
                exact h
              · replace h := wpo_neg h hb
                refine r_aload_nR F 1 rfl rfl d0_findHelpers_69 ?_
                refine r_getR F (z := 12) lf0_38 (vc58 hn) z58_0 d0_findHelpers_70 ?_
                refine r_getR F (z := 13) lf0_60 (vc12 hn) z12_10 d0_findHelpers_73 ?_
                refine r_iload F 5 rfl d0_findHelpers_76 ?_
                refine r_iald F (vc13 hn) hx1 d0_findHelpers_78 ?_
                refine r_iload F 0 rfl d0_findHelpers_79 ?_
                refine r_icmp_gt F (tgt := 95) d0_findHelpers_81 (by decide) (fun hb => ?_) (fun hb => ?_)
                · replace h := wpo_pos h hb
                  refine r_weak [1, 2, 3, 4, 5, 6] rfl ?_
                  replace h := wpo_some h
                  exact h
                · replace h := wpo_neg h hb
                  refine r_aload_nR F 2 rfl rfl d0_findHelpers_84 ?_
                  refine r_iload F 5 rfl d0_findHelpers_85 ?_
                  refine r_dup2 F rfl rfl d0_findHelpers_87 ?_
                  refine r_iald F ho0 hx1 d0_findHelpers_88 ?_
                  refine r_iconst F (z := 1) d0_findHelpers_89 ?_
                  refine r_iload F 6 rfl d0_findHelpers_90 ?_
                  refine r_ishl F d0_findHelpers_92 ?_
                  refine r_ior F d0_findHelpers_93 ?_
                  refine r_iast F ho0 hx1 d0_findHelpers_94 ?_
                  refine r_weak [1, 2, 3, 4, 5, 6] rfl ?_
                  replace h := wpo_some h
                  exact h
          · refine r_if_eq F (tgt := 58) d0_findHelpers_51 (by decide) (fun hb => ?_) (fun hb => ?_)
            · replace h := wpo_pos h hb
              refine r_iconst F (z := 0) d0_findHelpers_58 ?_
              replace h := wpo_some h
              exact h
            · replace h := wpo_neg h hb
              refine r_iload_n F 3 rfl rfl d0_findHelpers_54 ?_
              refine r_goto F (tgt := 59) (by decide) d0_findHelpers_55 ?_
              replace h := wpo_some h
              exact h
theorem d0_countFromBehind_0 : decode c0_countFromBehind 0 = .ok (.aload_n 0, 1) := by decide +kernel
theorem d0_countFromBehind_1 : decode c0_countFromBehind 1 = .ok (.getfield 38, 3) := by decide +kernel
theorem d0_countFromBehind_4 : decode c0_countFromBehind 4 = .ok (.getfield 52, 3) := by decide +kernel
theorem d0_countFromBehind_7 : decode c0_countFromBehind 7 = .ok (.istore_n 1, 1) := by decide +kernel
theorem d0_countFromBehind_8 : decode c0_countFromBehind 8 = .ok (.iconst 1, 1) := by decide +kernel
theorem d0_countFromBehind_9 : decode c0_countFromBehind 9 = .ok (.iload_n 1, 1) := by decide +kernel
theorem d0_countFromBehind_10 : decode c0_countFromBehind 10 = .ok (.ishl, 1) := by decide +kernel
theorem d0_countFromBehind_11 : decode c0_countFromBehind 11 = .ok (.istore_n 2, 1) := by decide +kernel
theorem d0_countFromBehind_12 : decode c0_countFromBehind 12 = .ok (.iconst 0, 1) := by decide +kernel
theorem d0_countFromBehind_13 : decode c0_countFromBehind 13 = .ok (.istore_n 3, 1) := by decide +kernel
theorem d0_countFromBehind_14 : decode c0_countFromBehind 14 = .ok (.iload_n 3, 1) := by decide +kernel
theorem d0_countFromBehind_15 : decode c0_countFromBehind 15 = .ok (.iload_n 2, 1) := by decide +kernel
theorem d0_countFromBehind_16 : decode c0_countFromBehind 16 = .ok (.if_icmp .ge 22, 3) := by decide +kernel
theorem d0_countFromBehind_19 : decode c0_countFromBehind 19 = .ok (.aload_n 0, 1) := by decide +kernel
theorem d0_countFromBehind_20 : decode c0_countFromBehind 20 = .ok (.getfield 32, 3) := by decide +kernel
theorem d0_countFromBehind_23 : decode c0_countFromBehind 23 = .ok (.iload_n 1, 1) := by decide +kernel
theorem d0_countFromBehind_24 : decode c0_countFromBehind 24 = .ok (.sipush 256, 3) := by decide +kernel
theorem d0_countFromBehind_27 : decode c0_countFromBehind 27 = .ok (.imul, 1) := by decide +kernel
theorem d0_countFromBehind_28 : decode c0_countFromBehind 28 = .ok (.iload_n 3, 1) := by decide +kernel
theorem d0_countFromBehind_29 : decode c0_countFromBehind 29 = .ok (.iadd, 1) := by decide +kernel
theorem d0_countFromBehind_30 : decode c0_countFromBehind 30 = .ok (.iconst 0, 1) := by decide +kernel
theorem d0_countFromBehind_31 : decode c0_countFromBehind 31 = .ok (.iastore, 1) := by decide +kernel
theorem d0_countFromBehind_32 : decode c0_countFromBehind 32 = .ok (.iinc 3 1, 3) := by decide +kernel
theorem d0_countFromBehind_35 : decode c0_countFromBehind 35 = .ok (.goto (-21), 3) := by decide +kernel
theorem d0_countFromBehind_38 : decode c0_countFromBehind 38 = .ok (.iload_n 1, 1) := by decide +kernel
theorem d0_countFromBehind_39 : decode c0_countFromBehind 39 = .ok (.iconst 1, 1) := by decide +kernel
theorem d0_countFromBehind_40 : decode c0_countFromBehind 40 = .ok (.isub, 1) := by decide +kernel
theorem d0_countFromBehind_41 : decode c0_countFromBehind 41 = .ok (.istore_n 3, 1) := by decide +kernel
theorem d0_countFromBehind_42 : decode c0_countFromBehind 42 = .ok (.iload_n 3, 1) := by decide +kernel
theorem d0_countFromBehind_43 : decode c0_countFromBehind 43 = .ok (.ifCond .lt 123, 3) := by decide +kernel
theorem d0_countFromBehind_46 : decode c0_countFromBehind 46 = .ok (.iconst 0, 1) := by decide +kernel
theorem d0_countFromBehind_47 : decode c0_countFromBehind 47 = .ok (.istore 4, 2) := by decide +kernel
theorem d0_countFromBehind_49 : decode c0_countFromBehind 49 = .ok (.iload 4, 2) := by decide +kernel
theorem d0_countFromBehind_51 : decode c0_countFromBehind 51 = .ok (.iload_n 2, 1) := by decide +kernel
theorem d0_countFromBehind_52 : decode c0_countFromBehind 52 = .ok (.if_icmp .ge 108, 3) := by decide +kernel
theorem d0_countFromBehind_55 : decode c0_countFromBehind 55 = .ok (.aload_n 0, 1) := by decide +kernel
theorem d0_countFromBehind_56 : decode c0_countFromBehind 56 = .ok (.getfield 32, 3) := by decide +kernel
theorem d0_countFromBehind_59 : decode c0_countFromBehind 59 = .ok (.iload_n 3, 1) := by decide +kernel
theorem d0_countFromBehind_60 : decode c0_countFromBehind 60 = .ok (.iconst 1, 1) := by decide +kernel
theorem d0_countFromBehind_61 : decode c0_countFromBehind 61 = .ok (.iadd, 1) := by decide +kernel
theorem d0_countFromBehind_62 : decode c0_countFromBehind 62 = .ok (.sipush 256, 3) := by decide +kernel
theorem d0_countFromBehind_65 : decode c0_countFromBehind 65 = .ok (.imul, 1) := by decide +kernel
theorem d0_countFromBehind_66 : decode c0_countFromBehind 66 = .ok (.iload 4, 2) := by decide +kernel
theorem d0_countFromBehind_68 : decode c0_countFromBehind 68 = .ok (.iadd, 1) := by decide +kernel
theorem d0_countFromBehind_69 : decode c0_countFromBehind 69 = .ok (.iaload, 1) := by decide +kernel
theorem d0_countFromBehind_70 : decode c0_countFromBehind 70 = .ok (.istore 5, 2) := by decide +kernel
theorem d0_countFromBehind_72 : decode c0_countFromBehind 72 = .ok (.aload_n 0, 1) := by decide +kernel
theorem d0_countFromBehind_73 : decode c0_countFromBehind 73 = .ok (.getfield 26, 3) := by decide +kernel
theorem d0_countFromBehind_76 : decode c0_countFromBehind 76 = .ok (.iload_n 3, 1) := by decide +kernel
theorem d0_countFromBehind_77 : decode c0_countFromBehind 77 = .ok (.iaload, 1) := by decide +kernel
theorem d0_countFromBehind_78 : decode c0_countFromBehind 78 = .ok (.iload 4, 2) := by decide +kernel
theorem d0_countFromBehind_80 : decode c0_countFromBehind 80 = .ok (.iconst (-1), 1) := by decide +kernel
theorem d0_countFromBehind_81 : decode c0_countFromBehind 81 = .ok (.ixor, 1) := by decide +kernel
theorem d0_countFromBehind_82 : decode c0_countFromBehind 82 = .ok (.iand, 1) := by decide +kernel
theorem d0_countFromBehind_83 : decode c0_countFromBehind 83 = .ok (.istore 6, 2) := by decide +kernel
theorem d0_countFromBehind_85 : decode c0_countFromBehind 85 = .ok (.iconst 0, 1) := by decide +kernel
theorem d0_countFromBehind_86 : decode c0_countFromBehind 86 = .ok (.istore 7, 2) := by decide +kernel
theorem d0_countFromBehind_88 : decode c0_countFromBehind 88 = .ok (.iload 7, 2) := by decide +kernel
theorem d0_countFromBehind_90 : decode c0_countFromBehind 90 = .ok (.iload_n 1, 1) := by decide +kernel
theorem d0_countFromBehind_91 : decode c0_countFromBehind 91 = .ok (.if_icmp .ge 48, 3) := by decide +kernel
theorem d0_countFromBehind_94 : decode c0_countFromBehind 94 = .ok (.iload 6, 2) := by decide +kernel
theorem d0_countFromBehind_96 : decode c0_countFromBehind 96 = .ok (.iload 7, 2) := by decide +kernel
theorem d0_countFromBehind_98 : decode c0_countFromBehind 98 = .ok (.ishr, 1) := by decide +kernel
theorem d0_countFromBehind_99 : decode c0_countFromBehind 99 = .ok (.iconst 1, 1) := by decide +kernel
theorem d0_countFromBehind_100 : decode c0_countFromBehind 100 = .ok (.iand, 1) := by decide +kernel
theorem d0_countFromBehind_101 : decode c0_countFromBehind 101 = .ok (.ifCond .eq 32, 3) := by decide +kernel
theorem d0_countFromBehind_104 : decode c0_countFromBehind 104 = .ok (.iload 5, 2) := by decide +kernel
theorem d0_countFromBehind_106 : decode c0_countFromBehind 106 = .ok (.iconst 1, 1) := by decide +kernel
theorem d0_countFromBehind_107 : decode c0_countFromBehind 107 = .ok (.aload_n 0, 1) := by decide +kernel
theorem d0_countFromBehind_108 : decode c0_countFromBehind 108 = .ok (.getfield 32, 3) := by decide +kernel
theorem d0_countFromBehind_111 : decode c0_countFromBehind 111 = .ok (.iload_n 3, 1) := by decide +kernel
theorem d0_countFromBehind_112 : decode c0_countFromBehind 112 = .ok (.iconst 1, 1) := by decide +kernel
theorem d0_countFromBehind_113 : decode c0_countFromBehind 113 = .ok (.iadd, 1) := by decide +kernel
theorem d0_countFromBehind_114 : decode c0_countFromBehind 114 = .ok (.sipush 256, 3) := by decide +kernel
theorem d0_countFromBehind_117 : decode c0_countFromBehind 117 = .ok (.imul, 1) := by decide +kernel
theorem d0_countFromBehind_118 : decode c0_countFromBehind 118 = .ok (.iload 4, 2) := by decide +kernel
theorem d0_countFromBehind_120 : decode c0_countFromBehind 120 = .ok (.iconst 1, 1) := by decide +kernel
theorem d0_countFromBehind_121 : decode c0_countFromBehind 121 = .ok (.iload 7, 2) := by decide +kernel
theorem d0_countFromBehind_123 : decode c0_countFromBehind 123 = .ok (.ishl, 1) := by decide +kernel
theorem d0_countFromBehind_124 : decode c0_countFromBehind 124 = .ok (.ior, 1) := by decide +kernel
theorem d0_countFromBehind_125 : decode c0_countFromBehind 125 = .ok (.iadd, 1) := by decide +kernel
theorem d0_countFromBehind_126 : decode c0_countFromBehind 126 = .ok (.iaload, 1) := by decide +kernel
theorem d0_countFromBehind_127 : decode c0_countFromBehind 127 = .ok (.iadd, 1) := by decide +kernel
theorem d0_countFromBehind_128 : decode c0_countFromBehind 128 = .ok (.invokestatic 63, 3) := by decide +kernel
theorem d0_countFromBehind_131 : decode c0_countFromBehind 131 = .ok (.istore 5, 2) := by decide +kernel
theorem d0_countFromBehind_133 : decode c0_countFromBehind 133 = .ok (.iinc 7 1, 3) := by decide +kernel
theorem d0_countFromBehind_136 : decode c0_countFromBehind 136 = .ok (.goto (-48), 3) := by decide +kernel
theorem d0_countFromBehind_139 : decode c0_countFromBehind 139 = .ok (.aload_n 0, 1) := by decide +kernel
theorem d0_countFromBehind_140 : decode c0_countFromBehind 140 = .ok (.getfield 32, 3) := by decide +kernel
theorem d0_countFromBehind_143 : decode c0_countFromBehind 143 = .ok (.iload_n 3, 1) := by decide +kernel
theorem d0_countFromBehind_144 : decode c0_countFromBehind 144 = .ok (.sipush 256, 3) := by decide +kernel
theorem d0_countFromBehind_147 : decode c0_countFromBehind 147 = .ok (.imul, 1) := by decide +kernel
theorem d0_countFromBehind_148 : decode c0_countFromBehind 148 = .ok (.iload 4, 2) := by decide +kernel
theorem d0_countFromBehind_150 : decode c0_countFromBehind 150 = .ok (.iadd, 1) := by decide +kernel
theorem d0_countFromBehind_151 : decode c0_countFromBehind 151 = .ok (.iload 5, 2) := by decide +kernel
theorem d0_countFromBehind_153 : decode c0_countFromBehind 153 = .ok (.iastore, 1) := by decide +kernel
theorem d0_countFromBehind_154 : decode c0_countFromBehind 154 = .ok (.iinc 4 1, 3) := by decide +kernel
theorem d0_countFromBehind_157 : decode c0_countFromBehind 157 = .ok (.goto (-108), 3) := by decide +kernel
theorem d0_countFromBehind_160 : decode c0_countFromBehind 160 = .ok (.iinc 3 (-1), 3) := by decide +kernel
theorem d0_countFromBehind_163 : decode c0_countFromBehind 163 = .ok (.goto (-121), 3) := by decide +kernel
theorem d0_countFromBehind_166 : decode c0_countFromBehind 166 = .ok (.return_, 1) := by decide +kernel
def f0_countFromBehind (D : Mem) : Option (Mem) :=
  Option.bind (some (shl32 1 (D 12 8))) fun (v1 : Int) =>
  Option.bind (@loop (Int × Mem) (Mem) (fun s1 =>
    if w32 s1.1 < w32 v1 then
      if 0 ≤ (((D 12 8) * 256) + s1.1) ∧ (((D 12 8) * 256) + s1.1) < 2304 then
        some (Sum.inl ((s1.1 + 1), (mset s1.2 62 (((D 12 8) * 256) + s1.1).toNat 0)))
      else none
    else
      some (Sum.inr s1.2)
  ) FU (0, D)) fun (b1 : Mem) =>
  Option.bind (@loop (Int × Mem) (Mem) (fun s2 =>
    if w32 s2.1 < 0 then
      some (Sum.inr s2.2)
    else
      Option.bind (@loop (Int × Mem) (Mem) (fun s3 =>
        if w32 s3.1 < w32 v1 then
          if 0 ≤ (((s2.1 + 1) * 256) + s3.1) ∧ (((s2.1 + 1) * 256) + s3.1) < 2304 then
            Option.bind (some (s3.2 62 (((s2.1 + 1) * 256) + s3.1).toNat)) fun (v2 : Int) =>
            if 0 ≤ s2.1 ∧ s2.1 < 8 then
              Option.bind (some (and32 (s3.2 60 s2.1.toNat) (xor32 s3.1 (-1)))) fun (v3 : Int) =>
              Option.bind (@loop (Int × Int) (Int) (fun s4 =>
                if w32 s4.2 < w32 (D 12 8) then
                  Option.bind (
                    if w32 (and32 (shr32 v3 s4.2) 1) = 0 then
                      some s4.1
                    else
                      if 0 ≤ (((s2.1 + 1) * 256) + (or32 s3.1 (shl32 1 s4.2))) ∧ (((s2.1 + 1) * 256) + (or32 s3.1 (shl32 1 s4.2))) < 2304 then
                        some (max32 s4.1 (1 + (s3.2 62 (((s2.1 + 1) * 256) + (or32 s3.1 (shl32 1 s4.2))).toNat)))
                      else none
                  ) fun (j1 : Int) =>
                  some (Sum.inl (j1, (s4.2 + 1)))
                else
                  some (Sum.inr s4.1)
              ) FU (v2, 0)) fun (b4 : Int) =>
              if 0 ≤ ((s2.1 * 256) + s3.1) ∧ ((s2.1 * 256) + s3.1) < 2304 then
                some (Sum.inl ((s3.1 + 1), (mset s3.2 62 ((s2.1 * 256) + s3.1).toNat b4)))
              else none
            else none
          else none
        else
          some (Sum.inr s3.2)
      ) FU (0, s2.2)) fun (b3 : Mem) =>
      some (Sum.inl ((s2.1 + (-1)), b3))
  ) FU (((D 12 8) - 1), b1)) fun (b2 : Mem) =>
  some b2
set_option maxHeartbeats 4000000 in
theorem ok0_countFromBehind {l : Launch} {X : XT} {n : Nat} {D : Mem} {Q : Option Value → Nat → Rho → Mem → Prop} (hn : 117 ≤ n)  (h : wpo (f0_countFromBehind D) (fun a => Q none n rt a)) : MOK l y0_countFromBehind c0_countFromBehind 8 (none) { frames := 1, cells := 0, slots := 0, locals := 23 } 0 0 X [vR X 58] n rt D Q := by
  refine MOK_of 0 (by decide +kernel) rfl (lv := [(0, vR X 58)]) (Nat.le_of_ble_eq_true rfl) rfl (fun K hK F hnm => ?_)
  subst hK
  unfold f0_countFromBehind at h
  refine r_aload_nR F 0 rfl rfl d0_countFromBehind_0 ?_
  refine r_getR F (z := 12) lf0_38 (vc58 hn) z58_0 d0_countFromBehind_1 ?_
  refine r_getI F lf0_52 (vc12 hn) d0_countFromBehind_4 ?_
  refine r_istore_n F (lv' := [(1, vI (D 12 8)), (0, vR X 58)]) rfl (Nat.le_of_ble_eq_true rfl) rfl d0_countFromBehind_7 ?_
  refine r_iconst F (z := 1) d0_countFromBehind_8 ?_
  refine r_iload_n F 0 rfl rfl d0_countFromBehind_9 ?_
  refine r_ishl F d0_countFromBehind_10 ?_
  refine r_istore_n F (lv' := [(2, vI (shl32 1 (D 12 8))), (1, vI (D 12 8)), (0, vR X 58)]) rfl (Nat.le_of_ble_eq_true rfl) rfl d0_countFromBehind_11 ?_
  refine at_name (B := fun (v1 : Int) => At K X (ZQ K X Q) 0 0 n rt 8 12 [(2, vI v1), (1, vI (D 12 8)), (0, vR X 58)] [] D) h (fun v1 h => ?_)
  refine r_iconst F (z := 0) d0_countFromBehind_12 ?_
  refine r_istore_n F (lv' := [(3, vI 0), (2, vI v1), (1, vI (D 12 8)), (0, vR X 58)]) rfl (Nat.le_of_ble_eq_true rfl) rfl d0_countFromBehind_13 ?_
  refine r_weak [3, 2, 1, 0] rfl ?_
  refine at_loopj (A := fun (s1 : Int × Mem) => At K X (ZQ K X Q) 0 0 n rt 8 14 [(0, vR X 58), (1, vI (D 12 8)), (2, vI v1), (3, vI s1.1)] [] s1.2) (B := fun (b1 : Mem) => At K X (ZQ K X Q) 0 0 n rt 8 38 [(0, vR X 58), (1, vI (D 12 8)), (2, vI v1)] [] b1) h (fun b1 h => ?_) (fun s1 h => ?_)
  · refine r_iload_n F 1 rfl rfl d0_countFromBehind_38 ?_
    refine r_iconst F (z := 1) d0_countFromBehind_39 ?_
    refine r_isub F d0_countFromBehind_40 ?_
    refine r_istore_n F (lv' := [(3, vI ((D 12 8) - 1)), (0, vR X 58), (1, vI (D 12 8)), (2, vI v1)]) rfl (Nat.le_of_ble_eq_true rfl) rfl d0_countFromBehind_41 ?_
    refine r_weak [1, 2, 3, 0] rfl ?_
    refine at_loopj (A := fun (s2 : Int × Mem) => At K X (ZQ K X Q) 0 0 n rt 8 42 [(0, vR X 58), (1, vI (D 12 8)), (2, vI v1), (3, vI s2.1)] [] s2.2) (B := fun (b2 : Mem) => At K X (ZQ K X Q) 0 0 n rt 8 166 [] [] b2) h (fun b2 h => ?_) (fun s2 h => ?_)
    · replace h := wpo_some h
      exact r_vret F h d0_countFromBehind_166
    · refine r_iload_n F 3 rfl rfl d0_countFromBehind_42 ?_
      refine r_if_lt F (tgt := 166) d0_countFromBehind_43 (by decide) (fun hb => ?_) (fun hb => ?_)
      · replace h := wpo_pos h hb
        refine r_weak [] rfl ?_
        replace h := wpo_inr h
        exact h
      · replace h := wpo_neg h hb
        refine r_iconst F (z := 0) d0_countFromBehind_46 ?_
        refine r_istore F (lv' := [(4, vI 0), (0, vR X 58), (1, vI (D 12 8)), (2, vI v1), (3, vI s2.1)]) (Nat.le_of_ble_eq_true rfl) rfl d0_countFromBehind_47 ?_
        refine r_weak [1, 2, 3, 4, 0] rfl ?_
        refine at_loopj (A := fun (s3 : Int × Mem) => At K X (ZQ K X Q) 0 0 n rt 8 49 [(0, vR X 58), (1, vI (D 12 8)), (2, vI v1), (3, vI s2.1), (4, vI s3.1)] [] s3.2) (B := fun (b3 : Mem) => At K X (ZQ K X Q) 0 0 n rt 8 160 [(0, vR X 58), (1, vI (D 12 8)), (2, vI v1), (3, vI s2.1)] [] b3) h (fun b3 h => ?_) (fun s3 h => ?_)
        · refine r_iinc F 3 (lv' := [(3, vI (s2.1 + (-1))), (0, vR X 58), (1, vI (D 12 8)), (2, vI v1)]) rfl (Nat.le_of_ble_eq_true rfl) rfl d0_countFromBehind_160 ?_
          refine r_goto F (tgt := 42) (by decide) d0_countFromBehind_163 ?_
          refine r_weak [1, 2, 3, 0] rfl ?_
          replace h := wpo_inl h
          exact h
        · refine r_iload F 4 rfl d0_countFromBehind_49 ?_
          refine r_iload_n F 2 rfl rfl d0_countFromBehind_51 ?_
          refine r_icmp_ge F (tgt := 160) d0_countFromBehind_52 (by decide) (fun hb => ?_) (fun hb => ?_)
          · replace h := wpo_neg h hb
            refine r_weak [0, 1, 2, 3] rfl ?_
            replace h := wpo_inr h
            exact h
          · replace h := wpo_pos h hb
            refine r_aload_nR F 0 rfl rfl d0_countFromBehind_55 ?_
            refine r_getR F (z := 62) lf0_32 (vc58 hn) z58_7 d0_countFromBehind_56 ?_
            refine r_iload_n F 3 rfl rfl d0_countFromBehind_59 ?_
            refine r_iconst F (z := 1) d0_countFromBehind_60 ?_
            refine r_iadd F d0_countFromBehind_61 ?_
            refine r_sipush F (z := 256) (by decide) d0_countFromBehind_62 ?_
            refine r_imul F d0_countFromBehind_65 ?_
            refine r_iload F 4 rfl d0_countFromBehind_66 ?_
            refine r_iadd F d0_countFromBehind_68 ?_
            obtain ⟨hx2, h⟩ := wpo_chk h
            refine r_iald F (vc62 hn) hx2 d0_countFromBehind_69 ?_
            refine r_istore F (lv' := [(5, vI (s3.2 62 (((s2.1 + 1) * 256) + s3.1).toNat)), (0, vR X 58), (1, vI (D 12 8)), (2, vI v1), (3, vI s2.1), (4, vI s3.1)]) (Nat.le_of_ble_eq_true rfl) rfl d0_countFromBehind_70 ?_
            refine at_name (B := fun (v2 : Int) => At K X (ZQ K X Q) 0 0 n rt 8 72 [(5, vI v2), (0, vR X 58), (1, vI (D 12 8)), (2, vI v1), (3, vI s2.1), (4, vI s3.1)] [] s3.2) h (fun v2 h => ?_)
            refine r_aload_nR F 1 rfl rfl d0_countFromBehind_72 ?_
            refine r_getR F (z := 60) lf0_26 (vc58 hn) z58_5 d0_countFromBehind_73 ?_
            refine r_iload_n F 4 rfl rfl d0_countFromBehind_76 ?_
            obtain ⟨hx3, h⟩ := wpo_chk h
            refine r_iald F (vc60 hn) hx3 d0_countFromBehind_77 ?_
            refine r_iload F 5 rfl d0_countFromBehind_78 ?_
            refine r_iconst F (z := (-1)) d0_countFromBehind_80 ?_
            refine r_ixor F d0_countFromBehind_81 ?_
            refine r_iand F d0_countFromBehind_82 ?_
            refine r_istore F (lv' := [(6, vI (and32 (s3.2 60 s2.1.toNat) (xor32 s3.1 (-1)))), (5, vI v2), (0, vR X 58), (1, vI (D 12 8)), (2, vI v1), (3, vI s2.1), (4, vI s3.1)]) (Nat.le_of_ble_eq_true rfl) rfl d0_countFromBehind_83 ?_
            refine at_name (B := fun (v3 : Int) => At K X (ZQ K X Q) 0 0 n rt 8 85 [(6, vI v3), (5, vI v2), (0, vR X 58), (1, vI (D 12 8)), (2, vI v1), (3, vI s2.1), (4, vI s3.1)] [] s3.2) h (fun v3 h => ?_)
            refine r_iconst F (z := 0) d0_countFromBehind_85 ?_
            refine r_istore F (lv' := [(7, vI 0), (6, vI v3), (5, vI v2), (0, vR X 58), (1, vI (D 12 8)), (2, vI v1), (3, vI s2.1), (4, vI s3.1)]) (Nat.le_of_ble_eq_true rfl) rfl d0_countFromBehind_86 ?_
            refine r_weak [3, 4, 5, 6, 7, 2, 1, 0] rfl ?_
            refine at_loopj (A := fun (s4 : Int × Int) => At K X (ZQ K X Q) 0 0 n rt 8 88 [(0, vR X 58), (1, vI (D 12 8)), (2, vI v1), (3, vI s2.1), (4, vI s3.1), (5, vI s4.1), (6, vI v3), (7, vI s4.2)] [] s3.2) (B := fun (b4 : Int) => At K X (ZQ K X Q) 0 0 n rt 8 139 [(0, vR X 58), (1, vI (D 12 8)), (2, vI v1), (3, vI s2.1), (4, vI s3.1), (5, vI b4)] [] s3.2) h (fun b4 h => ?_) (fun s4 h => ?_)
            · refine r_aload_nR F 0 rfl rfl d0_countFromBehind_139 ?_
              refine r_getR F (z := 62) lf0_32 (vc58 hn) z58_7 d0_countFromBehind_140 ?_
              refine r_iload_n F 3 rfl rfl d0_countFromBehind_143 ?_
              refine r_sipush F (z := 256) (by decide) d0_countFromBehind_144 ?_
              refine r_imul F d0_countFromBehind_147 ?_
              refine r_iload F 4 rfl d0_countFromBehind_148 ?_
              refine r_iadd F d0_countFromBehind_150 ?_
              refine r_iload F 5 rfl d0_countFromBehind_151 ?_
              obtain ⟨hx5, h⟩ := wpo_chk h
              refine r_iast F (vc62 hn) hx5 d0_countFromBehind_153 ?_
              refine r_iinc F 4 (lv' := [(4, vI (s3.1 + 1)), (0, vR X 58), (1, vI (D 12 8)), (2, vI v1), (3, vI s2.1), (5, vI b4)]) rfl (Nat.le_of_ble_eq_true rfl) rfl d0_countFromBehind_154 ?_
              refine r_goto F (tgt := 49) (by decide) d0_countFromBehind_157 ?_
              refine r_weak [1, 2, 3, 4, 0] rfl ?_
              replace h := wpo_inl h
              exact h
            · refine r_iload F 7 rfl d0_countFromBehind_88 ?_
              refine r_iload_n F 1 rfl rfl d0_countFromBehind_90 ?_
              refine r_icmp_ge F (tgt := 139) d0_countFromBehind_91 (by decide) (fun hb => ?_) (fun hb => ?_)
              · replace h := wpo_neg h hb
                refine r_weak [0, 1, 2, 3, 4, 5] rfl ?_
                replace h := wpo_inr h
                exact h
              · replace h := wpo_pos h hb
                refine r_iload F 6 rfl d0_countFromBehind_94 ?_
                refine r_iload F 7 rfl d0_countFromBehind_96 ?_
                refine r_ishr F d0_countFromBehind_98 ?_
                refine r_iconst F (z := 1) d0_countFromBehind_99 ?_
                refine r_iand F d0_countFromBehind_100 ?_
                refine at_join (B := fun (j1 : Int) => At K X (ZQ K X Q) 0 0 n rt 8 133 [(0, vR X 58), (1, vI (D 12 8)), (2, vI v1), (3, vI s2.1), (4, vI s3.1), (5, vI j1), (6, vI v3), (7, vI s4.2)] [] s3.2) h (fun j1 h => ?_) (fun h => ?_)
                · refine r_iinc F 7 (lv' := [(7, vI (s4.2 + 1)), (0, vR X 58), (1, vI (D 12 8)), (2, vI v1), (3, vI s2.1), (4, vI s3.1), (5, vI j1), (6, vI v3)]) rfl (Nat.le_of_ble_eq_true rfl) rfl d0_countFromBehind_133 ?_
                  refine r_goto F (tgt := 88) (by decide) d0_countFromBehind_136 ?_
                  refine r_weak [1, 2, 3, 4, 5, 6, 7, 0] rfl ?_
                  replace h := wpo_inl h
                  exact h
                · refine r_if_eq F (tgt := 133) d0_countFromBehind_101 (by decide) (fun hb => ?_) (fun hb => ?_)
                  · replace h := wpo_pos h hb
                    replace h := wpo_some h
                    exact h
                  · replace h := wpo_neg h hb
                    refine r_iload F 5 rfl d0_countFromBehind_104 ?_
                    refine r_iconst F (z := 1) d0_countFromBehind_106 ?_
                    refine r_aload_nR F 0 rfl rfl d0_countFromBehind_107 ?_
                    refine r_getR F (z := 62) lf0_32 (vc58 hn) z58_7 d0_countFromBehind_108 ?_
                    refine r_iload_n F 3 rfl rfl d0_countFromBehind_111 ?_
                    refine r_iconst F (z := 1) d0_countFromBehind_112 ?_
                    refine r_iadd F d0_countFromBehind_113 ?_
                    refine r_sipush F (z := 256) (by decide) d0_countFromBehind_114 ?_
                    refine r_imul F d0_countFromBehind_117 ?_
                    refine r_iload F 4 rfl d0_countFromBehind_118 ?_
                    refine r_iconst F (z := 1) d0_countFromBehind_120 ?_
                    refine r_iload F 7 rfl d0_countFromBehind_121 ?_
                    refine r_ishl F d0_countFromBehind_123 ?_
                    refine r_ior F d0_countFromBehind_124 ?_
                    refine r_iadd F d0_countFromBehind_125 ?_
                    obtain ⟨hx4, h⟩ := wpo_chk h
                    refine r_iald F (vc62 hn) hx4 d0_countFromBehind_126 ?_
                    refine r_iadd F d0_countFromBehind_127 ?_
                    refine r_max F lm0_63 wm1 wm0 wm2 ⟨Nat.le_of_ble_eq_true rfl, Nat.le_of_ble_eq_true rfl, Nat.le_of_ble_eq_true rfl, Nat.le_of_ble_eq_true rfl⟩ d0_countFromBehind_128 ?_
                    refine r_istore F (lv' := [(5, vI (max32 s4.1 (1 + (s3.2 62 (((s2.1 + 1) * 256) + (or32 s3.1 (shl32 1 s4.2))).toNat)))), (0, vR X 58), (1, vI (D 12 8)), (2, vI v1), (3, vI s2.1), (4, vI s3.1), (6, vI v3), (7, vI s4.2)]) (Nat.le_of_ble_eq_true rfl) rfl d0_countFromBehind_131 ?_
                    refine r_weak [1, 2, 3, 4, 5, 0, 6, 7] rfl ?_
                    replace h := wpo_some h
                    exact h
  · refine r_iload_n F 3 rfl rfl d0_countFromBehind_14 ?_
    refine r_iload_n F 2 rfl rfl d0_countFromBehind_15 ?_
    refine r_icmp_ge F (tgt := 38) d0_countFromBehind_16 (by decide) (fun hb => ?_) (fun hb => ?_)
    · replace h := wpo_neg h hb
      refine r_weak [0, 1, 2] rfl ?_
      replace h := wpo_inr h
      exact h
    · replace h := wpo_pos h hb
      refine r_aload_nR F 0 rfl rfl d0_countFromBehind_19 ?_
      refine r_getR F (z := 62) lf0_32 (vc58 hn) z58_7 d0_countFromBehind_20 ?_
      refine r_iload_n F 1 rfl rfl d0_countFromBehind_23 ?_
      refine r_sipush F (z := 256) (by decide) d0_countFromBehind_24 ?_
      refine r_imul F d0_countFromBehind_27 ?_
      refine r_iload_n F 3 rfl rfl d0_countFromBehind_28 ?_
      refine r_iadd F d0_countFromBehind_29 ?_
      refine r_iconst F (z := 0) d0_countFromBehind_30 ?_
      obtain ⟨hx1, h⟩ := wpo_chk h
      refine r_iast F (vc62 hn) hx1 d0_countFromBehind_31 ?_
      refine r_iinc F 3 (lv' := [(3, vI (s1.1 + 1)), (0, vR X 58), (1, vI (D 12 8)), (2, vI v1)]) rfl (Nat.le_of_ble_eq_true rfl) rfl d0_countFromBehind_32 ?_
      refine r_goto F (tgt := 14) (by decide) d0_countFromBehind_35 ?_
      refine r_weak [1, 2, 3, 0] rfl ?_
      replace h := wpo_inl h
      exact h
theorem d0_chooseFirst_0 : decode c0_chooseFirst 0 = .ok (.aload_n 0, 1) := by decide +kernel
theorem d0_chooseFirst_1 : decode c0_chooseFirst 1 = .ok (.getfield 38, 3) := by decide +kernel
theorem d0_chooseFirst_4 : decode c0_chooseFirst 4 = .ok (.getfield 52, 3) := by decide +kernel
theorem d0_chooseFirst_7 : decode c0_chooseFirst 7 = .ok (.istore_n 1, 1) := by decide +kernel
theorem d0_chooseFirst_8 : decode c0_chooseFirst 8 = .ok (.aload_n 0, 1) := by decide +kernel
theorem d0_chooseFirst_9 : decode c0_chooseFirst 9 = .ok (.aload_n 0, 1) := by decide +kernel
theorem d0_chooseFirst_10 : decode c0_chooseFirst 10 = .ok (.getfield 32, 3) := by decide +kernel
theorem d0_chooseFirst_13 : decode c0_chooseFirst 13 = .ok (.iconst 0, 1) := by decide +kernel
theorem d0_chooseFirst_14 : decode c0_chooseFirst 14 = .ok (.iaload, 1) := by decide +kernel
theorem d0_chooseFirst_15 : decode c0_chooseFirst 15 = .ok (.putfield 15, 3) := by decide +kernel
theorem d0_chooseFirst_18 : decode c0_chooseFirst 18 = .ok (.aload_n 0, 1) := by decide +kernel
theorem d0_chooseFirst_19 : decode c0_chooseFirst 19 = .ok (.iconst 0, 1) := by decide +kernel
theorem d0_chooseFirst_20 : decode c0_chooseFirst 20 = .ok (.putfield 19, 3) := by decide +kernel
theorem d0_chooseFirst_23 : decode c0_chooseFirst 23 = .ok (.iconst 0, 1) := by decide +kernel
theorem d0_chooseFirst_24 : decode c0_chooseFirst 24 = .ok (.istore_n 2, 1) := by decide +kernel
theorem d0_chooseFirst_25 : decode c0_chooseFirst 25 = .ok (.iload_n 2, 1) := by decide +kernel
theorem d0_chooseFirst_26 : decode c0_chooseFirst 26 = .ok (.iload_n 1, 1) := by decide +kernel
theorem d0_chooseFirst_27 : decode c0_chooseFirst 27 = .ok (.if_icmp .ge 157, 3) := by decide +kernel
theorem d0_chooseFirst_30 : decode c0_chooseFirst 30 = .ok (.aload_n 0, 1) := by decide +kernel
theorem d0_chooseFirst_31 : decode c0_chooseFirst 31 = .ok (.getfield 22, 3) := by decide +kernel
theorem d0_chooseFirst_34 : decode c0_chooseFirst 34 = .ok (.iload_n 2, 1) := by decide +kernel
theorem d0_chooseFirst_35 : decode c0_chooseFirst 35 = .ok (.iconst (-1), 1) := by decide +kernel
theorem d0_chooseFirst_36 : decode c0_chooseFirst 36 = .ok (.iastore, 1) := by decide +kernel
theorem d0_chooseFirst_37 : decode c0_chooseFirst 37 = .ok (.aload_n 0, 1) := by decide +kernel
theorem d0_chooseFirst_38 : decode c0_chooseFirst 38 = .ok (.getfield 26, 3) := by decide +kernel
theorem d0_chooseFirst_41 : decode c0_chooseFirst 41 = .ok (.iload_n 2, 1) := by decide +kernel
theorem d0_chooseFirst_42 : decode c0_chooseFirst 42 = .ok (.iaload, 1) := by decide +kernel
theorem d0_chooseFirst_43 : decode c0_chooseFirst 43 = .ok (.aload_n 0, 1) := by decide +kernel
theorem d0_chooseFirst_44 : decode c0_chooseFirst 44 = .ok (.getfield 19, 3) := by decide +kernel
theorem d0_chooseFirst_47 : decode c0_chooseFirst 47 = .ok (.iconst (-1), 1) := by decide +kernel
theorem d0_chooseFirst_48 : decode c0_chooseFirst 48 = .ok (.ixor, 1) := by decide +kernel
theorem d0_chooseFirst_49 : decode c0_chooseFirst 49 = .ok (.iand, 1) := by decide +kernel
theorem d0_chooseFirst_50 : decode c0_chooseFirst 50 = .ok (.istore_n 3, 1) := by decide +kernel
theorem d0_chooseFirst_51 : decode c0_chooseFirst 51 = .ok (.aload_n 0, 1) := by decide +kernel
theorem d0_chooseFirst_52 : decode c0_chooseFirst 52 = .ok (.getfield 32, 3) := by decide +kernel
theorem d0_chooseFirst_55 : decode c0_chooseFirst 55 = .ok (.iload_n 2, 1) := by decide +kernel
theorem d0_chooseFirst_56 : decode c0_chooseFirst 56 = .ok (.sipush 256, 3) := by decide +kernel
theorem d0_chooseFirst_59 : decode c0_chooseFirst 59 = .ok (.imul, 1) := by decide +kernel
theorem d0_chooseFirst_60 : decode c0_chooseFirst 60 = .ok (.aload_n 0, 1) := by decide +kernel
theorem d0_chooseFirst_61 : decode c0_chooseFirst 61 = .ok (.getfield 19, 3) := by decide +kernel
theorem d0_chooseFirst_64 : decode c0_chooseFirst 64 = .ok (.iadd, 1) := by decide +kernel
theorem d0_chooseFirst_65 : decode c0_chooseFirst 65 = .ok (.iaload, 1) := by decide +kernel
theorem d0_chooseFirst_66 : decode c0_chooseFirst 66 = .ok (.istore 4, 2) := by decide +kernel
theorem d0_chooseFirst_68 : decode c0_chooseFirst 68 = .ok (.iconst 0, 1) := by decide +kernel
theorem d0_chooseFirst_69 : decode c0_chooseFirst 69 = .ok (.istore 5, 2) := by decide +kernel
theorem d0_chooseFirst_71 : decode c0_chooseFirst 71 = .ok (.iload 5, 2) := by decide +kernel
theorem d0_chooseFirst_73 : decode c0_chooseFirst 73 = .ok (.iload_n 1, 1) := by decide +kernel
theorem d0_chooseFirst_74 : decode c0_chooseFirst 74 = .ok (.if_icmp .ge 77, 3) := by decide +kernel
theorem d0_chooseFirst_77 : decode c0_chooseFirst 77 = .ok (.aload_n 0, 1) := by decide +kernel
theorem d0_chooseFirst_78 : decode c0_chooseFirst 78 = .ok (.getfield 22, 3) := by decide +kernel
theorem d0_chooseFirst_81 : decode c0_chooseFirst 81 = .ok (.iload_n 2, 1) := by decide +kernel
theorem d0_chooseFirst_82 : decode c0_chooseFirst 82 = .ok (.iaload, 1) := by decide +kernel
theorem d0_chooseFirst_83 : decode c0_chooseFirst 83 = .ok (.iconst (-1), 1) := by decide +kernel
theorem d0_chooseFirst_84 : decode c0_chooseFirst 84 = .ok (.if_icmp .ne 67, 3) := by decide +kernel
theorem d0_chooseFirst_87 : decode c0_chooseFirst 87 = .ok (.iload_n 3, 1) := by decide +kernel
theorem d0_chooseFirst_88 : decode c0_chooseFirst 88 = .ok (.iload 5, 2) := by decide +kernel
theorem d0_chooseFirst_90 : decode c0_chooseFirst 90 = .ok (.ishr, 1) := by decide +kernel
theorem d0_chooseFirst_91 : decode c0_chooseFirst 91 = .ok (.iconst 1, 1) := by decide +kernel
theorem d0_chooseFirst_92 : decode c0_chooseFirst 92 = .ok (.iand, 1) := by decide +kernel
theorem d0_chooseFirst_93 : decode c0_chooseFirst 93 = .ok (.ifCond .eq 7, 3) := by decide +kernel
theorem d0_chooseFirst_96 : decode c0_chooseFirst 96 = .ok (.iconst 1, 1) := by decide +kernel
theorem d0_chooseFirst_97 : decode c0_chooseFirst 97 = .ok (.goto 4, 3) := by decide +kernel
theorem d0_chooseFirst_100 : decode c0_chooseFirst 100 = .ok (.iconst 0, 1) := by decide +kernel
theorem d0_chooseFirst_101 : decode c0_chooseFirst 101 = .ok (.istore 6, 2) := by decide +kernel
theorem d0_chooseFirst_103 : decode c0_chooseFirst 103 = .ok (.iload 6, 2) := by decide +kernel
theorem d0_chooseFirst_105 : decode c0_chooseFirst 105 = .ok (.ifCond .eq 40, 3) := by decide +kernel
theorem d0_chooseFirst_108 : decode c0_chooseFirst 108 = .ok (.iconst 1, 1) := by decide +kernel
theorem d0_chooseFirst_109 : decode c0_chooseFirst 109 = .ok (.aload_n 0, 1) := by decide +kernel
theorem d0_chooseFirst_110 : decode c0_chooseFirst 110 = .ok (.getfield 32, 3) := by decide +kernel
theorem d0_chooseFirst_113 : decode c0_chooseFirst 113 = .ok (.iload_n 2, 1) := by decide +kernel
theorem d0_chooseFirst_114 : decode c0_chooseFirst 114 = .ok (.iconst 1, 1) := by decide +kernel
theorem d0_chooseFirst_115 : decode c0_chooseFirst 115 = .ok (.iadd, 1) := by decide +kernel
theorem d0_chooseFirst_116 : decode c0_chooseFirst 116 = .ok (.sipush 256, 3) := by decide +kernel
theorem d0_chooseFirst_119 : decode c0_chooseFirst 119 = .ok (.imul, 1) := by decide +kernel
theorem d0_chooseFirst_120 : decode c0_chooseFirst 120 = .ok (.aload_n 0, 1) := by decide +kernel
theorem d0_chooseFirst_121 : decode c0_chooseFirst 121 = .ok (.getfield 19, 3) := by decide +kernel
theorem d0_chooseFirst_124 : decode c0_chooseFirst 124 = .ok (.iconst 1, 1) := by decide +kernel
theorem d0_chooseFirst_125 : decode c0_chooseFirst 125 = .ok (.iload 5, 2) := by decide +kernel
theorem d0_chooseFirst_127 : decode c0_chooseFirst 127 = .ok (.ishl, 1) := by decide +kernel
theorem d0_chooseFirst_128 : decode c0_chooseFirst 128 = .ok (.ior, 1) := by decide +kernel
theorem d0_chooseFirst_129 : decode c0_chooseFirst 129 = .ok (.iadd, 1) := by decide +kernel
theorem d0_chooseFirst_130 : decode c0_chooseFirst 130 = .ok (.iaload, 1) := by decide +kernel
theorem d0_chooseFirst_131 : decode c0_chooseFirst 131 = .ok (.iadd, 1) := by decide +kernel
theorem d0_chooseFirst_132 : decode c0_chooseFirst 132 = .ok (.iload 4, 2) := by decide +kernel
theorem d0_chooseFirst_134 : decode c0_chooseFirst 134 = .ok (.if_icmp .ne 11, 3) := by decide +kernel
theorem d0_chooseFirst_137 : decode c0_chooseFirst 137 = .ok (.aload_n 0, 1) := by decide +kernel
theorem d0_chooseFirst_138 : decode c0_chooseFirst 138 = .ok (.getfield 22, 3) := by decide +kernel
theorem d0_chooseFirst_141 : decode c0_chooseFirst 141 = .ok (.iload_n 2, 1) := by decide +kernel
theorem d0_chooseFirst_142 : decode c0_chooseFirst 142 = .ok (.iload 5, 2) := by decide +kernel
theorem d0_chooseFirst_144 : decode c0_chooseFirst 144 = .ok (.iastore, 1) := by decide +kernel
theorem d0_chooseFirst_145 : decode c0_chooseFirst 145 = .ok (.iinc 5 1, 3) := by decide +kernel
theorem d0_chooseFirst_148 : decode c0_chooseFirst 148 = .ok (.goto (-77), 3) := by decide +kernel
theorem d0_chooseFirst_151 : decode c0_chooseFirst 151 = .ok (.aload_n 0, 1) := by decide +kernel
theorem d0_chooseFirst_152 : decode c0_chooseFirst 152 = .ok (.getfield 22, 3) := by decide +kernel
theorem d0_chooseFirst_155 : decode c0_chooseFirst 155 = .ok (.iload_n 2, 1) := by decide +kernel
theorem d0_chooseFirst_156 : decode c0_chooseFirst 156 = .ok (.iaload, 1) := by decide +kernel
theorem d0_chooseFirst_157 : decode c0_chooseFirst 157 = .ok (.iconst (-1), 1) := by decide +kernel
theorem d0_chooseFirst_158 : decode c0_chooseFirst 158 = .ok (.if_icmp .eq 20, 3) := by decide +kernel
theorem d0_chooseFirst_161 : decode c0_chooseFirst 161 = .ok (.aload_n 0, 1) := by decide +kernel
theorem d0_chooseFirst_162 : decode c0_chooseFirst 162 = .ok (.dup, 1) := by decide +kernel
theorem d0_chooseFirst_163 : decode c0_chooseFirst 163 = .ok (.getfield 19, 3) := by decide +kernel
theorem d0_chooseFirst_166 : decode c0_chooseFirst 166 = .ok (.iconst 1, 1) := by decide +kernel
theorem d0_chooseFirst_167 : decode c0_chooseFirst 167 = .ok (.aload_n 0, 1) := by decide +kernel
theorem d0_chooseFirst_168 : decode c0_chooseFirst 168 = .ok (.getfield 22, 3) := by decide +kernel
theorem d0_chooseFirst_171 : decode c0_chooseFirst 171 = .ok (.iload_n 2, 1) := by decide +kernel
theorem d0_chooseFirst_172 : decode c0_chooseFirst 172 = .ok (.iaload, 1) := by decide +kernel
theorem d0_chooseFirst_173 : decode c0_chooseFirst 173 = .ok (.ishl, 1) := by decide +kernel
theorem d0_chooseFirst_174 : decode c0_chooseFirst 174 = .ok (.ior, 1) := by decide +kernel
theorem d0_chooseFirst_175 : decode c0_chooseFirst 175 = .ok (.putfield 19, 3) := by decide +kernel
theorem d0_chooseFirst_178 : decode c0_chooseFirst 178 = .ok (.iinc 2 1, 3) := by decide +kernel
theorem d0_chooseFirst_181 : decode c0_chooseFirst 181 = .ok (.goto (-156), 3) := by decide +kernel
theorem d0_chooseFirst_184 : decode c0_chooseFirst 184 = .ok (.return_, 1) := by decide +kernel
def f0_chooseFirst (D : Mem) : Option (Mem) :=
  Option.bind (some (mset D 58 2 (D 62 0))) fun (D1 : Mem) =>
  Option.bind (some (mset D1 58 3 0)) fun (D2 : Mem) =>
  Option.bind (@loop (Int × Mem) (Mem) (fun s1 =>
    if w32 s1.1 < w32 (D 12 8) then
      if 0 ≤ s1.1 ∧ s1.1 < 8 then
        Option.bind (some (mset s1.2 59 s1.1.toNat (-1))) fun (D3 : Mem) =>
        Option.bind (some (and32 (D3 60 s1.1.toNat) (xor32 (D3 58 3) (-1)))) fun (v1 : Int) =>
        if 0 ≤ ((s1.1 * 256) + (D3 58 3)) ∧ ((s1.1 * 256) + (D3 58 3)) < 2304 then
          Option.bind (some (D3 62 ((s1.1 * 256) + (D3 58 3)).toNat)) fun (v2 : Int) =>
          Option.bind (@loop (Int × Mem) (Mem) (fun s2 =>
            if w32 s2.1 < w32 (D 12 8) then
              if w32 (s2.2 59 s1.1.toNat) = w32 (-1) then
                Option.bind (
                  if w32 (and32 (shr32 v1 s2.1) 1) = 0 then
                    some 0
                  else
                    some 1
                ) fun (j1 : Int) =>
                Option.bind (
                  if w32 j1 = 0 then
                    some s2.2
                  else
                    if 0 ≤ (((s1.1 + 1) * 256) + (or32 (s2.2 58 3) (shl32 1 s2.1))) ∧ (((s1.1 + 1) * 256) + (or32 (s2.2 58 3) (shl32 1 s2.1))) < 2304 then
                      if w32 (1 + (s2.2 62 (((s1.1 + 1) * 256) + (or32 (s2.2 58 3) (shl32 1 s2.1))).toNat)) = w32 v2 then
                        some (mset s2.2 59 s1.1.toNat s2.1)
                      else
                        some s2.2
                    else none
                ) fun (j2 : Mem) =>
                some (Sum.inl ((s2.1 + 1), j2))
              else
                some (Sum.inr s2.2)
            else
              some (Sum.inr s2.2)
          ) FU (0, D3)) fun (b2 : Mem) =>
          Option.bind (
            if w32 (b2 59 s1.1.toNat) = w32 (-1) then
              some b2
            else
              some (mset b2 58 3 (or32 (b2 58 3) (shl32 1 (b2 59 s1.1.toNat))))
          ) fun (j3 : Mem) =>
          some (Sum.inl ((s1.1 + 1), j3))
        else none
      else none
    else
      some (Sum.inr s1.2)
  ) FU (0, D2)) fun (b1 : Mem) =>
  some b1
set_option maxHeartbeats 4000000 in
theorem ok0_chooseFirst {l : Launch} {X : XT} {n : Nat} {D : Mem} {Q : Option Value → Nat → Rho → Mem → Prop} (hn : 117 ≤ n)  (h : wpo (f0_chooseFirst D) (fun a => Q none n rt a)) : MOK l y0_chooseFirst c0_chooseFirst 7 (none) { frames := 0, cells := 0, slots := 0, locals := 0 } 0 0 X [vR X 58] n rt D Q := by
  refine MOK_of 0 (by decide +kernel) rfl (lv := [(0, vR X 58)]) (Nat.le_of_ble_eq_true rfl) rfl (fun K hK F hnm => ?_)
  subst hK
  unfold f0_chooseFirst at h
  refine r_aload_nR F 0 rfl rfl d0_chooseFirst_0 ?_
  refine r_getR F (z := 12) lf0_38 (vc58 hn) z58_0 d0_chooseFirst_1 ?_
  refine r_getI F lf0_52 (vc12 hn) d0_chooseFirst_4 ?_
  refine r_istore_n F (lv' := [(1, vI (D 12 8)), (0, vR X 58)]) rfl (Nat.le_of_ble_eq_true rfl) rfl d0_chooseFirst_7 ?_
  refine r_aload_nR F 1 rfl rfl d0_chooseFirst_8 ?_
  refine r_aload_nR F 1 rfl rfl d0_chooseFirst_9 ?_
  refine r_getR F (z := 62) lf0_32 (vc58 hn) z58_7 d0_chooseFirst_10 ?_
  refine r_iconst F (z := 0) d0_chooseFirst_13 ?_
  refine r_ialdC F (j := 0) (vc62 hn) (by decide) rfl d0_chooseFirst_14 ?_
  refine r_putI F lf0_15 rfl rfl (vc58 hn) d0_chooseFirst_15 ?_
  refine r_aload_nR F 1 rfl rfl d0_chooseFirst_18 ?_
  refine r_iconst F (z := 0) d0_chooseFirst_19 ?_
  refine at_name (B := fun (D1 : Mem) => At K X (ZQ K X Q) 0 0 n rt 7 20 [(1, vI (D 12 8)), (0, vR X 58)] [vI 0, vR X 58] D1) h (fun D1 h => ?_)
  refine r_putI F lf0_19 rfl rfl (vc58 hn) d0_chooseFirst_20 ?_
  refine r_iconst F (z := 0) d0_chooseFirst_23 ?_
  refine r_istore_n F (lv' := [(2, vI 0), (1, vI (D 12 8)), (0, vR X 58)]) rfl (Nat.le_of_ble_eq_true rfl) rfl d0_chooseFirst_24 ?_
  refine at_name (B := fun (D2 : Mem) => At K X (ZQ K X Q) 0 0 n rt 7 25 [(2, vI 0), (1, vI (D 12 8)), (0, vR X 58)] [] D2) h (fun D2 h => ?_)
  refine r_weak [2, 1, 0] rfl ?_
  refine at_loopj (A := fun (s1 : Int × Mem) => At K X (ZQ K X Q) 0 0 n rt 7 25 [(0, vR X 58), (1, vI (D 12 8)), (2, vI s1.1)] [] s1.2) (B := fun (b1 : Mem) => At K X (ZQ K X Q) 0 0 n rt 7 184 [] [] b1) h (fun b1 h => ?_) (fun s1 h => ?_)
  · replace h := wpo_some h
    exact r_vret F h d0_chooseFirst_184
  · refine r_iload_n F 2 rfl rfl d0_chooseFirst_25 ?_
    refine r_iload_n F 1 rfl rfl d0_chooseFirst_26 ?_
    refine r_icmp_ge F (tgt := 184) d0_chooseFirst_27 (by decide) (fun hb => ?_) (fun hb => ?_)
    · replace h := wpo_neg h hb
      refine r_weak [] rfl ?_
      replace h := wpo_inr h
      exact h
    · replace h := wpo_pos h hb
      refine r_aload_nR F 0 rfl rfl d0_chooseFirst_30 ?_
      refine r_getR F (z := 59) lf0_22 (vc58 hn) z58_4 d0_chooseFirst_31 ?_
      refine r_iload_n F 2 rfl rfl d0_chooseFirst_34 ?_
      refine r_iconst F (z := (-1)) d0_chooseFirst_35 ?_
      obtain ⟨hx1, h⟩ := wpo_chk h
      refine r_iast F (vc59 hn) hx1 d0_chooseFirst_36 ?_
      refine r_aload_nR F 0 rfl rfl d0_chooseFirst_37 ?_
      refine r_getR F (z := 60) lf0_26 (vc58 hn) z58_5 d0_chooseFirst_38 ?_
      refine r_iload_n F 2 rfl rfl d0_chooseFirst_41 ?_
      refine at_name (B := fun (D3 : Mem) => At K X (ZQ K X Q) 0 0 n rt 7 42 [(0, vR X 58), (1, vI (D 12 8)), (2, vI s1.1)] [vI s1.1, vR X 60] D3) h (fun D3 h => ?_)
      refine r_iald F (vc60 hn) hx1 d0_chooseFirst_42 ?_
      refine r_aload_nR F 0 rfl rfl d0_chooseFirst_43 ?_
      refine r_getI F lf0_19 (vc58 hn) d0_chooseFirst_44 ?_
      refine r_iconst F (z := (-1)) d0_chooseFirst_47 ?_
      refine r_ixor F d0_chooseFirst_48 ?_
      refine r_iand F d0_chooseFirst_49 ?_
      refine r_istore_n F (lv' := [(3, vI (and32 (D3 60 s1.1.toNat) (xor32 (D3 58 3) (-1)))), (0, vR X 58), (1, vI (D 12 8)), (2, vI s1.1)]) rfl (Nat.le_of_ble_eq_true rfl) rfl d0_chooseFirst_50 ?_
      refine at_name (B := fun (v1 : Int) => At K X (ZQ K X Q) 0 0 n rt 7 51 [(3, vI v1), (0, vR X 58), (1, vI (D 12 8)), (2, vI s1.1)] [] D3) h (fun v1 h => ?_)
      refine r_aload_nR F 1 rfl rfl d0_chooseFirst_51 ?_
      refine r_getR F (z := 62) lf0_32 (vc58 hn) z58_7 d0_chooseFirst_52 ?_
      refine r_iload_n F 3 rfl rfl d0_chooseFirst_55 ?_
      refine r_sipush F (z := 256) (by decide) d0_chooseFirst_56 ?_
      refine r_imul F d0_chooseFirst_59 ?_
      refine r_aload_nR F 1 rfl rfl d0_chooseFirst_60 ?_
      refine r_getI F lf0_19 (vc58 hn) d0_chooseFirst_61 ?_
      refine r_iadd F d0_chooseFirst_64 ?_
      obtain ⟨hx2, h⟩ := wpo_chk h
      refine r_iald F (vc62 hn) hx2 d0_chooseFirst_65 ?_
      refine r_istore F (lv' := [(4, vI (D3 62 ((s1.1 * 256) + (D3 58 3)).toNat)), (3, vI v1), (0, vR X 58), (1, vI (D 12 8)), (2, vI s1.1)]) (Nat.le_of_ble_eq_true rfl) rfl d0_chooseFirst_66 ?_
      refine at_name (B := fun (v2 : Int) => At K X (ZQ K X Q) 0 0 n rt 7 68 [(4, vI v2), (3, vI v1), (0, vR X 58), (1, vI (D 12 8)), (2, vI s1.1)] [] D3) h (fun v2 h => ?_)
      refine r_iconst F (z := 0) d0_chooseFirst_68 ?_
      refine r_istore F (lv' := [(5, vI 0), (4, vI v2), (3, vI v1), (0, vR X 58), (1, vI (D 12 8)), (2, vI s1.1)]) (Nat.le_of_ble_eq_true rfl) rfl d0_chooseFirst_69 ?_
      refine r_weak [3, 4, 5, 2, 1, 0] rfl ?_
      refine at_loopj (A := fun (s2 : Int × Mem) => At K X (ZQ K X Q) 0 0 n rt 7 71 [(0, vR X 58), (1, vI (D 12 8)), (2, vI s1.1), (3, vI v1), (4, vI v2), (5, vI s2.1)] [] s2.2) (B := fun (b2 : Mem) => At K X (ZQ K X Q) 0 0 n rt 7 151 [(0, vR X 58), (1, vI (D 12 8)), (2, vI s1.1)] [] b2) h (fun b2 h => ?_) (fun s2 h => ?_)
      · refine r_aload_nR F 0 rfl rfl d0_chooseFirst_151 ?_
        refine r_getR F (z := 59) lf0_22 (vc58 hn) z58_4 d0_chooseFirst_152 ?_
        refine r_iload_n F 2 rfl rfl d0_chooseFirst_155 ?_
        refine r_iald F (vc59 hn) hx1 d0_chooseFirst_156 ?_
        refine r_iconst F (z := (-1)) d0_chooseFirst_157 ?_
        refine at_join (B := fun (j3 : Mem) => At K X (ZQ K X Q) 0 0 n rt 7 178 [(0, vR X 58), (1, vI (D 12 8)), (2, vI s1.1)] [] j3) h (fun j3 h => ?_) (fun h => ?_)
        · refine r_iinc F 2 (lv' := [(2, vI (s1.1 + 1)), (0, vR X 58), (1, vI (D 12 8))]) rfl (Nat.le_of_ble_eq_true rfl) rfl d0_chooseFirst_178 ?_
          refine r_goto F (tgt := 25) (by decide) d0_chooseFirst_181 ?_
          refine r_weak [1, 2, 0] rfl ?_
          replace h := wpo_inl h
          exact h
        · refine r_icmp_eq F (tgt := 178) d0_chooseFirst_158 (by decide) (fun hb => ?_) (fun hb => ?_)
          · replace h := wpo_pos h hb
            replace h := wpo_some h
            exact h
          · replace h := wpo_neg h hb
            refine r_aload_nR F 0 rfl rfl d0_chooseFirst_161 ?_
            refine r_dup F rfl d0_chooseFirst_162 ?_
            refine r_getI F lf0_19 (vc58 hn) d0_chooseFirst_163 ?_
            refine r_iconst F (z := 1) d0_chooseFirst_166 ?_
            refine r_aload_nR F 0 rfl rfl d0_chooseFirst_167 ?_
            refine r_getR F (z := 59) lf0_22 (vc58 hn) z58_4 d0_chooseFirst_168 ?_
            refine r_iload_n F 2 rfl rfl d0_chooseFirst_171 ?_
            refine r_iald F (vc59 hn) hx1 d0_chooseFirst_172 ?_
            refine r_ishl F d0_chooseFirst_173 ?_
            refine r_ior F d0_chooseFirst_174 ?_
            refine r_putI F lf0_19 rfl rfl (vc58 hn) d0_chooseFirst_175 ?_
            replace h := wpo_some h
            exact h
      · refine r_iload F 5 rfl d0_chooseFirst_71 ?_
        refine r_iload_n F 1 rfl rfl d0_chooseFirst_73 ?_
        refine r_icmp_ge F (tgt := 151) d0_chooseFirst_74 (by decide) (fun hb => ?_) (fun hb => ?_)
        · replace h := wpo_neg h hb
          refine r_weak [0, 1, 2] rfl ?_
          replace h := wpo_inr h
          exact h
        · replace h := wpo_pos h hb
          refine r_aload_nR F 0 rfl rfl d0_chooseFirst_77 ?_
          refine r_getR F (z := 59) lf0_22 (vc58 hn) z58_4 d0_chooseFirst_78 ?_
          refine r_iload_n F 2 rfl rfl d0_chooseFirst_81 ?_
          refine r_iald F (vc59 hn) hx1 d0_chooseFirst_82 ?_
          refine r_iconst F (z := (-1)) d0_chooseFirst_83 ?_
          refine r_icmp_ne F (tgt := 151) d0_chooseFirst_84 (by decide) (fun hb => ?_) (fun hb => ?_)
          · replace h := wpo_neg h hb
            refine r_weak [0, 1, 2] rfl ?_
            replace h := wpo_inr h
            exact h
          · replace h := wpo_pos h hb
            refine r_iload_n F 3 rfl rfl d0_chooseFirst_87 ?_
            refine r_iload F 5 rfl d0_chooseFirst_88 ?_
            refine r_ishr F d0_chooseFirst_90 ?_
            refine r_iconst F (z := 1) d0_chooseFirst_91 ?_
            refine r_iand F d0_chooseFirst_92 ?_
            refine at_join (B := fun (j1 : Int) => At K X (ZQ K X Q) 0 0 n rt 7 101 [(0, vR X 58), (1, vI (D 12 8)), (2, vI s1.1), (3, vI v1), (4, vI v2), (5, vI s2.1)] [vI j1] s2.2) h (fun j1 h => ?_) (fun h => ?_)
            · refine r_istore F (lv' := [(6, vI j1), (0, vR X 58), (1, vI (D 12 8)), (2, vI s1.1), (3, vI v1), (4, vI v2), (5, vI s2.1)]) (Nat.le_of_ble_eq_true rfl) rfl d0_chooseFirst_101 ?_
              refine r_iload F 0 rfl d0_chooseFirst_103 ?_
              refine at_join (B := fun (j2 : Mem) => At K X (ZQ K X Q) 0 0 n rt 7 145 [(0, vR X 58), (1, vI (D 12 8)), (2, vI s1.1), (3, vI v1), (4, vI v2), (5, vI s2.1)] [] j2) h (fun j2 h => ?_) (fun h => ?_)
              · refine r_iinc F 5 (lv' := [(5, vI (s2.1 + 1)), (0, vR X 58), (1, vI (D 12 8)), (2, vI s1.1), (3, vI v1), (4, vI v2)]) rfl (Nat.le_of_ble_eq_true rfl) rfl d0_chooseFirst_145 ?_
                refine r_goto F (tgt := 71) (by decide) d0_chooseFirst_148 ?_
                refine r_weak [1, 2, 3, 4, 5, 0] rfl ?_
                replace h := wpo_inl h
                exact h
              · refine r_if_eq F (tgt := 145) d0_chooseFirst_105 (by decide) (fun hb => ?_) (fun hb => ?_)
                · replace h := wpo_pos h hb
                  refine r_weak [1, 2, 3, 4, 5, 6] rfl ?_
                  replace h := wpo_some h
                  exact h
                · replace h := wpo_neg h hb
                  refine r_iconst F (z := 1) d0_chooseFirst_108 ?_
                  refine r_aload_nR F 1 rfl rfl d0_chooseFirst_109 ?_
                  refine r_getR F (z := 62) lf0_32 (vc58 hn) z58_7 d0_chooseFirst_110 ?_
                  refine r_iload_n F 3 rfl rfl d0_chooseFirst_113 ?_
                  refine r_iconst F (z := 1) d0_chooseFirst_114 ?_
                  refine r_iadd F d0_chooseFirst_115 ?_
                  refine r_sipush F (z := 256) (by decide) d0_chooseFirst_116 ?_
                  refine r_imul F d0_chooseFirst_119 ?_
                  refine r_aload_nR F 1 rfl rfl d0_chooseFirst_120 ?_
                  refine r_getI F lf0_19 (vc58 hn) d0_chooseFirst_121 ?_
                  refine r_iconst F (z := 1) d0_chooseFirst_124 ?_
                  refine r_iload F 6 rfl d0_chooseFirst_125 ?_
                  refine r_ishl F d0_chooseFirst_127 ?_
                  refine r_ior F d0_chooseFirst_128 ?_
                  refine r_iadd F d0_chooseFirst_129 ?_
                  obtain ⟨hx3, h⟩ := wpo_chk h
                  refine r_iald F (vc62 hn) hx3 d0_chooseFirst_130 ?_
                  refine r_iadd F d0_chooseFirst_131 ?_
                  refine r_iload F 5 rfl d0_chooseFirst_132 ?_
                  refine r_icmp_ne F (tgt := 145) d0_chooseFirst_134 (by decide) (fun hb => ?_) (fun hb => ?_)
                  · replace h := wpo_neg h hb
                    refine r_weak [1, 2, 3, 4, 5, 6] rfl ?_
                    replace h := wpo_some h
                    exact h
                  · replace h := wpo_pos h hb
                    refine r_aload_nR F 1 rfl rfl d0_chooseFirst_137 ?_
                    refine r_getR F (z := 59) lf0_22 (vc58 hn) z58_4 d0_chooseFirst_138 ?_
                    refine r_iload_n F 3 rfl rfl d0_chooseFirst_141 ?_
                    refine r_iload F 6 rfl d0_chooseFirst_142 ?_
                    refine r_iast F (vc59 hn) hx1 d0_chooseFirst_144 ?_
                    refine r_weak [1, 2, 3, 4, 5, 6] rfl ?_
                    replace h := wpo_some h
                    exact h
            · refine r_if_eq F (tgt := 100) d0_chooseFirst_93 (by decide) (fun hb => ?_) (fun hb => ?_)
              · replace h := wpo_pos h hb
                refine r_iconst F (z := 0) d0_chooseFirst_100 ?_
                replace h := wpo_some h
                exact h
              · replace h := wpo_neg h hb
                refine r_iconst F (z := 1) d0_chooseFirst_96 ?_
                refine r_goto F (tgt := 101) (by decide) d0_chooseFirst_97 ?_
                replace h := wpo_some h
                exact h
theorem d0_work_0 : decode c0_work 0 = .ok (.aload_n 0, 1) := by decide +kernel
theorem d0_work_1 : decode c0_work 1 = .ok (.getfield 9, 3) := by decide +kernel
theorem d0_work_4 : decode c0_work 4 = .ok (.ifCond .eq 4, 3) := by decide +kernel
theorem d0_work_7 : decode c0_work 7 = .ok (.return_, 1) := by decide +kernel
theorem d0_work_8 : decode c0_work 8 = .ok (.aload_n 0, 1) := by decide +kernel
theorem d0_work_9 : decode c0_work 9 = .ok (.aload_n 0, 1) := by decide +kernel
theorem d0_work_10 : decode c0_work 10 = .ok (.getfield 26, 3) := by decide +kernel
theorem d0_work_13 : decode c0_work 13 = .ok (.iconst 0, 1) := by decide +kernel
theorem d0_work_14 : decode c0_work 14 = .ok (.iconst 0, 1) := by decide +kernel
theorem d0_work_15 : decode c0_work 15 = .ok (.invokevirtual 42, 3) := by decide +kernel
theorem d0_work_18 : decode c0_work 18 = .ok (.aload_n 0, 1) := by decide +kernel
theorem d0_work_19 : decode c0_work 19 = .ok (.invokevirtual 46, 3) := by decide +kernel
theorem d0_work_22 : decode c0_work 22 = .ok (.aload_n 0, 1) := by decide +kernel
theorem d0_work_23 : decode c0_work 23 = .ok (.invokevirtual 49, 3) := by decide +kernel
theorem d0_work_26 : decode c0_work 26 = .ok (.aload_n 0, 1) := by decide +kernel
theorem d0_work_27 : decode c0_work 27 = .ok (.iconst 1, 1) := by decide +kernel
theorem d0_work_28 : decode c0_work 28 = .ok (.putfield 9, 3) := by decide +kernel
theorem d0_work_31 : decode c0_work 31 = .ok (.return_, 1) := by decide +kernel
def f0_work (D : Mem) : Option (Mem) :=
  if w32 (D 58 1) = 0 then
    Option.bind (f0_findHelpers D 60 0 0) fun (a1 : Mem) =>
    Option.bind (f0_countFromBehind a1) fun (a2 : Mem) =>
    Option.bind (f0_chooseFirst a2) fun (a3 : Mem) =>
    some (mset a3 58 1 1)
  else
    some D
set_option maxHeartbeats 4000000 in
theorem ok0_work {l : Launch} {X : XT} {n : Nat} {D : Mem} {Q : Option Value → Nat → Rho → Mem → Prop} (hn : 117 ≤ n)  (h : wpo (f0_work D) (fun a => Q none n rt a)) : MOK l y0_work c0_work 1 (none) { frames := 2, cells := 0, slots := 0, locals := 50 } 0 0 X [vR X 58] n rt D Q := by
  refine MOK_of 0 (by decide +kernel) rfl (lv := [(0, vR X 58)]) (Nat.le_of_ble_eq_true rfl) rfl (fun K hK F hnm => ?_)
  subst hK
  unfold f0_work at h
  refine r_aload_nR F 0 rfl rfl d0_work_0 ?_
  refine r_getI F lf0_9 (vc58 hn) d0_work_1 ?_
  refine r_if_eq F (tgt := 8) d0_work_4 (by decide) (fun hb => ?_) (fun hb => ?_)
  · replace h := wpo_pos h hb
    refine r_aload_nR F 0 rfl rfl d0_work_8 ?_
    refine r_aload_nR F 0 rfl rfl d0_work_9 ?_
    refine r_getR F (z := 60) lf0_26 (vc58 hn) z58_5 d0_work_10 ?_
    refine r_iconst F (z := 0) d0_work_13 ?_
    refine r_iconst F (z := 0) d0_work_14 ?_
    replace h := wpo_bind h
    refine r_callV0 F lm0_42 mf0_findHelpers (vc58 hn) rfl (fr := 0) (lo := 0) (As := [vR X 60, vI 0, vI 0]) (rest := []) ⟨Nat.le_of_ble_eq_true rfl, Nat.le_of_ble_eq_true rfl⟩ rfl (Nat.le_of_ble_eq_true rfl) ⟨Nat.zero_le _, Nat.zero_le _⟩ d0_work_15 ?_
    refine ok0_findHelpers hn (vc60 hn) (kVm h (fun a1 h => ?_))
    refine r_aload_nR F 0 rfl rfl d0_work_18 ?_
    replace h := wpo_bind h
    refine r_callV0 F lm0_46 mf0_countFromBehind (vc58 hn) rfl (fr := 1) (lo := 23) (As := []) (rest := []) ⟨Nat.le_of_ble_eq_true rfl, Nat.le_of_ble_eq_true rfl⟩ rfl (Nat.le_of_ble_eq_true rfl) ⟨Nat.zero_le _, Nat.zero_le _⟩ d0_work_19 ?_
    refine ok0_countFromBehind hn  (kVm h (fun a2 h => ?_))
    refine r_aload_nR F 0 rfl rfl d0_work_22 ?_
    replace h := wpo_bind h
    refine r_callV0 F lm0_49 mf0_chooseFirst (vc58 hn) rfl (fr := 0) (lo := 0) (As := []) (rest := []) ⟨Nat.le_of_ble_eq_true rfl, Nat.le_of_ble_eq_true rfl⟩ rfl (Nat.le_of_ble_eq_true rfl) ⟨Nat.zero_le _, Nat.zero_le _⟩ d0_work_23 ?_
    refine ok0_chooseFirst hn  (kVm h (fun a3 h => ?_))
    refine r_aload_nR F 0 rfl rfl d0_work_26 ?_
    refine r_iconst F (z := 1) d0_work_27 ?_
    refine r_putZ F (Or.inr rfl) lf0_9 rfl rfl (vc58 hn) d0_work_28 ?_
    replace h := wpo_some h
    exact r_vret F h d0_work_31
  · replace h := wpo_neg h hb
    replace h := wpo_some h
    exact r_vret F h d0_work_7
theorem d9_pairs_0 : decode c9_pairs 0 = .ok (.aload_n 0, 1) := by decide +kernel
theorem d9_pairs_1 : decode c9_pairs 1 = .ok (.invokevirtual 159, 3) := by decide +kernel
theorem d9_pairs_4 : decode c9_pairs 4 = .ok (.ifCond .ne 6, 3) := by decide +kernel
theorem d9_pairs_7 : decode c9_pairs 7 = .ok (.bipush (-2), 2) := by decide +kernel
theorem d9_pairs_9 : decode c9_pairs 9 = .ok (.ireturn, 1) := by decide +kernel
theorem d9_pairs_10 : decode c9_pairs 10 = .ok (.aload_n 0, 1) := by decide +kernel
theorem d9_pairs_11 : decode c9_pairs 11 = .ok (.getfield 68, 3) := by decide +kernel
theorem d9_pairs_14 : decode c9_pairs 14 = .ok (.invokevirtual 251, 3) := by decide +kernel
theorem d9_pairs_17 : decode c9_pairs 17 = .ok (.aload_n 0, 1) := by decide +kernel
theorem d9_pairs_18 : decode c9_pairs 18 = .ok (.getfield 68, 3) := by decide +kernel
theorem d9_pairs_21 : decode c9_pairs 21 = .ok (.getfield 252, 3) := by decide +kernel
theorem d9_pairs_24 : decode c9_pairs 24 = .ok (.ireturn, 1) := by decide +kernel
def f9_pairs (D : Mem) : Option (Int × Mem) :=
  Option.bind (f9_isThere D) fun (a1 : Int) =>
  if w32 a1 = 0 then
    some ((-2), D)
  else
    Option.bind (f0_work D) fun (a2 : Mem) =>
    some ((a2 58 2), a2)
set_option maxHeartbeats 4000000 in
theorem ok9_pairs {l : Launch} {X : XT} {n : Nat} {D : Mem} {Q : Option Value → Nat → Rho → Mem → Prop} (hn : 117 ≤ n)  (h : wpo (f9_pairs D) (fun a => Q (some (vI a.1)) n rt a.2)) : MOK l y9_pairs c9_pairs 1 (some .int) { frames := 3, cells := 0, slots := 0, locals := 70 } 0 0 X [vR X 0] n rt D Q := by
  refine MOK_of 9 (by decide +kernel) rfl (lv := [(0, vR X 0)]) (Nat.le_of_ble_eq_true rfl) rfl (fun K hK F hnm => ?_)
  subst hK
  unfold f9_pairs at h
  refine r_aload_nR F 0 rfl rfl d9_pairs_0 ?_
  replace h := wpo_bind h
  refine r_callV0 F lm9_159 mf9_isThere (vc0 hn) rfl (fr := 0) (lo := 0) (As := []) (rest := []) ⟨Nat.le_of_ble_eq_true rfl, Nat.le_of_ble_eq_true rfl⟩ rfl (Nat.le_of_ble_eq_true rfl) ⟨Nat.zero_le _, Nat.zero_le _⟩ d9_pairs_1 ?_
  refine ok9_isThere hn  (kI h (fun a1 h => ?_))
  refine r_if_ne F (tgt := 10) d9_pairs_4 (by decide) (fun hb => ?_) (fun hb => ?_)
  · replace h := wpo_neg h hb
    refine r_aload_nR F 0 rfl rfl d9_pairs_10 ?_
    refine r_getR F (z := 58) lf9_68 (vc0 hn) z0_9 d9_pairs_11 ?_
    replace h := wpo_bind h
    refine r_callV0 F lm9_251 mf0_work (vc58 hn) rfl (fr := 2) (lo := 50) (As := []) (rest := []) ⟨Nat.le_of_ble_eq_true rfl, Nat.le_of_ble_eq_true rfl⟩ rfl (Nat.le_of_ble_eq_true rfl) ⟨Nat.zero_le _, Nat.zero_le _⟩ d9_pairs_14 ?_
    refine ok0_work hn  (kVm h (fun a2 h => ?_))
    refine r_aload_nR F 0 rfl rfl d9_pairs_17 ?_
    refine r_getR F (z := 58) lf9_68 (vc0 hn) z0_9 d9_pairs_18 ?_
    refine r_getI F lf9_252 (vc58 hn) d9_pairs_21 ?_
    replace h := wpo_some h
    exact r_iret F h d9_pairs_24
  · replace h := wpo_pos h hb
    refine r_bipush F (z := (-2)) (by decide) d9_pairs_7 ?_
    replace h := wpo_some h
    exact r_iret F h d9_pairs_9
theorem d9_bearer_0 : decode c9_bearer 0 = .ok (.aload_n 0, 1) := by decide +kernel
theorem d9_bearer_1 : decode c9_bearer 1 = .ok (.iload_n 1, 1) := by decide +kernel
theorem d9_bearer_2 : decode c9_bearer 2 = .ok (.invokevirtual 124, 3) := by decide +kernel
theorem d9_bearer_5 : decode c9_bearer 5 = .ok (.ifCond .ne 6, 3) := by decide +kernel
theorem d9_bearer_8 : decode c9_bearer 8 = .ok (.bipush (-2), 2) := by decide +kernel
theorem d9_bearer_10 : decode c9_bearer 10 = .ok (.ireturn, 1) := by decide +kernel
theorem d9_bearer_11 : decode c9_bearer 11 = .ok (.aload_n 0, 1) := by decide +kernel
theorem d9_bearer_12 : decode c9_bearer 12 = .ok (.getfield 68, 3) := by decide +kernel
theorem d9_bearer_15 : decode c9_bearer 15 = .ok (.invokevirtual 251, 3) := by decide +kernel
theorem d9_bearer_18 : decode c9_bearer 18 = .ok (.aload_n 0, 1) := by decide +kernel
theorem d9_bearer_19 : decode c9_bearer 19 = .ok (.getfield 68, 3) := by decide +kernel
theorem d9_bearer_22 : decode c9_bearer 22 = .ok (.getfield 255, 3) := by decide +kernel
theorem d9_bearer_25 : decode c9_bearer 25 = .ok (.iload_n 1, 1) := by decide +kernel
theorem d9_bearer_26 : decode c9_bearer 26 = .ok (.iaload, 1) := by decide +kernel
theorem d9_bearer_27 : decode c9_bearer 27 = .ok (.ireturn, 1) := by decide +kernel
def f9_bearer (D : Mem) (p0 : Int) : Option (Int × Mem) :=
  Option.bind (f9_isPerson D p0) fun (a1 : Int) =>
  if w32 a1 = 0 then
    some ((-2), D)
  else
    Option.bind (f0_work D) fun (a2 : Mem) =>
    if 0 ≤ p0 ∧ p0 < 8 then
      some ((a2 59 p0.toNat), a2)
    else none
set_option maxHeartbeats 4000000 in
theorem ok9_bearer {l : Launch} {X : XT} {n : Nat} {D : Mem} {Q : Option Value → Nat → Rho → Mem → Prop} (hn : 117 ≤ n) {p0 : Int}  (h : wpo (f9_bearer D p0) (fun a => Q (some (vI a.1)) n rt a.2)) : MOK l y9_bearer c9_bearer 2 (some .int) { frames := 3, cells := 0, slots := 0, locals := 70 } 0 0 X [vR X 0, vI p0] n rt D Q := by
  refine MOK_of 9 (by decide +kernel) rfl (lv := [(0, vR X 0), (1, vI p0)]) (Nat.le_of_ble_eq_true rfl) rfl (fun K hK F hnm => ?_)
  subst hK
  unfold f9_bearer at h
  refine r_aload_nR F 0 rfl rfl d9_bearer_0 ?_
  refine r_iload_n F 1 rfl rfl d9_bearer_1 ?_
  replace h := wpo_bind h
  refine r_callV0 F lm9_124 mf9_isPerson (vc0 hn) rfl (fr := 0) (lo := 0) (As := [vI p0]) (rest := []) ⟨Nat.le_of_ble_eq_true rfl, Nat.le_of_ble_eq_true rfl⟩ rfl (Nat.le_of_ble_eq_true rfl) ⟨Nat.zero_le _, Nat.zero_le _⟩ d9_bearer_2 ?_
  refine ok9_isPerson hn  (kI h (fun a1 h => ?_))
  refine r_if_ne F (tgt := 11) d9_bearer_5 (by decide) (fun hb => ?_) (fun hb => ?_)
  · replace h := wpo_neg h hb
    refine r_aload_nR F 0 rfl rfl d9_bearer_11 ?_
    refine r_getR F (z := 58) lf9_68 (vc0 hn) z0_9 d9_bearer_12 ?_
    replace h := wpo_bind h
    refine r_callV0 F lm9_251 mf0_work (vc58 hn) rfl (fr := 2) (lo := 50) (As := []) (rest := []) ⟨Nat.le_of_ble_eq_true rfl, Nat.le_of_ble_eq_true rfl⟩ rfl (Nat.le_of_ble_eq_true rfl) ⟨Nat.zero_le _, Nat.zero_le _⟩ d9_bearer_15 ?_
    refine ok0_work hn  (kVm h (fun a2 h => ?_))
    refine r_aload_nR F 0 rfl rfl d9_bearer_18 ?_
    refine r_getR F (z := 58) lf9_68 (vc0 hn) z0_9 d9_bearer_19 ?_
    refine r_getR F (z := 59) lf9_255 (vc58 hn) z58_4 d9_bearer_22 ?_
    refine r_iload_n F 1 rfl rfl d9_bearer_25 ?_
    obtain ⟨hx1, h⟩ := wpo_chk h
    refine r_iald F (vc59 hn) hx1 d9_bearer_26 ?_
    replace h := wpo_some h
    exact r_iret F h d9_bearer_27
  · replace h := wpo_pos h hb
    refine r_bipush F (z := (-2)) (by decide) d9_bearer_8 ?_
    replace h := wpo_some h
    exact r_iret F h d9_bearer_10
theorem d9_spoons_0 : decode c9_spoons 0 = .ok (.aload_n 0, 1) := by decide +kernel
theorem d9_spoons_1 : decode c9_spoons 1 = .ok (.invokevirtual 159, 3) := by decide +kernel
theorem d9_spoons_4 : decode c9_spoons 4 = .ok (.ifCond .ne 6, 3) := by decide +kernel
theorem d9_spoons_7 : decode c9_spoons 7 = .ok (.bipush (-2), 2) := by decide +kernel
theorem d9_spoons_9 : decode c9_spoons 9 = .ok (.ireturn, 1) := by decide +kernel
theorem d9_spoons_10 : decode c9_spoons 10 = .ok (.aload_n 0, 1) := by decide +kernel
theorem d9_spoons_11 : decode c9_spoons 11 = .ok (.getfield 68, 3) := by decide +kernel
theorem d9_spoons_14 : decode c9_spoons 14 = .ok (.invokevirtual 251, 3) := by decide +kernel
theorem d9_spoons_17 : decode c9_spoons 17 = .ok (.aload_n 0, 1) := by decide +kernel
theorem d9_spoons_18 : decode c9_spoons 18 = .ok (.getfield 68, 3) := by decide +kernel
theorem d9_spoons_21 : decode c9_spoons 21 = .ok (.getfield 258, 3) := by decide +kernel
theorem d9_spoons_24 : decode c9_spoons 24 = .ok (.ireturn, 1) := by decide +kernel
def f9_spoons (D : Mem) : Option (Int × Mem) :=
  Option.bind (f9_isThere D) fun (a1 : Int) =>
  if w32 a1 = 0 then
    some ((-2), D)
  else
    Option.bind (f0_work D) fun (a2 : Mem) =>
    some ((a2 58 3), a2)
set_option maxHeartbeats 4000000 in
theorem ok9_spoons {l : Launch} {X : XT} {n : Nat} {D : Mem} {Q : Option Value → Nat → Rho → Mem → Prop} (hn : 117 ≤ n)  (h : wpo (f9_spoons D) (fun a => Q (some (vI a.1)) n rt a.2)) : MOK l y9_spoons c9_spoons 1 (some .int) { frames := 3, cells := 0, slots := 0, locals := 70 } 0 0 X [vR X 0] n rt D Q := by
  refine MOK_of 9 (by decide +kernel) rfl (lv := [(0, vR X 0)]) (Nat.le_of_ble_eq_true rfl) rfl (fun K hK F hnm => ?_)
  subst hK
  unfold f9_spoons at h
  refine r_aload_nR F 0 rfl rfl d9_spoons_0 ?_
  replace h := wpo_bind h
  refine r_callV0 F lm9_159 mf9_isThere (vc0 hn) rfl (fr := 0) (lo := 0) (As := []) (rest := []) ⟨Nat.le_of_ble_eq_true rfl, Nat.le_of_ble_eq_true rfl⟩ rfl (Nat.le_of_ble_eq_true rfl) ⟨Nat.zero_le _, Nat.zero_le _⟩ d9_spoons_1 ?_
  refine ok9_isThere hn  (kI h (fun a1 h => ?_))
  refine r_if_ne F (tgt := 10) d9_spoons_4 (by decide) (fun hb => ?_) (fun hb => ?_)
  · replace h := wpo_neg h hb
    refine r_aload_nR F 0 rfl rfl d9_spoons_10 ?_
    refine r_getR F (z := 58) lf9_68 (vc0 hn) z0_9 d9_spoons_11 ?_
    replace h := wpo_bind h
    refine r_callV0 F lm9_251 mf0_work (vc58 hn) rfl (fr := 2) (lo := 50) (As := []) (rest := []) ⟨Nat.le_of_ble_eq_true rfl, Nat.le_of_ble_eq_true rfl⟩ rfl (Nat.le_of_ble_eq_true rfl) ⟨Nat.zero_le _, Nat.zero_le _⟩ d9_spoons_14 ?_
    refine ok0_work hn  (kVm h (fun a2 h => ?_))
    refine r_aload_nR F 0 rfl rfl d9_spoons_17 ?_
    refine r_getR F (z := 58) lf9_68 (vc0 hn) z0_9 d9_spoons_18 ?_
    refine r_getI F lf9_258 (vc58 hn) d9_spoons_21 ?_
    replace h := wpo_some h
    exact r_iret F h d9_spoons_24
  · replace h := wpo_pos h hb
    refine r_bipush F (z := (-2)) (by decide) d9_spoons_7 ?_
    replace h := wpo_some h
    exact r_iret F h d9_spoons_9
theorem d9_lonely_0 : decode c9_lonely 0 = .ok (.aload_n 0, 1) := by decide +kernel
theorem d9_lonely_1 : decode c9_lonely 1 = .ok (.invokevirtual 159, 3) := by decide +kernel
theorem d9_lonely_4 : decode c9_lonely 4 = .ok (.ifCond .ne 6, 3) := by decide +kernel
theorem d9_lonely_7 : decode c9_lonely 7 = .ok (.bipush (-2), 2) := by decide +kernel
theorem d9_lonely_9 : decode c9_lonely 9 = .ok (.ireturn, 1) := by decide +kernel
theorem d9_lonely_10 : decode c9_lonely 10 = .ok (.aload_n 0, 1) := by decide +kernel
theorem d9_lonely_11 : decode c9_lonely 11 = .ok (.getfield 68, 3) := by decide +kernel
theorem d9_lonely_14 : decode c9_lonely 14 = .ok (.invokevirtual 251, 3) := by decide +kernel
theorem d9_lonely_17 : decode c9_lonely 17 = .ok (.iconst 0, 1) := by decide +kernel
theorem d9_lonely_18 : decode c9_lonely 18 = .ok (.istore_n 1, 1) := by decide +kernel
theorem d9_lonely_19 : decode c9_lonely 19 = .ok (.iconst 0, 1) := by decide +kernel
theorem d9_lonely_20 : decode c9_lonely 20 = .ok (.istore_n 2, 1) := by decide +kernel
theorem d9_lonely_21 : decode c9_lonely 21 = .ok (.iload_n 2, 1) := by decide +kernel
theorem d9_lonely_22 : decode c9_lonely 22 = .ok (.aload_n 0, 1) := by decide +kernel
theorem d9_lonely_23 : decode c9_lonely 23 = .ok (.getfield 28, 3) := by decide +kernel
theorem d9_lonely_26 : decode c9_lonely 26 = .ok (.getfield 165, 3) := by decide +kernel
theorem d9_lonely_29 : decode c9_lonely 29 = .ok (.if_icmp .ge 28, 3) := by decide +kernel
theorem d9_lonely_32 : decode c9_lonely 32 = .ok (.aload_n 0, 1) := by decide +kernel
theorem d9_lonely_33 : decode c9_lonely 33 = .ok (.getfield 68, 3) := by decide +kernel
theorem d9_lonely_36 : decode c9_lonely 36 = .ok (.getfield 255, 3) := by decide +kernel
theorem d9_lonely_39 : decode c9_lonely 39 = .ok (.iload_n 2, 1) := by decide +kernel
theorem d9_lonely_40 : decode c9_lonely 40 = .ok (.iaload, 1) := by decide +kernel
theorem d9_lonely_41 : decode c9_lonely 41 = .ok (.iconst (-1), 1) := by decide +kernel
theorem d9_lonely_42 : decode c9_lonely 42 = .ok (.if_icmp .ne 9, 3) := by decide +kernel
theorem d9_lonely_45 : decode c9_lonely 45 = .ok (.iload_n 1, 1) := by decide +kernel
theorem d9_lonely_46 : decode c9_lonely 46 = .ok (.iconst 1, 1) := by decide +kernel
theorem d9_lonely_47 : decode c9_lonely 47 = .ok (.iload_n 2, 1) := by decide +kernel
theorem d9_lonely_48 : decode c9_lonely 48 = .ok (.ishl, 1) := by decide +kernel
theorem d9_lonely_49 : decode c9_lonely 49 = .ok (.ior, 1) := by decide +kernel
theorem d9_lonely_50 : decode c9_lonely 50 = .ok (.istore_n 1, 1) := by decide +kernel
theorem d9_lonely_51 : decode c9_lonely 51 = .ok (.iinc 2 1, 3) := by decide +kernel
theorem d9_lonely_54 : decode c9_lonely 54 = .ok (.goto (-33), 3) := by decide +kernel
theorem d9_lonely_57 : decode c9_lonely 57 = .ok (.iload_n 1, 1) := by decide +kernel
theorem d9_lonely_58 : decode c9_lonely 58 = .ok (.ireturn, 1) := by decide +kernel
def f9_lonely (D : Mem) : Option (Int × Mem) :=
  Option.bind (f9_isThere D) fun (a1 : Int) =>
  if w32 a1 = 0 then
    some ((-2), D)
  else
    Option.bind (f0_work D) fun (a2 : Mem) =>
    Option.bind (@loop (Int × Int) (Int) (fun s1 =>
      if w32 s1.2 < w32 (a2 12 8) then
        if 0 ≤ s1.2 ∧ s1.2 < 8 then
          Option.bind (
            if w32 (a2 59 s1.2.toNat) = w32 (-1) then
              some (or32 s1.1 (shl32 1 s1.2))
            else
              some s1.1
          ) fun (j1 : Int) =>
          some (Sum.inl (j1, (s1.2 + 1)))
        else none
      else
        some (Sum.inr s1.1)
    ) FU (0, 0)) fun (b1 : Int) =>
    some (b1, a2)
set_option maxHeartbeats 4000000 in
theorem ok9_lonely {l : Launch} {X : XT} {n : Nat} {D : Mem} {Q : Option Value → Nat → Rho → Mem → Prop} (hn : 117 ≤ n)  (h : wpo (f9_lonely D) (fun a => Q (some (vI a.1)) n rt a.2)) : MOK l y9_lonely c9_lonely 3 (some .int) { frames := 3, cells := 0, slots := 0, locals := 70 } 0 0 X [vR X 0] n rt D Q := by
  refine MOK_of 9 (by decide +kernel) rfl (lv := [(0, vR X 0)]) (Nat.le_of_ble_eq_true rfl) rfl (fun K hK F hnm => ?_)
  subst hK
  unfold f9_lonely at h
  refine r_aload_nR F 0 rfl rfl d9_lonely_0 ?_
  replace h := wpo_bind h
  refine r_callV0 F lm9_159 mf9_isThere (vc0 hn) rfl (fr := 0) (lo := 0) (As := []) (rest := []) ⟨Nat.le_of_ble_eq_true rfl, Nat.le_of_ble_eq_true rfl⟩ rfl (Nat.le_of_ble_eq_true rfl) ⟨Nat.zero_le _, Nat.zero_le _⟩ d9_lonely_1 ?_
  refine ok9_isThere hn  (kI h (fun a1 h => ?_))
  refine r_if_ne F (tgt := 10) d9_lonely_4 (by decide) (fun hb => ?_) (fun hb => ?_)
  · replace h := wpo_neg h hb
    refine r_aload_nR F 0 rfl rfl d9_lonely_10 ?_
    refine r_getR F (z := 58) lf9_68 (vc0 hn) z0_9 d9_lonely_11 ?_
    replace h := wpo_bind h
    refine r_callV0 F lm9_251 mf0_work (vc58 hn) rfl (fr := 2) (lo := 50) (As := []) (rest := []) ⟨Nat.le_of_ble_eq_true rfl, Nat.le_of_ble_eq_true rfl⟩ rfl (Nat.le_of_ble_eq_true rfl) ⟨Nat.zero_le _, Nat.zero_le _⟩ d9_lonely_14 ?_
    refine ok0_work hn  (kVm h (fun a2 h => ?_))
    refine r_iconst F (z := 0) d9_lonely_17 ?_
    refine r_istore_n F (lv' := [(1, vI 0), (0, vR X 0)]) rfl (Nat.le_of_ble_eq_true rfl) rfl d9_lonely_18 ?_
    refine r_iconst F (z := 0) d9_lonely_19 ?_
    refine r_istore_n F (lv' := [(2, vI 0), (1, vI 0), (0, vR X 0)]) rfl (Nat.le_of_ble_eq_true rfl) rfl d9_lonely_20 ?_
    refine r_weak [2, 1, 0] rfl ?_
    refine at_loopj (A := fun (s1 : Int × Int) => At K X (ZQ K X Q) 0 0 n rt 3 21 [(0, vR X 0), (1, vI s1.1), (2, vI s1.2)] [] a2) (B := fun (b1 : Int) => At K X (ZQ K X Q) 0 0 n rt 3 57 [(1, vI b1)] [] a2) h (fun b1 h => ?_) (fun s1 h => ?_)
    · refine r_iload_n F 0 rfl rfl d9_lonely_57 ?_
      replace h := wpo_some h
      exact r_iret F h d9_lonely_58
    · refine r_iload_n F 2 rfl rfl d9_lonely_21 ?_
      refine r_aload_nR F 0 rfl rfl d9_lonely_22 ?_
      refine r_getR F (z := 12) lf9_28 (vc0 hn) z0_2 d9_lonely_23 ?_
      refine r_getI F lf9_165 (vc12 hn) d9_lonely_26 ?_
      refine r_icmp_ge F (tgt := 57) d9_lonely_29 (by decide) (fun hb => ?_) (fun hb => ?_)
      · replace h := wpo_neg h hb
        refine r_weak [1] rfl ?_
        replace h := wpo_inr h
        exact h
      · replace h := wpo_pos h hb
        refine r_aload_nR F 0 rfl rfl d9_lonely_32 ?_
        refine r_getR F (z := 58) lf9_68 (vc0 hn) z0_9 d9_lonely_33 ?_
        refine r_getR F (z := 59) lf9_255 (vc58 hn) z58_4 d9_lonely_36 ?_
        refine r_iload_n F 2 rfl rfl d9_lonely_39 ?_
        obtain ⟨hx1, h⟩ := wpo_chk h
        refine r_iald F (vc59 hn) hx1 d9_lonely_40 ?_
        refine r_iconst F (z := (-1)) d9_lonely_41 ?_
        refine at_join (B := fun (j1 : Int) => At K X (ZQ K X Q) 0 0 n rt 3 51 [(0, vR X 0), (1, vI j1), (2, vI s1.2)] [] a2) h (fun j1 h => ?_) (fun h => ?_)
        · refine r_iinc F 2 (lv' := [(2, vI (s1.2 + 1)), (0, vR X 0), (1, vI j1)]) rfl (Nat.le_of_ble_eq_true rfl) rfl d9_lonely_51 ?_
          refine r_goto F (tgt := 21) (by decide) d9_lonely_54 ?_
          refine r_weak [1, 2, 0] rfl ?_
          replace h := wpo_inl h
          exact h
        · refine r_icmp_ne F (tgt := 51) d9_lonely_42 (by decide) (fun hb => ?_) (fun hb => ?_)
          · replace h := wpo_neg h hb
            replace h := wpo_some h
            exact h
          · replace h := wpo_pos h hb
            refine r_iload_n F 1 rfl rfl d9_lonely_45 ?_
            refine r_iconst F (z := 1) d9_lonely_46 ?_
            refine r_iload_n F 2 rfl rfl d9_lonely_47 ?_
            refine r_ishl F d9_lonely_48 ?_
            refine r_ior F d9_lonely_49 ?_
            refine r_istore_n F (lv' := [(1, vI (or32 s1.1 (shl32 1 s1.2))), (0, vR X 0), (2, vI s1.2)]) rfl (Nat.le_of_ble_eq_true rfl) rfl d9_lonely_50 ?_
            refine r_weak [1, 0, 2] rfl ?_
            replace h := wpo_some h
            exact h
  · replace h := wpo_pos h hb
    refine r_bipush F (z := (-2)) (by decide) d9_lonely_7 ?_
    replace h := wpo_some h
    exact r_iret F h d9_lonely_9
theorem d9_isSet_0 : decode c9_isSet 0 = .ok (.aload_n 0, 1) := by decide +kernel
theorem d9_isSet_1 : decode c9_isSet 1 = .ok (.invokevirtual 159, 3) := by decide +kernel
theorem d9_isSet_4 : decode c9_isSet 4 = .ok (.ifCond .eq 24, 3) := by decide +kernel
theorem d9_isSet_7 : decode c9_isSet 7 = .ok (.iload_n 1, 1) := by decide +kernel
theorem d9_isSet_8 : decode c9_isSet 8 = .ok (.ifCond .lt 20, 3) := by decide +kernel
theorem d9_isSet_11 : decode c9_isSet 11 = .ok (.iload_n 1, 1) := by decide +kernel
theorem d9_isSet_12 : decode c9_isSet 12 = .ok (.iconst 1, 1) := by decide +kernel
theorem d9_isSet_13 : decode c9_isSet 13 = .ok (.aload_n 0, 1) := by decide +kernel
theorem d9_isSet_14 : decode c9_isSet 14 = .ok (.getfield 28, 3) := by decide +kernel
theorem d9_isSet_17 : decode c9_isSet 17 = .ok (.getfield 165, 3) := by decide +kernel
theorem d9_isSet_20 : decode c9_isSet 20 = .ok (.ishl, 1) := by decide +kernel
theorem d9_isSet_21 : decode c9_isSet 21 = .ok (.if_icmp .ge 7, 3) := by decide +kernel
theorem d9_isSet_24 : decode c9_isSet 24 = .ok (.iconst 1, 1) := by decide +kernel
theorem d9_isSet_25 : decode c9_isSet 25 = .ok (.goto 4, 3) := by decide +kernel
theorem d9_isSet_28 : decode c9_isSet 28 = .ok (.iconst 0, 1) := by decide +kernel
theorem d9_isSet_29 : decode c9_isSet 29 = .ok (.ireturn, 1) := by decide +kernel
def f9_isSet (D : Mem) (p0 : Int) : Option (Int) :=
  Option.bind (f9_isThere D) fun (a1 : Int) =>
  if w32 a1 = 0 then
    some 0
  else
    if w32 p0 < 0 then
      some 0
    else
      if w32 p0 < w32 (shl32 1 (D 12 8)) then
        some 1
      else
        some 0
set_option maxHeartbeats 4000000 in
theorem ok9_isSet {l : Launch} {X : XT} {n : Nat} {D : Mem} {Q : Option Value → Nat → Rho → Mem → Prop} (hn : 117 ≤ n) {p0 : Int}  (h : wpo (f9_isSet D p0) (fun a => Q (some (vI a)) n rt D)) : MOK l y9_isSet c9_isSet 2 (some .boolean) { frames := 1, cells := 0, slots := 0, locals := 20 } 0 0 X [vR X 0, vI p0] n rt D Q := by
  refine MOK_of 9 (by decide +kernel) rfl (lv := [(0, vR X 0), (1, vI p0)]) (Nat.le_of_ble_eq_true rfl) rfl (fun K hK F hnm => ?_)
  subst hK
  unfold f9_isSet at h
  refine r_aload_nR F 0 rfl rfl d9_isSet_0 ?_
  replace h := wpo_bind h
  refine r_callV0 F lm9_159 mf9_isThere (vc0 hn) rfl (fr := 0) (lo := 0) (As := []) (rest := []) ⟨Nat.le_of_ble_eq_true rfl, Nat.le_of_ble_eq_true rfl⟩ rfl (Nat.le_of_ble_eq_true rfl) ⟨Nat.zero_le _, Nat.zero_le _⟩ d9_isSet_1 ?_
  refine ok9_isThere hn  (kI h (fun a1 h => ?_))
  refine r_if_eq F (tgt := 28) d9_isSet_4 (by decide) (fun hb => ?_) (fun hb => ?_)
  · replace h := wpo_pos h hb
    refine r_iconst F (z := 0) d9_isSet_28 ?_
    replace h := wpo_some h
    exact r_zret F (Or.inl rfl) h d9_isSet_29
  · replace h := wpo_neg h hb
    refine r_iload_n F 1 rfl rfl d9_isSet_7 ?_
    refine r_if_lt F (tgt := 28) d9_isSet_8 (by decide) (fun hb => ?_) (fun hb => ?_)
    · replace h := wpo_pos h hb
      refine r_iconst F (z := 0) d9_isSet_28 ?_
      replace h := wpo_some h
      exact r_zret F (Or.inl rfl) h d9_isSet_29
    · replace h := wpo_neg h hb
      refine r_iload_n F 1 rfl rfl d9_isSet_11 ?_
      refine r_iconst F (z := 1) d9_isSet_12 ?_
      refine r_aload_nR F 0 rfl rfl d9_isSet_13 ?_
      refine r_getR F (z := 12) lf9_28 (vc0 hn) z0_2 d9_isSet_14 ?_
      refine r_getI F lf9_165 (vc12 hn) d9_isSet_17 ?_
      refine r_ishl F d9_isSet_20 ?_
      refine r_icmp_ge F (tgt := 28) d9_isSet_21 (by decide) (fun hb => ?_) (fun hb => ?_)
      · replace h := wpo_neg h hb
        refine r_iconst F (z := 0) d9_isSet_28 ?_
        replace h := wpo_some h
        exact r_zret F (Or.inl rfl) h d9_isSet_29
      · replace h := wpo_pos h hb
        refine r_iconst F (z := 1) d9_isSet_24 ?_
        refine r_goto F (tgt := 29) (by decide) d9_isSet_25 ?_
        replace h := wpo_some h
        exact r_zret F (Or.inr rfl) h d9_isSet_29
theorem d13_bitCount_0 : decode c13_bitCount 0 = .ok (.iload_n 0, 1) := by decide +kernel
theorem d13_bitCount_1 : decode c13_bitCount 1 = .ok (.iload_n 0, 1) := by decide +kernel
theorem d13_bitCount_2 : decode c13_bitCount 2 = .ok (.iconst 1, 1) := by decide +kernel
theorem d13_bitCount_3 : decode c13_bitCount 3 = .ok (.iushr, 1) := by decide +kernel
theorem d13_bitCount_4 : decode c13_bitCount 4 = .ok (.ldc_w 265, 3) := by decide +kernel
theorem d13_bitCount_7 : decode c13_bitCount 7 = .ok (.iand, 1) := by decide +kernel
theorem d13_bitCount_8 : decode c13_bitCount 8 = .ok (.isub, 1) := by decide +kernel
theorem d13_bitCount_9 : decode c13_bitCount 9 = .ok (.istore_n 0, 1) := by decide +kernel
theorem d13_bitCount_10 : decode c13_bitCount 10 = .ok (.iload_n 0, 1) := by decide +kernel
theorem d13_bitCount_11 : decode c13_bitCount 11 = .ok (.ldc_w 266, 3) := by decide +kernel
theorem d13_bitCount_14 : decode c13_bitCount 14 = .ok (.iand, 1) := by decide +kernel
theorem d13_bitCount_15 : decode c13_bitCount 15 = .ok (.iload_n 0, 1) := by decide +kernel
theorem d13_bitCount_16 : decode c13_bitCount 16 = .ok (.iconst 2, 1) := by decide +kernel
theorem d13_bitCount_17 : decode c13_bitCount 17 = .ok (.iushr, 1) := by decide +kernel
theorem d13_bitCount_18 : decode c13_bitCount 18 = .ok (.ldc_w 266, 3) := by decide +kernel
theorem d13_bitCount_21 : decode c13_bitCount 21 = .ok (.iand, 1) := by decide +kernel
theorem d13_bitCount_22 : decode c13_bitCount 22 = .ok (.iadd, 1) := by decide +kernel
theorem d13_bitCount_23 : decode c13_bitCount 23 = .ok (.istore_n 0, 1) := by decide +kernel
theorem d13_bitCount_24 : decode c13_bitCount 24 = .ok (.iload_n 0, 1) := by decide +kernel
theorem d13_bitCount_25 : decode c13_bitCount 25 = .ok (.iload_n 0, 1) := by decide +kernel
theorem d13_bitCount_26 : decode c13_bitCount 26 = .ok (.iconst 4, 1) := by decide +kernel
theorem d13_bitCount_27 : decode c13_bitCount 27 = .ok (.iushr, 1) := by decide +kernel
theorem d13_bitCount_28 : decode c13_bitCount 28 = .ok (.iadd, 1) := by decide +kernel
theorem d13_bitCount_29 : decode c13_bitCount 29 = .ok (.ldc_w 267, 3) := by decide +kernel
theorem d13_bitCount_32 : decode c13_bitCount 32 = .ok (.iand, 1) := by decide +kernel
theorem d13_bitCount_33 : decode c13_bitCount 33 = .ok (.istore_n 0, 1) := by decide +kernel
theorem d13_bitCount_34 : decode c13_bitCount 34 = .ok (.iload_n 0, 1) := by decide +kernel
theorem d13_bitCount_35 : decode c13_bitCount 35 = .ok (.iload_n 0, 1) := by decide +kernel
theorem d13_bitCount_36 : decode c13_bitCount 36 = .ok (.bipush 8, 2) := by decide +kernel
theorem d13_bitCount_38 : decode c13_bitCount 38 = .ok (.iushr, 1) := by decide +kernel
theorem d13_bitCount_39 : decode c13_bitCount 39 = .ok (.iadd, 1) := by decide +kernel
theorem d13_bitCount_40 : decode c13_bitCount 40 = .ok (.istore_n 0, 1) := by decide +kernel
theorem d13_bitCount_41 : decode c13_bitCount 41 = .ok (.iload_n 0, 1) := by decide +kernel
theorem d13_bitCount_42 : decode c13_bitCount 42 = .ok (.iload_n 0, 1) := by decide +kernel
theorem d13_bitCount_43 : decode c13_bitCount 43 = .ok (.bipush 16, 2) := by decide +kernel
theorem d13_bitCount_45 : decode c13_bitCount 45 = .ok (.iushr, 1) := by decide +kernel
theorem d13_bitCount_46 : decode c13_bitCount 46 = .ok (.iadd, 1) := by decide +kernel
theorem d13_bitCount_47 : decode c13_bitCount 47 = .ok (.istore_n 0, 1) := by decide +kernel
theorem d13_bitCount_48 : decode c13_bitCount 48 = .ok (.iload_n 0, 1) := by decide +kernel
theorem d13_bitCount_49 : decode c13_bitCount 49 = .ok (.bipush 63, 2) := by decide +kernel
theorem d13_bitCount_51 : decode c13_bitCount 51 = .ok (.iand, 1) := by decide +kernel
theorem d13_bitCount_52 : decode c13_bitCount 52 = .ok (.ireturn, 1) := by decide +kernel
def f13_bitCount (D : Mem) (p0 : Int) : Option (Int) :=
  Option.bind (some (p0 - (and32 (ushr32 p0 1) 1431655765))) fun (v1 : Int) =>
  Option.bind (some ((and32 v1 858993459) + (and32 (ushr32 v1 2) 858993459))) fun (v2 : Int) =>
  Option.bind (some (and32 (v2 + (ushr32 v2 4)) 252645135)) fun (v3 : Int) =>
  Option.bind (some (v3 + (ushr32 v3 8))) fun (v4 : Int) =>
  Option.bind (some (v4 + (ushr32 v4 16))) fun (v5 : Int) =>
  some (and32 v5 63)
set_option maxHeartbeats 4000000 in
theorem ok13_bitCount {l : Launch} {X : XT} {n : Nat} {D : Mem} {Q : Option Value → Nat → Rho → Mem → Prop} {p0 : Int}  (h : wpo (f13_bitCount D p0) (fun a => Q (some (vI a)) n rt D)) : MOK l y13_bitCount c13_bitCount 1 (some .int) { frames := 0, cells := 0, slots := 0, locals := 0 } 0 0 X [vI p0] n rt D Q := by
  refine MOK_of 13 (by decide +kernel) rfl (lv := [(0, vI p0)]) (Nat.le_of_ble_eq_true rfl) rfl (fun K hK F hnm => ?_)
  subst hK
  unfold f13_bitCount at h
  refine r_iload_n F 0 rfl rfl d13_bitCount_0 ?_
  refine r_iload_n F 0 rfl rfl d13_bitCount_1 ?_
  refine r_iconst F (z := 1) d13_bitCount_2 ?_
  refine r_iushr F d13_bitCount_3 ?_
  refine r_ldcw F (z := 1431655765) lc13_265 d13_bitCount_4 ?_
  refine r_iand F d13_bitCount_7 ?_
  refine r_isub F d13_bitCount_8 ?_
  refine r_istore_n F (lv' := [(0, vI (p0 - (and32 (ushr32 p0 1) 1431655765)))]) rfl (Nat.le_of_ble_eq_true rfl) rfl d13_bitCount_9 ?_
  refine at_name (B := fun (v1 : Int) => At K X (ZQ K X Q) 0 0 n rt 1 10 [(0, vI v1)] [] D) h (fun v1 h => ?_)
  refine r_iload_n F 0 rfl rfl d13_bitCount_10 ?_
  refine r_ldcw F (z := 858993459) lc13_266 d13_bitCount_11 ?_
  refine r_iand F d13_bitCount_14 ?_
  refine r_iload_n F 0 rfl rfl d13_bitCount_15 ?_
  refine r_iconst F (z := 2) d13_bitCount_16 ?_
  refine r_iushr F d13_bitCount_17 ?_
  refine r_ldcw F (z := 858993459) lc13_266 d13_bitCount_18 ?_
  refine r_iand F d13_bitCount_21 ?_
  refine r_iadd F d13_bitCount_22 ?_
  refine r_istore_n F (lv' := [(0, vI ((and32 v1 858993459) + (and32 (ushr32 v1 2) 858993459)))]) rfl (Nat.le_of_ble_eq_true rfl) rfl d13_bitCount_23 ?_
  refine at_name (B := fun (v2 : Int) => At K X (ZQ K X Q) 0 0 n rt 1 24 [(0, vI v2)] [] D) h (fun v2 h => ?_)
  refine r_iload_n F 0 rfl rfl d13_bitCount_24 ?_
  refine r_iload_n F 0 rfl rfl d13_bitCount_25 ?_
  refine r_iconst F (z := 4) d13_bitCount_26 ?_
  refine r_iushr F d13_bitCount_27 ?_
  refine r_iadd F d13_bitCount_28 ?_
  refine r_ldcw F (z := 252645135) lc13_267 d13_bitCount_29 ?_
  refine r_iand F d13_bitCount_32 ?_
  refine r_istore_n F (lv' := [(0, vI (and32 (v2 + (ushr32 v2 4)) 252645135))]) rfl (Nat.le_of_ble_eq_true rfl) rfl d13_bitCount_33 ?_
  refine at_name (B := fun (v3 : Int) => At K X (ZQ K X Q) 0 0 n rt 1 34 [(0, vI v3)] [] D) h (fun v3 h => ?_)
  refine r_iload_n F 0 rfl rfl d13_bitCount_34 ?_
  refine r_iload_n F 0 rfl rfl d13_bitCount_35 ?_
  refine r_bipush F (z := 8) (by decide) d13_bitCount_36 ?_
  refine r_iushr F d13_bitCount_38 ?_
  refine r_iadd F d13_bitCount_39 ?_
  refine r_istore_n F (lv' := [(0, vI (v3 + (ushr32 v3 8)))]) rfl (Nat.le_of_ble_eq_true rfl) rfl d13_bitCount_40 ?_
  refine at_name (B := fun (v4 : Int) => At K X (ZQ K X Q) 0 0 n rt 1 41 [(0, vI v4)] [] D) h (fun v4 h => ?_)
  refine r_iload_n F 0 rfl rfl d13_bitCount_41 ?_
  refine r_iload_n F 0 rfl rfl d13_bitCount_42 ?_
  refine r_bipush F (z := 16) (by decide) d13_bitCount_43 ?_
  refine r_iushr F d13_bitCount_45 ?_
  refine r_iadd F d13_bitCount_46 ?_
  refine r_istore_n F (lv' := [(0, vI (v4 + (ushr32 v4 16)))]) rfl (Nat.le_of_ble_eq_true rfl) rfl d13_bitCount_47 ?_
  refine at_name (B := fun (v5 : Int) => At K X (ZQ K X Q) 0 0 n rt 1 48 [(0, vI v5)] [] D) h (fun v5 h => ?_)
  refine r_iload_n F 0 rfl rfl d13_bitCount_48 ?_
  refine r_bipush F (z := 63) (by decide) d13_bitCount_49 ?_
  refine r_iand F d13_bitCount_51 ?_
  replace h := wpo_some h
  exact r_iret F h d13_bitCount_52
theorem d0_addBearers_0 : decode c0_addBearers 0 = .ok (.iconst 1, 1) := by decide +kernel
theorem d0_addBearers_1 : decode c0_addBearers 1 = .ok (.aload_n 0, 1) := by decide +kernel
theorem d0_addBearers_2 : decode c0_addBearers 2 = .ok (.getfield 38, 3) := by decide +kernel
theorem d0_addBearers_5 : decode c0_addBearers 5 = .ok (.getfield 52, 3) := by decide +kernel
theorem d0_addBearers_8 : decode c0_addBearers 8 = .ok (.ishl, 1) := by decide +kernel
theorem d0_addBearers_9 : decode c0_addBearers 9 = .ok (.istore_n 3, 1) := by decide +kernel
theorem d0_addBearers_10 : decode c0_addBearers 10 = .ok (.iconst 0, 1) := by decide +kernel
theorem d0_addBearers_11 : decode c0_addBearers 11 = .ok (.istore 4, 2) := by decide +kernel
theorem d0_addBearers_13 : decode c0_addBearers 13 = .ok (.iconst 0, 1) := by decide +kernel
theorem d0_addBearers_14 : decode c0_addBearers 14 = .ok (.istore 5, 2) := by decide +kernel
theorem d0_addBearers_16 : decode c0_addBearers 16 = .ok (.iload 5, 2) := by decide +kernel
theorem d0_addBearers_18 : decode c0_addBearers 18 = .ok (.iload_n 3, 1) := by decide +kernel
theorem d0_addBearers_19 : decode c0_addBearers 19 = .ok (.if_icmp .ge 91, 3) := by decide +kernel
theorem d0_addBearers_22 : decode c0_addBearers 22 = .ok (.aload_n 0, 1) := by decide +kernel
theorem d0_addBearers_23 : decode c0_addBearers 23 = .ok (.getfield 35, 3) := by decide +kernel
theorem d0_addBearers_26 : decode c0_addBearers 26 = .ok (.iload 5, 2) := by decide +kernel
theorem d0_addBearers_28 : decode c0_addBearers 28 = .ok (.iaload, 1) := by decide +kernel
theorem d0_addBearers_29 : decode c0_addBearers 29 = .ok (.ifCond .eq 75, 3) := by decide +kernel
theorem d0_addBearers_32 : decode c0_addBearers 32 = .ok (.iload 5, 2) := by decide +kernel
theorem d0_addBearers_34 : decode c0_addBearers 34 = .ok (.invokestatic 79, 3) := by decide +kernel
theorem d0_addBearers_37 : decode c0_addBearers 37 = .ok (.iload_n 2, 1) := by decide +kernel
theorem d0_addBearers_38 : decode c0_addBearers 38 = .ok (.if_icmp .eq 6, 3) := by decide +kernel
theorem d0_addBearers_41 : decode c0_addBearers 41 = .ok (.goto 63, 3) := by decide +kernel
theorem d0_addBearers_44 : decode c0_addBearers 44 = .ok (.aload_n 0, 1) := by decide +kernel
theorem d0_addBearers_45 : decode c0_addBearers 45 = .ok (.getfield 29, 3) := by decide +kernel
theorem d0_addBearers_48 : decode c0_addBearers 48 = .ok (.iload_n 1, 1) := by decide +kernel
theorem d0_addBearers_49 : decode c0_addBearers 49 = .ok (.iaload, 1) := by decide +kernel
theorem d0_addBearers_50 : decode c0_addBearers 50 = .ok (.iload 5, 2) := by decide +kernel
theorem d0_addBearers_52 : decode c0_addBearers 52 = .ok (.iconst (-1), 1) := by decide +kernel
theorem d0_addBearers_53 : decode c0_addBearers 53 = .ok (.ixor, 1) := by decide +kernel
theorem d0_addBearers_54 : decode c0_addBearers 54 = .ok (.iand, 1) := by decide +kernel
theorem d0_addBearers_55 : decode c0_addBearers 55 = .ok (.istore 6, 2) := by decide +kernel
theorem d0_addBearers_57 : decode c0_addBearers 57 = .ok (.iconst 0, 1) := by decide +kernel
theorem d0_addBearers_58 : decode c0_addBearers 58 = .ok (.istore 7, 2) := by decide +kernel
theorem d0_addBearers_60 : decode c0_addBearers 60 = .ok (.iload 7, 2) := by decide +kernel
theorem d0_addBearers_62 : decode c0_addBearers 62 = .ok (.aload_n 0, 1) := by decide +kernel
theorem d0_addBearers_63 : decode c0_addBearers 63 = .ok (.getfield 38, 3) := by decide +kernel
theorem d0_addBearers_66 : decode c0_addBearers 66 = .ok (.getfield 52, 3) := by decide +kernel
theorem d0_addBearers_69 : decode c0_addBearers 69 = .ok (.if_icmp .ge 35, 3) := by decide +kernel
theorem d0_addBearers_72 : decode c0_addBearers 72 = .ok (.iload 6, 2) := by decide +kernel
theorem d0_addBearers_74 : decode c0_addBearers 74 = .ok (.iload 7, 2) := by decide +kernel
theorem d0_addBearers_76 : decode c0_addBearers 76 = .ok (.ishr, 1) := by decide +kernel
theorem d0_addBearers_77 : decode c0_addBearers 77 = .ok (.iconst 1, 1) := by decide +kernel
theorem d0_addBearers_78 : decode c0_addBearers 78 = .ok (.iand, 1) := by decide +kernel
theorem d0_addBearers_79 : decode c0_addBearers 79 = .ok (.ifCond .eq 19, 3) := by decide +kernel
theorem d0_addBearers_82 : decode c0_addBearers 82 = .ok (.aload_n 0, 1) := by decide +kernel
theorem d0_addBearers_83 : decode c0_addBearers 83 = .ok (.getfield 35, 3) := by decide +kernel
theorem d0_addBearers_86 : decode c0_addBearers 86 = .ok (.iload 5, 2) := by decide +kernel
theorem d0_addBearers_88 : decode c0_addBearers 88 = .ok (.iconst 1, 1) := by decide +kernel
theorem d0_addBearers_89 : decode c0_addBearers 89 = .ok (.iload 7, 2) := by decide +kernel
theorem d0_addBearers_91 : decode c0_addBearers 91 = .ok (.ishl, 1) := by decide +kernel
theorem d0_addBearers_92 : decode c0_addBearers 92 = .ok (.ior, 1) := by decide +kernel
theorem d0_addBearers_93 : decode c0_addBearers 93 = .ok (.iconst 1, 1) := by decide +kernel
theorem d0_addBearers_94 : decode c0_addBearers 94 = .ok (.iastore, 1) := by decide +kernel
theorem d0_addBearers_95 : decode c0_addBearers 95 = .ok (.iconst 1, 1) := by decide +kernel
theorem d0_addBearers_96 : decode c0_addBearers 96 = .ok (.istore 4, 2) := by decide +kernel
theorem d0_addBearers_98 : decode c0_addBearers 98 = .ok (.iinc 7 1, 3) := by decide +kernel
theorem d0_addBearers_101 : decode c0_addBearers 101 = .ok (.goto (-41), 3) := by decide +kernel
theorem d0_addBearers_104 : decode c0_addBearers 104 = .ok (.iinc 5 1, 3) := by decide +kernel
theorem d0_addBearers_107 : decode c0_addBearers 107 = .ok (.goto (-91), 3) := by decide +kernel
theorem d0_addBearers_110 : decode c0_addBearers 110 = .ok (.iload 4, 2) := by decide +kernel
theorem d0_addBearers_112 : decode c0_addBearers 112 = .ok (.ireturn, 1) := by decide +kernel
def f0_addBearers (D : Mem) (p0 : Int) (p1 : Int) : Option (Int × Mem) :=
  Option.bind (some (shl32 1 (D 12 8))) fun (v1 : Int) =>
  Option.bind (@loop (Int × Int × Mem) (Int × Mem) (fun s1 =>
    if w32 s1.2.1 < w32 v1 then
      if 0 ≤ s1.2.1 ∧ s1.2.1 < 256 then
        Option.bind (
          if w32 (s1.2.2 63 s1.2.1.toNat) = 0 then
            some (s1.1, s1.2.2)
          else
            Option.bind (f13_bitCount s1.2.2 s1.2.1) fun (a1 : Int) =>
            if w32 a1 = w32 p1 then
              if 0 ≤ p0 ∧ p0 < 8 then
                Option.bind (some (and32 (s1.2.2 61 p0.toNat) (xor32 s1.2.1 (-1)))) fun (v2 : Int) =>
                Option.bind (@loop (Int × Int × Mem) (Int × Mem) (fun s2 =>
                  if w32 s2.2.1 < w32 (s2.2.2 12 8) then
                    Option.bind (
                      if w32 (and32 (shr32 v2 s2.2.1) 1) = 0 then
                        some (s2.1, s2.2.2)
                      else
                        if 0 ≤ (or32 s1.2.1 (shl32 1 s2.2.1)) ∧ (or32 s1.2.1 (shl32 1 s2.2.1)) < 256 then
                          some (1, (mset s2.2.2 63 (or32 s1.2.1 (shl32 1 s2.2.1)).toNat 1))
                        else none
                    ) fun (j2 : Int × Mem) =>
                    some (Sum.inl (j2.1, (s2.2.1 + 1), j2.2))
                  else
                    some (Sum.inr (s2.1, s2.2.2))
                ) FU (s1.1, 0, s1.2.2)) fun (b2 : Int × Mem) =>
                some (b2.1, b2.2)
              else none
            else
              some (s1.1, s1.2.2)
        ) fun (j1 : Int × Mem) =>
        some (Sum.inl (j1.1, (s1.2.1 + 1), j1.2))
      else none
    else
      some (Sum.inr (s1.1, s1.2.2))
  ) FU (0, 0, D)) fun (b1 : Int × Mem) =>
  if b1.1 = 0 ∨ b1.1 = 1 then
    some (b1.1, b1.2)
  else none
set_option maxHeartbeats 4000000 in
theorem ok0_addBearers {l : Launch} {X : XT} {n : Nat} {D : Mem} {Q : Option Value → Nat → Rho → Mem → Prop} (hn : 117 ≤ n) {p0 : Int} {p1 : Int}  (h : wpo (f0_addBearers D p0 p1) (fun a => Q (some (vI a.1)) n rt a.2)) : MOK l y0_addBearers c0_addBearers 8 (some .boolean) { frames := 1, cells := 0, slots := 0, locals := 20 } 0 0 X [vR X 58, vI p0, vI p1] n rt D Q := by
  refine MOK_of 0 (by decide +kernel) rfl (lv := [(0, vR X 58), (1, vI p0), (2, vI p1)]) (Nat.le_of_ble_eq_true rfl) rfl (fun K hK F hnm => ?_)
  subst hK
  unfold f0_addBearers at h
  refine r_iconst F (z := 1) d0_addBearers_0 ?_
  refine r_aload_nR F 0 rfl rfl d0_addBearers_1 ?_
  refine r_getR F (z := 12) lf0_38 (vc58 hn) z58_0 d0_addBearers_2 ?_
  refine r_getI F lf0_52 (vc12 hn) d0_addBearers_5 ?_
  refine r_ishl F d0_addBearers_8 ?_
  refine r_istore_n F (lv' := [(3, vI (shl32 1 (D 12 8))), (0, vR X 58), (1, vI p0), (2, vI p1)]) rfl (Nat.le_of_ble_eq_true rfl) rfl d0_addBearers_9 ?_
  refine at_name (B := fun (v1 : Int) => At K X (ZQ K X Q) 0 0 n rt 8 10 [(3, vI v1), (0, vR X 58), (1, vI p0), (2, vI p1)] [] D) h (fun v1 h => ?_)
  refine r_iconst F (z := 0) d0_addBearers_10 ?_
  refine r_istore F (lv' := [(4, vI 0), (3, vI v1), (0, vR X 58), (1, vI p0), (2, vI p1)]) (Nat.le_of_ble_eq_true rfl) rfl d0_addBearers_11 ?_
  refine r_iconst F (z := 0) d0_addBearers_13 ?_
  refine r_istore F (lv' := [(5, vI 0), (4, vI 0), (3, vI v1), (0, vR X 58), (1, vI p0), (2, vI p1)]) (Nat.le_of_ble_eq_true rfl) rfl d0_addBearers_14 ?_
  refine r_weak [3, 4, 5, 2, 1, 0] rfl ?_
  refine at_loopj (A := fun (s1 : Int × Int × Mem) => At K X (ZQ K X Q) 0 0 n rt 8 16 [(0, vR X 58), (1, vI p0), (2, vI p1), (3, vI v1), (4, vI s1.1), (5, vI s1.2.1)] [] s1.2.2) (B := fun (b1 : Int × Mem) => At K X (ZQ K X Q) 0 0 n rt 8 110 [(4, vI b1.1)] [] b1.2) h (fun b1 h => ?_) (fun s1 h => ?_)
  · refine r_iload F 0 rfl d0_addBearers_110 ?_
    obtain ⟨hx4, h⟩ := wpo_chk h
    replace h := wpo_some h
    exact r_zret F hx4 h d0_addBearers_112
  · refine r_iload F 5 rfl d0_addBearers_16 ?_
    refine r_iload_n F 3 rfl rfl d0_addBearers_18 ?_
    refine r_icmp_ge F (tgt := 110) d0_addBearers_19 (by decide) (fun hb => ?_) (fun hb => ?_)
    · replace h := wpo_neg h hb
      refine r_weak [4] rfl ?_
      replace h := wpo_inr h
      exact h
    · replace h := wpo_pos h hb
      refine r_aload_nR F 0 rfl rfl d0_addBearers_22 ?_
      refine r_getR F (z := 63) lf0_35 (vc58 hn) z58_8 d0_addBearers_23 ?_
      refine r_iload F 5 rfl d0_addBearers_26 ?_
      obtain ⟨hx1, h⟩ := wpo_chk h
      refine r_iald F (vc63 hn) hx1 d0_addBearers_28 ?_
      refine at_join (B := fun (j1 : Int × Mem) => At K X (ZQ K X Q) 0 0 n rt 8 104 [(0, vR X 58), (1, vI p0), (2, vI p1), (3, vI v1), (4, vI j1.1), (5, vI s1.2.1)] [] j1.2) h (fun j1 h => ?_) (fun h => ?_)
      · refine r_iinc F 5 (lv' := [(5, vI (s1.2.1 + 1)), (0, vR X 58), (1, vI p0), (2, vI p1), (3, vI v1), (4, vI j1.1)]) rfl (Nat.le_of_ble_eq_true rfl) rfl d0_addBearers_104 ?_
        refine r_goto F (tgt := 16) (by decide) d0_addBearers_107 ?_
        refine r_weak [1, 2, 3, 4, 5, 0] rfl ?_
        replace h := wpo_inl h
        exact h
      · refine r_if_eq F (tgt := 104) d0_addBearers_29 (by decide) (fun hb => ?_) (fun hb => ?_)
        · replace h := wpo_pos h hb
          replace h := wpo_some h
          exact h
        · replace h := wpo_neg h hb
          refine r_iload F 5 rfl d0_addBearers_32 ?_
          replace h := wpo_bind h
          refine r_callS0 F lm0_79 mf13_bitCount rfl (fr := 0) (lo := 0) (As := [vI s1.2.1]) (rest := []) ⟨Nat.le_of_ble_eq_true rfl, Nat.le_of_ble_eq_true rfl⟩ rfl (Nat.le_of_ble_eq_true rfl) ⟨Nat.zero_le _, Nat.zero_le _⟩ d0_addBearers_34 ?_
          refine ok13_bitCount  (kI h (fun a1 h => ?_))
          refine r_iload_n F 2 rfl rfl d0_addBearers_37 ?_
          refine r_icmp_eq F (tgt := 44) d0_addBearers_38 (by decide) (fun hb => ?_) (fun hb => ?_)
          · replace h := wpo_pos h hb
            refine r_aload_nR F 0 rfl rfl d0_addBearers_44 ?_
            refine r_getR F (z := 61) lf0_29 (vc58 hn) z58_6 d0_addBearers_45 ?_
            refine r_iload_n F 1 rfl rfl d0_addBearers_48 ?_
            obtain ⟨hx2, h⟩ := wpo_chk h
            refine r_iald F (vc61 hn) hx2 d0_addBearers_49 ?_
            refine r_iload F 5 rfl d0_addBearers_50 ?_
            refine r_iconst F (z := (-1)) d0_addBearers_52 ?_
            refine r_ixor F d0_addBearers_53 ?_
            refine r_iand F d0_addBearers_54 ?_
            refine r_istore F (lv' := [(6, vI (and32 (s1.2.2 61 p0.toNat) (xor32 s1.2.1 (-1)))), (0, vR X 58), (1, vI p0), (2, vI p1), (3, vI v1), (4, vI s1.1), (5, vI s1.2.1)]) (Nat.le_of_ble_eq_true rfl) rfl d0_addBearers_55 ?_
            refine at_name (B := fun (v2 : Int) => At K X (ZQ K X Q) 0 0 n rt 8 57 [(6, vI v2), (0, vR X 58), (1, vI p0), (2, vI p1), (3, vI v1), (4, vI s1.1), (5, vI s1.2.1)] [] s1.2.2) h (fun v2 h => ?_)
            refine r_iconst F (z := 0) d0_addBearers_57 ?_
            refine r_istore F (lv' := [(7, vI 0), (6, vI v2), (0, vR X 58), (1, vI p0), (2, vI p1), (3, vI v1), (4, vI s1.1), (5, vI s1.2.1)]) (Nat.le_of_ble_eq_true rfl) rfl d0_addBearers_58 ?_
            refine r_weak [2, 3, 4, 5, 6, 7, 1, 0] rfl ?_
            refine at_loopj (A := fun (s2 : Int × Int × Mem) => At K X (ZQ K X Q) 0 0 n rt 8 60 [(0, vR X 58), (1, vI p0), (2, vI p1), (3, vI v1), (4, vI s2.1), (5, vI s1.2.1), (6, vI v2), (7, vI s2.2.1)] [] s2.2.2) (B := fun (b2 : Int × Mem) => At K X (ZQ K X Q) 0 0 n rt 8 104 [(0, vR X 58), (1, vI p0), (2, vI p1), (3, vI v1), (4, vI b2.1), (5, vI s1.2.1)] [] b2.2) h (fun b2 h => ?_) (fun s2 h => ?_)
            · replace h := wpo_some h
              exact h
            · refine r_iload F 7 rfl d0_addBearers_60 ?_
              refine r_aload_nR F 0 rfl rfl d0_addBearers_62 ?_
              refine r_getR F (z := 12) lf0_38 (vc58 hn) z58_0 d0_addBearers_63 ?_
              refine r_getI F lf0_52 (vc12 hn) d0_addBearers_66 ?_
              refine r_icmp_ge F (tgt := 104) d0_addBearers_69 (by decide) (fun hb => ?_) (fun hb => ?_)
              · replace h := wpo_neg h hb
                refine r_weak [0, 1, 2, 3, 4, 5] rfl ?_
                replace h := wpo_inr h
                exact h
              · replace h := wpo_pos h hb
                refine r_iload F 6 rfl d0_addBearers_72 ?_
                refine r_iload F 7 rfl d0_addBearers_74 ?_
                refine r_ishr F d0_addBearers_76 ?_
                refine r_iconst F (z := 1) d0_addBearers_77 ?_
                refine r_iand F d0_addBearers_78 ?_
                refine at_join (B := fun (j2 : Int × Mem) => At K X (ZQ K X Q) 0 0 n rt 8 98 [(0, vR X 58), (1, vI p0), (2, vI p1), (3, vI v1), (4, vI j2.1), (5, vI s1.2.1), (6, vI v2), (7, vI s2.2.1)] [] j2.2) h (fun j2 h => ?_) (fun h => ?_)
                · refine r_iinc F 7 (lv' := [(7, vI (s2.2.1 + 1)), (0, vR X 58), (1, vI p0), (2, vI p1), (3, vI v1), (4, vI j2.1), (5, vI s1.2.1), (6, vI v2)]) rfl (Nat.le_of_ble_eq_true rfl) rfl d0_addBearers_98 ?_
                  refine r_goto F (tgt := 60) (by decide) d0_addBearers_101 ?_
                  refine r_weak [1, 2, 3, 4, 5, 6, 7, 0] rfl ?_
                  replace h := wpo_inl h
                  exact h
                · refine r_if_eq F (tgt := 98) d0_addBearers_79 (by decide) (fun hb => ?_) (fun hb => ?_)
                  · replace h := wpo_pos h hb
                    replace h := wpo_some h
                    exact h
                  · replace h := wpo_neg h hb
                    refine r_aload_nR F 0 rfl rfl d0_addBearers_82 ?_
                    refine r_getR F (z := 63) lf0_35 (vc58 hn) z58_8 d0_addBearers_83 ?_
                    refine r_iload F 5 rfl d0_addBearers_86 ?_
                    refine r_iconst F (z := 1) d0_addBearers_88 ?_
                    refine r_iload F 7 rfl d0_addBearers_89 ?_
                    refine r_ishl F d0_addBearers_91 ?_
                    refine r_ior F d0_addBearers_92 ?_
                    refine r_iconst F (z := 1) d0_addBearers_93 ?_
                    obtain ⟨hx3, h⟩ := wpo_chk h
                    refine r_iast F (vc63 hn) hx3 d0_addBearers_94 ?_
                    refine r_iconst F (z := 1) d0_addBearers_95 ?_
                    refine r_istore F (lv' := [(4, vI 1), (0, vR X 58), (1, vI p0), (2, vI p1), (3, vI v1), (5, vI s1.2.1), (6, vI v2), (7, vI s2.2.1)]) (Nat.le_of_ble_eq_true rfl) rfl d0_addBearers_96 ?_
                    refine r_weak [1, 2, 3, 4, 0, 5, 6, 7] rfl ?_
                    replace h := wpo_some h
                    exact h
          · replace h := wpo_neg h hb
            refine r_goto F (tgt := 104) (by decide) d0_addBearers_41 ?_
            replace h := wpo_some h
            exact h
theorem d0_allBorne_0 : decode c0_allBorne 0 = .ok (.aload_n 0, 1) := by decide +kernel
theorem d0_allBorne_1 : decode c0_allBorne 1 = .ok (.aload_n 0, 1) := by decide +kernel
theorem d0_allBorne_2 : decode c0_allBorne 2 = .ok (.getfield 29, 3) := by decide +kernel
theorem d0_allBorne_5 : decode c0_allBorne 5 = .ok (.iload_n 1, 1) := by decide +kernel
theorem d0_allBorne_6 : decode c0_allBorne 6 = .ok (.iload_n 2, 1) := by decide +kernel
theorem d0_allBorne_7 : decode c0_allBorne 7 = .ok (.invokevirtual 42, 3) := by decide +kernel
theorem d0_allBorne_10 : decode c0_allBorne 10 = .ok (.aload_n 0, 1) := by decide +kernel
theorem d0_allBorne_11 : decode c0_allBorne 11 = .ok (.getfield 35, 3) := by decide +kernel
theorem d0_allBorne_14 : decode c0_allBorne 14 = .ok (.iconst 0, 1) := by decide +kernel
theorem d0_allBorne_15 : decode c0_allBorne 15 = .ok (.invokestatic 69, 3) := by decide +kernel
theorem d0_allBorne_18 : decode c0_allBorne 18 = .ok (.aload_n 0, 1) := by decide +kernel
theorem d0_allBorne_19 : decode c0_allBorne 19 = .ok (.getfield 35, 3) := by decide +kernel
theorem d0_allBorne_22 : decode c0_allBorne 22 = .ok (.iconst 0, 1) := by decide +kernel
theorem d0_allBorne_23 : decode c0_allBorne 23 = .ok (.iconst 1, 1) := by decide +kernel
theorem d0_allBorne_24 : decode c0_allBorne 24 = .ok (.iastore, 1) := by decide +kernel
theorem d0_allBorne_25 : decode c0_allBorne 25 = .ok (.iconst 0, 1) := by decide +kernel
theorem d0_allBorne_26 : decode c0_allBorne 26 = .ok (.istore_n 3, 1) := by decide +kernel
theorem d0_allBorne_27 : decode c0_allBorne 27 = .ok (.iconst 1, 1) := by decide +kernel
theorem d0_allBorne_28 : decode c0_allBorne 28 = .ok (.istore 4, 2) := by decide +kernel
theorem d0_allBorne_30 : decode c0_allBorne 30 = .ok (.iconst 0, 1) := by decide +kernel
theorem d0_allBorne_31 : decode c0_allBorne 31 = .ok (.istore 5, 2) := by decide +kernel
theorem d0_allBorne_33 : decode c0_allBorne 33 = .ok (.iload 5, 2) := by decide +kernel
theorem d0_allBorne_35 : decode c0_allBorne 35 = .ok (.aload_n 0, 1) := by decide +kernel
theorem d0_allBorne_36 : decode c0_allBorne 36 = .ok (.getfield 38, 3) := by decide +kernel
theorem d0_allBorne_39 : decode c0_allBorne 39 = .ok (.getfield 52, 3) := by decide +kernel
theorem d0_allBorne_42 : decode c0_allBorne 42 = .ok (.if_icmp .ge 35, 3) := by decide +kernel
theorem d0_allBorne_45 : decode c0_allBorne 45 = .ok (.iload 4, 2) := by decide +kernel
theorem d0_allBorne_47 : decode c0_allBorne 47 = .ok (.ifCond .eq 30, 3) := by decide +kernel
theorem d0_allBorne_50 : decode c0_allBorne 50 = .ok (.iload_n 1, 1) := by decide +kernel
theorem d0_allBorne_51 : decode c0_allBorne 51 = .ok (.iload 5, 2) := by decide +kernel
theorem d0_allBorne_53 : decode c0_allBorne 53 = .ok (.ishr, 1) := by decide +kernel
theorem d0_allBorne_54 : decode c0_allBorne 54 = .ok (.iconst 1, 1) := by decide +kernel
theorem d0_allBorne_55 : decode c0_allBorne 55 = .ok (.iand, 1) := by decide +kernel
theorem d0_allBorne_56 : decode c0_allBorne 56 = .ok (.ifCond .eq 15, 3) := by decide +kernel
theorem d0_allBorne_59 : decode c0_allBorne 59 = .ok (.aload_n 0, 1) := by decide +kernel
theorem d0_allBorne_60 : decode c0_allBorne 60 = .ok (.iload 5, 2) := by decide +kernel
theorem d0_allBorne_62 : decode c0_allBorne 62 = .ok (.iload_n 3, 1) := by decide +kernel
theorem d0_allBorne_63 : decode c0_allBorne 63 = .ok (.invokevirtual 75, 3) := by decide +kernel
theorem d0_allBorne_66 : decode c0_allBorne 66 = .ok (.istore 4, 2) := by decide +kernel
theorem d0_allBorne_68 : decode c0_allBorne 68 = .ok (.iinc 3 1, 3) := by decide +kernel
theorem d0_allBorne_71 : decode c0_allBorne 71 = .ok (.iinc 5 1, 3) := by decide +kernel
theorem d0_allBorne_74 : decode c0_allBorne 74 = .ok (.goto (-41), 3) := by decide +kernel
theorem d0_allBorne_77 : decode c0_allBorne 77 = .ok (.iload 4, 2) := by decide +kernel
theorem d0_allBorne_79 : decode c0_allBorne 79 = .ok (.ireturn, 1) := by decide +kernel
def f0_allBorne (D : Mem) (p0 : Int) (p1 : Int) : Option (Int × Mem) :=
  Option.bind (f0_findHelpers D 61 p0 p1) fun (a1 : Mem) =>
  Option.bind (f12_fillI a1 63 256 0) fun (a2 : Mem) =>
  Option.bind (some (mset a2 63 0 1)) fun (D1 : Mem) =>
  Option.bind (@loop (Int × Int × Int × Mem) (Int × Mem) (fun s1 =>
    if w32 s1.2.2.1 < w32 (s1.2.2.2 12 8) then
      if w32 s1.2.1 = 0 then
        some (Sum.inr (s1.2.1, s1.2.2.2))
      else
        Option.bind (
          if w32 (and32 (shr32 p0 s1.2.2.1) 1) = 0 then
            some (s1.1, s1.2.1, s1.2.2.2)
          else
            Option.bind (f0_addBearers s1.2.2.2 s1.2.2.1 s1.1) fun (a3 : Int × Mem) =>
            some ((s1.1 + 1), a3.1, a3.2)
        ) fun (j1 : Int × Int × Mem) =>
        some (Sum.inl (j1.1, j1.2.1, (s1.2.2.1 + 1), j1.2.2))
    else
      some (Sum.inr (s1.2.1, s1.2.2.2))
  ) FU (0, 1, 0, D1)) fun (b1 : Int × Mem) =>
  if b1.1 = 0 ∨ b1.1 = 1 then
    some (b1.1, b1.2)
  else none
set_option maxHeartbeats 4000000 in
theorem ok0_allBorne {l : Launch} {X : XT} {n : Nat} {D : Mem} {Q : Option Value → Nat → Rho → Mem → Prop} (hn : 117 ≤ n) {p0 : Int} {p1 : Int}  (h : wpo (f0_allBorne D p0 p1) (fun a => Q (some (vI a.1)) n rt a.2)) : MOK l y0_allBorne c0_allBorne 6 (some .boolean) { frames := 2, cells := 0, slots := 0, locals := 47 } 0 0 X [vR X 58, vI p0, vI p1] n rt D Q := by
  refine MOK_of 0 (by decide +kernel) rfl (lv := [(0, vR X 58), (1, vI p0), (2, vI p1)]) (Nat.le_of_ble_eq_true rfl) rfl (fun K hK F hnm => ?_)
  subst hK
  unfold f0_allBorne at h
  refine r_aload_nR F 0 rfl rfl d0_allBorne_0 ?_
  refine r_aload_nR F 0 rfl rfl d0_allBorne_1 ?_
  refine r_getR F (z := 61) lf0_29 (vc58 hn) z58_6 d0_allBorne_2 ?_
  refine r_iload_n F 1 rfl rfl d0_allBorne_5 ?_
  refine r_iload_n F 2 rfl rfl d0_allBorne_6 ?_
  replace h := wpo_bind h
  refine r_callV0 F lm0_42 mf0_findHelpers (vc58 hn) rfl (fr := 0) (lo := 0) (As := [vR X 61, vI p0, vI p1]) (rest := []) ⟨Nat.le_of_ble_eq_true rfl, Nat.le_of_ble_eq_true rfl⟩ rfl (Nat.le_of_ble_eq_true rfl) ⟨Nat.zero_le _, Nat.zero_le _⟩ d0_allBorne_7 ?_
  refine ok0_findHelpers hn (vc61 hn) (kVm h (fun a1 h => ?_))
  refine r_aload_nR F 0 rfl rfl d0_allBorne_10 ?_
  refine r_getR F (z := 63) lf0_35 (vc58 hn) z58_8 d0_allBorne_11 ?_
  refine r_iconst F (z := 0) d0_allBorne_14 ?_
  replace h := wpo_bind h
  refine r_callS0 F lm0_69 mf12_fillI rfl (fr := 0) (lo := 0) (As := [vR X 63, vI 0]) (rest := []) ⟨Nat.le_of_ble_eq_true rfl, Nat.le_of_ble_eq_true rfl⟩ rfl (Nat.le_of_ble_eq_true rfl) ⟨Nat.zero_le _, Nat.zero_le _⟩ d0_allBorne_15 ?_
  refine ok12_fillI (vc63 hn) (kVm h (fun a2 h => ?_))
  refine r_aload_nR F 0 rfl rfl d0_allBorne_18 ?_
  refine r_getR F (z := 63) lf0_35 (vc58 hn) z58_8 d0_allBorne_19 ?_
  refine r_iconst F (z := 0) d0_allBorne_22 ?_
  refine r_iconst F (z := 1) d0_allBorne_23 ?_
  refine r_iastC F (j := 0) (vc63 hn) (by decide) rfl d0_allBorne_24 ?_
  refine r_iconst F (z := 0) d0_allBorne_25 ?_
  refine r_istore_n F (lv' := [(3, vI 0), (0, vR X 58), (1, vI p0), (2, vI p1)]) rfl (Nat.le_of_ble_eq_true rfl) rfl d0_allBorne_26 ?_
  refine r_iconst F (z := 1) d0_allBorne_27 ?_
  refine r_istore F (lv' := [(4, vI 1), (3, vI 0), (0, vR X 58), (1, vI p0), (2, vI p1)]) (Nat.le_of_ble_eq_true rfl) rfl d0_allBorne_28 ?_
  refine r_iconst F (z := 0) d0_allBorne_30 ?_
  refine r_istore F (lv' := [(5, vI 0), (4, vI 1), (3, vI 0), (0, vR X 58), (1, vI p0), (2, vI p1)]) (Nat.le_of_ble_eq_true rfl) rfl d0_allBorne_31 ?_
  refine at_name (B := fun (D1 : Mem) => At K X (ZQ K X Q) 0 0 n rt 6 33 [(5, vI 0), (4, vI 1), (3, vI 0), (0, vR X 58), (1, vI p0), (2, vI p1)] [] D1) h (fun D1 h => ?_)
  refine r_weak [3, 4, 2, 1, 0] rfl ?_
  refine at_loopj (A := fun (s1 : Int × Int × Int × Mem) => At K X (ZQ K X Q) 0 0 n rt 6 33 [(0, vR X 58), (1, vI p0), (3, vI s1.1), (4, vI s1.2.1), (5, vI s1.2.2.1)] [] s1.2.2.2) (B := fun (b1 : Int × Mem) => At K X (ZQ K X Q) 0 0 n rt 6 77 [(4, vI b1.1)] [] b1.2) h (fun b1 h => ?_) (fun s1 h => ?_)
  · refine r_iload F 0 rfl d0_allBorne_77 ?_
    obtain ⟨hx1, h⟩ := wpo_chk h
    replace h := wpo_some h
    exact r_zret F hx1 h d0_allBorne_79
  · refine r_iload F 4 rfl d0_allBorne_33 ?_
    refine r_aload_nR F 0 rfl rfl d0_allBorne_35 ?_
    refine r_getR F (z := 12) lf0_38 (vc58 hn) z58_0 d0_allBorne_36 ?_
    refine r_getI F lf0_52 (vc12 hn) d0_allBorne_39 ?_
    refine r_icmp_ge F (tgt := 77) d0_allBorne_42 (by decide) (fun hb => ?_) (fun hb => ?_)
    · replace h := wpo_neg h hb
      refine r_weak [3] rfl ?_
      replace h := wpo_inr h
      exact h
    · replace h := wpo_pos h hb
      refine r_iload F 3 rfl d0_allBorne_45 ?_
      refine r_if_eq F (tgt := 77) d0_allBorne_47 (by decide) (fun hb => ?_) (fun hb => ?_)
      · replace h := wpo_pos h hb
        refine r_weak [3] rfl ?_
        replace h := wpo_inr h
        exact h
      · replace h := wpo_neg h hb
        refine r_iload_n F 1 rfl rfl d0_allBorne_50 ?_
        refine r_iload F 4 rfl d0_allBorne_51 ?_
        refine r_ishr F d0_allBorne_53 ?_
        refine r_iconst F (z := 1) d0_allBorne_54 ?_
        refine r_iand F d0_allBorne_55 ?_
        refine at_join (B := fun (j1 : Int × Int × Mem) => At K X (ZQ K X Q) 0 0 n rt 6 71 [(0, vR X 58), (1, vI p0), (3, vI j1.1), (4, vI j1.2.1), (5, vI s1.2.2.1)] [] j1.2.2) h (fun j1 h => ?_) (fun h => ?_)
        · refine r_iinc F 4 (lv' := [(5, vI (s1.2.2.1 + 1)), (0, vR X 58), (1, vI p0), (3, vI j1.1), (4, vI j1.2.1)]) rfl (Nat.le_of_ble_eq_true rfl) rfl d0_allBorne_71 ?_
          refine r_goto F (tgt := 33) (by decide) d0_allBorne_74 ?_
          refine r_weak [1, 2, 3, 4, 0] rfl ?_
          replace h := wpo_inl h
          exact h
        · refine r_if_eq F (tgt := 71) d0_allBorne_56 (by decide) (fun hb => ?_) (fun hb => ?_)
          · replace h := wpo_pos h hb
            replace h := wpo_some h
            exact h
          · replace h := wpo_neg h hb
            refine r_aload_nR F 0 rfl rfl d0_allBorne_59 ?_
            refine r_iload F 4 rfl d0_allBorne_60 ?_
            refine r_iload_n F 2 rfl rfl d0_allBorne_62 ?_
            replace h := wpo_bind h
            refine r_callV0 F lm0_75 mf0_addBearers (vc58 hn) rfl (fr := 1) (lo := 20) (As := [vI s1.2.2.1, vI s1.1]) (rest := []) ⟨Nat.le_of_ble_eq_true rfl, Nat.le_of_ble_eq_true rfl⟩ rfl (Nat.le_of_ble_eq_true rfl) ⟨Nat.zero_le _, Nat.zero_le _⟩ d0_allBorne_63 ?_
            refine ok0_addBearers hn  (kIm h (fun a3 h => ?_))
            refine r_istore F (lv' := [(4, vI a3.1), (0, vR X 58), (1, vI p0), (3, vI s1.1), (5, vI s1.2.2.1)]) (Nat.le_of_ble_eq_true rfl) rfl d0_allBorne_66 ?_
            refine r_iinc F 3 (lv' := [(3, vI (s1.1 + 1)), (4, vI a3.1), (0, vR X 58), (1, vI p0), (5, vI s1.2.2.1)]) rfl (Nat.le_of_ble_eq_true rfl) rfl d0_allBorne_68 ?_
            refine r_weak [2, 3, 0, 1, 4] rfl ?_
            replace h := wpo_some h
            exact h
theorem d9_kinder_0 : decode c9_kinder 0 = .ok (.aload_n 0, 1) := by decide +kernel
theorem d9_kinder_1 : decode c9_kinder 1 = .ok (.iload_n 1, 1) := by decide +kernel
theorem d9_kinder_2 : decode c9_kinder 2 = .ok (.invokevirtual 261, 3) := by decide +kernel
theorem d9_kinder_5 : decode c9_kinder 5 = .ok (.ifCond .ne 6, 3) := by decide +kernel
theorem d9_kinder_8 : decode c9_kinder 8 = .ok (.bipush (-2), 2) := by decide +kernel
theorem d9_kinder_10 : decode c9_kinder 10 = .ok (.ireturn, 1) := by decide +kernel
theorem d9_kinder_11 : decode c9_kinder 11 = .ok (.iconst 0, 1) := by decide +kernel
theorem d9_kinder_12 : decode c9_kinder 12 = .ok (.istore_n 2, 1) := by decide +kernel
theorem d9_kinder_13 : decode c9_kinder 13 = .ok (.iload_n 2, 1) := by decide +kernel
theorem d9_kinder_14 : decode c9_kinder 14 = .ok (.bipush 20, 2) := by decide +kernel
theorem d9_kinder_16 : decode c9_kinder 16 = .ok (.if_icmp .gt 23, 3) := by decide +kernel
theorem d9_kinder_19 : decode c9_kinder 19 = .ok (.aload_n 0, 1) := by decide +kernel
theorem d9_kinder_20 : decode c9_kinder 20 = .ok (.getfield 68, 3) := by decide +kernel
theorem d9_kinder_23 : decode c9_kinder 23 = .ok (.iload_n 1, 1) := by decide +kernel
theorem d9_kinder_24 : decode c9_kinder 24 = .ok (.iload_n 2, 1) := by decide +kernel
theorem d9_kinder_25 : decode c9_kinder 25 = .ok (.invokevirtual 264, 3) := by decide +kernel
theorem d9_kinder_28 : decode c9_kinder 28 = .ok (.ifCond .eq 5, 3) := by decide +kernel
theorem d9_kinder_31 : decode c9_kinder 31 = .ok (.iload_n 2, 1) := by decide +kernel
theorem d9_kinder_32 : decode c9_kinder 32 = .ok (.ireturn, 1) := by decide +kernel
theorem d9_kinder_33 : decode c9_kinder 33 = .ok (.iinc 2 1, 3) := by decide +kernel
theorem d9_kinder_36 : decode c9_kinder 36 = .ok (.goto (-23), 3) := by decide +kernel
theorem d9_kinder_39 : decode c9_kinder 39 = .ok (.iconst (-1), 1) := by decide +kernel
theorem d9_kinder_40 : decode c9_kinder 40 = .ok (.ireturn, 1) := by decide +kernel
def f9_kinder (D : Mem) (p0 : Int) : Option (Int × Mem) :=
  Option.bind (f9_isSet D p0) fun (a1 : Int) =>
  if w32 a1 = 0 then
    some ((-2), D)
  else
    Option.bind (@loop (Int × Mem) ((Mem) ⊕ (Int × Mem)) (fun s1 =>
      if w32 20 < w32 s1.1 then
        some (Sum.inr (Sum.inl s1.2))
      else
        Option.bind (f0_allBorne s1.2 p0 s1.1) fun (a2 : Int × Mem) =>
        if w32 a2.1 = 0 then
          some (Sum.inl ((s1.1 + 1), a2.2))
        else
          some (Sum.inr (Sum.inr (s1.1, a2.2)))
    ) FU (0, D)) (fun z => Sum.elim (fun (b1 : Mem) =>
      some ((-1), b1)
    ) (fun rv => some rv) z)
set_option maxHeartbeats 4000000 in
theorem ok9_kinder {l : Launch} {X : XT} {n : Nat} {D : Mem} {Q : Option Value → Nat → Rho → Mem → Prop} (hn : 117 ≤ n) {p0 : Int}  (h : wpo (f9_kinder D p0) (fun a => Q (some (vI a.1)) n rt a.2)) : MOK l y9_kinder c9_kinder 3 (some .int) { frames := 3, cells := 0, slots := 0, locals := 72 } 0 0 X [vR X 0, vI p0] n rt D Q := by
  refine MOK_of 9 (by decide +kernel) rfl (lv := [(0, vR X 0), (1, vI p0)]) (Nat.le_of_ble_eq_true rfl) rfl (fun K hK F hnm => ?_)
  subst hK
  unfold f9_kinder at h
  refine r_aload_nR F 0 rfl rfl d9_kinder_0 ?_
  refine r_iload_n F 1 rfl rfl d9_kinder_1 ?_
  replace h := wpo_bind h
  refine r_callV0 F lm9_261 mf9_isSet (vc0 hn) rfl (fr := 1) (lo := 20) (As := [vI p0]) (rest := []) ⟨Nat.le_of_ble_eq_true rfl, Nat.le_of_ble_eq_true rfl⟩ rfl (Nat.le_of_ble_eq_true rfl) ⟨Nat.zero_le _, Nat.zero_le _⟩ d9_kinder_2 ?_
  refine ok9_isSet hn  (kI h (fun a1 h => ?_))
  refine r_if_ne F (tgt := 11) d9_kinder_5 (by decide) (fun hb => ?_) (fun hb => ?_)
  · replace h := wpo_neg h hb
    refine r_iconst F (z := 0) d9_kinder_11 ?_
    refine r_istore_n F (lv' := [(2, vI 0), (0, vR X 0), (1, vI p0)]) rfl (Nat.le_of_ble_eq_true rfl) rfl d9_kinder_12 ?_
    refine r_weak [1, 2, 0] rfl ?_
    refine at_loopj (A := fun (s1 : Int × Mem) => At K X (ZQ K X Q) 0 0 n rt 3 13 [(0, vR X 0), (1, vI p0), (2, vI s1.1)] [] s1.2) (B := Sum.elim (fun (b1 : Mem) => At K X (ZQ K X Q) 0 0 n rt 3 39 [] [] b1) (fun rv => Q (some (vI rv.1)) n rt rv.2)) h (fun z h => ?_) (fun s1 h => ?_)
    · rcases z with b1 | rv
      · replace h := elim_l h
        refine el_li ?_
        refine r_iconst F (z := (-1)) d9_kinder_39 ?_
        replace h := wpo_some h
        exact r_iret F h d9_kinder_40
      · replace h := elim_r h
        replace h := wpo_some h
        exact el_ri h
    · refine r_iload_n F 2 rfl rfl d9_kinder_13 ?_
      refine r_bipush F (z := 20) (by decide) d9_kinder_14 ?_
      refine r_icmp_gt F (tgt := 39) d9_kinder_16 (by decide) (fun hb => ?_) (fun hb => ?_)
      · replace h := wpo_pos h hb
        refine r_weak [] rfl ?_
        replace h := wpo_inr h
        replace h := el_l h
        exact h
      · replace h := wpo_neg h hb
        refine r_aload_nR F 0 rfl rfl d9_kinder_19 ?_
        refine r_getR F (z := 58) lf9_68 (vc0 hn) z0_9 d9_kinder_20 ?_
        refine r_iload_n F 1 rfl rfl d9_kinder_23 ?_
        refine r_iload_n F 2 rfl rfl d9_kinder_24 ?_
        replace h := wpo_bind h
        refine r_callV0 F lm9_264 mf0_allBorne (vc58 hn) rfl (fr := 2) (lo := 47) (As := [vI p0, vI s1.1]) (rest := []) ⟨Nat.le_of_ble_eq_true rfl, Nat.le_of_ble_eq_true rfl⟩ rfl (Nat.le_of_ble_eq_true rfl) ⟨Nat.zero_le _, Nat.zero_le _⟩ d9_kinder_25 ?_
        refine ok0_allBorne hn  (kIm h (fun a2 h => ?_))
        refine r_if_eq F (tgt := 33) d9_kinder_28 (by decide) (fun hb => ?_) (fun hb => ?_)
        · replace h := wpo_pos h hb
          refine r_iinc F 2 (lv' := [(2, vI (s1.1 + 1)), (0, vR X 0), (1, vI p0)]) rfl (Nat.le_of_ble_eq_true rfl) rfl d9_kinder_33 ?_
          refine r_goto F (tgt := 13) (by decide) d9_kinder_36 ?_
          refine r_weak [1, 2, 0] rfl ?_
          replace h := wpo_inl h
          exact h
        · replace h := wpo_neg h hb
          refine r_iload_n F 2 rfl rfl d9_kinder_31 ?_
          replace h := el_r (wpo_inr h)
          exact r_iret F h d9_kinder_32
  · replace h := wpo_pos h hb
    refine r_bipush F (z := (-2)) (by decide) d9_kinder_8 ?_
    replace h := wpo_some h
    exact r_iret F h d9_kinder_10
theorem d9_isSlot_0 : decode c9_isSlot 0 = .ok (.iload_n 1, 1) := by decide +kernel
theorem d9_isSlot_1 : decode c9_isSlot 1 = .ok (.ifCond .lt 12, 3) := by decide +kernel
theorem d9_isSlot_4 : decode c9_isSlot 4 = .ok (.iload_n 1, 1) := by decide +kernel
theorem d9_isSlot_5 : decode c9_isSlot 5 = .ok (.iconst 4, 1) := by decide +kernel
theorem d9_isSlot_6 : decode c9_isSlot 6 = .ok (.if_icmp .ge 7, 3) := by decide +kernel
theorem d9_isSlot_9 : decode c9_isSlot 9 = .ok (.iconst 1, 1) := by decide +kernel
theorem d9_isSlot_10 : decode c9_isSlot 10 = .ok (.goto 4, 3) := by decide +kernel
theorem d9_isSlot_13 : decode c9_isSlot 13 = .ok (.iconst 0, 1) := by decide +kernel
theorem d9_isSlot_14 : decode c9_isSlot 14 = .ok (.ireturn, 1) := by decide +kernel
def f9_isSlot (D : Mem) (p0 : Int) : Option (Int) :=
  if w32 p0 < 0 then
    some 0
  else
    if w32 p0 < w32 4 then
      some 1
    else
      some 0
set_option maxHeartbeats 4000000 in
theorem ok9_isSlot {l : Launch} {X : XT} {n : Nat} {D : Mem} {Q : Option Value → Nat → Rho → Mem → Prop} (hn : 117 ≤ n) {p0 : Int}  (h : wpo (f9_isSlot D p0) (fun a => Q (some (vI a)) n rt D)) : MOK l y9_isSlot c9_isSlot 2 (some .boolean) { frames := 0, cells := 0, slots := 0, locals := 0 } 0 0 X [vR X 0, vI p0] n rt D Q := by
  refine MOK_of 9 (by decide +kernel) rfl (lv := [(0, vR X 0), (1, vI p0)]) (Nat.le_of_ble_eq_true rfl) rfl (fun K hK F hnm => ?_)
  subst hK
  unfold f9_isSlot at h
  refine r_iload_n F 1 rfl rfl d9_isSlot_0 ?_
  refine r_if_lt F (tgt := 13) d9_isSlot_1 (by decide) (fun hb => ?_) (fun hb => ?_)
  · replace h := wpo_pos h hb
    refine r_iconst F (z := 0) d9_isSlot_13 ?_
    replace h := wpo_some h
    exact r_zret F (Or.inl rfl) h d9_isSlot_14
  · replace h := wpo_neg h hb
    refine r_iload_n F 1 rfl rfl d9_isSlot_4 ?_
    refine r_iconst F (z := 4) d9_isSlot_5 ?_
    refine r_icmp_ge F (tgt := 13) d9_isSlot_6 (by decide) (fun hb => ?_) (fun hb => ?_)
    · replace h := wpo_neg h hb
      refine r_iconst F (z := 0) d9_isSlot_13 ?_
      replace h := wpo_some h
      exact r_zret F (Or.inl rfl) h d9_isSlot_14
    · replace h := wpo_pos h hb
      refine r_iconst F (z := 1) d9_isSlot_9 ?_
      refine r_goto F (tgt := 14) (by decide) d9_isSlot_10 ?_
      replace h := wpo_some h
      exact r_zret F (Or.inr rfl) h d9_isSlot_14
theorem d9_troubleOfRow_0 : decode c9_troubleOfRow 0 = .ok (.aload_n 0, 1) := by decide +kernel
theorem d9_troubleOfRow_1 : decode c9_troubleOfRow 1 = .ok (.iload_n 1, 1) := by decide +kernel
theorem d9_troubleOfRow_2 : decode c9_troubleOfRow 2 = .ok (.invokevirtual 358, 3) := by decide +kernel
theorem d9_troubleOfRow_5 : decode c9_troubleOfRow 5 = .ok (.ifCond .eq 10, 3) := by decide +kernel
theorem d9_troubleOfRow_8 : decode c9_troubleOfRow 8 = .ok (.aload_n 0, 1) := by decide +kernel
theorem d9_troubleOfRow_9 : decode c9_troubleOfRow 9 = .ok (.invokevirtual 159, 3) := by decide +kernel
theorem d9_troubleOfRow_12 : decode c9_troubleOfRow 12 = .ok (.ifCond .ne 6, 3) := by decide +kernel
theorem d9_troubleOfRow_15 : decode c9_troubleOfRow 15 = .ok (.bipush (-2), 2) := by decide +kernel
theorem d9_troubleOfRow_17 : decode c9_troubleOfRow 17 = .ok (.ireturn, 1) := by decide +kernel
theorem d9_troubleOfRow_18 : decode c9_troubleOfRow 18 = .ok (.aload_n 0, 1) := by decide +kernel
theorem d9_troubleOfRow_19 : decode c9_troubleOfRow 19 = .ok (.getfield 42, 3) := by decide +kernel
theorem d9_troubleOfRow_22 : decode c9_troubleOfRow 22 = .ok (.iload_n 1, 1) := by decide +kernel
theorem d9_troubleOfRow_23 : decode c9_troubleOfRow 23 = .ok (.aaload, 1) := by decide +kernel
theorem d9_troubleOfRow_24 : decode c9_troubleOfRow 24 = .ok (.getfield 363, 3) := by decide +kernel
theorem d9_troubleOfRow_27 : decode c9_troubleOfRow 27 = .ok (.ifCond .eq 7, 3) := by decide +kernel
theorem d9_troubleOfRow_30 : decode c9_troubleOfRow 30 = .ok (.iconst 0, 1) := by decide +kernel
theorem d9_troubleOfRow_31 : decode c9_troubleOfRow 31 = .ok (.goto 5, 3) := by decide +kernel
theorem d9_troubleOfRow_34 : decode c9_troubleOfRow 34 = .ok (.bipush (-6), 2) := by decide +kernel
theorem d9_troubleOfRow_36 : decode c9_troubleOfRow 36 = .ok (.ireturn, 1) := by decide +kernel
def f9_troubleOfRow (D : Mem) (p0 : Int) : Option (Int) :=
  Option.bind (f9_isSlot D p0) fun (a1 : Int) =>
  if w32 a1 = 0 then
    some (-2)
  else
    Option.bind (f9_isThere D) fun (a2 : Int) =>
    if w32 a2 = 0 then
      some (-2)
    else
      if 0 ≤ p0 ∧ p0 < 4 then
        if w32 (D (109 + 2 * p0.toNat) 0) = 0 then
          some (-6)
        else
          some 0
      else none
set_option maxHeartbeats 4000000 in
theorem ok9_troubleOfRow {l : Launch} {X : XT} {n : Nat} {D : Mem} {Q : Option Value → Nat → Rho → Mem → Prop} (hn : 117 ≤ n) {p0 : Int}  (h : wpo (f9_troubleOfRow D p0) (fun a => Q (some (vI a)) n rt D)) : MOK l y9_troubleOfRow c9_troubleOfRow 2 (some .int) { frames := 1, cells := 0, slots := 0, locals := 21 } 0 0 X [vR X 0, vI p0] n rt D Q := by
  refine MOK_of 9 (by decide +kernel) rfl (lv := [(0, vR X 0), (1, vI p0)]) (Nat.le_of_ble_eq_true rfl) rfl (fun K hK F hnm => ?_)
  subst hK
  unfold f9_troubleOfRow at h
  refine r_aload_nR F 0 rfl rfl d9_troubleOfRow_0 ?_
  refine r_iload_n F 1 rfl rfl d9_troubleOfRow_1 ?_
  replace h := wpo_bind h
  refine r_callV0 F lm9_358 mf9_isSlot (vc0 hn) rfl (fr := 0) (lo := 0) (As := [vI p0]) (rest := []) ⟨Nat.le_of_ble_eq_true rfl, Nat.le_of_ble_eq_true rfl⟩ rfl (Nat.le_of_ble_eq_true rfl) ⟨Nat.zero_le _, Nat.zero_le _⟩ d9_troubleOfRow_2 ?_
  refine ok9_isSlot hn  (kI h (fun a1 h => ?_))
  refine r_if_eq F (tgt := 15) d9_troubleOfRow_5 (by decide) (fun hb => ?_) (fun hb => ?_)
  · replace h := wpo_pos h hb
    refine r_bipush F (z := (-2)) (by decide) d9_troubleOfRow_15 ?_
    replace h := wpo_some h
    exact r_iret F h d9_troubleOfRow_17
  · replace h := wpo_neg h hb
    refine r_aload_nR F 0 rfl rfl d9_troubleOfRow_8 ?_
    replace h := wpo_bind h
    refine r_callV0 F lm9_159 mf9_isThere (vc0 hn) rfl (fr := 0) (lo := 0) (As := []) (rest := []) ⟨Nat.le_of_ble_eq_true rfl, Nat.le_of_ble_eq_true rfl⟩ rfl (Nat.le_of_ble_eq_true rfl) ⟨Nat.zero_le _, Nat.zero_le _⟩ d9_troubleOfRow_9 ?_
    refine ok9_isThere hn  (kI h (fun a2 h => ?_))
    refine r_if_ne F (tgt := 18) d9_troubleOfRow_12 (by decide) (fun hb => ?_) (fun hb => ?_)
    · replace h := wpo_neg h hb
      refine r_aload_nR F 0 rfl rfl d9_troubleOfRow_18 ?_
      refine r_getR F (z := 22) lf9_42 (vc0 hn) z0_5 d9_troubleOfRow_19 ?_
      refine r_iload_n F 1 rfl rfl d9_troubleOfRow_22 ?_
      obtain ⟨hx1, h⟩ := wpo_chk h
      refine r_aaldS F (z := (109 + 2 * p0.toNat)) (vc22 hn) hx1 (zs hx1) d9_troubleOfRow_23 ?_
      refine r_getI F lf9_363 (vs hn hx1) d9_troubleOfRow_24 ?_
      refine r_if_eq F (tgt := 34) d9_troubleOfRow_27 (by decide) (fun hb => ?_) (fun hb => ?_)
      · replace h := wpo_pos h hb
        refine r_bipush F (z := (-6)) (by decide) d9_troubleOfRow_34 ?_
        replace h := wpo_some h
        exact r_iret F h d9_troubleOfRow_36
      · replace h := wpo_neg h hb
        refine r_iconst F (z := 0) d9_troubleOfRow_30 ?_
        refine r_goto F (tgt := 36) (by decide) d9_troubleOfRow_31 ?_
        replace h := wpo_some h
        exact r_iret F h d9_troubleOfRow_36
    · replace h := wpo_pos h hb
      refine r_bipush F (z := (-2)) (by decide) d9_troubleOfRow_15 ?_
      replace h := wpo_some h
      exact r_iret F h d9_troubleOfRow_17
theorem d5_isWithin_0 : decode c5_isWithin 0 = .ok (.iload_n 1, 1) := by decide +kernel
theorem d5_isWithin_1 : decode c5_isWithin 1 = .ok (.ifCond .lt 38, 3) := by decide +kernel
theorem d5_isWithin_4 : decode c5_isWithin 4 = .ok (.iload_n 1, 1) := by decide +kernel
theorem d5_isWithin_5 : decode c5_isWithin 5 = .ok (.aload_n 0, 1) := by decide +kernel
theorem d5_isWithin_6 : decode c5_isWithin 6 = .ok (.getfield 19, 3) := by decide +kernel
theorem d5_isWithin_9 : decode c5_isWithin 9 = .ok (.if_icmp .ge 30, 3) := by decide +kernel
theorem d5_isWithin_12 : decode c5_isWithin 12 = .ok (.aload_n 0, 1) := by decide +kernel
theorem d5_isWithin_13 : decode c5_isWithin 13 = .ok (.getfield 22, 3) := by decide +kernel
theorem d5_isWithin_16 : decode c5_isWithin 16 = .ok (.iload_n 1, 1) := by decide +kernel
theorem d5_isWithin_17 : decode c5_isWithin 17 = .ok (.laload, 1) := by decide +kernel
theorem d5_isWithin_18 : decode c5_isWithin 18 = .ok (.lconst 0, 1) := by decide +kernel
theorem d5_isWithin_19 : decode c5_isWithin 19 = .ok (.lcmp, 1) := by decide +kernel
theorem d5_isWithin_20 : decode c5_isWithin 20 = .ok (.ifCond .lt 19, 3) := by decide +kernel
theorem d5_isWithin_23 : decode c5_isWithin 23 = .ok (.aload_n 0, 1) := by decide +kernel
theorem d5_isWithin_24 : decode c5_isWithin 24 = .ok (.getfield 22, 3) := by decide +kernel
theorem d5_isWithin_27 : decode c5_isWithin 27 = .ok (.iload_n 1, 1) := by decide +kernel
theorem d5_isWithin_28 : decode c5_isWithin 28 = .ok (.laload, 1) := by decide +kernel
theorem d5_isWithin_29 : decode c5_isWithin 29 = .ok (.iload_n 2, 1) := by decide +kernel
theorem d5_isWithin_30 : decode c5_isWithin 30 = .ok (.i2l, 1) := by decide +kernel
theorem d5_isWithin_31 : decode c5_isWithin 31 = .ok (.lcmp, 1) := by decide +kernel
theorem d5_isWithin_32 : decode c5_isWithin 32 = .ok (.ifCond .gt 7, 3) := by decide +kernel
theorem d5_isWithin_35 : decode c5_isWithin 35 = .ok (.iconst 1, 1) := by decide +kernel
theorem d5_isWithin_36 : decode c5_isWithin 36 = .ok (.goto 4, 3) := by decide +kernel
theorem d5_isWithin_39 : decode c5_isWithin 39 = .ok (.iconst 0, 1) := by decide +kernel
theorem d5_isWithin_40 : decode c5_isWithin 40 = .ok (.ireturn, 1) := by decide +kernel
def f5_isWithin (D : Mem) (r : Nat) (p0 : Int) (p1 : Int) : Option (Int) :=
  if w32 p0 < 0 then
    some 0
  else
    if w32 p0 < w32 (D r 2) then
      if 0 ≤ p0 ∧ p0 < 60 then
        if w64 (D (r + 1) p0.toNat) < w64 0 then
          some 0
        else
          if w64 (w32 p1) < w64 (D (r + 1) p0.toNat) then
            some 0
          else
            some 1
      else none
    else
      some 0
set_option maxHeartbeats 4000000 in
theorem ok5_isWithin {l : Launch} {X : XT} {n : Nat} {D : Mem} {Q : Option Value → Nat → Rho → Mem → Prop} (hn : 117 ≤ n) {r : Nat} {p0 : Int} {p1 : Int} (hr : VR n r 5) (h : wpo (f5_isWithin D r p0 p1) (fun a => Q (some (vI a)) n rt D)) : MOK l y5_isWithin c5_isWithin 3 (some .boolean) { frames := 0, cells := 0, slots := 0, locals := 0 } 0 0 X [vR X r, vI p0, vI p1] n rt D Q := by
  refine MOK_of 5 (by decide +kernel) rfl (lv := [(0, vR X r), (1, vI p0), (2, vI p1)]) (Nat.le_of_ble_eq_true rfl) rfl (fun K hK F hnm => ?_)
  subst hK
  unfold f5_isWithin at h
  refine r_iload_n F 1 rfl rfl d5_isWithin_0 ?_
  refine r_if_lt F (tgt := 39) d5_isWithin_1 (by decide) (fun hb => ?_) (fun hb => ?_)
  · replace h := wpo_pos h hb
    refine r_iconst F (z := 0) d5_isWithin_39 ?_
    replace h := wpo_some h
    exact r_zret F (Or.inl rfl) h d5_isWithin_40
  · replace h := wpo_neg h hb
    refine r_iload_n F 1 rfl rfl d5_isWithin_4 ?_
    refine r_aload_nR F 0 rfl rfl d5_isWithin_5 ?_
    refine r_getI F lf5_19 hr d5_isWithin_6 ?_
    refine r_icmp_ge F (tgt := 39) d5_isWithin_9 (by decide) (fun hb => ?_) (fun hb => ?_)
    · replace h := wpo_neg h hb
      refine r_iconst F (z := 0) d5_isWithin_39 ?_
      replace h := wpo_some h
      exact r_zret F (Or.inl rfl) h d5_isWithin_40
    · replace h := wpo_pos h hb
      refine r_aload_nR F 0 rfl rfl d5_isWithin_12 ?_
      refine r_getR F (z := (r + 1)) lf5_22 hr (z5_3 hr) d5_isWithin_13 ?_
      refine r_iload_n F 1 rfl rfl d5_isWithin_16 ?_
      obtain ⟨hx1, h⟩ := wpo_chk h
      refine r_lald F (y5_3 hn hr) hx1 d5_isWithin_17 ?_
      refine r_lconst F (x := 0) (by decide) d5_isWithin_18 ?_
      refine r_lc_lt F (tgt := 39) d5_isWithin_19 d5_isWithin_20 (by decide) (fun hb => ?_) (fun hb => ?_)
      · replace h := wpo_pos h hb
        refine r_iconst F (z := 0) d5_isWithin_39 ?_
        replace h := wpo_some h
        exact r_zret F (Or.inl rfl) h d5_isWithin_40
      · replace h := wpo_neg h hb
        refine r_aload_nR F 0 rfl rfl d5_isWithin_23 ?_
        refine r_getR F (z := (r + 1)) lf5_22 hr (z5_3 hr) d5_isWithin_24 ?_
        refine r_iload_n F 1 rfl rfl d5_isWithin_27 ?_
        refine r_lald F (y5_3 hn hr) hx1 d5_isWithin_28 ?_
        refine r_iload_n F 2 rfl rfl d5_isWithin_29 ?_
        refine r_i2l F d5_isWithin_30 ?_
        refine r_lc_gt F (tgt := 39) d5_isWithin_31 d5_isWithin_32 (by decide) (fun hb => ?_) (fun hb => ?_)
        · replace h := wpo_pos h hb
          refine r_iconst F (z := 0) d5_isWithin_39 ?_
          replace h := wpo_some h
          exact r_zret F (Or.inl rfl) h d5_isWithin_40
        · replace h := wpo_neg h hb
          refine r_iconst F (z := 1) d5_isWithin_35 ?_
          refine r_goto F (tgt := 40) (by decide) d5_isWithin_36 ?_
          replace h := wpo_some h
          exact r_zret F (Or.inr rfl) h d5_isWithin_40
theorem d9_troubleOfTeeth_0 : decode c9_troubleOfTeeth 0 = .ok (.aload_n 0, 1) := by decide +kernel
theorem d9_troubleOfTeeth_1 : decode c9_troubleOfTeeth 1 = .ok (.iload_n 1, 1) := by decide +kernel
theorem d9_troubleOfTeeth_2 : decode c9_troubleOfTeeth 2 = .ok (.invokevirtual 389, 3) := by decide +kernel
theorem d9_troubleOfTeeth_5 : decode c9_troubleOfTeeth 5 = .ok (.istore_n 2, 1) := by decide +kernel
theorem d9_troubleOfTeeth_6 : decode c9_troubleOfTeeth 6 = .ok (.iload_n 2, 1) := by decide +kernel
theorem d9_troubleOfTeeth_7 : decode c9_troubleOfTeeth 7 = .ok (.ifCond .eq 5, 3) := by decide +kernel
theorem d9_troubleOfTeeth_10 : decode c9_troubleOfTeeth 10 = .ok (.iload_n 2, 1) := by decide +kernel
theorem d9_troubleOfTeeth_11 : decode c9_troubleOfTeeth 11 = .ok (.ireturn, 1) := by decide +kernel
theorem d9_troubleOfTeeth_12 : decode c9_troubleOfTeeth 12 = .ok (.aload_n 0, 1) := by decide +kernel
theorem d9_troubleOfTeeth_13 : decode c9_troubleOfTeeth 13 = .ok (.getfield 42, 3) := by decide +kernel
theorem d9_troubleOfTeeth_16 : decode c9_troubleOfTeeth 16 = .ok (.iload_n 1, 1) := by decide +kernel
theorem d9_troubleOfTeeth_17 : decode c9_troubleOfTeeth 17 = .ok (.aaload, 1) := by decide +kernel
theorem d9_troubleOfTeeth_18 : decode c9_troubleOfTeeth 18 = .ok (.astore_n 3, 1) := by decide +kernel
theorem d9_troubleOfTeeth_19 : decode c9_troubleOfTeeth 19 = .ok (.aload_n 3, 1) := by decide +kernel
theorem d9_troubleOfTeeth_20 : decode c9_troubleOfTeeth 20 = .ok (.getfield 367, 3) := by decide +kernel
theorem d9_troubleOfTeeth_23 : decode c9_troubleOfTeeth 23 = .ok (.iconst 2, 1) := by decide +kernel
theorem d9_troubleOfTeeth_24 : decode c9_troubleOfTeeth 24 = .ok (.irem, 1) := by decide +kernel
theorem d9_troubleOfTeeth_25 : decode c9_troubleOfTeeth 25 = .ok (.ifCond .eq 6, 3) := by decide +kernel
theorem d9_troubleOfTeeth_28 : decode c9_troubleOfTeeth 28 = .ok (.bipush (-2), 2) := by decide +kernel
theorem d9_troubleOfTeeth_30 : decode c9_troubleOfTeeth 30 = .ok (.ireturn, 1) := by decide +kernel
theorem d9_troubleOfTeeth_31 : decode c9_troubleOfTeeth 31 = .ok (.iconst 0, 1) := by decide +kernel
theorem d9_troubleOfTeeth_32 : decode c9_troubleOfTeeth 32 = .ok (.istore 4, 2) := by decide +kernel
theorem d9_troubleOfTeeth_34 : decode c9_troubleOfTeeth 34 = .ok (.iload 4, 2) := by decide +kernel
theorem d9_troubleOfTeeth_36 : decode c9_troubleOfTeeth 36 = .ok (.iconst 1, 1) := by decide +kernel
theorem d9_troubleOfTeeth_37 : decode c9_troubleOfTeeth 37 = .ok (.iadd, 1) := by decide +kernel
theorem d9_troubleOfTeeth_38 : decode c9_troubleOfTeeth 38 = .ok (.aload_n 3, 1) := by decide +kernel
theorem d9_troubleOfTeeth_39 : decode c9_troubleOfTeeth 39 = .ok (.getfield 367, 3) := by decide +kernel
theorem d9_troubleOfTeeth_42 : decode c9_troubleOfTeeth 42 = .ok (.if_icmp .ge 43, 3) := by decide +kernel
theorem d9_troubleOfTeeth_45 : decode c9_troubleOfTeeth 45 = .ok (.aload_n 3, 1) := by decide +kernel
theorem d9_troubleOfTeeth_46 : decode c9_troubleOfTeeth 46 = .ok (.iload 4, 2) := by decide +kernel
theorem d9_troubleOfTeeth_48 : decode c9_troubleOfTeeth 48 = .ok (.aload_n 0, 1) := by decide +kernel
theorem d9_troubleOfTeeth_49 : decode c9_troubleOfTeeth 49 = .ok (.getfield 28, 3) := by decide +kernel
theorem d9_troubleOfTeeth_52 : decode c9_troubleOfTeeth 52 = .ok (.getfield 168, 3) := by decide +kernel
theorem d9_troubleOfTeeth_55 : decode c9_troubleOfTeeth 55 = .ok (.iconst 1, 1) := by decide +kernel
theorem d9_troubleOfTeeth_56 : decode c9_troubleOfTeeth 56 = .ok (.isub, 1) := by decide +kernel
theorem d9_troubleOfTeeth_57 : decode c9_troubleOfTeeth 57 = .ok (.invokevirtual 392, 3) := by decide +kernel
theorem d9_troubleOfTeeth_60 : decode c9_troubleOfTeeth 60 = .ok (.ifCond .eq 16, 3) := by decide +kernel
theorem d9_troubleOfTeeth_63 : decode c9_troubleOfTeeth 63 = .ok (.aload_n 3, 1) := by decide +kernel
theorem d9_troubleOfTeeth_64 : decode c9_troubleOfTeeth 64 = .ok (.iload 4, 2) := by decide +kernel
theorem d9_troubleOfTeeth_66 : decode c9_troubleOfTeeth 66 = .ok (.iconst 1, 1) := by decide +kernel
theorem d9_troubleOfTeeth_67 : decode c9_troubleOfTeeth 67 = .ok (.iadd, 1) := by decide +kernel
theorem d9_troubleOfTeeth_68 : decode c9_troubleOfTeeth 68 = .ok (.bipush 20, 2) := by decide +kernel
theorem d9_troubleOfTeeth_70 : decode c9_troubleOfTeeth 70 = .ok (.invokevirtual 392, 3) := by decide +kernel
theorem d9_troubleOfTeeth_73 : decode c9_troubleOfTeeth 73 = .ok (.ifCond .ne 6, 3) := by decide +kernel
theorem d9_troubleOfTeeth_76 : decode c9_troubleOfTeeth 76 = .ok (.bipush (-2), 2) := by decide +kernel
theorem d9_troubleOfTeeth_78 : decode c9_troubleOfTeeth 78 = .ok (.ireturn, 1) := by decide +kernel
theorem d9_troubleOfTeeth_79 : decode c9_troubleOfTeeth 79 = .ok (.iinc 4 2, 3) := by decide +kernel
theorem d9_troubleOfTeeth_82 : decode c9_troubleOfTeeth 82 = .ok (.goto (-48), 3) := by decide +kernel
theorem d9_troubleOfTeeth_85 : decode c9_troubleOfTeeth 85 = .ok (.iconst 0, 1) := by decide +kernel
theorem d9_troubleOfTeeth_86 : decode c9_troubleOfTeeth 86 = .ok (.ireturn, 1) := by decide +kernel
def f9_troubleOfTeeth (D : Mem) (p0 : Int) : Option (Int) :=
  Option.bind (f9_troubleOfRow D p0) fun (a1 : Int) =>
  if w32 a1 = 0 then
    if 0 ≤ p0 ∧ p0 < 4 then
      if w32 (rem32 (D (109 + 2 * p0.toNat) 2) 2) = 0 then
        Option.bind (@loop (Int) ((Unit) ⊕ (Int)) (fun s1 =>
          if w32 (s1 + 1) < w32 (D (109 + 2 * p0.toNat) 2) then
            Option.bind (f5_isWithin D (109 + 2 * p0.toNat) s1 ((D 12 1) - 1)) fun (a2 : Int) =>
            if w32 a2 = 0 then
              some (Sum.inr (Sum.inr (-2)))
            else
              Option.bind (f5_isWithin D (109 + 2 * p0.toNat) (s1 + 1) 20) fun (a3 : Int) =>
              if w32 a3 = 0 then
                some (Sum.inr (Sum.inr (-2)))
              else
                some (Sum.inl (s1 + 2))
          else
            some (Sum.inr (Sum.inl ()))
        ) FU 0) (fun z => Sum.elim (fun (b1 : Unit) =>
          some 0
        ) (fun rv => some rv) z)
      else
        some (-2)
    else none
  else
    some a1
set_option maxHeartbeats 4000000 in
theorem ok9_troubleOfTeeth {l : Launch} {X : XT} {n : Nat} {D : Mem} {Q : Option Value → Nat → Rho → Mem → Prop} (hn : 117 ≤ n) {p0 : Int}  (h : wpo (f9_troubleOfTeeth D p0) (fun a => Q (some (vI a)) n rt D)) : MOK l y9_troubleOfTeeth c9_troubleOfTeeth 5 (some .int) { frames := 2, cells := 0, slots := 0, locals := 42 } 0 0 X [vR X 0, vI p0] n rt D Q := by
  refine MOK_of 9 (by decide +kernel) rfl (lv := [(0, vR X 0), (1, vI p0)]) (Nat.le_of_ble_eq_true rfl) rfl (fun K hK F hnm => ?_)
  subst hK
  unfold f9_troubleOfTeeth at h
  refine r_aload_nR F 0 rfl rfl d9_troubleOfTeeth_0 ?_
  refine r_iload_n F 1 rfl rfl d9_troubleOfTeeth_1 ?_
  replace h := wpo_bind h
  refine r_callV0 F lm9_389 mf9_troubleOfRow (vc0 hn) rfl (fr := 1) (lo := 21) (As := [vI p0]) (rest := []) ⟨Nat.le_of_ble_eq_true rfl, Nat.le_of_ble_eq_true rfl⟩ rfl (Nat.le_of_ble_eq_true rfl) ⟨Nat.zero_le _, Nat.zero_le _⟩ d9_troubleOfTeeth_2 ?_
  refine ok9_troubleOfRow hn  (kI h (fun a1 h => ?_))
  refine r_istore_n F (lv' := [(2, vI a1), (0, vR X 0), (1, vI p0)]) rfl (Nat.le_of_ble_eq_true rfl) rfl d9_troubleOfTeeth_5 ?_
  refine r_iload_n F 0 rfl rfl d9_troubleOfTeeth_6 ?_
  refine r_if_eq F (tgt := 12) d9_troubleOfTeeth_7 (by decide) (fun hb => ?_) (fun hb => ?_)
  · replace h := wpo_pos h hb
    refine r_aload_nR F 1 rfl rfl d9_troubleOfTeeth_12 ?_
    refine r_getR F (z := 22) lf9_42 (vc0 hn) z0_5 d9_troubleOfTeeth_13 ?_
    refine r_iload_n F 2 rfl rfl d9_troubleOfTeeth_16 ?_
    obtain ⟨hx1, h⟩ := wpo_chk h
    refine r_aaldS F (z := (109 + 2 * p0.toNat)) (vc22 hn) hx1 (zs hx1) d9_troubleOfTeeth_17 ?_
    refine r_astore_nR F (lv' := [(3, vR X (109 + 2 * p0.toNat)), (2, vI a1), (0, vR X 0), (1, vI p0)]) rfl (Nat.le_of_ble_eq_true rfl) rfl d9_troubleOfTeeth_18 ?_
    refine r_aload_nR F 0 rfl rfl d9_troubleOfTeeth_19 ?_
    refine r_getI F lf9_367 (vs hn hx1) d9_troubleOfTeeth_20 ?_
    refine r_iconst F (z := 2) d9_troubleOfTeeth_23 ?_
    refine r_irem F (by decide +kernel) d9_troubleOfTeeth_24 ?_
    refine r_if_eq F (tgt := 31) d9_troubleOfTeeth_25 (by decide) (fun hb => ?_) (fun hb => ?_)
    · replace h := wpo_pos h hb
      refine r_iconst F (z := 0) d9_troubleOfTeeth_31 ?_
      refine r_istore F (lv' := [(4, vI 0), (3, vR X (109 + 2 * p0.toNat)), (2, vI a1), (0, vR X 0), (1, vI p0)]) (Nat.le_of_ble_eq_true rfl) rfl d9_troubleOfTeeth_32 ?_
      refine r_weak [3, 1, 0] rfl ?_
      refine at_loopj (A := fun (s1 : Int) => At K X (ZQ K X Q) 0 0 n rt 5 34 [(0, vR X 0), (3, vR X (109 + 2 * p0.toNat)), (4, vI s1)] [] D) (B := Sum.elim (fun (b1 : Unit) => At K X (ZQ K X Q) 0 0 n rt 5 85 [] [] D) (fun rv => Q (some (vI rv)) n rt D)) h (fun z h => ?_) (fun s1 h => ?_)
      · rcases z with b1 | rv
        · replace h := elim_l h
          refine el_li ?_
          refine r_iconst F (z := 0) d9_troubleOfTeeth_85 ?_
          replace h := wpo_some h
          exact r_iret F h d9_troubleOfTeeth_86
        · replace h := elim_r h
          replace h := wpo_some h
          exact el_ri h
      · refine r_iload F 2 rfl d9_troubleOfTeeth_34 ?_
        refine r_iconst F (z := 1) d9_troubleOfTeeth_36 ?_
        refine r_iadd F d9_troubleOfTeeth_37 ?_
        refine r_aload_nR F 1 rfl rfl d9_troubleOfTeeth_38 ?_
        refine r_getI F lf9_367 (vs hn hx1) d9_troubleOfTeeth_39 ?_
        refine r_icmp_ge F (tgt := 85) d9_troubleOfTeeth_42 (by decide) (fun hb => ?_) (fun hb => ?_)
        · replace h := wpo_neg h hb
          refine r_weak [] rfl ?_
          replace h := wpo_inr h
          replace h := el_l h
          exact h
        · replace h := wpo_pos h hb
          refine r_aload_nR F 1 rfl rfl d9_troubleOfTeeth_45 ?_
          refine r_iload F 2 rfl d9_troubleOfTeeth_46 ?_
          refine r_aload_nR F 0 rfl rfl d9_troubleOfTeeth_48 ?_
          refine r_getR F (z := 12) lf9_28 (vc0 hn) z0_2 d9_troubleOfTeeth_49 ?_
          refine r_getI F lf9_168 (vc12 hn) d9_troubleOfTeeth_52 ?_
          refine r_iconst F (z := 1) d9_troubleOfTeeth_55 ?_
          refine r_isub F d9_troubleOfTeeth_56 ?_
          replace h := wpo_bind h
          refine r_callV0 F lm9_392 mf5_isWithin (vs hn hx1) rfl (fr := 0) (lo := 0) (As := [vI s1, vI ((D 12 1) - 1)]) (rest := []) ⟨Nat.le_of_ble_eq_true rfl, Nat.le_of_ble_eq_true rfl⟩ rfl (Nat.le_of_ble_eq_true rfl) ⟨Nat.zero_le _, Nat.zero_le _⟩ d9_troubleOfTeeth_57 ?_
          refine ok5_isWithin hn (vs hn hx1) (kI h (fun a2 h => ?_))
          refine r_if_eq F (tgt := 76) d9_troubleOfTeeth_60 (by decide) (fun hb => ?_) (fun hb => ?_)
          · replace h := wpo_pos h hb
            refine r_bipush F (z := (-2)) (by decide) d9_troubleOfTeeth_76 ?_
            replace h := el_r (wpo_inr h)
            exact r_iret F h d9_troubleOfTeeth_78
          · replace h := wpo_neg h hb
            refine r_aload_nR F 1 rfl rfl d9_troubleOfTeeth_63 ?_
            refine r_iload F 2 rfl d9_troubleOfTeeth_64 ?_
            refine r_iconst F (z := 1) d9_troubleOfTeeth_66 ?_
            refine r_iadd F d9_troubleOfTeeth_67 ?_
            refine r_bipush F (z := 20) (by decide) d9_troubleOfTeeth_68 ?_
            replace h := wpo_bind h
            refine r_callV0 F lm9_392 mf5_isWithin (vs hn hx1) rfl (fr := 0) (lo := 0) (As := [vI (s1 + 1), vI 20]) (rest := []) ⟨Nat.le_of_ble_eq_true rfl, Nat.le_of_ble_eq_true rfl⟩ rfl (Nat.le_of_ble_eq_true rfl) ⟨Nat.zero_le _, Nat.zero_le _⟩ d9_troubleOfTeeth_70 ?_
            refine ok5_isWithin hn (vs hn hx1) (kI h (fun a3 h => ?_))
            refine r_if_ne F (tgt := 79) d9_troubleOfTeeth_73 (by decide) (fun hb => ?_) (fun hb => ?_)
            · replace h := wpo_neg h hb
              refine r_iinc F 2 (lv' := [(4, vI (s1 + 2)), (0, vR X 0), (3, vR X (109 + 2 * p0.toNat))]) rfl (Nat.le_of_ble_eq_true rfl) rfl d9_troubleOfTeeth_79 ?_
              refine r_goto F (tgt := 34) (by decide) d9_troubleOfTeeth_82 ?_
              refine r_weak [1, 2, 0] rfl ?_
              replace h := wpo_inl h
              exact h
            · replace h := wpo_pos h hb
              refine r_bipush F (z := (-2)) (by decide) d9_troubleOfTeeth_76 ?_
              replace h := el_r (wpo_inr h)
              exact r_iret F h d9_troubleOfTeeth_78
    · replace h := wpo_neg h hb
      refine r_bipush F (z := (-2)) (by decide) d9_troubleOfTeeth_28 ?_
      replace h := wpo_some h
      exact r_iret F h d9_troubleOfTeeth_30
  · replace h := wpo_neg h hb
    refine r_iload_n F 0 rfl rfl d9_troubleOfTeeth_10 ?_
    replace h := wpo_some h
    exact r_iret F h d9_troubleOfTeeth_11
