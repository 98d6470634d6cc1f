/-! THE LAW, call by call: printed by a script of mine out of f11_law's arms and the theorems' names -/
theorem w64_bd (x : Int) : -9223372036854775808 ≤ w64 x ∧ w64 x < 9223372036854775808 := by
  have s64 : Int64.size = 18446744073709551616 := rfl
  rw [w64, Int64.toInt_ofInt, Int.bmod_def, s64]
  omega
theorem or64_bd (x y : Int) : A64 (or64 x y) := by
  have e : w64 (or64 x y) = or64 x y := by rw [w64, or64, Int64.ofInt_toInt]
  rw [← e]
  exact w64_bd _
theorem arm_i {x9 : Option (Int × Mem)} {x10 : Mem → Option (Int × Mem)} {i : Int} {Q : (Int × Mem) ⊕ (Mem ⊕ Unit) → Prop} (h : wpo x9 (fun a => wpo (x10 a.2) (fun b => w32 a.1 = w32 b.1 ∧ Inv b.2))) (hQ : ∀ M, Inv M → Q (Sum.inl (i, M))) : wpo (Option.bind x9 fun (a : Int × Mem) => Option.bind (x10 a.2) fun (b : Int × Mem) => if w32 a.1 = w32 b.1 then some (Sum.inl (i, b.2)) else none) Q :=
  wp_bind.mpr (wpo_mono h (fun _ g => wp_bind.mpr (wpo_mono g (fun b g2 => wp_pos g2.1 (wpo_of (hQ b.2 g2.2))))))
theorem arm_l {x9 : Option (Int × Mem)} {x10 : Mem → Option (Int × Mem)} {i : Int} {Q : (Int × Mem) ⊕ (Mem ⊕ Unit) → Prop} (h : wpo x9 (fun a => wpo (x10 a.2) (fun b => w64 a.1 = w64 b.1 ∧ Inv b.2))) (hQ : ∀ M, Inv M → Q (Sum.inl (i, M))) : wpo (Option.bind x9 fun (a : Int × Mem) => Option.bind (x10 a.2) fun (b : Int × Mem) => if w64 a.1 = w64 b.1 then some (Sum.inl (i, b.2)) else none) Q :=
  wp_bind.mpr (wpo_mono h (fun _ g => wp_bind.mpr (wpo_mono g (fun b g2 => wp_pos g2.1 (wpo_of (hQ b.2 g2.2))))))
theorem arm_p {x9 : Option Int} {x10 : Option (Int × Mem)} {i : Int} {Q : (Int × Mem) ⊕ (Mem ⊕ Unit) → Prop} (h : wpo x9 (fun a => wpo x10 (fun b => w32 a = w32 b.1 ∧ Inv b.2))) (hQ : ∀ M, Inv M → Q (Sum.inl (i, M))) : wpo (Option.bind x9 fun (a : Int) => Option.bind x10 fun (b : Int × Mem) => if w32 a = w32 b.1 then some (Sum.inl (i, b.2)) else none) Q :=
  wp_bind.mpr (wpo_mono h (fun _ g => wp_bind.mpr (wpo_mono g (fun b g2 => wp_pos g2.1 (wpo_of (hQ b.2 g2.2))))))
theorem arm_v {D : Mem} {x9 x10 : Option Int} {i : Int} {Q : (Int × Mem) ⊕ (Mem ⊕ Unit) → Prop} (h : ∃ v : Int, x9 = some v ∧ x10 = some v) (hD : Inv D) (hQ : ∀ M, Inv M → Q (Sum.inl (i, M))) : wpo (Option.bind x9 fun (a : Int) => Option.bind x10 fun (b : Int) => if w32 a = w32 b then some (Sum.inl (i, D)) else none) Q := by
  obtain ⟨v, h1, h2⟩ := h
  exact wp_then h1 (wp_then h2 (wp_pos rfl (wpo_of (hQ D hD))))
theorem arm_w {D : Mem} {x9 x10 : Option Int} {i : Int} {Q : (Int × Mem) ⊕ (Mem ⊕ Unit) → Prop} (h : ∃ v : Int, x9 = some v ∧ x10 = some v) (hD : Inv D) (hQ : ∀ M, Inv M → Q (Sum.inl (i, M))) : wpo (Option.bind x9 fun (a : Int) => Option.bind x10 fun (b : Int) => if w64 a = w64 b then some (Sum.inl (i, D)) else none) Q := by
  obtain ⟨v, h1, h2⟩ := h
  exact wp_then h1 (wp_then h2 (wp_pos rfl (wpo_of (hQ D hD))))
theorem o_p {D : Mem} {x9 : Option Int} {x10 : Option (Int × Mem)} (hI : Inv D) (h : AGp D x9 x10) : wpo x9 (fun a => wpo x10 (fun b => w32 a = w32 b.1 ∧ Inv b.2)) := wpo_mono h (fun _ g => wpo_mono g (fun _ g2 => ⟨g2.1, hI.sk g2.2⟩))
theorem o_i {D : Mem} {x9 : Option (Int × Mem)} {x10 : Mem → Option (Int × Mem)} (hI : Inv D) (h : AGi D x9 x10) : wpo x9 (fun a => wpo (x10 a.2) (fun b => w32 a.1 = w32 b.1 ∧ Inv b.2)) := wpo_mono h (fun _ g => wpo_mono g (fun _ g2 => ⟨g2.1, hI.sk g2.2⟩))
theorem o_l {D : Mem} {x9 : Option (Int × Mem)} {x10 : Mem → Option (Int × Mem)} (hI : Inv D) (h : AGl D x9 x10) : wpo x9 (fun a => wpo (x10 a.2) (fun b => w64 a.1 = w64 b.1 ∧ Inv b.2)) := wpo_mono h (fun _ g => wpo_mono g (fun _ g2 => ⟨g2.1, hI.sk g2.2⟩))
theorem o_c {D : Mem} {x9 : Option (Int × Mem)} {x10 : Mem → Option (Int × Mem)} (hI : Inv D) (h : AGc D x9 x10) : wpo x9 (fun a => wpo (x10 a.2) (fun b => w32 a.1 = w32 b.1 ∧ Inv b.2)) := wpo_mono h (fun _ g => wpo_mono g (fun _ g2 => ⟨g2.1, hI.c g2.2.1 g2.2.2⟩))
theorem o_b {D : Mem} {x9 : Option (Int × Mem)} {x10 : Mem → Option (Int × Mem)} (hI : Inv D) (h : AGb D x9 x10) : wpo x9 (fun a => wpo (x10 a.2) (fun b => w32 a.1 = w32 b.1 ∧ Inv b.2)) := wpo_mono h (fun _ g => wpo_mono g (fun _ g2 => ⟨g2.1, hI.b g2.2.1 g2.2.2⟩))
theorem o_k {D : Mem} {x9 : Option (Int × Mem)} {x10 : Mem → Option (Int × Mem)} (hI : Inv D) (h : AGk D x9 x10) : wpo x9 (fun a => wpo (x10 a.2) (fun b => w32 a.1 = w32 b.1 ∧ Inv b.2)) := wpo_mono h (fun _ g => wpo_mono g (fun _ g2 => ⟨congrArg w32 g2.1, hI.k g2.2.1 g2.2.2⟩))
theorem o_k64 {D : Mem} {x9 : Option (Int × Mem)} {x10 : Mem → Option (Int × Mem)} (hI : Inv D) (h : AGk D x9 x10) : wpo x9 (fun a => wpo (x10 a.2) (fun b => w64 a.1 = w64 b.1 ∧ Inv b.2)) := wpo_mono h (fun _ g => wpo_mono g (fun _ g2 => ⟨congrArg w64 g2.1, hI.k g2.2.1 g2.2.2⟩))
theorem o_s {D : Mem} {x9 : Option (Int × Mem)} {x10 : Mem → Option (Int × Mem)} (hI : Inv D) (h : AGs D x9 x10) : wpo x9 (fun a => wpo (x10 a.2) (fun b => w32 a.1 = w32 b.1 ∧ Inv b.2)) := wpo_mono h (fun _ g => wpo_mono g (fun _ g2 => ⟨g2.1, hI.s g2.2.1 g2.2.2⟩))
theorem o_n {D : Mem} {x9 : Option (Int × Mem)} {x10 : Mem → Option (Int × Mem)} (hI : Inv D) (h : AGn D x9 x10) : wpo x9 (fun a => wpo (x10 a.2) (fun b => w32 a.1 = w32 b.1 ∧ Inv b.2)) := wpo_mono h (fun _ g => wpo_mono g (fun _ g2 => ⟨g2.1, hI.n g2.2⟩))
theorem o_t {D : Mem} {x9 : Option (Int × Mem)} {x10 : Mem → Option (Int × Mem)} (hI : Inv D) (h : wpo x9 (fun a => wpo (x10 a.2) (fun b => w32 a.1 = w32 b.1 ∧ TF D b.2 ∧ IT b.2))) : wpo x9 (fun a => wpo (x10 a.2) (fun b => w32 a.1 = w32 b.1 ∧ Inv b.2)) := wpo_mono h (fun _ g => wpo_mono g (fun _ g2 => ⟨g2.1, hI.t g2.2.1 g2.2.2⟩))
theorem o_im {D : Mem} {x9 : Option (Int × Mem)} {x10 : Mem → Option (Int × Mem)} (hI : Inv D) (h : wpo x9 (fun a => wpo (x10 a.2) (fun b => w32 a.1 = w32 b.1 ∧ IF D b.2 ∧ II b.2))) : wpo x9 (fun a => wpo (x10 a.2) (fun b => w32 a.1 = w32 b.1 ∧ Inv b.2)) := wpo_mono h (fun _ g => wpo_mono g (fun _ g2 => ⟨g2.1, hI.i g2.2.1 g2.2.2⟩))
theorem o_pa {D : Mem} {x9 : Option (Int × Mem)} {x10 : Mem → Option (Int × Mem)} (hI : Inv D) (h : wpo x9 (fun a => wpo (x10 a.2) (fun b => w32 a.1 = w32 b.1 ∧ PF D b.2))) : wpo x9 (fun a => wpo (x10 a.2) (fun b => w32 a.1 = w32 b.1 ∧ Inv b.2)) := wpo_mono h (fun _ g => wpo_mono g (fun _ g2 => ⟨g2.1, hI.p g2.2⟩))
theorem D0_pr : PR D0c 12 (fun _ => 0) := ⟨⟨rfl, rfl, rfl, rfl, rfl, rfl, rfl, rfl, rfl, rfl⟩, fun p hp => absurd hp (by dsimp only; omega), fun p hp => absurd hp (by dsimp only; omega)⟩
set_option maxHeartbeats 40000000 in
theorem law_holds {xs : Nat → Int} {L : Nat} {D : Mem} (hL : L ≤ 3072) (hA : ∀ j, A32 (xs j)) (hD : Inv D) : wpo (f11_law xs L D) (fun _ => True) := by
  unfold f11_law
  refine wp_bind.mpr (wpo_mono (P := fun _ => True) ?_ (fun z _ => by cases z <;> exact wpo_of trivial))
  refine wp_loopm (I := fun m s => ∃ k : Nat, s.1 = (k : Int) ∧ m = 520 - k / 6 ∧ k ≤ L + 6 ∧ Inv s.2) ?_ FU 520 _ ⟨0, rfl, rfl, Nat.zero_le _, hD⟩ (by unfold FU; omega)
  rintro m ⟨i, S⟩ ⟨k, e1, rfl, hkL, hI⟩
  dsimp only at e1 hI
  subst e1
  dsimp only
  by_cases c0 : (L : Int) - 6 < (k : Int)
  · exact wp_pos ((lt32 (by omega) (by omega)).mpr c0) (wpo_of trivial)
  refine wp_neg (fun z => c0 ((lt32 (by omega) (by omega)).mp z)) (wp_pos (by omega) ?_)
  have fin : ∀ M, Inv M → ∃ m', m' < 520 - k / 6 ∧ ∃ k' : Nat, (((k : Int) + 6, M) : Int × Mem).1 = (k' : Int) ∧ m' = 520 - k' / 6 ∧ k' ≤ L + 6 ∧ Inv (((k : Int) + 6, M) : Int × Mem).2 := fun M hM => ⟨520 - (k + 6) / 6, by omega, k + 6, rfl, rfl, by omega, hM⟩
  by_cases c1 : w32 (and32 (xs k) 127) = 0
  · exact wp_pos c1 (wp_pos (by omega) (wp_pos (by omega) (wp_pos (by omega) (wp_pos (by omega) (wp_pos (by omega) (arm_i (x10 := fun M => f10_feed M (xs ((k : Int) + 1).toNat) (xs ((k : Int) + 2).toNat) (xs ((k : Int) + 3).toNat) (xs ((k : Int) + 4).toNat) (xs ((k : Int) + 5).toNat)) (o_t (x10 := fun M => f10_feed M (xs ((k : Int) + 1).toNat) (xs ((k : Int) + 2).toNat) (xs ((k : Int) + 3).toNat) (xs ((k : Int) + 4).toNat) (xs ((k : Int) + 5).toNat)) hI (ag_feed hI.2.2.1)) fin))))))
  refine wp_neg c1 ?_
  by_cases c2 : w32 (and32 (xs k) 127) = 1
  · exact wp_pos c2 (wp_pos (by omega) (arm_i (x10 := fun M => f10_end M (xs ((k : Int) + 1).toNat)) (o_t (x10 := fun M => f10_end M (xs ((k : Int) + 1).toNat)) hI (ag_end hI.2.2.1 (hA _))) fin))
  refine wp_neg c2 ?_
  by_cases c3 : w32 (and32 (xs k) 127) = 2
  · exact wp_pos c3 (arm_i (x10 := fun M => f10_parish M) (o_pa (x10 := fun M => f10_parish M) hI (ag_parish hI.1 hI.2.2.1)) fin)
  refine wp_neg c3 ?_
  by_cases c4 : w32 (and32 (xs k) 127) = 3
  · exact wp_pos c4 (wp_pos (by omega) (arm_v (ag_fault hI.2.2.1) hI fin))
  refine wp_neg c4 ?_
  by_cases c5 : w32 (and32 (xs k) 127) = 4
  · exact wp_pos c5 (wp_pos (by omega) (wp_pos (by omega) (arm_p (o_p hI (ag_person_ hI.1 (hA _) (hA _))) fin)))
  refine wp_neg c5 ?_
  by_cases c6 : w32 (and32 (xs k) 127) = 5
  · exact wp_pos c6 (wp_pos (by omega) (arm_p (o_p hI (ag_gives hI.1 (hA _))) fin))
  refine wp_neg c6 ?_
  by_cases c7 : w32 (and32 (xs k) 127) = 6
  · exact wp_pos c7 (wp_pos (by omega) (arm_p (o_p hI (ag_given hI.1 (hA _))) fin))
  refine wp_neg c7 ?_
  by_cases c8 : w32 (and32 (xs k) 127) = 7
  · exact wp_pos c8 (wp_pos (by omega) (arm_p (o_p hI (ag_waits hI.1 (hA _))) fin))
  refine wp_neg c8 ?_
  by_cases c9 : w32 (and32 (xs k) 127) = 8
  · exact wp_pos c9 (wp_pos (by omega) (arm_p (o_p hI (ag_left hI.1 (hA _))) fin))
  refine wp_neg c9 ?_
  by_cases c10 : w32 (and32 (xs k) 127) = 9
  · exact wp_pos c10 (wp_pos (by omega) (arm_p (o_p hI (ag_bears hI.1 (hA _))) fin))
  refine wp_neg c10 ?_
  by_cases c11 : w32 (and32 (xs k) 127) = 10
  · exact wp_pos c11 (wp_pos (by omega) (arm_p (o_p hI (ag_groans hI.1 (hA _))) fin))
  refine wp_neg c11 ?_
  by_cases c12 : w32 (and32 (xs k) 127) = 11
  · exact wp_pos c12 (arm_p (o_p hI (ag_all hI.1)) fin)
  refine wp_neg c12 ?_
  by_cases c13 : w32 (and32 (xs k) 127) = 12
  · exact wp_pos c13 (arm_p (o_p hI (ag_worst hI.1)) fin)
  refine wp_neg c13 ?_
  by_cases c14 : w32 (and32 (xs k) 127) = 13
  · exact wp_pos c14 (arm_p (o_p hI (ag_crowded hI.1)) fin)
  refine wp_neg c14 ?_
  by_cases c15 : w32 (and32 (xs k) 127) = 14
  · exact wp_pos c15 (wp_pos (by omega) (arm_p (o_p hI (ag_holds hI.1 (hA _))) fin))
  refine wp_neg c15 ?_
  by_cases c16 : w32 (and32 (xs k) 127) = 15
  · exact wp_pos c16 (wp_pos (by omega) (arm_p (o_p hI (ag_cut hI.1 (hA _))) fin))
  refine wp_neg c16 ?_
  by_cases c17 : w32 (and32 (xs k) 127) = 16
  · exact wp_pos c17 (arm_p (o_p hI (ag_feast hI.1)) fin)
  refine wp_neg c17 ?_
  by_cases c18 : w32 (and32 (xs k) 127) = 17
  · exact wp_pos c18 (arm_p (o_p hI (ag_paid hI.1)) fin)
  refine wp_neg c18 ?_
  by_cases c19 : w32 (and32 (xs k) 127) = 18
  · exact wp_pos c19 (arm_p (o_p hI (ag_quiet hI.1)) fin)
  refine wp_neg c19 ?_
  by_cases c20 : w32 (and32 (xs k) 127) = 19
  · exact wp_pos c20 (arm_p (o_p hI (ag_kept hI.1)) fin)
  refine wp_neg c20 ?_
  by_cases c21 : w32 (and32 (xs k) 127) = 20
  · exact wp_pos c21 (arm_p (o_p hI (ag_idle hI.1)) fin)
  refine wp_neg c21 ?_
  by_cases c22 : w32 (and32 (xs k) 127) = 21
  · exact wp_pos c22 (wp_pos (by omega) (arm_p (o_p hI (ag_big hI.1 (hA _))) fin))
  refine wp_neg c22 ?_
  by_cases c23 : w32 (and32 (xs k) 127) = 22
  · exact wp_pos c23 (wp_pos (by omega) (arm_i (x10 := fun M => f10_suits M (xs ((k : Int) + 1).toNat)) (o_i hI (ag_suits hI.1 (hA _))) fin))
  refine wp_neg c23 ?_
  by_cases c24 : w32 (and32 (xs k) 127) = 23
  · exact wp_pos c24 (arm_p (o_p hI (ag_last hI.1)) fin)
  refine wp_neg c24 ?_
  by_cases c25 : w32 (and32 (xs k) 127) = 24
  · exact wp_pos c25 (wp_pos (by omega) (arm_p (o_p hI (ag_gap hI.1 (hA _))) fin))
  refine wp_neg c25 ?_
  by_cases c26 : w32 (and32 (xs k) 127) = 25
  · exact wp_pos c26 (wp_pos (by omega) (arm_i (x10 := fun M => f10_without M (xs ((k : Int) + 1).toNat)) (o_i hI (ag_without hI.1 (hA _))) fin))
  refine wp_neg c26 ?_
  by_cases c27 : w32 (and32 (xs k) 127) = 26
  · exact wp_pos c27 (wp_pos (by omega) (arm_i (x10 := fun M => f10_blocks M (xs ((k : Int) + 1).toNat)) (o_i hI (ag_blocks hI.1 (hA _))) fin))
  refine wp_neg c27 ?_
  by_cases c28 : w32 (and32 (xs k) 127) = 27
  · exact wp_pos c28 (wp_pos (by omega) (arm_p (o_p hI (ag_when hI.1 (hA _))) fin))
  refine wp_neg c28 ?_
  by_cases c29 : w32 (and32 (xs k) 127) = 28
  · exact wp_pos c29 (wp_pos (by omega) (wp_pos (by omega) (arm_p (o_p hI (ag_share hI.1 (hA _) (hA _))) fin)))
  refine wp_neg c29 ?_
  by_cases c30 : w32 (and32 (xs k) 127) = 29
  · exact wp_pos c30 (arm_i (x10 := fun M => f10_wide M) (o_i hI (ag_wide hI.1)) fin)
  refine wp_neg c30 ?_
  by_cases c31 : w32 (and32 (xs k) 127) = 30
  · exact wp_pos c31 (wp_pos (by omega) (arm_p (o_p hI (ag_mild hI.1 (hA _))) fin))
  refine wp_neg c31 ?_
  by_cases c32 : w32 (and32 (xs k) 127) = 31
  · exact wp_pos c32 (arm_i (x10 := fun M => f10_regret M) (o_k hI (ag_regret hI.1 hI.2.2.2.2.2.2)) fin)
  refine wp_neg c32 ?_
  by_cases c33 : w32 (and32 (xs k) 127) = 32
  · exact wp_pos c33 (arm_i (x10 := fun M => f10_spoons M) (o_b hI (ag_spoons hI.1 hI.2.2.2.2.2.1)) fin)
  refine wp_neg c33 ?_
  by_cases c34 : w32 (and32 (xs k) 127) = 33
  · exact wp_pos c34 (arm_i (x10 := fun M => f10_lonely M) (o_b hI (ag_lonely hI.1 hI.2.2.2.2.2.1)) fin)
  refine wp_neg c34 ?_
  by_cases c35 : w32 (and32 (xs k) 127) = 34
  · exact wp_pos c35 (wp_pos (by omega) (arm_i (x10 := fun M => f10_costs M (xs ((k : Int) + 1).toNat)) (o_c hI (ag_costs hI.1 hI.2.2.2.2.1 (hA _))) fin))
  refine wp_neg c35 ?_
  by_cases c36 : w32 (and32 (xs k) 127) = 35
  · exact wp_pos c36 (arm_i (x10 := fun M => f10_least M) (o_k hI (ag_least hI.1 hI.2.2.2.2.2.2)) fin)
  refine wp_neg c36 ?_
  by_cases c37 : w32 (and32 (xs k) 127) = 36
  · exact wp_pos c37 (wp_pos (by omega) (arm_i (x10 := fun M => f10_plan M (xs ((k : Int) + 1).toNat)) (o_k hI (ag_plan hI.1 hI.2.2.2.2.2.2 (hA _))) fin))
  refine wp_neg c37 ?_
  by_cases c38 : w32 (and32 (xs k) 127) = 37
  · exact wp_pos c38 (arm_l (x10 := fun M => f10_ways M) (o_k64 hI (ag_ways hI.1 hI.2.2.2.2.2.2)) fin)
  refine wp_neg c38 ?_
  by_cases c39 : w32 (and32 (xs k) 127) = 38
  · exact wp_pos c39 (wp_pos (by omega) (arm_i (x10 := fun M => f10_room M (xs ((k : Int) + 1).toNat)) (o_k hI (ag_room hI.1 hI.2.2.2.2.2.2 (hA _))) fin))
  refine wp_neg c39 ?_
  by_cases c40 : w32 (and32 (xs k) 127) = 39
  · exact wp_pos c40 (wp_pos (by omega) (arm_i (x10 := fun M => f10_by M (xs ((k : Int) + 1).toNat)) (o_i hI (ag_by hI.1 (hA _))) fin))
  refine wp_neg c40 ?_
  by_cases c41 : w32 (and32 (xs k) 127) = 40
  · exact wp_pos c41 (arm_i (x10 := fun M => f10_rule M) (o_i hI (ag_rule hI.1)) fin)
  refine wp_neg c41 ?_
  by_cases c42 : w32 (and32 (xs k) 127) = 41
  · exact wp_pos c42 (wp_pos (by omega) (arm_i (x10 := fun M => f10_groan M (xs ((k : Int) + 1).toNat)) (o_i hI (ag_groan hI.1 (hA _))) fin))
  refine wp_neg c42 ?_
  by_cases c43 : w32 (and32 (xs k) 127) = 42
  · exact wp_pos c43 (wp_pos (by omega) (arm_i (x10 := fun M => f10_tempts M (xs ((k : Int) + 1).toNat)) (o_i hI (ag_tempts hI.1 (hA _))) fin))
  refine wp_neg c43 ?_
  by_cases c44 : w32 (and32 (xs k) 127) = 43
  · exact wp_pos c44 (arm_i (x10 := fun M => f10_proof M) (o_i hI (ag_proof hI.1)) fin)
  refine wp_neg c44 ?_
  by_cases c45 : w32 (and32 (xs k) 127) = 44
  · exact wp_pos c45 (arm_i (x10 := fun M => f10_pairs M) (o_b hI (ag_pairs hI.1 hI.2.2.2.2.2.1)) fin)
  refine wp_neg c45 ?_
  by_cases c46 : w32 (and32 (xs k) 127) = 45
  · exact wp_pos c46 (wp_pos (by omega) (arm_i (x10 := fun M => f10_bearer M (xs ((k : Int) + 1).toNat)) (o_b hI (ag_bearer hI.1 hI.2.2.2.2.2.1 (hA _))) fin))
  refine wp_neg c46 ?_
  by_cases c47 : w32 (and32 (xs k) 127) = 46
  · exact wp_pos c47 (wp_pos (by omega) (arm_i (x10 := fun M => f10_kinder M (xs ((k : Int) + 1).toNat)) (o_i hI (ag_kinder hI.1 (hA _))) fin))
  refine wp_neg c47 ?_
  by_cases c48 : w32 (and32 (xs k) 127) = 47
  · exact wp_pos c48 (wp_pos (by omega) (arm_i (x10 := fun M => f10_whose M (xs ((k : Int) + 1).toNat)) (o_i hI (ag_whose hI.1 hI.2.1 (hA _))) fin))
  refine wp_neg c48 ?_
  by_cases c49 : w32 (and32 (xs k) 127) = 48
  · exact wp_pos c49 (wp_pos (by omega) (arm_i (x10 := fun M => f10_fits M (xs ((k : Int) + 1).toNat)) (o_i hI (ag_fits hI.1 hI.2.1 (hA _))) fin))
  refine wp_neg c49 ?_
  by_cases c50 : w32 (and32 (xs k) 127) = 49
  · exact wp_pos c50 (wp_pos (by omega) (arm_i (x10 := fun M => f10_ask M (xs ((k : Int) + 1).toNat)) (o_i hI (ag_ask hI.1 hI.2.1 (hA _))) fin))
  refine wp_neg c50 ?_
  by_cases c51 : w32 (and32 (xs k) 127) = 50
  · exact wp_pos c51 (wp_pos (by omega) (arm_i (x10 := fun M => f10_leaves M (xs ((k : Int) + 1).toNat)) (o_i hI (ag_leaves hI.1 hI.2.1 (hA _))) fin))
  refine wp_neg c51 ?_
  by_cases c52 : w32 (and32 (xs k) 127) = 51
  · exact wp_pos c52 (wp_pos (by omega) (arm_i (x10 := fun M => f10_nightsX M (xs ((k : Int) + 1).toNat)) (o_c hI (ag_nightsX hI.1 hI.2.2.2.2.1 (hA _))) fin))
  refine wp_neg c52 ?_
  by_cases c53 : w32 (and32 (xs k) 127) = 52
  · exact wp_pos c53 (wp_pos (by omega) (arm_i (x10 := fun M => f10_fair M (xs ((k : Int) + 1).toNat)) (o_c hI (ag_fair hI.1 hI.2.1 hI.2.2.2.2.1 (hA _))) fin))
  refine wp_neg c53 ?_
  by_cases c54 : w32 (and32 (xs k) 127) = 53
  · exact wp_pos c54 (wp_pos (by omega) (arm_i (x10 := fun M => f10_leave M (xs ((k : Int) + 1).toNat)) (o_c hI (ag_leave hI.1 hI.2.1 hI.2.2.2.2.1 (hA _))) fin))
  refine wp_neg c54 ?_
  by_cases c55 : w32 (and32 (xs k) 127) = 54
  · exact wp_pos c55 (wp_pos (by omega) (wp_pos (by omega) (arm_i (x10 := fun M => f10_rests M (xs ((k : Int) + 1).toNat) (xs ((k : Int) + 2).toNat)) (o_i hI (ag_rests hI.1 (hA _) (hA _))) fin)))
  refine wp_neg c55 ?_
  by_cases c56 : w32 (and32 (xs k) 127) = 55
  · exact wp_pos c56 (wp_pos (by omega) (wp_pos (by omega) (arm_i (x10 := fun M => f10_rest M (xs ((k : Int) + 1).toNat) (xs ((k : Int) + 2).toNat)) (o_i hI (ag_rest hI.1 (hA _) (hA _))) fin)))
  refine wp_neg c56 ?_
  by_cases c57 : w32 (and32 (xs k) 127) = 56
  · exact wp_pos c57 (wp_pos (by omega) (wp_pos (by omega) (wp_pos (by omega) (wp_pos (by omega) (arm_i (x10 := fun M => f10_holding M (xs ((k : Int) + 1).toNat) (xs ((k : Int) + 2).toNat) (xs ((k : Int) + 3).toNat) (xs ((k : Int) + 4).toNat)) (o_i hI (ag_holding hI.1 (hA _) (hA _) (hA _) (hA _))) fin)))))
  refine wp_neg c57 ?_
  by_cases c58 : w32 (and32 (xs k) 127) = 57
  · exact wp_pos c58 (wp_pos (by omega) (wp_pos (by omega) (arm_w (ag_born hI.1 (hA _) (hA _)) hI fin)))
  refine wp_neg c58 ?_
  by_cases c59 : w32 (and32 (xs k) 127) = 58
  · exact wp_pos c59 (wp_pos (by omega) (arm_l (x10 := fun M => f10_mean M (xs ((k : Int) + 1).toNat)) (o_l hI (ag_mean hI.1 (hA _))) fin))
  refine wp_neg c59 ?_
  by_cases c60 : w32 (and32 (xs k) 127) = 59
  · exact wp_pos c60 (wp_pos (by omega) (arm_i (x10 := fun M => f10_late M (xs ((k : Int) + 1).toNat)) (o_i hI (ag_late hI.1 (hA _))) fin))
  refine wp_neg c60 ?_
  by_cases c61 : w32 (and32 (xs k) 127) = 60
  · exact wp_pos c61 (wp_pos (by omega) (wp_pos (by omega) (arm_i (x10 := fun M => f10_ache M (xs ((k : Int) + 1).toNat) (xs ((k : Int) + 2).toNat)) (o_n hI (ag_ache hI.1 (hA _) (hA _))) fin)))
  refine wp_neg c61 ?_
  by_cases c62 : w32 (and32 (xs k) 127) = 61
  · exact wp_pos c62 (wp_pos (by omega) (wp_pos (by omega) (arm_i (x10 := fun M => f10_comes M (xs ((k : Int) + 1).toNat) (xs ((k : Int) + 2).toNat)) (o_n hI (ag_comes hI.1 (hA _) (hA _))) fin)))
  refine wp_neg c62 ?_
  by_cases c63 : w32 (and32 (xs k) 127) = 62
  · exact wp_pos c63 (arm_i (x10 := fun M => f10_undo M) (o_n hI (ag_undo hI.1)) fin)
  refine wp_neg c63 ?_
  by_cases c64 : w32 (and32 (xs k) 127) = 63
  · exact wp_pos c64 (arm_i (x10 := fun M => f10_anew M) (o_n hI (ag_anew hI.1)) fin)
  refine wp_neg c64 ?_
  by_cases c65 : w32 (and32 (xs k) 127) = 64
  · exact wp_pos c65 (wp_pos (by omega) (wp_pos (by omega) (arm_i (x10 := fun M => f10_drawn M (xs ((k : Int) + 1).toNat) (xs ((k : Int) + 2).toNat)) (o_i hI (ag_drawn hI.1 (hA _) (hA _))) fin)))
  refine wp_neg c65 ?_
  by_cases c66 : w32 (and32 (xs k) 127) = 65
  · exact wp_pos c66 (wp_pos (by omega) (wp_pos (by omega) (wp_pos (by omega) (arm_i (x10 := fun M => f10_luck M (xs ((k : Int) + 1).toNat) (xs ((k : Int) + 2).toNat) (xs ((k : Int) + 3).toNat)) (o_i hI (ag_luck hI.1 (hA _) (hA _) (hA _))) fin))))
  refine wp_neg c66 ?_
  by_cases c67 : w32 (and32 (xs k) 127) = 66
  · exact wp_pos c67 (wp_pos (by omega) (arm_i (x10 := fun M => f10_widen M (xs ((k : Int) + 1).toNat)) (o_n hI (ag_widen hI.1 (hA _))) fin))
  refine wp_neg c67 ?_
  by_cases c68 : w32 (and32 (xs k) 127) = 67
  · exact wp_pos c68 (wp_pos (by omega) (arm_v (ag_count hI.1 hI.2.1 hI.2.2.1.1.1 (hA _)) hI fin))
  refine wp_neg c68 ?_
  by_cases c69 : w32 (and32 (xs k) 127) = 68
  · exact wp_pos c69 (wp_pos (by omega) (arm_i (x10 := fun M => f10_image M (xs ((k : Int) + 1).toNat)) (o_im (x10 := fun M => f10_image M (xs ((k : Int) + 1).toNat)) hI (ag_image hI.1 hI.2.2.2.1 (hA _))) fin))
  refine wp_neg c69 ?_
  by_cases c70 : w32 (and32 (xs k) 127) = 69
  · exact wp_pos c70 (wp_pos (by omega) (arm_i (x10 := fun M => f10_back M (xs ((k : Int) + 1).toNat)) (o_n hI (ag_back hI.1 hI.2.2.2.1 (hA _))) fin))
  refine wp_neg c70 ?_
  by_cases c71 : w32 (and32 (xs k) 127) = 70
  · exact wp_pos c71 (wp_pos (by omega) (wp_pos (by omega) (wp_pos (by omega) (arm_i (x10 := fun M => f10_row M (xs ((k : Int) + 1).toNat) (xs ((k : Int) + 2).toNat) (xs ((k : Int) + 3).toNat)) (o_s hI (ag_row hI.2.1 (hA _) (hA _) (hA _))) fin))))
  refine wp_neg c71 ?_
  by_cases c72 : w32 (and32 (xs k) 127) = 71
  · exact wp_pos c72 (wp_pos (by omega) (wp_pos (by omega) (wp_pos (by omega) (wp_pos (by omega) (arm_i (x10 := fun M => f10_write M (xs ((k : Int) + 1).toNat) (xs ((k : Int) + 2).toNat) (or64 (shl64 (w32 (xs ((k : Int) + 3).toNat)) 32) (and64 (w32 (xs ((k : Int) + 4).toNat)) 4294967295))) (o_s hI (ag_write hI.2.1 (hA _) (hA _) (or64_bd _ _))) fin)))))
  refine wp_neg c72 ?_
  by_cases c73 : w32 (and32 (xs k) 127) = 72
  · exact wp_pos c73 (wp_pos (by omega) (wp_pos (by omega) (wp_pos (by omega) (wp_pos (by omega) (wp_pos (by omega) (arm_i (x10 := fun M => f10_paste M (xs ((k : Int) + 1).toNat) (xs ((k : Int) + 2).toNat) (xs ((k : Int) + 3).toNat) (xs ((k : Int) + 4).toNat) (xs ((k : Int) + 5).toNat)) (o_s hI (ag_paste hI.2.1 (hA _) (hA _) (hA _) (hA _) (hA _))) fin))))))
  refine wp_neg c73 ?_
  exact wpo_of (fin S hI)
theorem left_holds : LEFT := by
  intro L xs hL hx
  refine wpo_mono (sp_changed (D := D0c) (W := fun _ => 0) WL.zero.2.2.1 D0_pr) ?_
  rintro a ⟨c1, c2, c3, c4, c5⟩
  refine ⟨⟨fun k hk j => ⟨if_neg (by omega), ?_⟩, fun k j hj => ?_⟩, law_holds hL (fun j => ?_) (Inv.start c1 c2 c3 c4 c5)⟩
  · rw [c1 k j (by omega) (by omega)]
    unfold D0c
    rw [ms_ne (by omega), ms_ne (by omega)]
  · unfold rhoX
    split
    · exact rt_far hj
    · rfl
  · have := w32_bd (xs j)
    rw [hx j] at this
    exact this
