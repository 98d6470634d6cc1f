/-! BORN (by hand) -/
theorem sp_power {D : Mem} {q n : Nat} (hn : n ≤ 900) : f10_power D (q : Int) (n : Int) = some ((q ^ n : Nat) : Int) := by
  refine wp_is ?_
  unfold f10_power
  refine wp_bind.mpr ?_
  simp only [wp_some]
  refine wp_for (I := fun k s => s = (((q ^ k : Nat) : Int), (k : Int))) n ?_ ?_ FU 0 _ rfl (Nat.zero_le _) (by unfold FU; omega)
  · rintro k s hk rfl
    dsimp only
    refine wp_pos ((lt32 (by omega) (by omega)).mpr (by omega)) (wpo_of ?_)
    show (_, _) = (_, _)
    rw [Nat.pow_succ, Int.natCast_mul]
    rfl
  · rintro s rfl
    dsimp only
    exact wp_neg (fun z => absurd ((lt32 (by omega) (by omega)).mp z) (by omega)) (wpo_of rfl)
theorem pow12 {n : Nat} (hn : n ≤ 12) : 10 ^ n ≤ 1000000000000 := by
  have : 10 ^ n ≤ 10 ^ 12 := Nat.pow_le_pow_right (by decide) hn
  omega
theorem ag_born {D : Mem} {x y : Int} (hI : IC D) (hx : A32 x) (hy : A32 y) : ∃ v : Int, f9_born D x y = some v ∧ f10_born D x y = some v := by
  have hb := hI.1.bd
  have e1 := hI.e1
  have e7 : D 12 7 = D 118 6 := hI.2.1.1.2.2.2.2.2.2.2.1
  have hx' := hx
  unfold A32 at hx'
  have wx : w32 x = x := w32_id hx'
  have hnC := sp_isNightC (D := D) (x := x) (by omega) hx
  have hnM := sp_isNightM (D := D) (x := x) (by omega) (by omega)
  rw [e1] at hnC
  by_cases c : 0 ≤ x ∧ x < D 118 0
  · by_cases cy : 0 ≤ y ∧ y ≤ 1
    · obtain ⟨n, rfl⟩ : ∃ n : Nat, x = (n : Int) := ⟨x.toNat, by omega⟩
      obtain ⟨q, hq⟩ : ∃ q : Nat, 10 - D 118 6 = (q : Int) := ⟨(10 - D 118 6).toNat, by omega⟩
      have hq10 : q ≤ 10 := by omega
      have hp1 := pow12 (n := n + 1) (by omega)
      have hle : q ^ (n + 1) ≤ 10 ^ (n + 1) := Nat.pow_le_pow_left hq10 _
      have hpos : 0 < 10 ^ (n + 1) := Nat.pow_pos (by decide)
      have wq : w32 (10 - D 118 6) = (q : Int) := by rw [hq]; exact w32_id (by omega)
      obtain ⟨v, v1, v2⟩ := ag_part (D := D) (M := D) (a := 10 ^ (n + 1) - q ^ (n + 1)) (b := 10 ^ (n + 1)) (w := y) (by omega) (by omega) hpos
      have es : ((10 ^ (n + 1) - q ^ (n + 1) : Nat) : Int) = ((10 ^ (n + 1) : Nat) : Int) - ((q ^ (n + 1) : Nat) : Int) := Int.ofNat_sub hle
      rw [es] at v1 v2
      refine ⟨v, wp_is ?_, wp_is ?_⟩
      · unfold f9_born
        refine wp_then hnC (wp_neg (by rw [if_pos c]; decide) (wp_then (sp_isPart hy) (wp_neg (by rw [if_pos cy]; decide) ?_)))
        refine wp_bind.mpr (wpo_mono (P := fun r => r = (((10 ^ (n + 1) : Nat) : Int), ((q ^ (n + 1) : Nat) : Int))) ?_ ?_)
        · refine wp_for (I := fun k s => s = (((10 ^ k : Nat) : Int), ((q ^ k : Nat) : Int), (k : Int))) (n + 1) ?_ ?_ FU 0 _ rfl (Nat.zero_le _) (by unfold FU; omega)
          · rintro k s hk rfl
            dsimp only
            refine wp_neg (fun z => absurd ((lt32 (by omega) (by omega)).mp z) (by omega)) (wp_then rfl (wpo_of ?_))
            rw [e7, wq]
            show (_, _, _) = (_, _, _)
            rw [Nat.pow_succ, Nat.pow_succ, Int.natCast_mul, Int.natCast_mul]
            rfl
          · rintro s rfl
            dsimp only
            exact wp_pos ((lt32 (by omega) (by omega)).mpr (by omega)) (wpo_of rfl)
        · rintro r rfl
          exact wp_then v1 (wpo_of rfl)
      · unfold f10_born
        rw [wx]
        refine wp_then hnM (wp_neg (by rw [if_pos c]; decide) (wp_then (sp_isPartM hy) (wp_neg (by rw [if_pos cy]; decide) ?_)))
        have t1 : f10_power D 10 ((n : Int) + 1) = some ((10 ^ (n + 1) : Nat) : Int) := sp_power (q := 10) (n := n + 1) (by omega)
        have t2 : f10_power D (w32 (10 - D 118 6)) ((n : Int) + 1) = some ((q ^ (n + 1) : Nat) : Int) := by
          rw [wq]
          exact sp_power (q := q) (n := n + 1) (by omega)
        exact wp_then t1 (wp_then t2 (wp_then v2 (wpo_of rfl)))
    · refine ⟨-2, wp_is ?_, wp_is ?_⟩
      · unfold f9_born
        exact wp_then hnC (wp_neg (by rw [if_pos c]; decide) (wp_then (sp_isPart hy) (wp_pos (by rw [if_neg cy]; decide) (wpo_of rfl))))
      · unfold f10_born
        rw [wx]
        exact wp_then hnM (wp_neg (by rw [if_pos c]; decide) (wp_then (sp_isPartM hy) (wp_pos (by rw [if_neg cy]; decide) (wpo_of rfl))))
  · refine ⟨-2, wp_is ?_, wp_is ?_⟩
    · unfold f9_born
      exact wp_then hnC (wp_pos (by rw [if_neg c]; decide) (wpo_of rfl))
    · unfold f10_born
      rw [wx]
      exact wp_then hnM (wp_pos (by rw [if_neg c]; decide) (wpo_of rfl))
