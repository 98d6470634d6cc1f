/-! ARITHMETIC in bounds, rows filled (by hand) -/
theorem min32_id {x y : Int} (hx : -2147483648 ≤ x ∧ x < 2147483648) (hy : -2147483648 ≤ y ∧ y < 2147483648) : min32 x y = min x y := by
  unfold min32
  rw [w32_id hx, w32_id hy]
  split <;> omega
theorem max32_id {x y : Int} (hx : -2147483648 ≤ x ∧ x < 2147483648) (hy : -2147483648 ≤ y ∧ y < 2147483648) : max32 x y = max x y := by
  unfold max32
  rw [w32_id hx, w32_id hy]
  split <;> omega
theorem bmod32 {x : Int} (h : -2147483648 ≤ x ∧ x < 2147483648) : x.bmod 4294967296 = x := by
  rw [Int.bmod_def]
  omega
theorem bmod64 {x : Int} (h : -9223372036854775808 ≤ x ∧ x < 9223372036854775808) : x.bmod 18446744073709551616 = x := by
  rw [Int.bmod_def]
  omega
theorem div32_id {x y : Int} (hx : 0 ≤ x ∧ x < 2147483648) (hy : 0 < y ∧ y < 2147483648) : div32 x y = x / y := by
  have e1 : (Int32.ofInt x).toInt = x := w32_id (by omega)
  have e2 : (Int32.ofInt y).toInt = y := w32_id (by omega)
  have hq : 0 ≤ x / y := Int.ediv_nonneg hx.1 (by omega)
  have hq2 : x / y ≤ x := Int.ediv_le_self y hx.1
  rw [div32, Int32.toInt_div, e1, e2, Int.tdiv_eq_ediv_of_nonneg hx.1]
  exact bmod32 (by omega)
theorem rem32_id {x y : Int} (hx : 0 ≤ x ∧ x < 2147483648) (hy : 0 < y ∧ y < 2147483648) : rem32 x y = x % y := by
  have hq := div32_id hx hy
  have hq0 : 0 ≤ x / y := Int.ediv_nonneg hx.1 (by omega)
  have hq2 : x / y ≤ x := Int.ediv_le_self y hx.1
  have e : Int32.ofInt x / Int32.ofInt y = Int32.ofInt (x / y) := by
    rw [← hq, div32, Int32.ofInt_toInt]
  rw [rem32, e, ← Int32.ofInt_mul, ← Int32.ofInt_sub]
  have h1 := Int.emod_add_mul_ediv x y
  have h3 : x - x / y * y = x % y := by
    rw [Int.mul_comm]
    omega
  rw [h3]
  have h4 := Int.emod_nonneg x (show y ≠ 0 by omega)
  have h5 := Int.emod_lt_of_pos x hy.1
  exact w32_id (by omega)
theorem div64_id {x y : Int} (hx : 0 ≤ x ∧ x < 9223372036854775808) (hy : 0 < y ∧ y < 9223372036854775808) : div64 x y = x / y := by
  have e1 : (Int64.ofInt x).toInt = x := w64_id (by omega)
  have e2 : (Int64.ofInt y).toInt = y := w64_id (by omega)
  have hq : 0 ≤ x / y := Int.ediv_nonneg hx.1 (by omega)
  have hq2 : x / y ≤ x := Int.ediv_le_self y hx.1
  rw [div64, Int64.toInt_div, e1, e2, Int.tdiv_eq_ediv_of_nonneg hx.1]
  exact bmod64 (by omega)
theorem rem64_id {x y : Int} (hx : 0 ≤ x ∧ x < 9223372036854775808) (hy : 0 < y ∧ y < 9223372036854775808) : rem64 x y = x % y := by
  have hq := div64_id hx hy
  have hq0 : 0 ≤ x / y := Int.ediv_nonneg hx.1 (by omega)
  have hq2 : x / y ≤ x := Int.ediv_le_self y hx.1
  have e : Int64.ofInt x / Int64.ofInt y = Int64.ofInt (x / y) := by
    rw [← hq, div64, Int64.ofInt_toInt]
  rw [rem64, e, ← Int64.ofInt_mul, ← Int64.ofInt_sub]
  have h1 := Int.emod_add_mul_ediv x y
  have h3 : x - x / y * y = x % y := by
    rw [Int.mul_comm]
    omega
  rw [h3]
  have h4 := Int.emod_nonneg x (show y ≠ 0 by omega)
  have h5 := Int.emod_lt_of_pos x hy.1
  exact w64_id (by omega)
/-- the first n places of a row set -/
def mfill (D : Mem) (c n : Nat) (v : Int) : Mem := fun c' i => if c' = c ∧ i < n then v else D c' i
theorem mfill_succ {D : Mem} {c n : Nat} {v : Int} : mset (mfill D c n v) c n v = mfill D c (n + 1) v := by
  funext c' i
  simp only [mset, mfill]
  by_cases h1 : c' = c
  · subst h1
    by_cases h2 : i = n
    · subst h2
      simp
    · simp only [true_and, h2, if_false]
      by_cases h3 : i < n
      · rw [if_pos h3, if_pos (Nat.lt_succ_of_lt h3)]
      · rw [if_neg h3, if_neg (by omega)]
  · simp [h1]
theorem mfill_zero {D : Mem} {c : Nat} {v : Int} : mfill D c 0 v = D := by
  funext c' i
  simp [mfill]
theorem mf_same {D : Mem} {c n i : Nat} {v : Int} (h : i < n) : mfill D c n v c i = v := by simp [mfill, h]
theorem mf_ne {D : Mem} {c n c' i : Nat} {v : Int} (h : c' ≠ c) : mfill D c n v c' i = D c' i := by simp [mfill, h]
theorem sp_fillI {D : Mem} {c n : Nat} {v : Int} (hn : n ≤ 900) : f12_fillI D c n v = some (mfill D c n v) := by
  refine wp_is ?_
  unfold f12_fillI
  refine wp_bind.mpr ?_
  simp only [wp_some]
  refine wp_for (I := fun k s => s = ((k : Int), mfill D c k v)) n ?_ ?_ FU 0 _ (by rw [mfill_zero]; rfl) (Nat.zero_le _) (by unfold FU; omega)
  · rintro k s hk rfl
    dsimp only
    rw [if_pos ((lt32 (by omega) (by omega)).mpr (by omega)), if_pos (by omega)]
    refine wpo_of ?_
    show ((k : Int) + 1, _) = (((k + 1 : Nat) : Int), _)
    rw [Int.toNat_natCast, mfill_succ]
    rfl
  · rintro s rfl
    dsimp only
    rw [if_neg (fun h => absurd ((lt32 (by omega) (by omega)).mp h) (by omega))]
    exact wpo_of rfl
theorem sp_fillJ {D : Mem} {c n : Nat} {v : Int} (hn : n ≤ 900) : f12_fillJ D c n v = some (mfill D c n v) := sp_fillI hn
