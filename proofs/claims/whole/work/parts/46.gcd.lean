/-! EUCLID'S WAY (by hand) -/
def Euc (g m a b : Nat) : Prop := Nat.gcd a b = g ∧ a < 9223372036854775808 ∧ b < 1099511627776 ∧ ((b ≤ a ∧ a * b < 2 ^ m) ∨ m = 81)
theorem Euc.step {g m a b : Nat} (h : Euc g m a b) (hb : 0 < b) : ∃ m', m' + 1 = m ∧ Euc g m' b (a % b) := by
  obtain ⟨h1, h2, h3, h4⟩ := h
  have hr : a % b < b := Nat.mod_lt _ hb
  have hg : Nat.gcd b (a % b) = g := by
    rw [← h1, Nat.gcd_comm a b, Nat.gcd_rec b a, Nat.gcd_comm]
  have h80 : b * (a % b) < 2 ^ 80 := by
    have : b * (a % b) ≤ 1099511627776 * 1099511627775 := Nat.mul_le_mul (by omega) (by omega)
    exact Nat.lt_of_le_of_lt this (by decide)
  rcases h4 with ⟨k1, k2⟩ | k
  · cases m with
    | zero =>
      have : 0 < a * b := Nat.mul_pos (by omega) hb
      omega
    | succ m =>
      refine ⟨m, rfl, hg, by omega, by omega, Or.inl ⟨Nat.le_of_lt hr, ?_⟩⟩
      have hd := Nat.div_add_mod a b
      have hq : 1 ≤ a / b := Nat.div_pos k1 hb
      have hbq : b * 1 ≤ b * (a / b) := Nat.mul_le_mul_left b hq
      have h2r : 2 * (a % b) ≤ a := by omega
      have h5 : b * (2 * (a % b)) ≤ b * a := Nat.mul_le_mul_left b h2r
      have h6 : b * (2 * (a % b)) = 2 * (b * (a % b)) := by rw [Nat.mul_left_comm]
      have h7 : b * a = a * b := Nat.mul_comm b a
      rw [Nat.pow_succ] at k2
      omega
  · exact ⟨80, by omega, hg, by omega, by omega, Or.inl ⟨Nat.le_of_lt hr, h80⟩⟩
theorem sp_divisor {D : Mem} {a b : Nat} (ha : a < 9223372036854775808) (hb : b < 1099511627776) : f10_divisor D (a : Int) (b : Int) = some ((Nat.gcd a b : Nat) : Int) := by
  refine wp_is ?_
  unfold f10_divisor
  refine wp_bind.mpr ?_
  simp only [wp_some]
  refine wp_loopm (I := fun m s => ∃ x y : Nat, s = ((x : Int), (y : Int)) ∧ Euc (Nat.gcd a b) m x y) ?_ FU 81 _ ⟨a, b, rfl, rfl, ha, hb, Or.inr rfl⟩ (by decide)
  rintro m s ⟨x, y, rfl, h⟩
  dsimp only
  have hx := h.2.1
  have hy := h.2.2.1
  have wy : w64 (y : Int) = y := w64_id (by omega)
  have w0 : w64 0 = 0 := by decide
  by_cases c : y = 0
  · refine wp_pos (by rw [wy, w0, c]; rfl) (wpo_of ?_)
    have := h.1
    rw [c, Nat.gcd_zero_right] at this
    rw [this]
  · refine wp_neg (by rw [wy, w0]; omega) (wp_pos (by rw [wy]; omega) (wp_then rfl (wpo_of ?_)))
    obtain ⟨m', e, h'⟩ := h.step (by omega)
    refine ⟨m', by omega, y, x % y, ?_, h'⟩
    rw [rem64_id (by omega) (by omega)]
    rfl
theorem sp_commonDivisor {D : Mem} {a b : Nat} (ha : a < 9223372036854775808) (hb : b < 1099511627776) : f9_commonDivisor D (a : Int) (b : Int) = some ((Nat.gcd a b : Nat) : Int) := by
  refine wp_is ?_
  unfold f9_commonDivisor
  refine wp_bind.mpr ?_
  simp only [wp_some]
  refine wp_loopm (I := fun m s => ∃ x y k : Nat, s = ((x : Int), (y : Int), (k : Int)) ∧ k + m = 81 ∧ Euc (Nat.gcd a b) m x y) ?_ FU 81 _ ⟨a, b, 0, rfl, rfl, rfl, ha, hb, Or.inr rfl⟩ (by decide)
  rintro m s ⟨x, y, k, rfl, hk, h⟩
  dsimp only
  have hx := h.2.1
  have hy := h.2.2.1
  have wy : w64 (y : Int) = y := w64_id (by omega)
  have w0 : w64 0 = 0 := by decide
  refine wp_pos ((lt32 (by omega) (by omega)).mpr (by omega)) ?_
  by_cases c : y = 0
  · refine wp_pos (by rw [wy, w0, c]; rfl) (wpo_of ?_)
    have := h.1
    rw [c, Nat.gcd_zero_right] at this
    rw [this]
  · refine wp_neg (by rw [wy, w0]; omega) (wp_pos (by rw [wy]; omega) (wp_then rfl (wpo_of ?_)))
    obtain ⟨m', e, h'⟩ := h.step (by omega)
    refine ⟨m', by omega, y, x % y, k + 1, ?_, by omega, h'⟩
    rw [rem64_id (by omega) (by omega)]
    rfl
/-- both tell the same part of a fraction, if what is below isn't 0 -/
theorem ag_part {D M : Mem} {a b : Nat} {w : Int} (ha : a < 9223372036854775808) (hb : b < 1099511627776) (hb0 : 0 < b) : ∃ v : Int, f9_inLowestTerms D (a : Int) (b : Int) w = some v ∧ f10_part M (a : Int) (b : Int) w = some v := by
  have hg : 0 < Nat.gcd a b := Nat.gcd_pos_of_pos_right _ hb0
  have hgb : Nat.gcd a b ≤ b := Nat.gcd_le_right _ hb0
  have wg : w64 ((Nat.gcd a b : Nat) : Int) = ((Nat.gcd a b : Nat) : Int) := w64_id (by omega)
  have w0 : w64 0 = 0 := by decide
  refine ⟨div64 (if w32 w = 0 then (a : Int) else (b : Int)) ((Nat.gcd a b : Nat) : Int), wp_is ?_, wp_is ?_⟩
  · unfold f9_inLowestTerms
    refine wp_then (sp_commonDivisor ha hb) ?_
    refine wp_then (a := if w32 w = 0 then (a : Int) else (b : Int)) (by split <;> rfl) ?_
    exact wp_neg (by rw [wg, w0]; omega) (wp_pos (by rw [wg]; omega) (wpo_of rfl))
  · unfold f10_part
    refine wp_then (a := if w32 w = 0 then (a : Int) else (b : Int)) (by split <;> rfl) ?_
    refine wp_then (sp_divisor ha hb) ?_
    exact wp_pos (by rw [wg]; omega) (wpo_of rfl)
