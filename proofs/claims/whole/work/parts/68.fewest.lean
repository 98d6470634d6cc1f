/-! THE FEWEST NIGHTS OF ROOM: the class's step (by hand) -/
theorem and_all {q i : Nat} (hq : q < 256) (hi : i < 8) : w32 (and32 (q : Int) ((1 <<< i : Nat) : Int)) = 0 ↔ q.testBit i = false := by
  have h1 : 1 <<< i < 2147483648 := by
    rw [Nat.one_shiftLeft]
    exact Nat.lt_of_lt_of_le (Nat.pow_lt_pow_right (by decide) hi) (by decide)
  have hle : q &&& (1 <<< i) ≤ q := Nat.and_le_left
  rw [and32_nat (by omega) h1, w32_id (by omega)]
  constructor
  · intro h
    have h0 : q &&& (1 <<< i) = 0 := by omega
    have h2 : (q &&& (1 <<< i)).testBit i = false := by rw [h0, Nat.zero_testBit]
    rw [Nat.testBit_and, bit1, decide_eq_true rfl, Bool.and_true] at h2
    exact h2
  · intro h
    have h0 : q &&& (1 <<< i) = 0 := by
      apply Nat.eq_of_testBit_eq
      intro j
      rw [Nat.zero_testBit, Nat.testBit_and, bit1]
      by_cases hj : j = i
      · rw [hj, h]
        rfl
      · rw [decide_eq_false hj, Bool.and_false]
    rw [h0]
    rfl
/-- the best of the parts above q that hold the lowest one -/
def FI (A : Nat → Int) (P : Nat) (R : Int) (s i : Nat) (C : Nat → Int) (q : Nat) (v : Int) : Prop := (v = -1 ∧ ∀ r, Fit A P R r s → q < r → r.testBit i = false) ∨ ((∃ r, Fit A P R r s ∧ r.testBit i = true ∧ v = 1 + C (s ^^^ r)) ∧ ∀ r, Fit A P R r s → q < r → r.testBit i = true → v ≤ 1 + C (s ^^^ r))
theorem FI.zero {A : Nat → Int} {P : Nat} {R : Int} {s i : Nat} {C : Nat → Int} {v : Int} (h : FI A P R s i C 0 v) : (v = -1 ∧ ∀ q, Fit A P R q s → q.testBit i = false) ∨ ((∃ q, Fit A P R q s ∧ q.testBit i = true ∧ v = 1 + C (s ^^^ q)) ∧ ∀ q, Fit A P R q s → q.testBit i = true → v ≤ 1 + C (s ^^^ q)) := by
  rcases h with ⟨a1, a2⟩ | ⟨a1, a2⟩
  · exact Or.inl ⟨a1, fun r hr => a2 r hr (Nat.pos_of_ne_zero hr.1)⟩
  · exact Or.inr ⟨a1, fun r hr hri => a2 r hr (Nat.pos_of_ne_zero hr.1) hri⟩
theorem FI.start {A : Nat → Int} {P : Nat} {R : Int} {s i : Nat} {C : Nat → Int} : FI A P R s i C s (-1) := Or.inl ⟨rfl, fun r hr hl => absurd hr.2.1.le (by omega)⟩
theorem sub_step {q r s : Nat} (h8 : q < 256) (hq : Sub q s) (hr : Sub r s) (hl : (q - 1) &&& s < r) : r = q ∨ q < r := by
  rcases Nat.lt_trichotomy r q with h | h | h
  · have := sub_next 8 q r s h8 hq hr h
    omega
  · exact Or.inl h
  · exact Or.inr h
theorem FI.skip {A : Nat → Int} {P : Nat} {R : Int} {s i : Nat} {C : Nat → Int} {q : Nat} {v : Int} (h : FI A P R s i C q v) (h8 : q < 256) (hq : Sub q s) (hno : ¬ (Fit A P R q s ∧ q.testBit i = true)) : FI A P R s i C ((q - 1) &&& s) v := by
  rcases h with ⟨a1, a2⟩ | ⟨a1, a2⟩
  · refine Or.inl ⟨a1, fun r hr hl => ?_⟩
    rcases sub_step h8 hq hr.2.1 hl with h | h
    · rw [h] at hr ⊢
      cases hri : q.testBit i with
      | false => rfl
      | true => exact absurd ⟨hr, hri⟩ hno
    · exact a2 r hr h
  · refine Or.inr ⟨a1, fun r hr hl hri => ?_⟩
    rcases sub_step h8 hq hr.2.1 hl with h | h
    · rw [h] at hr hri
      exact absurd ⟨hr, hri⟩ hno
    · exact a2 r hr h hri
theorem FI.take {A : Nat → Int} {P : Nat} {R : Int} {s i : Nat} {C : Nat → Int} {q : Nat} {v : Int} (h : FI A P R s i C q v) (h8 : q < 256) (hq : Sub q s) (hf : Fit A P R q s) (hi : q.testBit i = true) (hb : ∀ r, r < s → -1 ≤ C r) : FI A P R s i C ((q - 1) &&& s) (if v = -1 then 1 + C (s ^^^ q) else min v (1 + C (s ^^^ q))) := by
  rcases h with ⟨a1, a2⟩ | ⟨⟨r0, b1, b2, b3⟩, a2⟩
  · rw [if_pos a1]
    refine Or.inr ⟨⟨q, hf, hi, rfl⟩, fun r hr hl hri => ?_⟩
    rcases sub_step h8 hq hr.2.1 hl with h | h
    · rw [h]
      exact Int.le_refl _
    · rw [a2 r hr h] at hri
      cases hri
  · have hb0 := hb _ (xor_lt b1.2.1 b1.1)
    rw [if_neg (by omega)]
    refine Or.inr ⟨?_, fun r hr hl hri => ?_⟩
    · by_cases cm : v ≤ 1 + C (s ^^^ q)
      · exact ⟨r0, b1, b2, by omega⟩
      · exact ⟨q, hf, hi, by omega⟩
    · rcases sub_step h8 hq hr.2.1 hl with h | h
      · rw [h]
        omega
      · have := a2 r hr h hri
        omega
