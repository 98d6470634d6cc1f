/-! SETS AS NUMBERS (by hand) -/
def Sub (q s : Nat) : Prop := ∀ i, q.testBit i = true → s.testBit i = true
theorem Sub.and {q s : Nat} (h : Sub q s) : q &&& s = q := by
  apply Nat.eq_of_testBit_eq
  intro i
  rw [Nat.testBit_and]
  cases hq : q.testBit i with
  | false => rfl
  | true => rw [h i hq]; rfl
theorem Sub.of {q s : Nat} (h : q &&& s = q) : Sub q s := fun i hi => by
  rw [← h, Nat.testBit_and] at hi
  cases hs : s.testBit i with
  | true => rfl
  | false => rw [hs, Bool.and_false] at hi; exact hi
theorem Sub.le {q s : Nat} (h : Sub q s) : q ≤ s := by
  rw [← h.and]
  exact Nat.and_le_right
theorem Sub.rf {s : Nat} : Sub s s := fun _ h => h
theorem Sub.tr {p q s : Nat} (h : Sub p q) (h' : Sub q s) : Sub p s := fun i hi => h' i (h i hi)
theorem sub_zero {s : Nat} : Sub 0 s := fun i hi => by rw [Nat.zero_testBit] at hi; cases hi
theorem sub_and {p s : Nat} : Sub (p &&& s) s := fun i hi => by
  rw [Nat.testBit_and] at hi
  cases hs : s.testBit i with
  | true => rfl
  | false => rw [hs, Bool.and_false] at hi; exact hi
theorem and_half (a b : Nat) : a &&& b = 2 * ((a / 2) &&& (b / 2)) + (if a % 2 = 1 ∧ b % 2 = 1 then 1 else 0) := by
  apply Nat.eq_of_testBit_eq
  intro i
  rw [Nat.testBit_and]
  cases i with
  | zero =>
    rw [Nat.testBit_zero, Nat.testBit_zero, Nat.testBit_zero]
    have e0 : ¬ (2 * ((a / 2) &&& (b / 2)) + 0) % 2 = 1 := by omega
    by_cases h1 : a % 2 = 1
    · by_cases h2 : b % 2 = 1
      · rw [if_pos ⟨h1, h2⟩, decide_eq_true h1, decide_eq_true h2, decide_eq_true (by omega)]
        rfl
      · rw [if_neg (fun z => h2 z.2), decide_eq_false h2, decide_eq_false e0, Bool.and_false]
    · rw [if_neg (fun z => h1 z.1), decide_eq_false h1, decide_eq_false e0, Bool.false_and]
  | succ i =>
    rw [Nat.testBit_succ, Nat.testBit_succ, Nat.testBit_succ]
    have e : (2 * ((a / 2) &&& (b / 2)) + (if a % 2 = 1 ∧ b % 2 = 1 then 1 else 0)) / 2 = (a / 2) &&& (b / 2) := by
      split <;> omega
    rw [e, Nat.testBit_and]
theorem Sub.half {q s : Nat} (h : Sub q s) : Sub (q / 2) (s / 2) := fun i hi => by
  rw [← Nat.testBit_succ] at hi ⊢
  exact h _ hi
theorem Sub.odd {q s : Nat} (h : Sub q s) (hq : q % 2 = 1) : s % 2 = 1 := by
  have := h 0 (by rw [Nat.testBit_zero]; exact decide_eq_true hq)
  rw [Nat.testBit_zero] at this
  exact of_decide_eq_true this
/-- behind p comes the greatest set inside s that is less -/
theorem sub_next : ∀ (n p q s : Nat), p < 2 ^ n → Sub p s → Sub q s → q < p → q ≤ (p - 1) &&& s := by
  intro n
  induction n with
  | zero => intro p q s h _ _ h'; rw [Nat.pow_zero] at h; omega
  | succ n ih =>
    intro p q s h hp hq hl
    rw [Nat.pow_succ] at h
    rw [and_half (p - 1) s]
    by_cases hb : p % 2 = 1
    · have e : (p - 1) / 2 = p / 2 := by omega
      rw [e, hp.half.and]
      have e2 : (if (p - 1) % 2 = 1 ∧ s % 2 = 1 then 1 else 0) = 0 := by rw [if_neg (by omega)]
      rw [e2]
      omega
    · have e : (p - 1) / 2 = p / 2 - 1 := by omega
      have h1 := ih (p / 2) (q / 2) (s / 2) (by omega) hp.half hq.half (by omega)
      rw [e]
      by_cases hs : s % 2 = 1
      · rw [if_pos ⟨by omega, hs⟩]
        omega
      · have : ¬ q % 2 = 1 := fun z => hs (hq.odd z)
        rw [if_neg (fun z => hs z.2)]
        omega
theorem xor_bit {q s : Nat} (h : Sub q s) (i : Nat) : (s ^^^ q).testBit i = (s.testBit i && !q.testBit i) := by
  rw [Nat.testBit_xor]
  cases hq : q.testBit i with
  | false => simp
  | true => rw [h i hq]; rfl
theorem xor_sub {q s : Nat} (h : Sub q s) : Sub (s ^^^ q) s := fun i hi => by
  rw [xor_bit h] at hi
  cases hs : s.testBit i with
  | true => rfl
  | false => rw [hs, Bool.false_and] at hi; exact hi
theorem xor_lt {q s : Nat} (h : Sub q s) (hq : q ≠ 0) : s ^^^ q < s := by
  have h1 := (xor_sub h).le
  have h2 : s ^^^ q ≠ s := by
    intro e
    have : q = 0 := by
      apply Nat.eq_of_testBit_eq
      intro i
      rw [Nat.zero_testBit]
      cases hi : q.testBit i with
      | false => rfl
      | true =>
        have := xor_bit h i
        rw [e, h i hi, hi] at this
        cases this
    exact hq this
  omega
/-- the reference's way to take a set out of a greater one -/
theorem diff_nat {q s : Nat} (h : Sub q s) (hs : s < 2147483648) : and32 (s : Int) (xor32 (q : Int) (-1)) = ((s ^^^ q : Nat) : Int) := by
  have hq := h.le
  rw [andn32_nat hs (by omega)]
  congr 1
  apply Nat.eq_of_testBit_eq
  intro i
  have e : (2147483647 : Nat) = 2 ^ 31 - 1 := rfl
  rw [xor_bit h, Nat.testBit_and, Nat.testBit_xor, e, Nat.testBit_two_pow_sub_one]
  by_cases hi : i < 31
  · simp [hi]
  · have : s.testBit i = false := Nat.testBit_lt_two_pow (Nat.lt_of_lt_of_le hs (Nat.pow_le_pow_right (n := 2) (i := 31) (by decide) (by omega)))
    simp [this]
theorem sub_nat {q s : Nat} (hq : q < 2147483648) (hs : s < 2147483648) : and32 (q : Int) (xor32 (s : Int) (-1)) = 0 ↔ Sub q s := by
  rw [andn32_nat hq hs]
  have e : (2147483647 : Nat) = 2 ^ 31 - 1 := rfl
  constructor
  · intro h i hi
    have h0 : q &&& (s ^^^ 2147483647) = 0 := by omega
    have h1 : (q &&& (s ^^^ 2147483647)).testBit i = false := by rw [h0, Nat.zero_testBit]
    rw [Nat.testBit_and, Nat.testBit_xor, e, Nat.testBit_two_pow_sub_one, hi, Bool.true_and] at h1
    have hi31 : i < 31 := by
      by_cases c : i < 31
      · exact c
      · have : q.testBit i = false := Nat.testBit_lt_two_pow (Nat.lt_of_lt_of_le hq (Nat.pow_le_pow_right (n := 2) (i := 31) (by decide) (by omega)))
        rw [this] at hi
        cases hi
    cases hsb : s.testBit i with
    | true => rfl
    | false => simp [hsb, hi31] at h1
  · intro h
    have h0 : q &&& (s ^^^ 2147483647) = 0 := by
      apply Nat.eq_of_testBit_eq
      intro i
      rw [Nat.zero_testBit, Nat.testBit_and, Nat.testBit_xor, e, Nat.testBit_two_pow_sub_one]
      cases hq' : q.testBit i with
      | false => rfl
      | true =>
        have hi31 : i < 31 := by
          by_cases c : i < 31
          · exact c
          · have : q.testBit i = false := Nat.testBit_lt_two_pow (Nat.lt_of_lt_of_le hq (Nat.pow_le_pow_right (n := 2) (i := 31) (by decide) (by omega)))
            rw [this] at hq'
            cases hq'
        rw [h i hq']
        simp [hi31]
    rw [h0]
    rfl
/-- the lowest of a set -/
def Low (s i : Nat) : Prop := s.testBit i = true ∧ ∀ j, j < i → s.testBit j = false
theorem Low.uniq {s i j : Nat} (h : Low s i) (h' : Low s j) : i = j := by
  rcases Nat.lt_trichotomy i j with c | c | c
  · have := h'.2 i c
    rw [h.1] at this
    cases this
  · exact c
  · have := h.2 j c
    rw [h'.1] at this
    cases this
theorem low_all : ∀ s : Nat, s < 256 → s ≠ 0 → ∃ i, i < 8 ∧ and32 (s : Int) (-(s : Int)) = ((1 <<< i : Nat) : Int) ∧ s.testBit i = true ∧ ∀ j, j < i → s.testBit j = false := by decide +kernel
theorem sub_one {s i : Nat} (h : s.testBit i = true) : Sub (1 <<< i) s := fun j hj => by
  rw [bit1] at hj
  rw [of_decide_eq_true hj]
  exact h
theorem one_shl_ne {i : Nat} : 1 <<< i ≠ 0 := by
  rw [Nat.one_shiftLeft]
  exact Nat.ne_of_gt (Nat.two_pow_pos i)
theorem one_sub {s i : Nat} (h : Sub (1 <<< i) s) : s.testBit i = true := h i (by rw [bit1]; exact decide_eq_true rfl)
-- sums by sets
def aS (f : Nat → Int) (P s : Nat) : Int := sumN (fun p => if s.testBit p = true then f p else 0) P
theorem aS_bd {f : Nat → Int} {P s : Nat} {hi : Int} (h0 : 0 ≤ hi) (h : ∀ p, p < P → 0 ≤ f p ∧ f p ≤ hi) : 0 ≤ aS f P s ∧ aS f P s ≤ P * hi := by
  have := sumN_bd (f := fun p => if s.testBit p = true then f p else 0) (n := P) (lo := 0) (hi := hi) (fun i hi => by have := h i hi; split <;> omega)
  unfold aS
  omega
theorem aS_ge {f : Nat → Int} {P s p : Nat} (h : ∀ p, p < P → 0 ≤ f p) (hp : p < P) (hs : s.testBit p = true) : f p ≤ aS f P s := by
  have := (sumN_nn (f := fun p => if s.testBit p = true then f p else 0) (n := P) (fun i hi => by have := h i hi; split <;> omega)).2 p hp
  rw [if_pos hs] at this
  exact this
theorem aS_mono {f : Nat → Int} {P q s : Nat} (h : ∀ p, p < P → 0 ≤ f p) (hs : Sub q s) : aS f P q ≤ aS f P s := by
  unfold aS
  induction P with
  | zero => exact Int.le_refl _
  | succ P ih =>
    rw [sumN, sumN]
    have h1 := ih (fun p hp => h p (Nat.lt_succ_of_lt hp))
    have h2 := h P (Nat.lt_succ_self P)
    cases hq : q.testBit P with
    | true => rw [hs P hq]; omega
    | false =>
      rw [if_neg (by decide)]
      split <;> omega
theorem aS_xor {f : Nat → Int} {P q s : Nat} (hs : Sub q s) : aS f P (s ^^^ q) = aS f P s - aS f P q := by
  unfold aS
  induction P with
  | zero => rfl
  | succ P ih =>
    rw [sumN, sumN, sumN, ih, xor_bit hs]
    cases hq : q.testBit P with
    | true => rw [hs P hq]; simp; omega
    | false => cases s.testBit P <;> simp <;> omega
theorem aS_zero {f : Nat → Int} {P : Nat} : aS f P 0 = 0 := by
  unfold aS
  rw [sumN_congr (g := fun _ => 0) (fun i _ => by rw [Nat.zero_testBit]; rfl)]
  exact sumN_zero _
theorem aS_one {f : Nat → Int} {P i : Nat} (hi : i < P) : aS f P (1 <<< i) = f i := by
  unfold aS
  have h := sumN_upd (f := fun p => if (1 <<< i).testBit p = true then f p else 0) (g := fun _ => 0) (n := P) (x := i) hi (fun j _ hne => by
    rw [bit1]
    rw [if_neg (by simp only [decide_eq_true_eq]; exact hne)])
  rw [h, sumN_zero, bit1, if_pos (decide_eq_true rfl)]
  omega
theorem aS_congr {f g : Nat → Int} {P s : Nat} (h : ∀ p, p < P → f p = g p) : aS f P s = aS g P s := by
  unfold aS
  exact sumN_congr (fun i hi => by rw [h i hi])
theorem shl_one {p : Nat} (h : p < 12) : shl32 1 (p : Int) = ((2 ^ p : Nat) : Int) := by rw [shl_all p h, Nat.one_shiftLeft]
theorem or_two {a p : Nat} (ha : a < 2 ^ p) (hp : p < 12) : or32 (a : Int) (shl32 1 (p : Int)) = ((a + 2 ^ p : Nat) : Int) := by
  have h12 : 2 ^ p ≤ 2 ^ 12 := Nat.pow_le_pow_right (by decide) (by omega)
  rw [shl_one hp, or32_nat (by omega) (by omega)]
  congr 1
  have := Nat.two_pow_add_eq_or_of_lt ha 1
  rw [Nat.mul_one] at this
  rw [Nat.or_comm, ← this, Nat.add_comm]
theorem aS_add {f : Nat → Int} {n a : Nat} (ha : a < 2 ^ n) : aS f (n + 1) (a + 2 ^ n) = aS f n a + f n := by
  have e : a + 2 ^ n = 2 ^ n ||| a := by
    have := Nat.two_pow_add_eq_or_of_lt ha 1
    rw [Nat.mul_one] at this
    rw [← this, Nat.add_comm]
  have hb : ∀ i, (a + 2 ^ n).testBit i = (decide (n = i) || a.testBit i) := fun i => by rw [e, Nat.testBit_or, Nat.testBit_two_pow]
  unfold aS
  rw [sumN, hb, decide_eq_true rfl, Bool.true_or, if_pos rfl]
  congr 1
  refine sumN_congr (fun i hi => ?_)
  rw [hb, decide_eq_false (by omega), Bool.false_or]
theorem aS_off {f : Nat → Int} {n a : Nat} (ha : a < 2 ^ n) : aS f (n + 1) a = aS f n a := by
  unfold aS
  rw [sumN, Nat.testBit_lt_two_pow ha]
  simp
