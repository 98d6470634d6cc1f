/-! PLANS: what a night may give, and what it costs (by hand) -/
/-- who came till night k -/
def cm (F : Nat → Int) (P k : Nat) : Nat := nset (fun p => decide (F p ≤ (k : Int))) P
theorem cm_bit {F : Nat → Int} {P k p : Nat} : (cm F P k).testBit p = true ↔ p < P ∧ F p ≤ (k : Int) := by
  unfold cm
  rw [nset_bit, Bool.and_eq_true, decide_eq_true_eq, decide_eq_true_eq]
theorem cm_lt {F : Nat → Int} {P k : Nat} : cm F P k < 2 ^ P := nset_lt _ _
def okm (A : Nat → Int) (P : Nat) (R K : Int) (fm mm : Nat → Nat) (k s x : Nat) : Bool := decide (x &&& fm k = x ∧ x &&& s = 0 ∧ mm k &&& x = mm k ∧ aS A P x ≤ R ∧ aS A P (s ||| x) ≤ K)
theorem and_zero {x s : Nat} : x &&& s = 0 ↔ ∀ p, x.testBit p = true → s.testBit p = false := by
  constructor
  · intro h p hp
    have : (x &&& s).testBit p = false := by rw [h, Nat.zero_testBit]
    rw [Nat.testBit_and, hp, Bool.true_and] at this
    exact this
  · intro h
    apply Nat.eq_of_testBit_eq
    intro p
    rw [Nat.testBit_and, Nat.zero_testBit]
    cases hp : x.testBit p with
    | false => rfl
    | true => rw [h p hp]; rfl
theorem sub_iff {x s : Nat} : x &&& s = x ↔ Sub x s := ⟨Sub.of, Sub.and⟩
theorem okm_iff {A : Nat → Int} {P : Nat} {R K : Int} {fm mm : Nat → Nat} {k s x : Nat} : okm A P R K fm mm k s x = true ↔ Sub x (fm k) ∧ (∀ p, x.testBit p = true → s.testBit p = false) ∧ Sub (mm k) x ∧ aS A P x ≤ R ∧ aS A P (s ||| x) ≤ K := by
  unfold okm
  rw [decide_eq_true_eq, sub_iff, sub_iff, and_zero]
def wk (Co F : Nat → Int) (P k t : Nat) : Int := sumN (fun p => if F p ≤ (k : Int) ∧ t.testBit p = false then Co p else 0) P
/-- what those have waited, by night k, who aren't in s -/
def Ud (Co F : Nat → Int) (P k s : Nat) : Int := sumN (fun p => if s.testBit p = false ∧ F p < (k : Int) then Co p * ((k : Int) - F p) else 0) P
def de (Co F : Nat → Int) (P k x : Nat) : Int := aS (fun p => Co p * ((k : Int) - F p)) P x
theorem Ud_zero {Co F : Nat → Int} {P : Nat} (hF : ∀ p, p < P → 0 ≤ F p) : Ud Co F P 0 0 = 0 := by
  unfold Ud
  refine sumN_off (fun p hp => ?_)
  have := hF p hp
  exact if_neg (fun z => by have := z.2; omega)
theorem Ud_step {Co F : Nat → Int} {P k x t : Nat} (hx : Sub x t) (ht : Sub t (cm F P k)) : Ud Co F P k (t ^^^ x) + wk Co F P k t = Ud Co F P (k + 1) t + de Co F P k x := by
  unfold Ud wk de aS
  rw [← sumN_add, ← sumN_add]
  refine sumN_congr (fun p hp => ?_)
  dsimp only
  rw [xor_bit hx]
  cases hxp : x.testBit p with
  | true =>
    have htp := hx p hxp
    have hF := (cm_bit.mp (ht p htp)).2
    rw [htp, if_pos (rfl : true = true)]
    by_cases c : F p = (k : Int)
    · rw [if_neg (fun z => by have := z.2; omega), if_neg (fun z => Bool.noConfusion z.2), if_neg (fun z => Bool.noConfusion z.1), c, Int.sub_self, Int.mul_zero]
    · rw [if_pos ⟨rfl, by omega⟩, if_neg (fun z => Bool.noConfusion z.2), if_neg (fun z => Bool.noConfusion z.1)]
      omega
  | false =>
    rw [if_neg (fun z => Bool.noConfusion z : ¬ false = true)]
    cases htp : t.testBit p with
    | true => rw [if_neg (fun z => Bool.noConfusion z.1), if_neg (fun z => Bool.noConfusion z.2), if_neg (fun z => Bool.noConfusion z.1)]
    | false =>
      have e : Co p * (((k + 1 : Nat) : Int) - F p) = Co p * ((k : Int) - F p) + Co p := by
        rw [show ((k + 1 : Nat) : Int) - F p = ((k : Int) - F p) + 1 by omega, Int.mul_add, Int.mul_one]
      rw [e]
      by_cases c1 : F p < (k : Int)
      · rw [if_pos ⟨rfl, c1⟩, if_pos ⟨by omega, rfl⟩, if_pos ⟨rfl, by omega⟩]
        omega
      · rw [if_neg (fun z => c1 z.2)]
        by_cases c2 : F p = (k : Int)
        · rw [if_pos ⟨by omega, rfl⟩, if_pos ⟨rfl, by omega⟩, c2, Int.sub_self, Int.mul_zero]
          omega
        · rw [if_neg (fun z => by have := z.1; omega), if_neg (fun z => by have := z.2; omega)]
theorem aS_or {f : Nat → Int} {P s x : Nat} (h : ∀ p, x.testBit p = true → s.testBit p = false) : aS f P (s ||| x) = aS f P s + aS f P x := by
  unfold aS
  rw [← sumN_add]
  refine sumN_congr (fun p _ => ?_)
  rw [Nat.testBit_or]
  cases hx : x.testBit p with
  | true => rw [h p hx]; simp
  | false => rw [Bool.or_false]; simp
theorem or_xor {s x t : Nat} (h : ∀ p, x.testBit p = true → s.testBit p = false) (e : s ||| x = t) : s = t ^^^ x ∧ Sub x t := by
  have hs : Sub x t := fun p hp => by rw [← e, Nat.testBit_or, hp, Bool.or_true]
  refine ⟨?_, hs⟩
  apply Nat.eq_of_testBit_eq
  intro p
  rw [xor_bit hs, ← e, Nat.testBit_or]
  cases hx : x.testBit p with
  | true => rw [h p hx]; simp
  | false => simp
theorem xor_or {x t : Nat} (h : Sub x t) : (t ^^^ x) ||| x = t ∧ ∀ p, x.testBit p = true → (t ^^^ x).testBit p = false := by
  refine ⟨?_, fun p hp => by rw [xor_bit h, hp]; simp⟩
  apply Nat.eq_of_testBit_eq
  intro p
  rw [Nat.testBit_or, xor_bit h]
  cases hx : x.testBit p with
  | true => rw [h p hx]; rfl
  | false => simp
/-- who was given when, as one number -/
def mkk (p : Nat) : Int := ((16 ^ (7 - p) : Nat) : Int)
def row (g : Nat → Nat) : Int := sumN (fun p => (g p : Int) * mkk p) 8
theorem row_put {g : Nat → Nat} {x v : Nat} (h : ∀ p, x.testBit p = true → g p = 0) : row (put g x v) = row g + (v : Int) * aS mkk 8 x := by
  have e : (v : Int) * aS mkk 8 x = sumN (fun p => if x.testBit p = true then (v : Int) * mkk p else 0) 8 := by
    unfold aS
    generalize 8 = n
    induction n with
    | zero => exact Int.mul_zero _
    | succ n ih =>
      rw [sumN, sumN, Int.mul_add, ih]
      congr 1
      cases x.testBit n <;> simp
  rw [e]
  unfold row
  rw [← sumN_add]
  refine sumN_congr (fun p _ => ?_)
  unfold put
  by_cases c : x.testBit p = true
  · rw [if_pos c, if_pos c, h p c]
    simp
  · rw [if_neg c, if_neg c]
    simp
theorem row_8 {g : Nat → Nat} : row g = (g 0 : Int) * 268435456 + (g 1 : Int) * 16777216 + (g 2 : Int) * 1048576 + (g 3 : Int) * 65536 + (g 4 : Int) * 4096 + (g 5 : Int) * 256 + (g 6 : Int) * 16 + (g 7 : Int) := by
  unfold row
  rw [sumN, sumN, sumN, sumN, sumN, sumN, sumN, sumN, sumN]
  unfold mkk
  omega
theorem row_bd {g : Nat → Nat} (h : ∀ p, g p ≤ 12) : 0 ≤ row g ∧ row g < 4294967296 := by
  rw [row_8]
  have h0 := h 0
  have h1 := h 1
  have h2 := h 2
  have h3 := h 3
  have h4 := h 4
  have h5 := h 5
  have h6 := h 6
  have h7 := h 7
  omega
theorem row_dig {g : Nat → Nat} {p : Nat} (h : ∀ p, g p ≤ 12) (hp : p < 8) : row g / mkk p % 16 = (g p : Int) := by
  rw [row_8]
  have h0 := h 0
  have h1 := h 1
  have h2 := h 2
  have h3 := h 3
  have h4 := h 4
  have h5 := h 5
  have h6 := h 6
  have h7 := h 7
  have hc : p = 0 ∨ p = 1 ∨ p = 2 ∨ p = 3 ∨ p = 4 ∨ p = 5 ∨ p = 6 ∨ p = 7 := by omega
  unfold mkk
  rcases hc with rfl | rfl | rfl | rfl | rfl | rfl | rfl | rfl <;> omega
theorem row_lex {g g' : Nat → Nat} {p : Nat} (h : ∀ p, g p ≤ 12) (h' : ∀ p, g' p ≤ 12) (hp : p < 8) (e : ∀ q, q < p → g q = g' q) (hl : g p < g' p) : row g < row g' := by
  rw [row_8, row_8]
  have h0 := h 0
  have h1 := h 1
  have h2 := h 2
  have h3 := h 3
  have h4 := h 4
  have h5 := h 5
  have h6 := h 6
  have h7 := h 7
  have hc : p = 0 ∨ p = 1 ∨ p = 2 ∨ p = 3 ∨ p = 4 ∨ p = 5 ∨ p = 6 ∨ p = 7 := by omega
  have e0 := e 0
  have e1 := e 1
  have e2 := e 2
  have e3 := e 3
  have e4 := e 4
  have e5 := e 5
  have e6 := e 6
  rcases hc with rfl | rfl | rfl | rfl | rfl | rfl | rfl | rfl <;> omega
