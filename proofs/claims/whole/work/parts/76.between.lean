/-! BETWEEN BABIES: what both count (by hand) -/
/-- whether b can bear for p, if a set bears more -/
def fB (W : Nat → Int) (s : Nat) (m : Int) (p b : Nat) : Bool := decide (b ≠ p ∧ yW W 1 p ≤ W (10 + 4 * b + 3) + (if s.testBit b = true then m else 0))
theorem fB_zero {W : Nat → Int} {s p b : Nat} : fB W s 0 p b = fB W 0 0 p b := by
  unfold fB
  rw [Nat.zero_testBit]
  simp
/-- the best of what is chosen and one more -/
def bst (z : Int) (c : Nat → Bool) (v : Nat → Int) : Nat → Int
  | 0 => z
  | k + 1 => if c k = true then max (bst z c v k) (1 + v k) else bst z c v k
theorem bst_bd {z hi : Int} {c : Nat → Bool} {v : Nat → Int} {n : Nat} (hz : 0 ≤ z ∧ z ≤ hi) (hv : ∀ k, k < n → 0 ≤ v k ∧ v k + 1 ≤ hi) : 0 ≤ bst z c v n ∧ bst z c v n ≤ hi := by
  induction n with
  | zero => exact hz
  | succ n ih =>
    have h1 := ih (fun k hk => hv k (Nat.lt_succ_of_lt hk))
    have h2 := hv n (Nat.lt_succ_self n)
    rw [bst]
    split <;> omega
theorem bst_congr {z : Int} {c c' : Nat → Bool} {v v' : Nat → Int} {n : Nat} (hc : ∀ k, k < n → c k = c' k) (hv : ∀ k, k < n → c k = true → v k = v' k) : bst z c v n = bst z c' v' n := by
  induction n with
  | zero => rfl
  | succ n ih =>
    rw [bst, bst, ih (fun k hk => hc k (Nat.lt_succ_of_lt hk)) (fun k hk => hv k (Nat.lt_succ_of_lt hk)), ← hc n (Nat.lt_succ_self n)]
    cases h : c n with
    | true => rw [hv n (Nat.lt_succ_self n) h]
    | false => rfl
/-- for how many of the last d persons others can bear, if a set of bearers is used up -/
def mB (f : Nat → Nat → Bool) (g : Nat → Bool) (n : Nat) : Nat → Nat → Int
  | 0, _ => 0
  | d + 1, u => bst (mB f g n d u) (fun b => g (n - (d + 1)) && (!u.testBit b && f (n - (d + 1)) b)) (fun b => mB f g n d (u ||| 1 <<< b)) n
theorem mB_bd {f : Nat → Nat → Bool} {g : Nat → Bool} {n d u : Nat} : 0 ≤ mB f g n d u ∧ mB f g n d u ≤ d := by
  induction d generalizing u with
  | zero => exact ⟨Int.le_refl _, Int.le_refl _⟩
  | succ d ih =>
    rw [mB]
    have h := ih (u := u)
    exact bst_bd (by omega) (fun k _ => by have := ih (u := u ||| 1 <<< k); omega)
theorem mB_congr {f f' : Nat → Nat → Bool} {g g' : Nat → Bool} {n : Nat} (hf : ∀ p b, p < n → b < n → f p b = f' p b) (hg : ∀ p, p < n → g p = g' p) : ∀ d u, d ≤ n → mB f g n d u = mB f' g' n d u := by
  intro d
  induction d with
  | zero => intro u _; rfl
  | succ d ih =>
    intro u hd
    rw [mB, mB, ih u (by omega)]
    refine bst_congr (fun k hk => ?_) (fun k hk _ => ih _ (by omega))
    rw [hf _ k (by omega) hk, hg _ (by omega)]
/-- the first below n -/
def fi (c : Nat → Bool) : Nat → Int
  | 0 => -1
  | k + 1 => if fi c k = -1 ∧ c k = true then (k : Int) else fi c k
theorem fi_first {c : Nat → Bool} (n : Nat) : First n (fun k => c k = true) (fi c n) := by
  induction n with
  | zero => exact Or.inl ⟨rfl, fun n hn => absurd hn (Nat.not_lt_zero _)⟩
  | succ n ih =>
    rw [fi]
    by_cases h : fi c n = -1 ∧ c n = true
    · rw [if_pos h]
      refine Or.inr ⟨n, Nat.lt_succ_self n, rfl, h.2, ?_⟩
      rcases ih with ⟨-, h2⟩ | ⟨m, -, h2, -⟩
      · exact h2
      · have := h.1
        omega
    · rw [if_neg h]
      rcases ih with ⟨h1, h2⟩ | ⟨m, h1, h2, h3, h4⟩
      · refine Or.inl ⟨h1, fun k hk hx => ?_⟩
        by_cases hkn : k = n
        · rw [hkn] at hx
          exact h ⟨h1, hx⟩
        · exact h2 k (by omega) hx
      · exact Or.inr ⟨m, by omega, h2, h3, h4⟩
theorem fi_bd {c : Nat → Bool} (n : Nat) : -1 ≤ fi c n ∧ fi c n < n := by
  rcases fi_first (c := c) n with ⟨h, -⟩ | ⟨m, h1, h2, -⟩ <;> omega
/-- the way that is chosen first -/
def cB (f : Nat → Nat → Bool) (n p u b : Nat) : Bool := !u.testBit b && (f p b && decide (1 + mB f (fun _ => true) n (n - (p + 1)) (u ||| 1 <<< b) = mB f (fun _ => true) n (n - p) u))
def uB (f : Nat → Nat → Bool) (n : Nat) : Nat → Nat
  | 0 => 0
  | p + 1 => if fi (cB f n p (uB f n p)) n = -1 then uB f n p else uB f n p ||| 1 <<< (fi (cB f n p (uB f n p)) n).toNat
def bB (f : Nat → Nat → Bool) (n p : Nat) : Int := fi (cB f n p (uB f n p)) n
theorem or_lt {n u b : Nat} (hu : u < 2 ^ n) (hb : b < n) : u ||| 1 <<< b < 2 ^ n := by
  refine Nat.or_lt_two_pow hu ?_
  rw [Nat.one_shiftLeft]
  exact Nat.pow_lt_pow_right (by decide) hb
theorem uB_lt {f : Nat → Nat → Bool} {n p : Nat} : uB f n p < 2 ^ n := by
  induction p with
  | zero => exact Nat.two_pow_pos _
  | succ p ih =>
    have h := fi_bd (c := cB f n p (uB f n p)) n
    rw [uB]
    split
    · exact ih
    · exact or_lt ih (by omega)
theorem or_bit {n u b : Nat} (hn : n ≤ 8) (hu : u < 2 ^ n) (hb : b < n) : or32 (u : Int) (shl32 1 (b : Int)) = ((u ||| 1 <<< b : Nat) : Int) := by
  have h256 := pow8 hn
  have h1 : 1 <<< b < 2 ^ n := by
    rw [Nat.one_shiftLeft]
    exact Nat.pow_lt_pow_right (by decide) hb
  rw [shl_all b (by omega), or32_nat (by omega) (by omega)]
/-- those who can bear and are not used up -/
theorem free_bit {F : Nat → Bool} {n u b : Nat} (hn : n ≤ 8) (hu : u < 2 ^ n) (hb : b < n) : and32 (shr32 (and32 ((nset F n : Nat) : Int) (xor32 (u : Int) (-1))) (b : Int)) 1 = if (!u.testBit b && F b) = true then 1 else 0 := by
  have h256 := pow8 hn
  have h1 := nset_lt8 F hn
  rw [andn32_nat (by omega) (by omega)]
  have hle : nset F n &&& (u ^^^ 2147483647) ≤ nset F n := Nat.and_le_left
  have e : (2147483647 : Nat) = 2 ^ 31 - 1 := rfl
  rw [bit8 (by omega) (by omega), Nat.testBit_and, Nat.testBit_xor, e, Nat.testBit_two_pow_sub_one, nset_bit]
  have h31 : b < 31 := by omega
  simp only [hb, h31, decide_true, Bool.true_and, Bool.bne_true, Bool.xor_true]
  cases u.testBit b <;> cases F b <;> rfl
