/-! KINDER: full ways and sets of bearers (by hand) -/
theorem bst_le {z hi : Int} {c : Nat → Bool} {v : Nat → Int} {n : Nat} (hz : z ≤ hi) (hv : ∀ k, k < n → c k = true → 1 + v k ≤ hi) : bst z c v n ≤ hi := by
  induction n with
  | zero => exact hz
  | succ n ih =>
    have h1 := ih (fun k hk => hv k (Nat.lt_succ_of_lt hk))
    rw [bst]
    cases h : c n with
    | true =>
      have := hv n (Nat.lt_succ_self n) h
      simp only [if_true]
      omega
    | false => simpa using h1
theorem bst_eq {z hi : Int} {c : Nat → Bool} {v : Nat → Int} {n : Nat} (hz : z < hi) (hv : ∀ k, k < n → c k = true → 1 + v k ≤ hi) : bst z c v n = hi ↔ ∃ k, k < n ∧ c k = true ∧ 1 + v k = hi := by
  induction n with
  | zero =>
    rw [bst]
    exact ⟨fun h => by omega, fun ⟨k, hk, _⟩ => absurd hk (Nat.not_lt_zero _)⟩
  | succ n ih =>
    have h1 := ih (fun k hk => hv k (Nat.lt_succ_of_lt hk))
    have h2 := bst_le (Int.le_of_lt hz) (fun k (hk : k < n) => hv k (Nat.lt_succ_of_lt hk))
    rw [bst]
    cases h : c n with
    | true =>
      have h3 := hv n (Nat.lt_succ_self n) h
      simp only [if_true]
      constructor
      · intro he
        by_cases e : 1 + v n = hi
        · exact ⟨n, Nat.lt_succ_self n, h, e⟩
        · obtain ⟨k, k1, k2, k3⟩ := h1.mp (by omega)
          exact ⟨k, Nat.lt_succ_of_lt k1, k2, k3⟩
      · rintro ⟨k, k1, k2, k3⟩
        by_cases e : k = n
        · rw [e] at k3
          omega
        · have := h1.mpr ⟨k, by omega, k2, k3⟩
          omega
    | false =>
      simp only [Bool.false_eq_true, if_false]
      rw [h1]
      constructor
      · rintro ⟨k, k1, k2⟩
        exact ⟨k, Nat.lt_succ_of_lt k1, k2⟩
      · rintro ⟨k, k1, k2, k3⟩
        by_cases e : k = n
        · rw [e, h] at k2
          cases k2
        · exact ⟨k, by omega, k2, k3⟩
theorem bst_none {z : Int} {c : Nat → Bool} {v : Nat → Int} {n : Nat} (h : ∀ k, k < n → c k = false) : bst z c v n = z := by
  induction n with
  | zero => rfl
  | succ n ih =>
    rw [bst, h n (Nat.lt_succ_self n), ih (fun k hk => h k (Nat.lt_succ_of_lt hk))]
    simp
/-- how many of the last d are of the set -/
def cg (g : Nat → Bool) (n : Nat) : Nat → Int
  | 0 => 0
  | d + 1 => cg g n d + (if g (n - (d + 1)) = true then 1 else 0)
theorem cg_sum {g : Nat → Bool} {n d : Nat} (hd : d ≤ n) : cg g n d + sumN (fun p => if g p = true then 1 else 0) (n - d) = sumN (fun p => if g p = true then 1 else 0) n := by
  induction d with
  | zero => rw [cg, Nat.sub_zero]; omega
  | succ d ih =>
    have h := ih (by omega)
    have e : n - d = (n - (d + 1)) + 1 := by omega
    rw [e, sumN] at h
    rw [cg]
    omega
theorem cg_all {g : Nat → Bool} {n : Nat} : cg g n n = sumN (fun p => if g p = true then 1 else 0) n := by
  have := cg_sum (g := g) (n := n) (d := n) (Nat.le_refl _)
  rw [Nat.sub_self] at this
  simpa [sumN] using this
/-- all of the last d of a set find a bearer -/
def Full (f : Nat → Nat → Bool) (g : Nat → Bool) (n : Nat) : Nat → Nat → Prop
  | 0, _ => True
  | d + 1, u => (g (n - (d + 1)) = true → ∃ b, b < n ∧ u.testBit b = false ∧ f (n - (d + 1)) b = true ∧ Full f g n d (u ||| 1 <<< b)) ∧ (g (n - (d + 1)) = false → Full f g n d u)
theorem mB_full {f : Nat → Nat → Bool} {g : Nat → Bool} {n d : Nat} : ∀ u, mB f g n d u ≤ cg g n d ∧ (mB f g n d u = cg g n d ↔ Full f g n d u) := by
  induction d with
  | zero => intro u; exact ⟨Int.le_refl _, fun _ => trivial, fun _ => rfl⟩
  | succ d ih =>
    intro u
    rw [mB, cg, Full]
    cases hg : g (n - (d + 1)) with
    | true =>
      simp only [Bool.true_and, if_true, true_imp_iff, Bool.true_eq_false, false_imp_iff, and_true]
      have hz : mB f g n d u < cg g n d + 1 := by
        have := (ih u).1
        omega
      have hv : ∀ k, k < n → (!u.testBit k && f (n - (d + 1)) k) = true → 1 + mB f g n d (u ||| 1 <<< k) ≤ cg g n d + 1 := fun k _ _ => by
        have := (ih (u ||| 1 <<< k)).1
        omega
      refine ⟨bst_le (Int.le_of_lt hz) hv, ?_⟩
      rw [bst_eq hz hv]
      constructor
      · rintro ⟨k, k1, k2, k3⟩
        rw [Bool.and_eq_true, Bool.not_eq_true'] at k2
        exact ⟨k, k1, k2.1, k2.2, (ih _).2.mp (by omega)⟩
      · rintro ⟨k, k1, k2, k3, k4⟩
        have := (ih _).2.mpr k4
        exact ⟨k, k1, by rw [k2, k3]; rfl, by omega⟩
    | false =>
      rw [bst_none (fun k _ => by rw [Bool.false_and])]
      have := ih u
      simp only [Bool.false_eq_true, if_false, Int.add_zero, false_imp_iff, true_imp_iff, true_and]
      exact this
/-- the sets of bearers that can be the ones used up by those below p -/
def Rch (f : Nat → Nat → Bool) (g : Nat → Bool) (n : Nat) : Nat → Nat → Prop
  | 0, u => u = 0
  | p + 1, u => (g p = true ∧ ∃ u' b, b < n ∧ Rch f g n p u' ∧ u'.testBit b = false ∧ f p b = true ∧ u = u' ||| 1 <<< b) ∨ (g p = false ∧ Rch f g n p u)
theorem Rch.lt {f : Nat → Nat → Bool} {g : Nat → Bool} {n p u : Nat} (h : Rch f g n p u) : u < 2 ^ n := by
  induction p generalizing u with
  | zero =>
    rw [Rch] at h
    rw [h]
    exact Nat.two_pow_pos _
  | succ p ih =>
    rw [Rch] at h
    rcases h with ⟨-, u', b, hb, h1, -, -, e⟩ | ⟨-, h⟩
    · rw [e]
      exact or_lt (ih h1) hb
    · exact ih h
theorem full_rch {f : Nat → Nat → Bool} {g : Nat → Bool} {n p : Nat} (hp : p ≤ n) : Full f g n n 0 ↔ ∃ u, Rch f g n p u ∧ Full f g n (n - p) u := by
  induction p with
  | zero =>
    constructor
    · intro h
      exact ⟨0, rfl, h⟩
    · rintro ⟨u, hu, h⟩
      rw [Rch] at hu
      rw [hu] at h
      exact h
  | succ p ih =>
    rw [ih (by omega)]
    have e1 : n - p = (n - (p + 1)) + 1 := by omega
    have e2 : n - ((n - (p + 1)) + 1) = p := by omega
    constructor
    · rintro ⟨u, hu, h⟩
      rw [e1, Full, e2] at h
      cases hg : g p with
      | true =>
        obtain ⟨b, b1, b2, b3, b4⟩ := h.1 hg
        exact ⟨_, Or.inl ⟨hg, u, b, b1, hu, b2, b3, rfl⟩, b4⟩
      | false => exact ⟨u, Or.inr ⟨hg, hu⟩, h.2 hg⟩
    · rintro ⟨u, hu, h⟩
      rw [Rch] at hu
      rcases hu with ⟨hg, u', b, b1, hu', b2, b3, e⟩ | ⟨hg, hu'⟩
      · refine ⟨u', hu', ?_⟩
        rw [e1, Full, e2]
        rw [e] at h
        exact ⟨fun _ => ⟨b, b1, b2, b3, h⟩, fun z => by rw [hg] at z; cases z⟩
      · refine ⟨u, hu', ?_⟩
        rw [e1, Full, e2]
        exact ⟨(fun z => by rw [hg] at z; cases z), fun _ => h⟩
theorem full_iff {f : Nat → Nat → Bool} {g : Nat → Bool} {n : Nat} : Full f g n n 0 ↔ ∃ u, Rch f g n n u := by
  rw [full_rch (Nat.le_refl n)]
  constructor
  · rintro ⟨u, hu, -⟩
    exact ⟨u, hu⟩
  · rintro ⟨u, hu⟩
    refine ⟨u, hu, ?_⟩
    rw [Nat.sub_self]
    trivial
theorem rch_none {f : Nat → Nat → Bool} {g : Nat → Bool} {n p : Nat} (h : ¬ ∃ u, Rch f g n p u) : ∀ k, ¬ ∃ u, Rch f g n (p + k) u := by
  intro k
  induction k with
  | zero => exact h
  | succ k ih =>
    rintro ⟨u, hu⟩
    have e : p + (k + 1) = (p + k) + 1 := by omega
    rw [e, Rch] at hu
    rcases hu with ⟨-, u', b, -, h1, -⟩ | ⟨-, h1⟩
    · exact ih ⟨u', h1⟩
    · exact ih ⟨u, h1⟩
theorem pc_or : ∀ u : Nat, u < 256 → ∀ b : Nat, b < 8 → u.testBit b = false → pc (u ||| 1 <<< b) = pc u + 1 := by decide +kernel
/-- how many of a set are below p -/
def cl (g : Nat → Bool) : Nat → Nat
  | 0 => 0
  | p + 1 => if g p = true then cl g p + 1 else cl g p
theorem cl_le {g : Nat → Bool} {p : Nat} : cl g p ≤ p := by
  induction p with
  | zero => exact Nat.le_refl _
  | succ p ih =>
    rw [cl]
    split <;> omega
theorem rch_pc {f : Nat → Nat → Bool} {g : Nat → Bool} {n p u : Nat} (hn : n ≤ 8) (h : Rch f g n p u) : pc u = cl g p := by
  have h256 := pow8 hn
  induction p generalizing u with
  | zero =>
    rw [Rch] at h
    rw [h]
    have e : pc 0 = 0 := by decide
    rw [e]
    rfl
  | succ p ih =>
    rw [Rch] at h
    rw [cl]
    rcases h with ⟨hg, u', b, hb, h1, h2, -, e⟩ | ⟨hg, h⟩
    · rw [e, if_pos hg, pc_or u' (by have := h1.lt; omega) b (by omega) h2, ih h1]
    · rw [if_neg (by rw [hg]; decide)]
      exact ih h
