/-! PLANS: two numbers in one long (by hand) -/
theorem shl64_is {v : Int} {n : Nat} (hn : n < 64) (h : ((Int32.ofInt (n : Int)).toInt64 &&& 63).toBitVec.smod 64 = BitVec.ofNat 64 n) : shl64 v (n : Int) = ((v % 18446744073709551616) * (2 ^ n : Nat)).bmod 18446744073709551616 := by
  have hm : n % 18446744073709551616 = n := Nat.mod_eq_of_lt (by omega)
  rw [shl64, ← Int64.toInt_toBitVec, Int64.toBitVec_shiftLeft, Int64.toBitVec_ofInt, h, BitVec.shiftLeft_eq', BitVec.toNat_ofNat, hm, BitVec.toInt_shiftLeft, BitVec.toNat_ofInt]
  have hp : 0 ≤ v % 18446744073709551616 := Int.emod_nonneg _ (by decide)
  have e3 : (((v % ((2 ^ 64 : Nat) : Int)).toNat <<< n : Nat) : Int) = (v % 18446744073709551616) * ((2 ^ n : Nat) : Int) := by
    rw [Nat.shiftLeft_eq, Int.natCast_mul]
    congr 1
    exact Int.toNat_of_nonneg hp
  rw [e3]
theorem shr64_is {v : Int} {n : Nat} (hv : A64 v) (hn : n < 64) (h : ((Int32.ofInt (n : Int)).toInt64 &&& 63).toBitVec.smod 64 = BitVec.ofNat 64 n) : shr64 v (n : Int) = v / (2 ^ n : Nat) := by
  have hm : n % 18446744073709551616 = n := Nat.mod_eq_of_lt (by omega)
  have hw := w64_id hv
  rw [w64] at hw
  rw [shr64, ← Int64.toInt_toBitVec, Int64.toBitVec_shiftRight, h, BitVec.toInt_sshiftRight', BitVec.toNat_ofNat, hm, Int.shiftRight_eq_div_pow, Int64.toInt_toBitVec, hw]
theorem shl64_32 {v : Int} (h : 0 ≤ v ∧ v < 2147483648) : shl64 v 32 = v * 4294967296 := by
  have := shl64_is (v := v) (n := 32) (by decide) (by decide)
  have e : ((32 : Nat) : Int) = 32 := rfl
  rw [e] at this
  rw [this, Int.emod_eq_of_lt h.1 (by omega), Int.bmod_def]
  omega
theorem shr64_32 {v : Int} (h : 0 ≤ v ∧ v < 9223372036854775808) : shr64 v 32 = v / 4294967296 := by
  have := shr64_is (v := v) (n := 32) (by unfold A64; omega) (by decide) (by decide)
  have e : ((32 : Nat) : Int) = 32 := rfl
  rw [e] at this
  rw [this]
  rfl
theorem and64_nat {a b : Nat} (ha : a < 9223372036854775808) (hb : b < 9223372036854775808) : and64 (a : Int) (b : Int) = ((a &&& b : Nat) : Int) := by
  have bv : ∀ c : Nat, c < 9223372036854775808 → (Int64.ofInt (c : Int)).toBitVec = BitVec.ofNat 64 c := fun c hc => by
    rw [Int64.toBitVec_ofInt]
    exact BitVec.ofInt_natCast 64 c
  have hc : a &&& b < 9223372036854775808 := Nat.and_lt_two_pow (n := 63) a hb
  rw [and64, ← Int64.toInt_toBitVec, Int64.toBitVec_and, bv a ha, bv b hb, ← BitVec.ofNat_and, BitVec.toInt_ofNat', Int.bmod_def]
  omega
theorem and64_low {v : Int} (h : 0 ≤ v ∧ v < 9223372036854775808) : and64 v 4294967295 = v % 4294967296 := by
  obtain ⟨n, rfl⟩ : ∃ n : Nat, v = (n : Int) := ⟨v.toNat, by omega⟩
  have := and64_nat (a := n) (b := 4294967295) (by omega) (by decide)
  have e : ((4294967295 : Nat) : Int) = 4294967295 := rfl
  rw [e] at this
  rw [this, show (4294967295 : Nat) = 2 ^ 32 - 1 from rfl, Nat.and_two_pow_sub_one_eq_mod]
  omega
theorem and64_15 {v : Int} (h : 0 ≤ v ∧ v < 9223372036854775808) : and64 v 15 = v % 16 := by
  obtain ⟨n, rfl⟩ : ∃ n : Nat, v = (n : Int) := ⟨v.toNat, by omega⟩
  have := and64_nat (a := n) (b := 15) (by omega) (by decide)
  have e : ((15 : Nat) : Int) = 15 := rfl
  rw [e] at this
  rw [this, show (15 : Nat) = 2 ^ 4 - 1 from rfl, Nat.and_two_pow_sub_one_eq_mod]
  omega
/-- mark of a person: its four bits -/
theorem mark_shl : ∀ p : Nat, p < 8 → shl64 1 (4 * (7 - (p : Int))) = mkk p := by decide +kernel
theorem mark_shr {v : Int} {p : Nat} (h : 0 ≤ v ∧ v < 9223372036854775808) (hp : p < 8) : shr64 v (4 * (7 - (p : Int))) = v / mkk p := by
  have hc : p = 0 ∨ p = 1 ∨ p = 2 ∨ p = 3 ∨ p = 4 ∨ p = 5 ∨ p = 6 ∨ p = 7 := by omega
  have hv : A64 v := by unfold A64; omega
  rcases hc with rfl | rfl | rfl | rfl | rfl | rfl | rfl | rfl
  · exact shr64_is (n := 28) hv (by decide) (by decide)
  · exact shr64_is (n := 24) hv (by decide) (by decide)
  · exact shr64_is (n := 20) hv (by decide) (by decide)
  · exact shr64_is (n := 16) hv (by decide) (by decide)
  · exact shr64_is (n := 12) hv (by decide) (by decide)
  · exact shr64_is (n := 8) hv (by decide) (by decide)
  · exact shr64_is (n := 4) hv (by decide) (by decide)
  · exact shr64_is (n := 0) hv (by decide) (by decide)
/-- a packed worth v and a count c tell what is best among those that Ex and Z tell -/
def TP (hi v c : Int) (Ex : Int → Int → Prop) (Z : Int → Int) : Prop := (v = 4294967296000000 ∧ c = 0 ∧ (∀ b r, ¬ Ex b r) ∧ ∀ b, Z b = 0) ∨ ∃ b r, v = b * 4294967296 + r ∧ (0 ≤ r ∧ r < 4294967296) ∧ (0 ≤ b ∧ b ≤ hi) ∧ Ex b r ∧ c = Z b ∧ 0 < c ∧ (∀ b' r', Ex b' r' → b < b' ∨ (b = b' ∧ r ≤ r')) ∧ ∀ b', b' < b → Z b' = 0
theorem TP.congr {hi v c : Int} {Ex Ex' : Int → Int → Prop} {Z Z' : Int → Int} (h : TP hi v c Ex Z) (e : ∀ b r, Ex' b r ↔ Ex b r) (ez : ∀ b, Z' b = Z b) : TP hi v c Ex' Z' := by
  rcases h with ⟨h1, h2, h3, h4⟩ | ⟨b, r, h1, h2, h3, h4, h5, h6, h7, h8⟩
  · exact Or.inl ⟨h1, h2, fun b r z => h3 b r ((e b r).mp z), fun b => (ez b).trans (h4 b)⟩
  · exact Or.inr ⟨b, r, h1, h2, h3, (e b r).mpr h4, h5.trans (ez b).symm, h6, fun b' r' z => h7 b' r' ((e b' r').mp z), fun b' z => (ez b').trans (h8 b' z)⟩
theorem TP.bd {hi v c : Int} {Ex : Int → Int → Prop} {Z : Int → Int} (h : TP hi v c Ex Z) (hh : hi < 1000000) : (0 ≤ v ∧ v ≤ 4294967296000000) ∧ 0 ≤ c := by
  rcases h with ⟨h1, h2, h3, h4⟩ | ⟨b, r, h1, h2, h3, h4, h5, h6, h7, h8⟩ <;> omega
theorem TP.wide {hi hi' v c : Int} {Ex : Int → Int → Prop} {Z : Int → Int} (h : TP hi v c Ex Z) (hh : hi ≤ hi') : TP hi' v c Ex Z := by
  rcases h with h | ⟨b, r, h1, h2, h3, h4⟩
  · exact Or.inl h
  · exact Or.inr ⟨b, r, h1, h2, by omega, h4⟩
/-- one more kind, all of it at once -/
theorem TP.add {hi v c b2 r2 c2 : Int} {Ex Ex2 : Int → Int → Prop} {Z Z2 : Int → Int} (hh : hi < 1000000) (h : TP hi v c Ex Z) (k2 : 0 ≤ r2 ∧ r2 < 4294967296) (k3 : 0 ≤ b2 ∧ b2 ≤ hi) (k4 : Ex2 b2 r2) (k5 : c2 = Z2 b2) (k6 : 0 < c2) (k7 : ∀ b' r', Ex2 b' r' → b2 < b' ∨ (b2 = b' ∧ r2 ≤ r')) (k8 : ∀ b', b' < b2 → Z2 b' = 0) : TP hi (if b2 * 4294967296 + r2 < v then b2 * 4294967296 + r2 else v) (if b2 = v / 4294967296 then c + c2 else if b2 < v / 4294967296 then c2 else c) (fun b r => Ex b r ∨ Ex2 b r) (fun b => Z b + Z2 b) := by
  rcases h with ⟨h1, h2, h3, h4⟩ | ⟨b, r, h1, h2, h3, h4, h5, h6, h7, h8⟩
  · rw [if_pos (by omega), if_neg (by omega), if_pos (by omega)]
    refine Or.inr ⟨b2, r2, rfl, k2, k3, Or.inr k4, by dsimp only; rw [h4]; omega, k6, fun b' r' z => ?_, fun b' z => by dsimp only; rw [h4, k8 b' z]; rfl⟩
    rcases z with z | z
    · exact absurd z (h3 b' r')
    · exact k7 b' r' z
  · have e : v / 4294967296 = b := by omega
    rw [e]
    by_cases c1 : b2 = b
    · rw [if_pos c1]
      by_cases c3 : b2 * 4294967296 + r2 < v
      · rw [if_pos c3]
        refine Or.inr ⟨b2, r2, rfl, k2, k3, Or.inr k4, by dsimp only; rw [h5, k5, c1], by omega, fun b' r' z => ?_, fun b' z => by dsimp only; rw [h8 b' (by omega), k8 b' z]; rfl⟩
        rcases z with z | z
        · have := h7 b' r' z; omega
        · exact k7 b' r' z
      · rw [if_neg c3]
        refine Or.inr ⟨b, r, h1, h2, h3, Or.inl h4, by dsimp only; rw [h5, k5, c1], by omega, fun b' r' z => ?_, fun b' z => by dsimp only; rw [h8 b' z, k8 b' (by omega)]; rfl⟩
        rcases z with z | z
        · exact h7 b' r' z
        · have := k7 b' r' z; omega
    · rw [if_neg c1]
      by_cases c3 : b2 < b
      · rw [if_pos c3, if_pos (by omega)]
        refine Or.inr ⟨b2, r2, rfl, k2, k3, Or.inr k4, by dsimp only; rw [h8 b2 c3, k5]; omega, k6, fun b' r' z => ?_, fun b' z => by dsimp only; rw [h8 b' (by omega), k8 b' z]; rfl⟩
        rcases z with z | z
        · have := h7 b' r' z; omega
        · exact k7 b' r' z
      · rw [if_neg c3, if_neg (by omega)]
        refine Or.inr ⟨b, r, h1, h2, h3, Or.inl h4, by dsimp only; rw [h5, k8 b (by omega)]; omega, h6, fun b' r' z => ?_, fun b' z => by dsimp only; rw [h8 b' z, k8 b' (by omega)]; rfl⟩
        rcases z with z | z
        · exact h7 b' r' z
        · have := k7 b' r' z; omega
