/-! PLANS: what the planner takes (by hand) -/
theorem Ud_all {Co F : Nat → Int} {P N s : Nat} (hs : s < 2 ^ P) : aS (fun p => Co p * max 0 ((N : Int) - F p)) P ((2 ^ P - 1) ^^^ s) = Ud Co F P N s := by
  unfold aS Ud
  refine sumN_congr (fun p hp => ?_)
  rw [Nat.testBit_xor, Nat.testBit_two_pow_sub_one, decide_eq_true hp, Bool.true_xor]
  dsimp only
  cases s.testBit p with
  | true => rw [if_neg (by decide), if_neg (fun z => Bool.noConfusion z.1)]
  | false =>
    rw [if_pos (by decide)]
    by_cases c : F p < (N : Int)
    · rw [if_pos ⟨rfl, c⟩, show max 0 ((N : Int) - F p) = (N : Int) - F p by omega]
    · rw [if_neg (fun z => c z.2), show max 0 ((N : Int) - F p) = 0 by omega, Int.mul_zero]
theorem Ud_bd {A Co F : Nat → Int} {P N s : Nat} {R K : Int} (hB : PB A Co F P N R K) : 0 ≤ Ud Co F P N s ∧ Ud Co F P N s ≤ 17280 := by
  have hP := hB.1
  have hN := hB.2.1
  have := sumN_bd (f := fun p => if s.testBit p = false ∧ F p < (N : Int) then Co p * ((N : Int) - F p) else 0) (n := P) (lo := 0) (hi := 2160) (fun p hp => by
    by_cases c : s.testBit p = false ∧ F p < (N : Int)
    · rw [if_pos c]
      have h2 := hB.F0 p hp
      exact mulbd (x := 180) (y := 12) (hB.2.2.2.1 p hp) ⟨by omega, by omega⟩
    · rw [if_neg c]
      omega)
  have e : Ud Co F P N s = sumN (fun p => if s.testBit p = false ∧ F p < (N : Int) then Co p * ((N : Int) - F p) else 0) P := rfl
  rw [e]
  omega
/-- a plan of the whole year that costs b, written r; how many cost b -/
def EXt (A Co F : Nat → Int) (P N : Nat) (R K : Int) (b r : Int) : Prop := ∃ z, Rea (okm A P R K (cm F P) nomm) (wk Co F P) N 0 z0 z ∧ z.2.1 = b ∧ row z.2.2 = r
def ZXt (A Co F : Nat → Int) (P N : Nat) (R K : Int) (b : Int) : Int := Tot (okm A P R K (cm F P) nomm) (wk Co F P) N 0 (ind b) z0
def Exf (A Co F : Nat → Int) (P N : Nat) (R K : Int) (q : Nat) (b r : Int) : Prop := ∃ s, s < q ∧ EX A Co F P R K N s (b - Ud Co F P N s) r
def Zf (A Co F : Nat → Int) (P N : Nat) (R K : Int) (q : Nat) (b : Int) : Int := sumN (fun s => ZX A Co F P R K N s (b - Ud Co F P N s)) q
theorem Rea_lt {A Co F : Nat → Int} {P N : Nat} {R K : Int} {k : Nat} (hB : PB A Co F P N R K) {z : Nat × Int × (Nat → Nat)} (h : Rea (okm A P R K (cm F P) nomm) (wk Co F P) k 0 z0 z) : z.1 < 2 ^ P := by
  have hi := (Rea_inv hB.F0 hB.2.2.2.2.2.1.1 hB.2.2.2.2.2.2.1 (fun k => Sub.rf) k z h).2.2.1
  have e : nset z.1.testBit P = z.1 := by
    apply Nat.eq_of_testBit_eq
    intro p
    rw [nset_bit]
    cases hp : z.1.testBit p with
    | false => rw [Bool.and_false]
    | true => rw [decide_eq_true (hi p hp).1]; rfl
  rw [← e]
  exact nset_lt _ _
theorem Exf_all {A Co F : Nat → Int} {P N : Nat} {R K b r : Int} (hB : PB A Co F P N R K) : EXt A Co F P N R K b r ↔ Exf A Co F P N R K (2 ^ P) b r := by
  unfold EXt Exf EX
  constructor
  · rintro ⟨z, h1, h2, h3⟩
    exact ⟨z.1, Rea_lt hB h1, z, h1, rfl, by omega, h3⟩
  · rintro ⟨s, -, z, h1, rfl, h2, h3⟩
    exact ⟨z, h1, by omega, h3⟩
theorem Zf_all {A Co F : Nat → Int} {P N : Nat} {R K b : Int} (hB : PB A Co F P N R K) : ZXt A Co F P N R K b = Zf A Co F P N R K (2 ^ P) b := by
  unfold ZXt Zf ZX
  rw [← Tot_sum]
  refine Tot_congr _ _ _ _ _ (fun z hz => ?_)
  have hl := Rea_lt hB hz
  rw [sumN_one (f := fun i => iz Co F P N i (b - Ud Co F P N i) z) (x := z.1) hl (fun s _ hs => if_neg (fun y => hs y.1.symm))]
  unfold ind iz
  by_cases c : z.2.1 = b
  · rw [if_pos c, if_pos ⟨rfl, by omega⟩]
  · rw [if_neg c, if_neg (fun y => c (by have := y.2; omega))]
theorem Rea_none {A Co F : Nat → Int} {P N : Nat} {R K : Int} (hB : PB A Co F P N R K) : ∀ k, ∃ z, Rea (okm A P R K (cm F P) nomm) (wk Co F P) k 0 z0 z ∧ z.1 = 0 := by
  intro k
  induction k with
  | zero => exact ⟨z0, rfl, rfl⟩
  | succ k ih =>
    obtain ⟨z, h1, h2⟩ := ih
    refine ⟨stp (wk Co F P) k z 0, (Rea_snoc k 0 z0 _).mpr ⟨z, 0, h1, by decide, ?_, by rw [Nat.zero_add]⟩, ?_⟩
    · rw [okm_iff, h2]
      refine ⟨sub_zero, fun p hp => by rw [Nat.zero_testBit], sub_zero, ?_, ?_⟩
      · rw [aS_zero]; exact hB.2.2.2.2.2.1.1
      · rw [show (0 : Nat) ||| 0 = 0 from rfl, aS_zero]; exact hB.2.2.2.2.2.2.1
    · unfold stp
      rw [h2]
      rfl
/-- the best of the plans: what it costs, how it is written, how many cost so much -/
def Best (A Co F : Nat → Int) (P N : Nat) (R K b r c : Int) : Prop := (0 ≤ b ∧ b ≤ 224640) ∧ (0 ≤ r ∧ r < 4294967296) ∧ EXt A Co F P N R K b r ∧ c = ZXt A Co F P N R K b ∧ 0 < c ∧ (∀ b' r', EXt A Co F P N R K b' r' → b < b' ∨ (b = b' ∧ r ≤ r')) ∧ ∀ b', b' < b → ZXt A Co F P N R K b' = 0
set_option maxHeartbeats 1000000 in
theorem sp_takeLeast {M : Mem} {A Co F : Nat → Int} {P N : Nat} {R K : Int} (hB : PB A Co F P N R K) (hT : PT A Co F P N M) (hE : ∀ s, s < 2 ^ P → TQ A Co F P R K N s M) : wpo (f3_takeLeast M (((2 ^ P : Nat) : Int) - 1)) (fun M' => (∀ c i, (c ≠ 49 ∨ (i ≠ 2 ∧ i ≠ 3 ∧ i ≠ 4)) → M' c i = M c i) ∧ ∃ r, Best A Co F P N R K (M' 49 2) r (M' 49 3) ∧ M' 49 4 = r) := by
  have hP := hB.1
  have h256 := pow8 hP
  have hpos : 0 < 2 ^ P := Nat.two_pow_pos _
  have hN := hB.2.1
  unfold f3_takeLeast
  refine wp_then rfl ?_
  refine wp_bind.mpr (wpo_mono (P := fun r => (∀ c i, (c ≠ 49 ∨ i ≠ 3) → r.2 c i = M c i) ∧ TP (17280 * (N : Int) + 17280) r.1 (r.2 49 3) (Exf A Co F P N R K (2 ^ P)) (Zf A Co F P N R K (2 ^ P))) ?_ ?_)
  · refine wp_for (I := fun q s => s.2.1 = (q : Int) ∧ (∀ c i, (c ≠ 49 ∨ i ≠ 3) → s.2.2 c i = M c i) ∧ TP (17280 * (N : Int) + 17280) s.1 (s.2.2 49 3) (Exf A Co F P N R K q) (Zf A Co F P N R K q)) (2 ^ P) ?_ ?_ FU 0 _ ⟨rfl, fun c i h => ?_, Or.inl ⟨rfl, (ms_same : mset M 49 3 0 49 3 = 0), ?_, fun b => rfl⟩⟩ (Nat.zero_le _) (by unfold FU; omega)
    · rintro q ⟨best, q', S⟩ hq ⟨e1, e2, e3⟩
      dsimp only at e1 e2 e3 ⊢
      subst e1
      have hbest := e3.bd (by omega)
      have hx : xor32 (((2 ^ P : Nat) : Int) - 1) (q : Int) = (((2 ^ P - 1) ^^^ q : Nat) : Int) := by
        rw [show ((2 ^ P : Nat) : Int) - 1 = ((2 ^ P - 1 : Nat) : Int) by omega]
        exact xor32_nat (by omega) (by omega)
      have hxl : (2 ^ P - 1) ^^^ q < 2 ^ P := Nat.xor_lt_two_pow (by omega) hq
      refine wp_neg (fun z => absurd ((lt32 (by omega) (by omega)).mp z) (by omega)) (wp_pos (by omega) ?_)
      rw [hx, Int.toNat_natCast, Int.toNat_natCast]
      have f56 : S 56 q = M 56 q := e2 56 q (Or.inl (by decide))
      have f57 : S 57 q = M 57 q := e2 57 q (Or.inl (by decide))
      have f54 : S 54 ((2 ^ P - 1) ^^^ q) = Ud Co F P N q := by rw [e2 54 _ (Or.inl (by decide)), (hT _ hxl).2.2.2.1, Ud_all hq]
      have hU := Ud_bd (s := q) hB
      have fr : ∀ v c i, (c ≠ 49 ∨ i ≠ 3) → mset S 49 3 v c i = M c i := fun v c i h => by
        rw [ms_at, if_neg (by omega)]
        exact e2 c i h
      have same : (∀ b r, ¬ EX A Co F P R K N q b r) → (∀ b, ZX A Co F P R K N q b = 0) → TP (17280 * (N : Int) + 17280) best (S 49 3) (Exf A Co F P N R K (q + 1)) (Zf A Co F P N R K (q + 1)) := by
        intro h1 h2
        refine e3.congr (fun b r => ?_) (fun b => ?_)
        · unfold Exf
          constructor
          · rintro ⟨s, s1, s2⟩
            by_cases e : s = q
            · rw [e] at s2
              exact absurd s2 (h1 _ _)
            · exact ⟨s, by omega, s2⟩
          · rintro ⟨s, s1, s2⟩
            exact ⟨s, by omega, s2⟩
        · unfold Zf
          rw [sumN, h2, Int.add_zero]
      rcases hE q hq with ⟨s1, s2, s3, s4⟩ | ⟨b, r, s1, s2, s3, s4, s5, s6, s7, s8⟩
      · exact wp_neg (by rw [f56, s1]; decide) (wpo_of ⟨by dsimp only; omega, e2, same s3 s4⟩)
      · refine wp_pos (by rw [f56, s1, w64_id (by omega), w64_id (by omega)]; omega) (wp_pos (by omega) ?_)
        have ev : S 56 q + shl64 (w32 (S 54 ((2 ^ P - 1) ^^^ q))) 32 = (b + Ud Co F P N q) * 4294967296 + r := by
          rw [f56, f54, s1, w32_id (by omega), shl64_32 (by omega)]
          omega
        refine wp_then rfl (wp_then rfl ?_)
        rw [ev]
        have hadd := TP.add (Ex2 := fun b r => EX A Co F P R K N q (b - Ud Co F P N q) r) (Z2 := fun b => ZX A Co F P R K N q (b - Ud Co F P N q)) (b2 := b + Ud Co F P N q) (r2 := r) (c2 := S 57 q) (by omega) e3 s2 (by omega) (by rw [Int.add_sub_cancel]; exact s4) (by rw [Int.add_sub_cancel, f57]; exact s5) (by rw [f57]; exact s6) (fun b' r' y => by
          have := s7 _ _ y
          omega) (fun b' y => s8 _ (by omega))
        have hadd2 := hadd.congr (Ex' := Exf A Co F P N R K (q + 1)) (Z' := Zf A Co F P N R K (q + 1)) (fun b r => by
          unfold Exf
          constructor
          · rintro ⟨s, u1, u2⟩
            by_cases e : s = q
            · rw [e] at u2
              exact Or.inr u2
            · exact Or.inl ⟨s, by omega, u2⟩
          · rintro (⟨s, u1, u2⟩ | u2)
            · exact ⟨s, by omega, u2⟩
            · exact ⟨q, by omega, u2⟩) (fun b => rfl)
        generalize hb2 : b + Ud Co F P N q = b2 at ev hadd2 ⊢
        rw [shr64_32 (by omega), shr64_32 (by omega)]
        have e4 : (b2 * 4294967296 + r) / 4294967296 = b2 := by omega
        rw [e4]
        have em : min64 best (b2 * 4294967296 + r) = if b2 * 4294967296 + r < best then b2 * 4294967296 + r else best := by
          unfold min64
          rw [w64_id (by omega), w64_id (by omega)]
        rw [← em] at hadd2
        have w0 : w64 0 = 0 := by decide
        by_cases c2 : b2 = best / 4294967296
        · rw [if_pos c2] at hadd2
          refine wp_pos (by rw [c2, Int.sub_self]) (wpo_of ⟨by dsimp only; omega, fr _, ?_⟩)
          dsimp only
          rw [ms_same]
          exact hadd2
        · rw [if_neg c2] at hadd2
          refine wp_neg (by rw [w0, w64_id (by omega)]; omega) ?_
          by_cases c3 : b2 < best / 4294967296
          · rw [if_pos c3] at hadd2
            refine wp_pos (by rw [w0, w64_id (by omega)]; omega) (wpo_of ⟨by dsimp only; omega, fr _, ?_⟩)
            dsimp only
            rw [ms_same]
            exact hadd2
          · rw [if_neg c3] at hadd2
            exact wp_neg (by rw [w0, w64_id (by omega)]; omega) (wpo_of ⟨by dsimp only; omega, e2, hadd2⟩)
    · rintro ⟨best, q', S⟩ ⟨e1, e2, e3⟩
      dsimp only at e1 e2 e3 ⊢
      subst e1
      exact wp_pos ((lt32 (by omega) (by omega)).mpr (by omega)) (wpo_of ⟨e2, e3⟩)
    · dsimp only
      rw [ms_at, if_neg (by omega)]
    · rintro b r ⟨s, h, -⟩
      exact absurd h (Nat.not_lt_zero _)
  · rintro ⟨v, S⟩ ⟨a1, a2⟩
    dsimp only at a1 a2 ⊢
    have a3 := a2.congr (Ex' := EXt A Co F P N R K) (Z' := ZXt A Co F P N R K) (fun b r => Exf_all hB) (fun b => Zf_all hB)
    rcases a3 with ⟨h1, h2, h3, h4⟩ | ⟨b, r, h1, h2, h3, h4, h5, h6, h7, h8⟩
    · obtain ⟨z, z1, -⟩ := Rea_none hB N
      exact absurd ⟨z, z1, rfl, rfl⟩ (h3 z.2.1 (row z.2.2))
    · refine wp_then rfl (wpo_of ⟨fun c i h => ?_, r, ?_, ?_⟩)
      · rw [ms_at, if_neg (by omega), ms_at, if_neg (by omega)]
        exact a1 c i (by omega)
      · rw [ms_ni (by decide), ms_same, ms_ni (by decide), ms_ni (by decide), shr64_32 (by omega), show v / 4294967296 = b by omega]
        exact ⟨by omega, h2, h4, h5, h6, h7, h8⟩
      · rw [ms_same, and64_low (by omega)]
        omega
