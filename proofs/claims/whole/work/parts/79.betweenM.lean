/-! BETWEEN BABIES: the reference's table (by hand) -/
/-- the reference, told the aches; persons and what they bear -/
def RB (D M : Mem) : Prop := M 118 = D 118 ∧ ∀ p, p < yP (yW (D 118)) → M 124 p = yW (D 118) 1 p
theorem sp_canBear {D M : Mem} {b p : Nat} {m : Int} (hI : IC D) (hR : RB D M) (hb : b < yP (yW (D 118))) (hp : p < yP (yW (D 118))) (hm : 0 ≤ m ∧ m ≤ 20) : f10_canBear M (b : Int) (p : Int) m = some (if b ≠ p ∧ yW (D 118) 1 p ≤ D 118 (10 + 4 * b + 3) + m then 1 else 0) := by
  have hP := hI.P
  have hab := yW_ache hI hp
  have hbb := hI.bears hb
  refine wp_is ?_
  unfold f10_canBear
  by_cases c1 : b = p
  · exact wp_pos (by rw [c1]) (wpo_of (by rw [if_neg (fun z => z.1 c1)]))
  · refine wp_neg (fun z => c1 (by have := (eq32 (by omega) (by omega)).mp z; omega)) (wp_pos (by omega) ?_)
    have ho : f10_of M (b : Int) 3 = some (D 118 (10 + 4 * b + 3)) := by
      unfold f10_of
      have et : ((10 + (4 * (b : Int))) + 3).toNat = 10 + 4 * b + 3 := by omega
      rw [if_pos (by omega), et, hR.1]
    refine wp_then ho ?_
    rw [Int.toNat_natCast, hR.2 p hp]
    by_cases c2 : D 118 (10 + 4 * b + 3) + m < yW (D 118) 1 p
    · exact wp_pos ((lt32 (by omega) (by omega)).mpr c2) (wpo_of (by rw [if_neg (fun z => by have := z.2; omega)]))
    · exact wp_neg (fun z => c2 ((lt32 (by omega) (by omega)).mp z)) (wpo_of (by rw [if_pos ⟨c1, by omega⟩]))
set_option maxHeartbeats 1000000 in
theorem sp_layPairs {D M : Mem} {s : Nat} {m : Int} (hI : IC D) (hR : RB D M) (hs : s < 256) (hm : 0 ≤ m ∧ m ≤ 20) : wpo (f10_layPairs M (s : Int) m) (fun r => r.1 = mB (fB (D 118) s m) s.testBit (yP (yW (D 118))) (yP (yW (D 118))) 0 ∧ (∀ c i, c ≠ 138 → r.2 c i = M c i) ∧ ∀ p u, p ≤ yP (yW (D 118)) → u < 2 ^ yP (yW (D 118)) → r.2 138 (256 * p + u) = mB (fB (D 118) s m) s.testBit (yP (yW (D 118))) (yP (yW (D 118)) - p) u) := by
  have hP := hI.P
  obtain ⟨n, hn⟩ : ∃ n, n = yP (yW (D 118)) := ⟨_, rfl⟩
  have h256 := pow8 hP.2
  have hpos : 0 < 2 ^ yP (yW (D 118)) := Nat.two_pow_pos _
  have hP1 : D 118 7 = (n : Int) := by rw [hn]; exact hP.1.symm
  rw [← hn] at hP h256 hpos ⊢
  have h8 : n ≤ 8 := hP.2
  have m7 : M 118 7 = (n : Int) := by rw [hR.1]; exact hP1
  unfold f10_layPairs
  rw [m7]
  refine wp_bind.mpr (wpo_mono (P := fun B => (∀ c i, c ≠ 138 → B c i = M c i) ∧ ∀ d u, d ≤ n → u < 2 ^ n → B 138 (256 * (n - d) + u) = mB (fB (D 118) s m) s.testBit n d u) ?_ ?_)
  · refine wp_for (I := fun k t => t.1 = (n : Int) - (k : Int) ∧ (∀ c i, c ≠ 138 → t.2 c i = M c i) ∧ ∀ d u, d < k → u < 2 ^ n → t.2 138 (256 * (n - d) + u) = mB (fB (D 118) s m) s.testBit n d u) (n + 1) ?_ ?_ FU 0 _ ⟨by dsimp only; omega, fun _ _ _ => rfl, fun d u hd => absurd hd (Nat.not_lt_zero _)⟩ (Nat.zero_le _) (by unfold FU; omega)
    · rintro k ⟨t1, N⟩ hk ⟨e1, e2, e3⟩
      dsimp only at e1 e2 e3 ⊢
      obtain ⟨p, hp⟩ : ∃ p : Nat, p = n - k := ⟨_, rfl⟩
      have hpk : (n : Int) - (k : Int) = (p : Int) := by omega
      rw [hpk] at e1
      subst e1
      refine wp_neg (by rw [w32_id (by omega)]; omega) ?_
      refine wp_bind.mpr (wpo_mono (P := fun C => (∀ c i, c ≠ 138 → C c i = M c i) ∧ (∀ d u, d < k → u < 2 ^ n → C 138 (256 * (n - d) + u) = mB (fB (D 118) s m) s.testBit n d u) ∧ ∀ u, u < 2 ^ n → C 138 (256 * p + u) = mB (fB (D 118) s m) s.testBit n k u) ?_ ?_)
      · refine wp_for (I := fun v t => t.1 = (v : Int) ∧ (∀ c i, c ≠ 138 → t.2 c i = M c i) ∧ (∀ d u, d < k → u < 2 ^ n → t.2 138 (256 * (n - d) + u) = mB (fB (D 118) s m) s.testBit n d u) ∧ ∀ u, u < v → t.2 138 (256 * p + u) = mB (fB (D 118) s m) s.testBit n k u) (2 ^ n) ?_ ?_ FU 0 _ ⟨rfl, e2, e3, fun u hu => absurd hu (Nat.not_lt_zero _)⟩ (Nat.zero_le _) (by unfold FU; omega)
        · rintro v ⟨u1, C⟩ hv ⟨c1, c2, c3, c4⟩
          dsimp only at c1 c2 c3 c4 ⊢
          subst c1
          have cR : RB D C := ⟨(funext (fun i => c2 118 i (by decide))).trans hR.1, fun q hq => (c2 124 q (by decide)).trans (hR.2 q hq)⟩
          have c7 : C 118 7 = (n : Int) := by rw [cR.1]; exact hP1
          have st : ∀ (a w : Nat), f10_state C (a : Int) (w : Int) = some ((256 * a + w : Nat) : Int) := fun a w => by
            show some (256 * (a : Int) + (w : Int)) = _
            congr 1
          have st1 : ∀ (w : Nat), f10_state C ((p : Int) + 1) (w : Int) = some ((256 * (p + 1) + w : Nat) : Int) := fun w => st (p + 1) w
          refine wp_then (sp_allP h8 c7) (wp_neg (fun q => absurd ((lt32 (by omega) (by omega)).mp q) (by omega)) ?_)
          refine wp_bind.mpr (wpo_mono (P := fun j => j = (if k = 0 then 0 else mB (fB (D 118) s m) s.testBit n (k - 1) v)) ?_ ?_)
          · by_cases ck : k = 0
            · refine wp_pos (by rw [show p = n by omega]) (wpo_of ?_)
              rw [if_pos ck]
            · refine wp_neg (fun z => ?_) (wp_then (st1 v) (wp_pos (by omega) (wpo_of ?_)))
              · have := (eq32 (by omega) (by omega)).mp z
                omega
              · rw [Int.toNat_natCast, if_neg ck]
                have := c3 (k - 1) v (by omega) hv
                have e : n - (k - 1) = p + 1 := by omega
                rw [e] at this
                exact this
          · rintro j rfl
            refine wp_bind.mpr (wpo_mono (P := fun z => z = mB (fB (D 118) s m) s.testBit n k v) ?_ ?_)
            · by_cases ck : k = 0
              · subst ck
                refine wp_loop (I := fun t => t.1 = 0) (mu := fun _ => 0) ?_ FU _ rfl (by unfold FU; omega)
                rintro ⟨z, b⟩ hz
                dsimp only at hz ⊢
                subst hz
                have hpn : p = n := by omega
                have stop : ¬ w32 (p : Int) < w32 (n : Int) := fun z => absurd ((lt32 (by omega) (by omega)).mp z) (by omega)
                by_cases cb : w32 b < w32 (n : Int)
                · exact wp_pos cb (wp_neg stop (wpo_of rfl))
                · exact wp_neg cb (wpo_of rfl)
              · obtain ⟨d, rfl⟩ : ∃ d, k = d + 1 := ⟨k - 1, by omega⟩
                rw [if_neg ck, Nat.add_sub_cancel]
                have hpd : p = n - (d + 1) := hp
                refine wp_for (I := fun b t => t = (bst (mB (fB (D 118) s m) s.testBit n d v) (fun b => s.testBit (n - (d + 1)) && (!v.testBit b && fB (D 118) s m (n - (d + 1)) b)) (fun b => mB (fB (D 118) s m) s.testBit n d (v ||| 1 <<< b)) b, (b : Int))) n ?_ ?_ FU 0 _ rfl (Nat.zero_le _) (by unfold FU; omega)
                · rintro b t hb rfl
                  dsimp only
                  have hol := or_lt hv hb
                  have hob := or_bit h8 hv hb
                  have hbb := bst_bd (z := mB (fB (D 118) s m) s.testBit n d v) (hi := 9) (c := fun b => s.testBit (n - (d + 1)) && (!v.testBit b && fB (D 118) s m (n - (d + 1)) b)) (v := fun b => mB (fB (D 118) s m) s.testBit n d (v ||| 1 <<< b)) (n := b) (by have := mB_bd (f := fB (D 118) s m) (g := s.testBit) (n := n) (d := d) (u := v); omega) (fun j _ => by have := mB_bd (f := fB (D 118) s m) (g := s.testBit) (n := n) (d := d) (u := v ||| 1 <<< j); omega)
                  have hmb := mB_bd (f := fB (D 118) s m) (g := s.testBit) (n := n) (d := d) (u := v ||| 1 <<< b)
                  have bt : ∀ x y : Nat, x < 256 → y < 8 → f10_bit C (x : Int) (y : Int) = some (if x.testBit y = true then 1 else 0) := fun x y hx hy => by
                    unfold f10_bit
                    rw [bit8 hx hy]
                  refine wp_pos ((lt32 (by omega) (by omega)).mpr (by omega)) (wp_pos ((lt32 (by omega) (by omega)).mpr (by omega)) (wp_then (bt s p hs (by omega)) ?_))
                  refine wp_then (a := bst (mB (fB (D 118) s m) s.testBit n d v) (fun b => s.testBit (n - (d + 1)) && (!v.testBit b && fB (D 118) s m (n - (d + 1)) b)) (fun b => mB (fB (D 118) s m) s.testBit n d (v ||| 1 <<< b)) (b + 1)) ?_ (wpo_of rfl)
                  refine wp_is ?_
                  rw [bst, ← hpd]
                  rw [← hpd] at hbb
                  by_cases g1 : s.testBit p = true
                  · refine wp_pos (by rw [if_pos g1]) (wp_then (bt v b (by omega) (by omega)) ?_)
                    by_cases g2 : v.testBit b = true
                    · refine wp_neg (by rw [if_pos g2]; decide) (wpo_of ?_)
                      rw [if_neg (by rw [g1, g2]; simp)]
                    · have g2' : v.testBit b = false := by simpa using g2
                      refine wp_pos (by rw [if_neg g2]; rfl) (wp_then (bt s b hs (by omega)) ?_)
                      have em : (if s.testBit b = true then (1 : Int) else 0) * m = (if s.testBit b = true then m else 0) := by
                        split
                        · rw [Int.one_mul]
                        · rw [Int.zero_mul]
                      rw [em]
                      refine wp_then (sp_canBear hI cR (by omega) (by omega) (by split <;> omega)) ?_
                      by_cases g3 : b ≠ p ∧ yW (D 118) 1 p ≤ D 118 (10 + 4 * b + 3) + (if s.testBit b = true then m else 0)
                      · have g3' : fB (D 118) s m p b = true := decide_eq_true g3
                        refine wp_neg (fun z => if01.mp z g3) ?_
                        rw [hob]
                        refine wp_then (st1 _) (wp_pos (by omega) (wpo_of ?_))
                        have hc3 := c3 d (v ||| 1 <<< b) (by omega) hol
                        have e : n - d = p + 1 := by omega
                        rw [e] at hc3
                        rw [Int.toNat_natCast, hc3, max32_id (by omega) (by omega), if_pos (by rw [g1, g2', g3']; rfl)]
                      · have g3' : fB (D 118) s m p b = false := decide_eq_false g3
                        refine wp_pos (if01.mpr g3) (wpo_of ?_)
                        rw [if_neg (by rw [g3', Bool.and_false, Bool.and_false]; decide)]
                  · have g1' : s.testBit p = false := by simpa using g1
                    refine wp_neg (by rw [if_neg g1]; decide) (wpo_of ?_)
                    rw [if_neg (by rw [g1', Bool.false_and]; decide)]
                · rintro t rfl
                  dsimp only
                  exact wp_neg (fun q => absurd ((lt32 (by omega) (by omega)).mp q) (by omega)) (wpo_of rfl)
            · rintro z rfl
              refine wp_then (st p v) (wp_pos (by omega) (wpo_of ⟨by dsimp only; omega, fun c i h => ?_, fun d u hd hu => ?_, fun u hu => ?_⟩))
              · dsimp only
                rw [ms_ne h]
                exact c2 c i h
              · dsimp only
                rw [Int.toNat_natCast, ms_ni (by omega)]
                exact c3 d u hd hu
              · dsimp only
                rw [Int.toNat_natCast]
                by_cases e : u = v
                · rw [e, ms_same]
                · rw [ms_ni (by omega)]
                  exact c4 u (by omega)
        · rintro ⟨u1, C⟩ ⟨c1, c2, c3, c4⟩
          dsimp only at c1 c2 c3 c4 ⊢
          subst c1
          have c7 : C 118 7 = (n : Int) := by rw [c2 118 7 (by decide), hR.1]; exact hP1
          exact wp_then (sp_allP h8 c7) (wp_pos ((lt32 (by omega) (by omega)).mpr (by omega)) (wpo_of ⟨c2, c3, c4⟩))
      · rintro C ⟨c2, c3, c4⟩
        refine wpo_of ⟨by dsimp only; omega, c2, fun d u hd hu => ?_⟩
        dsimp only
        by_cases e : d = k
        · rw [e, ← hp]
          exact c4 u hu
        · exact c3 d u (by omega) hu
    · rintro ⟨t1, N⟩ ⟨e1, e2, e3⟩
      dsimp only at e1 e2 e3 ⊢
      exact wp_pos (by rw [e1, w32_id (by omega)]; omega) (wpo_of ⟨e2, fun d u hd hu => e3 d u (by omega) hu⟩)
  · rintro B ⟨b1, b2⟩
    have hall : ∀ p u, p ≤ n → u < 2 ^ n → B 138 (256 * p + u) = mB (fB (D 118) s m) s.testBit n (n - p) u := fun p u hp hu => by
      have e : n - (n - p) = p := by omega
      have := b2 (n - p) u (by omega) hu
      rw [e] at this
      exact this
    refine wpo_of ⟨?_, b1, hall⟩
    have := hall 0 0 (Nat.zero_le _) hpos
    rw [Nat.sub_zero] at this
    exact this
