/-! PLANS: the planner's tables by sets (by hand) -/
def PT (A Co F : Nat → Int) (P N : Nat) (M : Mem) : Prop := ∀ s, s < 2 ^ P → M 51 s = aS A P s ∧ M 52 s = aS Co P s ∧ M 53 s = aS (fun p => Co p * F p) P s ∧ M 54 s = aS (fun p => Co p * max 0 ((N : Int) - F p)) P s ∧ M 55 s = aS mkk P s
theorem PT.congr {A Co F : Nat → Int} {P N : Nat} {M M' : Mem} (h : PT A Co F P N M) (k : ∀ c i, 51 ≤ c → c ≤ 55 → M' c i = M c i) : PT A Co F P N M' := fun s hs => by
  rw [k 51 s (by decide) (by decide), k 52 s (by decide) (by decide), k 53 s (by decide) (by decide), k 54 s (by decide) (by decide), k 55 s (by decide) (by decide)]
  exact h s hs
theorem sp_fill50 {D : Mem} {P : Nat} {v : Nat → Int} {f : Int × Mem → Option ((Int × Mem) ⊕ Mem)} (hP : P ≤ 8) (hf : ∀ (j : Nat) (M : Mem), j < P → (∀ c i, c ≠ 50 → M c i = D c i) → f ((j : Int), M) = some (Sum.inl ((j : Int) + 1, mset M 50 j (v j)))) (he : ∀ M : Mem, (∀ c i, c ≠ 50 → M c i = D c i) → f ((P : Int), M) = some (Sum.inr M)) : wpo (loop f FU (0, D)) (fun M => (∀ c i, c ≠ 50 → M c i = D c i) ∧ ∀ p, p < P → M 50 p = v p) := by
  refine wp_for (I := fun j t => t.1 = (j : Int) ∧ (∀ c i, c ≠ 50 → t.2 c i = D c i) ∧ ∀ p, p < j → t.2 50 p = v p) P ?_ ?_ FU 0 _ ⟨rfl, fun _ _ _ => rfl, fun p hp => absurd hp (Nat.not_lt_zero _)⟩ (Nat.zero_le _) (by unfold FU; omega)
  · rintro j ⟨t1, M⟩ hj ⟨a1, a2, a3⟩
    dsimp only at a1 a2 a3
    subst a1
    rw [hf j M hj a2]
    refine wpo_of ⟨by dsimp only; omega, fun c i h => ?_, fun p hp => ?_⟩
    · dsimp only
      rw [ms_ne h]
      exact a2 c i h
    · dsimp only
      by_cases e : p = j
      · rw [e, ms_same]
      · rw [ms_ni e]
        exact a3 p (by omega)
  · rintro ⟨t1, M⟩ ⟨a1, a2, a3⟩
    dsimp only at a1 a2 a3
    subst a1
    rw [he M a2]
    exact wpo_of ⟨a2, a3⟩
theorem sp_marks {D : Mem} {P : Nat} (hP : P ≤ 8) (h8 : D 12 8 = (P : Int)) : wpo (@loop (Int × Mem) (Mem) (fun s4 => if w32 s4.1 < w32 (D 12 8) then Option.bind (@loop (Int × Mem) (Mem) (fun s5 => if w32 s5.1 < w32 (shl32 1 s4.1) then (if 0 ≤ s5.1 ∧ s5.1 < 256 then Option.bind (f3_shiftOf s5.2 s4.1) fun (a5 : Int) => if 0 ≤ (or32 s5.1 (shl32 1 s4.1)) ∧ (or32 s5.1 (shl32 1 s4.1)) < 256 then some (Sum.inl ((s5.1 + 1), (mset s5.2 55 (or32 s5.1 (shl32 1 s4.1)).toNat ((s5.2 55 s5.1.toNat) + (shl64 1 a5))))) else none else none) else some (Sum.inr s5.2)) FU (0, s4.2)) fun (b5 : Mem) => some (Sum.inl ((s4.1 + 1), b5)) else some (Sum.inr s4.2)) FU (0, mset D 55 0 0)) (fun M => (∀ c i, c ≠ 55 → M c i = D c i) ∧ ∀ s, s < 2 ^ P → M 55 s = aS mkk P s) := by
  have h256 := pow8 hP
  refine wp_for (I := fun k t => t.1 = (k : Int) ∧ (∀ c i, c ≠ 55 → t.2 c i = D c i) ∧ ∀ s, s < 2 ^ k → t.2 55 s = aS mkk k s) P ?_ ?_ FU 0 _ ⟨rfl, fun c i h => ms_ne h, fun s hs => ?_⟩ (Nat.zero_le _) (by unfold FU; omega)
  · rintro k ⟨t1, M⟩ hk ⟨e1, e2, e3⟩
    dsimp only at e1 e2 e3 ⊢
    subst e1
    have hk2 : 2 ^ (k + 1) ≤ 256 := pow8 (by omega)
    have hks : 2 ^ (k + 1) = 2 ^ k * 2 := Nat.pow_succ 2 k
    refine wp_pos (by rw [h8]; exact (lt32 (by omega) (by omega)).mpr (by omega)) ?_
    refine wp_bind.mpr (wpo_mono (P := fun B => (∀ c i, c ≠ 55 → B c i = D c i) ∧ ∀ s, s < 2 ^ (k + 1) → B 55 s = aS mkk (k + 1) s) ?_ (fun B hB => wpo_of ⟨by dsimp only; omega, hB⟩))
    refine wp_for (I := fun a u => u.1 = (a : Int) ∧ (∀ c i, c ≠ 55 → u.2 c i = D c i) ∧ ∀ s, s < 2 ^ (k + 1) → (s < 2 ^ k ∨ s < 2 ^ k + a) → u.2 55 s = aS mkk (k + 1) s) (2 ^ k) ?_ ?_ FU 0 _ ⟨rfl, e2, fun s hs h => ?_⟩ (Nat.zero_le _) (by unfold FU; omega)
    · rintro a ⟨u1, B⟩ ha ⟨b1, b2, b3⟩
      dsimp only at b1 b2 b3 ⊢
      subst b1
      refine wp_pos (by rw [shl_one (by omega)]; exact (lt32 (by omega) (by omega)).mpr (by omega)) (wp_pos (by omega) (wp_then rfl ?_))
      rw [or_two ha (by omega)]
      refine wp_pos (by omega) (wpo_of ⟨by dsimp only; omega, fun c i h => ?_, fun s hs h => ?_⟩)
      · dsimp only
        rw [ms_ne h]
        exact b2 c i h
      · dsimp only
        rw [Int.toNat_natCast, Int.toNat_natCast]
        by_cases hsa : s = a + 2 ^ k
        · subst hsa
          rw [ms_same, aS_add ha, b3 a (by omega) (Or.inl ha), aS_off ha, mark_shl k (by omega)]
        · rw [ms_ni hsa]
          exact b3 s hs (by omega)
    · rintro ⟨u1, B⟩ ⟨b1, b2, b3⟩
      dsimp only at b1 b2 b3 ⊢
      subst b1
      exact wp_neg (by rw [shl_one (by omega)]; exact fun q => absurd ((lt32 (by omega) (by omega)).mp q) (by omega)) (wpo_of ⟨b2, fun s hs => b3 s hs (by omega)⟩)
    · dsimp only
      rw [aS_off (by omega)]
      exact e3 s (by omega)
  · rintro ⟨t1, M⟩ ⟨e1, e2, e3⟩
    dsimp only at e1 e2 e3 ⊢
    subst e1
    exact wp_neg (by rw [h8]; exact fun q => absurd ((lt32 (by omega) (by omega)).mp q) (by omega)) (wpo_of ⟨e2, e3⟩)
  · have h0 : s = 0 := by
      rw [Nat.pow_zero] at hs
      omega
    subst h0
    dsimp only
    rw [ms_same]
    rfl
theorem sp_addUp {D : Mem} {A V F : Nat → Int} {P N : Nat} (hP : P ≤ 8) (h8 : D 12 8 = (P : Int)) (h1 : D 12 1 = (N : Int)) (hN : N ≤ 12) (hF : ∀ p, p < P → 0 ≤ F p ∧ F p ≤ 100) (h13 : ∀ p, p < P → D 13 p = A p ∧ D 14 p = F p ∧ D 15 p = V p) : wpo (f3_addUp D) (fun M => (∀ c i, (c < 50 ∨ 55 < c) → M c i = D c i) ∧ PT A (fun p => A p * V p) F P N M) := by
  unfold f3_addUp
  refine wp_bind.mpr (wpo_mono (by rw [h8]; exact sp_sumBySets (o := 51) hP (by decide) (fun p hp => (h13 p hp).1)) ?_)
  rintro M1 ⟨a1, a2⟩
  refine wp_bind.mpr (wpo_mono (sp_fill50 (P := P) (v := fun p => A p * V p) hP ?_ ?_) ?_)
  · intro j M hj hM
    refine wp_is ?_
    refine wp_pos (by rw [h8]; exact (lt32 (by omega) (by omega)).mpr (by omega)) (wp_pos (by omega) (wpo_of ?_))
    dsimp only
    rw [Int.toNat_natCast, hM 13 j (by decide), hM 15 j (by decide), a1 13 j (by decide), a1 15 j (by decide), (h13 j hj).1, (h13 j hj).2.2]
  · intro M hM
    exact wp_is (wp_neg (by rw [h8]; exact fun q => absurd ((lt32 (by omega) (by omega)).mp q) (by omega)) (wpo_of rfl))
  rintro M2 ⟨b1, b2⟩
  refine wp_bind.mpr (wpo_mono (by rw [h8]; exact sp_sumBySets (o := 52) hP (by decide) b2) ?_)
  rintro M3 ⟨c1, c2⟩
  have f3 : ∀ c i, c ≠ 50 → c ≠ 51 → c ≠ 52 → M3 c i = D c i := fun c i x y z => (c1 c i z).trans ((b1 c i x).trans (a1 c i y))
  refine wp_bind.mpr (wpo_mono (sp_fill50 (P := P) (v := fun p => A p * V p * F p) hP ?_ ?_) ?_)
  · intro j M hj hM
    refine wp_is ?_
    refine wp_pos (by rw [h8]; exact (lt32 (by omega) (by omega)).mpr (by omega)) (wp_pos (by omega) (wpo_of ?_))
    dsimp only
    rw [Int.toNat_natCast, hM 13 j (by decide), hM 15 j (by decide), hM 14 j (by decide), f3 13 j (by decide) (by decide) (by decide), f3 15 j (by decide) (by decide) (by decide), f3 14 j (by decide) (by decide) (by decide), (h13 j hj).1, (h13 j hj).2.1, (h13 j hj).2.2]
  · intro M hM
    exact wp_is (wp_neg (by rw [h8]; exact fun q => absurd ((lt32 (by omega) (by omega)).mp q) (by omega)) (wpo_of rfl))
  rintro M4 ⟨d1, d2⟩
  refine wp_bind.mpr (wpo_mono (by rw [h8]; exact sp_sumBySets (o := 53) hP (by decide) d2) ?_)
  rintro M5 ⟨g1, g2⟩
  have f5 : ∀ c i, c ≠ 50 → c ≠ 51 → c ≠ 52 → c ≠ 53 → M5 c i = D c i := fun c i x y z w => (g1 c i w).trans ((d1 c i x).trans (f3 c i x y z))
  refine wp_bind.mpr (wpo_mono (sp_fill50 (P := P) (v := fun p => A p * V p * max 0 ((N : Int) - F p)) hP ?_ ?_) ?_)
  · intro j M hj hM
    have hj1 := hF j hj
    refine wp_is ?_
    refine wp_pos (by rw [h8]; exact (lt32 (by omega) (by omega)).mpr (by omega)) (wp_pos (by omega) (wp_then rfl (wpo_of ?_)))
    dsimp only
    rw [Int.toNat_natCast, hM 13 j (by decide), hM 15 j (by decide), hM 14 j (by decide), hM 12 1 (by decide), f5 13 j (by decide) (by decide) (by decide) (by decide), f5 15 j (by decide) (by decide) (by decide) (by decide), f5 14 j (by decide) (by decide) (by decide) (by decide), f5 12 1 (by decide) (by decide) (by decide) (by decide), (h13 j hj).1, (h13 j hj).2.1, (h13 j hj).2.2, h1, max32_id (by omega) (by omega)]
  · intro M hM
    exact wp_is (wp_neg (by rw [h8]; exact fun q => absurd ((lt32 (by omega) (by omega)).mp q) (by omega)) (wpo_of rfl))
  rintro M6 ⟨k1, k2⟩
  refine wp_bind.mpr (wpo_mono (by rw [h8]; exact sp_sumBySets (o := 54) hP (by decide) k2) ?_)
  rintro M7 ⟨l1, l2⟩
  refine wp_then rfl ?_
  have f7 : ∀ c i, (c < 50 ∨ 54 < c) → M7 c i = D c i := fun c i h => (l1 c i (by omega)).trans ((k1 c i (by omega)).trans (f5 c i (by omega) (by omega) (by omega) (by omega)))
  have h7 : M7 12 8 = D 12 8 := f7 12 8 (by omega)
  rw [← h7]
  refine wp_bind.mpr (wpo_mono (sp_marks hP (h7.trans h8)) ?_)
  rintro M8 ⟨m1, m2⟩
  refine wpo_of ⟨fun c i h => (m1 c i (by omega)).trans (f7 c i (by omega)), fun s hs => ⟨?_, ?_, ?_, ?_, m2 s hs⟩⟩
  · rw [m1 51 s (by decide), l1 51 s (by decide), k1 51 s (by decide), g1 51 s (by decide), d1 51 s (by decide), c1 51 s (by decide), b1 51 s (by decide)]
    exact a2 s hs
  · rw [m1 52 s (by decide), l1 52 s (by decide), k1 52 s (by decide), g1 52 s (by decide), d1 52 s (by decide)]
    exact c2 s hs
  · rw [m1 53 s (by decide), l1 53 s (by decide), k1 53 s (by decide)]
    exact g2 s hs
  · rw [m1 54 s (by decide)]
    exact l2 s hs
