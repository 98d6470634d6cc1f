/-! SUMS BY SETS on both sides (by hand) -/
theorem pow8 {P : Nat} (h : P ≤ 8) : 2 ^ P ≤ 256 := (Nat.pow_le_pow_right (by decide) h : 2 ^ P ≤ 2 ^ 8)
theorem sp_sumBySets {D : Mem} {v P o : Nat} {f : Nat → Int} (hP : P ≤ 8) (ho : o ≠ v) (hf : ∀ p, p < P → D v p = f p) : wpo (f9_sumBySets D v (P : Int) o) (fun M => (∀ c i, c ≠ o → M c i = D c i) ∧ ∀ s, s < 2 ^ P → M o s = aS f P s) := by
  have h256 := pow8 hP
  unfold f9_sumBySets
  refine wp_then rfl ?_
  refine wp_bind.mpr ?_
  simp only [wp_some]
  refine wp_for (I := fun k t => t.1 = (k : Int) ∧ (∀ c i, c ≠ o → t.2 c i = D c i) ∧ ∀ s, s < 2 ^ k → t.2 o s = aS f k s) P ?_ ?_ FU 0 _ ⟨rfl, fun c i h => ms_ne h, fun s hs => ?_⟩ (Nat.zero_le _) (by unfold FU; omega)
  · rintro k ⟨t1, M⟩ hk ⟨e1, e2, e3⟩
    dsimp only at e1 e2 e3 ⊢
    subst e1
    have hk2 : 2 ^ (k + 1) ≤ 256 := pow8 (by omega)
    have hks : 2 ^ (k + 1) = 2 ^ k * 2 := Nat.pow_succ 2 k
    refine wp_pos ((lt32 (by omega) (by omega)).mpr (by omega)) ?_
    refine wp_bind.mpr (wpo_mono (P := fun B => (∀ c i, c ≠ o → B c i = D c i) ∧ ∀ s, s < 2 ^ (k + 1) → B o s = aS f (k + 1) s) ?_ (fun B hB => wpo_of ⟨by dsimp only; omega, hB⟩))
    refine wp_for (I := fun a u => u.1 = (a : Int) ∧ (∀ c i, c ≠ o → u.2 c i = D c i) ∧ ∀ s, s < 2 ^ (k + 1) → (s < 2 ^ k ∨ s < 2 ^ k + a) → u.2 o s = aS f (k + 1) s) (2 ^ k) ?_ ?_ FU 0 _ ⟨rfl, e2, fun s hs h => ?_⟩ (Nat.zero_le _) (by unfold FU; omega)
    · rintro a ⟨u1, B⟩ ha ⟨b1, b2, b3⟩
      dsimp only at b1 b2 b3 ⊢
      subst b1
      refine wp_pos (by rw [shl_one (by omega)]; exact (lt32 (by omega) (by omega)).mpr (by omega)) (wp_pos (by omega) (wp_pos (by omega) ?_))
      rw [or_two ha (by omega)]
      refine wp_pos (by omega) (wpo_of ⟨by dsimp only; omega, fun c i h => ?_, fun s hs h => ?_⟩)
      · dsimp only
        rw [ms_ne h]
        exact b2 c i h
      · dsimp only
        rw [Int.toNat_natCast, Int.toNat_natCast, Int.toNat_natCast]
        by_cases hsa : s = a + 2 ^ k
        · subst hsa
          rw [ms_same, aS_add ha, b3 a (by omega) (Or.inl ha), aS_off ha, b2 v k (fun z => ho z.symm), hf k hk]
        · rw [ms_ni hsa]
          exact b3 s hs (by omega)
    · rintro ⟨u1, B⟩ ⟨b1, b2, b3⟩
      dsimp only at b1 b2 b3 ⊢
      subst b1
      exact wp_neg (by rw [shl_one (by omega)]; exact fun q => absurd ((lt32 (by omega) (by omega)).mp q) (by omega)) (wpo_of ⟨b2, fun s hs => b3 s hs (by omega)⟩)
    · dsimp only
      rw [aS_off (by omega)]
      exact e3 s (by omega)
  · rintro ⟨t1, M⟩ ⟨e1, e2, e3⟩
    dsimp only at e1 e2 e3 ⊢
    subst e1
    exact wp_neg (fun q => absurd ((lt32 (by omega) (by omega)).mp q) (by omega)) (wpo_of ⟨e2, e3⟩)
  · have h0 : s = 0 := by
      rw [Nat.pow_zero] at hs
      omega
    subst h0
    dsimp only
    rw [ms_same]
    rfl
theorem sp_allP {M : Mem} {P : Nat} (hP : P ≤ 8) (h : M 118 7 = (P : Int)) : f10_allPersons M = some (((2 ^ P : Nat) : Int) - 1) := by
  unfold f10_allPersons
  rw [h, shl_one (by omega)]
theorem bit8 {s p : Nat} (hs : s < 256) (hp : p < 8) : and32 (shr32 (s : Int) (p : Int)) 1 = if s.testBit p = true then 1 else 0 := bit_of (by omega) (by omega)
set_option maxHeartbeats 1000000 in
theorem sp_laySums {Y M : Mem} (hY : YOK Y) (hM : YM Y M) : wpo (f10_laySums M) (fun M' => (∀ c i, c ≠ 133 → c ≠ 134 → M' c i = M c i) ∧ ∀ s, s < 2 ^ yP Y → M' 133 s = aS (Y 1) (yP Y) s ∧ M' 134 s = aS (ycost Y) (yP Y) s) := by
  have hP := hY.P
  have h256 := pow8 hP.2
  have hpos : 0 < 2 ^ yP Y := Nat.two_pow_pos _
  have e7 : M 118 7 = (yP Y : Int) := by rw [← hM.2.2.2.2.2.2.1]; exact hP.1.symm
  unfold f10_laySums
  refine wp_bind.mpr ?_
  simp only [wp_some]
  refine wp_for (I := fun k t => t.1 = (k : Int) ∧ (∀ c i, c ≠ 133 → c ≠ 134 → t.2 c i = M c i) ∧ ∀ s, s < k → t.2 133 s = aS (Y 1) (yP Y) s ∧ t.2 134 s = aS (ycost Y) (yP Y) s) (2 ^ yP Y) ?_ ?_ FU 0 _ ⟨rfl, fun _ _ _ _ => rfl, fun s hs => absurd hs (Nat.not_lt_zero _)⟩ (Nat.zero_le _) (by unfold FU; omega)
  · rintro k ⟨t1, N⟩ hk ⟨e1, e2, e3⟩
    dsimp only at e1 e2 e3 ⊢
    subst e1
    have n7 : N 118 7 = (yP Y : Int) := (e2 118 7 (by decide) (by decide)).trans e7
    refine wp_then (sp_allP hP.2 n7) (wp_neg (fun q => absurd ((lt32 (by omega) (by omega)).mp q) (by omega)) (wp_pos (by omega) (wp_then rfl (wp_then rfl ?_))))
    rw [Int.toNat_natCast]
    refine wp_bind.mpr (wpo_mono (P := fun B => (∀ c i, c ≠ 133 → c ≠ 134 → B c i = M c i) ∧ (∀ s, s < k → B 133 s = aS (Y 1) (yP Y) s ∧ B 134 s = aS (ycost Y) (yP Y) s) ∧ B 133 k = aS (Y 1) (yP Y) k ∧ B 134 k = aS (ycost Y) (yP Y) k) ?_ ?_)
    · refine wp_for (I := fun p u => u.1 = (p : Int) ∧ (∀ c i, c ≠ 133 → c ≠ 134 → u.2 c i = M c i) ∧ (∀ s, s < k → u.2 133 s = aS (Y 1) (yP Y) s ∧ u.2 134 s = aS (ycost Y) (yP Y) s) ∧ u.2 133 k = sumN (fun p => if k.testBit p = true then Y 1 p else 0) p ∧ u.2 134 k = sumN (fun p => if k.testBit p = true then ycost Y p else 0) p) (yP Y) ?_ ?_ FU 0 _ ⟨rfl, fun c i h h' => ?_, fun s hs => ?_, ?_, ?_⟩ (Nat.zero_le _) (by unfold FU; omega)
      · rintro p ⟨u1, B⟩ hp ⟨b1, b2, b3, b4, b5⟩
        dsimp only at b1 b2 b3 b4 b5 ⊢
        subst b1
        have b7 : B 118 7 = (yP Y : Int) := (b2 118 7 (by decide) (by decide)).trans e7
        have hbit : ∀ N : Mem, f10_bit N (k : Int) (p : Int) = some (if k.testBit p = true then 1 else 0) := fun N => by
          unfold f10_bit
          rw [bit8 (by omega) (by omega)]
        have b124 : B 124 p = Y 1 p := (b2 124 p (by decide) (by decide)).trans (hM.2.2.2.2.2.2.2.2 p hp).1.symm
        refine wp_pos (by rw [b7]; exact (lt32 (by omega) (by omega)).mpr (by omega)) (wp_then (hbit _) (wp_pos (by omega) (wp_then rfl (wp_then (hbit _) ?_))))
        rw [Int.toNat_natCast]
        refine wp_then (sp_costOf hY (hM.congr (fun c i hc => ?_)) hp) (wpo_of ⟨by dsimp only; omega, fun c i h h' => ?_, fun s hs => ?_, ?_, ?_⟩)
        · rw [ms_ne (by omega)]
          exact b2 c i (by omega) (by omega)
        · dsimp only
          rw [ms_ne h', ms_ne h]
          exact b2 c i h h'
        · dsimp only
          rw [ms_ne (by decide), ms_ni (by omega), ms_ni (by omega), ms_ne (by decide)]
          exact b3 s hs
        · dsimp only
          rw [ms_ne (by decide), ms_same, b4, b124, sumN]
          congr 1
          split
          · rw [Int.one_mul]
          · rw [Int.zero_mul]
        · dsimp only
          rw [ms_same, ms_ne (by decide), b5, sumN]
          congr 1
          split
          · rw [Int.one_mul]
          · rw [Int.zero_mul]
      · rintro ⟨u1, B⟩ ⟨b1, b2, b3, b4, b5⟩
        dsimp only at b1 b2 b3 b4 b5 ⊢
        subst b1
        have b7 : B 118 7 = (yP Y : Int) := (b2 118 7 (by decide) (by decide)).trans e7
        exact wp_neg (by rw [b7]; exact fun q => absurd ((lt32 (by omega) (by omega)).mp q) (by omega)) (wpo_of ⟨b2, b3, b4, b5⟩)
      · dsimp only
        rw [ms_ne h', ms_ne h]
        exact e2 c i h h'
      · dsimp only
        rw [ms_ne (by decide), ms_ni (by omega), ms_ni (by omega), ms_ne (by decide)]
        exact e3 s hs
      · dsimp only
        rw [ms_ne (by decide), ms_same]
        rfl
      · dsimp only
        rw [ms_same]
        rfl
    · rintro B ⟨b2, b3, b4, b5⟩
      refine wpo_of ⟨by dsimp only; omega, b2, fun s hs => ?_⟩
      dsimp only
      by_cases hsk : s = k
      · subst hsk
        exact ⟨b4, b5⟩
      · exact b3 s (by omega)
  · rintro ⟨t1, N⟩ ⟨e1, e2, e3⟩
    dsimp only at e1 e2 e3 ⊢
    subst e1
    have n7 : N 118 7 = (yP Y : Int) := (e2 118 7 (by decide) (by decide)).trans e7
    exact wp_then (sp_allP hP.2 n7) (wp_pos ((lt32 (by omega) (by omega)).mpr (by omega)) (wpo_of ⟨e2, e3⟩))
