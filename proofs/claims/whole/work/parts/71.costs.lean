/-! WHAT IS KEPT OF COSTS (by hand) -/
/-- what the class keeps of costs is right -/
def YTC (W : Nat → Int) (C : Nat → Int) : Prop := TC (yW W 1) (yP (yW W)) (yW W 0 1) (2 ^ yP (yW W)) C ∧ ∀ s : Nat, s < 2 ^ yP (yW W) → -1 ≤ C s ∧ C s ≤ (s : Int)
def KC (D : Mem) : Prop := D 64 1 = 0 ∨ (D 64 1 = 1 ∧ YTC (D 118) (D 66))
theorem TC.congr {A : Nat → Int} {P n : Nat} {R : Int} {C C' : Nat → Int} (h : TC A P R n C) (h0 : 0 < n) (e : ∀ s, s < n → C' s = C s) : TC A P R n C' := by
  refine ⟨(e 0 h0).trans h.1, fun s hs hn => ?_⟩
  obtain ⟨i, i8, hl, hc⟩ := h.2 s hs hn
  have l1 := xor_lt (sub_one hl.1) (one_shl_ne (i := i))
  refine ⟨i, i8, hl, ?_⟩
  rw [e s hn, e _ (show s ^^^ (1 <<< i) < n by omega)]
  rcases hc with hc | ⟨c0, hc | ⟨⟨q, q1, q2, q3⟩, c3⟩⟩
  · exact Or.inl hc
  · exact Or.inr ⟨c0, Or.inl hc⟩
  · refine Or.inr ⟨c0, Or.inr ⟨⟨q, q1, q2, ?_⟩, fun r hr hri => ?_⟩⟩
    · rw [e _ (show s ^^^ q < n by have := xor_lt q1.2.1 q1.1; omega)]
      exact q3
    · rw [e _ (show s ^^^ r < n by have := xor_lt hr.2.1 hr.1; omega)]
      exact c3 r hr hri
theorem yW_ache {D : Mem} (hI : IC D) {p : Nat} (hp : p < yP (yW (D 118))) : 1 ≤ yW (D 118) 1 p ∧ yW (D 118) 1 p ≤ 20 := by
  have hP := hI.P
  have hA := hI.1.A
  exact wAche_bd hI.1 (by omega) (by omega)
theorem sp_workC {D M : Mem} (hI : IC D) (hK : KC D) (hs : SX 64 66 D M) (h1 : M 64 1 = D 64 1) (h66 : M 66 = D 66) : wpo (f1_work M) (fun M' => SX 64 66 D M' ∧ M' 64 1 = 1 ∧ YTC (D 118) (M' 66)) := by
  have hP := hI.P
  have hb := hI.1.bd
  have h256 := pow8 hP.2
  have hpos : 0 < 2 ^ yP (yW (D 118)) := Nat.two_pow_pos _
  have hA : ∀ p, p < yP (yW (D 118)) → 0 ≤ yW (D 118) 1 p ∧ yW (D 118) 1 p ≤ 20 := fun p hp => by have := yW_ache hI hp; omega
  unfold f1_work
  rcases hK with k0 | ⟨k1, k2⟩
  · refine wp_pos (by rw [h1, k0]; rfl) ?_
    have e8 : M 12 8 = (yP (yW (D 118)) : Int) := by rw [hs.keep (by omega) (by omega), hI.e8, hP.1]
    have e2 : M 12 2 = yW (D 118) 0 1 := by rw [hs.keep (by omega) (by omega)]; exact hI.2.1.1.2.2.1
    have e13 : ∀ p, p < yP (yW (D 118)) → M 13 p = yW (D 118) 1 p := fun p hp => by rw [hs.keep (by omega) (by omega)]; exact (hI.2.1.2.1 p (by omega)).1
    refine wp_bind.mpr (wpo_mono (by rw [e8]; exact sp_sumBySets hP.2 (by decide) e13) ?_)
    rintro M1 ⟨a1, a2⟩
    have f8 : M1 12 8 = (yP (yW (D 118)) : Int) := (a1 12 8 (by decide)).trans e8
    refine wp_then rfl (wp_then rfl ?_)
    rw [f8, shl_one (by omega)]
    refine wp_bind.mpr (wpo_mono (P := fun B => (∀ c i, c ≠ 66 → B c i = M1 c i) ∧ YTC (D 118) (B 66)) ?_ ?_)
    · refine wp_for (I := fun k t => t.1 = (k : Int) ∧ 0 < k ∧ (∀ c i, c ≠ 66 → t.2 c i = M1 c i) ∧ TC (yW (D 118) 1) (yP (yW (D 118))) (yW (D 118) 0 1) k (t.2 66) ∧ ∀ s : Nat, s < k → -1 ≤ t.2 66 s ∧ t.2 66 s ≤ (s : Int)) (2 ^ yP (yW (D 118))) ?_ ?_ FU 1 _ ⟨rfl, Nat.zero_lt_one, fun c i h => ms_ne h, ⟨by dsimp only; exact ms_same, fun s h1 h2 => by omega⟩, fun s h => ?_⟩ (by omega) (by unfold FU; omega)
      · rintro k ⟨t1, B⟩ hk ⟨b1, b2, b3, b4, b5⟩
        dsimp only at b1 b2 b3 b4 b5 ⊢
        subst b1
        refine wp_pos ((lt32 (by omega) (by omega)).mpr (by omega)) ?_
        refine wp_bind.mpr (wpo_mono (sp_fewest (A := yW (D 118) 1) (P := yP (yW (D 118))) (R := yW (D 118) 0 1) hP.2 hA (by show 0 ≤ D 118 1 ∧ D 118 1 ≤ 160; omega) (by rw [b3 12 2 (by decide), a1 12 2 (by decide)]; exact e2) (fun q hq => by rw [b3 65 q (by decide)]; exact a2 q hq) b5 (by omega) hk) ?_)
        rintro v ⟨v1, v2⟩
        refine wp_pos (by omega) (wpo_of ?_)
        rw [Int.toNat_natCast]
        have g : ∀ s, s < k → mset B 66 k v 66 s = B 66 s := fun s hs => ms_ni (by omega)
        refine ⟨by dsimp only; omega, by omega, fun c i h => ?_, ⟨?_, fun s hs1 hs2 => ?_⟩, fun s hs => ?_⟩
        · dsimp only
          rw [ms_ne h]
          exact b3 c i h
        · dsimp only
          rw [g 0 b2]
          exact b4.1
        · dsimp only
          by_cases hsk : s = k
          · subst hsk
            obtain ⟨i, i8, hl, hc⟩ := v2
            have l1 := xor_lt (sub_one hl.1) (one_shl_ne (i := i))
            refine ⟨i, i8, hl, ?_⟩
            rw [ms_same, g _ l1]
            have hc2 : (B 66 (s ^^^ (1 <<< i)) = -1 ∧ v = -1) ∨ (B 66 (s ^^^ (1 <<< i)) ≠ -1 ∧ ((v = -1 ∧ ∀ q, Fit (yW (D 118) 1) (yP (yW (D 118))) (yW (D 118) 0 1) q s → q.testBit i = false) ∨ ((∃ q, Fit (yW (D 118) 1) (yP (yW (D 118))) (yW (D 118) 0 1) q s ∧ q.testBit i = true ∧ v = 1 + B 66 (s ^^^ q)) ∧ ∀ q, Fit (yW (D 118) 1) (yP (yW (D 118))) (yW (D 118) 0 1) q s → q.testBit i = true → v ≤ 1 + B 66 (s ^^^ q)))) := by
              rcases hc with hc | ⟨c0, hc⟩
              · exact Or.inl hc
              · exact Or.inr ⟨c0, hc.zero⟩
            rcases hc2 with hc | ⟨c0, hc | ⟨⟨q, q1, q2, q3⟩, c3⟩⟩
            · exact Or.inl hc
            · exact Or.inr ⟨c0, Or.inl hc⟩
            · refine Or.inr ⟨c0, Or.inr ⟨⟨q, q1, q2, ?_⟩, fun r hr hri => ?_⟩⟩
              · rw [g _ (xor_lt q1.2.1 q1.1)]
                exact q3
              · rw [g _ (xor_lt hr.2.1 hr.1)]
                exact c3 r hr hri
          · exact (TC.congr b4 b2 g).2 s hs1 (by omega)
        · dsimp only
          by_cases hsk : s = k
          · subst hsk
            rw [ms_same]
            exact v1
          · rw [g s (by omega)]
            exact b5 s (by omega)
      · rintro ⟨t1, B⟩ ⟨b1, b2, b3, b4, b5⟩
        dsimp only at b1 b2 b3 b4 b5 ⊢
        subst b1
        exact wp_neg (fun q => absurd ((lt32 (by omega) (by omega)).mp q) (by omega)) (wpo_of ⟨b3, b4, b5⟩)
      · dsimp only
        have h0 : s = 0 := by omega
        subst h0
        rw [ms_same]
        omega
    · rintro B ⟨b1, b2⟩
      refine wpo_of ⟨fun c i a b => ?_, ms_same, ?_⟩
      · rw [ms_ne (by omega), b1 c i (by omega), a1 c i (by omega)]
        exact hs c i a b
      · have e : mset B 64 1 1 66 = B 66 := funext (fun i => ms_ne (by decide))
        rw [e]
        exact b2
  · refine wp_neg (by rw [h1, k1]; decide) (wpo_of ⟨hs, h1.trans k1, ?_⟩)
    rw [h66]
    exact k2
