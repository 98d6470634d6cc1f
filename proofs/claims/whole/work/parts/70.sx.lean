/-! OTHER PARTS OF THE MEMORY (by hand) -/
/-- a part of the memory may have changed as well -/
def SX (lo hi : Nat) (D M : Mem) : Prop := ∀ c i, ¬ scr c i → (c < lo ∨ hi < c) → M c i = D c i
theorem SK.sx {D M : Mem} (h : SK D M) (lo hi : Nat) : SX lo hi D M := fun c i a _ => h c i a
theorem SX.tr {lo hi : Nat} {D M N : Mem} (h : SX lo hi D M) (h' : SX lo hi M N) : SX lo hi D N := fun c i a b => (h' c i a b).trans (h c i a b)
theorem SX.set {lo hi : Nat} {D M : Mem} (h : SX lo hi D M) {c i : Nat} {v : Int} (hc : scr c i ∨ (lo ≤ c ∧ c ≤ hi)) : SX lo hi D (mset M c i v) := fun c' i' a b => by
  have : ¬ (c' = c ∧ i' = i) := by
    rintro ⟨rfl, rfl⟩
    rcases hc with hc | hc
    · exact a hc
    · omega
  rw [ms_at, if_neg this]
  exact h c' i' a b
theorem SX.keep {lo hi : Nat} {D M : Mem} (h : SX lo hi D M) {c : Nat} (hc : (12 ≤ c ∧ c ≤ 35) ∨ (85 ≤ c ∧ c ≤ 116) ∨ (118 ≤ c ∧ c ≤ 121) ∨ (143 ≤ c ∧ c ≤ 145)) (hx : 36 ≤ lo ∧ hi ≤ 84) (i : Nat) : M c i = D c i := h c i (by unfold scr; omega) (by omega)
theorem SX.w {lo hi : Nat} {D M : Mem} (h : SX lo hi D M) (hx : 36 ≤ lo ∧ hi ≤ 84) : M 118 = D 118 := funext (fun i => h.keep (by omega) hx i)
theorem IC.sx {lo hi : Nat} {D M : Mem} (hI : IC D) (h : SX lo hi D M) (hx : 36 ≤ lo ∧ hi ≤ 84) : IC M := by
  have hE : SK D (fun c i => if c < lo ∨ hi < c then M c i else D c i) := fun c i a => by
    dsimp only
    split
    · rename_i b
      exact h c i a b
    · rfl
  have hI2 := hI.sk hE
  have e : ∀ c i, (c ≤ 35 ∨ c = 118) → (fun c i => if c < lo ∨ hi < c then M c i else D c i : Mem) c i = M c i := fun c i hc => if_pos (by omega)
  have e118 : (fun c i => if c < lo ∨ hi < c then M c i else D c i : Mem) 118 = M 118 := funext (fun i => e 118 i (Or.inr rfl))
  obtain ⟨a1, a2, a3⟩ := hI2
  rw [e118] at a1 a2 a3
  refine ⟨a1, ?_, ?_⟩
  · obtain ⟨b1, b2, b3⟩ := a2
    refine ⟨?_, fun p hp => ?_, fun i hi => ?_⟩
    · simp only [e 12 _ (by omega)] at b1
      exact b1
    · have := b2 p hp
      simp only [e (12 + 1) _ (by omega), e (12 + 2) _ (by omega), e (12 + 3) _ (by omega), e (12 + 4) _ (by omega)] at this
      exact this
    · have := b3 i hi
      simp only [e (12 + 5) _ (by omega), e (12 + 6) _ (by omega), e (12 + 7) _ (by omega)] at this
      exact this
  · obtain ⟨b1, b2, b3⟩ := a3
    refine ⟨fun p hp => ?_, fun n hn => ?_, ?_⟩
    · have := b1 p hp
      simp only [e 28 _ (by omega), e 29 _ (by omega)] at this
      exact this
    · have := b2 n hn
      simp only [e (23 + 7) _ (by omega), e (23 + 8) _ (by omega), e (23 + 9) _ (by omega), e (23 + 10) _ (by omega), e (23 + 11) _ (by omega), e (23 + 12) _ (by omega)] at this
      exact this
    · simp only [e 23 _ (by omega)] at b3
      exact b3
