/-! YEARS THAT COULD BE (by hand): one thing told otherwise, on both sides -/
theorem yP_set {Y : Mem} {c i : Nat} {v : Int} (h : ¬ (c = 0 ∧ i = 6)) : yP (mset Y c i v) = yP Y := by
  unfold yP
  rw [ms_at, if_neg (fun e => h ⟨e.1.symm, e.2.symm⟩)]
theorem yN_set {Y : Mem} {c i : Nat} {v : Int} (h : ¬ (c = 0 ∧ i = 0)) : yN (mset Y c i v) = yN Y := by
  unfold yN
  rw [ms_at, if_neg (fun e => h ⟨e.1.symm, e.2.symm⟩)]
/-- nobody is gone -/
def NG (Y M : Mem) : Prop := ∀ p, p < yP Y → (p : Int) ≠ M 117 21
theorem YM.room {Y M : Mem} (h : YM Y M) (v : Int) : YM (mset Y 0 1 v) (mset M 117 19 v) := by
  obtain ⟨h0, h1, h2, h3, h4, h5, h6, hg, h7⟩ := h
  refine ⟨?_, ?_, ?_, ?_, ?_, ?_, ?_, ?_, fun p hp => ?_⟩
  · rw [ms_ni (by decide), ms_ne (by decide)]; exact h0
  · rw [ms_same, ms_same]
  · rw [ms_ni (by decide), ms_ni (by decide)]; exact h2
  · rw [ms_ni (by decide), ms_ni (by decide)]; exact h3
  · rw [ms_ni (by decide), ms_ne (by decide)]; exact h4
  · rw [ms_ni (by decide), ms_ne (by decide)]; exact h5
  · rw [ms_ni (by decide), ms_ne (by decide)]; exact h6
  · rw [ms_ni (by decide)]; exact hg
  · rw [yP_set (by decide)] at hp
    rw [ms_ne (show 1 ≠ 0 by decide), ms_ne (show 2 ≠ 0 by decide), ms_ne (show 3 ≠ 0 by decide), ms_ne (show 4 ≠ 0 by decide), ms_ne (show 5 ≠ 0 by decide), ms_ne (show 124 ≠ 117 by decide), ms_ne (show 118 ≠ 117 by decide), ms_ne (show 125 ≠ 117 by decide), ms_ne (show 126 ≠ 117 by decide), ms_ne (show 127 ≠ 117 by decide), ms_ni (by decide)]
    exact h7 p hp
theorem YM.rule {Y M : Mem} (h : YM Y M) (v : Int) : YM (mset Y 0 2 v) (mset M 117 20 v) := by
  obtain ⟨h0, h1, h2, h3, h4, h5, h6, hg, h7⟩ := h
  refine ⟨?_, ?_, ?_, ?_, ?_, ?_, ?_, ?_, fun p hp => ?_⟩
  · rw [ms_ni (by decide), ms_ne (by decide)]; exact h0
  · rw [ms_ni (by decide), ms_ni (by decide)]; exact h1
  · rw [ms_same, ms_same]
  · rw [ms_ni (by decide), ms_ni (by decide)]; exact h3
  · rw [ms_ni (by decide), ms_ne (by decide)]; exact h4
  · rw [ms_ni (by decide), ms_ne (by decide)]; exact h5
  · rw [ms_ni (by decide), ms_ne (by decide)]; exact h6
  · rw [ms_ni (by decide)]; exact hg
  · rw [yP_set (by decide)] at hp
    rw [ms_ne (show 1 ≠ 0 by decide), ms_ne (show 2 ≠ 0 by decide), ms_ne (show 3 ≠ 0 by decide), ms_ne (show 4 ≠ 0 by decide), ms_ne (show 5 ≠ 0 by decide), ms_ne (show 124 ≠ 117 by decide), ms_ne (show 118 ≠ 117 by decide), ms_ne (show 125 ≠ 117 by decide), ms_ne (show 126 ≠ 117 by decide), ms_ne (show 127 ≠ 117 by decide), ms_ni (by decide)]
    exact h7 p hp
theorem YM.born {Y M : Mem} (h : YM Y M) (v : Int) : YM (mset Y 0 3 v) (mset M 117 22 v) := by
  obtain ⟨h0, h1, h2, h3, h4, h5, h6, hg, h7⟩ := h
  refine ⟨?_, ?_, ?_, ?_, ?_, ?_, ?_, ?_, fun p hp => ?_⟩
  · rw [ms_ni (by decide), ms_ne (by decide)]; exact h0
  · rw [ms_ni (by decide), ms_ni (by decide)]; exact h1
  · rw [ms_ni (by decide), ms_ni (by decide)]; exact h2
  · rw [ms_same, ms_same]
  · rw [ms_ni (by decide), ms_ne (by decide)]; exact h4
  · rw [ms_ni (by decide), ms_ne (by decide)]; exact h5
  · rw [ms_ni (by decide), ms_ne (by decide)]; exact h6
  · rw [ms_ni (by decide)]; exact hg
  · rw [yP_set (by decide)] at hp
    rw [ms_ne (show 1 ≠ 0 by decide), ms_ne (show 2 ≠ 0 by decide), ms_ne (show 3 ≠ 0 by decide), ms_ne (show 4 ≠ 0 by decide), ms_ne (show 5 ≠ 0 by decide), ms_ne (show 124 ≠ 117 by decide), ms_ne (show 118 ≠ 117 by decide), ms_ne (show 125 ≠ 117 by decide), ms_ne (show 126 ≠ 117 by decide), ms_ne (show 127 ≠ 117 by decide), ms_ni (by decide)]
    exact h7 p hp
theorem YM.gone {Y M : Mem} (h : YM Y M) (hn : NG Y M) {q : Nat} (hq : q < yP Y) (hq8 : q ≤ 100) : YM (mset Y 3 q 100) (mset M 117 21 (q : Int)) := by
  obtain ⟨h0, h1, h2, h3, h4, h5, h6, hg, h7⟩ := h
  refine ⟨?_, ?_, ?_, ?_, ?_, ?_, ?_, ?_, fun p hp => ?_⟩
  · rw [ms_ne (by decide), ms_ne (by decide)]; exact h0
  · rw [ms_ne (by decide), ms_ni (by decide)]; exact h1
  · rw [ms_ne (by decide), ms_ni (by decide)]; exact h2
  · rw [ms_ne (by decide), ms_ni (by decide)]; exact h3
  · rw [ms_ne (by decide), ms_ne (by decide)]; exact h4
  · rw [ms_ne (by decide), ms_ne (by decide)]; exact h5
  · rw [ms_ne (by decide), ms_ne (by decide)]; exact h6
  · rw [ms_same]; omega
  · rw [yP_set (by omega)] at hp
    obtain ⟨a1, a2, a3, a4, a5, a6⟩ := h7 p hp
    rw [if_neg (hn p hp)] at a3
    rw [ms_ne (show 1 ≠ 3 by decide), ms_ne (show 2 ≠ 3 by decide), ms_ne (show 4 ≠ 3 by decide), ms_ne (show 5 ≠ 3 by decide), ms_ne (show 124 ≠ 117 by decide), ms_ne (show 118 ≠ 117 by decide), ms_ne (show 125 ≠ 117 by decide), ms_ne (show 126 ≠ 117 by decide), ms_ne (show 127 ≠ 117 by decide), ms_same]
    refine ⟨a1, a2, ?_, a4, a5, a6⟩
    by_cases e : p = q
    · subst e
      rw [ms_same, if_pos rfl]
    · rw [ms_ni e, if_neg (by omega)]
      exact a3
theorem YM.from_ {Y M : Mem} (h : YM Y M) (hn : NG Y M) {q : Nat} {v : Int} (hq : q < yP Y) (hv : 0 ≤ v ∧ v ≤ 100) : YM (mset Y 3 q v) (mset M 125 q v) := by
  obtain ⟨h0, h1, h2, h3, h4, h5, h6, hg, h7⟩ := h
  refine ⟨?_, ?_, ?_, ?_, ?_, ?_, ?_, ?_, fun p hp => ?_⟩
  · rw [ms_ne (by decide), ms_ne (by decide)]; exact h0
  · rw [ms_ne (by decide), ms_ne (by decide)]; exact h1
  · rw [ms_ne (by decide), ms_ne (by decide)]; exact h2
  · rw [ms_ne (by decide), ms_ne (by decide)]; exact h3
  · rw [ms_ne (by decide), ms_ne (by decide)]; exact h4
  · rw [ms_ne (by decide), ms_ne (by decide)]; exact h5
  · rw [ms_ne (by decide), ms_ne (by decide)]; exact h6
  · rw [ms_ne (by decide)]; exact hg
  · rw [yP_set (by omega)] at hp
    obtain ⟨a1, a2, a3, a4, a5, a6⟩ := h7 p hp
    rw [if_neg (hn p hp)] at a3
    rw [ms_ne (show 1 ≠ 3 by decide), ms_ne (show 2 ≠ 3 by decide), ms_ne (show 4 ≠ 3 by decide), ms_ne (show 5 ≠ 3 by decide), ms_ne (show 124 ≠ 125 by decide), ms_ne (show 118 ≠ 125 by decide), ms_ne (show 117 ≠ 125 by decide), ms_ne (show 126 ≠ 125 by decide), ms_ne (show 127 ≠ 125 by decide), if_neg (hn p hp)]
    refine ⟨a1, a2, ?_, a4, a5, ?_⟩
    · by_cases e : p = q
      · subst e
        rw [ms_same, ms_same]
      · rw [ms_ni e, ms_ni e]
        exact a3
    · by_cases e : p = q
      · subst e
        rw [ms_same]
        exact hv
      · rw [ms_ni e]
        exact a6
theorem YM.groan {Y M : Mem} (h : YM Y M) {q : Nat} {v : Int} (hq : q < yP Y) : YM (mset Y 4 q (Y 1 q + v)) (mset M 126 q v) := by
  obtain ⟨h0, h1, h2, h3, h4, h5, h6, hg, h7⟩ := h
  refine ⟨?_, ?_, ?_, ?_, ?_, ?_, ?_, ?_, fun p hp => ?_⟩
  · rw [ms_ne (by decide), ms_ne (by decide)]; exact h0
  · rw [ms_ne (by decide), ms_ne (by decide)]; exact h1
  · rw [ms_ne (by decide), ms_ne (by decide)]; exact h2
  · rw [ms_ne (by decide), ms_ne (by decide)]; exact h3
  · rw [ms_ne (by decide), ms_ne (by decide)]; exact h4
  · rw [ms_ne (by decide), ms_ne (by decide)]; exact h5
  · rw [ms_ne (by decide), ms_ne (by decide)]; exact h6
  · rw [ms_ne (by decide)]; exact hg
  · rw [yP_set (by omega)] at hp
    obtain ⟨a1, a2, a3, a4, a5, a6⟩ := h7 p hp
    rw [ms_ne (show 1 ≠ 4 by decide), ms_ne (show 2 ≠ 4 by decide), ms_ne (show 3 ≠ 4 by decide), ms_ne (show 5 ≠ 4 by decide), ms_ne (show 124 ≠ 126 by decide), ms_ne (show 118 ≠ 126 by decide), ms_ne (show 117 ≠ 126 by decide), ms_ne (show 125 ≠ 126 by decide), ms_ne (show 127 ≠ 126 by decide)]
    refine ⟨a1, a2, a3, ?_, a5, a6⟩
    by_cases e : p = q
    · subst e
      rw [ms_same, ms_same, a1]
    · rw [ms_ni e, ms_ni e]
      exact a4
theorem YM.hold {Y M : Mem} (h : YM Y M) {q : Nat} {v : Int} (hq : q < yP Y) : YM (mset Y 5 q v) (mset M 127 q v) := by
  obtain ⟨h0, h1, h2, h3, h4, h5, h6, hg, h7⟩ := h
  refine ⟨?_, ?_, ?_, ?_, ?_, ?_, ?_, ?_, fun p hp => ?_⟩
  · rw [ms_ne (by decide), ms_ne (by decide)]; exact h0
  · rw [ms_ne (by decide), ms_ne (by decide)]; exact h1
  · rw [ms_ne (by decide), ms_ne (by decide)]; exact h2
  · rw [ms_ne (by decide), ms_ne (by decide)]; exact h3
  · rw [ms_ne (by decide), ms_ne (by decide)]; exact h4
  · rw [ms_ne (by decide), ms_ne (by decide)]; exact h5
  · rw [ms_ne (by decide), ms_ne (by decide)]; exact h6
  · rw [ms_ne (by decide)]; exact hg
  · rw [yP_set (by omega)] at hp
    obtain ⟨a1, a2, a3, a4, a5, a6⟩ := h7 p hp
    rw [ms_ne (show 1 ≠ 5 by decide), ms_ne (show 2 ≠ 5 by decide), ms_ne (show 3 ≠ 5 by decide), ms_ne (show 4 ≠ 5 by decide), ms_ne (show 124 ≠ 127 by decide), ms_ne (show 118 ≠ 127 by decide), ms_ne (show 117 ≠ 127 by decide), ms_ne (show 125 ≠ 127 by decide), ms_ne (show 126 ≠ 127 by decide)]
    refine ⟨a1, a2, a3, a4, ?_, a6⟩
    by_cases e : p = q
    · subst e
      rw [ms_same, ms_same]
    · rw [ms_ni e, ms_ni e]
      exact a5
-- the class
/-- a number of the year itself: 1 room, 2 rule, 3 birth -/
theorem YC.num {Y M : Mem} {r i : Nat} (hr : 20 ≤ r) (h : YC Y M r) (v : Int) (hi : i = 1 ∨ i = 2 ∨ i = 3) : YC (mset Y 0 i v) (mset M r i v) r := by
  obtain ⟨h0, h1, h2, h3, h4, h5, h6, h7⟩ := h
  refine ⟨?_, ?_, ?_, ?_, ?_, ?_, ?_, fun p hp => ?_⟩
  · rw [ms_ni (by omega), ms_ne (by omega)]; exact h0
  · by_cases e : i = 1
    · subst e
      rw [ms_same, ms_same]
    · rw [ms_ni (by omega), ms_ni (by omega)]; exact h1
  · by_cases e : i = 2
    · subst e
      rw [ms_same, ms_same]
    · rw [ms_ni (by omega), ms_ni (by omega)]; exact h2
  · by_cases e : i = 3
    · subst e
      rw [ms_same, ms_same]
    · rw [ms_ni (by omega), ms_ni (by omega)]; exact h3
  · rw [ms_ni (by omega), ms_ne (by omega)]; exact h4
  · rw [ms_ni (by omega), ms_ne (by omega)]; exact h5
  · rw [ms_ni (by omega), ms_ne (by omega)]; exact h6
  · rw [yP_set (by omega)] at hp
    rw [ms_ne (by omega), ms_ne (by omega), ms_ne (by omega), ms_ne (by omega), ms_ne (by omega), ms_ne (by omega), ms_ne (by omega), ms_ne (by omega), ms_ne (by omega), ms_ne (by omega)]
    exact h7 p hp
/-- a number of a person: 1 told, 2 from, 3 held back -/
theorem YC.per {Y M : Mem} {r j k q : Nat} {v : Int} (hr : 20 ≤ r) (h : YC Y M r) (hj : (j = 1 ∧ k = 4) ∨ (j = 2 ∧ k = 3) ∨ (j = 3 ∧ k = 5)) : YC (mset Y k q v) (mset M (r + j) q v) r := by
  obtain ⟨h0, h1, h2, h3, h4, h5, h6, h7⟩ := h
  have g : ∀ c i, c ≤ 2 → mset Y k q v c i = Y c i := fun c i hc => ms_ne (by omega)
  have w : ∀ c i, c ≤ r → mset M (r + j) q v c i = M c i := fun c i hc => ms_ne (by omega)
  refine ⟨?_, ?_, ?_, ?_, ?_, ?_, ?_, fun p hp => ?_⟩
  · rw [g 0 0 (by omega), w 12 1 (by omega)]; exact h0
  · rw [g 0 1 (by omega), w r 1 (by omega)]; exact h1
  · rw [g 0 2 (by omega), w r 2 (by omega)]; exact h2
  · rw [g 0 3 (by omega), w r 3 (by omega)]; exact h3
  · rw [g 0 4 (by omega), w 12 3 (by omega)]; exact h4
  · rw [g 0 5 (by omega), w 12 4 (by omega)]; exact h5
  · rw [g 0 6 (by omega), w 12 8 (by omega)]; exact h6
  · rw [yP_set (by omega)] at hp
    obtain ⟨a1, a2, a3, a4, a5⟩ := h7 p hp
    refine ⟨?_, ?_, ?_, ?_, ?_⟩
    · rw [g 1 p (by omega), w 13 p (by omega)]; exact a1
    · rw [g 2 p (by omega), w 15 p (by omega)]; exact a2
    · simp only [ms_at]
      by_cases e : p = q
      · rcases hj with ⟨rfl, rfl⟩ | ⟨rfl, rfl⟩ | ⟨rfl, rfl⟩ <;> simp [e] <;> first | rfl | (rw [e] at a3; exact a3)
      · simp [e]; exact a3
    · simp only [ms_at]
      by_cases e : p = q
      · rcases hj with ⟨rfl, rfl⟩ | ⟨rfl, rfl⟩ | ⟨rfl, rfl⟩ <;> simp [e] <;> first | rfl | (rw [e] at a4; exact a4)
      · simp [e]; exact a4
    · simp only [ms_at]
      by_cases e : p = q
      · rcases hj with ⟨rfl, rfl⟩ | ⟨rfl, rfl⟩ | ⟨rfl, rfl⟩ <;> simp [e] <;> first | rfl | (rw [e] at a5; exact a5)
      · simp [e]; exact a5
