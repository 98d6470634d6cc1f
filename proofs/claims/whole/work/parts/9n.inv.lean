/-! THE INVARIANT (by hand) -/
def Inv (D : Mem) : Prop := IC D ∧ IS D ∧ IT D ∧ II D ∧ KC D ∧ KB D ∧ KP D
theorem IC.cg {D M : Mem} (h : IC D) (k : ∀ c i, (12 ≤ c ∧ c ≤ 19) ∨ (23 ≤ c ∧ c ≤ 35) ∨ c = 118 → M c i = D c i) : IC M := by
  have e : M 118 = D 118 := funext (fun i => k 118 i (Or.inr (Or.inr rfl)))
  unfold IC
  rw [e]
  exact ⟨h.1, h.2.1.congr (fun c i h1 h2 => k c i (by omega)), h.2.2.congr (fun c i h1 h2 => k c i (by omega))⟩
theorem IS.cg {D M : Mem} (h : IS D) (k : ∀ c i, (109 ≤ c ∧ c ≤ 116) ∨ (143 ≤ c ∧ c ≤ 145) → M c i = D c i) : IS M := fun s hs4 => by
  obtain ⟨h1, h2⟩ := h s hs4
  refine ⟨?_, fun i hi => ?_⟩
  · rw [k _ _ (by omega), k _ _ (by omega), k _ _ (by omega), k _ _ (by omega), k _ _ (by omega)]
    exact h1
  · rw [k _ _ (by omega), k _ _ (by omega)]
    exact h2 i hi
theorem IT.cg {D M : Mem} (h : IT D) (k : ∀ c i, (c = 1 ∧ i = 1) ∨ c = 2 ∨ (c = 3 ∧ (i = 2 ∨ i = 3)) ∨ c = 121 ∨ (c = 117 ∧ (i = 5 ∨ i = 12 ∨ i = 13)) → M c i = D c i) : IT M := by
  obtain ⟨h1, h2, h3, h4⟩ := h
  refine ⟨?_, fun i => ?_, ?_, ?_⟩
  · rw [k 1 1 (by omega), k 117 5 (by omega)]; exact h1
  · rw [k 2 i (by omega), k 121 i (by omega)]; exact h2 i
  · rw [k 3 2 (by omega), k 117 12 (by omega)]; exact h3
  · rw [k 3 3 (by omega), k 117 13 (by omega)]; exact h4
theorem KC.cg {D M : Mem} (h : KC D) (k : ∀ c i, c = 64 ∨ c = 66 ∨ c = 118 → M c i = D c i) : KC M := by
  have e1 : M 118 = D 118 := funext (fun i => k 118 i (by omega))
  have e2 : M 66 = D 66 := funext (fun i => k 66 i (by omega))
  unfold KC
  rw [e1, e2, k 64 1 (by omega)]
  exact h
theorem KB.cg {D M : Mem} (h : KB D) (k : ∀ c i, c = 58 ∨ c = 59 ∨ c = 118 → M c i = D c i) : KB M := by
  have e1 : M 118 = D 118 := funext (fun i => k 118 i (by omega))
  unfold KB YTB at *
  rw [e1, k 58 1 (by omega), k 58 2 (by omega), k 58 3 (by omega)]
  rcases h with h | ⟨h1, h2, h3, h4⟩
  · exact Or.inl h
  · exact Or.inr ⟨h1, h2, h3, fun p hp => by rw [k 59 p (by omega)]; exact h4 p hp⟩
theorem KP.cg {D M : Mem} (h : KP D) (k : ∀ c i, c = 49 ∨ (51 ≤ c ∧ c ≤ 55) ∨ c = 118 → M c i = D c i) : KP M := by
  have e1 : M 118 = D 118 := funext (fun i => k 118 i (by omega))
  rcases h with h | ⟨h1, h2⟩
  · exact Or.inl ((k 49 1 (by omega)).trans h)
  · exact Or.inr ⟨(k 49 1 (by omega)).trans h1, h2.congr e1 (fun c i x => k c i (by omega))⟩
theorem Inv.sk {D M : Mem} (h : Inv D) (hs : SK D M) : Inv M := by
  obtain ⟨a, b, c, d, e, f, g⟩ := h
  have k : ∀ c i, ¬ scr c i → M c i = D c i := hs
  exact ⟨a.cg (fun c i h => k c i (by unfold scr; omega)), b.cg (fun c i h => k c i (by unfold scr; omega)), c.cg (fun c i h => k c i (by unfold scr; omega)), d.congr (fun c i h => k c i (by unfold scr; omega)), e.cg (fun c i h => k c i (by unfold scr; omega)), f.cg (fun c i h => k c i (by unfold scr; omega)), g.cg (fun c i h => k c i (by unfold scr; omega))⟩
theorem Inv.c {D M : Mem} (h : Inv D) (hs : SX 64 66 D M) (hK : KC M) : Inv M := by
  obtain ⟨a, b, c, d, e, f, g⟩ := h
  have k : ∀ c i, ¬ scr c i → (c < 64 ∨ 66 < c) → M c i = D c i := hs
  exact ⟨a.cg (fun c i h => k c i (by unfold scr; omega) (by omega)), b.cg (fun c i h => k c i (by unfold scr; omega) (by omega)), c.cg (fun c i h => k c i (by unfold scr; omega) (by omega)), d.congr (fun c i h => k c i (by unfold scr; omega) (by omega)), hK, f.cg (fun c i h => k c i (by unfold scr; omega) (by omega)), g.cg (fun c i h => k c i (by unfold scr; omega) (by omega))⟩
theorem Inv.b {D M : Mem} (h : Inv D) (hs : SX 58 59 D M) (hK : KB M) : Inv M := by
  obtain ⟨a, b, c, d, e, f, g⟩ := h
  have k : ∀ c i, ¬ scr c i → (c < 58 ∨ 59 < c) → M c i = D c i := hs
  exact ⟨a.cg (fun c i h => k c i (by unfold scr; omega) (by omega)), b.cg (fun c i h => k c i (by unfold scr; omega) (by omega)), c.cg (fun c i h => k c i (by unfold scr; omega) (by omega)), d.congr (fun c i h => k c i (by unfold scr; omega) (by omega)), e.cg (fun c i h => k c i (by unfold scr; omega) (by omega)), hK, g.cg (fun c i h => k c i (by unfold scr; omega) (by omega))⟩
theorem Inv.k {D M : Mem} (h : Inv D) (hs : SX 49 57 D M) (hK : KP M) : Inv M := by
  obtain ⟨a, b, c, d, e, f, g⟩ := h
  have k : ∀ c i, ¬ scr c i → (c < 49 ∨ 57 < c) → M c i = D c i := hs
  exact ⟨a.cg (fun c i h => k c i (by unfold scr; omega) (by omega)), b.cg (fun c i h => k c i (by unfold scr; omega) (by omega)), c.cg (fun c i h => k c i (by unfold scr; omega) (by omega)), d.congr (fun c i h => k c i (by unfold scr; omega) (by omega)), e.cg (fun c i h => k c i (by unfold scr; omega) (by omega)), f.cg (fun c i h => k c i (by unfold scr; omega) (by omega)), hK⟩
theorem Inv.s {D M : Mem} (h : Inv D) (hS : IS M) (hs : SF D M) : Inv M := by
  obtain ⟨a, b, c, d, e, f, g⟩ := h
  have k : ∀ c i, (c < 109 ∨ (116 < c ∧ c < 143) ∨ 146 < c) → M c i = D c i := hs
  exact ⟨a.cg (fun c i h => k c i (by omega)), hS, c.cg (fun c i h => k c i (by omega)), d.congr (fun c i h => k c i (by omega)), e.cg (fun c i h => k c i (by omega)), f.cg (fun c i h => k c i (by omega)), g.cg (fun c i h => k c i (by omega))⟩
theorem Inv.i {D M : Mem} (h : Inv D) (hs : IF D M) (hJ : II M) : Inv M := by
  obtain ⟨a, b, c, d, e, f, g⟩ := h
  have k : ∀ c i, (c < 85 ∨ 108 < c) → c ≠ 21 → c ≠ 119 → c ≠ 120 → M c i = D c i := hs
  exact ⟨a.cg (fun c i h => k c i (by omega) (by omega) (by omega) (by omega)), b.cg (fun c i h => k c i (by omega) (by omega) (by omega) (by omega)), c.cg (fun c i h => k c i (by omega) (by omega) (by omega) (by omega)), hJ, e.cg (fun c i h => k c i (by omega) (by omega) (by omega) (by omega)), f.cg (fun c i h => k c i (by omega) (by omega) (by omega) (by omega)), g.cg (fun c i h => k c i (by omega) (by omega) (by omega) (by omega))⟩
theorem Inv.t {D M : Mem} (h : Inv D) (hs : TF D M) (hT : IT M) : Inv M := by
  obtain ⟨a, b, c, d, e, f, g⟩ := h
  have k : ∀ c i, c ≠ 2 → (c ≠ 1 ∨ i ≠ 1) → c ≠ 121 → c ≠ 122 → (c ≠ 117 ∨ i ≠ 5) → M c i = D c i := hs
  exact ⟨a.cg (fun c i h => k c i (by omega) (by omega) (by omega) (by omega) (by omega)), b.cg (fun c i h => k c i (by omega) (by omega) (by omega) (by omega) (by omega)), hT, d.congr (fun c i h => k c i (by omega) (by omega) (by omega) (by omega) (by omega)), e.cg (fun c i h => k c i (by omega) (by omega) (by omega) (by omega) (by omega)), f.cg (fun c i h => k c i (by omega) (by omega) (by omega) (by omega) (by omega)), g.cg (fun c i h => k c i (by omega) (by omega) (by omega) (by omega) (by omega))⟩
theorem Inv.n {D M : Mem} (h : Inv D) (hs : SK D M ∨ NewP D M) : Inv M := by
  rcases hs with hs | ⟨hC, hI, k1, k2, k3⟩
  · exact h.sk hs
  · obtain ⟨a, b, c, d, e, f, g⟩ := h
    have k : ∀ c i, kp c i → M c i = D c i := hC
    exact ⟨hI, b.cg (fun c i h => k c i (by unfold kp; omega)), c.cg (fun c i h => k c i (by unfold kp; omega)), d.congr (fun c i h => k c i (by unfold kp; omega)), Or.inl k3, Or.inl k2, Or.inl k1⟩
theorem Inv.p {D M : Mem} (h : Inv D) (hs : PF D M) : Inv M := by
  obtain ⟨a, b, c, d, e, f, g⟩ := h
  obtain ⟨hT, hs | ⟨hp, hI, k1, k2, k3⟩⟩ := hs
  · have k : ∀ c i, ¬ scr c i → c ≠ 1 → c ≠ 3 → c ≠ 117 → M c i = D c i := hs
    exact ⟨a.cg (fun c i h => k c i (by unfold scr; omega) (by omega) (by omega) (by omega)), b.cg (fun c i h => k c i (by unfold scr; omega) (by omega) (by omega) (by omega)), hT, d.congr (fun c i h => k c i (by unfold scr; omega) (by omega) (by omega) (by omega)), e.cg (fun c i h => k c i (by unfold scr; omega) (by omega) (by omega) (by omega)), f.cg (fun c i h => k c i (by unfold scr; omega) (by omega) (by omega) (by omega)), g.cg (fun c i h => k c i (by unfold scr; omega) (by omega) (by omega) (by omega))⟩
  · exact ⟨hI, b.cg (fun c i h => hp c i (by unfold pk; omega)), hT, d.congr (fun c i h => hp c i (by unfold pk; omega)), Or.inl k3, Or.inl k2, Or.inl k1⟩
/-- the start -/
theorem Inv.start {a : Mem} (h1 : CK D0c a) (h2 : NowOK (yW (fun _ => 0)) a) (k1 : a 49 1 = 0) (k2 : a 58 1 = 0) (k3 : a 64 1 = 0) : Inv (Dm a) := by
  have g : ∀ c i, (c ≠ 117 ∨ i ≠ 13) → c ≠ 143 → Dm a c i = a c i := fun c i x y => by
    unfold Dm
    rw [ms_ne y, ms_ne y, ms_ne y, ms_ne y, ms_at, if_neg (by omega)]
  have z : ∀ c i, (c < 23 ∨ 35 < c) → (i ≠ 1 ∨ (c ≠ 49 ∧ c ≠ 58 ∧ c ≠ 64)) → c ≠ 3 → c ≠ 67 → a c i = 0 := fun c i x y u v => by
    rw [h1 c i x y]
    unfold D0c
    rw [ms_ne v, ms_ne u]
  have z2 : ∀ c i, (c < 23 ∨ 35 < c) → (i ≠ 1 ∨ (c ≠ 49 ∧ c ≠ 58 ∧ c ≠ 64)) → c ≠ 3 → c ≠ 67 → (c ≠ 117 ∨ i ≠ 13) → c ≠ 143 → Dm a c i = 0 := fun c i x y u v p q => (g c i p q).trans (z c i x y u v)
  have e118 : Dm a 118 = fun _ => 0 := funext (fun i => z2 118 i (by omega) (by omega) (by decide) (by decide) (by omega) (by decide))
  have hW : WOK (fun _ => 0) := WL.zero.2.2.1
  refine ⟨⟨?_, ?_, ?_⟩, fun s hs => ⟨Or.inl ⟨?_, ?_⟩, fun i hi => ?_⟩, ⟨?_, fun i => ?_, ?_, ?_⟩, fun k hk => Or.inl ⟨?_, ?_⟩, Or.inl ?_, Or.inl ?_, Or.inl ?_⟩
  · rw [e118]; exact hW
  · rw [e118]
    have zz : ∀ i, Dm a 12 i = 0 := fun i => z2 12 i (by omega) (by omega) (by decide) (by decide) (by omega) (by decide)
    exact ⟨⟨zz 0, zz 1, zz 2, zz 3, zz 4, zz 5, zz 6, zz 7, zz 8, zz 9⟩, fun p hp => absurd hp (by dsimp only; omega), fun p hp => absurd hp (by dsimp only; omega)⟩
  · rw [e118]
    exact h2.congr (fun c i x y => g c i (by omega) (by omega))
  · exact z2 _ _ (by omega) (by omega) (by omega) (by omega) (by omega) (by omega)
  · unfold Dm
    have hc : s = 0 ∨ s = 1 ∨ s = 2 ∨ s = 3 := by omega
    rcases hc with rfl | rfl | rfl | rfl
    · rw [ms_ni (by decide), ms_ni (by decide), ms_ni (by decide), ms_same]
    · rw [ms_ni (by decide), ms_ni (by decide), ms_same]
    · rw [ms_ni (by decide), ms_same]
    · rw [ms_same]
  · rw [z2 (109 + 2 * s + 1) i (by omega) (by omega) (by omega) (by omega) (by omega) (by omega), z2 145 _ (by omega) (by omega) (by decide) (by decide) (by omega) (by decide)]
    exact ⟨rfl, by decide, by decide⟩
  · rw [z2 1 1 (by omega) (by omega) (by decide) (by decide) (by omega) (by decide), z2 117 5 (by omega) (by omega) (by decide) (by decide) (by omega) (by decide)]
    exact ⟨rfl, by decide, by decide⟩
  · rw [z2 2 i (by omega) (by omega) (by decide) (by decide) (by omega) (by decide), z2 121 i (by omega) (by omega) (by decide) (by decide) (by omega) (by decide)]
    exact ⟨rfl, by decide, by decide⟩
  · rw [g 3 2 (by omega) (by decide), z2 117 12 (by omega) (by omega) (by decide) (by decide) (by omega) (by decide), h1 3 2 (by omega) (by omega)]
    rfl
  · rw [g 3 3 (by omega) (by decide), h1 3 3 (by omega) (by omega)]
    unfold Dm
    rw [ms_ne (by decide), ms_ne (by decide), ms_ne (by decide), ms_ne (by decide), ms_same]
    rfl
  · exact z2 21 k (by omega) (by omega) (by decide) (by decide) (by omega) (by decide)
  · exact z2 120 k (by omega) (by omega) (by decide) (by decide) (by omega) (by decide)
  · rw [g 64 1 (by omega) (by decide)]; exact k3
  · rw [g 58 1 (by omega) (by decide)]; exact k2
  · rw [g 49 1 (by omega) (by decide)]; exact k1
