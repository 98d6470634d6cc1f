/-! IMAGES, THE TAPE (by hand; the copying of a parish printed by a few lines of Python) -/
theorem sp_become {D : Mem} {r s : Nat} (hr : r + 7 < s ∨ s + 7 < r) : wpo (f2_become D r s) (fun M => (∀ c i, (c < r ∨ r + 7 < c) → M c i = D c i) ∧ (∀ i, i < 10 → M r i = D s i) ∧ (∀ i, i < 8 → M (r + 1) i = D (s + 1) i ∧ M (r + 2) i = D (s + 2) i ∧ M (r + 3) i = D (s + 3) i ∧ M (r + 4) i = D (s + 4) i) ∧ ∀ i, i < 30 → M (r + 5) i = D (s + 5) i ∧ M (r + 6) i = D (s + 6) i ∧ M (r + 7) i = D (s + 7) i) := by
  unfold f2_become
  refine wp_then rfl (wp_then rfl (wp_then rfl (wp_then rfl (wp_then rfl (wp_then rfl (wp_then rfl (wp_then rfl (wp_then rfl (wp_then rfl (wp_then rfl (wp_then rfl (wp_then rfl (wp_then rfl (wp_then rfl (wp_then rfl (wpo_of ⟨fun c i h => ?_, fun i hi => ?_, fun i hi => ⟨?_, ?_, ?_, ?_⟩, fun i hi => ⟨?_, ?_, ?_⟩⟩))))))))))))))))
  · rw [mc_ne (by omega), mc_ne (by omega), mc_ne (by omega), mc_ne (by omega), mc_ne (by omega), mc_ne (by omega), mc_ne (by omega), ms_ne (by omega), ms_ne (by omega), ms_ne (by omega), ms_ne (by omega), ms_ne (by omega), ms_ne (by omega), ms_ne (by omega), ms_ne (by omega), ms_ne (by omega), ms_ne (by omega)]
  · rw [mc_ne (by omega), mc_ne (by omega), mc_ne (by omega), mc_ne (by omega), mc_ne (by omega), mc_ne (by omega), mc_ne (by omega)]
    have hc : i = 0 ∨ i = 1 ∨ i = 2 ∨ i = 3 ∨ i = 4 ∨ i = 5 ∨ i = 6 ∨ i = 7 ∨ i = 8 ∨ i = 9 := by omega
    rcases hc with rfl | rfl | rfl | rfl | rfl | rfl | rfl | rfl | rfl | rfl
    · rw [ms_ni (by decide), ms_ni (by decide), ms_ni (by decide), ms_ni (by decide), ms_ni (by decide), ms_ni (by decide), ms_ni (by decide), ms_ni (by decide), ms_ni (by decide), ms_same]
    · rw [ms_ni (by decide), ms_ni (by decide), ms_ni (by decide), ms_ni (by decide), ms_ni (by decide), ms_ni (by decide), ms_ni (by decide), ms_ni (by decide), ms_same, ms_ne (by omega)]
    · rw [ms_ni (by decide), ms_ni (by decide), ms_ni (by decide), ms_ni (by decide), ms_ni (by decide), ms_ni (by decide), ms_ni (by decide), ms_same, ms_ne (by omega), ms_ne (by omega)]
    · rw [ms_ni (by decide), ms_ni (by decide), ms_ni (by decide), ms_ni (by decide), ms_ni (by decide), ms_ni (by decide), ms_same, ms_ne (by omega), ms_ne (by omega), ms_ne (by omega)]
    · rw [ms_ni (by decide), ms_ni (by decide), ms_ni (by decide), ms_ni (by decide), ms_ni (by decide), ms_same, ms_ne (by omega), ms_ne (by omega), ms_ne (by omega), ms_ne (by omega)]
    · rw [ms_ni (by decide), ms_ni (by decide), ms_ni (by decide), ms_ni (by decide), ms_same, ms_ne (by omega), ms_ne (by omega), ms_ne (by omega), ms_ne (by omega), ms_ne (by omega)]
    · rw [ms_ni (by decide), ms_ni (by decide), ms_ni (by decide), ms_same, ms_ne (by omega), ms_ne (by omega), ms_ne (by omega), ms_ne (by omega), ms_ne (by omega), ms_ne (by omega)]
    · rw [ms_ni (by decide), ms_ni (by decide), ms_same, ms_ne (by omega), ms_ne (by omega), ms_ne (by omega), ms_ne (by omega), ms_ne (by omega), ms_ne (by omega), ms_ne (by omega)]
    · rw [ms_ni (by decide), ms_same, ms_ne (by omega), ms_ne (by omega), ms_ne (by omega), ms_ne (by omega), ms_ne (by omega), ms_ne (by omega), ms_ne (by omega), ms_ne (by omega)]
    · rw [ms_same, ms_ne (by omega), ms_ne (by omega), ms_ne (by omega), ms_ne (by omega), ms_ne (by omega), ms_ne (by omega), ms_ne (by omega), ms_ne (by omega), ms_ne (by omega)]
  · rw [mc_ne (by omega), mc_ne (by omega), mc_ne (by omega), mc_ne (by omega), mc_ne (by omega), mc_ne (by omega), mc_in hi, ms_ne (by omega), ms_ne (by omega), ms_ne (by omega), ms_ne (by omega), ms_ne (by omega), ms_ne (by omega), ms_ne (by omega), ms_ne (by omega), ms_ne (by omega), ms_ne (by omega)]
  · rw [mc_ne (by omega), mc_ne (by omega), mc_ne (by omega), mc_ne (by omega), mc_ne (by omega), mc_in hi, mc_ne (by omega), ms_ne (by omega), ms_ne (by omega), ms_ne (by omega), ms_ne (by omega), ms_ne (by omega), ms_ne (by omega), ms_ne (by omega), ms_ne (by omega), ms_ne (by omega), ms_ne (by omega)]
  · rw [mc_ne (by omega), mc_ne (by omega), mc_ne (by omega), mc_ne (by omega), mc_in hi, mc_ne (by omega), mc_ne (by omega), ms_ne (by omega), ms_ne (by omega), ms_ne (by omega), ms_ne (by omega), ms_ne (by omega), ms_ne (by omega), ms_ne (by omega), ms_ne (by omega), ms_ne (by omega), ms_ne (by omega)]
  · rw [mc_ne (by omega), mc_ne (by omega), mc_ne (by omega), mc_in hi, mc_ne (by omega), mc_ne (by omega), mc_ne (by omega), ms_ne (by omega), ms_ne (by omega), ms_ne (by omega), ms_ne (by omega), ms_ne (by omega), ms_ne (by omega), ms_ne (by omega), ms_ne (by omega), ms_ne (by omega), ms_ne (by omega)]
  · rw [mc_ne (by omega), mc_ne (by omega), mc_in hi, mc_ne (by omega), mc_ne (by omega), mc_ne (by omega), mc_ne (by omega), ms_ne (by omega), ms_ne (by omega), ms_ne (by omega), ms_ne (by omega), ms_ne (by omega), ms_ne (by omega), ms_ne (by omega), ms_ne (by omega), ms_ne (by omega), ms_ne (by omega)]
  · rw [mc_ne (by omega), mc_in hi, mc_ne (by omega), mc_ne (by omega), mc_ne (by omega), mc_ne (by omega), mc_ne (by omega), ms_ne (by omega), ms_ne (by omega), ms_ne (by omega), ms_ne (by omega), ms_ne (by omega), ms_ne (by omega), ms_ne (by omega), ms_ne (by omega), ms_ne (by omega), ms_ne (by omega)]
  · rw [mc_in hi, mc_ne (by omega), mc_ne (by omega), mc_ne (by omega), mc_ne (by omega), mc_ne (by omega), mc_ne (by omega), ms_ne (by omega), ms_ne (by omega), ms_ne (by omega), ms_ne (by omega), ms_ne (by omega), ms_ne (by omega), ms_ne (by omega), ms_ne (by omega), ms_ne (by omega), ms_ne (by omega)]
theorem PR.become {D M : Mem} {r s : Nat} {W : Nat → Int} (hW : WOK W) (h : PR D s W) (m1 : ∀ i, i < 10 → M r i = D s i) (m2 : ∀ i, i < 8 → M (r + 1) i = D (s + 1) i ∧ M (r + 2) i = D (s + 2) i ∧ M (r + 3) i = D (s + 3) i ∧ M (r + 4) i = D (s + 4) i) (m3 : ∀ i, i < 30 → M (r + 5) i = D (s + 5) i ∧ M (r + 6) i = D (s + 6) i ∧ M (r + 7) i = D (s + 7) i) : PR M r W := by
  have hb := hW.bd
  obtain ⟨⟨a0, a1, a2, a3, a4, a5, a6, a7, a8, a9⟩, h2, h3⟩ := h
  refine ⟨⟨(m1 0 (by decide)).trans a0, (m1 1 (by decide)).trans a1, (m1 2 (by decide)).trans a2, (m1 3 (by decide)).trans a3, (m1 4 (by decide)).trans a4, (m1 5 (by decide)).trans a5, (m1 6 (by decide)).trans a6, (m1 7 (by decide)).trans a7, (m1 8 (by decide)).trans a8, (m1 9 (by decide)).trans a9⟩, fun p hp => ?_, fun i hi => ?_⟩
  · obtain ⟨n1, n2, n3, n4⟩ := m2 p (by omega)
    rw [n1, n2, n3, n4]
    exact h2 p hp
  · obtain ⟨n1, n2, n3⟩ := m3 i (by omega)
    rw [n1, n2, n3]
    exact h3 i hi
theorem WOK.congr {W W' : Nat → Int} (h : WOK W) (e : ∀ i, i < 72 → W' i = W i) : WOK W' := by
  have hb := h.bd
  obtain ⟨h1, h2, h3⟩ := h
  refine ⟨?_, fun p hp => ?_, fun i hi => ?_⟩
  · rw [e 9 (by decide), e 0 (by decide), e 1 (by decide), e 2 (by decide), e 3 (by decide), e 4 (by decide), e 5 (by decide), e 6 (by decide), e 7 (by decide), e 8 (by decide)]
    exact h1
  · rw [e 7 (by decide)] at hp
    rw [e _ (by omega), e _ (by omega), e _ (by omega), e _ (by omega)]
    exact h2 p hp
  · rw [e 8 (by decide)] at hi
    rw [e 7 (by decide), e _ (by omega)]
    exact h3 i hi
theorem PR.wcongr {D : Mem} {b : Nat} {W W' : Nat → Int} (h : PR D b W) (hW : WOK W) (e : ∀ i, i < 72 → W' i = W i) : PR D b W' := by
  have hb := hW.bd
  have hA := hW.A
  have eA : wA W' = wA W := by
    unfold wA
    rw [e 8 (by decide)]
  obtain ⟨h1, h2, h3⟩ := h
  refine ⟨?_, fun p hp => ?_, fun i hi => ?_⟩
  · rw [e 9 (by decide), e 0 (by decide), e 1 (by decide), e 2 (by decide), e 3 (by decide), e 4 (by decide), e 5 (by decide), e 6 (by decide), e 7 (by decide), e 8 (by decide)]
    exact h1
  · rw [e 7 (by decide)] at hp
    rw [eA, wAche_congr (e _ (by omega)) _ (fun j hj => e _ (by omega)), wFrom_congr (e _ (by omega)) _ (fun j hj => e _ (by omega)), e _ (by omega), e _ (by omega)]
    exact h2 p hp
  · rw [e 8 (by decide)] at hi
    obtain ⟨p, p1, p2, p3⟩ := h3 i hi
    refine ⟨p, by rw [e 7 (by decide)]; exact p1, p2, ?_⟩
    rw [e _ (by omega), wAche_congr (e _ (by omega)) _ (fun j hj => e _ (by omega)), wFrom_congr (e _ (by omega)) _ (fun j hj => e _ (by omega))]
    exact p3
def Wi (D : Mem) (k : Nat) : Nat → Int := fun j => D 119 (72 * k + j)
/-- images on both sides -/
def II (D : Mem) : Prop := ∀ k, k < 3 → (D 21 k = 0 ∧ D 120 k = 0) ∨ (D 21 k = 1 ∧ D 120 k = 1 ∧ WOK (Wi D k) ∧ PR D (85 + 8 * k) (Wi D k))
def IF (D M : Mem) : Prop := ∀ c i, (c < 85 ∨ 108 < c) → c ≠ 21 → c ≠ 119 → c ≠ 120 → M c i = D c i
theorem II.congr {D M : Mem} (h : II D) (k : ∀ c i, c = 21 ∨ (85 ≤ c ∧ c ≤ 108) ∨ c = 119 ∨ c = 120 → M c i = D c i) : II M := fun j hj => by
  have e : Wi M j = Wi D j := funext (fun i => k 119 _ (by omega))
  rw [k 21 j (by omega), k 120 j (by omega), e]
  rcases h j hj with h | ⟨h1, h2, h3, h4⟩
  · exact Or.inl h
  · exact Or.inr ⟨h1, h2, h3, h4.congr (fun c i a b => k c i (by omega))⟩
theorem sp_isImage {D : Mem} {y : Int} (hy : A32 y) : f9_isImage D y = some (if 0 ≤ y ∧ y ≤ 2 then 1 else 0) := by
  unfold A32 at hy
  refine wp_is ?_
  unfold f9_isImage
  by_cases c0 : y < 0
  · exact wp_pos (by rw [w32_id hy]; exact c0) (wpo_of (by rw [if_neg (by omega)]))
  · refine wp_neg (by rw [w32_id hy]; exact c0) ?_
    by_cases c1 : y < 3
    · exact wp_pos ((lt32 hy (by omega)).mpr c1) (wpo_of (by rw [if_pos (by omega)]))
    · exact wp_neg (fun z => c1 ((lt32 hy (by omega)).mp z)) (wpo_of (by rw [if_neg (by omega)]))
theorem ag_image {D : Mem} {x : Int} (hI : IC D) (hJ : II D) (hx : A32 x) : wpo (f9_image D x) (fun a => wpo (f10_image a.2 x) (fun b => w32 a.1 = w32 b.1 ∧ IF D b.2 ∧ II b.2)) := by
  have hx' := hx
  unfold A32 at hx'
  have hin : ∀ M : Mem, f10_in M (w32 x) 0 2 = some (if 0 ≤ x ∧ x ≤ 2 then 1 else 0) := fun M => by
    rw [w32_id hx']
    exact sp_in (by omega) (by omega) (by omega)
  unfold f9_image f10_image
  refine wp_then (sp_isImage hx) ?_
  by_cases c : 0 ≤ x ∧ x ≤ 2
  · obtain ⟨k, rfl⟩ : ∃ k : Nat, x = (k : Int) := ⟨x.toNat, by omega⟩
    refine wp_neg (fun z => if01.mp z c) (wp_pos (by omega) ?_)
    rw [Int.toNat_natCast]
    refine wp_bind.mpr (wpo_mono (sp_become (D := D) (r := 85 + 8 * k) (s := 12) (by omega)) ?_)
    rintro M ⟨m0, m1, m2, m3⟩
    refine wpo_of (wp_then (hin _) (wp_neg (fun z => if01.mp z c) ?_))
    dsimp only
    have m118 : ∀ i, mset M 21 k 1 118 i = D 118 i := fun i => by rw [ms_ne (by decide), m0 118 i (by omega)]
    refine wp_bind.mpr (wpo_mono (P := fun B => (∀ c i, c ≠ 119 → B c i = mset M 21 k 1 c i) ∧ (∀ j, (j < 72 * k ∨ 72 * k + 72 ≤ j) → B 119 j = D 119 j) ∧ ∀ j, j < 72 → B 119 (72 * k + j) = D 118 j) ?_ ?_)
    · refine wp_for (I := fun j t => t.1 = (j : Int) ∧ (∀ c i, c ≠ 119 → t.2 c i = mset M 21 k 1 c i) ∧ (∀ j, (j < 72 * k ∨ 72 * k + 72 ≤ j) → t.2 119 j = D 119 j) ∧ ∀ i, i < j → t.2 119 (72 * k + i) = D 118 i) 72 ?_ ?_ FU 0 _ ⟨rfl, fun _ _ _ => rfl, fun j _ => ?_, fun i hi => absurd hi (Nat.not_lt_zero _)⟩ (Nat.zero_le _) (by unfold FU; omega)
      · rintro j ⟨t1, N⟩ hj ⟨e1, e2, e3, e4⟩
        dsimp only at e1 e2 e3 e4 ⊢
        subst e1
        have et : (72 * (k : Int) + (j : Int)).toNat = 72 * k + j := by omega
        refine wp_pos ((lt32 (by omega) (by omega)).mpr (by omega)) (wp_pos (by omega) (wp_pos (by omega) (wpo_of ⟨by dsimp only; omega, fun c i h => ?_, fun i h => ?_, fun i hi => ?_⟩)))
        · dsimp only
          rw [ms_ne h]
          exact e2 c i h
        · dsimp only
          rw [et, ms_ni (by omega)]
          exact e3 i h
        · dsimp only
          rw [et, Int.toNat_natCast]
          by_cases h : i = j
          · rw [h, ms_same, e2 118 j (by decide), m118]
          · rw [ms_ni (by omega)]
            exact e4 i (by omega)
      · rintro ⟨t1, N⟩ ⟨e1, e2, e3, e4⟩
        dsimp only at e1 e2 e3 e4 ⊢
        subst e1
        exact wp_neg (fun z => absurd ((lt32 (by omega) (by omega)).mp z) (by omega)) (wpo_of ⟨e2, e3, e4⟩)
      · dsimp only
        rw [ms_ne (by decide), m0 119 j (by omega)]
    · rintro B ⟨b1, b2, b3⟩
      refine wp_pos (by omega) (wpo_of ⟨rfl, fun c i h1 h2 h3 h4 => ?_, fun j hj => ?_⟩)
      · dsimp only
        rw [ms_ne h4, b1 c i h3, ms_ne h2, m0 c i (by omega)]
      · dsimp only
        have f : ∀ c i, c ≠ 119 → c ≠ 120 → mset B 120 k 1 c i = mset M 21 k 1 c i := fun c i h h' => by rw [ms_ne h', b1 c i h]
        by_cases hjk : j = k
        · subst hjk
          have e : ∀ i, i < 72 → Wi (mset B 120 j 1) j i = D 118 i := fun i hi => by
            unfold Wi
            rw [ms_ne (by decide)]
            exact b3 i hi
          refine Or.inr ⟨?_, ms_same, hI.1.congr e, ?_⟩
          · rw [f 21 j (by decide) (by decide), ms_same]
          · refine (PR.wcongr (D := M) ?_ hI.1 e).congr (fun c i h1 h2 => ?_)
            · exact PR.become hI.1 hI.2.1 m1 m2 m3
            · rw [f c i (by omega) (by omega), ms_ne (by omega)]
        · rw [f 21 j (by decide) (by decide), ms_ni hjk, m0 21 j (by omega), ms_ni hjk, b1 120 j (by decide), ms_ne (by decide), m0 120 j (by omega)]
          rcases hJ j hj with h | ⟨h1, h2, h3, h4⟩
          · exact Or.inl h
          · refine Or.inr ⟨h1, h2, h3.congr (fun i hi => ?_), PR.congr (D := D) (PR.wcongr h4 h3 (fun i hi => ?_)) (fun c i a b => ?_)⟩
            · unfold Wi
              rw [ms_ne (by decide), b2 _ (by omega)]
            · unfold Wi
              rw [ms_ne (by decide), b2 _ (by omega)]
            · rw [f c i (by omega) (by omega), ms_ne (by omega), m0 c i (by omega)]
  · exact wp_pos (if01.mpr c) (wpo_of (wp_then (hin _) (wp_pos (if01.mpr c) (wpo_of ⟨rfl, fun _ _ _ _ _ _ => rfl, hJ⟩))))
