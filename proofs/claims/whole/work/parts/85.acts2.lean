/-! ANEW, WIDEN, ACHE, COMES (by hand) -/
theorem wAct_A {W : Nat → Int} (h : WOK W) {a : Int} : wA (wAct W a) = wA W + 1 := by
  have := h.A
  unfold wA wAct at *
  rw [if_pos rfl]
  omega
theorem wAct_ne {W : Nat → Int} {a : Int} {i : Nat} (h : i ≠ 8) (h' : i ≠ 42 + wA W) : wAct W a i = W i := by
  unfold wAct
  rw [if_neg h, if_neg h']
theorem wAct_8 {W : Nat → Int} {a : Int} : wAct W a 8 = W 8 + 1 := by
  unfold wAct
  rw [if_pos rfl]
theorem wAct_at {W : Nat → Int} {a : Int} : wAct W a (42 + wA W) = a := by
  unfold wAct
  rw [if_neg (by omega), if_pos rfl]
theorem wAct_ok {W : Nat → Int} (h : WOK W) (h30 : W 8 < 30) (h9 : 0 < W 9) {a : Int} {p : Nat} {v : Int} (hp : (p : Int) < W 7) (ha : (a = 100 * p + v ∧ 1 ≤ v ∧ v ≤ 20) ∨ (a = 1000 + 100 * p + v ∧ 0 ≤ v ∧ v ≤ 11)) : WOK (wAct W a) := by
  have hA := h.A
  obtain ⟨h1, h2, h3⟩ := h
  have hb : W 7 ≤ 8 := by omega
  have e : ∀ i, i ≠ 8 → i ≠ 42 + wA W → wAct W a i = W i := fun i => wAct_ne
  have e7 := e 7 (by decide) (by omega)
  refine ⟨?_, fun q hq => ?_, fun i hi => ?_⟩
  · rw [e 9 (by decide) (by omega), e 0 (by decide) (by omega), e 1 (by decide) (by omega), e 2 (by decide) (by omega), e 3 (by decide) (by omega), e 4 (by decide) (by omega), e 5 (by decide) (by omega), e 6 (by decide) (by omega), e7, wAct_8]
    omega
  · rw [e7] at hq
    rw [e _ (by omega) (by omega), e _ (by omega) (by omega), e _ (by omega) (by omega), e _ (by omega) (by omega)]
    exact h2 q hq
  · rw [wAct_8] at hi
    rw [e7]
    by_cases c : i = wA W
    · rw [c, wAct_at]
      exact ⟨p, v, hp, ha⟩
    · rw [e _ (by omega) (by omega)]
      exact h3 i (by omega)
theorem wAct_ache {W : Nat → Int} (h7 : W 7 ≤ 8) {a : Int} {i p : Nat} (hp : (p : Int) < W 7) (hi : i ≤ wA W) : wAche (wAct W a) i p = wAche W i p := wAche_congr (wAct_ne (by omega) (by omega)) i (fun k hk => wAct_ne (by omega) (by omega))
theorem wAct_from {W : Nat → Int} (h7 : W 7 ≤ 8) {a : Int} {i p : Nat} (hp : (p : Int) < W 7) (hi : i ≤ wA W) : wFrom (wAct W a) i p = wFrom W i p := wFrom_congr (wAct_ne (by omega) (by omega)) i (fun k hk => wAct_ne (by omega) (by omega))
theorem wAct_set {D : Mem} (h : WOK (D 118)) {a : Int} : mset (mset D 118 (42 + D 118 8).toNat a) 118 8 (D 118 8 + 1) 118 = wAct (D 118) a := by
  have hA := h.A
  funext i
  have e : (42 + D 118 8).toNat = 42 + wA (D 118) := by omega
  rw [e]
  simp only [mset, wAct, true_and]
/-- the class's side of an act -/
theorem sp_act {D : Mem} {p : Nat} {w v a : Int} (hI : IC D) (h30 : D 118 8 < 30) (h9 : 0 < D 118 9) (hp : (p : Int) < D 118 7) (hw : (w = 0 ∧ a = 100 * p + v ∧ 1 ≤ v ∧ v ≤ 20) ∨ (w = 1 ∧ a = 1000 + 100 * p + v ∧ 0 ≤ v ∧ v ≤ 11)) : wpo (f9_act D (p : Int) w v) (fun r => r.1 = (if w = 0 then wAche (D 118) (wA (D 118)) p else wFrom (D 118) (wA (D 118)) p) ∧ (∀ c i, (c < 12 ∨ (19 < c ∧ c < 23) ∨ (35 < c ∧ c ≠ 49 ∧ c ≠ 58 ∧ c ≠ 64)) → r.2 c i = D c i) ∧ PR r.2 12 (wAct (D 118) a) ∧ NowOK (yW (wAct (D 118) a)) r.2 ∧ r.2 49 1 = 0 ∧ r.2 58 1 = 0 ∧ r.2 64 1 = 0) := by
  have hb := hI.1.bd
  have hA := hI.1.A
  obtain ⟨⟨a0, a1, a2, a3, a4, a5, a6, a7, a8, a9⟩, h2, h3⟩ := hI.2.1
  obtain ⟨q1, q2, q3, q4⟩ := h2 p hp
  have hW' := wAct_ok hI.1 h30 h9 (a := a) (v := v) hp (by omega)
  have e : ∀ i, i ≠ 8 → i ≠ 42 + wA (D 118) → wAct (D 118) a i = D 118 i := fun i => wAct_ne
  have e7 := e 7 (by decide) (by omega)
  have h7 : D 118 7 ≤ 8 := by omega
  have hact : ∀ q, wAche (wAct (D 118) a) (wA (D 118) + 1) q = if wAct (D 118) a (42 + wA (D 118)) < 1000 ∧ wAct (D 118) a (42 + wA (D 118)) / 100 = q then wAct (D 118) a (42 + wA (D 118)) % 100 else wAche (wAct (D 118) a) (wA (D 118)) q := fun q => rfl
  have hfrm : ∀ q, wFrom (wAct (D 118) a) (wA (D 118) + 1) q = if 1000 ≤ wAct (D 118) a (42 + wA (D 118)) ∧ wAct (D 118) a (42 + wA (D 118)) / 100 - 10 = q then wAct (D 118) a (42 + wA (D 118)) % 100 else wFrom (wAct (D 118) a) (wA (D 118)) q := fun q => rfl
  rw [wAct_at] at hact hfrm
  -- the parish behind the act
  have fin : ∀ M : Mem, (∀ c i, (c < 12 ∨ 19 < c) → M c i = D c i) → (∀ i, i ≠ 9 → M 12 i = D 12 i) → M 12 9 = D 118 8 + 1 → (∀ i, M 15 i = D 15 i) → (∀ i, M 16 i = D 16 i) → (∀ q : Nat, (q : Int) < D 118 7 → M 13 q = wAche (wAct (D 118) a) (wA (D 118) + 1) q ∧ M 14 q = wFrom (wAct (D 118) a) (wA (D 118) + 1) q) → (∀ i, i ≠ wA (D 118) → M 17 i = D 17 i ∧ M 18 i = D 18 i ∧ M 19 i = D 19 i) → (M 17 (wA (D 118)) = p ∧ M 18 (wA (D 118)) = w ∧ M 19 (wA (D 118)) = (if w = 0 then wAche (D 118) (wA (D 118)) p else wFrom (D 118) (wA (D 118)) p)) → PR M 12 (wAct (D 118) a) := by
    intro M m0 m1 m2 m3 m4 m5 m6 m7
    refine ⟨?_, fun q hq => ?_, fun i hi => ?_⟩
    · rw [e 9 (by decide) (by omega), e 0 (by decide) (by omega), e 1 (by decide) (by omega), e 2 (by decide) (by omega), e 3 (by decide) (by omega), e 4 (by decide) (by omega), e 5 (by decide) (by omega), e 6 (by decide) (by omega), e7, wAct_8, m1 0 (by decide), m1 1 (by decide), m1 2 (by decide), m1 3 (by decide), m1 4 (by decide), m1 5 (by decide), m1 6 (by decide), m1 7 (by decide), m1 8 (by decide)]
      exact ⟨a0, a1, a2, a3, a4, a5, a6, a7, a8, m2⟩
    · rw [e7] at hq
      obtain ⟨-, -, b3, b4⟩ := h2 q hq
      obtain ⟨c1, c2⟩ := m5 q hq
      rw [wAct_A hI.1, e _ (by omega) (by omega), e _ (by omega) (by omega)]
      exact ⟨c1, c2, (m3 q).trans b3, (m4 q).trans b4⟩
    · rw [wAct_8] at hi
      by_cases c : i = wA (D 118)
      · subst c
        refine ⟨p, by rw [e7]; exact hp, m7.1, ?_⟩
        rw [wAct_at, wAct_ache h7 hp (Nat.le_refl _), wAct_from h7 hp (Nat.le_refl _)]
        rcases hw with ⟨w0, w1, w2, w3⟩ | ⟨w0, w1, w2, w3⟩
        · refine Or.inl ⟨by omega, by omega, m7.2.1.trans w0, ?_⟩
          have := m7.2.2
          rw [if_pos w0] at this
          exact this
        · refine Or.inr ⟨by omega, by omega, m7.2.1.trans w0, ?_⟩
          have := m7.2.2
          rw [if_neg (by omega)] at this
          exact this
      · obtain ⟨q, q1, q2, q3⟩ := h3 i (by omega)
        obtain ⟨n1, n2, n3⟩ := m6 i c
        refine ⟨q, by rw [e7]; exact q1, n1.trans q2, ?_⟩
        rw [e _ (by omega) (by omega), wAct_ache h7 q1 (by omega), wAct_from h7 q1 (by omega)]
        rcases q3 with ⟨d1, d2, d3, d4⟩ | ⟨d1, d2, d3, d4⟩
        · exact Or.inl ⟨d1, d2, n2.trans d3, n3.trans d4⟩
        · exact Or.inr ⟨d1, d2, n2.trans d3, n3.trans d4⟩
  have go : ∀ M : Mem, (∀ c i, (c < 12 ∨ 19 < c) → M c i = D c i) → PR M 12 (wAct (D 118) a) → ∀ x : Int, x = (if w = 0 then wAche (D 118) (wA (D 118)) p else wFrom (D 118) (wA (D 118)) p) → wpo (Option.bind (f9_changed M) fun (a2 : Mem) => some (x, a2)) (fun r => r.1 = (if w = 0 then wAche (D 118) (wA (D 118)) p else wFrom (D 118) (wA (D 118)) p) ∧ (∀ c i, (c < 12 ∨ (19 < c ∧ c < 23) ∨ (35 < c ∧ c ≠ 49 ∧ c ≠ 58 ∧ c ≠ 64)) → r.2 c i = D c i) ∧ PR r.2 12 (wAct (D 118) a) ∧ NowOK (yW (wAct (D 118) a)) r.2 ∧ r.2 49 1 = 0 ∧ r.2 58 1 = 0 ∧ r.2 64 1 = 0) := by
    intro M m0 m1 x hx
    refine wp_bind.mpr (wpo_mono (sp_changed hW' m1) ?_)
    rintro N ⟨n1, n2, n3, n4, n5⟩
    refine wpo_of ⟨hx, fun c i h => ?_, m1.congr (fun c i h1 h2 => n1 c i (by omega) (by omega)), n2, n3, n4, n5⟩
    dsimp only
    rw [n1 c i (by omega) (by omega)]
    exact m0 c i (by omega)
  unfold f9_act
  refine wp_pos (by rw [a9]; exact (lt32 (by omega) (by omega)).mpr h30) ?_
  have hk : D 12 9 = ((wA (D 118) : Nat) : Int) := by rw [a9]; omega
  have hp8 : p < 8 := by omega
  rcases hw with ⟨w0, w1, w2, w3⟩ | ⟨w0, w1, w2, w3⟩
  · subst w0
    have hc : f2_change D 12 (p : Int) 0 v = some (D 13 p, mset (mset (mset (mset (mset D 13 p v) 17 (wA (D 118)) (p : Int)) 18 (wA (D 118)) 0) 19 (wA (D 118)) (D 13 p)) 12 9 (D 12 9 + 1)) := by
      refine wp_is ?_
      unfold f2_change
      have g1 : mset D (12 + 1) p v 12 9 = ((wA (D 118) : Nat) : Int) := (ms_ne (by decide)).trans hk
      have g2 : mset (mset D (12 + 1) p v) (12 + 5) (wA (D 118)) (p : Int) 12 9 = ((wA (D 118) : Nat) : Int) := (ms_ne (by decide)).trans g1
      have g3 : mset (mset (mset D (12 + 1) p v) (12 + 5) (wA (D 118)) (p : Int)) (12 + 6) (wA (D 118)) 0 12 9 = ((wA (D 118) : Nat) : Int) := (ms_ne (by decide)).trans g2
      have g4 : mset (mset (mset (mset D (12 + 1) p v) (12 + 5) (wA (D 118)) (p : Int)) (12 + 6) (wA (D 118)) 0) (12 + 7) (wA (D 118)) (D (12 + 1) p) 12 9 = D 12 9 := ((ms_ne (by decide)).trans g3).trans hk.symm
      refine wp_pos (by decide) (wp_pos (by omega) (wp_then rfl (wp_then rfl ?_)))
      rw [Int.toNat_natCast, g1, Int.toNat_natCast]
      refine wp_pos (by omega) (wp_then rfl ?_)
      rw [g2, Int.toNat_natCast]
      refine wp_pos (by omega) (wp_then rfl ?_)
      rw [g3, Int.toNat_natCast]
      refine wp_pos (by omega) (wp_then rfl (wpo_of ?_))
      rw [g4]
    refine wp_then hc (go _ (fun c i h => ?_) (fin _ (fun c i h => ?_) (fun i h => ?_) ?_ (fun i => ?_) (fun i => ?_) (fun q hq => ⟨?_, ?_⟩) (fun i h => ⟨?_, ?_, ?_⟩) ⟨?_, ?_, ?_⟩) _ ?_)
    · dsimp only
      rw [ms_ne (by omega), ms_ne (by omega), ms_ne (by omega), ms_ne (by omega), ms_ne (by omega)]
    · dsimp only
      rw [ms_ne (by omega), ms_ne (by omega), ms_ne (by omega), ms_ne (by omega), ms_ne (by omega)]
    · dsimp only
      rw [ms_ni h, ms_ne (by decide), ms_ne (by decide), ms_ne (by decide), ms_ne (by decide)]
    · dsimp only
      rw [ms_same, a9]
    · dsimp only
      rw [ms_ne (by decide), ms_ne (by decide), ms_ne (by decide), ms_ne (by decide), ms_ne (by decide)]
    · dsimp only
      rw [ms_ne (by decide), ms_ne (by decide), ms_ne (by decide), ms_ne (by decide), ms_ne (by decide)]
    · dsimp only
      rw [ms_ne (by decide), ms_ne (by decide), ms_ne (by decide), ms_ne (by decide), hact]
      by_cases hqp : q = p
      · rw [hqp, ms_same, if_pos (by omega)]
        omega
      · rw [ms_ni hqp, if_neg (by omega), wAct_ache h7 hq (Nat.le_refl _)]
        exact (h2 q hq).1
    · dsimp only
      rw [ms_ne (by decide), ms_ne (by decide), ms_ne (by decide), ms_ne (by decide), ms_ne (by decide), hfrm, if_neg (by omega), wAct_from h7 hq (Nat.le_refl _)]
      exact (h2 q hq).2.1
    · dsimp only
      rw [ms_ne (by decide), ms_ne (by decide), ms_ne (by decide), ms_ni h, ms_ne (by decide)]
    · dsimp only
      rw [ms_ne (by decide), ms_ne (by decide), ms_ni h, ms_ne (by decide), ms_ne (by decide)]
    · dsimp only
      rw [ms_ne (by decide), ms_ni h, ms_ne (by decide), ms_ne (by decide), ms_ne (by decide)]
    · dsimp only
      rw [ms_ne (by decide), ms_ne (by decide), ms_ne (by decide), ms_same]
    · dsimp only
      rw [ms_ne (by decide), ms_ne (by decide), ms_same]
    · dsimp only
      rw [ms_ne (by decide), ms_same, if_pos rfl]
      exact q1
    · dsimp only
      rw [if_pos rfl]
      exact q1
  · subst w0
    have hc : f2_change D 12 (p : Int) 1 v = some (D 14 p, mset (mset (mset (mset (mset D 14 p v) 17 (wA (D 118)) (p : Int)) 18 (wA (D 118)) 1) 19 (wA (D 118)) (D 14 p)) 12 9 (D 12 9 + 1)) := by
      refine wp_is ?_
      unfold f2_change
      have g1 : mset D (12 + 2) p v 12 9 = ((wA (D 118) : Nat) : Int) := (ms_ne (by decide)).trans hk
      have g2 : mset (mset D (12 + 2) p v) (12 + 5) (wA (D 118)) (p : Int) 12 9 = ((wA (D 118) : Nat) : Int) := (ms_ne (by decide)).trans g1
      have g3 : mset (mset (mset D (12 + 2) p v) (12 + 5) (wA (D 118)) (p : Int)) (12 + 6) (wA (D 118)) 1 12 9 = ((wA (D 118) : Nat) : Int) := (ms_ne (by decide)).trans g2
      have g4 : mset (mset (mset (mset D (12 + 2) p v) (12 + 5) (wA (D 118)) (p : Int)) (12 + 6) (wA (D 118)) 1) (12 + 7) (wA (D 118)) (D (12 + 2) p) 12 9 = D 12 9 := ((ms_ne (by decide)).trans g3).trans hk.symm
      refine wp_neg (by decide) (wp_pos (by omega) (wp_then rfl (wp_then rfl ?_)))
      rw [Int.toNat_natCast, g1, Int.toNat_natCast]
      refine wp_pos (by omega) (wp_then rfl ?_)
      rw [g2, Int.toNat_natCast]
      refine wp_pos (by omega) (wp_then rfl ?_)
      rw [g3, Int.toNat_natCast]
      refine wp_pos (by omega) (wp_then rfl (wpo_of ?_))
      rw [g4]
    refine wp_then hc (go _ (fun c i h => ?_) (fin _ (fun c i h => ?_) (fun i h => ?_) ?_ (fun i => ?_) (fun i => ?_) (fun q hq => ⟨?_, ?_⟩) (fun i h => ⟨?_, ?_, ?_⟩) ⟨?_, ?_, ?_⟩) _ ?_)
    · dsimp only
      rw [ms_ne (by omega), ms_ne (by omega), ms_ne (by omega), ms_ne (by omega), ms_ne (by omega)]
    · dsimp only
      rw [ms_ne (by omega), ms_ne (by omega), ms_ne (by omega), ms_ne (by omega), ms_ne (by omega)]
    · dsimp only
      rw [ms_ni h, ms_ne (by decide), ms_ne (by decide), ms_ne (by decide), ms_ne (by decide)]
    · dsimp only
      rw [ms_same, a9]
    · dsimp only
      rw [ms_ne (by decide), ms_ne (by decide), ms_ne (by decide), ms_ne (by decide), ms_ne (by decide)]
    · dsimp only
      rw [ms_ne (by decide), ms_ne (by decide), ms_ne (by decide), ms_ne (by decide), ms_ne (by decide)]
    · dsimp only
      rw [ms_ne (by decide), ms_ne (by decide), ms_ne (by decide), ms_ne (by decide), ms_ne (by decide), hact, if_neg (by omega), wAct_ache h7 hq (Nat.le_refl _)]
      exact (h2 q hq).1
    · dsimp only
      rw [ms_ne (by decide), ms_ne (by decide), ms_ne (by decide), ms_ne (by decide), hfrm]
      by_cases hqp : q = p
      · rw [hqp, ms_same, if_pos (by omega)]
        omega
      · rw [ms_ni hqp, if_neg (by omega), wAct_from h7 hq (Nat.le_refl _)]
        exact (h2 q hq).2.1
    · dsimp only
      rw [ms_ne (by decide), ms_ne (by decide), ms_ne (by decide), ms_ni h, ms_ne (by decide)]
    · dsimp only
      rw [ms_ne (by decide), ms_ne (by decide), ms_ni h, ms_ne (by decide), ms_ne (by decide)]
    · dsimp only
      rw [ms_ne (by decide), ms_ni h, ms_ne (by decide), ms_ne (by decide), ms_ne (by decide)]
    · dsimp only
      rw [ms_ne (by decide), ms_ne (by decide), ms_ne (by decide), ms_same]
    · dsimp only
      rw [ms_ne (by decide), ms_ne (by decide), ms_same]
    · dsimp only
      rw [ms_ne (by decide), ms_same, if_neg (by decide)]
      exact q2
    · dsimp only
      rw [if_neg (by decide)]
      exact q2
