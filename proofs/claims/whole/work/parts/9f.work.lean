/-! PLANS: the planner, of the parish as it is (by hand) -/
def SF9 (D M : Mem) : Prop := ∀ c i, c ≠ 56 → c ≠ 57 → (c ≠ 49 ∨ (i ≠ 2 ∧ i ≠ 3 ∧ i ≠ 4)) → M c i = D c i
theorem sp_search {D : Mem} {A Co F : Nat → Int} {P N : Nat} {R K : Int} (hB : PB A Co F P N R K) (hT : PT A Co F P N D) (h8 : D 12 8 = (P : Int)) (h1 : D 12 1 = (N : Int)) (h14 : ∀ p, p < P → D 14 p = F p) (hK : D 12 3 * D 12 4 = K) : wpo (f3_search D R) (fun M => SF9 D M ∧ ∃ r, Best A Co F P N R K (M 49 2) r (M 49 3) ∧ M 49 4 = r) := by
  have hP := hB.1
  have hN := hB.2.1
  have h256 := pow8 hP
  have hpos : 0 < 2 ^ P := Nat.two_pow_pos _
  unfold f3_search
  refine wp_then rfl (wp_then rfl ?_)
  rw [h8, shl_one (by omega), hK]
  refine wp_bind.mpr (wpo_mono (P := fun S => (∀ c i, c ≠ 56 → c ≠ 57 → S c i = D c i) ∧ ∀ s, s < 2 ^ P → S 56 s = 4294967296000000 ∧ S 57 s = 0) ?_ ?_)
  · refine wp_for (I := fun q t => t.1 = (q : Int) ∧ (∀ c i, c ≠ 56 → c ≠ 57 → t.2 c i = D c i) ∧ ∀ s, s < q → t.2 56 s = 4294967296000000 ∧ t.2 57 s = 0) (2 ^ P) ?_ ?_ FU 0 _ ⟨rfl, fun _ _ _ _ => rfl, fun s hs => absurd hs (Nat.not_lt_zero _)⟩ (Nat.zero_le _) (by unfold FU; omega)
    · rintro q ⟨q', S⟩ hq ⟨e1, e2, e3⟩
      dsimp only at e1 e2 e3 ⊢
      subst e1
      refine wp_neg (fun z => absurd ((lt32 (by omega) (by omega)).mp z) (by omega)) (wp_pos (by omega) (wp_then rfl (wpo_of ⟨by dsimp only; omega, fun c i x y => ?_, fun s hs => ?_⟩)))
      · dsimp only
        rw [ms_ne y, ms_ne x]
        exact e2 c i x y
      · dsimp only
        rw [Int.toNat_natCast]
        by_cases e : s = q
        · rw [e, ms_ne (by decide), ms_same, ms_same]
          exact ⟨rfl, rfl⟩
        · rw [ms_ne (by decide), ms_ni e, ms_ni e, ms_ne (by decide)]
          exact e3 s (by omega)
    · rintro ⟨q', S⟩ ⟨e1, e2, e3⟩
      dsimp only at e1 e2 e3 ⊢
      subst e1
      exact wp_pos ((lt32 (by omega) (by omega)).mpr (by omega)) (wpo_of ⟨e2, e3⟩)
  rintro S ⟨a1, a2⟩
  refine wp_then rfl (wp_then rfl ?_)
  generalize hE : mset (mset S 56 0 0) 57 0 1 = E
  have eo : ∀ c i, c ≠ 56 → c ≠ 57 → E c i = D c i := fun c i x y => by rw [← hE, ms_ne y, ms_ne x]; exact a1 c i x y
  have e0 : ∀ s, s < 2 ^ P → TQ A Co F P R K 0 s E := by
    intro s hs
    unfold TQ
    by_cases s0 : s = 0
    · rw [s0, ← hE, ms_ne (by decide), ms_same, ms_same]
      refine Or.inr ⟨0, 0, rfl, by decide, by decide, (EX_zero hB.F0).mpr ⟨rfl, rfl, rfl⟩, by rw [ZX_zero hB.F0, if_pos ⟨rfl, rfl⟩], by decide, fun b r h => ?_, fun b h => ?_⟩
      · have := (EX_zero hB.F0).mp h
        omega
      · rw [ZX_zero hB.F0, if_neg (fun z => by have := z.2; omega)]
    · rw [← hE, ms_ne (by decide), ms_ni s0, ms_ni s0, ms_ne (by decide), (a2 s hs).1, (a2 s hs).2]
      exact Or.inl ⟨rfl, rfl, fun b r h => s0 ((EX_zero hB.F0).mp h).1, fun b => by rw [ZX_zero hB.F0, if_neg (fun z => s0 z.1)]⟩
  refine wp_bind.mpr (wpo_mono (P := fun S => (∀ c i, c ≠ 56 → c ≠ 57 → S c i = D c i) ∧ ∀ s, s < 2 ^ P → TQ A Co F P R K N s S) ?_ ?_)
  · refine wp_for (I := fun k t => t.1 = (k : Int) ∧ (∀ c i, c ≠ 56 → c ≠ 57 → t.2 c i = D c i) ∧ ∀ s, s < 2 ^ P → TQ A Co F P R K k s t.2) N ?_ ?_ FU 0 _ ⟨rfl, eo, e0⟩ (Nat.zero_le _) (by unfold FU; omega)
    · rintro k ⟨k', S⟩ hk ⟨e1, e2, e3⟩
      dsimp only at e1 e2 e3 ⊢
      subst e1
      have s1 : S 12 1 = (N : Int) := (e2 12 1 (by decide) (by decide)).trans h1
      have s8 : S 12 8 = (P : Int) := (e2 12 8 (by decide) (by decide)).trans h8
      refine wp_pos (by rw [s1]; exact (lt32 (by omega) (by omega)).mpr (by omega)) ?_
      refine wp_then (sp_come hP (by omega) hB.2.2.2.2.1 s8 (fun p hp => (e2 14 p (by decide) (by decide)).trans (h14 p hp))) ?_
      refine wp_then rfl ?_
      refine wp_bind.mpr (wpo_mono (sp_sets hB (by omega) (hT.congr (fun c i x y => e2 c i (by omega) (by omega))) e3) ?_)
      rintro S' ⟨g1, g2⟩
      exact wpo_of ⟨by dsimp only; omega, fun c i x y => (g1 c i x y).trans (e2 c i x y), g2⟩
    · rintro ⟨k', S⟩ ⟨e1, e2, e3⟩
      dsimp only at e1 e2 e3 ⊢
      subst e1
      have s1 : S 12 1 = (N : Int) := (e2 12 1 (by decide) (by decide)).trans h1
      exact wp_neg (by rw [s1]; exact fun z => absurd ((lt32 (by omega) (by omega)).mp z) (by omega)) (wpo_of ⟨e2, e3⟩)
  rintro S' ⟨g1, g2⟩
  refine wp_bind.mpr (wpo_mono (sp_takeLeast hB (hT.congr (fun c i x y => g1 c i (by omega) (by omega))) g2) ?_)
  rintro M ⟨m1, m2⟩
  exact wpo_of ⟨fun c i x y z => (m1 c i z).trans (g1 c i x y), m2⟩
/-- the parish's own numbers -/
def pA (D : Mem) : Nat → Int := yW (D 118) 1
def pC (D : Mem) : Nat → Int := ycost (yW (D 118))
def pF (D : Mem) : Nat → Int := yW (D 118) 3
def pP (D : Mem) : Nat := yP (yW (D 118))
def pN (D : Mem) : Nat := yN (yW (D 118))
def pK (D : Mem) : Int := D 118 2 * D 118 3
def pR (D : Mem) : Int := D 118 1
theorem IC.pb {D : Mem} (hI : IC D) {R : Int} (hR : 0 ≤ R ∧ R ≤ 160) : PB (pA D) (pC D) (pF D) (pP D) (pN D) R (pK D) := by
  have hb := hI.1.bd
  have hP := hI.P
  have hN := hI.N
  have hY := hI.1.yok
  refine ⟨hP.2, hN.2, fun p hp => ?_, fun p hp => ?_, fun p hp => ?_, hR, ?_⟩
  · have := hY.ache hp
    unfold pA
    omega
  · have := hY.ache hp
    exact mulbd (x := 20) (y := 9) ⟨by omega, by omega⟩ ⟨by omega, by omega⟩
  · have := hY.ache hp
    unfold pF
    omega
  · exact mulbd (x := 40) (y := 20) ⟨by omega, by omega⟩ ⟨by omega, by omega⟩
def KP1 (D M : Mem) : Prop := PT (pA D) (pC D) (pF D) (pP D) (pN D) M ∧ ∃ r, Best (pA D) (pC D) (pF D) (pP D) (pN D) (pR D) (pK D) (M 49 2) r (M 49 3) ∧ M 49 4 = r
def KP (D : Mem) : Prop := D 49 1 = 0 ∨ (D 49 1 = 1 ∧ KP1 D D)
theorem KP1.congr {D D' M M' : Mem} (h : KP1 D M) (hw : D' 118 = D 118) (k : ∀ c i, (c = 49 ∧ 2 ≤ i) ∨ (51 ≤ c ∧ c ≤ 55) → M' c i = M c i) : KP1 D' M' := by
  have eA : pA D' = pA D := by unfold pA; rw [hw]
  have eC : pC D' = pC D := by unfold pC; rw [hw]
  have eF : pF D' = pF D := by unfold pF; rw [hw]
  have eP : pP D' = pP D := by unfold pP; rw [hw]
  have eN : pN D' = pN D := by unfold pN; rw [hw]
  have eK : pK D' = pK D := by unfold pK; rw [hw]
  have eR : pR D' = pR D := by unfold pR; rw [hw]
  unfold KP1
  rw [eA, eC, eF, eP, eN, eK, eR, k 49 2 (Or.inl ⟨rfl, by decide⟩), k 49 3 (Or.inl ⟨rfl, by decide⟩), k 49 4 (Or.inl ⟨rfl, by decide⟩)]
  exact ⟨h.1.congr (fun c i x y => k c i (Or.inr ⟨x, y⟩)), h.2⟩
theorem KP.sk {D M : Mem} (h : KP D) (hs : SK D M) : KP M := by
  have hw : M 118 = D 118 := funext (fun i => hs 118 i (by unfold scr; omega))
  have e1 : M 49 1 = D 49 1 := hs 49 1 (by unfold scr; omega)
  rcases h with h | ⟨h1, h2⟩
  · exact Or.inl (e1.trans h)
  · exact Or.inr ⟨e1.trans h1, h2.congr hw (fun c i x => hs c i (by unfold scr; omega))⟩
theorem sp_workP {D : Mem} (hI : IC D) (hK : KP D) : wpo (f3_work D) (fun M => SX 49 57 D M ∧ M 49 1 = 1 ∧ KP1 D M) := by
  have hP := hI.P
  have hN := hI.N
  have hb := hI.1.bd
  have e8 : D 12 8 = (pP D : Int) := by rw [hI.e8]; exact hP.1.symm
  have e1 : D 12 1 = (pN D : Int) := by rw [hI.e1]; exact hN.1.symm
  have hB := hI.pb (R := pR D) (by unfold pR; omega)
  have e2 : D 12 2 = pR D := hI.2.1.1.2.2.1
  have e34 : D 12 3 * D 12 4 = pK D := by
    rw [hI.2.1.1.2.2.2.1, hI.2.1.1.2.2.2.2.1]
    rfl
  unfold f3_work
  rcases hK with k0 | ⟨k1, k2⟩
  · refine wp_pos (by rw [k0]; rfl) ?_
    have hp : ∀ p, p < pP D → D 13 p = pA D p ∧ D 14 p = pF D p ∧ D 15 p = D 118 (10 + 4 * p + 2) := fun p hp => by
      have hq : (p : Int) < D 118 7 := by rw [← hP.1]; exact Int.ofNat_lt.mpr hp
      have := hI.2.1.2.1 p hq
      exact ⟨this.1, this.2.1, this.2.2.1⟩
    refine wp_bind.mpr (wpo_mono (sp_addUp (A := pA D) (V := fun p => D 118 (10 + 4 * p + 2)) (F := pF D) hP.2 e8 e1 hN.2 hB.2.2.2.2.1 hp) ?_)
    rintro M1 ⟨a1, a2⟩
    refine wp_bind.mpr (wpo_mono (by rw [a1 12 2 (by omega), e2]; exact sp_search hB a2 ((a1 12 8 (by omega)).trans e8) ((a1 12 1 (by omega)).trans e1) (fun p hq => (a1 14 p (by omega)).trans (hp p hq).2.1) (by rw [a1 12 3 (by omega), a1 12 4 (by omega)]; exact e34)) ?_)
    rintro M2 ⟨b1, r, b2, b3⟩
    refine wpo_of ⟨fun c i x y => ?_, ms_same, ?_, r, ?_, ?_⟩
    · rw [ms_ne (by omega), b1 c i (by omega) (by omega) (by omega)]
      exact a1 c i (by omega)
    · exact a2.congr (fun c i x y => by rw [ms_ne (by omega)]; exact b1 c i (by omega) (by omega) (by omega))
    · rw [ms_ni (by decide), ms_ni (by decide)]
      exact b2
    · rw [ms_ni (by decide)]
      exact b3
  · exact wp_neg (by rw [k1]; decide) (wpo_of ⟨fun _ _ _ _ => rfl, k1, k2⟩)
