/-! THE PARISH, told by the reference's world (by hand) -/
/-- what stands behind i acts -/
def wAche (W : Nat → Int) : Nat → Nat → Int
  | 0, p => W (10 + 4 * p)
  | i + 1, p => if W (42 + i) < 1000 ∧ W (42 + i) / 100 = p then W (42 + i) % 100 else wAche W i p
def wFrom (W : Nat → Int) : Nat → Nat → Int
  | 0, p => W (10 + 4 * p + 1)
  | i + 1, p => if 1000 ≤ W (42 + i) ∧ W (42 + i) / 100 - 10 = p then W (42 + i) % 100 else wFrom W i p
def wA (W : Nat → Int) : Nat := (W 8).toNat
def WOK (W : Nat → Int) : Prop :=
  ((W 9 = 0 ∧ W 0 = 0 ∧ W 1 = 0 ∧ W 2 = 0 ∧ W 3 = 0 ∧ W 4 = 0 ∧ W 5 = 0 ∧ W 6 = 0 ∧ W 7 = 0 ∧ W 8 = 0) ∨
   ((1 ≤ W 9 ∧ W 9 ≤ 9) ∧ (1 ≤ W 0 ∧ W 0 ≤ 12) ∧ (1 ≤ W 1 ∧ W 1 ≤ 60) ∧ (1 ≤ W 2 ∧ W 2 ≤ 40) ∧ (1 ≤ W 3 ∧ W 3 ≤ 20) ∧ (0 ≤ W 4 ∧ W 4 ≤ 3) ∧ (0 ≤ W 5 ∧ W 5 ≤ 99) ∧ (0 ≤ W 6 ∧ W 6 ≤ 10) ∧ (0 ≤ W 7 ∧ W 7 ≤ 8) ∧ (0 ≤ W 8 ∧ W 8 ≤ 30))) ∧
  (∀ p : Nat, (p : Int) < W 7 → (1 ≤ W (10 + 4 * p) ∧ W (10 + 4 * p) ≤ 20) ∧ (0 ≤ W (10 + 4 * p + 1) ∧ W (10 + 4 * p + 1) ≤ 11) ∧ (1 ≤ W (10 + 4 * p + 2) ∧ W (10 + 4 * p + 2) ≤ 9) ∧ (0 ≤ W (10 + 4 * p + 3) ∧ W (10 + 4 * p + 3) ≤ 20)) ∧
  (∀ i : Nat, (i : Int) < W 8 → ∃ (p : Nat) (v : Int), (p : Int) < W 7 ∧ ((W (42 + i) = 100 * p + v ∧ 1 ≤ v ∧ v ≤ 20) ∨ (W (42 + i) = 1000 + 100 * p + v ∧ 0 ≤ v ∧ v ≤ 11)))
theorem WOK.bd {W : Nat → Int} (h : WOK W) : (0 ≤ W 9 ∧ W 9 ≤ 9) ∧ (0 ≤ W 0 ∧ W 0 ≤ 12) ∧ (0 ≤ W 1 ∧ W 1 ≤ 60) ∧ (0 ≤ W 2 ∧ W 2 ≤ 40) ∧ (0 ≤ W 3 ∧ W 3 ≤ 20) ∧ (0 ≤ W 4 ∧ W 4 ≤ 3) ∧ (0 ≤ W 5 ∧ W 5 ≤ 99) ∧ (0 ≤ W 6 ∧ W 6 ≤ 10) ∧ (0 ≤ W 7 ∧ W 7 ≤ 8) ∧ (0 ≤ W 8 ∧ W 8 ≤ 30) := by
  have := h.1
  omega
theorem wAche_bd {W : Nat → Int} (h : WOK W) {p : Nat} (hp : (p : Int) < W 7) {i : Nat} (hi : (i : Int) ≤ W 8) : 1 ≤ wAche W i p ∧ wAche W i p ≤ 20 := by
  induction i with
  | zero => exact (h.2.1 p hp).1
  | succ i ih =>
    have h1 := ih (by omega)
    obtain ⟨q, v, -, h2⟩ := h.2.2 i (by omega)
    rw [wAche]
    split
    · omega
    · exact h1
theorem wFrom_bd {W : Nat → Int} (h : WOK W) {p : Nat} (hp : (p : Int) < W 7) {i : Nat} (hi : (i : Int) ≤ W 8) : 0 ≤ wFrom W i p ∧ wFrom W i p ≤ 11 := by
  induction i with
  | zero => exact (h.2.1 p hp).2.1
  | succ i ih =>
    have h1 := ih (by omega)
    obtain ⟨q, v, hq, h2⟩ := h.2.2 i (by omega)
    have hb := h.bd
    rw [wFrom]
    split
    · omega
    · exact h1
/-- the year as it is -/
def yW (W : Nat → Int) : Mem := fun k i => match k with
  | 0 => (match i with
    | 0 => W 0
    | 1 => W 1
    | 2 => W 4
    | 4 => W 2
    | 5 => W 3
    | 6 => W 7
    | _ => 0)
  | 1 => wAche W (wA W) i
  | 2 => W (10 + 4 * i + 2)
  | 3 => wFrom W (wA W) i
  | 4 => wAche W (wA W) i
  | _ => 0
theorem WOK.A {W : Nat → Int} (h : WOK W) : (wA W : Int) = W 8 ∧ wA W ≤ 30 := by
  have := h.bd
  unfold wA
  omega
theorem yP_W {W : Nat → Int} : yP (yW W) = (W 7).toNat := rfl
theorem yN_W {W : Nat → Int} : yN (yW W) = (W 0).toNat := rfl
theorem WOK.yok {W : Nat → Int} (h : WOK W) : YOK (yW W) := by
  have hb := h.bd
  have hA := h.A
  have h1 := h.1
  refine ⟨?_, ?_, ?_, ?_, ?_, ?_, ?_, ?_, fun p hp => ?_⟩
  · show 0 ≤ W 0 ∧ W 0 ≤ 12
    omega
  · show 0 ≤ W 1 ∧ W 1 ≤ 160
    omega
  · show 0 ≤ W 4 ∧ W 4 ≤ 3
    omega
  · show (0 : Int) ≤ 0 ∧ (0 : Int) ≤ 100
    omega
  · show 0 ≤ W 2 ∧ W 2 ≤ 40
    omega
  · show 0 ≤ W 3 ∧ W 3 ≤ 20
    omega
  · show 0 ≤ W 7 ∧ W 7 ≤ 8
    omega
  · show W 0 = 0 ∨ 1 ≤ W 2
    omega
  · have hp : (p : Int) < W 7 := hp
    have a1 := wAche_bd h hp (i := wA W) (by omega)
    have a2 := wFrom_bd h hp (i := wA W) (by omega)
    have a3 := h.2.1 p hp
    show (1 ≤ wAche W (wA W) p ∧ wAche W (wA W) p ≤ 20) ∧ (1 ≤ W (10 + 4 * p + 2) ∧ W (10 + 4 * p + 2) ≤ 9) ∧ (0 ≤ wFrom W (wA W) p ∧ wFrom W (wA W) p ≤ 100) ∧ (0 ≤ wAche W (wA W) p ∧ wAche W (wA W) p ≤ 60) ∧ ((0 : Int) ≤ 0 ∧ (0 : Int) ≤ 3)
    omega
theorem WOK.teeth {W : Nat → Int} (h : WOK W) : yW W 0 0 = 0 ∨ 1 ≤ yW W 0 5 := by
  have h1 := h.1
  show W 0 = 0 ∨ 1 ≤ W 3
  omega
-- the reference tells the year as it is
def AK (D D' : Mem) : Prop := ∀ c i, (c < 124 ∨ 127 < c) → (c ≠ 117 ∨ i < 19 ∨ 22 < i) → D' c i = D c i
theorem AK.rf {D : Mem} : AK D D := fun _ _ _ _ => rfl
theorem AK.tr {D D' D'' : Mem} (h : AK D D') (h' : AK D' D'') : AK D D'' := fun c i a b => (h' c i a b).trans (h c i a b)
theorem AK.set {D D' : Mem} (h : AK D D') {c i : Nat} {v : Int} (hc : 124 ≤ c ∧ c ≤ 127) : AK D (mset D' c i v) := fun c' i' a b => by rw [ms_ne (by omega)]; exact h c' i' a b
theorem AK.set7 {D D' : Mem} (h : AK D D') {i : Nat} {v : Int} (hi : 19 ≤ i ∧ i ≤ 22) : AK D (mset D' 117 i v) := fun c' i' a b => by
  by_cases e : c' = 117
  · rw [ms_ni (by omega)]; exact h c' i' a b
  · rw [ms_ne e]; exact h c' i' a b
def AOut (D M : Mem) : Prop := AK D M ∧ (∀ p, p < 8 → M 124 p = wAche (D 118) (wA (D 118)) p ∧ M 125 p = wFrom (D 118) (wA (D 118)) p ∧ M 126 p = 0 ∧ M 127 p = 0) ∧ M 117 19 = D 118 1 ∧ M 117 20 = D 118 4 ∧ M 117 21 = -1 ∧ M 117 22 = 0
set_option maxHeartbeats 4000000 in
theorem sp_asItIs {D : Mem} (hW : WOK (D 118)) : wpo (f10_asItIs D) (fun M => AOut D M) := by
  have hb := hW.bd
  have hA := hW.A
  unfold f10_asItIs
  refine wp_bind.mpr (wpo_mono (P := fun M => AK D M ∧ ∀ p, p < 8 → M 124 p = wAche (D 118) 0 p ∧ M 125 p = wFrom (D 118) 0 p ∧ M 126 p = 0 ∧ M 127 p = 0) ?_ ?_)
  · refine wp_for (I := fun k s => s.1 = (k : Int) ∧ AK D s.2 ∧ ∀ p, p < k → s.2 124 p = wAche (D 118) 0 p ∧ s.2 125 p = wFrom (D 118) 0 p ∧ s.2 126 p = 0 ∧ s.2 127 p = 0) 8 ?_ ?_ FU 0 _ ⟨rfl, AK.rf, fun p hp => absurd hp (Nat.not_lt_zero _)⟩ (Nat.zero_le _) (by unfold FU; omega)
    · rintro k ⟨s1, M⟩ hk ⟨e1, e2, e3⟩
      dsimp only at e1 e2 e3 ⊢
      subst e1
      have of0 : ∀ M' : Mem, AK D M' → f10_of M' (k : Int) 0 = some (D 118 (10 + 4 * k)) := fun M' hM' => by
        unfold f10_of
        rw [if_pos (by omega), hM' 118 _ (by omega) (by omega)]
        congr 2
      have of1 : ∀ M' : Mem, AK D M' → f10_of M' (k : Int) 1 = some (D 118 (10 + 4 * k + 1)) := fun M' hM' => by
        unfold f10_of
        rw [if_pos (by omega), hM' 118 _ (by omega) (by omega)]
        congr 2
      refine wp_pos ((lt32 (by omega) (by omega)).mpr (by omega)) ?_
      refine wp_then (of0 M e2) ?_
      refine wp_pos (by omega) ?_
      refine wp_then rfl ?_
      refine wp_then (of1 _ (e2.set (by omega))) ?_
      refine wp_then rfl (wp_then rfl (wpo_of ?_))
      rw [Int.toNat_natCast]
      refine ⟨by dsimp only; omega, (((e2.set (by omega)).set (by omega)).set (by omega)).set (by omega), fun p hp => ?_⟩
      dsimp only
      by_cases hpk : p = k
      · subst hpk
        refine ⟨?_, ?_, ?_, ?_⟩
        · rw [ms_ne (by omega), ms_ne (by omega), ms_ne (by omega), ms_same]; rfl
        · rw [ms_ne (by omega), ms_ne (by omega), ms_same]; rfl
        · rw [ms_ne (by omega), ms_same]
        · rw [ms_same]
      · rw [ms_ni hpk, ms_ni hpk, ms_ni hpk, ms_ni hpk, ms_ni hpk, ms_ni hpk, ms_ni hpk, ms_ni hpk, ms_ni hpk, ms_ni hpk, ms_ni hpk, ms_ni hpk, ms_ni hpk, ms_ni hpk, ms_ni hpk, ms_ni hpk]
        exact e3 p (by omega)
    · rintro ⟨s1, M⟩ ⟨e1, e2, e3⟩
      dsimp only at e1 e2 e3 ⊢
      subst e1
      exact wp_neg (fun x => absurd ((lt32 (by omega) (by omega)).mp x) (by omega)) (wpo_of ⟨e2, e3⟩)
  · rintro M0 ⟨k0, m0⟩
    refine wp_bind.mpr (wpo_mono (P := fun M => AK D M ∧ ∀ p, p < 8 → M 124 p = wAche (D 118) (wA (D 118)) p ∧ M 125 p = wFrom (D 118) (wA (D 118)) p ∧ M 126 p = 0 ∧ M 127 p = 0) ?_ ?_)
    · refine wp_for (I := fun k s => s.1 = (k : Int) ∧ AK D s.2 ∧ ∀ p, p < 8 → s.2 124 p = wAche (D 118) k p ∧ s.2 125 p = wFrom (D 118) k p ∧ s.2 126 p = 0 ∧ s.2 127 p = 0) (wA (D 118)) ?_ ?_ FU 0 _ ⟨rfl, k0, m0⟩ (Nat.zero_le _) (by unfold FU; omega)
      · rintro k ⟨s1, M⟩ hk ⟨e1, e2, e3⟩
        dsimp only at e1 e2 e3 ⊢
        subst e1
        have q8 : M 118 8 = D 118 8 := e2 118 8 (by omega) (by omega)
        obtain ⟨q, v, hq, hact⟩ := hW.2.2 k (by omega)
        refine wp_pos (by rw [q8]; exact (lt32 (by omega) (by omega)).mpr (by omega)) ?_
        refine wp_pos (by omega) ?_
        have et : (42 + (k : Int)).toNat = 42 + k := by omega
        have hv : M 118 (42 + (k : Int)).toNat = D 118 (42 + k) := by
          rw [et]
          exact e2 118 _ (by omega) (by omega)
        refine wp_then (by rw [hv]) ?_
        have hx : 0 ≤ D 118 (42 + k) ∧ D 118 (42 + k) < 2147483648 := by omega
        have hd : div32 (D 118 (42 + k)) 100 = D 118 (42 + k) / 100 := div32_id hx (by decide)
        have hr : rem32 (D 118 (42 + k)) 100 = D 118 (42 + k) % 100 := rem32_id hx (by decide)
        have ea : ∀ p, wAche (D 118) (k + 1) p = if D 118 (42 + k) < 1000 ∧ D 118 (42 + k) / 100 = p then D 118 (42 + k) % 100 else wAche (D 118) k p := fun p => rfl
        have ef : ∀ p, wFrom (D 118) (k + 1) p = if 1000 ≤ D 118 (42 + k) ∧ D 118 (42 + k) / 100 - 10 = p then D 118 (42 + k) % 100 else wFrom (D 118) k p := fun p => rfl
        generalize D 118 (42 + k) = x at *
        by_cases hlt : x < 1000
        · have hq2 : x / 100 = q := by omega
          refine wp_then (a := mset M 124 q (x % 100)) ?_ (wpo_of ⟨by dsimp only; omega, e2.set (by omega), fun p hp => ?_⟩)
          · refine wp_is ?_
            refine wp_pos ((lt32 (by omega) (by omega)).mpr hlt) ?_
            refine wp_pos (by rw [hd]; omega) (wpo_of ?_)
            rw [hd, hr, hq2, Int.toNat_natCast]
          · dsimp only
            obtain ⟨z1, z2, z3, z4⟩ := e3 p hp
            rw [ms_ne (show 125 ≠ 124 by omega), ms_ne (show 126 ≠ 124 by omega), ms_ne (show 127 ≠ 124 by omega), ea, ef, if_neg (show ¬ (1000 ≤ x ∧ x / 100 - 10 = (p : Int)) by omega)]
            refine ⟨?_, z2, z3, z4⟩
            by_cases hpq : p = q
            · subst hpq
              rw [ms_same, if_pos ⟨hlt, hq2⟩]
            · rw [ms_ni hpq, if_neg (by omega)]
              exact z1
        · have hq2 : x / 100 - 10 = q := by omega
          refine wp_then (a := mset M 125 q (x % 100)) ?_ (wpo_of ⟨by dsimp only; omega, e2.set (by omega), fun p hp => ?_⟩)
          · refine wp_is ?_
            refine wp_neg (fun z => hlt ((lt32 (by omega) (by omega)).mp z)) ?_
            refine wp_pos (by rw [hd]; omega) (wpo_of ?_)
            rw [hd, hr, hq2, Int.toNat_natCast]
          · dsimp only
            obtain ⟨z1, z2, z3, z4⟩ := e3 p hp
            rw [ms_ne (show 124 ≠ 125 by omega), ms_ne (show 126 ≠ 125 by omega), ms_ne (show 127 ≠ 125 by omega), ea, ef, if_neg (show ¬ (x < 1000 ∧ x / 100 = (p : Int)) by omega)]
            refine ⟨z1, ?_, z3, z4⟩
            by_cases hpq : p = q
            · subst hpq
              rw [ms_same, if_pos ⟨by omega, hq2⟩]
            · rw [ms_ni hpq, if_neg (by omega)]
              exact z2
      · rintro ⟨s1, M⟩ ⟨e1, e2, e3⟩
        dsimp only at e1 e2 e3 ⊢
        subst e1
        have q8 : M 118 8 = D 118 8 := e2 118 8 (by omega) (by omega)
        exact wp_neg (by rw [q8]; exact fun x => absurd ((lt32 (by omega) (by omega)).mp x) (by omega)) (wpo_of ⟨e2, e3⟩)
    · rintro M ⟨k1, m1⟩
      refine wp_then rfl (wp_then rfl (wp_then rfl (wpo_of ?_)))
      refine ⟨(((k1.set7 (by omega)).set7 (by omega)).set7 (by omega)).set7 (by omega), fun p hp => ?_, ?_, ?_, ?_, ?_⟩
      · rw [ms_ne (by omega), ms_ne (by omega), ms_ne (by omega), ms_ne (by omega), ms_ne (by omega), ms_ne (by omega), ms_ne (by omega), ms_ne (by omega), ms_ne (by omega), ms_ne (by omega), ms_ne (by omega), ms_ne (by omega), ms_ne (by omega), ms_ne (by omega), ms_ne (by omega), ms_ne (by omega)]
        exact m1 p hp
      · rw [ms_ni (by omega), ms_ni (by omega), ms_ni (by omega), ms_same]
        exact k1 118 1 (by omega) (by omega)
      · rw [ms_ni (by omega), ms_ni (by omega), ms_same, ms_ne (by omega)]
        exact k1 118 4 (by omega) (by omega)
      · rw [ms_ni (by omega), ms_same]
      · rw [ms_same]
/-- asItIs tells the year as it is -/
theorem AOut.ym {D M : Mem} (hW : WOK (D 118)) (h : AOut D M) : YM (yW (D 118)) M := by
  obtain ⟨k, m, h1, h2, h3, h4⟩ := h
  have hb := hW.bd
  have hA := hW.A
  have w : ∀ i, M 118 i = D 118 i := fun i => k 118 i (by omega) (by omega)
  refine ⟨(w 0).symm, h1.symm, h2.symm, h4.symm, (w 2).symm, (w 3).symm, (w 7).symm, by omega, fun p hp => ?_⟩
  rw [yP_W] at hp
  obtain ⟨z1, z2, z3, z4⟩ := m p (by omega)
  have hf := wFrom_bd hW (p := p) (by omega) (i := wA (D 118)) (by omega)
  refine ⟨z1.symm, (w _).symm, ?_, ?_, z4.symm, by omega⟩
  · rw [if_neg (by omega)]
    exact z2.symm
  · rw [z3, Int.add_zero]
    exact z1.symm
