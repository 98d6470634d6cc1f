/-! WHEN, PERSON (by hand) -/
theorem ag_when {D : Mem} {x : Int} (hI : IC D) (hx : A32 x) : AGp D (f9_when D x) (f10_when D x) := by
  have hx' := hx
  unfold A32 at hx'
  refine ag_there hI (fun hN1 b hb => ?_)
  have hY := hI.1.yok
  have hN := hI.N
  have h1 := hI.1.1
  rw [yN_W] at hN1
  have hin : f10_in b.2 (w32 x) 1 20 = some (if 1 ≤ x ∧ x ≤ 20 then 1 else 0) := by
    rw [w32_id hx']
    exact sp_in (by omega) (by omega) (by omega)
  by_cases c1 : x < 1
  · refine wp_pos ((lt32 hx' (by omega)).mpr c1) (wpo_of ?_)
    exact wp_then hin (wp_pos (by rw [if_neg (by omega)]; decide) (wpo_of ⟨rfl, hb.1⟩))
  · refine wp_neg (fun z => c1 ((lt32 hx' (by omega)).mp z)) ?_
    by_cases c2 : 20 < x
    · refine wp_pos ((lt32 (by omega) hx').mpr c2) (wpo_of ?_)
      exact wp_then hin (wp_pos (by rw [if_neg (by omega)]; decide) (wpo_of ⟨rfl, hb.1⟩))
    · refine wp_neg (fun z => c2 ((lt32 (by omega) hx').mp z)) ?_
      refine wp_bind.mpr (wpo_mono (sp_nightOfTooth hI (x := x) (by omega)) (fun v hv => wpo_of ?_))
      refine wp_then hin (wp_neg (by rw [if_pos (by omega)]; decide) ?_)
      refine wp_bind.mpr (wpo_mono (P := fun z => wpo (Sum.elim (fun (_ : Unit) => some ((-1), b.2)) (fun rv => some rv) z) (fun c => First (yN (yW (D 118))) (fun j => x ≤ (yst (yW (D 118)) (j + 1)).2.2) c.1 ∧ c.2 = b.2)) ?_ ?_)
      · refine wp_for (I := fun k s => s = (k : Int) ∧ ∀ j, j < k → ¬ x ≤ (yst (yW (D 118)) (j + 1)).2.2) (yN (yW (D 118))) ?_ ?_ FU 0 _ ⟨rfl, fun j hj => absurd hj (Nat.not_lt_zero _)⟩ (Nat.zero_le _) (by unfold FU; omega)
        · rintro k s hk ⟨rfl, hno⟩
          have hc : b.2 131 k = (yst (yW (D 118)) (k + 1)).2.2 := (hb.2.2.2.1 k hk).2.2
          have hcb := (yst_bd hY (show 1 ≤ yW (D 118) 0 4 by show 1 ≤ D 118 2; omega) (k + 1)).2
          have h5 : yW (D 118) 0 5 ≤ 20 := hY.2.2.2.2.2.1.2
          refine wp_then (nights_M hb) ?_
          refine wp_pos ((lt32 (by omega) (by omega)).mpr (by omega)) (wp_pos (by omega) ?_)
          rw [Int.toNat_natCast, hc]
          by_cases c : (yst (yW (D 118)) (k + 1)).2.2 < x
          · refine wp_pos ((lt32 (by omega) (by omega)).mpr c) (wpo_of ⟨by omega, fun j hj => ?_⟩)
            by_cases hjk : j = k
            · subst hjk
              omega
            · exact hno j (by omega)
          · exact wp_neg (fun z => c ((lt32 (by omega) (by omega)).mp z)) (wpo_of (wpo_of ⟨Or.inr ⟨k, hk, rfl, by omega, hno⟩, rfl⟩))
        · rintro s ⟨rfl, hno⟩
          refine wp_then (nights_M hb) ?_
          exact wp_neg (fun z => absurd ((lt32 (by omega) (by omega)).mp z) (by omega)) (wpo_of (wpo_of ⟨Or.inl ⟨rfl, hno⟩, rfl⟩))
      · intro z2 hz2
        refine wpo_mono hz2 (fun c hc => ⟨?_, by rw [hc.2]; exact hb.1⟩)
        rw [hv.uniq hc.1]
theorem ref_ache {D M : Mem} (hb : MA D M) {p : Nat} (hp : p < yP (yW (D 118))) : M 124 p = wAche (D 118) (wA (D 118)) p := ((hb.2.1.2.2.2.2.2.2.2.2 p hp).1).symm
theorem ref_from {D M : Mem} (hI : IC D) (hb : MA D M) {p : Nat} (hp : p < yP (yW (D 118))) : M 125 p = wFrom (D 118) (wA (D 118)) p := by
  have a3 : wFrom (D 118) (wA (D 118)) p = (if (p : Int) = M 117 21 then 100 else M 125 p) := (hb.2.1.2.2.2.2.2.2.2.2 p hp).2.2.1
  rw [if_neg (hb.ng hI p hp)] at a3
  exact a3.symm
theorem ag_person_ {D : Mem} {x y : Int} (hI : IC D) (hx : A32 x) (hy : A32 y) : AGp D (f9_person D x y) (f10_person D x y) := by
  have hy' := hy
  unfold A32 at hy'
  refine ag_person hI hx (fun p e hp b hb => ?_)
  subst e
  have h8 := hI.person hp
  have hp7 : (p : Int) < D 118 7 := by rw [yP_W] at hp; omega
  obtain ⟨a1, a2, a3, a4⟩ := hI.2.1.2.1 p hp7
  have hin : f10_in b.2 (w32 y) 0 3 = some (if 0 ≤ y ∧ y ≤ 3 then 1 else 0) := by
    rw [w32_id hy']
    exact sp_in (by omega) (by omega) (by omega)
  have hw : w32 y = y := w32_id hy'
  have rin : ∀ q : Int × Mem → Prop, (0 ≤ y ∧ y ≤ 3) → ∀ k : Option (Int × Mem), wpo k q → wpo (Option.bind (f10_in b.2 (w32 y) 0 3) fun (a2 : Int) => if w32 a2 = 0 then some ((-2), b.2) else k) q := fun q hc k hk => wp_then hin (wp_neg (by rw [if_pos hc]; decide) hk)
  by_cases c0 : y = 0
  · refine wp_pos (by rw [hw]; exact c0) (wp_pos (by omega) (wpo_of ?_))
    refine rin _ (by omega) _ (wp_pos (by rw [hw]; exact c0) (wp_pos (by omega) (wpo_of ⟨?_, hb.1⟩)))
    dsimp only
    rw [Int.toNat_natCast, ref_ache hb hp]
    exact congrArg w32 a1
  · refine wp_neg (by rw [hw]; exact c0) ?_
    by_cases c1 : y = 1
    · refine wp_pos (by rw [hw]; exact c1) (wp_pos (by omega) (wpo_of ?_))
      refine rin _ (by omega) _ (wp_neg (by rw [hw]; exact c0) (wp_pos (by rw [hw, c1]; decide) (wp_pos (by omega) (wpo_of ⟨?_, hb.1⟩))))
      dsimp only
      rw [Int.toNat_natCast, ref_from hI hb hp]
      exact congrArg w32 a2
    · refine wp_neg (by rw [hw]; exact c1) ?_
      have hn1 : ¬ w32 y = w32 1 := fun z => c1 ((eq32 hy' (by omega)).mp z)
      by_cases c2 : y = 2
      · subst c2
        refine wp_pos (by decide) (wp_pos (by omega) (wpo_of ?_))
        have ho : f10_of b.2 (p : Int) 2 = some (D 118 (10 + 4 * p + 2)) := by
          unfold f10_of
          have et : ((10 + (4 * (p : Int))) + 2).toNat = 10 + 4 * p + 2 := by omega
          rw [if_pos (by omega), et, hb.w]
        refine rin _ (by omega) _ (wp_neg (by decide) (wp_neg (by decide) (wp_then ho (wpo_of ⟨?_, hb.1⟩))))
        dsimp only
        rw [Int.toNat_natCast]
        exact congrArg w32 a3
      · refine wp_neg (by rw [hw]; exact c2) ?_
        by_cases c3 : y = 3
        · subst c3
          refine wp_pos (by decide) (wp_pos (by omega) (wpo_of ?_))
          have ho : f10_of b.2 (p : Int) 3 = some (D 118 (10 + 4 * p + 3)) := by
            unfold f10_of
            have et : ((10 + (4 * (p : Int))) + 3).toNat = 10 + 4 * p + 3 := by omega
            rw [if_pos (by omega), et, hb.w]
          refine rin _ (by omega) _ (wp_neg (by decide) (wp_neg (by decide) (wp_then ho (wpo_of ⟨?_, hb.1⟩))))
          dsimp only
          rw [Int.toNat_natCast]
          exact congrArg w32 a4
        · refine wp_neg (by rw [hw]; exact c3) (wpo_of ?_)
          exact wp_then hin (wp_pos (by rw [if_neg (by omega)]; decide) (wpo_of ⟨rfl, hb.1⟩))
