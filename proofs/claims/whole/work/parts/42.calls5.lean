/-! CROWDED, QUIET, IDLE, WHEN (by hand) -/
theorem sumN_nn {f : Nat → Int} {n : Nat} (h : ∀ i, i < n → 0 ≤ f i) : 0 ≤ sumN f n ∧ ∀ i, i < n → f i ≤ sumN f n := by
  induction n with
  | zero => exact ⟨Int.le_refl _, fun i hi => absurd hi (Nat.not_lt_zero _)⟩
  | succ n ih =>
    obtain ⟨h1, h2⟩ := ih (fun i hi => h i (Nat.lt_succ_of_lt hi))
    have h3 := h n (Nat.lt_succ_self n)
    rw [sumN]
    refine ⟨by omega, fun i hi => ?_⟩
    by_cases e : i = n
    · subst e
      omega
    · have := h2 i (by omega)
      omega
theorem ygroan_zero {Y : Mem} (hY : YOK Y) {n : Nat} : ygroan Y n = 0 ↔ nset (ywait Y n) (yP Y) = 0 := by
  have hnn : ∀ i, i < yP Y → 0 ≤ (fun p => if ywait Y n p = true then ycost Y p else 0) i := by
    intro i hi
    have := ycost_bd hY hi
    dsimp only
    split <;> omega
  obtain ⟨h1, h2⟩ := sumN_nn hnn
  constructor
  · intro h
    refine nset_none (fun p hp => ?_)
    cases hw : ywait Y n p with
    | false => rfl
    | true =>
      have h3 := h2 p hp
      have hc := ycost_bd hY hp
      rw [if_pos hw] at h3
      unfold ygroan at h
      omega
  · intro h
    unfold ygroan
    rw [sumN_congr (g := fun _ => 0) (fun p hp => by rw [nset_zero h hp]; rfl)]
    exact sumN_zero _
theorem nset_w32 {f : Nat → Bool} {n : Nat} (hn : n ≤ 8) : (w32 ((nset f n : Nat) : Int) = 0) ↔ nset f n = 0 := by
  have := nset_lt8 f hn
  rw [w32_id (by omega)]
  omega
theorem nights_M {D M : Mem} (h : MA D M) : f10_nights M = some (D 118 0) := by
  show some (M 118 0) = _
  rw [h.w 0]
theorem ag_crowded {D : Mem} (hI : IC D) : AGp D (f9_crowded D) (f10_crowded D) := by
  refine ag_there hI (fun _ b hb => ?_)
  have hP := hI.P
  have hN := hI.N
  refine wp_bind.mpr (wpo_mono (P := fun z => wpo (Sum.elim (fun (_ : Unit) => some (-1)) (fun rv => some rv) z) (fun v => First (yN (yW (D 118))) (fun n => nset (ywait (yW (D 118)) n) (yP (yW (D 118))) ≠ 0) v)) ?_ ?_)
  · refine wp_for (I := fun k s => s = (k : Int) ∧ ∀ j, j < k → ¬ nset (ywait (yW (D 118)) j) (yP (yW (D 118))) ≠ 0) (yN (yW (D 118))) ?_ ?_ FU 0 _ ⟨rfl, fun j hj => absurd hj (Nat.not_lt_zero _)⟩ (Nat.zero_le _) (by unfold FU; omega)
    · rintro k s hk ⟨rfl, hno⟩
      have hc : D 31 k = ((nset (ywait (yW (D 118)) k) (yP (yW (D 118))) : Nat) : Int) := (hI.2.2.2.1 k hk).2.1
      refine wp_pos (by rw [hI.e1]; exact (lt32 (by omega) (by omega)).mpr (by omega)) (wp_pos (by omega) ?_)
      rw [Int.toNat_natCast, hc]
      by_cases c : nset (ywait (yW (D 118)) k) (yP (yW (D 118))) = 0
      · refine wp_pos ((nset_w32 hP.2).mpr c) (wpo_of ⟨by omega, fun j hj => ?_⟩)
        by_cases hjk : j = k
        · subst hjk
          exact fun z => z c
        · exact hno j (by omega)
      · exact wp_neg (fun z => c ((nset_w32 hP.2).mp z)) (wpo_of (wpo_of (Or.inr ⟨k, hk, rfl, c, hno⟩)))
    · rintro s ⟨rfl, hno⟩
      exact wp_neg (by rw [hI.e1]; exact fun z => absurd ((lt32 (by omega) (by omega)).mp z) (by omega)) (wpo_of (wpo_of (Or.inl ⟨rfl, hno⟩)))
  · intro z hz
    refine wpo_mono hz (fun v hv => ?_)
    refine wp_bind.mpr (wpo_mono (P := fun z => wpo (Sum.elim (fun (_ : Unit) => some ((-1), b.2)) (fun rv => some rv) z) (fun c => First (yN (yW (D 118))) (fun n => nset (ywait (yW (D 118)) n) (yP (yW (D 118))) ≠ 0) c.1 ∧ c.2 = b.2)) ?_ ?_)
    · refine wp_for (I := fun k s => s = (k : Int) ∧ ∀ j, j < k → ¬ nset (ywait (yW (D 118)) j) (yP (yW (D 118))) ≠ 0) (yN (yW (D 118))) ?_ ?_ FU 0 _ ⟨rfl, fun j hj => absurd hj (Nat.not_lt_zero _)⟩ (Nat.zero_le _) (by unfold FU; omega)
      · rintro k s hk ⟨rfl, hno⟩
        refine wp_then (nights_M hb) ?_
        refine wp_pos ((lt32 (by omega) (by omega)).mpr (by omega)) ?_
        refine wp_then (sp_waitsIn hI.1.yok hb.2 hk) ?_
        by_cases c : nset (ywait (yW (D 118)) k) (yP (yW (D 118))) = 0
        · refine wp_pos ((nset_w32 hP.2).mpr c) (wpo_of ⟨by omega, fun j hj => ?_⟩)
          by_cases hjk : j = k
          · subst hjk
            exact fun z => z c
          · exact hno j (by omega)
        · exact wp_neg (fun z => c ((nset_w32 hP.2).mp z)) (wpo_of (wpo_of ⟨Or.inr ⟨k, hk, rfl, c, hno⟩, rfl⟩))
      · rintro s ⟨rfl, hno⟩
        refine wp_then (nights_M hb) ?_
        exact wp_neg (fun z => absurd ((lt32 (by omega) (by omega)).mp z) (by omega)) (wpo_of (wpo_of ⟨Or.inl ⟨rfl, hno⟩, rfl⟩))
    · intro z2 hz2
      refine wpo_mono hz2 (fun c hc => ⟨?_, by rw [hc.2]; exact hb.1⟩)
      rw [hv.uniq hc.1]
theorem ag_quiet {D : Mem} (hI : IC D) : AGp D (f9_quiet D) (f10_quiet D) := by
  refine ag_there hI (fun _ b hb => ?_)
  have hP := hI.P
  have hN := hI.N
  refine wp_bind.mpr ?_
  simp only [wp_some]
  refine wpo_mono (P := fun v => v = ((nset (fun n => decide (nset (ywait (yW (D 118)) n) (yP (yW (D 118))) = 0)) (yN (yW (D 118))) : Nat) : Int)) ?_ ?_
  · refine wp_for (I := fun k s => s = (((nset (fun n => decide (nset (ywait (yW (D 118)) n) (yP (yW (D 118))) = 0)) k : Nat) : Int), (k : Int))) (yN (yW (D 118))) ?_ ?_ FU 0 _ rfl (Nat.zero_le _) (by unfold FU; omega)
    · rintro k s hk rfl
      dsimp only
      have hc : D 33 k = ygroan (yW (D 118)) k := (hI.2.2.2.1 k hk).2.2.2.1
      have hgb := sumN_bd (f := fun p => if ywait (yW (D 118)) k p = true then ycost (yW (D 118)) p else 0) (n := yP (yW (D 118))) (lo := 0) (hi := 180) (fun i hi => by
        have := ycost_bd hI.1.yok hi
        split <;> omega)
      have hgb2 : 0 ≤ ygroan (yW (D 118)) k ∧ ygroan (yW (D 118)) k ≤ 1440 := by
        unfold ygroan
        omega
      refine wp_pos (by rw [hI.e1]; exact (lt32 (by omega) (by omega)).mpr (by omega)) (wp_pos (by omega) ?_)
      refine wp_then (a := ((nset (fun n => decide (nset (ywait (yW (D 118)) n) (yP (yW (D 118))) = 0)) (k + 1) : Nat) : Int)) ?_ (wpo_of rfl)
      rw [← or_next2 (by omega), Int.toNat_natCast, hc]
      refine wp_is ?_
      by_cases c : ygroan (yW (D 118)) k = 0
      · exact wp_pos (by rw [w32_id (by omega)]; exact c) (wpo_of (by rw [if_pos (by simp [(ygroan_zero hI.1.yok).mp c])]))
      · exact wp_neg (by rw [w32_id (by omega)]; exact c) (wpo_of (by rw [if_neg (by simp only [decide_eq_true_eq]; exact fun z => c ((ygroan_zero hI.1.yok).mpr z))]))
    · rintro s rfl
      dsimp only
      exact wp_neg (by rw [hI.e1]; exact fun z => absurd ((lt32 (by omega) (by omega)).mp z) (by omega)) (wpo_of rfl)
  · rintro v rfl
    refine wp_bind.mpr (wpo_mono (P := fun v => v = ((nset (fun n => decide (nset (ywait (yW (D 118)) n) (yP (yW (D 118))) = 0)) (yN (yW (D 118))) : Nat) : Int)) ?_ (fun v hv => wpo_of ⟨by rw [hv], hb.1⟩))
    refine wp_for (I := fun k s => s = (((nset (fun n => decide (nset (ywait (yW (D 118)) n) (yP (yW (D 118))) = 0)) k : Nat) : Int), (k : Int))) (yN (yW (D 118))) ?_ ?_ FU 0 _ rfl (Nat.zero_le _) (by unfold FU; omega)
    · rintro k s hk rfl
      dsimp only
      refine wp_then (nights_M hb) ?_
      refine wp_pos ((lt32 (by omega) (by omega)).mpr (by omega)) ?_
      refine wp_then (sp_waitsIn hI.1.yok hb.2 hk) ?_
      refine wp_then (a := if (fun n => decide (nset (ywait (yW (D 118)) n) (yP (yW (D 118))) = 0)) k = true then shl32 1 (k : Int) else 0) ?_ (wpo_of ?_)
      · dsimp only
        refine wp_is ?_
        by_cases c : nset (ywait (yW (D 118)) k) (yP (yW (D 118))) = 0
        · exact wp_pos ((nset_w32 hP.2).mpr c) (wpo_of (by rw [if_pos (by simp [c])]))
        · exact wp_neg (fun z => c ((nset_w32 hP.2).mp z)) (wpo_of (by rw [if_neg (by simp [c])]))
      · show (_, _) = (_, _)
        rw [or_next (f := fun n => decide (nset (ywait (yW (D 118)) n) (yP (yW (D 118))) = 0)) (by omega)]
        rfl
    · rintro s rfl
      dsimp only
      refine wp_then (nights_M hb) ?_
      exact wp_neg (fun z => absurd ((lt32 (by omega) (by omega)).mp z) (by omega)) (wpo_of rfl)
theorem ag_idle {D : Mem} (hI : IC D) : AGp D (f9_idle D) (f10_idle D) := by
  refine ag_there hI (fun _ b hb => ?_)
  have hP := hI.P
  have hN := hI.N
  refine wp_bind.mpr ?_
  simp only [wp_some]
  refine wpo_mono (P := fun v => v = ((nset (fun n => decide (nset (ygave (yW (D 118)) n) (yP (yW (D 118))) = 0)) (yN (yW (D 118))) : Nat) : Int)) ?_ ?_
  · refine wp_for (I := fun k s => s = (((nset (fun n => decide (nset (ygave (yW (D 118)) n) (yP (yW (D 118))) = 0)) k : Nat) : Int), (k : Int))) (yN (yW (D 118))) ?_ ?_ FU 0 _ rfl (Nat.zero_le _) (by unfold FU; omega)
    · rintro k s hk rfl
      dsimp only
      have hc : D 30 k = ((nset (ygave (yW (D 118)) k) (yP (yW (D 118))) : Nat) : Int) := (hI.2.2.2.1 k hk).1
      refine wp_pos (by rw [hI.e1]; exact (lt32 (by omega) (by omega)).mpr (by omega)) (wp_pos (by omega) ?_)
      refine wp_then (a := ((nset (fun n => decide (nset (ygave (yW (D 118)) n) (yP (yW (D 118))) = 0)) (k + 1) : Nat) : Int)) ?_ (wpo_of rfl)
      rw [← or_next2 (by omega), Int.toNat_natCast, hc]
      refine wp_is ?_
      by_cases c : nset (ygave (yW (D 118)) k) (yP (yW (D 118))) = 0
      · exact wp_pos ((nset_w32 hP.2).mpr c) (wpo_of (by rw [if_pos (by simp [c])]))
      · exact wp_neg (fun z => c ((nset_w32 hP.2).mp z)) (wpo_of (by rw [if_neg (by simp [c])]))
    · rintro s rfl
      dsimp only
      exact wp_neg (by rw [hI.e1]; exact fun z => absurd ((lt32 (by omega) (by omega)).mp z) (by omega)) (wpo_of rfl)
  · rintro v rfl
    refine wp_bind.mpr (wpo_mono (P := fun v => v = ((nset (fun n => decide (nset (ygave (yW (D 118)) n) (yP (yW (D 118))) = 0)) (yN (yW (D 118))) : Nat) : Int)) ?_ (fun v hv => wpo_of ⟨by rw [hv], hb.1⟩))
    refine wp_for (I := fun k s => s = (((nset (fun n => decide (nset (ygave (yW (D 118)) n) (yP (yW (D 118))) = 0)) k : Nat) : Int), (k : Int))) (yN (yW (D 118))) ?_ ?_ FU 0 _ rfl (Nat.zero_le _) (by unfold FU; omega)
    · rintro k s hk rfl
      dsimp only
      refine wp_then (nights_M hb) ?_
      refine wp_pos ((lt32 (by omega) (by omega)).mpr (by omega)) ?_
      refine wp_then (sp_givenIn hI.1.yok hb.2 (by omega)) ?_
      rw [ygave_end hk]
      refine wp_then (a := if (fun n => decide (nset (ygave (yW (D 118)) n) (yP (yW (D 118))) = 0)) k = true then shl32 1 (k : Int) else 0) ?_ (wpo_of ?_)
      · dsimp only
        refine wp_is ?_
        by_cases c : nset (ygave (yW (D 118)) k) (yP (yW (D 118))) = 0
        · exact wp_pos ((nset_w32 hP.2).mpr c) (wpo_of (by rw [if_pos (by simp [c])]))
        · exact wp_neg (fun z => c ((nset_w32 hP.2).mp z)) (wpo_of (by rw [if_neg (by simp [c])]))
      · show (_, _) = (_, _)
        rw [or_next (f := fun n => decide (nset (ygave (yW (D 118)) n) (yP (yW (D 118))) = 0)) (by omega)]
        rfl
    · rintro s rfl
      dsimp only
      refine wp_then (nights_M hb) ?_
      exact wp_neg (fun z => absurd ((lt32 (by omega) (by omega)).mp z) (by omega)) (wpo_of rfl)
