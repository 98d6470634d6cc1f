/-! PROOF (by hand) -/
theorem ag_proof {D : Mem} (hI : IC D) : AGi D (f9_proof D) (fun M => f10_proof M) := by
  refine ag_there_i hI (fun _ => ?_)
  have hP := hI.P
  refine wp_bind.mpr (wpo_mono (P := fun r => r.1 = ((nset (fun q => decide (nset (yTem (yW (D 118)) (q : Int)) (yP (yW (D 118))) = 0)) 4 : Nat) : Int) ∧ SK D r.2) ?_ ?_)
  · refine wp_for (I := fun k s => s.1 = ((nset (fun q => decide (nset (yTem (yW (D 118)) (q : Int)) (yP (yW (D 118))) = 0)) k : Nat) : Int) ∧ s.2.1 = (k : Int) ∧ SK D s.2.2) 4 ?_ ?_ FU 0 _ ⟨rfl, rfl, SK.rf⟩ (Nat.zero_le _) (by unfold FU; omega)
    · rintro k ⟨s1, s2, N⟩ hk ⟨e1, e2, e3⟩
      dsimp only at e1 e2 e3 ⊢
      subst e2
      refine wp_pos ((lt32 (by omega) (by omega)).mpr (by omega)) ?_
      refine wp_bind.mpr (wpo_mono (sp_tempted hI e3 (u := (k : Int)) (by omega)) ?_)
      rintro r ⟨r1, r2⟩
      refine wp_then (a := ((nset (fun q => decide (nset (yTem (yW (D 118)) (q : Int)) (yP (yW (D 118))) = 0)) (k + 1) : Nat) : Int)) ?_ (wpo_of ⟨rfl, by dsimp only; omega, r2⟩)
      rw [← or_next2 (by omega), e1, r1]
      refine wp_is ?_
      by_cases c : nset (yTem (yW (D 118)) (k : Int)) (yP (yW (D 118))) = 0
      · exact wp_pos ((nset_w32 hP.2).mpr c) (wpo_of (by rw [if_pos (by simp only [decide_eq_true_eq]; exact c)]))
      · exact wp_neg (fun z => c ((nset_w32 hP.2).mp z)) (wpo_of (by rw [if_neg (by simp only [decide_eq_true_eq]; exact c)]))
    · rintro ⟨s1, s2, N⟩ ⟨e1, e2, e3⟩
      dsimp only at e1 e2 e3 ⊢
      subst e2
      exact wp_neg (fun z => absurd ((lt32 (by omega) (by omega)).mp z) (by omega)) (wpo_of ⟨e1, e3⟩)
  · rintro r ⟨r1, r2⟩
    refine wpo_of ⟨r2, fun b hb => ?_⟩
    refine wp_bind.mpr (wpo_mono (P := fun r => r.1 = ((nset (fun q => decide (nset (yTem (yW (D 118)) (q : Int)) (yP (yW (D 118))) = 0)) 4 : Nat) : Int) ∧ SK D r.2) ?_ (fun r' hr => wpo_of ⟨by dsimp only; rw [r1, hr.1], hr.2⟩))
    refine wp_for (I := fun k s => s.1 = ((nset (fun q => decide (nset (yTem (yW (D 118)) (q : Int)) (yP (yW (D 118))) = 0)) k : Nat) : Int) ∧ s.2.1 = (k : Int) ∧ SK D s.2.2 ∧ ∃ t : Int, YM (mset (yW (D 118)) 0 2 t) s.2.2) 4 ?_ ?_ FU 0 _ ⟨rfl, rfl, hb.1, yW (D 118) 0 2, by rw [ms_self]; exact hb.2.1⟩ (Nat.zero_le _) (by unfold FU; omega)
    · rintro k ⟨s1, s2, N⟩ hk ⟨e1, e2, e3, t, e4⟩
      dsimp only at e1 e2 e3 e4 ⊢
      subst e2
      refine wp_pos ((lt32 (by omega) (by omega)).mpr (by omega)) ?_
      refine wp_bind.mpr (wpo_mono (sp_temptsBy hI e3 e4 (u := (k : Int)) (by omega)) ?_)
      rintro r ⟨q1, q2, q3⟩
      refine wp_then (a := if (fun q : Nat => decide (nset (yTem (yW (D 118)) (q : Int)) (yP (yW (D 118))) = 0)) k = true then shl32 1 (k : Int) else 0) ?_ (wpo_of ⟨?_, by dsimp only; omega, q2, (k : Int), q3⟩)
      · rw [q1]
        dsimp only
        refine wp_is ?_
        by_cases c : nset (yTem (yW (D 118)) (k : Int)) (yP (yW (D 118))) = 0
        · exact wp_pos ((nset_w32 hP.2).mpr c) (wpo_of (by rw [if_pos (by simp only [decide_eq_true_eq]; exact c)]))
        · exact wp_neg (fun z => c ((nset_w32 hP.2).mp z)) (wpo_of (by rw [if_neg (by simp only [decide_eq_true_eq]; exact c)]))
      · dsimp only
        rw [e1, or_next (f := fun q : Nat => decide (nset (yTem (yW (D 118)) (q : Int)) (yP (yW (D 118))) = 0)) (by omega)]
    · rintro ⟨s1, s2, N⟩ ⟨e1, e2, e3, -⟩
      dsimp only at e1 e2 e3 ⊢
      subst e2
      exact wp_neg (fun z => absurd ((lt32 (by omega) (by omega)).mp z) (by omega)) (wpo_of ⟨e1, e3⟩)
