/-! WIDE (by hand) -/
theorem ag_wide {D : Mem} (hI : IC D) : AGi D (f9_wide D) (fun M => f10_wide M) := by
  refine ag_there_i hI (fun _ => ?_)
  have hYk : ∀ k : Nat, k ≤ 160 → YOK (mset (yW (D 118)) 0 1 (k : Int)) := fun k hk => hI.1.yok.num (Or.inl ⟨rfl, by omega, by omega⟩)
  have hab : ∀ k : Nat, k ≤ 160 → 0 ≤ yall (mset (yW (D 118)) 0 1 (k : Int)) ∧ yall (mset (yW (D 118)) 0 1 (k : Int)) ≤ 17280 := fun k hk => yall_bd (hYk k hk)
  refine wp_bind.mpr (wpo_mono (P := fun z => wpo (Sum.elim (fun (b1 : Mem) => some ((-1), b1)) (fun rv => some rv) z) (fun (a : Int × Mem) => First 161 (fun j => 1 ≤ j ∧ yall (mset (yW (D 118)) 0 1 (j : Int)) = 0) a.1 ∧ SK D a.2)) ?_ ?_)
  · refine wp_for (I := fun k s => 1 ≤ k ∧ s.1 = (k : Int) ∧ SK D s.2 ∧ ∀ j, j < k → ¬ (1 ≤ j ∧ yall (mset (yW (D 118)) 0 1 (j : Int)) = 0)) 161 ?_ ?_ FU 1 _ ⟨Nat.le_refl _, rfl, SK.rf, fun j hj => by omega⟩ (by decide) (by unfold FU; omega)
    · rintro k ⟨s1, M⟩ hk ⟨k1, e1, e2, hno⟩
      dsimp only at e1 e2 ⊢
      subst e1
      have hak := hab k (by omega)
      refine wp_neg (fun z => absurd ((lt32 (by omega) (by omega)).mp z) (by omega)) ?_
      refine wp_bind.mpr (wpo_mono (sp_prep36 hI e2) ?_)
      rintro M1 ⟨t1, c1⟩
      refine wp_then rfl ?_
      refine wp_bind.mpr (wpo_mono (sp_pass36 (D := D) (t1.set (by unfold scr; omega)) (hYk k (by omega)) (YC.num (by decide) c1 (k : Int) (by omega))) ?_)
      rintro M2 ⟨t2, y1, -⟩
      by_cases c : yall (mset (yW (D 118)) 0 1 (k : Int)) = 0
      · exact wp_pos (by rw [y1, c]; decide) (wpo_of (wpo_of ⟨Or.inr ⟨k, hk, rfl, ⟨k1, c⟩, hno⟩, t2⟩))
      · refine wp_neg (by rw [y1, w32_id (by omega)]; exact c) (wpo_of ⟨by omega, by dsimp only; omega, t2, fun j hj => ?_⟩)
        by_cases hjk : j = k
        · subst hjk
          exact fun z => c z.2
        · exact hno j (by omega)
    · rintro ⟨s1, M⟩ ⟨k1, e1, e2, hno⟩
      dsimp only at e1 e2 ⊢
      subst e1
      exact wp_pos ((lt32 (by omega) (by omega)).mpr (by omega)) (wpo_of (wpo_of ⟨Or.inl ⟨rfl, hno⟩, e2⟩))
  · intro z hz
    refine wpo_mono hz ?_
    rintro a ⟨a1, a2⟩
    refine ⟨a2, fun b hb => ?_⟩
    refine wp_then rfl ?_
    refine wp_bind.mpr (wpo_mono (P := fun z => wpo (Sum.elim (fun (b1 : Mem) => some ((-1), b1)) (fun rv => some rv) z) (fun (a : Int × Mem) => First 161 (fun j => 1 ≤ j ∧ yall (mset (yW (D 118)) 0 1 (j : Int)) = 0) a.1 ∧ SK D a.2)) ?_ ?_)
    · refine wp_for (I := fun k s => 1 ≤ k ∧ YM (mset (yW (D 118)) 0 1 (k : Int)) s ∧ SK D s ∧ ∀ j, j < k → ¬ (1 ≤ j ∧ yall (mset (yW (D 118)) 0 1 (j : Int)) = 0)) 161 ?_ ?_ FU 1 _ ⟨Nat.le_refl _, hb.2.1.room 1, hb.1.set (by unfold scr; omega), fun j hj => by omega⟩ (by decide) (by unfold FU; omega)
      · rintro k M hk ⟨k1, e1, e2, hno⟩
        have hak := hab k (by omega)
        have e19 : M 117 19 = (k : Int) := by
          rw [← e1.2.1, ms_same]
        refine wp_neg (by rw [e19]; exact fun z => absurd ((lt32 (by omega) (by omega)).mp z) (by omega)) ?_
        refine wp_bind.mpr (wpo_mono (sp_go (D := D) e2 (hYk k (by omega)) e1 (teeth_num hI (by omega))) ?_)
        rintro M3 ⟨t3, m3⟩
        have f19 : M3 117 19 = (k : Int) := by
          rw [← m3.1.2.1, ms_same]
        refine wp_then (sp_bearsAll (hYk k (by omega)) m3) ?_
        by_cases c : yall (mset (yW (D 118)) 0 1 (k : Int)) = 0
        · refine wp_pos (by rw [c]; decide) (wpo_of (wpo_of ⟨?_, t3⟩))
          rw [f19]
          exact Or.inr ⟨k, hk, rfl, ⟨k1, c⟩, hno⟩
        · have h2 := m3.1.room ((k : Int) + 1)
          rw [ms_ms] at h2
          refine wp_neg (by rw [w32_id (by omega)]; exact c) (wpo_of ⟨by omega, ?_, t3.set (by unfold scr; omega), fun j hj => ?_⟩)
          · rw [f19]
            exact h2
          · by_cases hjk : j = k
            · subst hjk
              exact fun z => c z.2
            · exact hno j (by omega)
      · rintro M ⟨k1, e1, e2, hno⟩
        have e19 : M 117 19 = ((161 : Nat) : Int) := by
          rw [← e1.2.1, ms_same]
        exact wp_pos (by rw [e19]; exact (lt32 (by omega) (by omega)).mpr (by omega)) (wpo_of (wpo_of ⟨Or.inl ⟨rfl, hno⟩, e2⟩))
    · intro z2 hz2
      refine wpo_mono hz2 (fun c hc => ⟨?_, hc.2⟩)
      rw [a1.uniq hc.1]
