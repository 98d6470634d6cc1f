/-! SHARE (by hand) -/
theorem sp_isPart {D : Mem} {y : Int} (hy : A32 y) : f9_isPart D y = some (if 0 ≤ y ∧ y ≤ 1 then 1 else 0) := by
  unfold A32 at hy
  refine wp_is ?_
  unfold f9_isPart
  by_cases c0 : y = 0
  · exact wp_pos (by rw [w32_id hy]; exact c0) (wpo_of (by rw [if_pos (by omega)]))
  · refine wp_neg (by rw [w32_id hy]; exact c0) ?_
    by_cases c1 : y = 1
    · exact wp_pos (by rw [c1]) (wpo_of (by rw [if_pos (by omega)]))
    · exact wp_neg (fun z => c1 ((eq32 hy (by omega)).mp z)) (wpo_of (by rw [if_neg (by omega)]))
theorem sp_isPartM {D : Mem} {y : Int} (hy : A32 y) : f10_in D (w32 y) 0 1 = some (if 0 ≤ y ∧ y ≤ 1 then 1 else 0) := by
  unfold A32 at hy
  rw [w32_id hy]
  exact sp_in (by omega) (by omega) (by omega)
theorem ag_share {D : Mem} {x y : Int} (hI : IC D) (hx : A32 x) (hy : A32 y) : AGp D (f9_share D x y) (f10_share D x y) := by
  refine ag_person hI hx (fun p e hp b hb => ?_)
  subst e
  have h8 := hI.person hp
  have hY := hI.1.yok
  have hab := yall_bd hY
  have hbb := ybears_bd hY hp
  have e29 := (hI.2.2.1 p hp).2
  have e23 : D 23 4 = yall (yW (D 118)) := hI.2.2.2.2
  have hba := sp_bearsAll hY hb.2
  have hbo := sp_bearsOf hY hb.2 hp
  refine wp_then (sp_isPart hy) ?_
  by_cases c : 0 ≤ y ∧ y ≤ 1
  · refine wp_neg (by rw [if_pos c]; decide) ?_
    rw [e23]
    by_cases c0 : yall (yW (D 118)) = 0
    · refine wp_pos (by rw [c0]; decide) (wpo_of ?_)
      refine wp_then (sp_isPartM hy) (wp_neg (by rw [if_pos c]; decide) ?_)
      exact wp_then hba (wp_pos (by rw [c0]; decide) (wpo_of ⟨rfl, hb.1⟩))
    · refine wp_neg (by rw [w32_id (by omega)]; exact c0) (wp_pos (by omega) ?_)
      obtain ⟨A, hA⟩ : ∃ A : Nat, ybears (yW (D 118)) (yN (yW (D 118))) p = (A : Int) := ⟨(ybears (yW (D 118)) (yN (yW (D 118))) p).toNat, by omega⟩
      obtain ⟨B, hB⟩ : ∃ B : Nat, yall (yW (D 118)) = (B : Int) := ⟨(yall (yW (D 118))).toNat, by omega⟩
      obtain ⟨v, v1, v2⟩ := ag_part (D := D) (M := b.2) (a := A) (b := B) (w := y) (by omega) (by omega) (by omega)
      have hA2 : w32 (A : Int) = A := w32_id (by omega)
      have hB2 : w32 (B : Int) = B := w32_id (by omega)
      refine wp_then (by rw [Int.toNat_natCast, e29, hA, hB, hA2, hB2]; exact v1) (wpo_of ?_)
      refine wp_then (sp_isPartM hy) (wp_neg (by rw [if_pos c]; decide) ?_)
      refine wp_then hba (wp_neg (by rw [w32_id (by omega)]; exact c0) ?_)
      refine wp_then hbo (wp_then hba ?_)
      exact wp_then (by rw [hA, hB, hA2, hB2]; exact v2) (wpo_of ⟨rfl, hb.1⟩)
  · refine wp_pos (by rw [if_neg c]; decide) (wpo_of ?_)
    exact wp_then (sp_isPartM hy) (wp_pos (by rw [if_neg c]; decide) (wpo_of ⟨rfl, hb.1⟩))
