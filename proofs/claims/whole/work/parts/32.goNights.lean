/-! ALL NIGHTS OF THE REFERENCE (by hand) -/
def yfeast (Y : Mem) : Nat → Int
  | 0 => -1
  | n + 1 => if yfeast Y n = -1 ∧ (yst Y (n + 1)).2.2 = Y 0 5 then (n : Int) else yfeast Y n
theorem yst_mono {Y : Mem} (h : YOK Y) (h4 : 1 ≤ Y 0 4) (n : Nat) : (yst Y n).2.2 ≤ (yst Y (n + 1)).2.2 := by
  have hl := yleft_bd h (n := n)
  obtain ⟨b1, b2⟩ := yst_bd h h4 n
  have e2 : (yst Y (n + 1)).2.2 = (yst Y n).2.2 + min (((yst Y n).2.1 + (Y 0 1 - yleft Y n)) / Y 0 4) (Y 0 5 - (yst Y n).2.2) := rfl
  have hq : 0 ≤ ((yst Y n).2.1 + (Y 0 1 - yleft Y n)) / Y 0 4 := Int.ediv_nonneg (by omega) (by omega)
  rw [e2]
  omega
theorem yfeast_is {Y : Mem} (h : YOK Y) (h4 : 1 ≤ Y 0 4) (h5 : 1 ≤ Y 0 5) (n : Nat) : (yfeast Y n = -1 ∧ (yst Y n).2.2 < Y 0 5) ∨ (0 ≤ yfeast Y n ∧ yfeast Y n < n ∧ (yst Y n).2.2 = Y 0 5) := by
  induction n with
  | zero => exact Or.inl ⟨rfl, by simp [yst]; omega⟩
  | succ n ih =>
    have hm := yst_mono h h4 n
    have hb := (yst_bd h h4 (n + 1)).2
    rw [yfeast]
    rcases ih with ⟨h1, h2⟩ | ⟨h1, h2, h3⟩
    · by_cases hc : (yst Y (n + 1)).2.2 = Y 0 5
      · rw [if_pos ⟨h1, hc⟩]
        exact Or.inr ⟨by omega, by omega, hc⟩
      · rw [if_neg (fun x => hc x.2)]
        exact Or.inl ⟨h1, by omega⟩
    · rw [if_neg (by omega)]
      exact Or.inr ⟨h1, by omega, by omega⟩
def MRows (Y M : Mem) (k : Nat) : Prop := ∀ n, n < k → M 129 n = yleft Y n ∧ M 130 n = (yst Y (n + 1)).2.1 ∧ M 131 n = (yst Y (n + 1)).2.2
/-- what goNights leaves -/
def MOut (Y D M : Mem) : Prop := MK D M ∧ (∀ p, p < yP Y → M 128 p = (yst Y (yN Y)).1 p) ∧ MRows Y M (yN Y) ∧ M 117 27 = yfeast Y (yN Y)
theorem MK.fill {D D' : Mem} (h : MK D D') {c n : Nat} {v : Int} (hc : 128 ≤ c ∧ c ≤ 131) : MK D (mfill D' c n v) := fun c' i' a b => by rw [mf_ne (by omega)]; exact h c' i' a b
set_option maxHeartbeats 4000000 in
theorem sp_goNights {Y D : Mem} (hY : YOK Y) (h : YM Y D) (hT : Y 0 0 = 0 ∨ 1 ≤ Y 0 5) : wpo (f10_goNights D) (fun M => MOut Y D M) := by
  have hP := hY.P
  have hN := hY.N
  have hbirth := hY.2.2.2.1
  have hteeth := hY.2.2.2.2.2.1
  have hnt := hY.2.2.2.2.2.2.2.1
  unfold f10_goNights
  refine wp_then rfl ?_
  refine wp_bind.mpr (wpo_mono (P := fun M => M = mfill (mset D 117 27 (-1)) 128 8 (-1)) ?_ ?_)
  · refine wp_for (I := fun k s => s = ((k : Int), mfill (mset D 117 27 (-1)) 128 k (-1))) 8 ?_ ?_ FU 0 _ (by rw [mfill_zero]; rfl) (Nat.zero_le _) (by unfold FU; omega)
    · rintro k s hk rfl
      dsimp only
      refine wp_pos ((lt32 (by omega) (by omega)).mpr (by omega)) (wp_pos (by omega) (wpo_of ?_))
      show ((k : Int) + 1, _) = (((k + 1 : Nat) : Int), _)
      rw [Int.toNat_natCast, mfill_succ]
      rfl
    · rintro s rfl
      dsimp only
      exact wp_neg (fun x => absurd ((lt32 (by omega) (by omega)).mp x) (by omega)) (wpo_of rfl)
  · rintro M0 rfl
    refine wp_bind.mpr ?_
    simp only [wp_some]
    have k0 : MK D (mfill (mset D 117 27 (-1)) 128 8 (-1)) := MK.rf.feast.fill (by omega)
    refine wp_for (I := fun k s => s.1 = (k : Int) ∧ MK D s.2 ∧ (∀ p, p < yP Y → s.2 128 p = (yst Y k).1 p) ∧ MRows Y s.2 k ∧ s.2 117 27 = yfeast Y k) (yN Y) ?_ ?_ FU 0 _ ⟨rfl, k0, fun p hp => ?_, fun n hn => absurd hn (Nat.not_lt_zero _), ?_⟩ (Nat.zero_le _) (by unfold FU; omega)
    · rintro k ⟨s1, M⟩ hk ⟨e1, e2, e3, e4, e5⟩
      dsimp only at e1 e2 e3 e4 e5 ⊢
      subst e1
      have hYM := h.keep e2
      have q0 : M 118 0 = Y 0 0 := hYM.1.symm
      have q22 : M 117 22 = Y 0 3 := hYM.2.2.2.1.symm
      have hfe := yfeast_is hY (by omega) (by omega) k
      refine wp_then (show f10_nights M = some (Y 0 0) by rw [← q0]; rfl) ?_
      refine wp_pos ((lt32 (by omega) (by omega)).mpr (by omega)) ?_
      refine wp_then (a := if yopen Y k (yst Y k).2.2 = true then 1 else 0) ?_ ?_
      · simp only [q22, e5]
        unfold yopen
        by_cases c1 : Y 0 3 ≤ k
        · rw [if_neg (fun x => absurd ((lt32 (by omega) (by omega)).mp x) (by omega))]
          by_cases c2 : (yst Y k).2.2 < Y 0 5
          · rw [if_pos ((eq32 (by omega) (by omega)).mpr (by omega)), if_pos (by simp [c1, c2])]
          · rw [if_neg (fun x => absurd ((eq32 (by omega) (by omega)).mp x) (by omega)), if_neg (by simp [c2])]
        · rw [if_pos ((lt32 (by omega) (by omega)).mpr (by omega)), if_neg (by simp [c1])]
      refine wp_bind.mpr (wpo_mono (sp_goNight hY hYM hk e3 ?_ (by rw [e5]; omega)) ?_)
      · by_cases hk0 : k = 0
        · exact Or.inl hk0
        · obtain ⟨z1, z2, z3⟩ := e4 (k - 1) (by omega)
          have ek : k - 1 + 1 = k := by omega
          rw [ek] at z2 z3
          exact Or.inr ⟨z2, z3⟩
      · rintro M1 ⟨i1, i2, i3, i4, i5, i6, i7⟩
        refine wpo_of ⟨by dsimp only; omega, e2.tr i1, i2, fun n hn => ?_, ?_⟩
        · by_cases hnk : n = k
          · subst hnk
            exact ⟨i3, i4, i5⟩
          · dsimp only
            rw [i6 129 n (by omega) hnk, i6 130 n (by omega) hnk, i6 131 n (by omega) hnk]
            exact e4 n (by omega)
        · dsimp only
          rw [i7, e5]
          rfl
    · rintro ⟨s1, M⟩ ⟨e1, e2, e3, e4, e5⟩
      dsimp only at e1 e2 e3 e4 e5 ⊢
      subst e1
      have q0 : M 118 0 = Y 0 0 := (h.keep e2).1.symm
      refine wp_then (show f10_nights M = some (Y 0 0) by rw [← q0]; rfl) ?_
      exact wp_neg (fun x => absurd ((lt32 (by omega) (by omega)).mp x) (by omega)) (wpo_of ⟨e2, e3, e4, e5⟩)
    · dsimp only
      rw [mf_same (by omega)]
      rfl
    · dsimp only
      rw [mf_ne (by omega), ms_same]
      rfl
