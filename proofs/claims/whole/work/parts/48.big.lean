/-! BIG (by hand) -/
def ybig (F : Nat → Bool) (a : Nat → Int) : Nat → Int × Int
  | 0 => (-1, 0)
  | k + 1 => if F k = true ∧ (ybig F a k).2 < a k then ((k : Int), a k) else ybig F a k
theorem ybig_is {F : Nat → Bool} {a : Nat → Int} {n : Nat} (h : ∀ i, i < n → 1 ≤ a i ∧ a i ≤ 20) : ((ybig F a n).1 = -1 ∧ (ybig F a n).2 = 0) ∨ ∃ b : Nat, b < n ∧ (ybig F a n) = ((b : Int), a b) := by
  induction n with
  | zero => exact Or.inl ⟨rfl, rfl⟩
  | succ n ih =>
    have h1 := ih (fun i hi => h i (Nat.lt_succ_of_lt hi))
    rw [ybig]
    split
    · exact Or.inr ⟨n, Nat.lt_succ_self n, rfl⟩
    · rcases h1 with h1 | ⟨b, hb, e⟩
      · exact Or.inl h1
      · exact Or.inr ⟨b, by omega, e⟩
theorem ag_big {D : Mem} {x : Int} (hI : IC D) (hx : A32 x) : AGp D (f9_big D x) (f10_big D x) := by
  refine ag_night hI hx (fun n e hn b hb => ?_)
  subst e
  have h12 := hI.night hn
  have hP := hI.P
  have hY := hI.1.yok
  have hA := hI.1.A
  have hg := fun p => yg_bd hY p
  have hac : ∀ p, p < yP (yW (D 118)) → 1 ≤ wAche (D 118) (wA (D 118)) p ∧ wAche (D 118) (wA (D 118)) p ≤ 20 := fun p hp => wAche_bd hI.1 (by omega) (by omega)
  have hwn : w32 (n : Int) = n := w32_id (by omega)
  refine wp_bind.mpr ?_
  simp only [wp_some]
  refine wpo_mono (P := fun v => v = (ybig (fun p => decide ((yst (yW (D 118)) (yN (yW (D 118)))).1 p = (n : Int))) (wAche (D 118) (wA (D 118))) (yP (yW (D 118)))).1) ?_ ?_
  · refine wp_for (I := fun k s => s = ((ybig (fun p => decide ((yst (yW (D 118)) (yN (yW (D 118)))).1 p = (n : Int))) (wAche (D 118) (wA (D 118))) k).1, (ybig (fun p => decide ((yst (yW (D 118)) (yN (yW (D 118)))).1 p = (n : Int))) (wAche (D 118) (wA (D 118))) k).2, (k : Int))) (yP (yW (D 118))) ?_ ?_ FU 0 _ rfl (Nat.zero_le _) (by unfold FU; omega)
    · rintro k s hk rfl
      dsimp only
      have hyb := ybig_is (F := fun p => decide ((yst (yW (D 118)) (yN (yW (D 118)))).1 p = (n : Int))) (a := wAche (D 118) (wA (D 118))) (n := k) (fun i hi => hac i (by omega))
      have hk20 := hac k hk
      have hgk := hg k
      have h2b : 0 ≤ (ybig (fun p => decide ((yst (yW (D 118)) (yN (yW (D 118)))).1 p = (n : Int))) (wAche (D 118) (wA (D 118))) k).2 ∧ (ybig (fun p => decide ((yst (yW (D 118)) (yN (yW (D 118)))).1 p = (n : Int))) (wAche (D 118) (wA (D 118))) k).2 ≤ 20 := by
        rcases hyb with ⟨-, h2⟩ | ⟨b0, hb0, e0⟩
        · omega
        · rw [e0]
          have := hac b0 (by omega)
          dsimp only
          omega
      refine wp_pos (by rw [hI.e8]; exact (lt32 (by omega) (by omega)).mpr (by omega)) (wp_pos (by omega) ?_)
      refine wp_then (a := ybig (fun p => decide ((yst (yW (D 118)) (yN (yW (D 118)))).1 p = (n : Int))) (wAche (D 118) (wA (D 118))) (k + 1)) ?_ (wpo_of (by show (_, _, _) = (_, _, _); rfl))
      have e13 : D 13 k = wAche (D 118) (wA (D 118)) k := (hI.2.1.2.1 k (by omega)).1
      rw [Int.toNat_natCast, (hI.2.2.1 k hk).1, e13, ybig]
      refine wp_is ?_
      by_cases c1 : (yst (yW (D 118)) (yN (yW (D 118)))).1 k = (n : Int)
      · refine wp_pos (by rw [c1]) ?_
        by_cases c2 : (ybig (fun p => decide ((yst (yW (D 118)) (yN (yW (D 118)))).1 p = (n : Int))) (wAche (D 118) (wA (D 118))) k).2 < wAche (D 118) (wA (D 118)) k
        · exact wp_pos ((lt32 (by omega) (by omega)).mpr c2) (wp_then rfl (wpo_of (by rw [if_pos ⟨by simp [c1], c2⟩])))
        · exact wp_neg (fun z => c2 ((lt32 (by omega) (by omega)).mp z)) (wpo_of (by rw [if_neg (fun z => c2 z.2)]))
      · exact wp_neg (fun z => c1 ((eq32 (by omega) (by omega)).mp z)) (wpo_of (by rw [if_neg (fun z => c1 (by simpa using z.1))]))
    · rintro s rfl
      dsimp only
      exact wp_neg (by rw [hI.e8]; exact fun z => absurd ((lt32 (by omega) (by omega)).mp z) (by omega)) (wpo_of rfl)
  · rintro v rfl
    refine wp_bind.mpr (wpo_mono (P := fun v => v = (ybig (fun p => decide ((yst (yW (D 118)) (yN (yW (D 118)))).1 p = (n : Int))) (wAche (D 118) (wA (D 118))) (yP (yW (D 118)))).1) ?_ (fun v hv => wpo_of ⟨by rw [hv], hb.1⟩))
    refine wp_for (I := fun k s => s = ((ybig (fun p => decide ((yst (yW (D 118)) (yN (yW (D 118)))).1 p = (n : Int))) (wAche (D 118) (wA (D 118))) k).1, (k : Int))) (yP (yW (D 118))) ?_ ?_ FU 0 _ rfl (Nat.zero_le _) (by unfold FU; omega)
    · rintro k s hk rfl
      dsimp only
      have hyb := ybig_is (F := fun p => decide ((yst (yW (D 118)) (yN (yW (D 118)))).1 p = (n : Int))) (a := wAche (D 118) (wA (D 118))) (n := k) (fun i hi => hac i (by omega))
      have hk20 := hac k hk
      have hgk := hg k
      have r128 := hb.2.2.1 k hk
      have r124 := ref_ache hb hk
      refine wp_pos (by rw [hb.w 7]; exact (lt32 (by omega) (by omega)).mpr (by omega)) (wp_pos (by omega) ?_)
      refine wp_then (a := (ybig (fun p => decide ((yst (yW (D 118)) (yN (yW (D 118)))).1 p = (n : Int))) (wAche (D 118) (wA (D 118))) (k + 1)).1) ?_ (wpo_of rfl)
      rw [Int.toNat_natCast, r128, r124, ybig]
      refine wp_is ?_
      by_cases c1 : (yst (yW (D 118)) (yN (yW (D 118)))).1 k = (n : Int)
      · refine wp_pos (by rw [c1]) ?_
        rcases hyb with ⟨h1, h2⟩ | ⟨b0, hb0, e0⟩
        · refine wp_pos (by rw [h1]) (wpo_of ?_)
          rw [if_pos ⟨by simp [c1], by omega⟩]
        · have hb20 := hac b0 (by omega)
          rw [e0]
          dsimp only
          refine wp_neg (fun z => absurd ((eq32 (by omega) (by omega)).mp z) (by omega)) (wp_pos (by omega) ?_)
          rw [Int.toNat_natCast, ref_ache hb (show b0 < yP (yW (D 118)) by omega)]
          by_cases c2 : wAche (D 118) (wA (D 118)) b0 < wAche (D 118) (wA (D 118)) k
          · exact wp_pos ((lt32 (by omega) (by omega)).mpr c2) (wpo_of (by rw [if_pos ⟨by simp [c1], c2⟩]))
          · exact wp_neg (fun z => c2 ((lt32 (by omega) (by omega)).mp z)) (wpo_of (by rw [if_neg (fun z => c2 z.2)]))
      · exact wp_neg (fun z => c1 ((eq32 (by omega) (by omega)).mp z)) (wpo_of (by rw [if_neg (fun z => c1 (by simpa using z.1))]))
    · rintro s rfl
      dsimp only
      exact wp_neg (by rw [hb.w 7]; exact fun z => absurd ((lt32 (by omega) (by omega)).mp z) (by omega)) (wpo_of rfl)
