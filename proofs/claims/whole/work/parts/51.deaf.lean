/-! RULES THAT HEAR NO GROAN (by hand) -/
theorem yrank_deaf {Y : Mem} {q p : Nat} {v : Int} (h1 : Y 0 2 ≠ 1) (h2 : Y 0 2 ≠ 2) : yrank (mset Y 4 q v) p = yrank Y p := by
  unfold yrank
  rw [ms_ne (show 0 ≠ 4 by decide), ms_ne (show 3 ≠ 4 by decide), if_neg h1, if_neg h2, if_neg h1, if_neg h2]
theorem yins_deaf {Y : Mem} {q p : Nat} {v : Int} (h1 : Y 0 2 ≠ 1) (h2 : Y 0 2 ≠ 2) (l : List Nat) : yins (mset Y 4 q v) p l = yins Y p l := by
  induction l with
  | nil => rfl
  | cons x l ih =>
    rw [yins, yins, ih]
    simp only [yrank_deaf h1 h2]
theorem yord_deaf {Y : Mem} {q : Nat} {v : Int} (h1 : Y 0 2 ≠ 1) (h2 : Y 0 2 ≠ 2) (n : Nat) : yord (mset Y 4 q v) n = yord Y n := by
  induction n with
  | zero => rfl
  | succ n ih => rw [yord, yord, ih, yins_deaf h1 h2]
theorem yst_deaf {Y : Mem} {q : Nat} {v : Int} (h1 : Y 0 2 ≠ 1) (h2 : Y 0 2 ≠ 2) (n : Nat) : yst (mset Y 4 q v) n = yst Y n := by
  have hgo : ∀ n op, ygo (mset Y 4 q v) n op = ygo Y n op := by
    intro n op
    funext s p
    unfold ygo
    rw [ms_ne (show 3 ≠ 4 by decide), ms_ne (show 5 ≠ 4 by decide), ms_ne (show 1 ≠ 4 by decide)]
  have hnight : ∀ n op g, ynight (mset Y 4 q v) n op g = ynight Y n op g := by
    intro n op g
    unfold ynight
    rw [yP_set (by omega), yord_deaf h1 h2, hgo, ms_ne (show 0 ≠ 4 by decide)]
  have hopen : ∀ n c, yopen (mset Y 4 q v) n c = yopen Y n c := by
    intro n c
    unfold yopen
    rw [ms_ne (show 0 ≠ 4 by decide), ms_ne (show 0 ≠ 4 by decide)]
  induction n with
  | zero => rfl
  | succ n ih =>
    simp only [yst, ih, hnight, hopen, ms_ne (show 0 ≠ 4 by decide)]
theorem ybears_deaf {Y : Mem} {q n p : Nat} {v : Int} (h1 : Y 0 2 ≠ 1) (h2 : Y 0 2 ≠ 2) : ybears (mset Y 4 q v) n p = ybears Y n p := by
  unfold ybears
  refine sumN_congr (fun k _ => ?_)
  have e : ywait (mset Y 4 q v) k p = ywait Y k p := by
    unfold ywait
    rw [yst_deaf h1 h2, ms_ne (show 3 ≠ 4 by decide)]
  have c : ycost (mset Y 4 q v) p = ycost Y p := by
    unfold ycost
    rw [ms_ne (show 1 ≠ 4 by decide), ms_ne (show 2 ≠ 4 by decide)]
  rw [e, c]
