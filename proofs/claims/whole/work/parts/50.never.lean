/-! A CHILD THAT IS NEVER BORN (by hand): every birth behind the last night is alike -/
theorem ynight_shut {Y : Mem} {n : Nat} {g : Nat → Int} : ynight Y n false g = (Y 0 1, g) := by
  unfold ynight
  refine fold_skip (fun x _ => ygo_neg ?_)
  rintro ⟨-, -, h, -⟩
  cases h
def yst0 (Y : Mem) : Nat → (Nat → Int) × Int × Int
  | 0 => (fun _ => -1, 0, 0)
  | n + 1 =>
    let s := yst0 Y n
    let h := s.2.1 + (Y 0 1 - Y 0 1)
    let m := min (h / Y 0 4) (Y 0 5 - s.2.2)
    (s.1, h - m * Y 0 4, s.2.2 + m)
theorem yst_never {Y : Mem} {v : Int} {n : Nat} (hv : (n : Int) ≤ v) : yst (mset Y 0 3 v) n = yst0 Y n := by
  induction n with
  | zero => rfl
  | succ n ih =>
    have h1 := ih (by omega)
    have ho : ∀ c : Int, yopen (mset Y 0 3 v) n c = false := by
      intro c
      unfold yopen
      rw [ms_same]
      simp only [decide_eq_false_iff_not]
      omega
    have e1 : mset Y 0 3 v 0 1 = Y 0 1 := ms_ni (by decide)
    have e4 : mset Y 0 3 v 0 4 = Y 0 4 := ms_ni (by decide)
    have e5 : mset Y 0 3 v 0 5 = Y 0 5 := ms_ni (by decide)
    have en : ynight (mset Y 0 3 v) n (yopen (mset Y 0 3 v) n (yst (mset Y 0 3 v) n).2.2) (yst (mset Y 0 3 v) n).1 = (Y 0 1, (yst0 Y n).1) := by
      rw [ho, ynight_shut, e1, h1]
    have es : yst (mset Y 0 3 v) (n + 1) = ((ynight (mset Y 0 3 v) n (yopen (mset Y 0 3 v) n (yst (mset Y 0 3 v) n).2.2) (yst (mset Y 0 3 v) n).1).2, ((yst (mset Y 0 3 v) n).2.1 + (mset Y 0 3 v 0 1 - (ynight (mset Y 0 3 v) n (yopen (mset Y 0 3 v) n (yst (mset Y 0 3 v) n).2.2) (yst (mset Y 0 3 v) n).1).1)) - min (((yst (mset Y 0 3 v) n).2.1 + (mset Y 0 3 v 0 1 - (ynight (mset Y 0 3 v) n (yopen (mset Y 0 3 v) n (yst (mset Y 0 3 v) n).2.2) (yst (mset Y 0 3 v) n).1).1)) / mset Y 0 3 v 0 4) (mset Y 0 3 v 0 5 - (yst (mset Y 0 3 v) n).2.2) * mset Y 0 3 v 0 4, (yst (mset Y 0 3 v) n).2.2 + min (((yst (mset Y 0 3 v) n).2.1 + (mset Y 0 3 v 0 1 - (ynight (mset Y 0 3 v) n (yopen (mset Y 0 3 v) n (yst (mset Y 0 3 v) n).2.2) (yst (mset Y 0 3 v) n).1).1)) / mset Y 0 3 v 0 4) (mset Y 0 3 v 0 5 - (yst (mset Y 0 3 v) n).2.2)) := rfl
    rw [es, en, h1, e1, e4, e5]
    rfl
theorem ybears_never {Y : Mem} {v w : Int} {n p : Nat} (hv : (n : Int) ≤ v) (hw : (n : Int) ≤ w) : ybears (mset Y 0 3 v) n p = ybears (mset Y 0 3 w) n p := by
  unfold ybears
  refine sumN_congr (fun k hk => ?_)
  have e : ywait (mset Y 0 3 v) k p = ywait (mset Y 0 3 w) k p := by
    unfold ywait
    rw [yst_never (show ((k + 1 : Nat) : Int) ≤ v by omega), yst_never (show ((k + 1 : Nat) : Int) ≤ w by omega), ms_ne (show 3 ≠ 0 by decide), ms_ne (show 3 ≠ 0 by decide)]
  have c : ycost (mset Y 0 3 v) p = ycost (mset Y 0 3 w) p := by
    unfold ycost
    rw [ms_ne (show 1 ≠ 0 by decide), ms_ne (show 1 ≠ 0 by decide), ms_ne (show 2 ≠ 0 by decide), ms_ne (show 2 ≠ 0 by decide)]
  rw [e, c]
theorem yall_never {Y : Mem} {v w : Int} (hv : (yN Y : Int) ≤ v) (hw : (yN Y : Int) ≤ w) : yall (mset Y 0 3 v) = yall (mset Y 0 3 w) := by
  unfold yall
  rw [yP_set (by decide), yP_set (by decide), yN_set (by decide), yN_set (by decide)]
  exact sumN_congr (fun p _ => ybears_never hv hw)
