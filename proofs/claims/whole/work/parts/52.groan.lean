/-! GROAN, the class's side (by hand) -/
/-- the year told otherwise: a rule, and a groan of one person -/
def yGr (Y : Mem) (u : Int) (p : Nat) (m : Int) : Mem := mset (mset Y 0 2 u) 4 p (Y 1 p + m)
def Gr (Y : Mem) (u : Int) (p j : Nat) : Prop := 1 ≤ j ∧ ybears (yGr Y u p j) (yN Y) p < ybears (yGr Y u p 0) (yN Y) p
theorem yGr_ok {D : Mem} (hI : IC D) {u : Int} {p : Nat} {m : Int} (hp : p < yP (yW (D 118))) (hu : 0 ≤ u ∧ u ≤ 3) (hm : 0 ≤ m ∧ m ≤ 20) : YOK (yGr (yW (D 118)) u p m) := by
  have ha := (hI.1.yok.ache hp).1
  exact (hI.1.yok.num (Or.inr (Or.inl ⟨rfl, hu⟩))).per (Or.inr (Or.inl ⟨rfl, by omega⟩))
theorem yGr_P {Y : Mem} {u m : Int} {p : Nat} : yP (yGr Y u p m) = yP Y := by
  unfold yGr
  rw [yP_set (by omega), yP_set (by omega)]
theorem yGr_N {Y : Mem} {u m : Int} {p : Nat} : yN (yGr Y u p m) = yN Y := by
  unfold yGr
  rw [yN_set (by omega), yN_set (by omega)]
theorem yGr_zero {D : Mem} {u : Int} {p : Nat} : yGr (yW (D 118)) u p 0 = mset (yW (D 118)) 0 2 u := by
  unfold yGr
  have e : yW (D 118) 1 p + 0 = mset (yW (D 118)) 0 2 u 4 p := by
    rw [ms_ne (show 4 ≠ 0 by decide), Int.add_zero]
    rfl
  rw [e, ms_self]
