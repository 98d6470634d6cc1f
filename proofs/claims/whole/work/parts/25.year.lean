/-! THE YEAR (by hand): what one pass over all nights comes to, as mathematics -/
-- Y: 0: nights room rule birth tooth teeth persons; 1 ache 2 dear 3 from 4 told 5 held back
def yP (Y : Mem) : Nat := (Y 0 6).toNat
def yrank (Y : Mem) (p : Nat) : Int := if Y 0 2 = 1 then -(Y 4 p) else if Y 0 2 = 2 then Y 4 p else if Y 0 2 = 3 then Y 3 p else 0
def yins (Y : Mem) (p : Nat) : List Nat → List Nat
  | [] => [p]
  | q :: l => if yrank Y p < yrank Y q then p :: q :: l else q :: yins Y p l
def yord (Y : Mem) : Nat → List Nat
  | 0 => []
  | p + 1 => yins Y p (yord Y p)
def gset (g : Nat → Int) (p : Nat) (v : Int) : Nat → Int := fun q => if q = p then v else g q
def ygo (Y : Mem) (n : Nat) (op : Bool) (s : Int × (Nat → Int)) (p : Nat) : Int × (Nat → Int) :=
  if Y 3 p ≤ n ∧ s.2 p = -1 ∧ op = true ∧ Y 3 p + Y 5 p ≤ n ∧ Y 1 p ≤ s.1 then (s.1 - Y 1 p, gset s.2 p n) else s
def ynight (Y : Mem) (n : Nat) (op : Bool) (g : Nat → Int) : Int × (Nat → Int) := (yord Y (yP Y)).foldl (ygo Y n op) (Y 0 1, g)
def yopen (Y : Mem) (n : Nat) (c : Int) : Bool := decide (Y 0 3 ≤ n ∧ c < Y 0 5)
/-- behind n nights: who gave, what is held, teeth cut -/
def yst (Y : Mem) : Nat → (Nat → Int) × Int × Int
  | 0 => (fun _ => -1, 0, 0)
  | n + 1 =>
    let s := yst Y n
    let r := ynight Y n (yopen Y n s.2.2) s.1
    let h := s.2.1 + (Y 0 1 - r.1)
    let m := min (h / Y 0 4) (Y 0 5 - s.2.2)
    (r.2, h - m * Y 0 4, s.2.2 + m)
def yleft (Y : Mem) (n : Nat) : Int := (ynight Y n (yopen Y n (yst Y n).2.2) (yst Y n).1).1
def sumN (f : Nat → Int) : Nat → Int
  | 0 => 0
  | n + 1 => sumN f n + f n
def ywait (Y : Mem) (n p : Nat) : Bool := decide (Y 3 p ≤ n ∧ (yst Y (n + 1)).1 p = -1)
def ygave (Y : Mem) (n p : Nat) : Bool := decide ((yst Y (n + 1)).1 p = n)
def ycost (Y : Mem) (p : Nat) : Int := Y 1 p * Y 2 p
def ygroan (Y : Mem) (n : Nat) : Int := sumN (fun p => if ywait Y n p = true then ycost Y p else 0) (yP Y)
def ybears (Y : Mem) (n p : Nat) : Int := sumN (fun k => if ywait Y k p = true then ycost Y p else 0) n
/-- what a year is told in bounds -/
def YOK (Y : Mem) : Prop := (0 ≤ Y 0 0 ∧ Y 0 0 ≤ 12) ∧ (0 ≤ Y 0 1 ∧ Y 0 1 ≤ 160) ∧ (0 ≤ Y 0 2 ∧ Y 0 2 ≤ 3) ∧ (0 ≤ Y 0 3 ∧ Y 0 3 ≤ 100) ∧ (0 ≤ Y 0 4 ∧ Y 0 4 ≤ 40) ∧ (0 ≤ Y 0 5 ∧ Y 0 5 ≤ 20) ∧ (0 ≤ Y 0 6 ∧ Y 0 6 ≤ 8) ∧ (Y 0 0 = 0 ∨ 1 ≤ Y 0 4) ∧
  ∀ p : Nat, (p : Int) < Y 0 6 → (1 ≤ Y 1 p ∧ Y 1 p ≤ 20) ∧ (1 ≤ Y 2 p ∧ Y 2 p ≤ 9) ∧ (0 ≤ Y 3 p ∧ Y 3 p ≤ 100) ∧ (0 ≤ Y 4 p ∧ Y 4 p ≤ 60) ∧ (0 ≤ Y 5 p ∧ Y 5 p ≤ 3)
-- the order
theorem yins_mem {Y : Mem} {p x : Nat} {l : List Nat} : x ∈ yins Y p l ↔ x = p ∨ x ∈ l := by
  induction l with
  | nil => simp [yins]
  | cons q l ih =>
    rw [yins]
    split
    · simp
    · simp only [List.mem_cons, ih]
      constructor
      · rintro (h | h | h)
        · exact Or.inr (Or.inl h)
        · exact Or.inl h
        · exact Or.inr (Or.inr h)
      · rintro (h | h | h)
        · exact Or.inr (Or.inl h)
        · exact Or.inl h
        · exact Or.inr (Or.inr h)
theorem yins_len {Y : Mem} {p : Nat} {l : List Nat} : (yins Y p l).length = l.length + 1 := by
  induction l with
  | nil => rfl
  | cons q l ih =>
    rw [yins]
    split
    · rfl
    · simp [ih]
theorem yord_mem {Y : Mem} {n x : Nat} : x ∈ yord Y n ↔ x < n := by
  induction n with
  | zero => simp [yord]
  | succ n ih =>
    rw [yord, yins_mem, ih]
    omega
theorem yord_len {Y : Mem} {n : Nat} : (yord Y n).length = n := by
  induction n with
  | zero => rfl
  | succ n ih => rw [yord, yins_len, ih]
/-- by rank, and among like ones by number -/
def ykey (Y : Mem) (p q : Nat) : Prop := yrank Y p < yrank Y q ∨ (yrank Y p = yrank Y q ∧ p < q)
theorem ykey_lt {Y : Mem} {p q r : Nat} (h : ykey Y p q) (h' : ykey Y q r) : ykey Y p r := by
  unfold ykey at *
  omega
theorem yins_sorted {Y : Mem} {p : Nat} {l : List Nat} (h : l.Pairwise (ykey Y)) (hp : ∀ x ∈ l, x < p) : (yins Y p l).Pairwise (ykey Y) := by
  induction l with
  | nil => simp [yins]
  | cons q l ih =>
    rw [yins]
    obtain ⟨h1, h2⟩ := List.pairwise_cons.mp h
    split
    · rename_i hr
      refine List.pairwise_cons.mpr ⟨fun x hx => ?_, h⟩
      rcases List.mem_cons.mp hx with rfl | hx
      · exact Or.inl hr
      · exact ykey_lt (Or.inl hr) (h1 x hx)
    · rename_i hr
      refine List.pairwise_cons.mpr ⟨fun x hx => ?_, ih h2 (fun x hx => hp x (List.mem_cons_of_mem _ hx))⟩
      rcases yins_mem.mp hx with rfl | hx
      · have := hp q List.mem_cons_self
        unfold ykey
        omega
      · exact h1 x hx
theorem yord_sorted {Y : Mem} {n : Nat} : (yord Y n).Pairwise (ykey Y) := by
  induction n with
  | zero => exact List.Pairwise.nil
  | succ n ih => exact yins_sorted ih (fun x hx => yord_mem.mp hx)
theorem yord_nodup {Y : Mem} {n : Nat} : (yord Y n).Nodup := by
  refine List.Pairwise.imp ?_ (yord_sorted (Y := Y) (n := n))
  intro a b h e
  subst e
  unfold ykey at h
  omega
/-- where the one who comes in is put -/
theorem yins_split {Y : Mem} {p k : Nat} {l : List Nat} (h1 : ∀ x ∈ l.take k, yrank Y x ≤ yrank Y p) (h2 : ∀ x ∈ l.drop k, yrank Y p < yrank Y x) : yins Y p l = l.take k ++ p :: l.drop k := by
  induction l generalizing k with
  | nil => simp [yins]
  | cons q l ih =>
    cases k with
    | zero =>
      have := h2 q (by simp)
      simp [yins, this]
    | succ k =>
      have h := h1 q (by simp)
      have hn : ¬ yrank Y p < yrank Y q := by omega
      rw [yins, if_neg hn, ih (k := k) (fun x hx => h1 x (by rw [List.take_succ_cons]; exact List.mem_cons_of_mem _ hx)) (fun x hx => h2 x (by rw [List.drop_succ_cons]; exact hx))]
      rw [List.take_succ_cons, List.drop_succ_cons, List.cons_append]
-- sums
theorem sumN_congr {f g : Nat → Int} {n : Nat} (h : ∀ i, i < n → f i = g i) : sumN f n = sumN g n := by
  induction n with
  | zero => rfl
  | succ n ih => rw [sumN, sumN, ih (fun i hi => h i (Nat.lt_succ_of_lt hi)), h n (Nat.lt_succ_self n)]
theorem sumN_upd {f g : Nat → Int} {n x : Nat} (hx : x < n) (h : ∀ i, i < n → i ≠ x → f i = g i) : sumN f n = sumN g n - g x + f x := by
  induction n with
  | zero => omega
  | succ n ih =>
    rw [sumN, sumN]
    by_cases hn : x = n
    · subst hn
      rw [sumN_congr (fun i hi => h i (Nat.lt_succ_of_lt hi) (Nat.ne_of_lt hi))]
      omega
    · rw [ih (by omega) (fun i hi hne => h i (Nat.lt_succ_of_lt hi) hne), h n (Nat.lt_succ_self n) (fun e => hn e.symm)]
      omega
theorem sumN_bd {f : Nat → Int} {n : Nat} {lo hi : Int} (h : ∀ i, i < n → lo ≤ f i ∧ f i ≤ hi) : n * lo ≤ sumN f n ∧ sumN f n ≤ n * hi := by
  induction n with
  | zero => simp [sumN]
  | succ n ih =>
    have h1 := ih (fun i hi => h i (Nat.lt_succ_of_lt hi))
    have h2 := h n (Nat.lt_succ_self n)
    rw [sumN]
    have e1 : ((n + 1 : Nat) : Int) * lo = n * lo + lo := by rw [Int.natCast_succ, Int.add_mul, Int.one_mul]
    have e2 : ((n + 1 : Nat) : Int) * hi = n * hi + hi := by rw [Int.natCast_succ, Int.add_mul, Int.one_mul]
    omega
-- one night
theorem gset_at {g : Nat → Int} {p q : Nat} {v : Int} : gset g p v q = if q = p then v else g q := rfl
theorem gset_eq {g : Nat → Int} {p : Nat} {v : Int} : gset g p v p = v := by simp [gset]
theorem gset_ne {g : Nat → Int} {p q : Nat} {v : Int} (h : q ≠ p) : gset g p v q = g q := by simp [gset, h]
theorem ygo_other {Y : Mem} {n p q : Nat} {op : Bool} {s : Int × (Nat → Int)} (h : q ≠ p) : (ygo Y n op s p).2 q = s.2 q := by
  unfold ygo
  split
  · exact gset_ne h
  · rfl
theorem yfold_out {Y : Mem} {n q : Nat} {op : Bool} {l : List Nat} {s : Int × (Nat → Int)} (h : q ∉ l) : (l.foldl (ygo Y n op) s).2 q = s.2 q := by
  induction l generalizing s with
  | nil => rfl
  | cons p l ih =>
    rw [List.foldl_cons, ih (fun hq => h (List.mem_cons_of_mem _ hq))]
    exact ygo_other (fun e => h (by rw [e]; exact List.mem_cons_self))
theorem yfold_val {Y : Mem} {n q : Nat} {op : Bool} {l : List Nat} {s : Int × (Nat → Int)} : (l.foldl (ygo Y n op) s).2 q = s.2 q ∨ (q ∈ l ∧ s.2 q = -1 ∧ (l.foldl (ygo Y n op) s).2 q = n ∧ Y 3 q ≤ n) := by
  induction l generalizing s with
  | nil => exact Or.inl rfl
  | cons p l ih =>
    rw [List.foldl_cons]
    have hp : (ygo Y n op s p).2 q = s.2 q ∨ (q = p ∧ s.2 q = -1 ∧ (ygo Y n op s p).2 q = n ∧ Y 3 q ≤ n) := by
      unfold ygo
      split
      · rename_i hc
        by_cases hq : q = p
        · subst hq
          exact Or.inr ⟨rfl, hc.2.1, gset_eq, hc.1⟩
        · exact Or.inl (gset_ne hq)
      · exact Or.inl rfl
    rcases ih (s := ygo Y n op s p) with h | ⟨h1, h2, h3, h4⟩
    · rcases hp with h' | ⟨h5, h6, h7, h8⟩
      · exact Or.inl (h.trans h')
      · exact Or.inr ⟨by rw [h5]; exact List.mem_cons_self, h6, h.trans h7, h8⟩
    · rcases hp with h' | ⟨h5, h6, h7, h8⟩
      · exact Or.inr ⟨List.mem_cons_of_mem _ h1, by rw [← h']; exact h2, h3, h4⟩
      · exact absurd (h7.symm.trans h2) (by omega)
theorem yfold_left {Y : Mem} {n : Nat} {op : Bool} {l : List Nat} (hl : ∀ p ∈ l, 0 ≤ Y 1 p) {s : Int × (Nat → Int)} (h0 : 0 ≤ s.1) : 0 ≤ (l.foldl (ygo Y n op) s).1 ∧ (l.foldl (ygo Y n op) s).1 ≤ s.1 := by
  induction l generalizing s with
  | nil => exact ⟨h0, Int.le_refl _⟩
  | cons p l ih =>
    rw [List.foldl_cons]
    have hp : 0 ≤ (ygo Y n op s p).1 ∧ (ygo Y n op s p).1 ≤ s.1 := by
      have := hl p List.mem_cons_self
      unfold ygo
      split
      · rename_i hc
        have := hc.2.2.2.2
        show 0 ≤ s.1 - Y 1 p ∧ s.1 - Y 1 p ≤ s.1
        omega
      · exact ⟨h0, Int.le_refl _⟩
    have := ih (fun q hq => hl q (List.mem_cons_of_mem _ hq)) hp.1
    omega
theorem yst_gives {Y : Mem} {n p : Nat} : (yst Y n).1 p = -1 ∨ (0 ≤ (yst Y n).1 p ∧ (yst Y n).1 p < n ∧ Y 3 p ≤ (yst Y n).1 p ∧ p < yP Y) := by
  induction n with
  | zero => exact Or.inl rfl
  | succ n ih =>
    have e : (yst Y (n + 1)).1 = (ynight Y n (yopen Y n (yst Y n).2.2) (yst Y n).1).2 := rfl
    rw [e]
    rcases yfold_val (Y := Y) (n := n) (q := p) (op := yopen Y n (yst Y n).2.2) (l := yord Y (yP Y)) (s := (Y 0 1, (yst Y n).1)) with h | ⟨h1, h2, h3, h4⟩
    · unfold ynight
      rw [h]
      show (yst Y n).1 p = -1 ∨ _
      rcases ih with h' | h'
      · exact Or.inl h'
      · refine Or.inr ?_
        show 0 ≤ (yst Y n).1 p ∧ (yst Y n).1 p < _ ∧ Y 3 p ≤ (yst Y n).1 p ∧ _
        omega
    · unfold ynight
      rw [h3]
      have := yord_mem.mp h1
      omega
theorem yst_keep {Y : Mem} {n p : Nat} (h : (yst Y n).1 p ≠ -1) : (yst Y (n + 1)).1 p = (yst Y n).1 p := by
  have e : (yst Y (n + 1)).1 = (ynight Y n (yopen Y n (yst Y n).2.2) (yst Y n).1).2 := rfl
  rw [e]
  rcases yfold_val (Y := Y) (n := n) (q := p) (op := yopen Y n (yst Y n).2.2) (l := yord Y (yP Y)) (s := (Y 0 1, (yst Y n).1)) with h1 | ⟨-, h2, -⟩
  · exact h1
  · exact absurd h2 h
theorem yst_keeps {Y : Mem} {n m p : Nat} (hm : n ≤ m) (h : (yst Y n).1 p ≠ -1) : (yst Y m).1 p = (yst Y n).1 p := by
  induction m with
  | zero =>
    have : n = 0 := by omega
    rw [this]
  | succ m ih =>
    by_cases hn : n = m + 1
    · rw [hn]
    · have h1 := ih (by omega)
      rw [yst_keep (by rw [h1]; exact h), h1]
theorem yst_none {Y : Mem} {n m p : Nat} (hm : n ≤ m) (h : (yst Y m).1 p = -1) : (yst Y n).1 p = -1 := by
  by_cases hn : (yst Y n).1 p = -1
  · exact hn
  · rw [yst_keeps hm hn] at h
    exact absurd h hn
/-- who gave in a night, told by the end -/
theorem yst_gave {Y : Mem} {n m p : Nat} (hm : n + 1 ≤ m) : ((yst Y m).1 p = n) ↔ ((yst Y (n + 1)).1 p = n) := by
  constructor
  · intro h
    by_cases hn : (yst Y (n + 1)).1 p = -1
    · exfalso
      have key : ∀ k, n + 1 ≤ k → (yst Y k).1 p = -1 ∨ (n : Int) + 1 ≤ (yst Y k).1 p := by
        intro k hk
        induction k with
        | zero => omega
        | succ k ih =>
          by_cases hk2 : n + 1 = k + 1
          · rw [← hk2]
            exact Or.inl hn
          · rcases ih (by omega) with h1 | h1
            · have e : (yst Y (k + 1)).1 = (ynight Y k (yopen Y k (yst Y k).2.2) (yst Y k).1).2 := rfl
              rw [e]
              rcases yfold_val (Y := Y) (n := k) (q := p) (op := yopen Y k (yst Y k).2.2) (l := yord Y (yP Y)) (s := (Y 0 1, (yst Y k).1)) with h2 | ⟨-, -, h2, -⟩
              · exact Or.inl (h2.trans h1)
              · refine Or.inr ?_
                unfold ynight
                rw [h2]
                omega
            · rw [yst_keep (by omega)]
              exact Or.inr h1
      rcases key m hm with h1 | h1 <;> omega
    · rw [← yst_keeps hm hn]
      exact h
  · intro h
    rw [yst_keeps hm (by omega)]
    exact h
theorem YOK.ache {Y : Mem} (h : YOK Y) {p : Nat} (hp : p < yP Y) : (1 ≤ Y 1 p ∧ Y 1 p ≤ 20) ∧ (1 ≤ Y 2 p ∧ Y 2 p ≤ 9) ∧ (0 ≤ Y 3 p ∧ Y 3 p ≤ 100) ∧ (0 ≤ Y 4 p ∧ Y 4 p ≤ 60) ∧ (0 ≤ Y 5 p ∧ Y 5 p ≤ 3) := by
  refine h.2.2.2.2.2.2.2.2 p ?_
  have := h.2.2.2.2.2.2.1
  unfold yP at hp
  omega
theorem yleft_bd {Y : Mem} (h : YOK Y) {n : Nat} : 0 ≤ yleft Y n ∧ yleft Y n ≤ Y 0 1 :=
  yfold_left (fun p hp => by have := (h.ache (yord_mem.mp hp)).1; omega) h.2.1.1
/-- teeth and what is held, in bounds -/
theorem yst_bd {Y : Mem} (h : YOK Y) (h4 : 1 ≤ Y 0 4) (n : Nat) : (0 ≤ (yst Y n).2.1 ∧ (yst Y n).2.1 ≤ 160 * n) ∧ (0 ≤ (yst Y n).2.2 ∧ (yst Y n).2.2 ≤ Y 0 5) := by
  induction n with
  | zero => exact ⟨⟨Int.le_refl _, by simp [yst]⟩, Int.le_refl _, h.2.2.2.2.2.1.1⟩
  | succ n ih =>
    have hl := yleft_bd h (n := n)
    have hr := h.2.1
    have e1 : (yst Y (n + 1)).2.1 = (yst Y n).2.1 + (Y 0 1 - yleft Y n) - min (((yst Y n).2.1 + (Y 0 1 - yleft Y n)) / Y 0 4) (Y 0 5 - (yst Y n).2.2) * Y 0 4 := rfl
    have e2 : (yst Y (n + 1)).2.2 = (yst Y n).2.2 + min (((yst Y n).2.1 + (Y 0 1 - yleft Y n)) / Y 0 4) (Y 0 5 - (yst Y n).2.2) := rfl
    rw [e1, e2]
    have hH : 0 ≤ (yst Y n).2.1 + (Y 0 1 - yleft Y n) ∧ (yst Y n).2.1 + (Y 0 1 - yleft Y n) ≤ 160 * ((n + 1 : Nat) : Int) := by omega
    generalize (yst Y n).2.1 + (Y 0 1 - yleft Y n) = H at *
    have hq : 0 ≤ H / Y 0 4 := Int.ediv_nonneg hH.1 (by omega)
    have hm : min (H / Y 0 4) (Y 0 5 - (yst Y n).2.2) ≤ H / Y 0 4 := Int.min_le_left _ _
    have hm2 : min (H / Y 0 4) (Y 0 5 - (yst Y n).2.2) ≤ Y 0 5 - (yst Y n).2.2 := Int.min_le_right _ _
    have hm0 : 0 ≤ min (H / Y 0 4) (Y 0 5 - (yst Y n).2.2) := by omega
    generalize min (H / Y 0 4) (Y 0 5 - (yst Y n).2.2) = m at *
    have h5 : m * Y 0 4 ≤ H / Y 0 4 * Y 0 4 := Int.mul_le_mul_of_nonneg_right hm (by omega)
    have h6 : H / Y 0 4 * Y 0 4 ≤ H := Int.ediv_mul_le H (by omega)
    have h7 : 0 ≤ m * Y 0 4 := Int.mul_nonneg hm0 (by omega)
    omega
