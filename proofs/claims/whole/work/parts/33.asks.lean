/-! WHAT THE REFERENCE READS OFF A YEAR (by hand) -/
theorem yst_new {Y : Mem} {n p : Nat} (h : (yst Y n).1 p = -1) : (yst Y (n + 1)).1 p = -1 ∨ (yst Y (n + 1)).1 p = n := by
  have e : (yst Y (n + 1)).1 = (ynight Y n (yopen Y n (yst Y n).2.2) (yst Y n).1).2 := rfl
  rw [e]
  rcases yfold_val (Y := Y) (n := n) (q := p) (op := yopen Y n (yst Y n).2.2) (l := yord Y (yP Y)) (s := (Y 0 1, (yst Y n).1)) with h1 | ⟨-, -, h1, -⟩
  · exact Or.inl (h1.trans h)
  · exact Or.inr h1
def yto (Y : Mem) (n p : Nat) : Int := if (yst Y n).1 p = -1 then (n : Int) else (yst Y n).1 p
theorem ybears_eq {Y : Mem} {p : Nat} (h3 : 0 ≤ Y 3 p) (n : Nat) : ybears Y n p = max 0 (yto Y n p - Y 3 p) * ycost Y p := by
  induction n with
  | zero =>
    have : max 0 (yto Y 0 p - Y 3 p) = 0 := by
      have e : yto Y 0 p = 0 := rfl
      rw [e]
      omega
    rw [this]
    simp [ybears, sumN]
  | succ n ih =>
    have e : ybears Y (n + 1) p = ybears Y n p + (if ywait Y n p = true then ycost Y p else 0) := rfl
    rw [e, ih]
    by_cases c1 : (yst Y (n + 1)).1 p = -1
    · have c0 := yst_none (Nat.le_succ n) c1
      have t1 : yto Y (n + 1) p = n + 1 := by
        unfold yto
        rw [if_pos c1]
        omega
      have t0 : yto Y n p = n := by
        unfold yto
        rw [if_pos c0]
      rw [t1, t0]
      by_cases c2 : Y 3 p ≤ n
      · rw [if_pos (by simp [ywait, c1, c2])]
        have m1 : max 0 ((n : Int) + 1 - Y 3 p) = max 0 ((n : Int) - Y 3 p) + 1 := by omega
        rw [m1, Int.add_mul, Int.one_mul]
      · rw [if_neg (by simp [ywait, c2])]
        have m1 : max 0 ((n : Int) + 1 - Y 3 p) = 0 := by omega
        have m2 : max 0 ((n : Int) - Y 3 p) = 0 := by omega
        rw [m1, m2, Int.add_zero]
    · rw [if_neg (by simp [ywait, c1]), Int.add_zero]
      congr 2
      congr 1
      by_cases c0 : (yst Y n).1 p = -1
      · have := (yst_new c0).resolve_left c1
        unfold yto
        rw [if_pos c0, if_neg c1, this]
      · unfold yto
        rw [if_neg c0, if_neg c1, yst_keep c0]
theorem sumN_add {f g : Nat → Int} (n : Nat) : sumN (fun i => f i + g i) n = sumN f n + sumN g n := by
  induction n with
  | zero => rfl
  | succ n ih =>
    simp only [sumN, ih]
    omega
theorem sumN_zero (n : Nat) : sumN (fun _ => 0) n = 0 := by
  induction n with
  | zero => rfl
  | succ n ih => simp only [sumN, ih]; rfl
theorem sumN_swap {f : Nat → Nat → Int} (n m : Nat) : sumN (fun i => sumN (fun j => f i j) m) n = sumN (fun j => sumN (fun i => f i j) n) m := by
  induction n with
  | zero => simp only [sumN]; exact (sumN_zero m).symm
  | succ n ih => simp only [sumN, ih, sumN_add]
def yall (Y : Mem) : Int := sumN (fun p => ybears Y (yN Y) p) (yP Y)
theorem yall_eq {Y : Mem} : sumN (ygroan Y) (yN Y) = yall Y := sumN_swap (f := fun n p => if ywait Y n p = true then ycost Y p else 0) (yN Y) (yP Y)
theorem ycost_bd {Y : Mem} (hY : YOK Y) {p : Nat} (hp : p < yP Y) : 1 ≤ ycost Y p ∧ ycost Y p ≤ 180 := by
  obtain ⟨b1, b2, -⟩ := hY.ache hp
  unfold ycost
  constructor
  · have : (1 : Int) * 1 ≤ Y 1 p * Y 2 p := Int.mul_le_mul b1.1 b2.1 (by decide) (by omega)
    omega
  · have : Y 1 p * Y 2 p ≤ 20 * 9 := Int.mul_le_mul b1.2 b2.2 (by omega) (by decide)
    omega
theorem ybears_bd {Y : Mem} (hY : YOK Y) {p : Nat} (hp : p < yP Y) : 0 ≤ ybears Y (yN Y) p ∧ ybears Y (yN Y) p ≤ 2160 := by
  have hc := ycost_bd hY hp
  have hN := hY.N
  have := sumN_bd (f := fun k => if ywait Y k p = true then ycost Y p else 0) (n := yN Y) (lo := 0) (hi := 180) (fun i hi => by split <;> omega)
  unfold ybears
  omega
theorem yall_bd {Y : Mem} (hY : YOK Y) : 0 ≤ yall Y ∧ yall Y ≤ 17280 := by
  have hP := hY.P
  have := sumN_bd (f := fun p => ybears Y (yN Y) p) (n := yP Y) (lo := 0) (hi := 2160) (fun i hi => ybears_bd hY hi)
  unfold yall
  omega
/-- a memory in which a year has passed -/
def MS (Y M : Mem) : Prop := YM Y M ∧ (∀ p, p < yP Y → M 128 p = (yst Y (yN Y)).1 p) ∧ MRows Y M (yN Y) ∧ M 117 27 = yfeast Y (yN Y)
theorem MOut.ms {Y D M : Mem} (h : YM Y D) (k : MOut Y D M) : MS Y M := ⟨h.keep k.1, k.2.1, k.2.2.1, k.2.2.2⟩
theorem sp_costOf {Y M : Mem} (hY : YOK Y) (h : YM Y M) {p : Nat} (hp : p < yP Y) : f10_costOf M (p : Int) = some (ycost Y p) := by
  have hP := hY.P
  obtain ⟨a1, a2, a3, a4, a5, a6⟩ := h.2.2.2.2.2.2.2.2 p hp
  refine wp_is ?_
  unfold f10_costOf
  refine wp_pos (by omega) ?_
  have e : ((10 + (4 * (p : Int))) + 2).toNat = 10 + 4 * p + 2 := by omega
  have e2 : f10_of M (p : Int) 2 = some (Y 2 p) := by
    unfold f10_of
    rw [if_pos (by omega), e, ← a2]
  refine wp_then e2 (wpo_of ?_)
  rw [Int.toNat_natCast, ← a1]
  rfl
theorem sp_bearsOf {Y M : Mem} (hY : YOK Y) (h : MS Y M) {p : Nat} (hp : p < yP Y) : f10_bearsOf M (p : Int) = some (ybears Y (yN Y) p) := by
  have hP := hY.P
  have hN := hY.N
  obtain ⟨h, hg, -⟩ := h
  have ha := hY.ache hp
  obtain ⟨a1, a2, a3, a4, a5, a6⟩ := h.2.2.2.2.2.2.2.2 p hp
  have q21 := h.2.2.2.2.2.2.2.1
  have q0 : M 118 0 = Y 0 0 := h.1.symm
  have hgk : (yst Y (yN Y)).1 p = -1 ∨ (0 ≤ (yst Y (yN Y)).1 p ∧ (yst Y (yN Y)).1 p < yN Y ∧ Y 3 p ≤ (yst Y (yN Y)).1 p ∧ p < yP Y) := yst_gives
  rw [ybears_eq (by omega)]
  refine wp_is ?_
  unfold f10_bearsOf
  refine wp_pos (by omega) ?_
  rw [Int.toNat_natCast, hg p hp]
  have hto : yto Y (yN Y) p ≤ 12 ∧ 0 ≤ yto Y (yN Y) p := by
    unfold yto
    split <;> omega
  refine wp_then (a := max 0 (yto Y (yN Y) p - Y 3 p) * ycost Y p) ?_ (wpo_of rfl)
  refine wp_is ?_
  unfold f10_bearsBy
  by_cases hgo : (p : Int) = M 117 21
  · rw [if_pos hgo] at a3
    refine wp_pos ((eq32 (by omega) (by omega)).mpr hgo) (wpo_of ?_)
    have : max 0 (yto Y (yN Y) p - Y 3 p) = 0 := by omega
    rw [this, Int.zero_mul]
  · rw [if_neg hgo] at a3
    refine wp_neg (fun x => hgo ((eq32 (by omega) (by omega)).mp x)) ?_
    refine wp_then (a := yto Y (yN Y) p) ?_ ?_
    · refine wp_is ?_
      unfold yto
      by_cases c : (yst Y (yN Y)).1 p = -1
      · refine wp_pos (by rw [c]) ?_
        refine wp_then (show f10_nights M = some (Y 0 0) by rw [← q0]; rfl) (wpo_of ?_)
        rw [if_pos c]
        omega
      · refine wp_neg (fun x => c ((eq32 (by omega) (by omega)).mp x)) (wpo_of ?_)
        rw [if_neg c]
    · refine wp_pos (by omega) ?_
      refine wp_then (sp_costOf hY h hp) (wpo_of ?_)
      rw [Int.toNat_natCast, ← a3, max32_id (by omega) (by omega)]
theorem sp_bearsAll {Y M : Mem} (hY : YOK Y) (h : MS Y M) : f10_bearsAll M = some (yall Y) := by
  have hP := hY.P
  have e8 : M 118 7 = Y 0 6 := h.1.2.2.2.2.2.2.1.symm
  refine wp_is ?_
  unfold f10_bearsAll
  refine wp_bind.mpr ?_
  simp only [wp_some]
  refine wp_for (I := fun k s => s = (sumN (fun p => ybears Y (yN Y) p) k, (k : Int))) (yP Y) ?_ ?_ FU 0 _ rfl (Nat.zero_le _) (by unfold FU; omega)
  · rintro k s hk rfl
    dsimp only
    refine wp_pos (by rw [e8]; exact (lt32 (by omega) (by omega)).mpr (by omega)) ?_
    exact wp_then (sp_bearsOf hY h hk) (wpo_of rfl)
  · rintro s rfl
    dsimp only
    exact wp_neg (by rw [e8]; exact fun x => absurd ((lt32 (by omega) (by omega)).mp x) (by omega)) (wpo_of rfl)
/-- a set told by a loop over persons -/
theorem sp_waitsIn {Y M : Mem} (hY : YOK Y) (h : MS Y M) {n : Nat} (hn : n < yN Y) : f10_waitsIn M (n : Int) = some ((nset (ywait Y n) (yP Y) : Nat) : Int) := by
  have hP := hY.P
  have hN := hY.N
  obtain ⟨hM, hg, -⟩ := h
  have e8 : M 118 7 = Y 0 6 := hM.2.2.2.2.2.2.1.symm
  refine wp_is ?_
  unfold f10_waitsIn
  refine wp_bind.mpr ?_
  simp only [wp_some]
  refine wp_for (I := fun k s => s = (((nset (ywait Y n) k : Nat) : Int), (k : Int))) (yP Y) ?_ ?_ FU 0 _ rfl (Nat.zero_le _) (by unfold FU; omega)
  · rintro k s hk rfl
    dsimp only
    refine wp_pos (by rw [e8]; exact (lt32 (by omega) (by omega)).mpr (by omega)) ?_
    have hgk : (yst Y (yN Y)).1 k = -1 ∨ (0 ≤ (yst Y (yN Y)).1 k ∧ (yst Y (yN Y)).1 k < yN Y ∧ Y 3 k ≤ (yst Y (yN Y)).1 k ∧ k < yP Y) := yst_gives
    refine wp_then (sp_hasAche (v := (yst Y (yN Y)).1 k) hY hM hk (by omega) (hg k hk) (by omega)) ?_
    refine wp_then (a := if ywait Y n k = true then shl32 1 (k : Int) else 0) ?_ (wpo_of ?_)
    · have hw : (Y 3 k ≤ n ∧ ((yst Y (yN Y)).1 k = -1 ∨ (n : Int) < (yst Y (yN Y)).1 k)) ↔ ywait Y n k = true := by
        simp only [ywait, decide_eq_true_eq]
        refine and_congr_right (fun _ => ⟨fun hc => ?_, fun hc => ?_⟩)
        · rcases hc with hc | hc
          · exact yst_none (by omega) hc
          · refine Classical.byContradiction (fun hno => ?_)
            have hk2 := yst_keeps (Y := Y) (n := n + 1) (m := yN Y) (p := k) (by omega) hno
            have h3 : (yst Y (n + 1)).1 k = -1 ∨ (0 ≤ (yst Y (n + 1)).1 k ∧ (yst Y (n + 1)).1 k < (n + 1 : Nat) ∧ Y 3 k ≤ (yst Y (n + 1)).1 k ∧ k < yP Y) := yst_gives
            omega
        · by_cases hN1 : (yst Y (yN Y)).1 k = -1
          · exact Or.inl hN1
          · refine Or.inr (Classical.byContradiction (fun hno => ?_))
            have h1 : ∃ j : Nat, (yst Y (yN Y)).1 k = (j : Int) ∧ j ≤ n := ⟨((yst Y (yN Y)).1 k).toNat, by omega, by omega⟩
            obtain ⟨j, hj, hjn⟩ := h1
            have h2 := (yst_gave (Y := Y) (n := j) (m := yN Y) (p := k) (by omega)).mp hj
            have h3 := yst_keeps (Y := Y) (n := j + 1) (m := n + 1) (p := k) (by omega) (by omega)
            omega
      by_cases c : ywait Y n k = true
      · rw [if_pos (hw.mpr c), if_neg (by decide), if_pos c]
      · rw [if_neg (fun x => c (hw.mp x)), if_pos (by decide), if_neg c]
    · show (_, _) = (_, _)
      rw [or_next (by omega)]
      rfl
  · rintro s rfl
    dsimp only
    exact wp_neg (by rw [e8]; exact fun x => absurd ((lt32 (by omega) (by omega)).mp x) (by omega)) (wpo_of rfl)
theorem sp_givenIn {Y M : Mem} (hY : YOK Y) (h : MS Y M) {x : Int} (hx : -1 ≤ x ∧ x ≤ 12) : f10_givenIn M x = some ((nset (fun p => decide ((yst Y (yN Y)).1 p = x)) (yP Y) : Nat) : Int) := by
  have hP := hY.P
  have hN := hY.N
  obtain ⟨hM, hg, -⟩ := h
  have e8 : M 118 7 = Y 0 6 := hM.2.2.2.2.2.2.1.symm
  refine wp_is ?_
  unfold f10_givenIn
  refine wp_bind.mpr ?_
  simp only [wp_some]
  refine wp_for (I := fun k s => s = (((nset (fun p => decide ((yst Y (yN Y)).1 p = x)) k : Nat) : Int), (k : Int))) (yP Y) ?_ ?_ FU 0 _ rfl (Nat.zero_le _) (by unfold FU; omega)
  · rintro k s hk rfl
    dsimp only
    refine wp_pos (by rw [e8]; exact (lt32 (by omega) (by omega)).mpr (by omega)) ?_
    refine wp_pos (by omega) ?_
    have hgk : (yst Y (yN Y)).1 k = -1 ∨ (0 ≤ (yst Y (yN Y)).1 k ∧ (yst Y (yN Y)).1 k < yN Y ∧ Y 3 k ≤ (yst Y (yN Y)).1 k ∧ k < yP Y) := yst_gives
    refine wp_then (a := if (fun p => decide ((yst Y (yN Y)).1 p = x)) k = true then shl32 1 (k : Int) else 0) ?_ (wpo_of ?_)
    · rw [Int.toNat_natCast, hg k hk]
      dsimp only
      by_cases c : (yst Y (yN Y)).1 k = x
      · rw [if_pos (by rw [c]), if_pos (by simp [c])]
      · rw [if_neg (fun y => c ((eq32 (by omega) (by omega)).mp y)), if_neg (by simp [c])]
    · show (_, _) = (_, _)
      rw [or_next (f := fun p => decide ((yst Y (yN Y)).1 p = x)) (by omega)]
      rfl
  · rintro s rfl
    dsimp only
    exact wp_neg (by rw [e8]; exact fun x => absurd ((lt32 (by omega) (by omega)).mp x) (by omega)) (wpo_of rfl)
