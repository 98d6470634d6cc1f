/-! MORE CALLS OF THE YEAR AS IT IS (by hand) -/
theorem or_next2 {f : Nat → Bool} {n : Nat} (hn : n < 12) : (if f n = true then or32 (nset f n : Int) (shl32 1 (n : Int)) else (nset f n : Int)) = ((nset f (n + 1) : Nat) : Int) := by
  rw [← or_next hn]
  cases hf : f n with
  | true => simp
  | false =>
    have h1 := nset_lt12 f (Nat.le_of_lt hn)
    have := or32_nat (a := nset f n) (b := 0) (by omega) (by decide)
    simpa using this.symm
theorem IC.e8 {D : Mem} (hI : IC D) : D 12 8 = D 118 7 := hI.2.1.1.2.2.2.2.2.2.2.2.1
theorem IC.e1 {D : Mem} (hI : IC D) : D 12 1 = D 118 0 := hI.2.1.1.2.1
theorem IC.P {D : Mem} (hI : IC D) : (yP (yW (D 118)) : Int) = D 118 7 ∧ yP (yW (D 118)) ≤ 8 := hI.1.yok.P
theorem IC.N {D : Mem} (hI : IC D) : (yN (yW (D 118)) : Int) = D 118 0 ∧ yN (yW (D 118)) ≤ 12 := hI.1.yok.N
theorem ag_groans {D : Mem} {x : Int} (hI : IC D) (hx : A32 x) : AGp D (f9_groans D x) (f10_groans D x) := by
  refine ag_night hI hx (fun n e hn b hb => ?_)
  subst e
  have h12 := hI.night hn
  have hP := hI.P
  have hYok := hI.1.yok
  refine wp_pos (by omega) (wpo_of ?_)
  refine wp_bind.mpr (wpo_mono (P := fun v => v = ygroan (yW (D 118)) n) ?_ ?_)
  · refine wp_for (I := fun k s => s = (sumN (fun p => if ywait (yW (D 118)) n p = true then ycost (yW (D 118)) p else 0) k, (k : Int))) (yP (yW (D 118))) ?_ ?_ FU 0 _ rfl (Nat.zero_le _) (by unfold FU; omega)
    · rintro k s hk rfl
      dsimp only
      refine wp_pos (by rw [hb.w 7]; exact (lt32 (by omega) (by omega)).mpr (by omega)) ?_
      refine wp_then (sp_waitsIn hYok hb.2 hn) (wp_then (sp_bit hP.2 hk) (wp_then (sp_costOf hYok hb.2.1 hk) (wp_then rfl (wpo_of ?_))))
      show (_, _) = (_, _)
      rw [sumN]
      congr 1
      congr 1
      split
      · rw [Int.one_mul]
      · rw [Int.zero_mul]
    · rintro s rfl
      dsimp only
      exact wp_neg (by rw [hb.w 7]; exact fun z => absurd ((lt32 (by omega) (by omega)).mp z) (by omega)) (wpo_of rfl)
  · rintro v rfl
    refine wpo_of ⟨?_, hb.1⟩
    rw [Int.toNat_natCast]
    exact congrArg w32 (hI.2.2.2.1 n hn).2.2.2.1
def ylast (g : Nat → Int) : Nat → Int
  | 0 => -1
  | k + 1 => max (ylast g k) (g k)
theorem ylast_bd {g : Nat → Int} {n : Nat} (h : ∀ i, i < n → -1 ≤ g i ∧ g i ≤ 12) : -1 ≤ ylast g n ∧ ylast g n ≤ 12 := by
  induction n with
  | zero => exact ⟨Int.le_refl _, by show (-1 : Int) ≤ 12; decide⟩
  | succ n ih =>
    have h1 := ih (fun i hi => h i (Nat.lt_succ_of_lt hi))
    have h2 := h n (Nat.lt_succ_self n)
    rw [ylast]
    omega
theorem yg_bd {Y : Mem} (hY : YOK Y) (p : Nat) : -1 ≤ (yst Y (yN Y)).1 p ∧ (yst Y (yN Y)).1 p ≤ 12 := by
  have hN := hY.N
  have h : (yst Y (yN Y)).1 p = -1 ∨ (0 ≤ (yst Y (yN Y)).1 p ∧ (yst Y (yN Y)).1 p < yN Y ∧ Y 3 p ≤ (yst Y (yN Y)).1 p ∧ p < yP Y) := yst_gives
  omega
theorem ag_last {D : Mem} (hI : IC D) : AGp D (f9_last D) (f10_last D) := by
  refine ag_there hI (fun _ b hb => ?_)
  have hP := hI.P
  have hg := fun p => yg_bd hI.1.yok p
  refine wp_bind.mpr ?_
  simp only [wp_some]
  refine wpo_mono (P := fun v => v = ylast (yst (yW (D 118)) (yN (yW (D 118)))).1 (yP (yW (D 118)))) ?_ ?_
  · refine wp_for (I := fun k s => s = (ylast (yst (yW (D 118)) (yN (yW (D 118)))).1 k, (k : Int))) (yP (yW (D 118))) ?_ ?_ FU 0 _ rfl (Nat.zero_le _) (by unfold FU; omega)
    · rintro k s hk rfl
      dsimp only
      have hl := ylast_bd (g := (yst (yW (D 118)) (yN (yW (D 118)))).1) (n := k) (fun i _ => hg i)
      refine wp_pos (by rw [hI.e8]; exact (lt32 (by omega) (by omega)).mpr (by omega)) (wp_pos (by omega) (wp_then rfl (wpo_of ?_)))
      rw [Int.toNat_natCast, (hI.2.2.1 k hk).1, max32_id (by omega) (by have := hg k; omega)]
      rfl
    · rintro s rfl
      dsimp only
      exact wp_neg (by rw [hI.e8]; exact fun z => absurd ((lt32 (by omega) (by omega)).mp z) (by omega)) (wpo_of rfl)
  · rintro v rfl
    refine wp_bind.mpr (wpo_mono (P := fun v => v = ylast (yst (yW (D 118)) (yN (yW (D 118)))).1 (yP (yW (D 118)))) ?_ (fun v hv => wpo_of ⟨by rw [hv], hb.1⟩))
    refine wp_for (I := fun k s => s = (ylast (yst (yW (D 118)) (yN (yW (D 118)))).1 k, (k : Int))) (yP (yW (D 118))) ?_ ?_ FU 0 _ rfl (Nat.zero_le _) (by unfold FU; omega)
    · rintro k s hk rfl
      dsimp only
      have hl := ylast_bd (g := (yst (yW (D 118)) (yN (yW (D 118)))).1) (n := k) (fun i _ => hg i)
      refine wp_pos (by rw [hb.w 7]; exact (lt32 (by omega) (by omega)).mpr (by omega)) (wp_pos (by omega) (wp_then rfl (wpo_of ?_)))
      rw [Int.toNat_natCast, hb.2.2.1 k hk, max32_id (by omega) (by have := hg k; omega)]
      rfl
    · rintro s rfl
      dsimp only
      exact wp_neg (by rw [hb.w 7]; exact fun z => absurd ((lt32 (by omega) (by omega)).mp z) (by omega)) (wpo_of rfl)
theorem ag_kept {D : Mem} (hI : IC D) : AGp D (f9_kept D) (f10_kept D) := by
  refine ag_there hI (fun _ b hb => ?_)
  have hP := hI.P
  have hg := fun p => yg_bd hI.1.yok p
  refine wp_bind.mpr ?_
  simp only [wp_some]
  refine wpo_mono (P := fun v => v = ((nset (fun p => decide ((yst (yW (D 118)) (yN (yW (D 118)))).1 p = -1)) (yP (yW (D 118))) : Nat) : Int)) ?_ ?_
  · refine wp_for (I := fun k s => s = (((nset (fun p => decide ((yst (yW (D 118)) (yN (yW (D 118)))).1 p = -1)) k : Nat) : Int), (k : Int))) (yP (yW (D 118))) ?_ ?_ FU 0 _ rfl (Nat.zero_le _) (by unfold FU; omega)
    · rintro k s hk rfl
      dsimp only
      refine wp_pos (by rw [hI.e8]; exact (lt32 (by omega) (by omega)).mpr (by omega)) (wp_pos (by omega) ?_)
      refine wp_then (a := ((nset (fun p => decide ((yst (yW (D 118)) (yN (yW (D 118)))).1 p = -1)) (k + 1) : Nat) : Int)) ?_ (wpo_of rfl)
      rw [← or_next2 (by omega), Int.toNat_natCast, (hI.2.2.1 k hk).1]
      have hgk := hg k
      refine wp_is ?_
      by_cases c : (yst (yW (D 118)) (yN (yW (D 118)))).1 k = -1
      · exact wp_pos (by rw [c]) (wpo_of (by rw [if_pos (by simp [c])]))
      · exact wp_neg (fun z => c ((eq32 (by omega) (by omega)).mp z)) (wpo_of (by rw [if_neg (by simp [c])]))
    · rintro s rfl
      dsimp only
      exact wp_neg (by rw [hI.e8]; exact fun z => absurd ((lt32 (by omega) (by omega)).mp z) (by omega)) (wpo_of rfl)
  · rintro v rfl
    exact wp_then (sp_givenIn hI.1.yok hb.2 (by omega)) (wpo_of ⟨rfl, hb.1⟩)
def yworst (f : Nat → Int) : Nat → Int × Int
  | 0 => (-1, 0)
  | k + 1 => if (yworst f k).2 < f k then ((k : Int), f k) else yworst f k
theorem yworst_bd {f : Nat → Int} {n : Nat} {hi : Int} (h0 : 0 ≤ hi) (h : ∀ i, i < n → 0 ≤ f i ∧ f i ≤ hi) : 0 ≤ (yworst f n).2 ∧ (yworst f n).2 ≤ hi := by
  induction n with
  | zero => exact ⟨Int.le_refl _, h0⟩
  | succ n ih =>
    have h1 := ih (fun i hi => h i (Nat.lt_succ_of_lt hi))
    have h2 := h n (Nat.lt_succ_self n)
    rw [yworst]
    split
    · exact h2
    · exact h1
theorem ag_worst {D : Mem} (hI : IC D) : AGp D (f9_worst D) (f10_worst D) := by
  refine ag_there hI (fun _ b hb => ?_)
  have hP := hI.P
  have hY := hI.1.yok
  refine wp_bind.mpr ?_
  simp only [wp_some]
  refine wpo_mono (P := fun v => v = (yworst (ybears (yW (D 118)) (yN (yW (D 118)))) (yP (yW (D 118)))).1) ?_ ?_
  · refine wp_for (I := fun k s => s = ((yworst (ybears (yW (D 118)) (yN (yW (D 118)))) k).1, (yworst (ybears (yW (D 118)) (yN (yW (D 118)))) k).2, (k : Int))) (yP (yW (D 118))) ?_ ?_ FU 0 _ rfl (Nat.zero_le _) (by unfold FU; omega)
    · rintro k s hk rfl
      dsimp only
      have hw := yworst_bd (f := ybears (yW (D 118)) (yN (yW (D 118)))) (n := k) (hi := 2160) (by decide) (fun i hi => ybears_bd hY (by omega))
      have hbk := ybears_bd hY hk
      refine wp_pos (by rw [hI.e8]; exact (lt32 (by omega) (by omega)).mpr (by omega)) (wp_pos (by omega) ?_)
      refine wp_then (a := yworst (ybears (yW (D 118)) (yN (yW (D 118)))) (k + 1)) ?_ (wpo_of (by show (_, _, _) = (_, _, _); rfl))
      rw [Int.toNat_natCast, (hI.2.2.1 k hk).2, yworst]
      refine wp_is ?_
      by_cases c : (yworst (ybears (yW (D 118)) (yN (yW (D 118)))) k).2 < ybears (yW (D 118)) (yN (yW (D 118))) k
      · exact wp_pos ((lt32 (by omega) (by omega)).mpr c) (wp_then rfl (wpo_of (by rw [if_pos c])))
      · exact wp_neg (fun z => c ((lt32 (by omega) (by omega)).mp z)) (wpo_of (by rw [if_neg c]))
    · rintro s rfl
      dsimp only
      exact wp_neg (by rw [hI.e8]; exact fun z => absurd ((lt32 (by omega) (by omega)).mp z) (by omega)) (wpo_of rfl)
  · rintro v rfl
    refine wp_bind.mpr (wpo_mono (P := fun v => v = (yworst (ybears (yW (D 118)) (yN (yW (D 118)))) (yP (yW (D 118)))).1) ?_ (fun v hv => wpo_of ⟨by rw [hv], hb.1⟩))
    refine wp_for (I := fun k s => s = ((yworst (ybears (yW (D 118)) (yN (yW (D 118)))) k).1, (yworst (ybears (yW (D 118)) (yN (yW (D 118)))) k).2, (k : Int))) (yP (yW (D 118))) ?_ ?_ FU 0 _ rfl (Nat.zero_le _) (by unfold FU; omega)
    · rintro k s hk rfl
      dsimp only
      have hw := yworst_bd (f := ybears (yW (D 118)) (yN (yW (D 118)))) (n := k) (hi := 2160) (by decide) (fun i hi => ybears_bd hY (by omega))
      have hbk := ybears_bd hY hk
      have hsb := sp_bearsOf hY hb.2 hk
      refine wp_pos (by rw [hb.w 7]; exact (lt32 (by omega) (by omega)).mpr (by omega)) ?_
      refine wp_then hsb ?_
      refine wp_then (a := yworst (ybears (yW (D 118)) (yN (yW (D 118)))) (k + 1)) ?_ (wpo_of (by show (_, _, _) = (_, _, _); rfl))
      rw [yworst]
      refine wp_is ?_
      by_cases c : (yworst (ybears (yW (D 118)) (yN (yW (D 118)))) k).2 < ybears (yW (D 118)) (yN (yW (D 118))) k
      · exact wp_pos ((lt32 (by omega) (by omega)).mpr c) (wp_then hsb (wpo_of (by rw [if_pos c])))
      · exact wp_neg (fun z => c ((lt32 (by omega) (by omega)).mp z)) (wpo_of (by rw [if_neg c]))
    · rintro s rfl
      dsimp only
      exact wp_neg (by rw [hb.w 7]; exact fun z => absurd ((lt32 (by omega) (by omega)).mp z) (by omega)) (wpo_of rfl)
-- the first night of which something holds
def First (N : Nat) (P : Nat → Prop) (v : Int) : Prop := (v = -1 ∧ ∀ n, n < N → ¬ P n) ∨ (∃ m : Nat, m < N ∧ v = (m : Int) ∧ P m ∧ ∀ j, j < m → ¬ P j)
theorem First.uniq {N : Nat} {P : Nat → Prop} {v w : Int} (h : First N P v) (h' : First N P w) : v = w := by
  rcases h with ⟨h1, h2⟩ | ⟨m, h1, h2, h3, h4⟩ <;> rcases h' with ⟨k1, k2⟩ | ⟨m', k1, k2, k3, k4⟩
  · rw [h1, k1]
  · exact absurd k3 (h2 m' k1)
  · exact absurd h3 (k2 m h1)
  · have : m = m' := by
      rcases Nat.lt_trichotomy m m' with h | h | h
      · exact absurd h3 (k4 m h)
      · exact h
      · exact absurd k3 (h4 m' h)
    rw [h2, k2, this]
theorem First.mono {N : Nat} {P Q : Nat → Prop} {v : Int} (h : First N P v) (hq : ∀ n, n < N → (P n ↔ Q n)) : First N Q v := by
  rcases h with ⟨h1, h2⟩ | ⟨m, h1, h2, h3, h4⟩
  · exact Or.inl ⟨h1, fun n hn hx => h2 n hn ((hq n hn).mpr hx)⟩
  · exact Or.inr ⟨m, h1, h2, (hq m h1).mp h3, fun j hj hx => h4 j hj ((hq j (by omega)).mpr hx)⟩
theorem yfeast_first {Y : Mem} (n : Nat) : First n (fun j => (yst Y (j + 1)).2.2 = Y 0 5) (yfeast Y n) := by
  induction n with
  | zero => exact Or.inl ⟨rfl, fun n hn => absurd hn (Nat.not_lt_zero _)⟩
  | succ n ih =>
    rw [yfeast]
    by_cases c : yfeast Y n = -1 ∧ (yst Y (n + 1)).2.2 = Y 0 5
    · rw [if_pos c]
      refine Or.inr ⟨n, Nat.lt_succ_self n, rfl, c.2, ?_⟩
      rcases ih with ⟨-, h2⟩ | ⟨m, -, h2, -⟩
      · exact h2
      · have := c.1
        omega
    · rw [if_neg c]
      rcases ih with ⟨h1, h2⟩ | ⟨m, h1, h2, h3, h4⟩
      · refine Or.inl ⟨h1, fun k hk hx => ?_⟩
        by_cases hkn : k = n
        · subst hkn
          exact c ⟨h1, hx⟩
        · exact h2 k (by omega) hx
      · exact Or.inr ⟨m, by omega, h2, h3, h4⟩
theorem sp_nightOfTooth {D : Mem} {x : Int} (hI : IC D) (hx : 0 ≤ x ∧ x ≤ 20) : wpo (f9_nightOfTooth D x) (fun v => First (yN (yW (D 118))) (fun j => x ≤ (yst (yW (D 118)) (j + 1)).2.2) v) := by
  have hN := hI.N
  have hY := hI.1.yok
  have hb := hI.1.bd
  have h1 := hI.1.1
  unfold f9_nightOfTooth
  refine wp_bind.mpr (wpo_mono (P := fun z => wpo (Sum.elim (fun (_ : Unit) => some (-1)) (fun rv => some rv) z) (fun v => First (yN (yW (D 118))) (fun j => x ≤ (yst (yW (D 118)) (j + 1)).2.2) v)) ?_ (fun z hz => hz))
  refine wp_for (I := fun k s => s = (k : Int) ∧ ∀ j, j < k → ¬ x ≤ (yst (yW (D 118)) (j + 1)).2.2) (yN (yW (D 118))) ?_ ?_ FU 0 _ ⟨rfl, fun j hj => absurd hj (Nat.not_lt_zero _)⟩ (Nat.zero_le _) (by unfold FU; omega)
  · rintro k s hk ⟨rfl, hno⟩
    have hc : D 35 k = (yst (yW (D 118)) (k + 1)).2.2 := (hI.2.2.2.1 k hk).2.2.2.2.2
    have hcb := (yst_bd hY (show 1 ≤ yW (D 118) 0 4 by show 1 ≤ D 118 2; omega) (k + 1)).2
    have h5 : yW (D 118) 0 5 ≤ 20 := hY.2.2.2.2.2.1.2
    refine wp_pos (by rw [hI.e1]; exact (lt32 (by omega) (by omega)).mpr (by omega)) (wp_pos (by omega) ?_)
    rw [Int.toNat_natCast, hc]
    by_cases c : (yst (yW (D 118)) (k + 1)).2.2 < x
    · refine wp_pos ((lt32 (by omega) (by omega)).mpr c) (wpo_of ⟨by omega, fun j hj => ?_⟩)
      by_cases hjk : j = k
      · subst hjk
        omega
      · exact hno j (by omega)
    · refine wp_neg (fun z => c ((lt32 (by omega) (by omega)).mp z)) (wpo_of (wpo_of ?_))
      exact Or.inr ⟨k, hk, rfl, by omega, hno⟩
  · rintro s ⟨rfl, hno⟩
    refine wp_neg (by rw [hI.e1]; exact fun z => absurd ((lt32 (by omega) (by omega)).mp z) (by omega)) (wpo_of (wpo_of ?_))
    exact Or.inl ⟨rfl, hno⟩
theorem ag_feast {D : Mem} (hI : IC D) : AGp D (f9_feast D) (f10_feast D) := by
  refine ag_there hI (fun hN1 b hb => ?_)
  have hY := hI.1.yok
  have hbd := hI.1.bd
  have h1 := hI.1.1
  have e4 : D 12 4 = D 118 3 := hI.2.1.1.2.2.2.2.1
  rw [yN_W] at hN1
  refine wp_bind.mpr (wpo_mono (sp_nightOfTooth hI (x := D 12 4) (by omega)) (fun v hv => wpo_of (wpo_of ⟨?_, hb.1⟩)))
  dsimp only
  rw [hb.2.2.2.2]
  have hm : First (yN (yW (D 118))) (fun j => (yst (yW (D 118)) (j + 1)).2.2 = yW (D 118) 0 5) v := hv.mono (fun n hn => by
    have hcb := (yst_bd hY (show 1 ≤ yW (D 118) 0 4 by show 1 ≤ D 118 2; omega) (n + 1)).2
    have e5 : yW (D 118) 0 5 = D 12 4 := e4.symm
    omega)
  rw [hm.uniq (yfeast_first _)]
