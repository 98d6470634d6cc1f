/-! CALLS OF THE YEAR AS IT IS: class and reference agree (by hand) -/
/-- a call that changes nothing of the class: both answer alike -/
def AGp (D : Mem) (x9 : Option Int) (x10 : Option (Int × Mem)) : Prop := wpo x9 (fun a => wpo x10 (fun b => w32 a = w32 b.1 ∧ SK D b.2))
theorem ag_person {D : Mem} {x : Int} {k9 : Option Int} {k10 : Int × Mem → Option (Int × Mem)} (hI : IC D) (hx : A32 x) (h : ∀ p : Nat, x = (p : Int) → p < yP (yW (D 118)) → ∀ b : Int × Mem, MA D b.2 → wpo k9 (fun a => wpo (k10 b) (fun b => w32 a = w32 b.1 ∧ SK D b.2))) :
    AGp D (Option.bind (f9_isPerson D x) fun (a1 : Int) => if w32 a1 = 0 then some (-2) else k9) (Option.bind (f10_asksPerson D x) fun (a1 : Int × Mem) => if w32 a1.1 = 0 then some ((-2), a1.2) else k10 a1) := by
  have hb := hI.1.bd
  have e8 : D 12 8 = D 118 7 := hI.2.1.1.2.2.2.2.2.2.2.2.1
  unfold AGp
  refine wp_then (sp_isPersonC (by omega) hx) ?_
  rw [e8]
  by_cases c : 0 ≤ x ∧ x < D 118 7
  · refine wp_neg (by rw [if_pos c]; decide) ?_
    have hp : x.toNat < yP (yW (D 118)) := by rw [yP_W]; omega
    have hxp : x = ((x.toNat : Nat) : Int) := by omega
    obtain ⟨b, hb1, hb2, hb3⟩ := sp_asksPerson (x := x) hI.1 hx
    refine wpo_mono (h x.toNat hxp hp b hb3) (fun a ha => ?_)
    refine wp_then hb1 (wp_neg (by rw [hb2, if_pos c]; decide) ha)
  · refine wp_pos (by rw [if_neg c]; decide) (wpo_of ?_)
    refine wp_bind.mpr (wpo_mono (sp_asksPerson hI.1 hx) (fun b hb => ?_))
    exact wp_pos (by rw [hb.1, if_neg c]; decide) (wpo_of ⟨rfl, hb.2.1⟩)
theorem ag_night {D : Mem} {x : Int} {k9 : Option Int} {k10 : Int × Mem → Option (Int × Mem)} (hI : IC D) (hx : A32 x) (h : ∀ n : Nat, x = (n : Int) → n < yN (yW (D 118)) → ∀ b : Int × Mem, MA D b.2 → wpo k9 (fun a => wpo (k10 b) (fun b => w32 a = w32 b.1 ∧ SK D b.2))) :
    AGp D (Option.bind (f9_isNight D x) fun (a1 : Int) => if w32 a1 = 0 then some (-2) else k9) (Option.bind (f10_asksNight D x) fun (a1 : Int × Mem) => if w32 a1.1 = 0 then some ((-2), a1.2) else k10 a1) := by
  have hb := hI.1.bd
  have e8 : D 12 1 = D 118 0 := hI.2.1.1.2.1
  unfold AGp
  refine wp_then (sp_isNightC (by omega) hx) ?_
  rw [e8]
  by_cases c : 0 ≤ x ∧ x < D 118 0
  · refine wp_neg (by rw [if_pos c]; decide) ?_
    have hp : x.toNat < yN (yW (D 118)) := by rw [yN_W]; omega
    have hxp : x = ((x.toNat : Nat) : Int) := by omega
    obtain ⟨b, hb1, hb2, hb3⟩ := sp_asksNight (x := x) hI.1 hx
    refine wpo_mono (h x.toNat hxp hp b hb3) (fun a ha => ?_)
    refine wp_then hb1 (wp_neg (by rw [hb2, if_pos c]; decide) ha)
  · refine wp_pos (by rw [if_neg c]; decide) (wpo_of ?_)
    refine wp_bind.mpr (wpo_mono (sp_asksNight hI.1 hx) (fun b hb => ?_))
    exact wp_pos (by rw [hb.1, if_neg c]; decide) (wpo_of ⟨rfl, hb.2.1⟩)
theorem ag_there {D : Mem} {k9 : Option Int} {k10 : Int × Mem → Option (Int × Mem)} (hI : IC D) (h : 1 ≤ yN (yW (D 118)) → ∀ b : Int × Mem, MA D b.2 → wpo k9 (fun a => wpo (k10 b) (fun b => w32 a = w32 b.1 ∧ SK D b.2))) :
    AGp D (Option.bind (f9_isThere D) fun (a1 : Int) => if w32 a1 = 0 then some (-2) else k9) (Option.bind (f10_asksParish D) fun (a1 : Int × Mem) => if w32 a1.1 = 0 then some ((-2), a1.2) else k10 a1) := by
  have hb := hI.1.bd
  have h1 := hI.1.1
  have e8 : D 12 0 = D 118 9 := hI.2.1.1.1
  unfold AGp
  refine wp_then (sp_isThere (by omega)) ?_
  rw [e8]
  by_cases c : 0 < D 118 9
  · refine wp_neg (by rw [if_pos c]; decide) ?_
    obtain ⟨b, hb1, hb2, hb3⟩ := sp_asksParish hI.1
    refine wpo_mono (h (by rw [yN_W]; omega) b hb3) (fun a ha => ?_)
    refine wp_then hb1 (wp_neg (by rw [hb2, if_pos c]; decide) ha)
  · refine wp_pos (by rw [if_neg c]; decide) (wpo_of ?_)
    refine wp_bind.mpr (wpo_mono (sp_asksParish hI.1) (fun b hb => ?_))
    exact wp_pos (by rw [hb.1, if_neg c]; decide) (wpo_of ⟨rfl, hb.2.1⟩)
theorem IC.night {D : Mem} (hI : IC D) {n : Nat} (hn : n < yN (yW (D 118))) : n < 12 := by
  have := hI.1.yok.N
  omega
theorem IC.person {D : Mem} (hI : IC D) {p : Nat} (hp : p < yP (yW (D 118))) : p < 8 := by
  have := hI.1.yok.P
  omega
theorem ag_gives {D : Mem} {x : Int} (hI : IC D) (hx : A32 x) : AGp D (f9_gives D x) (f10_gives D x) := by
  refine ag_person hI hx (fun p e hp b hb => ?_)
  subst e
  have := hI.person hp
  refine wp_pos (by omega) (wpo_of (wp_pos (by omega) (wpo_of ⟨?_, hb.1⟩)))
  rw [Int.toNat_natCast, (hI.2.2.1 p hp).1, hb.2.2.1 p hp]
theorem ag_bears {D : Mem} {x : Int} (hI : IC D) (hx : A32 x) : AGp D (f9_bears D x) (f10_bears D x) := by
  refine ag_person hI hx (fun p e hp b hb => ?_)
  subst e
  have := hI.person hp
  refine wp_pos (by omega) (wpo_of (wp_then (sp_bearsOf hI.1.yok hb.2 hp) (wpo_of ⟨?_, hb.1⟩)))
  rw [Int.toNat_natCast, (hI.2.2.1 p hp).2]
theorem ag_left {D : Mem} {x : Int} (hI : IC D) (hx : A32 x) : AGp D (f9_left D x) (f10_left D x) := by
  refine ag_night hI hx (fun n e hn b hb => ?_)
  subst e
  have := hI.night hn
  refine wp_pos (by omega) (wpo_of (wp_pos (by omega) (wpo_of ⟨?_, hb.1⟩)))
  rw [Int.toNat_natCast, (hb.2.2.2.1 n hn).1]
  exact congrArg w32 (hI.2.2.2.1 n hn).2.2.1
theorem ag_holds {D : Mem} {x : Int} (hI : IC D) (hx : A32 x) : AGp D (f9_holds D x) (f10_holds D x) := by
  refine ag_night hI hx (fun n e hn b hb => ?_)
  subst e
  have := hI.night hn
  refine wp_pos (by omega) (wpo_of (wp_pos (by omega) (wpo_of ⟨?_, hb.1⟩)))
  rw [Int.toNat_natCast, (hb.2.2.2.1 n hn).2.1]
  exact congrArg w32 (hI.2.2.2.1 n hn).2.2.2.2.1
theorem ag_cut {D : Mem} {x : Int} (hI : IC D) (hx : A32 x) : AGp D (f9_cut D x) (f10_cut D x) := by
  refine ag_night hI hx (fun n e hn b hb => ?_)
  subst e
  have := hI.night hn
  refine wp_pos (by omega) (wpo_of (wp_pos (by omega) (wpo_of ⟨?_, hb.1⟩)))
  rw [Int.toNat_natCast, (hb.2.2.2.1 n hn).2.2]
  exact congrArg w32 (hI.2.2.2.1 n hn).2.2.2.2.2
theorem ygave_end {Y : Mem} {n : Nat} (hn : n < yN Y) : nset (fun p => decide ((yst Y (yN Y)).1 p = (n : Int))) (yP Y) = nset (ygave Y n) (yP Y) :=
  nset_congr (fun p _ => decide_eq_decide.mpr (yst_gave (by omega)))
theorem ag_given {D : Mem} {x : Int} (hI : IC D) (hx : A32 x) : AGp D (f9_given D x) (f10_given D x) := by
  refine ag_night hI hx (fun n e hn b hb => ?_)
  subst e
  have := hI.night hn
  refine wp_pos (by omega) (wpo_of (wp_then (sp_givenIn hI.1.yok hb.2 (by omega)) (wpo_of ⟨?_, hb.1⟩)))
  rw [Int.toNat_natCast, ygave_end hn]
  exact congrArg w32 (hI.2.2.2.1 n hn).1
theorem andn_off {f g : Nat → Bool} {n : Nat} (hn : n ≤ 12) (h : ∀ i, i < n → f i = true → g i = false) : and32 ((nset f n : Nat) : Int) (xor32 ((nset g n : Nat) : Int) (-1)) = ((nset f n : Nat) : Int) := by
  have h1 := nset_lt12 f hn
  have h2 := nset_lt12 g hn
  rw [andn32_nat (by omega) (by omega)]
  congr 1
  apply Nat.eq_of_testBit_eq
  intro i
  have e : (2147483647 : Nat) = 2 ^ 31 - 1 := rfl
  rw [Nat.testBit_and, Nat.testBit_xor, e, Nat.testBit_two_pow_sub_one, nset_bit, nset_bit]
  by_cases hi : i < n
  · have h31 : i < 31 := by omega
    cases hf : f i with
    | false => simp
    | true => simp [hi, h31, h i hi hf]
  · simp [hi]
theorem ag_waits {D : Mem} {x : Int} (hI : IC D) (hx : A32 x) : AGp D (f9_waits D x) (f10_waits D x) := by
  refine ag_night hI hx (fun n e hn b hb => ?_)
  subst e
  have := hI.night hn
  have hP := hI.1.yok.P
  refine wp_pos (by omega) (wpo_of (wp_then (sp_waitsIn hI.1.yok hb.2 hn) (wp_then (sp_givenIn hI.1.yok hb.2 (by omega)) (wpo_of ⟨?_, hb.1⟩))))
  rw [Int.toNat_natCast, ygave_end hn]
  dsimp only
  rw [andn_off (by omega) (fun i hi hw => ?_)]
  · exact congrArg w32 (hI.2.2.2.1 n hn).2.1
  · simp only [ywait, decide_eq_true_eq] at hw
    simp only [ygave, decide_eq_false_iff_not]
    omega
theorem ag_all {D : Mem} (hI : IC D) : AGp D (f9_all D) (f10_all D) := by
  refine ag_there hI (fun _ b hb => ?_)
  refine wpo_of (wp_then (sp_bearsAll hI.1.yok hb.2) (wpo_of ⟨?_, hb.1⟩))
  rw [hI.2.2.2.2]
theorem ag_gap {D : Mem} {x : Int} (hI : IC D) (hx : A32 x) : AGp D (f9_gap D x) (f10_gap D x) := by
  refine ag_person hI hx (fun p e hp b hb => ?_)
  subst e
  have h8 := hI.person hp
  have e1 := (hI.2.2.1 p hp).1
  have e2 := hb.2.2.1 p hp
  have hp7 : (p : Int) < D 118 7 := by rw [yP_W] at hp; omega
  have e3 : D 14 p = wFrom (D 118) (wA (D 118)) p := (hI.2.1.2.1 p hp7).2.1
  have hA := hI.1.A
  have hf := wFrom_bd hI.1 hp7 (i := wA (D 118)) (by omega)
  have a3 := (hb.2.1.2.2.2.2.2.2.2.2 p hp).2.2.1
  have e4 : b.2 125 p = D 14 p := by
    rw [e3]
    have a3' : wFrom (D 118) (wA (D 118)) p = (if (p : Int) = b.2 117 21 then 100 else b.2 125 p) := a3
    by_cases hg : (p : Int) = b.2 117 21
    · rw [if_pos hg] at a3'
      omega
    · rw [if_neg hg] at a3'
      exact a3'.symm
  refine wp_pos (by omega) ?_
  rw [Int.toNat_natCast]
  by_cases c : w32 (D 28 p) = w32 (-1)
  · refine wp_pos c (wpo_of (wp_pos (by omega) ?_))
    exact wp_pos (by rw [e2, ← e1]; exact c) (wpo_of ⟨rfl, hb.1⟩)
  · refine wp_neg c (wpo_of (wp_pos (by omega) ?_))
    refine wp_neg (by rw [e2, ← e1]; exact c) (wpo_of ⟨?_, hb.1⟩)
    dsimp only
    rw [e1, e2, e4]
theorem ag_paid {D : Mem} (hI : IC D) : AGp D (f9_paid D) (f10_paid D) := by
  refine ag_there hI (fun hN b hb => ?_)
  have hbd := hI.1.bd
  have e1 : D 12 1 = D 118 0 := hI.2.1.1.2.1
  have e6 : D 12 6 = D 118 5 := hI.2.1.1.2.2.2.2.2.2.1
  rw [yN_W] at hN
  have hNN : (D 118 0 - 1).toNat < yN (yW (D 118)) := by rw [yN_W]; omega
  have ht : f8_teethCut D 23 = some (D 35 (D 118 0 - 1).toNat) := by
    refine wp_is ?_
    unfold f8_teethCut
    rw [e1]
    refine wp_pos (by rw [w32_id (by omega)]; omega) (wp_pos (by omega) (wpo_of rfl))
  refine wp_then ht (wpo_of ?_)
  have hn0 : f10_nights b.2 = some (D 118 0) := by
    show some (b.2 118 0) = _
    rw [hb.w 0]
  refine wp_then hn0 (wp_pos (by omega) (wpo_of ⟨?_, hb.1⟩))
  dsimp only
  rw [(hb.2.2.2.1 _ hNN).2.2, hb.w 5, e6, Int.mul_comm]
  exact congrArg (fun z => w32 (z * D 118 5)) (hI.2.2.2.1 _ hNN).2.2.2.2.2
