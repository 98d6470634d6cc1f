/-! SHARES: fair, leave (by hand) -/
/-- a row of shares -/
def GS (D : Mem) (s : Nat) : Prop := s < 4 ∧ 0 < D 118 9 ∧ D (109 + 2 * s) 0 = 1 ∧ D 143 s = D 118 7 ∧ D (109 + 2 * s) 2 = D 118 7 ∧ ∀ k, k < yP (yW (D 118)) → 0 ≤ slN D s k ∧ slN D s k ≤ 999
theorem sp_troubleOfShares {D : Mem} {x : Int} (hI : IC D) (hS : IS D) (hx : A32 x) : wpo (f9_troubleOfShares D x) (fun v => (v = 0 ∧ ∃ s : Nat, x = (s : Int) ∧ GS D s) ∨ ((v = -2 ∨ v = -6) ∧ wpo (f10_askShares D x) (fun r => r.1 = v ∧ SK D r.2))) := by
  have hb := hI.1.bd
  have hP := hI.P
  have e7 := hI.e8
  unfold f9_troubleOfShares
  refine wp_bind.mpr (wpo_mono (sp_troubleOfRow hI hS hx) ?_)
  rintro v (⟨rfl, s, h4, rfl, c2, h1, l1, l2, l3⟩ | ⟨rfl, s, h4, rfl, c2, h1⟩ | ⟨rfl, hn⟩)
  · refine wp_pos (by decide) (wp_pos (by omega) ?_)
    rw [Int.toNat_natCast, l3, e7]
    have pre : ∀ (K : Option (Int × Mem)) (Q : Int × Mem → Prop), wpo K Q → wpo (Option.bind (f10_isSlot D (s : Int)) fun (a1 : Int) => if w32 a1 = 0 then some ((-2), D) else Option.bind (f10_isParish D) fun (a2 : Int) => if w32 a2 = 0 then some ((-2), D) else if 0 ≤ (s : Int) ∧ (s : Int) < 4 then (if w32 (D 143 (s : Int).toNat) = w32 (-1) then some ((-6), D) else K) else none) Q := fun K Q h =>
      wp_then (sp_slot10 hx) (wp_neg (fun z => if01.mp z (by omega)) (wp_then (sp_there10 hI SK.rf) (wp_neg (fun z => if01.mp z c2) (wp_pos (by omega) (wp_neg (by rw [Int.toNat_natCast]; exact fun q => absurd ((eq32 (by omega) (by omega)).mp q) (by omega)) h)))))
    by_cases c3 : D 143 s = D 118 7
    · refine wp_pos (by rw [c3]) ?_
      have bad : ∀ k, k < yP (yW (D 118)) → ¬ (0 ≤ slN D s k ∧ slN D s k ≤ 999) → wpo (f10_askShares D (s : Int)) (fun r => r.1 = -2 ∧ SK D r.2) := by
        intro k0 hk0 hbad
        unfold f10_askShares
        refine pre _ _ ?_
        rw [Int.toNat_natCast]
        refine wp_pos (by rw [c3]) ?_
        refine wp_bind.mpr (wpo_mono (P := fun z => z = Sum.inr (-2, D)) ?_ (fun z hz => by subst hz; exact wpo_of ⟨rfl, SK.rf⟩))
        refine wp_for (I := fun k t => t = (k : Int) ∧ ∀ j, j < k → 0 ≤ slN D s j ∧ slN D s j ≤ 999) (yP (yW (D 118))) ?_ ?_ FU 0 _ ⟨rfl, fun j hj => absurd hj (Nat.not_lt_zero _)⟩ (Nat.zero_le _) (by unfold FU; omega)
        · rintro k t hk ⟨rfl, hno⟩
          obtain ⟨-, b1⟩ := slN_bd hS h4 (i := k) (by omega)
          unfold A64 at b1
          refine wp_pos (by rw [c3]; exact (lt32 (by omega) (by omega)).mpr (by omega)) (wp_then (sp_numberAt SK.rf h4 (i := k) (by omega)) (wp_then (sp_in b1 (by omega) (by omega)) ?_))
          by_cases d1 : 0 ≤ slN D s k ∧ slN D s k ≤ 999
          · refine wp_neg (fun z => if01.mp z d1) (wpo_of ⟨by omega, fun j hj => ?_⟩)
            by_cases hjk : j = k
            · rw [hjk]
              exact d1
            · exact hno j (by omega)
          · exact wp_pos (if01.mpr d1) (wpo_of rfl)
        · rintro t ⟨rfl, hno⟩
          exact absurd (hno k0 hk0) hbad
      refine wp_bind.mpr (wpo_mono (P := fun z => wpo (Sum.elim (fun (_ : Unit) => some 0) (fun rv => some rv) z) (fun v => (v = 0 ∧ ∃ s' : Nat, (s : Int) = (s' : Int) ∧ GS D s') ∨ ((v = -2 ∨ v = -6) ∧ wpo (f10_askShares D (s : Int)) (fun r => r.1 = v ∧ SK D r.2)))) ?_ (fun z hz => hz))
      refine wp_for (I := fun k t => t = (k : Int) ∧ ∀ j, j < k → 0 ≤ slN D s j ∧ slN D s j ≤ 999) (yP (yW (D 118))) ?_ ?_ FU 0 _ ⟨rfl, fun j hj => absurd hj (Nat.not_lt_zero _)⟩ (Nat.zero_le _) (by unfold FU; omega)
      · rintro k t hk ⟨rfl, hno⟩
        refine wp_pos (by rw [c3]; exact (lt32 (by omega) (by omega)).mpr (by omega)) (wp_then (sp_isWithin hS h4 h1 (by omega) (by unfold A32; omega)) ?_)
        by_cases d1 : 0 ≤ slN D s k ∧ slN D s k ≤ 999
        · refine wp_neg (fun z => if01.mp z d1) (wpo_of ⟨by omega, fun j hj => ?_⟩)
          by_cases hjk : j = k
          · rw [hjk]
            exact d1
          · exact hno j (by omega)
        · exact wp_pos (if01.mpr d1) (wpo_of (wpo_of (Or.inr ⟨Or.inl rfl, bad k hk d1⟩)))
      · rintro t ⟨rfl, hno⟩
        exact wp_neg (by rw [c3]; exact fun q => absurd ((lt32 (by omega) (by omega)).mp q) (by omega)) (wpo_of (wpo_of (Or.inl ⟨rfl, s, rfl, h4, c2, h1, c3, by rw [l3, c3], hno⟩)))
    · refine wp_neg (fun z => c3 ((eq32 (by omega) (by omega)).mp z)) (wpo_of (Or.inr ⟨Or.inl rfl, ?_⟩))
      unfold f10_askShares
      refine pre _ _ ?_
      rw [Int.toNat_natCast]
      exact wp_neg (fun z => c3 ((eq32 (by omega) (by omega)).mp z)) (wpo_of ⟨rfl, SK.rf⟩)
  · refine wp_neg (by decide) (wpo_of (Or.inr ⟨Or.inr rfl, ?_⟩))
    unfold f10_askShares
    refine wp_then (sp_slot10 hx) (wp_neg (fun z => if01.mp z (by omega)) (wp_then (sp_there10 hI SK.rf) (wp_neg (fun z => if01.mp z c2) (wp_pos (by omega) (wp_pos ?_ (wpo_of ⟨rfl, SK.rf⟩))))))
    rw [Int.toNat_natCast, h1]
  · refine wp_neg (by decide) (wpo_of (Or.inr ⟨Or.inl rfl, ?_⟩))
    unfold f10_askShares
    refine wp_then (sp_slot10 hx) ?_
    by_cases c1 : 0 ≤ x ∧ x ≤ 3
    · exact wp_neg (fun z => if01.mp z c1) (wp_then (sp_there10 hI SK.rf) (wp_pos (if01.mpr (fun z => hn ⟨c1, z⟩)) (wpo_of ⟨rfl, SK.rf⟩)))
    · exact wp_pos (if01.mpr c1) (wpo_of ⟨rfl, SK.rf⟩)
theorem sp_askShares {D M : Mem} {s : Nat} (hI : IC D) (hS : IS D) (hG : GS D s) (hs : SX 64 66 D M) : wpo (f10_askShares M (s : Int)) (fun r => r.1 = 0 ∧ (∀ c i, ¬ scr c i → r.2 c i = M c i) ∧ TB (yW (D 118) 1) (yP (yW (D 118))) (yW (D 118) 0 1) (2 ^ yP (yW (D 118))) (r.2 141) ∧ ∀ s, s < 2 ^ yP (yW (D 118)) → 0 ≤ r.2 141 s ∧ r.2 141 s ≤ 1000000000) := by
  have hb := hI.1.bd
  have hP := hI.P
  have hw := hs.w (by decide)
  obtain ⟨g1, g2, g3, g4, g5, g6⟩ := hG
  have e143 : M 143 s = D 118 7 := (hs.keep (by omega) (by decide) s).trans g4
  unfold f10_askShares
  refine wp_then (sp_slot10 (by unfold A32; omega)) (wp_neg (fun z => if01.mp z (by omega)) (wp_then (sp_isParish (by rw [hw]; omega)) ?_))
  rw [hw]
  refine wp_neg (fun z => if01.mp z g2) (wp_pos (by omega) ?_)
  rw [Int.toNat_natCast, e143]
  refine wp_neg (fun q => absurd ((eq32 (by omega) (by omega)).mp q) (by omega)) (wp_pos rfl ?_)
  refine wp_bind.mpr (wpo_mono (P := fun z => z = Sum.inl ()) ?_ ?_)
  · refine wp_for (I := fun k t => t = (k : Int)) (yP (yW (D 118))) ?_ ?_ FU 0 _ rfl (Nat.zero_le _) (by unfold FU; omega)
    · rintro k t hk rfl
      have hv := g6 k hk
      have hn : f10_numberAt M (s : Int) (k : Int) = some (slN D s k) := by
        unfold f10_numberAt
        have et : (60 * (s : Int) + (k : Int)).toNat = 60 * s + k := by omega
        rw [if_pos (by omega), et, hs.keep (c := 145) (by omega) (by decide)]
        rfl
      refine wp_pos ((lt32 (by omega) (by omega)).mpr (by omega)) (wp_then hn (wp_then (sp_in (by omega) (by omega) (by omega)) ?_))
      exact wp_neg (fun z => if01.mp z hv) (wpo_of (by dsimp only; omega))
    · rintro t rfl
      exact wp_neg (fun q => absurd ((lt32 (by omega) (by omega)).mp q) (by omega)) (wpo_of rfl)
  · rintro z rfl
    show wpo (Option.bind (f10_asksBins M) _) _
    refine wp_bind.mpr (wpo_mono (sp_asksBins hI hs) ?_)
    rintro ⟨v, N⟩ ⟨-, n1, n2, n3⟩
    exact wpo_of ⟨rfl, n1, n2, n3⟩
/-- what a set pays -/
theorem pays_bd {D : Mem} {s t : Nat} (hG : GS D s) (hP : yP (yW (D 118)) ≤ 8) : 0 ≤ aS (slN D s) (yP (yW (D 118))) t ∧ aS (slN D s) (yP (yW (D 118))) t ≤ 7992 := by
  have := aS_bd (f := slN D s) (P := yP (yW (D 118))) (s := t) (hi := 999) (by decide) hG.2.2.2.2.2
  omega
theorem sp_paidBy {D M : Mem} {s t : Nat} (hI : IC D) (hS : IS D) (hG : GS D s) (hs : SX 64 66 D M) (ht : t < 256) : f1_paidBy M (109 + 2 * s) (t : Int) = some (aS (slN D s) (yP (yW (D 118))) t) := by
  have hP := hI.P
  obtain ⟨g1, g2, g3, g4, g5, g6⟩ := hG
  have e2 : M (109 + 2 * s) 2 = D 118 7 := (hs.keep (by omega) (by decide) 2).trans g5
  refine wp_is ?_
  unfold f1_paidBy
  refine wp_bind.mpr ?_
  simp only [wp_some]
  refine wp_for (I := fun k u => u = (sumN (fun p => if t.testBit p = true then slN D s p else 0) k, (k : Int))) (yP (yW (D 118))) ?_ ?_ FU 0 _ rfl (Nat.zero_le _) (by unfold FU; omega)
  · rintro k u hk rfl
    dsimp only
    have en : M (109 + 2 * s + 1) k = slN D s k := (hs.keep (by omega) (by decide) k).trans (slN_bd hS g1 (by omega)).1
    refine wp_pos (by rw [e2]; exact (lt32 (by omega) (by omega)).mpr (by omega)) (wp_pos ((lt32 (by omega) (by omega)).mpr (by omega)) ?_)
    refine wp_then (a := sumN (fun p => if t.testBit p = true then slN D s p else 0) (k + 1)) ?_ (wpo_of rfl)
    rw [sumN]
    refine wp_is ?_
    have hbit := bit8 ht (show k < 8 by omega)
    by_cases c : t.testBit k = true
    · refine wp_neg (by rw [hbit, if_pos c]; decide) (wp_pos (by omega) (wpo_of ?_))
      rw [Int.toNat_natCast, en, if_pos c]
    · exact wp_pos (by rw [hbit, if_neg c]; decide) (wpo_of (by rw [if_neg c, Int.add_zero]))
  · rintro u rfl
    dsimp only
    exact wp_neg (by rw [e2]; exact fun z => absurd ((lt32 (by omega) (by omega)).mp z) (by omega)) (wpo_of rfl)
theorem sp_sharesOf {D M : Mem} {s t : Nat} (hI : IC D) (hG : GS D s) (hs : SX 64 66 D M) (ht : t < 256) : f10_sharesOf M (s : Int) (t : Int) = some (aS (slN D s) (yP (yW (D 118))) t) := by
  have hP := hI.P
  have hw := hs.w (by decide)
  obtain ⟨g1, g2, g3, g4, g5, g6⟩ := hG
  refine wp_is ?_
  unfold f10_sharesOf
  refine wp_bind.mpr ?_
  simp only [wp_some]
  refine wp_for (I := fun k u => u = (sumN (fun p => if t.testBit p = true then slN D s p else 0) k, (k : Int))) (yP (yW (D 118))) ?_ ?_ FU 0 _ rfl (Nat.zero_le _) (by unfold FU; omega)
  · rintro k u hk rfl
    dsimp only
    have hn : f10_numberAt M (s : Int) (k : Int) = some (slN D s k) := by
      unfold f10_numberAt
      have et : (60 * (s : Int) + (k : Int)).toNat = 60 * s + k := by omega
      rw [if_pos (by omega), et, hs.keep (c := 145) (by omega) (by decide)]
      rfl
    have hbit : f10_bit M (t : Int) (k : Int) = some (if t.testBit k = true then 1 else 0) := by
      unfold f10_bit
      rw [bit8 ht (by omega)]
    refine wp_pos (by rw [hw]; exact (lt32 (by omega) (by omega)).mpr (by omega)) (wp_then hbit (wp_then hn (wp_then rfl (wpo_of ?_))))
    have e : (if t.testBit k = true then (1 : Int) else 0) * slN D s k = (if t.testBit k = true then slN D s k else 0) := by
      split
      · rw [Int.one_mul]
      · rw [Int.zero_mul]
    rw [e]
    rfl
  · rintro u rfl
    dsimp only
    exact wp_neg (by rw [hw]; exact fun z => absurd ((lt32 (by omega) (by omega)).mp z) (by omega)) (wpo_of rfl)
/-- a set that pays more than its cost -/
def LvP (D : Mem) (s : Nat) (C : Nat → Int) (t : Nat) : Prop := C t ≠ -1 ∧ D 118 5 * C t < aS (slN D s) (yP (yW (D 118))) t
theorem pay_bd {D : Mem} (hI : IC D) {v : Int} (hv : 0 ≤ v ∧ v ≤ 255) : 0 ≤ D 118 5 * v ∧ D 118 5 * v ≤ 25245 := by
  have hb := hI.1.bd
  have h1 : 0 ≤ D 118 5 * v := Int.mul_nonneg (by omega) hv.1
  have h2 : D 118 5 * v ≤ 99 * v := Int.mul_le_mul_of_nonneg_right (by omega) hv.1
  omega
theorem sp_leaver {D M : Mem} {s : Nat} (hI : IC D) (hS : IS D) (hG : GS D s) (hs : SX 64 66 D M) (h66 : ∀ t, t < 2 ^ yP (yW (D 118)) → -1 ≤ M 66 t ∧ M 66 t ≤ 255) : wpo (f1_leaver M (109 + 2 * s)) (fun v => First (2 ^ yP (yW (D 118))) (LvP D s (M 66)) v) := by
  have hP := hI.P
  have hpb := fun t => pays_bd (t := t) hG hP.2
  have h256 := pow8 hP.2
  have e8 : M 12 8 = (yP (yW (D 118)) : Int) := ((hs.keep (by omega) (by decide) 8).trans hI.e8).trans hP.1.symm
  have m6 : M 12 6 = D 118 5 := (hs.keep (by omega) (by decide) 6).trans hI.2.1.1.2.2.2.2.2.2.1
  unfold f1_leaver
  refine wp_then rfl ?_
  rw [e8, shl_one (by omega)]
  refine wp_bind.mpr (wpo_mono (P := fun z => wpo (Sum.elim (fun (_ : Unit) => some (-1)) (fun rv => some rv) z) (fun v => First (2 ^ yP (yW (D 118))) (LvP D s (M 66)) v)) ?_ (fun z hz => hz))
  refine wp_for (I := fun k t => t = (k : Int) ∧ ∀ j, j < k → ¬ LvP D s (M 66) j) (2 ^ yP (yW (D 118))) ?_ ?_ FU 0 _ ⟨rfl, fun j hj => absurd hj (Nat.not_lt_zero _)⟩ (Nat.zero_le _) (by unfold FU; omega)
  · rintro k t hk ⟨rfl, hno⟩
    have hv := h66 k hk
    have hpk := hpb k
    have next : ¬ LvP D s (M 66) k → ∀ j, j < k + 1 → ¬ LvP D s (M 66) j := fun h j hj => by
      by_cases e : j = k
      · rw [e]
        exact h
      · exact hno j (by omega)
    refine wp_pos ((lt32 (by omega) (by omega)).mpr (by omega)) (wp_then (sp_costOf1 (s := k) (by omega) rfl hv) ?_)
    by_cases c : M 66 k = -1
    · exact wp_pos (by rw [if_pos c]) (wpo_of ⟨by omega, next (fun z => z.1 c)⟩)
    · have hpb2 := pay_bd hI (v := M 66 k) (by omega)
      refine wp_neg (fun z => ?_) (wp_then (sp_paidBy hI hS hG hs (by omega)) ?_)
      · rw [if_neg c, m6] at z
        have := (eq32 (by omega) (by omega)).mp z
        omega
      · by_cases c2 : D 118 5 * M 66 k < aS (slN D s) (yP (yW (D 118))) k
        · refine wp_pos ?_ (wpo_of (wpo_of (Or.inr ⟨k, hk, rfl, ⟨c, c2⟩, hno⟩)))
          rw [if_neg c, m6]
          exact (lt32 (by omega) (by omega)).mpr c2
        · refine wp_neg (fun z => c2 ?_) (wpo_of ⟨by omega, next (fun z => c2 z.2)⟩)
          rw [if_neg c, m6] at z
          exact (lt32 (by omega) (by omega)).mp z
  · rintro t ⟨rfl, hno⟩
    exact wp_neg (fun z => absurd ((lt32 (by omega) (by omega)).mp z) (by omega)) (wpo_of (wpo_of (Or.inl ⟨rfl, hno⟩)))
theorem sp_leaveOf {D N : Mem} {s : Nat} {C : Nat → Int} (hI : IC D) (hG : GS D s) (hs : SX 64 66 D N) (hv : ∀ t, t < 2 ^ yP (yW (D 118)) → (C t = -1 ∧ N 141 t = 1000000000) ∨ (0 ≤ C t ∧ C t ≤ 255 ∧ N 141 t = C t)) : wpo (f10_leaveOf N (s : Int)) (fun v => First (2 ^ yP (yW (D 118))) (LvP D s C) v) := by
  have hP := hI.P
  have hpb := fun t => pays_bd (t := t) hG hP.2
  have h256 := pow8 hP.2
  have hw := hs.w (by decide)
  have hpos : 0 < 2 ^ yP (yW (D 118)) := Nat.two_pow_pos _
  unfold f10_leaveOf
  refine wp_bind.mpr (wpo_mono (P := fun z => wpo (Sum.elim (fun (_ : Unit) => some (-1)) (fun rv => some rv) z) (fun v => First (2 ^ yP (yW (D 118))) (LvP D s C) v)) ?_ (fun z hz => hz))
  refine wp_for (I := fun k t => t = (k : Int) ∧ ∀ j, j < k → ¬ LvP D s C j) (2 ^ yP (yW (D 118))) ?_ ?_ FU 0 _ ⟨rfl, fun j hj => absurd hj (Nat.not_lt_zero _)⟩ (Nat.zero_le _) (by unfold FU; omega)
  · rintro k t hk ⟨rfl, hno⟩
    have hvk := hv k hk
    have hpk := hpb k
    have next : ¬ LvP D s C k → ∀ j, j < k + 1 → ¬ LvP D s C j := fun h j hj => by
      by_cases e : j = k
      · rw [e]
        exact h
      · exact hno j (by omega)
    refine wp_then (sp_allP hP.2 (by rw [hw]; exact hP.1.symm)) (wp_neg (fun q => absurd ((lt32 (by omega) (by omega)).mp q) (by omega)) (wp_pos (by omega) ?_))
    rw [Int.toNat_natCast]
    rcases hvk with ⟨v1, v2⟩ | ⟨v1, v2, v3⟩
    · exact wp_neg (by rw [v2]; decide) (wpo_of ⟨by omega, next (fun z => z.1 v1)⟩)
    · have hpb2 := pay_bd hI (v := C k) (by omega)
      refine wp_pos (by rw [v3]; exact (lt32 (by omega) (by omega)).mpr (by omega)) (wp_then (sp_sharesOf hI hG hs (by omega)) ?_)
      by_cases c2 : D 118 5 * C k < aS (slN D s) (yP (yW (D 118))) k
      · refine wp_pos ?_ (wpo_of (wpo_of (Or.inr ⟨k, hk, rfl, ⟨by omega, c2⟩, hno⟩)))
        rw [v3, hw]
        exact (lt32 (by omega) (by omega)).mpr c2
      · refine wp_neg (fun z => c2 ?_) (wpo_of ⟨by omega, next (fun z => c2 z.2)⟩)
        rw [v3, hw] at z
        exact (lt32 (by omega) (by omega)).mp z
  · rintro t ⟨rfl, hno⟩
    exact wp_then (sp_allP hP.2 (by rw [hw]; exact hP.1.symm)) (wp_pos ((lt32 (by omega) (by omega)).mpr (by omega)) (wpo_of (wpo_of (Or.inl ⟨rfl, hno⟩))))
theorem ag_leave {D : Mem} {x : Int} (hI : IC D) (hS : IS D) (hK : KC D) (hx : A32 x) : AGc D (f9_leave D x) (fun M => f10_leave M x) := by
  have hP := hI.P
  have h256 := pow8 hP.2
  unfold AGc f9_leave f10_leave
  refine wp_bind.mpr (wpo_mono (sp_troubleOfShares hI hS hx) ?_)
  rintro v (⟨rfl, s, rfl, hG⟩ | ⟨hv, hr⟩)
  · have h4 := hG.1
    refine wp_pos (by decide) ?_
    refine wp_bind.mpr (wpo_mono (sp_workC hI hK (SK.rf.sx 64 66) rfl rfl) ?_)
    rintro M ⟨s1, k1, k2⟩
    refine wp_pos (by omega) ?_
    rw [Int.toNat_natCast]
    refine wp_bind.mpr (wpo_mono (sp_leaver hI hS hG s1 (fun t ht => by have := k2.2 t ht; omega)) ?_)
    intro a ha
    refine wpo_of ?_
    refine wp_bind.mpr (wpo_mono (sp_askShares hI hS hG s1) ?_)
    rintro ⟨v, N⟩ ⟨rfl, n1, n2, n3⟩
    dsimp only at n1 n2 n3 ⊢
    have sN := s1.scr n1
    refine wp_neg (by decide) ?_
    refine wp_bind.mpr (wpo_mono (sp_leaveOf (C := M 66) hI hG sN (fun t ht => cost_same hI k2 n2 ht)) ?_)
    intro b hb
    exact wpo_of ⟨by dsimp only; rw [ha.uniq hb], sN, KC.to (sN.w (by decide)) k1 k2 n1⟩
  · refine wp_neg (by rcases hv with rfl | rfl <;> decide) (wpo_of ?_)
    refine wp_bind.mpr (wpo_mono hr ?_)
    rintro r ⟨r1, r2⟩
    exact wp_pos (by rw [r1]; exact neg_lt hv) (wpo_of ⟨by dsimp only; rw [r1], r2.sx 64 66, hK.sk r2⟩)
theorem First.no {N : Nat} {P : Nat → Prop} {v : Int} (h : First N P v) (hN : N ≤ 256) : (w32 v = w32 (-1)) ↔ v = -1 := by
  rcases h with ⟨h, -⟩ | ⟨m, h1, h2, -⟩
  · rw [h]
    exact ⟨fun _ => rfl, fun _ => rfl⟩
  · exact eq32 (by omega) (by omega)
theorem ag_fair {D : Mem} {x : Int} (hI : IC D) (hS : IS D) (hK : KC D) (hx : A32 x) : AGc D (f9_fair D x) (fun M => f10_fair M x) := by
  have hP := hI.P
  have h256 := pow8 hP.2
  have hpos : 0 < 2 ^ yP (yW (D 118)) := Nat.two_pow_pos _
  unfold AGc f9_fair f10_fair
  refine wp_bind.mpr (wpo_mono (sp_troubleOfShares hI hS hx) ?_)
  rintro v (⟨rfl, s, rfl, hG⟩ | ⟨hv, hr⟩)
  · have h4 := hG.1
    refine wp_pos (by decide) ?_
    refine wp_bind.mpr (wpo_mono (sp_workC hI hK (SK.rf.sx 64 66) rfl rfl) ?_)
    rintro M ⟨s1, k1, k2⟩
    have e8 : M 12 8 = (yP (yW (D 118)) : Int) := ((s1.keep (by omega) (by decide) 8).trans hI.e8).trans hP.1.symm
    have m6 : M 12 6 = D 118 5 := (s1.keep (by omega) (by decide) 6).trans hI.2.1.1.2.2.2.2.2.2.1
    have ea : shl32 1 (M 12 8) - 1 = ((2 ^ yP (yW (D 118)) - 1 : Nat) : Int) := by
      rw [e8, shl_one (by omega)]
      omega
    have hCa := k2.2 (2 ^ yP (yW (D 118)) - 1) (by omega)
    have hpa := pays_bd (t := 2 ^ yP (yW (D 118)) - 1) hG hP.2
    refine wp_then rfl ?_
    rw [ea, Int.toNat_natCast]
    -- what the class says
    refine wpo_mono (P := fun a => a.2 = M ∧ ∃ f : Int, First (2 ^ yP (yW (D 118))) (LvP D s (M 66)) f ∧ a.1 = (if M 66 (2 ^ yP (yW (D 118)) - 1) ≠ -1 ∧ aS (slN D s) (yP (yW (D 118))) (2 ^ yP (yW (D 118)) - 1) = D 118 5 * M 66 (2 ^ yP (yW (D 118)) - 1) ∧ f = -1 then 1 else 0)) ?_ ?_
    · have hlv := sp_leaver hI hS hG s1 (fun t ht => by have := k2.2 t ht; omega)
      obtain ⟨f, hf1, hf2⟩ := hlv
      refine wp_then (sp_costOf1 (s := 2 ^ yP (yW (D 118)) - 1) (by omega) rfl (by omega)) ?_
      by_cases c : M 66 (2 ^ yP (yW (D 118)) - 1) = -1
      · refine wp_then (a := 0) (if_pos (by rw [if_pos c])) (wp_pos (by decide) (wpo_of ⟨rfl, f, hf2, ?_⟩))
        rw [if_neg (fun z => z.1 c)]
      · have hpb2 := pay_bd hI (v := M 66 (2 ^ yP (yW (D 118)) - 1)) (by omega)
        by_cases c2 : aS (slN D s) (yP (yW (D 118))) (2 ^ yP (yW (D 118)) - 1) = D 118 5 * M 66 (2 ^ yP (yW (D 118)) - 1)
        · refine wp_then (a := 1) ?_ (wp_neg (by decide) (wp_pos (by omega) (wp_then hf1 ?_)))
          · refine wp_is ?_
            refine wp_neg (fun z => ?_) (wp_pos (by omega) (wp_then (sp_paidBy hI hS hG s1 (by omega)) (wp_pos ?_ (wpo_of rfl))))
            · rw [if_neg c, m6] at z
              have := (eq32 (by omega) (by omega)).mp z
              omega
            · rw [if_neg c, m6, c2]
          · by_cases c3 : f = -1
            · exact wp_pos ((hf2.no h256).mpr c3) (wpo_of ⟨rfl, f, hf2, by rw [if_pos ⟨c, c2, c3⟩]⟩)
            · exact wp_neg (fun z => c3 ((hf2.no h256).mp z)) (wpo_of ⟨rfl, f, hf2, by rw [if_neg (fun z => c3 z.2.2)]⟩)
        · refine wp_then (a := 0) ?_ (wp_pos (by decide) (wpo_of ⟨rfl, f, hf2, by rw [if_neg (fun z => c2 z.2.1)]⟩))
          refine wp_is ?_
          refine wp_neg (fun z => ?_) (wp_pos (by omega) (wp_then (sp_paidBy hI hS hG s1 (by omega)) (wp_neg ?_ (wpo_of rfl))))
          · rw [if_neg c, m6] at z
            have := (eq32 (by omega) (by omega)).mp z
            omega
          · rw [if_neg c, m6]
            exact fun z => c2 ((eq32 (by omega) (by omega)).mp z)
    · rintro ⟨a1, a2⟩ ⟨ea, f, hf, ha⟩
      dsimp only at ea ha ⊢
      subst ea
      refine wp_bind.mpr (wpo_mono (sp_askShares hI hS hG s1) ?_)
      rintro ⟨v, N⟩ ⟨rfl, n1, n2, n3⟩
      dsimp only at n1 n2 n3 ⊢
      have sN := s1.scr n1
      have wN := sN.w (by decide)
      have ok : SX 64 66 D N ∧ KC N := ⟨sN, KC.to wN k1 k2 n1⟩
      have hal : f10_allPersons N = some (((2 ^ yP (yW (D 118)) - 1 : Nat) : Int)) := by
        rw [sp_allP hP.2 (by rw [wN]; exact hP.1.symm)]
        congr 1
        omega
      refine wp_neg (by decide) (wp_then hal (wp_pos (by omega) (wp_then rfl ?_)))
      rw [Int.toNat_natCast]
      have hv := cost_same hI k2 n2 (s := 2 ^ yP (yW (D 118)) - 1) (by omega)
      rcases hv with ⟨v1, v2⟩ | ⟨v1, v2, v3⟩
      · refine wp_neg (by rw [v2]; decide) (wpo_of ⟨?_, ok⟩)
        dsimp only
        rw [ha, if_neg (fun z => z.1 v1)]
      · have hpb2 := pay_bd hI (v := a2 66 (2 ^ yP (yW (D 118)) - 1)) (by omega)
        refine wp_pos (by rw [v3]; exact (lt32 (by omega) (by omega)).mpr (by omega)) (wp_then hal (wp_then (sp_sharesOf hI hG sN (by omega)) ?_))
        by_cases c2 : aS (slN D s) (yP (yW (D 118))) (2 ^ yP (yW (D 118)) - 1) = D 118 5 * a2 66 (2 ^ yP (yW (D 118)) - 1)
        · refine wp_pos (by rw [v3, wN, c2]) ?_
          refine wp_bind.mpr (wpo_mono (sp_leaveOf (C := a2 66) hI hG sN (fun t ht => cost_same hI k2 n2 ht)) ?_)
          intro b hb
          have hfb := hf.uniq hb
          by_cases c3 : b = -1
          · refine wp_pos ((hb.no h256).mpr c3) (wpo_of ⟨?_, ok⟩)
            dsimp only
            rw [ha, if_pos ⟨by omega, c2, by omega⟩]
          · refine wp_neg (fun z => c3 ((hb.no h256).mp z)) (wpo_of ⟨?_, ok⟩)
            dsimp only
            rw [ha, if_neg (fun z => c3 (by have := z.2.2; omega))]
        · refine wp_neg (fun z => c2 ?_) (wpo_of ⟨?_, ok⟩)
          · rw [v3, wN] at z
            exact (eq32 (by omega) (by omega)).mp z
          · dsimp only
            rw [ha, if_neg (fun z => c2 z.2.1)]
  · refine wp_neg (by rcases hv with rfl | rfl <;> decide) (wpo_of ?_)
    refine wp_bind.mpr (wpo_mono hr ?_)
    rintro r ⟨r1, r2⟩
    exact wp_pos (by rw [r1]; exact neg_lt hv) (wpo_of ⟨by dsimp only; rw [r1], r2.sx 64 66, hK.sk r2⟩)
