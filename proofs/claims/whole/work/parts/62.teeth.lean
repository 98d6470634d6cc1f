/-! ROWS OF TEETH: what is asked ahead of all (by hand) -/
def slN (D : Mem) (s i : Nat) : Int := D 145 (60 * s + i)
theorem IS.sk {D M : Mem} (h : IS D) (hs : SK D M) : IS M := fun s hs4 => by
  obtain ⟨h1, h2⟩ := h s hs4
  have k1 : ∀ c i, ((109 ≤ c ∧ c ≤ 116) ∨ (143 ≤ c ∧ c ≤ 145)) → M c i = D c i := fun c i hc => hs.keep (by omega) i
  refine ⟨?_, fun i hi => ?_⟩
  · rw [k1 _ _ (by omega), k1 _ _ (by omega), k1 _ _ (by omega), k1 _ _ (by omega), k1 _ _ (by omega)]
    exact h1
  · rw [k1 _ _ (by omega), k1 _ _ (by omega)]
    exact h2 i hi
theorem slN_bd {D : Mem} (hS : IS D) {s i : Nat} (hs : s < 4) (hi : i < 60) : D (109 + 2 * s + 1) i = slN D s i ∧ A64 (slN D s i) := ((hS s hs).2 i hi)
theorem sp_numberAt {D M : Mem} (hs : SK D M) {s i : Nat} (h4 : s < 4) (hi : i < 60) : f10_numberAt M (s : Int) (i : Int) = some (slN D s i) := by
  unfold f10_numberAt
  have et : (60 * (s : Int) + (i : Int)).toNat = 60 * s + i := by omega
  rw [if_pos (by omega), et, hs.keep (c := 145) (by omega)]
  rfl
theorem sp_isWithin {D : Mem} (hS : IS D) {s i : Nat} {m : Int} (h4 : s < 4) (h1 : D (109 + 2 * s) 0 = 1) (hi : (i : Int) < D 143 s) (hm : A32 m) : f5_isWithin D (109 + 2 * s) (i : Int) m = some (if 0 ≤ slN D s i ∧ slN D s i ≤ m then 1 else 0) := by
  unfold A32 at hm
  obtain ⟨hs1, -⟩ := hS s h4
  have hs1 : D (109 + 2 * s) 2 = D 143 s ∧ D 143 s ≤ 60 := by
    rcases hs1 with ⟨a1, -⟩ | ⟨-, a2, -, a4, -⟩
    · omega
    · exact ⟨a2, a4.2⟩
  obtain ⟨e, hb⟩ := slN_bd hS h4 (i := i) (by omega)
  unfold A64 at hb
  have w0 : w64 0 = 0 := by decide
  refine wp_is ?_
  unfold f5_isWithin
  refine wp_neg (by rw [w32_id (by omega)]; omega) (wp_pos (by rw [hs1.1]; exact (lt32 (by omega) (by omega)).mpr hi) (wp_pos (by omega) ?_))
  rw [Int.toNat_natCast, e, w32_id hm]
  by_cases c1 : slN D s i < 0
  · exact wp_pos (by rw [w64_id hb, w0]; exact c1) (wpo_of (by rw [if_neg (by omega)]))
  · refine wp_neg (by rw [w64_id hb, w0]; exact c1) ?_
    by_cases c2 : m < slN D s i
    · exact wp_pos (by rw [w64_id hb, w64_id (by omega)]; exact c2) (wpo_of (by rw [if_neg (by omega)]))
    · exact wp_neg (by rw [w64_id hb, w64_id (by omega)]; exact c2) (wpo_of (by rw [if_pos (by omega)]))
/-- what is wrong of a row, whatever it is for -/
theorem sp_troubleOfRow {D : Mem} {x : Int} (hI : IC D) (hS : IS D) (hx : A32 x) : wpo (f9_troubleOfRow D x) (fun v => (v = 0 ∧ ∃ s : Nat, s < 4 ∧ x = (s : Int) ∧ 0 < D 118 9 ∧ D (109 + 2 * s) 0 = 1 ∧ 0 ≤ D 143 s ∧ D 143 s ≤ 60 ∧ D (109 + 2 * s) 2 = D 143 s) ∨ (v = -6 ∧ ∃ s : Nat, s < 4 ∧ x = (s : Int) ∧ 0 < D 118 9 ∧ D 143 s = -1) ∨ (v = -2 ∧ ¬ ((0 ≤ x ∧ x ≤ 3) ∧ 0 < D 118 9))) := by
  unfold f9_troubleOfRow
  refine wp_then (sp_slot9 hx) ?_
  by_cases c1 : 0 ≤ x ∧ x ≤ 3
  · refine wp_neg (fun z => if01.mp z c1) (wp_then (sp_there9 hI) ?_)
    by_cases c2 : 0 < D 118 9
    · refine wp_neg (fun z => if01.mp z c2) (wp_pos (by omega) ?_)
      obtain ⟨s, rfl⟩ : ∃ s : Nat, x = (s : Int) := ⟨x.toNat, by omega⟩
      rw [Int.toNat_natCast]
      obtain ⟨hs1, -⟩ := hS s (by omega)
      rcases hs1 with ⟨a1, a2⟩ | ⟨a1, a2, a3, a4, a5⟩
      · exact wp_pos (by rw [a1]; decide) (wpo_of (Or.inr (Or.inl ⟨rfl, s, by omega, rfl, c2, a2⟩)))
      · exact wp_neg (by rw [a1]; decide) (wpo_of (Or.inl ⟨rfl, s, by omega, rfl, c2, a1, a4.1, a4.2, a2⟩))
    · exact wp_pos (if01.mpr c2) (wpo_of (Or.inr (Or.inr ⟨rfl, fun z => c2 z.2⟩)))
  · exact wp_pos (if01.mpr c1) (wpo_of (Or.inr (Or.inr ⟨rfl, fun z => c1 z.1⟩)))
/-- the k-th pair of a row tells a night and teeth -/
def VT (D : Mem) (s k : Nat) : Prop := (0 ≤ slN D s (2 * k) ∧ slN D s (2 * k) ≤ D 118 0 - 1) ∧ (0 ≤ slN D s (2 * k + 1) ∧ slN D s (2 * k + 1) ≤ 20)
/-- a row of teeth -/
def GT (D : Mem) (s L : Nat) : Prop := s < 4 ∧ 0 < D 118 9 ∧ D (109 + 2 * s) 0 = 1 ∧ L ≤ 30 ∧ D 143 s = 2 * (L : Int) ∧ D (109 + 2 * s) 2 = 2 * (L : Int) ∧ ∀ k, k < L → VT D s k
theorem sp_two {M : Mem} {n : Nat} (hn : n ≤ 60) : (w32 (rem32 (n : Int) 2) = 0) ↔ n % 2 = 0 := by
  rw [rem32_id (by omega) (by omega), w32_id (by omega)]
  omega
theorem sp_troubleOfTeeth {D : Mem} {x : Int} (hI : IC D) (hS : IS D) (hx : A32 x) : wpo (f9_troubleOfTeeth D x) (fun v => (v = 0 ∧ ∃ s L : Nat, x = (s : Int) ∧ GT D s L) ∨ ((v = -2 ∨ v = -6) ∧ ∀ M, SK D M → wpo (f10_layWhose M x) (fun r => r.1 = v ∧ SK D r.2))) := by
  have hb := hI.1.bd
  unfold f9_troubleOfTeeth
  refine wp_bind.mpr (wpo_mono (sp_troubleOfRow hI hS hx) ?_)
  rintro v (⟨rfl, s, h4, rfl, c2, h1, l1, l2, l3⟩ | ⟨rfl, s, h4, rfl, c2, h1⟩ | ⟨rfl, hn⟩)
  · refine wp_pos (by decide) (wp_pos (by omega) ?_)
    rw [Int.toNat_natCast, l3]
    obtain ⟨n, hn⟩ : ∃ n : Nat, D 143 s = (n : Int) := ⟨(D 143 s).toNat, by omega⟩
    have pre : ∀ (N : Mem) (K : Option (Int × Mem)) (Q : Int × Mem → Prop), SK D N → wpo K Q → wpo (Option.bind (f10_isSlot N (s : Int)) fun (a1 : Int) => if w32 a1 = 0 then some ((-2), N) else Option.bind (f10_isParish N) fun (a2 : Int) => if w32 a2 = 0 then some ((-2), N) else if 0 ≤ (s : Int) ∧ (s : Int) < 4 then (if w32 (N 143 (s : Int).toNat) = w32 (-1) then some ((-6), N) else K) else none) Q := fun N K Q hN h =>
      wp_then (sp_slot10 hx) (wp_neg (fun z => if01.mp z (by omega)) (wp_then (sp_there10 hI hN) (wp_neg (fun z => if01.mp z c2) (wp_pos (by omega) (wp_neg (by rw [Int.toNat_natCast, hN.keep (c := 143) (by omega)]; exact fun q => absurd ((eq32 (by omega) (by omega)).mp q) (by omega)) h)))))
    by_cases c3 : n % 2 = 0
    · obtain ⟨L, rfl⟩ : ∃ L, n = 2 * L := ⟨n / 2, by omega⟩
      have l5 : D (109 + 2 * s) 2 = 2 * (L : Int) := by rw [l3, hn]; omega
      refine wp_pos (by rw [hn]; exact (sp_two (M := D) (by omega)).mpr c3) ?_
      have hw1 : ∀ k, k < L → f5_isWithin D (109 + 2 * s) (2 * (k : Int)) (D 12 1 - 1) = some (if 0 ≤ slN D s (2 * k) ∧ slN D s (2 * k) ≤ D 118 0 - 1 then 1 else 0) := fun k hk => by
        have h := sp_isWithin hS (i := 2 * k) (m := D 12 1 - 1) h4 h1 (by rw [hn]; omega) (by rw [hI.e1]; unfold A32; omega)
        rw [hI.e1] at h ⊢
        exact h
      have hw2 : ∀ k, k < L → f5_isWithin D (109 + 2 * s) (2 * (k : Int) + 1) 20 = some (if 0 ≤ slN D s (2 * k + 1) ∧ slN D s (2 * k + 1) ≤ 20 then 1 else 0) := fun k hk =>
        sp_isWithin hS (i := 2 * k + 1) (m := 20) h4 h1 (by rw [hn]; omega) (by unfold A32; omega)
      have bad : ∀ k, k < L → ¬ VT D s k → ∀ M, SK D M → wpo (f10_layWhose M (s : Int)) (fun r => r.1 = -2 ∧ SK D r.2) := by
        intro k0 hk0 hbad M hM
        have e143 : M 143 s = ((2 * L : Nat) : Int) := by rw [hM.keep (c := 143) (by omega), hn]
        unfold f10_layWhose
        refine pre M _ _ hM ?_
        rw [Int.toNat_natCast, e143]
        refine wp_pos ((sp_two (M := D) (by omega)).mpr c3) ?_
        refine wp_bind.mpr (wpo_mono (P := fun z => z = Sum.inr (-2, M)) ?_ (fun z hz => by subst hz; exact wpo_of ⟨rfl, hM⟩))
        refine wp_for (I := fun k t => t = 2 * (k : Int) ∧ ∀ j, j < k → VT D s j) L ?_ ?_ FU 0 _ ⟨rfl, fun j hj => absurd hj (Nat.not_lt_zero _)⟩ (Nat.zero_le _) (by unfold FU; omega)
        · rintro k t hk ⟨rfl, hno⟩
          obtain ⟨-, b1⟩ := slN_bd hS h4 (i := 2 * k) (by omega)
          obtain ⟨-, b2⟩ := slN_bd hS h4 (i := 2 * k + 1) (by omega)
          unfold A64 at b1 b2
          have n1 : f10_numberAt M (s : Int) (2 * (k : Int)) = some (slN D s (2 * k)) := sp_numberAt hM h4 (i := 2 * k) (by omega)
          have n2 : f10_numberAt M (s : Int) (2 * (k : Int) + 1) = some (slN D s (2 * k + 1)) := sp_numberAt hM h4 (i := 2 * k + 1) (by omega)
          refine wp_pos ((lt32 (by omega) (by omega)).mpr (by omega)) (wp_then n1 (wp_then (sp_isNightM (by rw [hM.w]; omega) b1) ?_))
          rw [hM.w]
          by_cases d1 : 0 ≤ slN D s (2 * k) ∧ slN D s (2 * k) < D 118 0
          · refine wp_neg (fun z => if01.mp z d1) (wp_then n2 (wp_then (sp_in b2 (by omega) (by omega)) ?_))
            by_cases d2 : 0 ≤ slN D s (2 * k + 1) ∧ slN D s (2 * k + 1) ≤ 20
            · refine wp_neg (fun z => if01.mp z d2) (wpo_of ⟨by omega, fun j hj => ?_⟩)
              by_cases hjk : j = k
              · subst hjk
                exact ⟨by omega, d2⟩
              · exact hno j (by omega)
            · exact wp_pos (if01.mpr d2) (wpo_of rfl)
          · exact wp_pos (if01.mpr d1) (wpo_of rfl)
        · rintro t ⟨rfl, hno⟩
          exact absurd (hno k0 hk0) hbad
      refine wp_bind.mpr (wpo_mono (P := fun z => wpo (Sum.elim (fun (_ : Unit) => some 0) (fun rv => some rv) z) (fun v => (v = 0 ∧ ∃ s' L : Nat, (s : Int) = (s' : Int) ∧ GT D s' L) ∨ ((v = -2 ∨ v = -6) ∧ ∀ M, SK D M → wpo (f10_layWhose M (s : Int)) (fun r => r.1 = v ∧ SK D r.2)))) ?_ (fun z hz => hz))
      refine wp_for (I := fun k t => t = 2 * (k : Int) ∧ ∀ j, j < k → VT D s j) L ?_ ?_ FU 0 _ ⟨rfl, fun j hj => absurd hj (Nat.not_lt_zero _)⟩ (Nat.zero_le _) (by unfold FU; omega)
      · rintro k t hk ⟨rfl, hno⟩
        refine wp_pos (by rw [hn]; exact (lt32 (by omega) (by omega)).mpr (by omega)) (wp_then (hw1 k hk) ?_)
        by_cases d1 : 0 ≤ slN D s (2 * k) ∧ slN D s (2 * k) ≤ D 118 0 - 1
        · refine wp_neg (fun z => if01.mp z d1) (wp_then (hw2 k hk) ?_)
          by_cases d2 : 0 ≤ slN D s (2 * k + 1) ∧ slN D s (2 * k + 1) ≤ 20
          · refine wp_neg (fun z => if01.mp z d2) (wpo_of ⟨by omega, fun j hj => ?_⟩)
            by_cases hjk : j = k
            · subst hjk
              exact ⟨d1, d2⟩
            · exact hno j (by omega)
          · exact wp_pos (if01.mpr d2) (wpo_of (wpo_of (Or.inr ⟨Or.inl rfl, bad k hk (fun z => d2 z.2)⟩)))
        · exact wp_pos (if01.mpr d1) (wpo_of (wpo_of (Or.inr ⟨Or.inl rfl, bad k hk (fun z => d1 z.1)⟩)))
      · rintro t ⟨rfl, hno⟩
        exact wp_neg (by rw [hn]; exact fun q => absurd ((lt32 (by omega) (by omega)).mp q) (by omega)) (wpo_of (wpo_of (Or.inl ⟨rfl, s, L, rfl, h4, c2, h1, by omega, by rw [hn]; omega, l5, hno⟩)))
    · refine wp_neg (by rw [hn]; exact fun z => c3 ((sp_two (M := D) (by omega)).mp z)) (wpo_of (Or.inr ⟨Or.inl rfl, fun M hM => ?_⟩))
      unfold f10_layWhose
      refine pre M _ _ hM ?_
      rw [Int.toNat_natCast, hM.keep (c := 143) (by omega), hn]
      exact wp_neg (fun z => c3 ((sp_two (M := D) (by omega)).mp z)) (wpo_of ⟨rfl, hM⟩)
  · refine wp_neg (by decide) (wpo_of (Or.inr ⟨Or.inr rfl, fun M hM => ?_⟩))
    unfold f10_layWhose
    refine wp_then (sp_slot10 hx) (wp_neg (fun z => if01.mp z (by omega)) (wp_then (sp_there10 hI hM) (wp_neg (fun z => if01.mp z c2) (wp_pos (by omega) (wp_pos ?_ (wpo_of ⟨rfl, hM⟩))))))
    rw [Int.toNat_natCast, hM.keep (c := 143) (by omega), h1]
  · refine wp_neg (by decide) (wpo_of (Or.inr ⟨Or.inl rfl, fun M hM => ?_⟩))
    unfold f10_layWhose
    refine wp_then (sp_slot10 hx) ?_
    by_cases c1 : 0 ≤ x ∧ x ≤ 3
    · exact wp_neg (fun z => if01.mp z c1) (wp_then (sp_there10 hI hM) (wp_pos (if01.mpr (fun z => hn ⟨c1, z⟩)) (wpo_of ⟨rfl, hM⟩)))
    · exact wp_pos (if01.mpr c1) (wpo_of ⟨rfl, hM⟩)
