/-! SLOTS: row, write, paste, count (by hand) -/
def SLs (D : Mem) (s : Nat) : Prop := ((D (109 + 2 * s) 0 = 0 ∧ D 143 s = -1) ∨ (D (109 + 2 * s) 0 = 1 ∧ D (109 + 2 * s) 2 = D 143 s ∧ D (109 + 2 * s) 1 = D 144 s ∧ (0 ≤ D 143 s ∧ D 143 s ≤ 60) ∧ (0 ≤ D 144 s ∧ D 144 s ≤ 3))) ∧ ∀ i, i < 60 → D (109 + 2 * s + 1) i = D 145 (60 * s + i) ∧ -9223372036854775808 ≤ D 145 (60 * s + i) ∧ D 145 (60 * s + i) < 9223372036854775808
def IS (D : Mem) : Prop := ∀ s, s < 4 → SLs D s
/-- only slots have changed -/
def SF (D M : Mem) : Prop := ∀ c i, (c < 109 ∨ (116 < c ∧ c < 143) ∨ 146 < c) → M c i = D c i
theorem SF.rf {D : Mem} : SF D D := fun _ _ _ => rfl
def AGs (D : Mem) (x9 : Option (Int × Mem)) (x10 : Mem → Option (Int × Mem)) : Prop := wpo x9 (fun a => wpo (x10 a.2) (fun b => w32 a.1 = w32 b.1 ∧ IS b.2 ∧ SF D b.2))
theorem sp_slot9 {D : Mem} {y : Int} (hy : A32 y) : f9_isSlot D y = some (if 0 ≤ y ∧ y ≤ 3 then 1 else 0) := by
  unfold A32 at hy
  refine wp_is ?_
  unfold f9_isSlot
  by_cases c0 : y < 0
  · exact wp_pos (by rw [w32_id hy]; exact c0) (wpo_of (by rw [if_neg (by omega)]))
  · refine wp_neg (by rw [w32_id hy]; exact c0) ?_
    by_cases c1 : y < 4
    · exact wp_pos ((lt32 hy (by omega)).mpr c1) (wpo_of (by rw [if_pos (by omega)]))
    · exact wp_neg (fun z => c1 ((lt32 hy (by omega)).mp z)) (wpo_of (by rw [if_neg (by omega)]))
theorem sp_slot10 {D : Mem} {x : Int} (hx : A32 x) : f10_isSlot D x = some (if 0 ≤ x ∧ x ≤ 3 then 1 else 0) := by
  unfold A32 at hx
  refine wp_is ?_
  unfold f10_isSlot
  rw [w32_id hx]
  refine wp_then (sp_in (by omega) (by omega) (by omega)) ?_
  exact wp_pos (by split <;> omega) (wpo_of rfl)
/-- a part of a row set -/
def mrow (D : Mem) (c a n : Nat) (v : Int) : Mem := fun c' i => if c' = c ∧ a ≤ i ∧ i < a + n then v else D c' i
theorem mrow_succ {D : Mem} {c a n : Nat} {v : Int} : mset (mrow D c a n v) c (a + n) v = mrow D c a (n + 1) v := by
  funext c' i
  simp only [mset, mrow]
  by_cases h : c' = c ∧ i = a + n
  · rw [if_pos h, if_pos ⟨h.1, by omega, by omega⟩]
  · rw [if_neg h]
    by_cases h2 : c' = c ∧ a ≤ i ∧ i < a + n
    · rw [if_pos h2, if_pos ⟨h2.1, h2.2.1, by omega⟩]
    · rw [if_neg h2, if_neg]
      rintro ⟨h3, h4, h5⟩
      by_cases h6 : i = a + n
      · exact h ⟨h3, h6⟩
      · exact h2 ⟨h3, h4, by omega⟩
theorem mrow_zero {D : Mem} {c a : Nat} {v : Int} : mrow D c a 0 v = D := by
  funext c' i
  simp only [mrow]
  rw [if_neg (by omega)]
theorem mr_ne {D : Mem} {c a n c' i : Nat} {v : Int} (h : c' ≠ c) : mrow D c a n v c' i = D c' i := by simp [mrow, h]
theorem mr_in {D : Mem} {c a n i : Nat} {v : Int} (h : a ≤ i ∧ i < a + n) : mrow D c a n v c i = v := by simp [mrow, h]
theorem mr_out {D : Mem} {c a n i : Nat} {v : Int} (h : i < a ∨ a + n ≤ i) : mrow D c a n v c i = D c i := by
  simp only [mrow]
  rw [if_neg (by omega)]
theorem ag_row {D : Mem} {x y z : Int} (hS : IS D) (hx : A32 x) (hy : A32 y) (hz : A32 z) : AGs D (f9_row D x y z) (fun M => f10_row M x y z) := by
  have hx' := hx
  have hy' := hy
  have hz' := hz
  unfold A32 at hx' hy' hz'
  have hin : ∀ M : Mem, f10_in M (w32 y) 0 3 = some (if 0 ≤ y ∧ y ≤ 3 then 1 else 0) := fun M => by
    rw [w32_id hy']
    exact sp_in (by omega) (by omega) (by omega)
  unfold AGs f9_row
  refine wp_then (sp_slot9 hx) ?_
  by_cases c1 : 0 ≤ x ∧ x ≤ 3
  · refine wp_neg (fun z => if01.mp z c1) ?_
    by_cases c2 : 0 ≤ y ∧ y ≤ 3
    · refine wp_neg (by rw [w32_id hy']; omega) (wp_pos ((lt32 hy' (by omega)).mpr (by omega)) ?_)
      by_cases c3 : 60 < z
      · refine wp_pos ((lt32 (by omega) hz').mpr c3) (wpo_of ?_)
        unfold f10_row
        exact wp_then (sp_slot10 hx) (wp_neg (fun z => if01.mp z c1) (wp_then (hin _) (wp_neg (fun z => if01.mp z c2) (wp_pos ((lt32 (by omega) hz').mpr c3) (wpo_of ⟨rfl, hS, SF.rf⟩)))))
      · refine wp_neg (fun q => c3 ((lt32 (by omega) hz').mp q)) ?_
        by_cases c4 : z < 0
        · refine wp_pos (by rw [w32_id hz']; exact c4) (wpo_of ?_)
          unfold f10_row
          exact wp_then (sp_slot10 hx) (wp_neg (fun z => if01.mp z c1) (wp_then (hin _) (wp_neg (fun z => if01.mp z c2) (wp_neg (fun q => c3 ((lt32 (by omega) hz').mp q)) (wp_pos (by rw [w32_id hz']; exact c4) (wpo_of ⟨rfl, hS, SF.rf⟩))))))
        · refine wp_neg (by rw [w32_id hz']; exact c4) (wp_pos (by omega) ?_)
          obtain ⟨s, rfl⟩ : ∃ s : Nat, x = (s : Int) := ⟨x.toNat, by omega⟩
          rw [Int.toNat_natCast]
          have hb : f5_become D (109 + 2 * s) y z = some (mfill (mset (mset (mset D (109 + 2 * s) 0 1) (109 + 2 * s) 1 y) (109 + 2 * s) 2 z) (109 + 2 * s + 1) 60 0) := by
            refine wp_is ?_
            unfold f5_become
            exact wp_then rfl (wp_then rfl (wp_then rfl (wp_then (sp_fillJ (by decide)) (wpo_of rfl))))
          refine wp_then hb (wpo_of ?_)
          unfold f10_row
          refine wp_then (sp_slot10 hx) (wp_neg (fun z => if01.mp z c1) (wp_then (hin _) (wp_neg (fun z => if01.mp z c2) (wp_neg (fun q => c3 ((lt32 (by omega) hz').mp q)) (wp_neg (by rw [w32_id hz']; exact c4) (wp_pos (by omega) (wp_then rfl (wp_then rfl ?_))))))))
          rw [Int.toNat_natCast]
          dsimp only
          generalize hE : mset (mset (mfill (mset (mset (mset D (109 + 2 * s) 0 1) (109 + 2 * s) 1 y) (109 + 2 * s) 2 z) (109 + 2 * s + 1) 60 0) 143 s z) 144 s y = E
          refine wp_bind.mpr (wpo_mono (P := fun b => b = mrow E 145 (60 * s) 60 0) ?_ ?_)
          · refine wp_for (I := fun k t => t = ((k : Int), mrow E 145 (60 * s) k 0)) 60 ?_ ?_ FU 0 _ (by rw [mrow_zero]; rfl) (Nat.zero_le _) (by unfold FU; omega)
            · rintro k t hk rfl
              dsimp only
              refine wp_pos ((lt32 (by omega) (by omega)).mpr (by omega)) (wp_pos (by omega) (wpo_of ?_))
              have et : (60 * (s : Int) + (k : Int)).toNat = 60 * s + k := by omega
              rw [et, mrow_succ]
              rfl
            · rintro t rfl
              dsimp only
              exact wp_neg (fun q => absurd ((lt32 (by omega) (by omega)).mp q) (by omega)) (wpo_of rfl)
          · rintro b rfl
            refine wpo_of ⟨rfl, fun t ht => ?_, fun c i h => ?_⟩
            · dsimp only
              have e1 : ∀ c i, c ≠ 145 → mrow E 145 (60 * s) 60 0 c i = E c i := fun c i h => mr_ne h
              by_cases hts : t = s
              · subst hts
                refine ⟨Or.inr ⟨?_, ?_, ?_, ?_, ?_⟩, fun i hi => ?_⟩
                · rw [e1 _ _ (by omega), ← hE, ms_ne (by omega), ms_ne (by omega), mf_ne (by omega), ms_ni (by decide), ms_ni (by decide), ms_same]
                · rw [e1 _ _ (by omega), e1 _ _ (by omega), ← hE, ms_ne (by omega), ms_ne (by omega), mf_ne (by omega), ms_same, ms_ne (by decide), ms_same]
                · rw [e1 _ _ (by omega), e1 _ _ (by omega), ← hE, ms_ne (by omega), ms_ne (by omega), mf_ne (by omega), ms_ni (by decide), ms_same, ms_same]
                · rw [e1 _ _ (by omega), ← hE, ms_ne (by decide), ms_same]
                  omega
                · rw [e1 _ _ (by omega), ← hE, ms_same]
                  omega
                · rw [mr_in (by omega), e1 _ _ (by omega), ← hE, ms_ne (by omega), ms_ne (by omega), mf_same hi]
                  exact ⟨rfl, by decide, by decide⟩
              · have f : ∀ c i, (c = 109 + 2 * t ∨ c = 109 + 2 * t + 1) → E c i = D c i := fun c i h => by
                  rw [← hE, ms_ne (by omega), ms_ne (by omega), mf_ne (by omega), ms_ne (by omega), ms_ne (by omega), ms_ne (by omega)]
                have g3 : E 143 t = D 143 t := by
                  rw [← hE, ms_ne (by omega), ms_ni hts, mf_ne (by omega), ms_ne (by omega), ms_ne (by omega), ms_ne (by omega)]
                have g4 : E 144 t = D 144 t := by
                  rw [← hE, ms_ni hts, ms_ne (by omega), mf_ne (by omega), ms_ne (by omega), ms_ne (by omega), ms_ne (by omega)]
                have g5 : ∀ i, E 145 i = D 145 i := fun i => by
                  rw [← hE, ms_ne (by omega), ms_ne (by omega), mf_ne (by omega), ms_ne (by omega), ms_ne (by omega), ms_ne (by omega)]
                obtain ⟨h1, h2⟩ := hS t ht
                refine ⟨?_, fun i hi => ?_⟩
                · rw [e1 _ _ (by omega), e1 _ _ (by omega), e1 _ _ (by omega), e1 _ _ (by omega), e1 _ _ (by omega), f _ _ (Or.inl rfl), f _ _ (Or.inl rfl), f _ _ (Or.inl rfl), g3, g4]
                  exact h1
                · rw [e1 _ _ (by omega), mr_out (by omega), f _ _ (Or.inr rfl), g5]
                  exact h2 i hi
            · dsimp only
              rw [mr_ne (by omega), ← hE, ms_ne (by omega), ms_ne (by omega), mf_ne (by omega), ms_ne (by omega), ms_ne (by omega), ms_ne (by omega)]
    · have href : wpo (f10_row D x y z) (fun b => w32 (-2) = w32 b.1 ∧ IS b.2 ∧ SF D b.2) := by
        unfold f10_row
        exact wp_then (sp_slot10 hx) (wp_neg (fun z => if01.mp z c1) (wp_then (hin _) (wp_pos (if01.mpr c2) (wpo_of ⟨rfl, hS, SF.rf⟩))))
      by_cases c3 : y < 0
      · exact wp_pos (by rw [w32_id hy']; exact c3) (wpo_of href)
      · exact wp_neg (by rw [w32_id hy']; exact c3) (wp_neg (fun q => absurd ((lt32 hy' (by omega)).mp q) (by omega)) (wpo_of href))
  · refine wp_pos (if01.mpr c1) (wpo_of ?_)
    unfold f10_row
    exact wp_then (sp_slot10 hx) (wp_pos (if01.mpr c1) (wpo_of ⟨rfl, hS, SF.rf⟩))
theorem sp_reaches {D : Mem} {r : Nat} {x n : Int} (hr : 0 ≤ D r 2 ∧ D r 2 ≤ 60) (hx : A32 x) (hn : A32 n) : f5_reaches D r x n = some (if 0 ≤ x ∧ 0 ≤ n ∧ x + n ≤ D r 2 then 1 else 0) := by
  unfold A32 at hx hn
  refine wp_is ?_
  unfold f5_reaches
  by_cases c1 : x < 0
  · exact wp_pos (by rw [w32_id hx]; exact c1) (wpo_of (by rw [if_neg (by omega)]))
  · refine wp_neg (by rw [w32_id hx]; exact c1) ?_
    by_cases c2 : n < 0
    · exact wp_pos (by rw [w32_id hn]; exact c2) (wpo_of (by rw [if_neg (by omega)]))
    · refine wp_neg (by rw [w32_id hn]; exact c2) ?_
      by_cases c3 : D r 2 - n < x
      · exact wp_pos ((lt32 (by omega) hx).mpr c3) (wpo_of (by rw [if_neg (by omega)]))
      · exact wp_neg (fun q => c3 ((lt32 (by omega) hx).mp q)) (wpo_of (by rw [if_pos (by omega)]))
set_option maxHeartbeats 1000000 in
theorem ag_paste {D : Mem} {x i y k n : Int} (hS : IS D) (hx : A32 x) (hi : A32 i) (hy : A32 y) (hk : A32 k) (hn : A32 n) : AGs D (f9_paste D x i y k n) (fun M => f10_paste M x i y k n) := by
  have hx' := hx
  have hy' := hy
  have hi' := hi
  have hk' := hk
  have hn' := hn
  unfold A32 at hx' hy' hi' hk' hn'
  unfold AGs f9_paste f10_paste
  refine wp_then (sp_slot9 hx) ?_
  by_cases c1 : 0 ≤ x ∧ x ≤ 3
  · refine wp_neg (fun z => if01.mp z c1) (wp_then (sp_slot9 hy) ?_)
    by_cases c2 : 0 ≤ y ∧ y ≤ 3
    · refine wp_neg (fun z => if01.mp z c2) (wp_pos (by omega) (wp_pos (by omega) ?_))
      obtain ⟨s, rfl⟩ : ∃ s : Nat, x = (s : Int) := ⟨x.toNat, by omega⟩
      obtain ⟨t, rfl⟩ : ∃ t : Nat, y = (t : Int) := ⟨y.toNat, by omega⟩
      rw [Int.toNat_natCast, Int.toNat_natCast]
      have pre : ∀ (N : Mem) (k : Option (Int × Mem)) (Q : Int × Mem → Prop), wpo k Q → wpo (Option.bind (f10_isSlot N (s : Int)) fun (a1 : Int) => if w32 a1 = 0 then some ((-2), N) else Option.bind (f10_isSlot N (t : Int)) fun (a2 : Int) => if w32 a2 = 0 then some ((-2), N) else if 0 ≤ (s : Int) ∧ (s : Int) < 4 then k else none) Q := fun N k Q h =>
        wp_then (sp_slot10 hx) (wp_neg (fun z => if01.mp z c1) (wp_then (sp_slot10 hy) (wp_neg (fun z => if01.mp z c2) (wp_pos (by omega) h))))
      obtain ⟨hs1, hs2⟩ := hS s (by omega)
      obtain ⟨ht1, ht2⟩ := hS t (by omega)
      rcases hs1 with ⟨a1, a2⟩ | ⟨a1, a2, a3, a4, a5⟩
      · exact wp_pos (by rw [a1]; decide) (wpo_of (pre _ _ _ (wp_pos (congrArg w32 a2) (wpo_of ⟨rfl, hS, SF.rf⟩))))
      · refine wp_neg (by rw [a1]; decide) ?_
        have n1 : ¬ w32 (D 143 s) = w32 (-1) := fun q => absurd ((eq32 (by omega) (by omega)).mp q) (by omega)
        rcases ht1 with ⟨b1, b2⟩ | ⟨b1, b2, b3, b4, b5⟩
        · exact wp_pos (by rw [b1]; decide) (wpo_of (pre _ _ _ (wp_neg n1 (wp_pos (by omega) (wp_pos (congrArg w32 b2) (wpo_of ⟨rfl, hS, SF.rf⟩))))))
        · refine wp_neg (by rw [b1]; decide) ?_
          have n2 : ¬ w32 (D 143 t) = w32 (-1) := fun q => absurd ((eq32 (by omega) (by omega)).mp q) (by omega)
          by_cases c3 : D 144 s = D 144 t
          · refine wp_pos (by rw [a3, b3, c3]) ?_
            have q1 : w32 (D 144 s) = w32 (D 144 t) := by rw [c3]
            have r1 := sp_reaches (D := D) (r := 109 + 2 * s) (x := i) (n := n) (by omega) hi hn
            have r2 := sp_reaches (D := D) (r := 109 + 2 * t) (x := k) (n := n) (by omega) hk hn
            rw [a2] at r1
            rw [b2] at r2
            have bad : ¬ ((0 ≤ i ∧ 0 ≤ n ∧ i + n ≤ D 143 s) ∧ (0 ≤ k ∧ 0 ≤ n ∧ k + n ≤ D 143 t)) → ∀ K : Option (Int × Mem), wpo (if w32 i < 0 then some ((-7), D) else if w32 k < 0 then some ((-7), D) else if w32 n < 0 then some ((-7), D) else if w64 (w32 (D 143 s)) < w64 (w32 i + w32 n) then some ((-7), D) else if w64 (w32 (D 143 t)) < w64 (w32 k + w32 n) then some ((-7), D) else K) (fun b => w32 (-7) = w32 b.1 ∧ IS b.2 ∧ SF D b.2) := by
              intro hbad K
              have ok : wpo (some ((-7), D)) (fun b : Int × Mem => w32 (-7) = w32 b.1 ∧ IS b.2 ∧ SF D b.2) := wpo_of ⟨rfl, hS, SF.rf⟩
              rw [w32_id hi', w32_id hk', w32_id hn', w32_id (x := D 143 s) (by omega), w32_id (x := D 143 t) (by omega), w64_id (x := D 143 s) (by omega), w64_id (x := D 143 t) (by omega), w64_id (x := i + n) (by omega), w64_id (x := k + n) (by omega)]
              by_cases d1 : i < 0
              · exact wp_pos d1 ok
              · refine wp_neg d1 ?_
                by_cases d2 : k < 0
                · exact wp_pos d2 ok
                · refine wp_neg d2 ?_
                  by_cases d3 : n < 0
                  · exact wp_pos d3 ok
                  · refine wp_neg d3 ?_
                    by_cases d4 : D 143 s < i + n
                    · exact wp_pos d4 ok
                    · exact wp_neg d4 (wp_pos (by omega) ok)
            refine wp_then r1 ?_
            by_cases c4 : 0 ≤ i ∧ 0 ≤ n ∧ i + n ≤ D 143 s
            · refine wp_neg (fun z => if01.mp z c4) (wp_then r2 ?_)
              by_cases c5 : 0 ≤ k ∧ 0 ≤ n ∧ k + n ≤ D 143 t
              · refine wp_neg (fun z => if01.mp z c5) (wp_pos (by omega) (wpo_of (pre _ _ _ ?_)))
                dsimp only
                obtain ⟨i0, rfl⟩ : ∃ i0 : Nat, i = (i0 : Int) := ⟨i.toNat, by omega⟩
                obtain ⟨k0, rfl⟩ : ∃ k0 : Nat, k = (k0 : Int) := ⟨k.toNat, by omega⟩
                obtain ⟨m, rfl⟩ : ∃ m : Nat, n = (m : Int) := ⟨n.toNat, by omega⟩
                rw [Int.toNat_natCast, Int.toNat_natCast, Int.toNat_natCast]
                generalize hE : mcpy D (109 + 2 * s + 1) i0 (109 + 2 * t + 1) k0 m = E
                have e : ∀ c j, c ≠ 109 + 2 * t + 1 → E c j = D c j := fun c j h => by
                  rw [← hE]
                  exact congrFun (mcpy_ne h) j
                have e3 : ∀ j, E 143 j = D 143 j := fun j => e _ _ (by omega)
                have e4 : ∀ j, E 144 j = D 144 j := fun j => e _ _ (by omega)
                have e5 : ∀ j, E 145 j = D 145 j := fun j => e _ _ (by omega)
                refine wp_neg (by rw [e3]; exact n1) (wp_pos (by omega) (wp_neg (by rw [e3]; exact n2) (wp_pos (by rw [e4, e4]; exact q1) ?_)))
                refine wp_neg (by rw [w32_id hi']; omega) (wp_neg (by rw [w32_id hk']; omega) (wp_neg (by rw [w32_id hn']; omega) ?_))
                refine wp_neg (by rw [e3, w32_id hi', w32_id hn', w32_id (x := D 143 s) (by omega), w64_id (x := D 143 s) (by omega), w64_id (by omega)]; omega) ?_
                refine wp_neg (by rw [e3, w32_id hk', w32_id hn', w32_id (x := D 143 t) (by omega), w64_id (x := D 143 t) (by omega), w64_id (by omega)]; omega) ?_
                refine wp_bind.mpr (wpo_mono (P := fun b => (∀ c j, c ≠ 146 → b c j = E c j) ∧ ∀ j, j < m → b 146 j = D 145 (60 * s + i0 + j)) ?_ ?_)
                · refine wp_for (I := fun q u => u.1 = (q : Int) ∧ (∀ c j, c ≠ 146 → u.2 c j = E c j) ∧ ∀ j, j < q → u.2 146 j = D 145 (60 * s + i0 + j)) m ?_ ?_ FU 0 _ ⟨rfl, fun _ _ _ => rfl, fun j hj => absurd hj (Nat.not_lt_zero _)⟩ (Nat.zero_le _) (by unfold FU; omega)
                  · rintro q ⟨u1, N⟩ hq ⟨g1, g2, g3⟩
                    dsimp only at g1 g2 g3 ⊢
                    subst g1
                    have et : (60 * (s : Int) + (i0 : Int) + (q : Int)).toNat = 60 * s + i0 + q := by omega
                    refine wp_pos ((lt32 (by omega) (by omega)).mpr (by omega)) (wp_pos (by omega) (wp_pos (by omega) (wpo_of ⟨by dsimp only; omega, fun c j h => ?_, fun j hj => ?_⟩)))
                    · dsimp only
                      rw [ms_ne h]
                      exact g2 c j h
                    · dsimp only
                      rw [Int.toNat_natCast, et]
                      by_cases hjq : j = q
                      · subst hjq
                        rw [ms_same, g2 _ _ (by decide), e5]
                      · rw [ms_ni hjq]
                        exact g3 j (by omega)
                  · rintro ⟨u1, N⟩ ⟨g1, g2, g3⟩
                    dsimp only at g1 g2 g3 ⊢
                    subst g1
                    exact wp_neg (fun q => absurd ((lt32 (by omega) (by omega)).mp q) (by omega)) (wpo_of ⟨g2, g3⟩)
                · rintro F ⟨F1, F2⟩
                  refine wp_bind.mpr (wpo_mono (P := fun b => (∀ c j, c ≠ 145 → b c j = F c j) ∧ ∀ j, b 145 j = (if 60 * t + k0 ≤ j ∧ j < 60 * t + k0 + m then D 145 (60 * s + i0 + (j - (60 * t + k0))) else D 145 j)) ?_ ?_)
                  · refine wp_for (I := fun q u => u.1 = (q : Int) ∧ (∀ c j, c ≠ 145 → u.2 c j = F c j) ∧ ∀ j, u.2 145 j = (if 60 * t + k0 ≤ j ∧ j < 60 * t + k0 + q then D 145 (60 * s + i0 + (j - (60 * t + k0))) else D 145 j)) m ?_ ?_ FU 0 _ ⟨rfl, fun _ _ _ => rfl, fun j => by dsimp only; rw [if_neg (by omega), F1 _ _ (by decide), e5]⟩ (Nat.zero_le _) (by unfold FU; omega)
                    · rintro q ⟨u1, N⟩ hq ⟨g1, g2, g3⟩
                      dsimp only at g1 g2 g3 ⊢
                      subst g1
                      have et : (60 * (t : Int) + (k0 : Int) + (q : Int)).toNat = 60 * t + k0 + q := by omega
                      refine wp_pos ((lt32 (by omega) (by omega)).mpr (by omega)) (wp_pos (by omega) (wp_pos (by omega) (wpo_of ⟨by dsimp only; omega, fun c j h => ?_, fun j => ?_⟩)))
                      · dsimp only
                        rw [ms_ne h]
                        exact g2 c j h
                      · dsimp only
                        rw [Int.toNat_natCast, et]
                        by_cases hjq : j = 60 * t + k0 + q
                        · subst hjq
                          rw [ms_same, g2 _ _ (by decide), F2 q hq, if_pos (by omega)]
                          congr 1
                          omega
                        · rw [ms_ni hjq, g3 j]
                          by_cases d : 60 * t + k0 ≤ j ∧ j < 60 * t + k0 + q
                          · rw [if_pos d, if_pos (by omega)]
                          · rw [if_neg d, if_neg (by omega)]
                    · rintro ⟨u1, N⟩ ⟨g1, g2, g3⟩
                      dsimp only at g1 g2 g3 ⊢
                      subst g1
                      exact wp_neg (fun q => absurd ((lt32 (by omega) (by omega)).mp q) (by omega)) (wpo_of ⟨g2, g3⟩)
                  · rintro G ⟨G1, G2⟩
                    have ge : ∀ c j, c ≠ 145 → c ≠ 146 → G c j = E c j := fun c j h h' => (G1 c j h).trans (F1 c j h')
                    refine wpo_of ⟨rfl, fun u hu => ?_, fun c j h => ?_⟩
                    · dsimp only
                      obtain ⟨h1, h2⟩ := hS u hu
                      refine ⟨?_, fun j hj => ?_⟩
                      · rw [ge _ _ (by omega) (by omega), ge _ _ (by omega) (by omega), ge _ _ (by omega) (by omega), ge _ _ (by omega) (by omega), ge _ _ (by omega) (by omega), e _ _ (by omega), e _ _ (by omega), e _ _ (by omega), e _ _ (by omega), e _ _ (by omega)]
                        exact h1
                      · rw [ge _ _ (by omega) (by omega), G2]
                        by_cases hut : u = t
                        · subst hut
                          have em : E (109 + 2 * u + 1) j = (if k0 ≤ j ∧ j < k0 + m then D (109 + 2 * s + 1) (i0 + (j - k0)) else D (109 + 2 * u + 1) j) := by
                            rw [← hE]
                            simp only [mcpy, true_and]
                          rw [em]
                          by_cases d : k0 ≤ j ∧ j < k0 + m
                          · rw [if_pos d, if_pos (by omega)]
                            have h3 := hs2 (i0 + (j - k0)) (by omega)
                            have e6 : 60 * s + i0 + (60 * u + j - (60 * u + k0)) = 60 * s + (i0 + (j - k0)) := by omega
                            rw [e6]
                            exact h3
                          · rw [if_neg d, if_neg (by omega)]
                            exact h2 j hj
                        · rw [if_neg (by omega), e _ _ (by omega)]
                          exact h2 j hj
                    · dsimp only
                      rw [ge c j (by omega) (by omega), e c j (by omega)]
              · exact wp_pos (if01.mpr c5) (wpo_of (pre _ _ _ (wp_neg n1 (wp_pos (by omega) (wp_neg n2 (wp_pos q1 (bad (fun z => c5 z.2) _)))))))
            · exact wp_pos (if01.mpr c4) (wpo_of (pre _ _ _ (wp_neg n1 (wp_pos (by omega) (wp_neg n2 (wp_pos q1 (bad (fun z => c4 z.1) _)))))))
          · refine wp_neg (fun z => c3 ?_) (wpo_of (pre _ _ _ (wp_neg n1 (wp_pos (by omega) (wp_neg n2 (wp_neg (fun z => c3 ?_) (wpo_of ⟨rfl, hS, SF.rf⟩)))))))
            · rw [a3, b3] at z
              exact (eq32 (by omega) (by omega)).mp z
            · exact (eq32 (by omega) (by omega)).mp z
    · exact wp_pos (if01.mpr c2) (wpo_of (wp_then (sp_slot10 hx) (wp_neg (fun z => if01.mp z c1) (wp_then (sp_slot10 hy) (wp_pos (if01.mpr c2) (wpo_of ⟨rfl, hS, SF.rf⟩))))))
  · exact wp_pos (if01.mpr c1) (wpo_of (wp_then (sp_slot10 hx) (wp_pos (if01.mpr c1) (wpo_of ⟨rfl, hS, SF.rf⟩))))
