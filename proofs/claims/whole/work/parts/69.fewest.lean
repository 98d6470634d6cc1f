/-! THE FEWEST NIGHTS OF ROOM: the class's step, its walk (by hand) -/
theorem sp_fewest {M : Mem} {A : Nat → Int} {P s : Nat} {R : Int} (hP : P ≤ 8) (hA : ∀ p, p < P → 0 ≤ A p ∧ A p ≤ 20) (hR : 0 ≤ R ∧ R ≤ 160) (h2 : M 12 2 = R) (h65 : ∀ q, q < 2 ^ P → M 65 q = aS A P q) (hb : ∀ q, q < s → -1 ≤ M 66 q ∧ M 66 q ≤ q) (h0 : s ≠ 0) (hs : s < 2 ^ P) : wpo (f1_fewest M (s : Int)) (fun v => (-1 ≤ v ∧ v ≤ s) ∧ ∃ i, i < 8 ∧ Low s i ∧ ((M 66 (s ^^^ (1 <<< i)) = -1 ∧ v = -1) ∨ (M 66 (s ^^^ (1 <<< i)) ≠ -1 ∧ FI A P R s i (M 66) 0 v))) := by
  have h256 := pow8 hP
  obtain ⟨i, i8, il, ib, ij⟩ := low_all s (by omega) h0
  have s1 := sub_one ib
  have l1 := xor_lt s1 (one_shl_ne (i := i))
  have hi1 := s1.le
  have ex : xor32 (s : Int) (and32 (s : Int) (-(s : Int))) = ((s ^^^ (1 <<< i) : Nat) : Int) := by rw [il, xor32_nat (by omega) (by omega)]
  have hlow : Low s i := ⟨ib, ij⟩
  have hbl := hb _ l1
  unfold f1_fewest
  rw [ex, il]
  refine wp_pos (by omega) ?_
  rw [Int.toNat_natCast]
  generalize hX : s ^^^ (1 <<< i) = X at *
  by_cases c0 : M 66 X = -1
  · exact wp_pos (by rw [c0]) (wpo_of ⟨by omega, i, i8, hlow, Or.inl ⟨by rw [hX]; exact c0, rfl⟩⟩)
  · refine wp_neg (fun z => c0 ((eq32 (by omega) (by omega)).mp z)) ?_
    refine wp_bind.mpr (wpo_mono (P := fun v => (-1 ≤ v ∧ v ≤ (s : Int)) ∧ FI A P R s i (M 66) 0 v) ?_ (fun v hv => wpo_of ⟨hv.1, i, i8, hlow, Or.inr ⟨by rw [hX]; exact c0, hv.2⟩⟩))
    refine wp_loopm (I := fun m t => ∃ q : Nat, t.2 = (q : Int) ∧ m = q ∧ Sub q s ∧ (-1 ≤ t.1 ∧ t.1 ≤ (s : Int)) ∧ FI A P R s i (M 66) q t.1) ?_ FU s _ ⟨s, rfl, rfl, Sub.rf, by dsimp only; omega, FI.start⟩ (by unfold FU; omega)
    rintro m ⟨t1, t2⟩ ⟨q, e1, rfl, hq, hbt, hinv⟩
    dsimp only at e1 hbt hinv ⊢
    subst e1
    have hqs := hq.le
    by_cases cq : m = 0
    · subst cq
      exact wp_neg (by decide) (wpo_of ⟨hbt, hinv⟩)
    · refine wp_pos (by rw [w32_id (by omega)]; omega) ?_
      have hnx : and32 ((m : Int) - 1) (s : Int) = (((m - 1) &&& s : Nat) : Int) := by
        have e : (m : Int) - 1 = ((m - 1 : Nat) : Int) := by omega
        rw [e, and32_nat (by omega) (by omega)]
      have hle : (m - 1) &&& s ≤ m - 1 := Nat.and_le_left
      have hnb : ∀ r, r < s → -1 ≤ M 66 r := fun r hr => (hb r hr).1
      by_cases cb : m.testBit i = true
      · have h65q := h65 m (by omega)
        have hab := aS_bd (f := A) (P := P) (s := m) (hi := 20) (by decide) hA
        have cbf : ¬ w32 (and32 (m : Int) ((1 <<< i : Nat) : Int)) = 0 := fun z => by
          rw [(and_all (by omega) i8).mp z] at cb
          cases cb
        by_cases cr : aS A P m ≤ R
        · have hfit : Fit A P R m s := ⟨cq, hq, cr⟩
          have lq := xor_lt hq cq
          have hbq := hb _ lq
          have exq : xor32 (s : Int) (m : Int) = ((s ^^^ m : Nat) : Int) := xor32_nat (by omega) (by omega)
          refine wp_then (a := if t1 = -1 then 1 + M 66 (s ^^^ m) else min t1 (1 + M 66 (s ^^^ m))) ?_ ?_
          · refine wp_is ?_
            refine wp_neg cbf (wp_pos (by omega) (wp_neg ?_ ?_))
            · rw [Int.toNat_natCast, h65q, h2]
              exact fun z => absurd ((lt32 (by omega) (by omega)).mp z) (by omega)
            · rw [exq]
              refine wp_pos (by omega) (wp_then rfl ?_)
              rw [Int.toNat_natCast]
              by_cases ct : t1 = -1
              · exact wp_then (if_pos (by rw [ct])) (wpo_of (by rw [if_pos ct]))
              · exact wp_then (if_neg (fun z => ct ((eq32 (by omega) (by omega)).mp z))) (wpo_of (by rw [if_neg ct, min32_id (by omega) (by omega)]))
          · refine wpo_of ⟨(m - 1) &&& s, by omega, (m - 1) &&& s, hnx, rfl, sub_and, ?_, hinv.take (by omega) hq hfit cb hnb⟩
            dsimp only
            split <;> omega
        · refine wp_then (a := t1) ?_ (wpo_of ⟨(m - 1) &&& s, by omega, (m - 1) &&& s, hnx, rfl, sub_and, hbt, hinv.skip (by omega) hq (fun z => cr z.1.2.2)⟩)
          refine wp_is ?_
          refine wp_neg cbf (wp_pos (by omega) (wp_pos ?_ (wpo_of rfl)))
          rw [Int.toNat_natCast, h65q, h2]
          exact (lt32 (by omega) (by omega)).mpr (by omega)
      · exact wp_then (a := t1) (if_pos ((and_all (by omega) i8).mpr (by simpa using cb))) (wpo_of ⟨(m - 1) &&& s, by omega, (m - 1) &&& s, hnx, rfl, sub_and, hbt, hinv.skip (by omega) hq (fun z => cb z.2)⟩)
