/-! THE FEWEST NIGHTS OF ROOM: the mathematics (by hand) -/
/-- a part that fits into one night -/
def Fit (A : Nat → Int) (P : Nat) (R : Int) (q s : Nat) : Prop := q ≠ 0 ∧ Sub q s ∧ aS A P q ≤ R
/-- the reference's table -/
def TB (A : Nat → Int) (P : Nat) (R : Int) (n : Nat) (T : Nat → Int) : Prop := T 0 = 0 ∧ ∀ s, s ≠ 0 → s < n → T s ≤ 1000000000 ∧ (T s = 1000000000 ∨ ∃ q, Fit A P R q s ∧ T s = 1 + T (s ^^^ q)) ∧ ∀ q, Fit A P R q s → T s ≤ 1 + T (s ^^^ q)
theorem TB.uniq {A : Nat → Int} {P : Nat} {R : Int} {n : Nat} {T T' : Nat → Int} (h : TB A P R n T) (h' : TB A P R n T') : ∀ s, s < n → T s = T' s := by
  intro s
  induction s using Nat.strongRecOn with
  | ind s ih =>
    intro hs
    by_cases h0 : s = 0
    · subst h0
      rw [h.1, h'.1]
    · obtain ⟨a1, a2, a3⟩ := h.2 s h0 hs
      obtain ⟨b1, b2, b3⟩ := h'.2 s h0 hs
      have l1 : T s ≤ T' s := by
        rcases b2 with b2 | ⟨q, hq, e⟩
        · omega
        · have hl := xor_lt hq.2.1 hq.1
          have := ih _ hl (by omega)
          have := a3 q hq
          omega
      have l2 : T' s ≤ T s := by
        rcases a2 with a2 | ⟨q, hq, e⟩
        · omega
        · have hl := xor_lt hq.2.1 hq.1
          have := ih _ hl (by omega)
          have := b3 q hq
          omega
      omega
/-- the class's table -/
def TC (A : Nat → Int) (P : Nat) (R : Int) (n : Nat) (C : Nat → Int) : Prop := C 0 = 0 ∧ ∀ s, s ≠ 0 → s < n → ∃ i, i < 8 ∧ Low s i ∧ ((C (s ^^^ (1 <<< i)) = -1 ∧ C s = -1) ∨ (C (s ^^^ (1 <<< i)) ≠ -1 ∧ ((C s = -1 ∧ ∀ q, Fit A P R q s → q.testBit i = false) ∨ ((∃ q, Fit A P R q s ∧ q.testBit i = true ∧ C s = 1 + C (s ^^^ q)) ∧ ∀ q, Fit A P R q s → q.testBit i = true → C s ≤ 1 + C (s ^^^ q)))))
def Feas (A : Nat → Int) (R : Int) (s : Nat) : Prop := ∀ p, s.testBit p = true → A p ≤ R
theorem Feas.sub {A : Nat → Int} {R : Int} {q s : Nat} (h : Feas A R s) (hq : Sub q s) : Feas A R q := fun p hp => h p (hq p hp)
theorem TB.le {A : Nat → Int} {P : Nat} {R : Int} {T : Nat → Int} (hP : P ≤ 8) (h : TB A P R (2 ^ P) T) : ∀ s, s < 2 ^ P → 0 ≤ T s ∧ (Feas A R s → T s ≤ s) := by
  intro s
  induction s using Nat.strongRecOn with
  | ind s ih =>
    intro hs
    have h256 := pow8 hP
    by_cases h0 : s = 0
    · subst h0
      rw [h.1]
      exact ⟨by decide, fun _ => by decide⟩
    · obtain ⟨a1, a2, a3⟩ := h.2 s h0 hs
      refine ⟨?_, fun hf => ?_⟩
      · rcases a2 with a2 | ⟨q, hq, e⟩
        · omega
        · have hl := xor_lt hq.2.1 hq.1
          have := (ih _ hl (by omega)).1
          omega
      · obtain ⟨i, i1, -, i3, -⟩ := low_all s (by omega) h0
        have hiP : i < P := by
          by_cases c : i < P
          · exact c
          · rw [Nat.testBit_lt_two_pow (Nat.lt_of_lt_of_le hs (Nat.pow_le_pow_right (by decide) (by omega)))] at i3
            cases i3
        have hfit : Fit A P R (1 <<< i) s := ⟨one_shl_ne, sub_one i3, by rw [aS_one hiP]; exact hf i i3⟩
        have hl := xor_lt hfit.2.1 hfit.1
        have h2 := (ih _ hl (by omega)).2 (hf.sub (xor_sub hfit.2.1))
        have h3 := a3 _ hfit
        omega
theorem bit_ltP {s P i : Nat} (hs : s < 2 ^ P) (h : s.testBit i = true) : i < P := by
  by_cases c : i < P
  · exact c
  · rw [Nat.testBit_lt_two_pow (Nat.lt_of_lt_of_le hs (Nat.pow_le_pow_right (by decide) (by omega)))] at h
    cases h
theorem TB.inf {A : Nat → Int} {P : Nat} {R : Int} {T : Nat → Int} (hA : ∀ p, p < P → 0 ≤ A p) (h : TB A P R (2 ^ P) T) : ∀ s, s < 2 ^ P → ¬ Feas A R s → T s = 1000000000 := by
  intro s
  induction s using Nat.strongRecOn with
  | ind s ih =>
    intro hs hn
    have h0 : s ≠ 0 := by
      intro e
      subst e
      exact hn (fun p hp => by rw [Nat.zero_testBit] at hp; cases hp)
    obtain ⟨a1, a2, a3⟩ := h.2 s h0 hs
    rcases a2 with a2 | ⟨q, hq, e⟩
    · exact a2
    · exfalso
      have hl := xor_lt hq.2.1 hq.1
      have hn2 : ¬ Feas A R (s ^^^ q) := by
        intro hf
        refine hn (fun p hp => ?_)
        cases hqp : q.testBit p with
        | true =>
          have := aS_ge (f := A) (P := P) (s := q) hA (bit_ltP hs hp) hqp
          have := hq.2.2
          omega
        | false => exact hf p (by rw [xor_bit hq.2.1, hp, hqp]; rfl)
      have := ih _ hl (by omega) hn2
      omega
/-- the exchange: the lowest one's night may be taken first -/
theorem bins_same {A : Nat → Int} {P : Nat} {R : Int} {T C : Nat → Int} (hP : P ≤ 8) (hA : ∀ p, p < P → 0 ≤ A p) (hT : TB A P R (2 ^ P) T) (hC : TC A P R (2 ^ P) C) : ∀ s, s < 2 ^ P → (Feas A R s → C s = T s) ∧ (¬ Feas A R s → C s = -1) := by
  intro s
  induction s using Nat.strongRecOn with
  | ind s ih =>
    intro hs
    by_cases h0 : s = 0
    · subst h0
      exact ⟨fun _ => by rw [hT.1, hC.1], fun hn => absurd (fun p hp => by rw [Nat.zero_testBit] at hp; cases hp) hn⟩
    · obtain ⟨i, hi8, hl, hc⟩ := hC.2 s h0 hs
      have hiP := bit_ltP hs hl.1
      have s1 := sub_one hl.1
      have l1 := xor_lt s1 (one_shl_ne (i := i))
      obtain ⟨i1, i2⟩ := ih _ l1 (by omega)
      refine ⟨fun hf => ?_, fun hn => ?_⟩
      · have hf1 := hf.sub (xor_sub s1)
        have hT1 := (hT.le hP _ (show s ^^^ (1 <<< i) < 2 ^ P by omega)).1
        have e1 := i1 hf1
        have hfit1 : Fit A P R (1 <<< i) s := ⟨one_shl_ne, s1, by rw [aS_one hiP]; exact hf i hl.1⟩
        rcases hc with ⟨c1, -⟩ | ⟨-, ⟨-, c2⟩ | ⟨⟨q, q1, q2, q3⟩, c3⟩⟩
        · omega
        · have := c2 _ hfit1
          rw [bit1, decide_eq_true rfl] at this
          cases this
        · obtain ⟨a1, a2, a3⟩ := hT.2 s h0 hs
          have lq := xor_lt q1.2.1 q1.1
          have eq := (ih _ lq (by omega)).1 (hf.sub (xor_sub q1.2.1))
          have t1 := a3 q q1
          have t2 := (hT.le hP s hs).2 hf
          have h256 := pow8 hP
          have t3 : C s ≤ T s := by
            rcases a2 with a2 | ⟨r, r1, r2⟩
            · omega
            · have lr := xor_lt r1.2.1 r1.1
              have er := (ih _ lr (by omega)).1 (hf.sub (xor_sub r1.2.1))
              cases hri : r.testBit i with
              | true =>
                have := c3 r r1 hri
                omega
              | false =>
                have hb : (s ^^^ r).testBit i = true := by rw [xor_bit r1.2.1, hl.1, hri]; rfl
                have hlow : Low (s ^^^ r) i := ⟨hb, fun j hj => by rw [xor_bit r1.2.1, hl.2 j hj]; rfl⟩
                have hne : s ^^^ r ≠ 0 := by
                  intro e
                  rw [e, Nat.zero_testBit] at hb
                  cases hb
                have hfr := hf.sub (xor_sub r1.2.1)
                obtain ⟨j, -, hlj, hcj⟩ := hC.2 (s ^^^ r) hne (by omega)
                have hji : j = i := hlj.uniq hlow
                subst hji
                have s1r := sub_one hb
                have l1r := xor_lt s1r (one_shl_ne (i := j))
                have e1r := (ih ((s ^^^ r) ^^^ (1 <<< j)) (by omega) (by omega)).1 (hfr.sub (xor_sub s1r))
                have hT1r := (hT.le hP ((s ^^^ r) ^^^ (1 <<< j)) (by omega)).1
                rcases hcj with ⟨d1, -⟩ | ⟨-, ⟨-, d2⟩ | ⟨⟨q', w1, w2, w3⟩, -⟩⟩
                · omega
                · have := d2 _ ⟨one_shl_ne, s1r, by rw [aS_one hiP]; exact hf j hl.1⟩
                  rw [bit1, decide_eq_true rfl] at this
                  cases this
                · have hsub : Sub q' s := w1.2.1.tr (xor_sub r1.2.1)
                  have u1 := c3 q' ⟨w1.1, hsub, w1.2.2⟩ w2
                  have lq' := xor_lt hsub w1.1
                  have eq' := (ih _ lq' (by omega)).1 (hf.sub (xor_sub hsub))
                  have hrs : Sub r (s ^^^ q') := fun k hk => by
                    have h1 := r1.2.1 k hk
                    rw [xor_bit hsub, h1]
                    cases hqk : q'.testBit k with
                    | false => rfl
                    | true =>
                      have := w1.2.1 k hqk
                      rw [xor_bit r1.2.1, hk, h1] at this
                      cases this
                  have hne2 : s ^^^ q' ≠ 0 := by
                    intro e
                    have h1 := hrs.le
                    have := r1.1
                    omega
                  have u2 := (hT.2 (s ^^^ q') hne2 (by omega)).2.2 r ⟨r1.1, hrs, r1.2.2⟩
                  have ecomm : (s ^^^ q') ^^^ r = (s ^^^ r) ^^^ q' := by rw [Nat.xor_assoc, Nat.xor_comm q' r, ← Nat.xor_assoc]
                  have lw := xor_lt w1.2.1 w1.1
                  have ew := (ih ((s ^^^ r) ^^^ q') (by omega) (by omega)).1 (hfr.sub (xor_sub w1.2.1))
                  rw [ecomm] at u2
                  omega
          omega
      · rcases hc with ⟨-, c1⟩ | ⟨c0, ⟨c2, -⟩ | ⟨⟨q, q1, q2, q3⟩, c3⟩⟩
        · exact c1
        · exact c2
        · exfalso
          refine hn (fun p hp => ?_)
          by_cases hpi : p = i
          · subst hpi
            have := aS_ge (f := A) (P := P) (s := q) hA hiP q2
            have := q1.2.2
            omega
          · by_cases hf1 : Feas A R (s ^^^ (1 <<< i))
            · refine hf1 p ?_
              rw [xor_bit s1, hp, bit1, decide_eq_false hpi]
              rfl
            · exact absurd (i2 hf1) c0
