/-! BETWEEN BABIES: the class chooses (by hand) -/
theorem bB_bd {f : Nat → Nat → Bool} {n p : Nat} : -1 ≤ bB f n p ∧ bB f n p < n := fi_bd n
set_option maxHeartbeats 1000000 in
theorem sp_chooseFirst {M : Mem} {f : Nat → Nat → Bool} {n : Nat} (hn : n ≤ 8) (h8 : M 12 8 = (n : Int)) (h60 : ∀ p, p < n → M 60 p = ((nset (f p) n : Nat) : Int)) (h62 : ∀ p u, p ≤ n → u < 2 ^ n → M 62 (256 * p + u) = mB f allT n (n - p) u) : wpo (f0_chooseFirst M) (fun M' => (∀ c i, c ≠ 59 → (c ≠ 58 ∨ (i ≠ 2 ∧ i ≠ 3)) → M' c i = M c i) ∧ M' 58 2 = mB f allT n n 0 ∧ M' 58 3 = (uB f n n : Int) ∧ ∀ p, p < n → M' 59 p = bB f n p) := by
  have h256 := pow8 hn
  have hpos : 0 < 2 ^ n := Nat.two_pow_pos _
  have h0 := h62 0 0 (Nat.zero_le _) hpos
  rw [Nat.mul_zero, Nat.sub_zero] at h0
  unfold f0_chooseFirst
  refine wp_then rfl (wp_then rfl ?_)
  refine wp_bind.mpr ?_
  simp only [wp_some]
  refine wp_for (I := fun p t => t.1 = (p : Int) ∧ (∀ c i, c ≠ 59 → (c ≠ 58 ∨ (i ≠ 2 ∧ i ≠ 3)) → t.2 c i = M c i) ∧ t.2 58 2 = mB f allT n n 0 ∧ t.2 58 3 = (uB f n p : Int) ∧ ∀ q, q < p → t.2 59 q = bB f n q) n ?_ ?_ FU 0 _ ⟨rfl, fun c i h1 h2 => ?_, ?_, ?_, fun q hq => absurd hq (Nat.not_lt_zero _)⟩ (Nat.zero_le _) (by unfold FU; omega)
  · rintro p ⟨t1, N⟩ hp ⟨e1, e2, e3, e4, e5⟩
    dsimp only at e1 e2 e3 e4 e5 ⊢
    subst e1
    have hu := uB_lt (f := f) (n := n) (p := p)
    refine wp_pos (by rw [h8]; exact (lt32 (by omega) (by omega)).mpr (by omega)) (wp_pos (by omega) (wp_then rfl (wp_then rfl ?_)))
    rw [Int.toNat_natCast, ms_ne (show 58 ≠ 59 by decide), ms_ne (show 60 ≠ 59 by decide), e4, e2 60 p (by decide) (Or.inl (by decide)), h60 p hp]
    have et : ((p : Int) * 256 + (uB f n p : Int)).toNat = 256 * p + uB f n p := by omega
    have et2 : ∀ w : Nat, (((p : Int) + 1) * 256 + (w : Int)).toNat = 256 * (p + 1) + w := fun w => by omega
    refine wp_pos (by omega) (wp_then rfl ?_)
    rw [et, ms_ne (show 62 ≠ 59 by decide), e2 62 _ (by decide) (Or.inl (by decide)), h62 p _ (by omega) hu]
    have hdue := mB_bd (f := f) (g := allT) (n := n) (d := n - p) (u := uB f n p)
    refine wp_bind.mpr (wpo_mono (P := fun B => (∀ c i, (c ≠ 59 ∨ i ≠ p) → B c i = N c i) ∧ B 59 p = bB f n p) ?_ ?_)
    · refine wp_for (I := fun b t => t.1 = (b : Int) ∧ (∀ c i, (c ≠ 59 ∨ i ≠ p) → t.2 c i = N c i) ∧ t.2 59 p = fi (cB f n p (uB f n p)) b ∧ (t.2 59 p = -1 ∨ t.2 59 p = bB f n p)) n ?_ ?_ FU 0 _ ⟨rfl, fun c i h => ?_, ?_, ?_⟩ (Nat.zero_le _) (by unfold FU; omega)
      · rintro b ⟨u1, B⟩ hb ⟨b1, b2, b3, b4⟩
        dsimp only at b1 b2 b3 b4 ⊢
        subst b1
        refine wp_pos (by rw [h8]; exact (lt32 (by omega) (by omega)).mpr (by omega)) ?_
        have hfb := fi_bd (c := cB f n p (uB f n p)) b
        have hbb := bB_bd (f := f) (n := n) (p := p)
        by_cases c0 : B 59 p = -1
        · have hfb2 := free_bit (F := f p) hn hu hb
          have hol := or_lt hu hb
          have hob := or_bit hn hu hb
          have b58 : B 58 3 = (uB f n p : Int) := (b2 58 3 (Or.inl (by decide))).trans e4
          have b62 : B 62 (256 * (p + 1) + (uB f n p ||| 1 <<< b)) = mB f allT n (n - (p + 1)) (uB f n p ||| 1 <<< b) := (b2 62 _ (Or.inl (by decide))).trans ((e2 62 _ (by decide) (Or.inl (by decide))).trans (h62 (p + 1) _ (by omega) hol))
          have hmb := mB_bd (f := f) (g := allT) (n := n) (d := n - (p + 1)) (u := uB f n p ||| 1 <<< b)
          refine wp_pos (by rw [c0]) ?_
          refine wp_then (a := if (!(uB f n p).testBit b && f p b) = true then 1 else 0) (wp_is ?_) ?_
          · by_cases c : (!(uB f n p).testBit b && f p b) = true
            · exact wp_neg (by rw [hfb2, if_pos c]; decide) (wpo_of (by rw [if_pos c]))
            · exact wp_pos (by rw [hfb2, if_neg c]; decide) (wpo_of (by rw [if_neg c]))
          · have hcB : ∀ h : Bool, cB f n p (uB f n p) b = (!(uB f n p).testBit b && (f p b && decide (1 + mB f allT n (n - (p + 1)) (uB f n p ||| 1 <<< b) = mB f allT n (n - p) (uB f n p)))) := fun _ => rfl
            refine wp_then (a := if cB f n p (uB f n p) b = true then mset B 59 p (b : Int) else B) (wp_is ?_) ?_
            · by_cases c : (!(uB f n p).testBit b && f p b) = true
              · have c' := c
                rw [Bool.and_eq_true] at c'
                refine wp_neg (by rw [if_pos c]; decide) ?_
                refine wp_pos (by rw [b58, hob]; omega) ?_
                by_cases c2 : 1 + mB f allT n (n - (p + 1)) (uB f n p ||| 1 <<< b) = mB f allT n (n - p) (uB f n p)
                · refine wp_pos (by rw [b58, hob, et2, b62]; exact congrArg w32 c2) (wpo_of ?_)
                  rw [if_pos (by rw [hcB true, c'.1, c'.2, decide_eq_true c2]; rfl)]
                · refine wp_neg (fun z => c2 ?_) (wpo_of ?_)
                  · rw [b58, hob, et2, b62] at z
                    exact (eq32 (by omega) (by omega)).mp z
                  · rw [if_neg (by rw [hcB true, decide_eq_false c2, Bool.and_false, Bool.and_false]; decide)]
              · refine wp_pos (by rw [if_neg c]; decide) (wpo_of ?_)
                rw [if_neg (by rw [hcB true, ← Bool.and_assoc, Bool.and_eq_true]; exact fun z => c z.1)]
            · have hff : fi (cB f n p (uB f n p)) b = -1 := b3.symm.trans c0
              by_cases c : cB f n p (uB f n p) b = true
              · rw [if_pos c]
                have hfn : fi (cB f n p (uB f n p)) (b + 1) = (b : Int) := by
                  rw [fi, if_pos ⟨hff, c⟩]
                refine wpo_of ⟨by dsimp only; omega, fun c' i h => ?_, ?_, Or.inr ?_⟩
                · dsimp only
                  rcases h with h | h
                  · rw [ms_ne h]
                    exact b2 c' i (Or.inl h)
                  · rw [ms_ni h]
                    exact b2 c' i (Or.inr h)
                · dsimp only
                  rw [ms_same, hfn]
                · dsimp only
                  rw [ms_same]
                  have hno : ∀ j, j < b → ¬ cB f n p (uB f n p) j = true := by
                    rcases fi_first (c := cB f n p (uB f n p)) b with ⟨-, h⟩ | ⟨m, -, h, -⟩
                    · exact h
                    · omega
                  exact First.uniq (Or.inr ⟨b, hb, rfl, c, hno⟩) (fi_first n)
              · rw [if_neg c]
                refine wpo_of ⟨by dsimp only; omega, b2, ?_, b4⟩
                dsimp only
                rw [b3, fi, if_neg (fun z => c z.2)]
        · refine wp_neg (fun z => c0 ?_) (wpo_of ⟨b2, ?_⟩)
          · exact (eq32 (by omega) (by omega)).mp z
          · rcases b4 with b4 | b4
            · exact absurd b4 c0
            · exact b4
      · rintro ⟨u1, B⟩ ⟨b1, b2, b3, b4⟩
        dsimp only at b1 b2 b3 b4 ⊢
        subst b1
        exact wp_neg (by rw [h8]; exact fun z => absurd ((lt32 (by omega) (by omega)).mp z) (by omega)) (wpo_of ⟨b2, b3⟩)
      · dsimp only
        rcases h with h | h
        · exact ms_ne h
        · exact ms_ni h
      · dsimp only
        rw [ms_same]
        rfl
      · dsimp only
        exact Or.inl ms_same
    · rintro B ⟨b2, b3⟩
      have hbb := bB_bd (f := f) (n := n) (p := p)
      have b58 : B 58 3 = (uB f n p : Int) := (b2 58 3 (Or.inl (by decide))).trans e4
      have eu : uB f n (p + 1) = if bB f n p = -1 then uB f n p else uB f n p ||| 1 <<< (bB f n p).toNat := rfl
      have e5' : ∀ q, q < p + 1 → B 59 q = bB f n q := fun q hq => by
        by_cases e : q = p
        · rw [e]
          exact b3
        · rw [b2 59 q (Or.inr e)]
          exact e5 q (by omega)
      by_cases c : bB f n p = -1
      · refine wp_then (if_pos (by rw [b3, c])) (wpo_of ⟨by dsimp only; omega, fun c' i h1 h2 => ?_, ?_, ?_, e5'⟩)
        · dsimp only
          rw [b2 c' i (Or.inl h1)]
          exact e2 c' i h1 h2
        · dsimp only
          rw [b2 58 2 (Or.inl (by decide))]
          exact e3
        · dsimp only
          rw [eu, if_pos c]
          exact b58
      · obtain ⟨w, hw⟩ : ∃ w : Nat, bB f n p = (w : Int) := ⟨(bB f n p).toNat, by omega⟩
        refine wp_then (if_neg (fun z => c ?_)) (wpo_of ⟨by dsimp only; omega, fun c' i h1 h2 => ?_, ?_, ?_, fun q hq => ?_⟩)
        · rw [b3] at z
          exact (eq32 (by omega) (by omega)).mp z
        · dsimp only
          rw [ms_at, if_neg (by omega), b2 c' i (Or.inl h1)]
          exact e2 c' i h1 h2
        · dsimp only
          rw [ms_ni (by decide), b2 58 2 (Or.inl (by decide))]
          exact e3
        · dsimp only
          rw [ms_same, b58, b3, hw, or_bit hn hu (by omega), eu, if_neg c, hw, Int.toNat_natCast]
        · dsimp only
          rw [ms_ne (by decide)]
          exact e5' q hq
  · rintro ⟨t1, N⟩ ⟨e1, e2, e3, e4, e5⟩
    dsimp only at e1 e2 e3 e4 e5 ⊢
    subst e1
    exact wp_neg (by rw [h8]; exact fun z => absurd ((lt32 (by omega) (by omega)).mp z) (by omega)) (wpo_of ⟨e2, e3, e4, e5⟩)
  · dsimp only
    rw [ms_at, if_neg (by omega), ms_at, if_neg (by omega)]
  · dsimp only
    rw [ms_ni (by decide), ms_same]
    exact h0
  · dsimp only
    rw [ms_same]
    rfl
/-- what the class keeps between babies is right -/
def YTB (W : Nat → Int) (D : Mem) : Prop := D 58 2 = mB (fB W 0 0) allT (yP (yW W)) (yP (yW W)) 0 ∧ D 58 3 = (uB (fB W 0 0) (yP (yW W)) (yP (yW W)) : Int) ∧ ∀ p, p < yP (yW W) → D 59 p = bB (fB W 0 0) (yP (yW W)) p
def KB (D : Mem) : Prop := D 58 1 = 0 ∨ (D 58 1 = 1 ∧ YTB (D 118) D)
theorem KB.sk {D M : Mem} (h : KB D) (hs : SK D M) : KB M := by
  have e1 : ∀ i, M 58 i = D 58 i := fun i => hs 58 i (by unfold scr; omega)
  have e2 : ∀ i, M 59 i = D 59 i := fun i => hs 59 i (by unfold scr; omega)
  unfold KB YTB at *
  rw [e1, e1, e1, hs.w]
  rcases h with h | ⟨h1, h2, h3, h4⟩
  · exact Or.inl h
  · exact Or.inr ⟨h1, h2, h3, fun p hp => by rw [e2]; exact h4 p hp⟩
theorem sp_workB {D : Mem} (hI : IC D) (hK : KB D) : wpo (f0_work D) (fun M' => SX 58 59 D M' ∧ M' 58 1 = 1 ∧ YTB (D 118) M') := by
  have hP := hI.P
  unfold f0_work
  rcases hK with k0 | ⟨k1, k2⟩
  · refine wp_pos (by rw [k0]; rfl) ?_
    have e8 : D 12 8 = (yP (yW (D 118)) : Int) := by rw [hI.e8, hP.1]
    refine wp_bind.mpr (wpo_mono (sp_findHelpers (o := 60) (s := 0) (m := 0) hI (fun p hp => (hI.2.1.2.1 p (by omega)).1) (fun p hp => (hI.2.1.2.1 p (by omega)).2.2.2) e8 (by decide) (by decide) (by decide)) ?_)
    rintro M1 ⟨a1, a2⟩
    refine wp_bind.mpr (wpo_mono (sp_countFromBehind hP.2 ((a1 12 8 (by decide)).trans e8) a2) ?_)
    rintro M2 ⟨b1, b2⟩
    refine wp_bind.mpr (wpo_mono (sp_chooseFirst hP.2 ((b1 12 8 (by decide)).trans ((a1 12 8 (by decide)).trans e8)) (fun p hp => (b1 60 p (by decide)).trans (a2 p hp)) b2) ?_)
    rintro M3 ⟨c1, c2, c3, c4⟩
    refine wpo_of ⟨fun c i a b => ?_, ms_same, ?_, ?_, fun p hp => ?_⟩
    · rw [ms_ne (by omega), c1 c i (by omega) (by omega), b1 c i (by unfold scr at a; omega), a1 c i (by unfold scr at a; omega)]
    · rw [ms_ni (by decide)]
      exact c2
    · rw [ms_ni (by decide)]
      exact c3
    · rw [ms_ne (by decide)]
      exact c4 p hp
  · exact wp_neg (by rw [k1]; decide) (wpo_of ⟨SK.rf.sx 58 59, k1, k2⟩)
