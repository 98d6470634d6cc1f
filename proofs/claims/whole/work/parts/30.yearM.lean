/-! THE REFERENCE'S YEAR (by hand) -/
/-- a loop with a measure beside the state -/
theorem wp_loopm {σ β : Type} {f : σ → Option (σ ⊕ β)} {P : β → Prop} (I : Nat → σ → Prop) (hstep : ∀ m s, I m s → wpo (f s) (fun r => match r with | .inl s' => ∃ m', m' < m ∧ I m' s' | .inr b => P b)) : ∀ (n m : Nat) (s : σ), I m s → m < n → wpo (loop f n s) P := by
  intro n
  induction n with
  | zero => intro m s _ h; exact absurd h (Nat.not_lt_zero _)
  | succ n ih =>
    intro m s hI hm
    rw [loop]
    refine wp_bind.mpr (wpo_mono (hstep m s hI) (fun r hr => ?_))
    cases r with
    | inl s' =>
      obtain ⟨m', h1, h2⟩ := hr
      exact ih m' s' h2 (by omega)
    | inr b => exact wpo_of hr
def YM (Y D : Mem) : Prop := Y 0 0 = D 118 0 ∧ Y 0 1 = D 117 19 ∧ Y 0 2 = D 117 20 ∧ Y 0 3 = D 117 22 ∧ Y 0 4 = D 118 2 ∧ Y 0 5 = D 118 3 ∧ Y 0 6 = D 118 7 ∧ (-1 ≤ D 117 21 ∧ D 117 21 ≤ 100) ∧ ∀ p, p < yP Y → Y 1 p = D 124 p ∧ Y 2 p = D 118 (10 + 4 * p + 2) ∧ Y 3 p = (if (p : Int) = D 117 21 then 100 else D 125 p) ∧ Y 4 p = D 124 p + D 126 p ∧ Y 5 p = D 127 p ∧ (0 ≤ D 125 p ∧ D 125 p ≤ 100)
def MK (D D' : Mem) : Prop := ∀ c i, (c < 128 ∨ 131 < c) → (c ≠ 117 ∨ i ≠ 27) → D' c i = D c i
theorem MK.rf {D : Mem} : MK D D := fun _ _ _ _ => rfl
theorem MK.tr {D D' D'' : Mem} (h : MK D D') (h' : MK D' D'') : MK D D'' := fun c i a b => (h' c i a b).trans (h c i a b)
theorem MK.set {D D' : Mem} (h : MK D D') {c i : Nat} {v : Int} (hc : 128 ≤ c ∧ c ≤ 131) : MK D (mset D' c i v) := fun c' i' a b => by rw [ms_ne (by omega)]; exact h c' i' a b
theorem MK.feast {D D' : Mem} (h : MK D D') {v : Int} : MK D (mset D' 117 27 v) := fun c' i' a b => by
  by_cases e : c' = 117
  · rw [ms_ni (by omega)]; exact h c' i' a b
  · rw [ms_ne e]; exact h c' i' a b
theorem YM.keep {Y D D' : Mem} (h : YM Y D) (k : MK D D') : YM Y D' := by
  obtain ⟨h0, h1, h2, h3, h4, h5, h6, hg, h7⟩ := h
  have e : ∀ i, i ≠ 27 → D' 117 i = D 117 i := fun i hi => k 117 i (by omega) (Or.inr hi)
  have f : ∀ c i, c < 128 → c ≠ 117 → D' c i = D c i := fun c i hc hn => k c i (Or.inl hc) (Or.inl hn)
  refine ⟨?_, ?_, ?_, ?_, ?_, ?_, ?_, ?_, fun p hp => ?_⟩
  · rw [f 118 0 (by omega) (by omega)]; exact h0
  · rw [e 19 (by omega)]; exact h1
  · rw [e 20 (by omega)]; exact h2
  · rw [e 22 (by omega)]; exact h3
  · rw [f 118 2 (by omega) (by omega)]; exact h4
  · rw [f 118 3 (by omega) (by omega)]; exact h5
  · rw [f 118 7 (by omega) (by omega)]; exact h6
  · rw [e 21 (by omega)]; exact hg
  · rw [e 21 (by omega), f 124 p (by omega) (by omega), f 118 _ (by omega) (by omega), f 125 p (by omega) (by omega), f 126 p (by omega) (by omega), f 127 p (by omega) (by omega)]
    exact h7 p hp
def ymkey (Y : Mem) (p : Nat) : Int := 10 * (yrank Y p + (if Y 0 2 = 1 then 100 else 0)) + p
theorem ymkey_lt {Y : Mem} {p q : Nat} (hp : p < 10) (hq : q < 10) : ymkey Y p < ymkey Y q ↔ ykey Y p q := by
  unfold ymkey ykey
  omega
theorem sp_keyOf {Y D : Mem} {p : Nat} (hY : YOK Y) (h : YM Y D) (hp : p < yP Y) (hng : (p : Int) ≠ D 117 21) : f10_keyOf D (p : Int) = some (ymkey Y p) := by
  obtain ⟨h0, h1, h2, h3, h4, h5, h6, hg, h7⟩ := h
  obtain ⟨a1, a2, a3, a4, a5, a6⟩ := h7 p hp
  rw [if_neg hng] at a3
  have hP := hY.P
  have hr := hY.2.2.1
  have e : ∀ x : Int, 0 ≤ x ∧ x ≤ 3 → (w32 (D 117 20) = w32 x ↔ Y 0 2 = x) := fun x hx => by rw [← h2]; exact eq32 (by omega) (by omega)
  refine wp_is ?_
  unfold f10_keyOf ymkey yrank
  refine wp_pos (by omega) ?_
  refine wp_then rfl ?_
  rw [Int.toNat_natCast]
  by_cases c1 : Y 0 2 = 1
  · refine wp_then (if_pos ((e 1 (by omega)).mpr c1)) (wpo_of ?_)
    rw [if_pos c1, if_pos c1, ← a4]
    omega
  · by_cases c2 : Y 0 2 = 2
    · refine wp_then ((if_neg (fun x => c1 ((e 1 (by omega)).mp x))).trans (if_pos ((e 2 (by omega)).mpr c2))) (wpo_of ?_)
      rw [if_neg c1, if_pos c2, if_neg c1, ← a4]
      omega
    · by_cases c3 : Y 0 2 = 3
      · refine wp_then ((if_neg (fun x => c1 ((e 1 (by omega)).mp x))).trans ((if_neg (fun x => c2 ((e 2 (by omega)).mp x))).trans (if_pos ((e 3 (by omega)).mpr c3)))) (wpo_of ?_)
        rw [if_neg c1, if_neg c2, if_pos c3, if_neg c1, ← a3]
        omega
      · refine wp_then ((if_neg (fun x => c1 ((e 1 (by omega)).mp x))).trans ((if_neg (fun x => c2 ((e 2 (by omega)).mp x))).trans (if_neg (fun x => c3 ((e 3 (by omega)).mp x))))) (wpo_of ?_)
        rw [if_neg c1, if_neg c2, if_neg c3, if_neg c1]
        omega
theorem ymkey_bd {Y : Mem} (hY : YOK Y) {p : Nat} (hp : p < yP Y) : -2000 ≤ ymkey Y p ∧ ymkey Y p ≤ 3000 := by
  have h1 := hY.rank hp
  have h2 := hY.P
  unfold ymkey
  split <;> omega
theorem nset_lt8 (f : Nat → Bool) {n : Nat} (h : n ≤ 8) : nset f n < 256 := Nat.lt_of_lt_of_le (nset_lt f n) (Nat.pow_le_pow_right (by decide) h : 2 ^ n ≤ 2 ^ 8)
/-- the bit of a told set -/
theorem sp_bit {D : Mem} {f : Nat → Bool} {n p : Nat} (hn : n ≤ 8) (hp : p < n) : f10_bit D (nset f n : Nat) (p : Int) = some (if f p = true then 1 else 0) := by
  unfold f10_bit
  have h1 := nset_lt8 f hn
  rw [bit_of (by omega) (by omega), nset_bit]
  simp [hp]
set_option maxHeartbeats 4000000 in
theorem sp_nextOf {Y D : Mem} {f : Nat → Bool} {p : Nat} (hY : YOK Y) (h : YM Y D) (hp : p < yP Y) (hf : f p = true) (hng : ∀ q, q < yP Y → f q = true → (q : Int) ≠ D 117 21) (hmin : ∀ q, q < yP Y → f q = true → q ≠ p → ykey Y p q) : f10_nextOf D (nset f (yP Y) : Nat) = some (p : Int) := by
  refine wp_is ?_
  unfold f10_nextOf
  refine wp_bind.mpr ?_
  simp only [wp_some]
  have hP := hY.P
  have e8 : D 118 7 = Y 0 6 := h.2.2.2.2.2.2.1.symm
  refine wp_for (I := fun k s => s.2 = (k : Int) ∧ ((s.1 = -1 ∧ ∀ q, q < k → f q = false) ∨ ∃ b : Nat, s.1 = (b : Int) ∧ b < k ∧ f b = true ∧ ∀ q, q < k → f q = true → q ≠ b → ykey Y b q)) (yP Y) ?_ ?_ FU 0 _ ⟨rfl, Or.inl ⟨rfl, fun q hq => absurd hq (Nat.not_lt_zero _)⟩⟩ (Nat.zero_le _) (by unfold FU; omega)
  · rintro k ⟨s1, s2⟩ hk ⟨e1, hb⟩
    dsimp only at e1 hb ⊢
    subst e1
    refine wp_pos (by rw [e8]; exact (lt32 (by omega) (by omega)).mpr (by omega)) ?_
    refine wp_then (sp_bit hP.2 hk) ?_
    by_cases hfk : f k = true
    · have hkg := hng k hk hfk
      have kb := ymkey_bd hY hk
      rcases hb with ⟨b1, b2⟩ | ⟨b, b1, b2, b3, b4⟩
      · refine wp_then (a := (k : Int)) ?_ (wpo_of ⟨by dsimp only; omega, Or.inr ⟨k, rfl, Nat.lt_succ_self k, hfk, fun q hq hfq hne => ?_⟩⟩)
        · rw [if_pos (by rw [if_pos hfk]), if_pos (by rw [b1])]
        · rw [b2 q (by omega)] at hfq
          cases hfq
      · have hbg := hng b (by omega) b3
        have bb := ymkey_bd hY (show b < yP Y by omega)
        by_cases hlt : ykey Y k b
        · refine wp_then (a := (k : Int)) ?_ (wpo_of ⟨by dsimp only; omega, Or.inr ⟨k, rfl, Nat.lt_succ_self k, hfk, fun q hq hfq hne => ?_⟩⟩)
          · refine wp_is ?_
            refine wp_pos (by rw [if_pos hfk]) ?_
            refine wp_neg (fun hh => absurd ((eq32 (by omega) (by omega)).mp hh) (by omega)) ?_
            refine wp_then (sp_keyOf hY h hk hkg) ?_
            rw [b1]
            refine wp_then (sp_keyOf hY h (show b < yP Y by omega) hbg) ?_
            exact wp_pos ((lt32 (by omega) (by omega)).mpr ((ymkey_lt (by omega) (by omega)).mpr hlt)) (wpo_of rfl)
          · by_cases hqb : q = b
            · rw [hqb]; exact hlt
            · exact ykey_lt hlt (b4 q (by omega) hfq hqb)
        · have hbk : ykey Y b k := by
            unfold ykey at hlt ⊢
            omega
          refine wp_then (a := (b : Int)) ?_ (wpo_of ⟨by dsimp only; omega, Or.inr ⟨b, rfl, by omega, b3, fun q hq hfq hne => ?_⟩⟩)
          · refine wp_is ?_
            refine wp_pos (by rw [if_pos hfk]) ?_
            refine wp_neg (fun hh => absurd ((eq32 (by omega) (by omega)).mp hh) (by omega)) ?_
            refine wp_then (sp_keyOf hY h hk hkg) ?_
            rw [b1]
            refine wp_then (sp_keyOf hY h (show b < yP Y by omega) hbg) ?_
            exact wp_neg (fun hh => hlt ((ymkey_lt (by omega) (by omega)).mp ((lt32 (by omega) (by omega)).mp hh))) (wpo_of rfl)
          · by_cases hqk : q = k
            · rw [hqk]; exact hbk
            · exact b4 q (by omega) hfq hne
    · have hfk2 : f k = false := by simpa using hfk
      refine wp_then (a := s1) ?_ (wpo_of ⟨by dsimp only; omega, ?_⟩)
      · rw [if_neg (by rw [if_neg hfk]; decide)]
      · rcases hb with ⟨b1, b2⟩ | ⟨b, b1, b2, b3, b4⟩
        · refine Or.inl ⟨b1, fun q hq => ?_⟩
          by_cases hqk : q = k
          · rw [hqk]; exact hfk2
          · exact b2 q (by omega)
        · refine Or.inr ⟨b, b1, by omega, b3, fun q hq hfq hne => ?_⟩
          by_cases hqk : q = k
          · rw [hqk, hfk2] at hfq
            cases hfq
          · exact b4 q (by omega) hfq hne
  · rintro ⟨s1, s2⟩ ⟨e1, hb⟩
    dsimp only at e1 hb ⊢
    subst e1
    refine wp_neg (by rw [e8]; exact fun hh => absurd ((lt32 (by omega) (by omega)).mp hh) (by omega)) ?_
    refine wpo_of ?_
    rcases hb with ⟨b1, b2⟩ | ⟨b, b1, b2, b3, b4⟩
    · rw [b2 p hp] at hf
      cases hf
    · by_cases hbp : b = p
      · rw [b1, hbp]
      · have h1 := b4 p hp hf (fun e => hbp e.symm)
        have h2 := hmin b b2 b3 hbp
        unfold ykey at h1 h2
        omega
