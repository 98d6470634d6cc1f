/-! LOGIC: how runs of the printed functions are reasoned about (by hand) -/
theorem wp_some {α : Type} {a : α} {P : α → Prop} : wpo (some a) P ↔ P a := ⟨wpo_some, wpo_of⟩
theorem wp_bind {α β : Type} {x : Option α} {f : α → Option β} {P : β → Prop} : wpo (Option.bind x f) P ↔ wpo x (fun a => wpo (f a) P) := by
  refine ⟨wpo_bind, fun h => ?_⟩
  obtain ⟨a, h1, b, h2, h3⟩ := h
  exact ⟨b, by rw [h1]; exact h2, h3⟩
theorem wp_ite {α : Type} {c : Prop} [i : Decidable c] {x y : Option α} {P : α → Prop} : wpo (if c then x else y) P ↔ (c → wpo x P) ∧ (¬ c → wpo y P) := by
  by_cases h : c
  · simp [h]
  · simp [h]
theorem wp_pos {α : Type} {c : Prop} {i : Decidable c} {x y : Option α} {P : α → Prop} (hc : c) (h : wpo x P) : wpo (@ite _ c i x y) P := by rw [if_pos hc]; exact h
theorem wp_neg {α : Type} {c : Prop} {i : Decidable c} {x y : Option α} {P : α → Prop} (hc : ¬ c) (h : wpo y P) : wpo (@ite _ c i x y) P := by rw [if_neg hc]; exact h
theorem wp_none {α : Type} {P : α → Prop} : wpo (none : Option α) P ↔ False := ⟨fun h => wpo_none h, fun h => h.elim⟩
theorem wp_and {α : Type} {x : Option α} {P Q : α → Prop} (h : wpo x P) (h' : wpo x Q) : wpo x (fun a => P a ∧ Q a) := by
  obtain ⟨a, h1, h2⟩ := h
  obtain ⟨b, h3, h4⟩ := h'
  rw [h1] at h3
  cases h3
  exact ⟨a, h1, h2, h4⟩
theorem wp_eq {α : Type} {x : Option α} {a : α} {P : α → Prop} (h : x = some a) : wpo x P ↔ P a := by rw [h, wp_some]
theorem wp_then {α β : Type} {x : Option α} {a : α} {f : α → Option β} {P : β → Prop} (e : x = some a) (h : wpo (f a) P) : wpo (Option.bind x f) P := wp_bind.mpr ((wp_eq e).mpr h)
theorem wp_is {α : Type} {x : Option α} {a : α} (h : wpo x (fun b => b = a)) : x = some a := by
  obtain ⟨b, h1, h2⟩ := h
  rw [h1, h2]
/-- a loop that keeps I and lets mu fall comes to its end -/
theorem wp_loop {σ β : Type} {f : σ → Option (σ ⊕ β)} {P : β → Prop} (I : σ → Prop) (mu : σ → Nat) (hstep : ∀ s, I s → wpo (f s) (fun r => match r with | .inl s' => I s' ∧ mu s' < mu s | .inr b => P b)) : ∀ (n : Nat) (s : σ), I s → mu s < n → wpo (loop f n s) P := by
  intro n
  induction n with
  | zero => intro s _ h; exact absurd h (Nat.not_lt_zero _)
  | succ n ih =>
    intro s hI hm
    rw [loop]
    refine wp_bind.mpr (wpo_mono (hstep s hI) (fun r hr => ?_))
    cases r with
    | inl s' => exact ih s' hr.1 (by omega)
    | inr b => exact wpo_of hr
/-- a loop that counts from lo to hi -/
theorem wp_for {σ β : Type} {f : σ → Option (σ ⊕ β)} {P : β → Prop} (I : Nat → σ → Prop) (hi : Nat) (hstep : ∀ k s, k < hi → I k s → wpo (f s) (fun r => match r with | .inl s' => I (k + 1) s' | .inr b => P b)) (hend : ∀ s, I hi s → wpo (f s) (fun r => match r with | .inl _ => False | .inr b => P b)) : ∀ (n lo : Nat) (s : σ), I lo s → lo ≤ hi → hi - lo < n → wpo (loop f n s) P := by
  intro n
  induction n with
  | zero => intro lo s _ _ h; exact absurd h (Nat.not_lt_zero _)
  | succ n ih =>
    intro lo s hI hlo hn
    rw [loop]
    refine wp_bind.mpr ?_
    by_cases hc : lo < hi
    · refine wpo_mono (hstep lo s hc hI) (fun r hr => ?_)
      cases r with
      | inl s' => exact ih (lo + 1) s' hr (by omega) (by omega)
      | inr b => exact wpo_of hr
    · have he : lo = hi := by omega
      subst he
      refine wpo_mono (hend s hI) (fun r hr => ?_)
      cases r with
      | inl s' => exact hr.elim
      | inr b => exact wpo_of hr
-- numbers in bounds
theorem s32 : (Int32.size : Int) = 4294967296 := rfl
theorem s64 : (Int64.size : Int) = 18446744073709551616 := rfl
theorem w32_id {x : Int} (h : -2147483648 ≤ x ∧ x < 2147483648) : w32 x = x := by
  rw [w32, Int32.toInt_ofInt, Int.bmod_def, s32]
  omega
theorem w64_id {x : Int} (h : -9223372036854775808 ≤ x ∧ x < 9223372036854775808) : w64 x = x := by
  rw [w64, Int64.toInt_ofInt, Int.bmod_def, s64]
  omega
theorem w32_bd (x : Int) : -2147483648 ≤ w32 x ∧ w32 x < 2147483648 := by
  rw [w32, Int32.toInt_ofInt, Int.bmod_def, s32]
  omega
theorem lt32 {x y : Int} (hx : -2147483648 ≤ x ∧ x < 2147483648) (hy : -2147483648 ≤ y ∧ y < 2147483648) : (w32 x < w32 y) ↔ x < y := by rw [w32_id hx, w32_id hy]
theorem eq32 {x y : Int} (hx : -2147483648 ≤ x ∧ x < 2147483648) (hy : -2147483648 ≤ y ∧ y < 2147483648) : (w32 x = w32 y) ↔ x = y := by rw [w32_id hx, w32_id hy]
theorem w32_w32 (x : Int) : w32 (w32 x) = w32 x := w32_id (w32_bd x)
theorem ofInt_w32 (x : Int) : Int32.ofInt (w32 x) = Int32.ofInt x := by rw [w32, Int32.ofInt_toInt]
-- memory
theorem ms_same {D : Mem} {c i : Nat} {v : Int} : mset D c i v c i = v := by simp [mset]
theorem ms_ne {D : Mem} {c i c' i' : Nat} {v : Int} (h : c' ≠ c) : mset D c i v c' i' = D c' i' := by simp [mset, h]
theorem ms_ni {D : Mem} {c i c' i' : Nat} {v : Int} (h : i' ≠ i) : mset D c i v c' i' = D c' i' := by simp [mset, h]
theorem ms_at {D : Mem} {c i c' i' : Nat} {v : Int} : mset D c i v c' i' = if c' = c ∧ i' = i then v else D c' i' := rfl
-- sets of bits
theorem bv_of {a : Nat} (h : a < 2147483648) : (Int32.ofInt (a : Int)).toBitVec = BitVec.ofNat 32 a := by
  rw [Int32.toBitVec_ofInt]
  exact BitVec.ofInt_natCast 32 a
theorem ti_of {a : Nat} (h : a < 2147483648) : (BitVec.ofNat 32 a).toInt = (a : Int) := by
  rw [BitVec.toInt_ofNat', Int.bmod_def]
  omega
theorem or32_nat {a b : Nat} (ha : a < 2147483648) (hb : b < 2147483648) : or32 (a : Int) (b : Int) = ((a ||| b : Nat) : Int) := by
  have hc : a ||| b < 2147483648 := Nat.or_lt_two_pow (n := 31) ha hb
  rw [or32, ← Int32.toInt_toBitVec, Int32.toBitVec_or, bv_of ha, bv_of hb, ← BitVec.ofNat_or, ti_of hc]
theorem and32_nat {a b : Nat} (ha : a < 2147483648) (hb : b < 2147483648) : and32 (a : Int) (b : Int) = ((a &&& b : Nat) : Int) := by
  have hc : a &&& b < 2147483648 := Nat.and_lt_two_pow (n := 31) a hb
  rw [and32, ← Int32.toInt_toBitVec, Int32.toBitVec_and, bv_of ha, bv_of hb, ← BitVec.ofNat_and, ti_of hc]
theorem xor32_nat {a b : Nat} (ha : a < 2147483648) (hb : b < 2147483648) : xor32 (a : Int) (b : Int) = ((a ^^^ b : Nat) : Int) := by
  have hc : a ^^^ b < 2147483648 := Nat.xor_lt_two_pow (n := 31) ha hb
  rw [xor32, ← Int32.toInt_toBitVec, Int32.toBitVec_xor, bv_of ha, bv_of hb, ← BitVec.ofNat_xor, ti_of hc]
