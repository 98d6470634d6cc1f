/-! KINDER: the class's sets of bearers (by hand) -/
/-- sets that come of the first k sets, and of set k with the first j bearers -/
def New (f : Nat → Nat → Bool) (g : Nat → Bool) (n p k j u : Nat) : Prop := ∃ u' b, (u' < k ∨ (u' = k ∧ b < j)) ∧ b < n ∧ Rch f g n p u' ∧ u'.testBit b = false ∧ f p b = true ∧ u = u' ||| 1 <<< b
/-- what is marked: at the start M, and the new ones -/
def RI (f : Nat → Nat → Bool) (g : Nat → Bool) (n p : Nat) (M N : Mem) (k j : Nat) (v : Int) : Prop := (∀ c i, c ≠ 63 → N c i = M c i) ∧ (∀ u, u < 2 ^ n → (N 63 u = 0 ∨ N 63 u = 1) ∧ (N 63 u ≠ 0 ↔ M 63 u ≠ 0 ∨ New f g n p k j u)) ∧ (v = 0 ∨ v = 1) ∧ (v ≠ 0 ↔ ∃ u, New f g n p k j u)
theorem RI.skip {f : Nat → Nat → Bool} {g : Nat → Bool} {n p k : Nat} {M N : Mem} {v : Int} (h : RI f g n p M N k 0 v) (hk : ¬ Rch f g n p k) : RI f g n p M N (k + 1) 0 v := by
  have e : ∀ u, New f g n p (k + 1) 0 u ↔ New f g n p k 0 u := fun u => by
    constructor
    · rintro ⟨u', b, h1, h2, h3, h4⟩
      refine ⟨u', b, ?_, h2, h3, h4⟩
      rcases h1 with h1 | ⟨-, h1⟩
      · by_cases e : u' = k
        · rw [e] at h3
          exact absurd h3 hk
        · exact Or.inl (by omega)
      · omega
    · rintro ⟨u', b, h1, h2⟩
      exact ⟨u', b, Or.inl (by omega), h2⟩
  obtain ⟨a1, a2, a3, a4⟩ := h
  refine ⟨a1, fun u hu => ?_, a3, ?_⟩
  · rw [e]
    exact a2 u hu
  · rw [a4]
    exact ⟨fun ⟨u, hu⟩ => ⟨u, (e u).mpr hu⟩, fun ⟨u, hu⟩ => ⟨u, (e u).mp hu⟩⟩
theorem RI.done {f : Nat → Nat → Bool} {g : Nat → Bool} {n p k : Nat} {M N : Mem} {v : Int} (h : RI f g n p M N k n v) : RI f g n p M N (k + 1) 0 v := by
  have e : ∀ u, New f g n p (k + 1) 0 u ↔ New f g n p k n u := fun u => by
    constructor
    · rintro ⟨u', b, h1, h2, h3⟩
      exact ⟨u', b, by omega, h2, h3⟩
    · rintro ⟨u', b, h1, h2, h3⟩
      exact ⟨u', b, by omega, h2, h3⟩
  obtain ⟨a1, a2, a3, a4⟩ := h
  refine ⟨a1, fun u hu => ?_, a3, ?_⟩
  · rw [e]
    exact a2 u hu
  · rw [a4]
    exact ⟨fun ⟨u, hu⟩ => ⟨u, (e u).mpr hu⟩, fun ⟨u, hu⟩ => ⟨u, (e u).mp hu⟩⟩
theorem New.next {f : Nat → Nat → Bool} {g : Nat → Bool} {n p k j u : Nat} : New f g n p k (j + 1) u ↔ New f g n p k j u ∨ (j < n ∧ Rch f g n p k ∧ k.testBit j = false ∧ f p j = true ∧ u = k ||| 1 <<< j) := by
  constructor
  · rintro ⟨u', b, h1, h2, h3⟩
    by_cases e : u' = k ∧ b = j
    · rw [e.1, e.2] at h3
      exact Or.inr ⟨by omega, h3⟩
    · exact Or.inl ⟨u', b, by omega, h2, h3⟩
  · rintro (⟨u', b, h1, h2, h3⟩ | ⟨h2, h3⟩)
    · exact ⟨u', b, by omega, h2, h3⟩
    · exact ⟨k, j, Or.inr ⟨rfl, Nat.lt_succ_self j⟩, h2, h3⟩
theorem RI.no {f : Nat → Nat → Bool} {g : Nat → Bool} {n p k j : Nat} {M N : Mem} {v : Int} (h : RI f g n p M N k j v) (hn : ¬ (k.testBit j = false ∧ f p j = true)) : RI f g n p M N k (j + 1) v := by
  have e : ∀ u, New f g n p k (j + 1) u ↔ New f g n p k j u := fun u => by
    rw [New.next]
    constructor
    · rintro (h | ⟨-, -, h1, h2, -⟩)
      · exact h
      · exact absurd ⟨h1, h2⟩ hn
    · exact Or.inl
  obtain ⟨a1, a2, a3, a4⟩ := h
  refine ⟨a1, fun u hu => ?_, a3, ?_⟩
  · rw [e]
    exact a2 u hu
  · rw [a4]
    exact ⟨fun ⟨u, hu⟩ => ⟨u, (e u).mpr hu⟩, fun ⟨u, hu⟩ => ⟨u, (e u).mp hu⟩⟩
theorem RI.yes {f : Nat → Nat → Bool} {g : Nat → Bool} {n p k j : Nat} {M N : Mem} {v : Int} (h : RI f g n p M N k j v) (hj : j < n) (hk : Rch f g n p k) (h1 : k.testBit j = false) (h2 : f p j = true) : RI f g n p M (mset N 63 (k ||| 1 <<< j) 1) k (j + 1) 1 := by
  obtain ⟨a1, a2, a3, a4⟩ := h
  have hnew : New f g n p k (j + 1) (k ||| 1 <<< j) := New.next.mpr (Or.inr ⟨hj, hk, h1, h2, rfl⟩)
  refine ⟨fun c i h => ?_, fun u hu => ?_, Or.inr rfl, fun _ => ⟨_, hnew⟩, fun _ => by decide⟩
  · rw [ms_ne h]
    exact a1 c i h
  · by_cases e : u = k ||| 1 <<< j
    · rw [e, ms_same]
      exact ⟨Or.inr rfl, fun _ => Or.inr hnew, fun _ => by decide⟩
    · rw [ms_ni e]
      obtain ⟨b1, b2⟩ := a2 u hu
      refine ⟨b1, ?_⟩
      rw [b2, New.next]
      constructor
      · rintro (h | h)
        · exact Or.inl h
        · exact Or.inr (Or.inl h)
      · rintro (h | h | ⟨-, -, -, -, h⟩)
        · exact Or.inl h
        · exact Or.inr h
        · exact absurd h e
/-- the sets marked are those that can be used up -/
def RT (f : Nat → Nat → Bool) (g : Nat → Bool) (n p : Nat) (M : Mem) : Prop := ∀ u, u < 2 ^ n → (M 63 u = 0 ∨ M 63 u = 1) ∧ (M 63 u ≠ 0 → pc u ≤ cl g p) ∧ ((M 63 u ≠ 0 ∧ pc u = cl g p) ↔ Rch f g n p u)
set_option maxHeartbeats 1000000 in
theorem sp_addBearers {M : Mem} {f : Nat → Nat → Bool} {g : Nat → Bool} {n p : Nat} (hn : n ≤ 8) (hp : p < n) (hg : g p = true) (h8 : M 12 8 = (n : Int)) (h61 : M 61 p = ((nset (f p) n : Nat) : Int)) (hT : RT f g n p M) : wpo (f0_addBearers M (p : Int) (cl g p : Int)) (fun r => (r.1 = 0 ∨ r.1 = 1) ∧ (r.1 ≠ 0 ↔ ∃ u, Rch f g n (p + 1) u) ∧ (∀ c i, c ≠ 63 → r.2 c i = M c i) ∧ RT f g n (p + 1) r.2) := by
  have h256 := pow8 hn
  have hcl := cl_le (g := g) (p := p)
  unfold f0_addBearers
  refine wp_then rfl ?_
  rw [h8, shl_one (by omega)]
  refine wp_bind.mpr (wpo_mono (P := fun r => RI f g n p M r.2 (2 ^ n) 0 r.1) ?_ ?_)
  · refine wp_for (I := fun k t => t.2.1 = (k : Int) ∧ RI f g n p M t.2.2 k 0 t.1) (2 ^ n) ?_ ?_ FU 0 _ ⟨rfl, fun _ _ _ => rfl, fun u hu => ⟨(hT u hu).1, fun h => Or.inl h, fun h => ?_⟩, Or.inl rfl, fun h => absurd rfl h, fun ⟨u, u', b, h, _⟩ => by omega⟩ (Nat.zero_le _) (by unfold FU; omega)
    · rintro k ⟨v, t2, N⟩ hk ⟨e1, hR⟩
      dsimp only at e1 hR ⊢
      subst e1
      obtain ⟨a1, a2, a3, a4⟩ := hR
      obtain ⟨b1, b2⟩ := a2 k hk
      have hpk := pc_bd (a := k)
      refine wp_pos ((lt32 (by omega) (by omega)).mpr (by omega)) (wp_pos (by omega) ?_)
      have hnk : New f g n p k 0 k → pc k = cl g p + 1 := by
        rintro ⟨u', b, -, hb, hr, ht, -, e⟩
        rw [e, pc_or u' (by have := hr.lt; omega) b (by omega) ht, rch_pc hn hr]
      rw [Int.toNat_natCast]
      by_cases c1 : N 63 k = 0
      · have hno : ¬ Rch f g n p k := fun z => by
          have := ((hT k hk).2.2.mpr z).1
          exact b2.mpr (Or.inl this) c1
        refine wp_then (a := (v, N)) (if_pos (by rw [c1]; rfl)) (wpo_of ⟨by dsimp only; omega, RI.skip ⟨a1, a2, a3, a4⟩ hno⟩)
      · have c1' : N 63 k = 1 := by rcases b1 with h | h; exact absurd h c1; exact h
        by_cases c2 : pc k = cl g p
        · have hmk : M 63 k ≠ 0 := by
            rcases b2.mp c1 with h | h
            · exact h
            · have := hnk h
              omega
          have hr : Rch f g n p k := (hT k hk).2.2.mp ⟨hmk, c2⟩
          refine wp_bind.mpr (wpo_mono (P := fun j => RI f g n p M j.2 (k + 1) 0 j.1) ?_ (fun j hj => wpo_of ⟨by dsimp only; omega, hj⟩))
          refine wp_neg (by rw [c1']; decide) (wp_then (sp_bitCount (by omega)) (wp_pos (by rw [c2]) (wp_pos (by omega) (wp_then rfl ?_))))
          rw [Int.toNat_natCast, a1 61 p (by decide), h61]
          refine wp_bind.mpr (wpo_mono (P := fun r => RI f g n p M r.2 k n r.1) ?_ (fun r hr => wpo_of hr.done))
          refine wp_for (I := fun j t => t.2.1 = (j : Int) ∧ RI f g n p M t.2.2 k j t.1) n ?_ ?_ FU 0 _ ⟨rfl, a1, a2, a3, a4⟩ (Nat.zero_le _) (by unfold FU; omega)
          · rintro j ⟨w, u2, B⟩ hj ⟨d1, hB⟩
            dsimp only at d1 hB ⊢
            subst d1
            have k8 : B 12 8 = (n : Int) := (hB.1 12 8 (by decide)).trans h8
            have hfb := free_bit (F := f p) hn hk hj
            have hob := or_bit hn hk hj
            have hol := or_lt hk hj
            refine wp_pos (by rw [k8]; exact (lt32 (by omega) (by omega)).mpr (by omega)) ?_
            by_cases c : (!k.testBit j && f p j) = true
            · have c' := c
              rw [Bool.and_eq_true, Bool.not_eq_true'] at c'
              refine wp_then (a := ((1 : Int), mset B 63 (k ||| 1 <<< j) 1)) (wp_is ?_) (wpo_of ⟨by dsimp only; omega, hB.yes hj hr c'.1 c'.2⟩)
              refine wp_neg (by rw [hfb, if_pos c]; decide) (wp_pos (by rw [hob]; omega) (wpo_of ?_))
              rw [hob, Int.toNat_natCast]
            · refine wp_then (a := (w, B)) (if_pos (by rw [hfb, if_neg c]; rfl)) (wpo_of ⟨by dsimp only; omega, hB.no (fun z => c (by rw [z.1, z.2]; rfl))⟩)
          · rintro ⟨w, u2, B⟩ ⟨d1, hB⟩
            dsimp only at d1 hB ⊢
            subst d1
            have k8 : B 12 8 = (n : Int) := (hB.1 12 8 (by decide)).trans h8
            exact wp_neg (by rw [k8]; exact fun z => absurd ((lt32 (by omega) (by omega)).mp z) (by omega)) (wpo_of hB)
        · have hno : ¬ Rch f g n p k := fun z => c2 (rch_pc hn z)
          refine wp_then (a := (v, N)) (wp_is ?_) (wpo_of ⟨by dsimp only; omega, RI.skip ⟨a1, a2, a3, a4⟩ hno⟩)
          refine wp_neg (by rw [c1']; decide) (wp_then (sp_bitCount (by omega)) (wp_neg (fun z => c2 ?_) (wpo_of rfl)))
          have := (eq32 (by omega) (by omega)).mp z
          omega
    · rintro ⟨v, t2, N⟩ ⟨e1, hR⟩
      dsimp only at e1 hR ⊢
      subst e1
      exact wp_neg (fun z => absurd ((lt32 (by omega) (by omega)).mp z) (by omega)) (wpo_of hR)
    · rcases h with h | ⟨u', b, h, -⟩
      · exact h
      · omega
  · rintro ⟨v, N⟩ ⟨a1, a2, a3, a4⟩
    dsimp only at a1 a2 a3 a4 ⊢
    have hnew : ∀ u, New f g n p (2 ^ n) 0 u ↔ Rch f g n (p + 1) u := fun u => by
      constructor
      · rintro ⟨u', b, -, h2, h3, h4, h5, h6⟩
        exact Or.inl ⟨hg, u', b, h2, h3, h4, h5, h6⟩
      · intro h
        rw [Rch] at h
        rcases h with ⟨-, u', b, h2, h3, h4, h5, h6⟩ | ⟨h, -⟩
        · exact ⟨u', b, Or.inl h3.lt, h2, h3, h4, h5, h6⟩
        · rw [hg] at h
          cases h
    have ecl : cl g (p + 1) = cl g p + 1 := by
      rw [cl, if_pos hg]
    refine wp_pos a3 (wpo_of ⟨a3, ?_, a1, fun u hu => ?_⟩)
    · dsimp only
      rw [a4]
      exact ⟨fun ⟨u, h⟩ => ⟨u, (hnew u).mp h⟩, fun ⟨u, h⟩ => ⟨u, (hnew u).mpr h⟩⟩
    · dsimp only
      obtain ⟨b1, b2⟩ := a2 u hu
      rw [hnew] at b2
      obtain ⟨c1, c2, c3⟩ := hT u hu
      refine ⟨b1, fun h => ?_, ?_⟩
      · rcases b2.mp h with h | h
        · have := c2 h
          omega
        · have := rch_pc hn h
          omega
      · constructor
        · rintro ⟨h1, h2⟩
          rcases b2.mp h1 with h | h
          · have := c2 h
            omega
          · exact h
        · intro h
          exact ⟨b2.mpr (Or.inr h), rch_pc hn h⟩
