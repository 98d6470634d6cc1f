/-! BETWEEN BABIES: the class's tables (by hand) -/
theorem IC.bears {D : Mem} (hI : IC D) {b : Nat} (hb : b < yP (yW (D 118))) : 0 ≤ D 118 (10 + 4 * b + 3) ∧ D 118 (10 + 4 * b + 3) ≤ 20 := by
  have hP := hI.P
  exact (hI.1.2.1 b (by omega)).2.2.2
theorem sp_findHelpers {D M : Mem} {o s : Nat} {m : Int} (hI : IC D) (h13 : ∀ p, p < yP (yW (D 118)) → M 13 p = yW (D 118) 1 p) (h16 : ∀ p, p < yP (yW (D 118)) → M 16 p = D 118 (10 + 4 * p + 3)) (h8 : M 12 8 = (yP (yW (D 118)) : Int)) (ho : 60 ≤ o ∧ o ≤ 61) (hs : s < 256) (hm : 0 ≤ m ∧ m ≤ 20) : wpo (f0_findHelpers M o (s : Int) m) (fun M' => (∀ c i, c ≠ o → M' c i = M c i) ∧ ∀ p, p < yP (yW (D 118)) → M' o p = ((nset (fB (D 118) s m p) (yP (yW (D 118))) : Nat) : Int)) := by
  have hP := hI.P
  unfold f0_findHelpers
  refine wp_bind.mpr ?_
  simp only [wp_some]
  refine wp_for (I := fun p t => t.1 = (p : Int) ∧ (∀ c i, c ≠ o → t.2 c i = M c i) ∧ ∀ q, q < p → t.2 o q = ((nset (fB (D 118) s m q) (yP (yW (D 118))) : Nat) : Int)) (yP (yW (D 118))) ?_ ?_ FU 0 _ ⟨rfl, fun _ _ _ => rfl, fun q hq => absurd hq (Nat.not_lt_zero _)⟩ (Nat.zero_le _) (by unfold FU; omega)
  · rintro p ⟨t1, N⟩ hp ⟨e1, e2, e3⟩
    dsimp only at e1 e2 e3 ⊢
    subst e1
    have n8 : N 12 8 = (yP (yW (D 118)) : Int) := (e2 12 8 (by omega)).trans h8
    refine wp_pos (by rw [n8]; exact (lt32 (by omega) (by omega)).mpr (by omega)) (wp_pos (by omega) (wp_then rfl ?_))
    rw [Int.toNat_natCast]
    refine wp_bind.mpr (wpo_mono (P := fun B => (∀ c i, c ≠ o → B c i = M c i) ∧ (∀ q, q < p → B o q = ((nset (fB (D 118) s m q) (yP (yW (D 118))) : Nat) : Int)) ∧ B o p = ((nset (fB (D 118) s m p) (yP (yW (D 118))) : Nat) : Int)) ?_ ?_)
    · refine wp_for (I := fun b u => u.1 = (b : Int) ∧ (∀ c i, c ≠ o → u.2 c i = M c i) ∧ (∀ q, q < p → u.2 o q = ((nset (fB (D 118) s m q) (yP (yW (D 118))) : Nat) : Int)) ∧ u.2 o p = ((nset (fB (D 118) s m p) b : Nat) : Int)) (yP (yW (D 118))) ?_ ?_ FU 0 _ ⟨rfl, fun c i h => ?_, fun q hq => ?_, ?_⟩ (Nat.zero_le _) (by unfold FU; omega)
      · rintro b ⟨u1, B⟩ hb ⟨b1, b2, b3, b4⟩
        dsimp only at b1 b2 b3 b4 ⊢
        subst b1
        have k8 : B 12 8 = (yP (yW (D 118)) : Int) := (b2 12 8 (by omega)).trans h8
        have k13 : B 13 p = yW (D 118) 1 p := (b2 13 p (by omega)).trans (h13 p hp)
        have k16 : B 16 b = D 118 (10 + 4 * b + 3) := (b2 16 b (by omega)).trans (h16 b hb)
        have hab := yW_ache hI hp
        have hbb := hI.bears hb
        have hbit := bit8 (p := b) hs (by omega)
        refine wp_pos (by rw [k8]; exact (lt32 (by omega) (by omega)).mpr (by omega)) (wp_pos (by omega) ?_)
        refine wp_then (a := if s.testBit b = true then m else 0) ?_ (wp_then rfl ?_)
        · refine wp_is ?_
          by_cases c : s.testBit b = true
          · exact wp_neg (by rw [hbit, if_pos c]; decide) (wpo_of (by rw [if_pos c]))
          · exact wp_pos (by rw [hbit, if_neg c]; decide) (wpo_of (by rw [if_neg c]))
        · rw [Int.toNat_natCast, k16]
          have hmb : 0 ≤ (if s.testBit b = true then m else 0) ∧ (if s.testBit b = true then m else 0) ≤ 20 := by split <;> omega
          refine wp_then (a := if fB (D 118) s m p b = true then mset B o p (or32 (B o p) (shl32 1 (b : Int))) else B) ?_ (wpo_of ?_)
          · refine wp_is ?_
            by_cases c1 : b = p
            · refine wp_pos (by rw [c1]) (wpo_of ?_)
              rw [if_neg (by unfold fB; rw [decide_eq_true_eq]; exact fun z => z.1 c1)]
            · refine wp_neg (fun z => c1 (by have := (eq32 (by omega) (by omega)).mp z; omega)) ?_
              by_cases c2 : D 118 (10 + 4 * b + 3) + (if s.testBit b = true then m else 0) < yW (D 118) 1 p
              · refine wp_pos (by rw [k13]; exact (lt32 (by omega) (by omega)).mpr c2) (wpo_of ?_)
                rw [if_neg (by unfold fB; rw [decide_eq_true_eq]; exact fun z => by have := z.2; omega)]
              · refine wp_neg (by rw [k13]; exact fun z => c2 ((lt32 (by omega) (by omega)).mp z)) (wpo_of ?_)
                rw [if_pos (by unfold fB; rw [decide_eq_true_eq]; exact ⟨c1, by omega⟩)]
          · by_cases c : fB (D 118) s m p b = true
            · rw [if_pos c]
              refine ⟨by dsimp only; omega, fun c' i h => ?_, fun q hq => ?_, ?_⟩
              · dsimp only
                rw [ms_ne h]
                exact b2 c' i h
              · dsimp only
                rw [ms_ni (by omega)]
                exact b3 q hq
              · dsimp only
                rw [ms_same, b4, ← or_next2 (by omega), if_pos c]
            · rw [if_neg c]
              refine ⟨by dsimp only; omega, b2, b3, ?_⟩
              dsimp only
              rw [b4, ← or_next2 (by omega), if_neg c]
      · rintro ⟨u1, B⟩ ⟨b1, b2, b3, b4⟩
        dsimp only at b1 b2 b3 b4 ⊢
        subst b1
        have k8 : B 12 8 = (yP (yW (D 118)) : Int) := (b2 12 8 (by omega)).trans h8
        exact wp_neg (by rw [k8]; exact fun z => absurd ((lt32 (by omega) (by omega)).mp z) (by omega)) (wpo_of ⟨b2, b3, b4⟩)
      · dsimp only
        rw [ms_ne h]
        exact e2 c i h
      · dsimp only
        rw [ms_ni (by omega)]
        exact e3 q hq
      · dsimp only
        rw [ms_same]
        rfl
    · rintro B ⟨b2, b3, b4⟩
      refine wpo_of ⟨by dsimp only; omega, b2, fun q hq => ?_⟩
      dsimp only
      by_cases e : q = p
      · rw [e]
        exact b4
      · exact b3 q (by omega)
  · rintro ⟨t1, N⟩ ⟨e1, e2, e3⟩
    dsimp only at e1 e2 e3 ⊢
    subst e1
    have n8 : N 12 8 = (yP (yW (D 118)) : Int) := (e2 12 8 (by omega)).trans h8
    exact wp_neg (by rw [n8]; exact fun z => absurd ((lt32 (by omega) (by omega)).mp z) (by omega)) (wpo_of ⟨e2, e3⟩)
def allT : Nat → Bool := fun _ => true
set_option maxHeartbeats 1000000 in
theorem sp_countFromBehind {M : Mem} {f : Nat → Nat → Bool} {n : Nat} (hn : n ≤ 8) (h8 : M 12 8 = (n : Int)) (h60 : ∀ p, p < n → M 60 p = ((nset (f p) n : Nat) : Int)) : wpo (f0_countFromBehind M) (fun M' => (∀ c i, c ≠ 62 → M' c i = M c i) ∧ ∀ p u, p ≤ n → u < 2 ^ n → M' 62 (256 * p + u) = mB f allT n (n - p) u) := by
  have h256 := pow8 hn
  have hpos : 0 < 2 ^ n := Nat.two_pow_pos _
  unfold f0_countFromBehind
  refine wp_then rfl ?_
  rw [h8, shl_one (by omega)]
  refine wp_bind.mpr (wpo_mono (P := fun B => (∀ c i, c ≠ 62 → B c i = M c i) ∧ ∀ u, u < 2 ^ n → B 62 (256 * n + u) = 0) ?_ ?_)
  · refine wp_for (I := fun k t => t.1 = (k : Int) ∧ (∀ c i, c ≠ 62 → t.2 c i = M c i) ∧ ∀ u, u < k → t.2 62 (256 * n + u) = 0) (2 ^ n) ?_ ?_ FU 0 _ ⟨rfl, fun _ _ _ => rfl, fun u hu => absurd hu (Nat.not_lt_zero _)⟩ (Nat.zero_le _) (by unfold FU; omega)
    · rintro k ⟨t1, N⟩ hk ⟨e1, e2, e3⟩
      dsimp only at e1 e2 e3 ⊢
      subst e1
      have et : ((n : Int) * 256 + (k : Int)).toNat = 256 * n + k := by omega
      refine wp_pos ((lt32 (by omega) (by omega)).mpr (by omega)) (wp_pos (by omega) (wpo_of ⟨by dsimp only; omega, fun c i h => ?_, fun u hu => ?_⟩))
      · dsimp only
        rw [ms_ne h]
        exact e2 c i h
      · dsimp only
        rw [et]
        by_cases e : u = k
        · rw [e, ms_same]
        · rw [ms_ni (by omega)]
          exact e3 u (by omega)
    · rintro ⟨t1, N⟩ ⟨e1, e2, e3⟩
      dsimp only at e1 e2 e3 ⊢
      subst e1
      exact wp_neg (fun q => absurd ((lt32 (by omega) (by omega)).mp q) (by omega)) (wpo_of ⟨e2, e3⟩)
  · rintro B ⟨b1, b2⟩
    refine wp_bind.mpr ?_
    simp only [wp_some]
    refine wp_for (I := fun k t => t.1 = (n : Int) - 1 - (k : Int) ∧ (∀ c i, c ≠ 62 → t.2 c i = M c i) ∧ ∀ d u, d ≤ k → u < 2 ^ n → t.2 62 (256 * (n - d) + u) = mB f allT n d u) n ?_ ?_ FU 0 _ ⟨by dsimp only; omega, b1, fun d u hd hu => ?_⟩ (Nat.zero_le _) (by unfold FU; omega)
    · rintro k ⟨t1, N⟩ hk ⟨e1, e2, e3⟩
      dsimp only at e1 e2 e3 ⊢
      obtain ⟨p, hp⟩ : ∃ p : Nat, p = n - (k + 1) := ⟨_, rfl⟩
      have hpk : (n : Int) - 1 - (k : Int) = (p : Int) := by omega
      have hnk : n - k = p + 1 := by omega
      rw [hpk] at e1
      subst e1
      refine wp_neg (by rw [w32_id (by omega)]; omega) ?_
      refine wp_bind.mpr (wpo_mono (P := fun C => (∀ c i, c ≠ 62 → C c i = M c i) ∧ (∀ d u, d ≤ k → u < 2 ^ n → C 62 (256 * (n - d) + u) = mB f allT n d u) ∧ ∀ u, u < 2 ^ n → C 62 (256 * p + u) = mB f allT n (k + 1) u) ?_ ?_)
      · refine wp_for (I := fun v t => t.1 = (v : Int) ∧ (∀ c i, c ≠ 62 → t.2 c i = M c i) ∧ (∀ d u, d ≤ k → u < 2 ^ n → t.2 62 (256 * (n - d) + u) = mB f allT n d u) ∧ ∀ u, u < v → t.2 62 (256 * p + u) = mB f allT n (k + 1) u) (2 ^ n) ?_ ?_ FU 0 _ ⟨rfl, e2, e3, fun u hu => absurd hu (Nat.not_lt_zero _)⟩ (Nat.zero_le _) (by unfold FU; omega)
        · rintro v ⟨u1, C⟩ hv ⟨c1, c2, c3, c4⟩
          dsimp only at c1 c2 c3 c4 ⊢
          subst c1
          have k60 : C 60 p = ((nset (f p) n : Nat) : Int) := (c2 60 p (by decide)).trans (h60 p (by omega))
          have et : ∀ w : Nat, (((p : Int) + 1) * 256 + (w : Int)).toNat = 256 * (n - k) + w := fun w => by omega
          have et2 : ((p : Int) * 256 + (v : Int)).toNat = 256 * p + v := by omega
          refine wp_pos ((lt32 (by omega) (by omega)).mpr (by omega)) (wp_pos (by omega) (wp_then rfl (wp_pos (by omega) (wp_then rfl ?_))))
          rw [et, c3 k v (Nat.le_refl _) hv, Int.toNat_natCast, k60]
          refine wp_bind.mpr (wpo_mono (P := fun z => z = mB f allT n (k + 1) v) ?_ ?_)
          · refine wp_for (I := fun b t => t = (bst (mB f allT n k v) (fun b => allT (n - (k + 1)) && (!v.testBit b && f (n - (k + 1)) b)) (fun b => mB f allT n k (v ||| 1 <<< b)) b, (b : Int))) n ?_ ?_ FU 0 _ rfl (Nat.zero_le _) (by unfold FU; omega)
            · rintro b t hb rfl
              dsimp only
              have hol := or_lt hv hb
              have hob := or_bit hn hv hb
              have hbb := bst_bd (z := mB f allT n k v) (hi := 9) (c := fun b => allT (n - (k + 1)) && (!v.testBit b && f (n - (k + 1)) b)) (v := fun b => mB f allT n k (v ||| 1 <<< b)) (n := b) (by have := mB_bd (f := f) (g := allT) (n := n) (d := k) (u := v); omega) (fun j _ => by have := mB_bd (f := f) (g := allT) (n := n) (d := k) (u := v ||| 1 <<< j); omega)
              have hmb := mB_bd (f := f) (g := allT) (n := n) (d := k) (u := v ||| 1 <<< b)
              refine wp_pos ((lt32 (by omega) (by omega)).mpr (by omega)) ?_
              refine wp_then (a := bst (mB f allT n k v) (fun b => allT (n - (k + 1)) && (!v.testBit b && f (n - (k + 1)) b)) (fun b => mB f allT n k (v ||| 1 <<< b)) (b + 1)) ?_ (wpo_of rfl)
              refine wp_is ?_
              have hfb := free_bit (F := f p) hn hv hb
              rw [bst]
              by_cases c : (!v.testBit b && f p b) = true
              · refine wp_neg (by rw [hfb, if_pos c]; decide) ?_
                rw [hob]
                refine wp_pos (by omega) (wpo_of ?_)
                rw [et, c3 k _ (Nat.le_refl _) hol, max32_id (by omega) (by omega), if_pos (by rw [← hp]; exact c)]
              · refine wp_pos (by rw [hfb, if_neg c]; decide) (wpo_of ?_)
                rw [if_neg (by rw [← hp]; exact c)]
            · rintro t rfl
              dsimp only
              exact wp_neg (fun q => absurd ((lt32 (by omega) (by omega)).mp q) (by omega)) (wpo_of rfl)
          · rintro z rfl
            refine wp_pos (by omega) (wpo_of ⟨by dsimp only; omega, fun c i h => ?_, fun d u hd hu => ?_, fun u hu => ?_⟩)
            · dsimp only
              rw [ms_ne h]
              exact c2 c i h
            · dsimp only
              rw [et2, ms_ni (by omega)]
              exact c3 d u hd hu
            · dsimp only
              rw [et2]
              by_cases e : u = v
              · rw [e, ms_same]
              · rw [ms_ni (by omega)]
                exact c4 u (by omega)
        · rintro ⟨u1, C⟩ ⟨c1, c2, c3, c4⟩
          dsimp only at c1 c2 c3 c4 ⊢
          subst c1
          exact wp_neg (fun q => absurd ((lt32 (by omega) (by omega)).mp q) (by omega)) (wpo_of ⟨c2, c3, c4⟩)
      · rintro C ⟨c2, c3, c4⟩
        refine wpo_of ⟨by dsimp only; omega, c2, fun d u hd hu => ?_⟩
        dsimp only
        by_cases e : d = k + 1
        · rw [e, ← hp]
          exact c4 u hu
        · exact c3 d u (by omega) hu
    · rintro ⟨t1, N⟩ ⟨e1, e2, e3⟩
      dsimp only at e1 e2 e3 ⊢
      refine wp_pos (by rw [e1, w32_id (by omega)]; omega) (wpo_of ⟨e2, fun p u hp hu => ?_⟩)
      have e : n - (n - p) = p := by omega
      have := e3 (n - p) u (by omega) hu
      rw [e] at this
      exact this
    · have e : d = 0 := by omega
      subst e
      dsimp only
      rw [Nat.sub_zero]
      exact b2 u hu
