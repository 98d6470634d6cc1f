/-! THE TEXT: a line, to both, and the class's reader (by hand) -/
/-- a line is all there: the world W becomes W' -/
def LnOK (B : Nat → Int) (n p : Nat) (W : Nat → Int) (p' : Nat) (W' : Nat → Int) : Prop :=
  W' 9 = W 9 + 1 ∧
  ((W 9 = 0 ∧ isW B n p 0 ∧ ∃ (Q : Nat → Nat) (V : Nat → Int), Q 0 = ten B n p ∧ FlS B n 0 7 Q V ∧ tkd B n (Q 7) = 3 ∧ p' = ten B n (Q 7) ∧ (∀ i, i < 7 → W' i = V i) ∧ ∀ i, 7 ≤ i → i ≠ 9 → W' i = W i) ∨
   (W 9 ≠ 0 ∧ isW B n p 8 ∧ W 7 < 8 ∧ W' 7 = W 7 + 1 ∧ ∃ (Q : Nat → Nat) (V : Nat → Int), Q 0 = ten B n p ∧ FlS B n 7 4 Q V ∧ tkd B n (Q 4) = 3 ∧ p' = ten B n (Q 4) ∧ (∀ i, i < 4 → W' (10 + 4 * (W 7).toNat + i) = V i) ∧ ∀ i, i ≠ 7 → i ≠ 9 → (i < 10 + 4 * (W 7).toNat ∨ 14 + 4 * (W 7).toNat ≤ i) → W' i = W i))
/-- a line with a fault -/
def LnNo (B : Nat → Int) (n p : Nat) (W : Nat → Int) (f : Int) (pl : Nat) : Prop :=
  (W 9 = 0 ∧ ((¬ isW B n p 0 ∧ f = 1 ∧ pl = tst B n p) ∨ (isW B n p 0 ∧ FOno B n 0 7 (ten B n p) f pl))) ∨
  (W 9 ≠ 0 ∧ ((¬ isW B n p 8 ∧ f = 1 ∧ pl = tst B n p) ∨ (isW B n p 8 ∧ W 7 = 8 ∧ f = 3 ∧ pl = tst B n p) ∨ (isW B n p 8 ∧ W 7 < 8 ∧ FOno B n 7 4 (ten B n p) f pl)))
/-- a world, k lines of it read -/
def WL (k : Nat) (W : Nat → Int) : Prop := W 9 = k ∧ W 8 = 0 ∧ WOK W ∧ (1 ≤ k → W 7 + 1 = k)
theorem WL.bd {k : Nat} {W : Nat → Int} (h : WL k W) : k ≤ 9 ∧ (0 ≤ W 7 ∧ W 7 ≤ 8) ∧ (k = 0 → W 7 = 0) := by
  obtain ⟨a, b, c, d⟩ := h
  have hb := c.bd
  have h1 := c.1
  omega
theorem WL.next {B : Nat → Int} {n p p' k : Nat} {W W' : Nat → Int} (h : WL k W) (hL : LnOK B n p W p' W') : WL (k + 1) W' ∧ k < 9 := by
  have hb := h.bd
  obtain ⟨a, b, c, d⟩ := h
  obtain ⟨l9, ⟨e1, e2, Q, V, e3, e4, e5, e6, e7, e8⟩ | ⟨e1, e2, e3, e4, Q, V, e5, e6, e7, e8, e9, e10⟩⟩ := hL
  · have k0 : k = 0 := by omega
    have w7 : W' 7 = 0 := by rw [e8 7 (by decide) (by decide)]; exact hb.2.2 k0
    have w8 : W' 8 = 0 := by rw [e8 8 (by decide) (by decide)]; exact b
    have v0 : 1 ≤ V 0 ∧ V 0 ≤ 12 := (e4 0 (by decide)).2.2.2.1
    have v1 : 1 ≤ V 1 ∧ V 1 ≤ 60 := (e4 1 (by decide)).2.2.2.1
    have v2 : 1 ≤ V 2 ∧ V 2 ≤ 40 := (e4 2 (by decide)).2.2.2.1
    have v3 : 1 ≤ V 3 ∧ V 3 ≤ 20 := (e4 3 (by decide)).2.2.2.1
    have v4 : 0 ≤ V 4 ∧ V 4 ≤ 3 := (e4 4 (by decide)).2.2.2.1
    have v5 : 0 ≤ V 5 ∧ V 5 ≤ 99 := (e4 5 (by decide)).2.2.2.1
    have v6 : 0 ≤ V 6 ∧ V 6 ≤ 10 := (e4 6 (by decide)).2.2.2.1
    rw [← e7 0 (by decide)] at v0
    rw [← e7 1 (by decide)] at v1
    rw [← e7 2 (by decide)] at v2
    rw [← e7 3 (by decide)] at v3
    rw [← e7 4 (by decide)] at v4
    rw [← e7 5 (by decide)] at v5
    rw [← e7 6 (by decide)] at v6
    refine ⟨⟨by omega, w8, ⟨Or.inr ⟨by omega, v0, v1, v2, v3, v4, v5, v6, by omega, by omega⟩, fun q hq => absurd hq (by omega), fun i hi => absurd hi (by omega)⟩, fun _ => by omega⟩, by omega⟩
  · have hP : ((W 7).toNat : Int) = W 7 := by omega
    have w8 : W' 8 = 0 := by rw [e10 8 (by decide) (by decide) (Or.inl (by omega))]; exact b
    have ew : ∀ i, i < 7 → W' i = W i := fun i hi => e10 i (by omega) (by omega) (Or.inl (by omega))
    have v0 : 1 ≤ V 0 ∧ V 0 ≤ 20 := (e6 0 (by decide)).2.2.2.1
    have v1 : 0 ≤ V 1 ∧ V 1 ≤ 11 := (e6 1 (by decide)).2.2.2.1
    have v2 : 1 ≤ V 2 ∧ V 2 ≤ 9 := (e6 2 (by decide)).2.2.2.1
    have v3 : 0 ≤ V 3 ∧ V 3 ≤ 20 := (e6 3 (by decide)).2.2.2.1
    rw [← e9 0 (by decide)] at v0
    rw [← e9 1 (by decide)] at v1
    rw [← e9 2 (by decide)] at v2
    rw [← e9 3 (by decide)] at v3
    have hd := d (by omega)
    have h1 := c.1
    refine ⟨⟨by omega, w8, ⟨Or.inr ⟨by omega, ?_⟩, fun q hq => ?_, fun i hi => absurd hi (by omega)⟩, fun _ => by omega⟩, by omega⟩
    · rw [ew 0 (by decide), ew 1 (by decide), ew 2 (by decide), ew 3 (by decide), ew 4 (by decide), ew 5 (by decide), ew 6 (by decide)]
      omega
    · by_cases e : q = (W 7).toNat
      · rw [e]
        exact ⟨v0, v1, v2, v3⟩
      · have := c.2.1 q (by omega)
        rw [e10 _ (by omega) (by omega) (by omega), e10 (10 + 4 * q + 1) (by omega) (by omega) (by omega), e10 (10 + 4 * q + 2) (by omega) (by omega) (by omega), e10 (10 + 4 * q + 3) (by omega) (by omega) (by omega)]
        exact this
/-- the draft holds what is read -/
def DR (M : Mem) (W : Nat → Int) : Prop := M 4 0 = W 9 ∧ (∀ i, i < 7 → M 4 (i + 1) = W i) ∧ M 4 8 = W 7 ∧ M 4 9 = 0 ∧ ∀ q : Nat, (q : Int) < W 7 → M 5 q = W (10 + 4 * q) ∧ M 6 q = W (10 + 4 * q + 1) ∧ M 7 q = W (10 + 4 * q + 2) ∧ M 8 q = W (10 + 4 * q + 3)
theorem DR.congr {M M' : Mem} {W : Nat → Int} (h : DR M W) (k : ∀ c i, 4 ≤ c → c ≤ 8 → M' c i = M c i) : DR M' W := by
  obtain ⟨a, b, c, d, e⟩ := h
  refine ⟨(k 4 0 (by decide) (by decide)).trans a, fun i hi => (k 4 _ (by decide) (by decide)).trans (b i hi), (k 4 8 (by decide) (by decide)).trans c, (k 4 9 (by decide) (by decide)).trans d, fun q hq => ?_⟩
  rw [k 5 q (by decide) (by decide), k 6 q (by decide) (by decide), k 7 q (by decide) (by decide), k 8 q (by decide) (by decide)]
  exact e q hq
theorem sp_readLineC {M : Mem} {B : Nat → Int} {n p k : Nat} {W : Nat → Int} (hT : TX M B n) (hp : p ≤ n) (hC : C9 M B n p) (hW : WL k W) (hD : DR M W) : wpo (f4_readLine M (if k = 0 then 1 else 0)) (fun r => (∀ c i, (c < 3 ∨ 8 < c) → r.2 c i = M c i) ∧ ((r.1 = 1 ∧ ∃ (p' : Nat) (W' : Nat → Int), LnOK B n p W p' W' ∧ p' ≤ n ∧ r.2 3 6 = (p' : Int) ∧ r.2 3 2 = M 3 2 ∧ r.2 3 3 = M 3 3 ∧ DR (mset r.2 4 0 (r.2 4 0 + 1)) W') ∨ (r.1 = 0 ∧ ∃ (f : Int) (pl : Nat), LnNo B n p W f pl ∧ r.2 3 2 = f ∧ r.2 3 3 = (pl : Int)))) := by
  have hb := hW.bd
  have w9 := hW.1
  have hen := ten_bd (B := B) hp
  have h6 := hC.2.2
  obtain ⟨d0, d1, d2, d3, d4⟩ := hD
  have fF : ∀ f, fail9 M f 3 2 = f ∧ fail9 M f 3 3 = (tst B n p : Int) := fun f => by
    unfold fail9
    rw [ms_ni (by decide), ms_same, ms_same]
    exact ⟨rfl, hC.2.1⟩
  have frF : ∀ f c i, (c < 3 ∨ 8 < c) → fail9 M f c i = M c i := fun f c i h => by
    unfold fail9
    rw [ms_ne (by omega), ms_ne (by omega)]
  unfold f4_readLine
  by_cases k0 : k = 0
  · rw [if_pos k0]
    have w90 : W 9 = 0 := by omega
    refine wp_neg (by decide) ?_
    refine wp_bind.mpr (wpo_mono (sp_isWord hT hp hC (by decide)) ?_)
    rintro ⟨v, N⟩ (⟨u0, u1, u2⟩ | ⟨u0, u1, u2⟩) <;> dsimp only at u0 u2 <;> subst u0 u2
    · refine wp_neg (show ¬ w32 1 = 0 by decide) ?_
      refine wp_bind.mpr (wpo_mono (sp_readFields (a := 0) (m := 7) (P := 0) hT hen.2 h6 (by decide) (by decide) (Or.inl (by decide))) ?_)
      rintro ⟨v, N⟩ ⟨f1, ⟨rfl, Q, V, q0, q1, q2, q3, q4, q5, q6, q7, q8⟩ | ⟨rfl, f, pl, g1, g2, g3⟩⟩
      · dsimp only at f1 q4 q5 q6 q7 q8 ⊢
        have hq7 := ten_bd (B := B) q3
        have z7 := hb.2.2 k0
        refine wp_neg (by decide) (wpo_of ⟨f1, Or.inl ⟨rfl, ten B n (Q 7), fun i => if i < 7 then V i else if i = 9 then W 9 + 1 else W i, ⟨?_, Or.inl ⟨w90, u1, Q, V, q0, q1, q2, rfl, fun i hi => if_pos hi, fun i h1 h2 => ?_⟩⟩, hq7.2, q4, q5, q6, ?_, fun i hi => ?_, ?_, ?_, fun q hq => ?_⟩⟩)
        · dsimp only
          rw [if_neg (by decide), if_pos rfl]
        · dsimp only
          rw [if_neg (by omega), if_neg h2]
        · dsimp only
          rw [ms_same, if_neg (by decide), if_pos rfl, q8 4 0 (by decide) (fun j hj z => ?_), d0]
          have := z.2
          unfold ti at this
          rw [if_pos (by omega)] at this
          omega
        · dsimp only
          rw [ms_ni (by omega), if_pos hi]
          have := q7 i hi
          unfold tc ti at this
          rw [if_pos (by omega), if_pos (by omega), Nat.zero_add] at this
          exact this
        · dsimp only
          rw [ms_ni (by decide), if_neg (by decide), if_neg (by decide), q8 4 8 (by decide) (fun j hj z => ?_), d2]
          have := z.2
          unfold ti at this
          rw [if_pos (by omega)] at this
          omega
        · dsimp only
          rw [ms_ni (by decide), q8 4 9 (by decide) (fun j hj z => ?_), d3]
          have := z.2
          unfold ti at this
          rw [if_pos (by omega)] at this
          omega
        · dsimp only at hq
          rw [if_neg (by decide), if_neg (by decide), z7] at hq
          omega
      · exact wp_pos (show w32 0 = 0 by decide) (wpo_of ⟨f1, Or.inr ⟨rfl, f, pl, Or.inl ⟨w90, Or.inr ⟨u1, g1⟩⟩, g2, g3⟩⟩)
    · exact wp_pos (show w32 0 = 0 by decide) (wpo_of ⟨frF 1, Or.inr ⟨rfl, 1, tst B n p, Or.inl ⟨w90, Or.inl ⟨u1, rfl, rfl⟩⟩, fF 1⟩⟩)
  · rw [if_neg k0]
    have w90 : W 9 ≠ 0 := by omega
    refine wp_pos (by decide) ?_
    refine wp_bind.mpr (wpo_mono (sp_isWord hT hp hC (by decide)) ?_)
    rintro ⟨v, N⟩ (⟨u0, u1, u2⟩ | ⟨u0, u1, u2⟩) <;> dsimp only at u0 u2 <;> subst u0 u2
    · refine wp_neg (show ¬ w32 1 = 0 by decide) ?_
      by_cases c8 : W 7 < 8
      · have hP : ((W 7).toNat : Int) = W 7 := by omega
        refine wp_pos (by dsimp only; rw [d2]; exact (lt32 (by omega) (by omega)).mpr c8) ?_
        refine wp_then rfl ?_
        dsimp only
        have hT1 : TX (mset N 4 8 (N 4 8 + 1)) B n := hT.congr (fun c i h => ms_ne (by omega))
        have h61 : mset N 4 8 (N 4 8 + 1) 3 6 = (ten B n p : Int) := by rw [ms_ne (by decide)]; exact h6
        have h481 : mset N 4 8 (N 4 8 + 1) 4 8 = (((W 7).toNat : Nat) : Int) + 1 := by rw [ms_same, d2, hP]
        refine wp_bind.mpr (wpo_mono (sp_readFields (a := 7) (m := 4) (P := (W 7).toNat) hT1 hen.2 h61 (by omega) (by decide) (Or.inr h481)) ?_)
        rintro ⟨v, N1⟩ ⟨f1, ⟨rfl, Q, V, q0, q1, q2, q3, q4, q5, q6, q7, q8⟩ | ⟨rfl, f, pl, g1, g2, g3⟩⟩
        · dsimp only at f1 q4 q5 q6 q7 q8 ⊢
          have hq4 := ten_bd (B := B) q3
          have f1' : ∀ c i, (c < 3 ∨ 8 < c) → N1 c i = N c i := fun c i h => (f1 c i h).trans (ms_ne (by omega))
          have s4 : ∀ i, N1 4 i = mset N 4 8 (N 4 8 + 1) 4 i := fun i => q8 4 i (by decide) (fun j hj z => by
            have := z.1
            unfold tc at this
            rw [if_neg (by omega)] at this
            omega)
          have sv : ∀ j, j < 4 → N1 (5 + j) (W 7).toNat = V j := fun j hj => by
            have := q7 j hj
            unfold tc ti at this
            rw [if_neg (by omega), if_neg (by omega), show 7 + j - 2 = 5 + j by omega] at this
            exact this
          have so : ∀ c i, (5 ≤ c ∧ c ≤ 8) → i ≠ (W 7).toNat → N1 c i = N c i := fun c i h hi => by
            rw [q8 c i (by omega) (fun j hj z => ?_), ms_ne (by omega)]
            have := z.2
            unfold ti at this
            rw [if_neg (by omega)] at this
            exact hi this
          refine wp_pos (Or.inr rfl) (wpo_of ⟨f1', Or.inl ⟨rfl, ten B n (Q 4), fun i => if i = 7 then W 7 + 1 else if i = 9 then W 9 + 1 else if i < 10 + 4 * (W 7).toNat ∨ 14 + 4 * (W 7).toNat ≤ i then W i else V (i - (10 + 4 * (W 7).toNat)), ⟨?_, Or.inr ⟨w90, u1, c8, if_pos rfl, Q, V, q0, q1, q2, rfl, fun i hi => ?_, fun i h1 h2 h3 => ?_⟩⟩, hq4.2, q4, q5.trans (ms_ne (by decide)), q6.trans (ms_ne (by decide)), ?_, fun i hi => ?_, ?_, ?_, fun q hq => ?_⟩⟩)
          · dsimp only
            rw [if_neg (by decide), if_pos rfl]
          · dsimp only
            rw [if_neg (by omega), if_neg (by omega), if_neg (by omega), Nat.add_sub_cancel_left]
          · dsimp only
            rw [if_neg h1, if_neg h2, if_pos h3]
          · dsimp only
            rw [ms_same, if_neg (by decide), if_pos rfl, s4, ms_ni (by decide), d0]
          · dsimp only
            rw [ms_ni (by omega), if_neg (by omega), if_neg (by omega), if_pos (by omega), s4, ms_ni (by omega)]
            exact d1 i hi
          · dsimp only
            rw [ms_ni (by decide), if_pos rfl, s4, ms_same, d2]
          · dsimp only
            rw [ms_ni (by decide), s4, ms_ni (by decide)]
            exact d3
          · dsimp only at hq ⊢
            rw [if_pos rfl] at hq
            rw [ms_ne (by decide), ms_ne (by decide), ms_ne (by decide), ms_ne (by decide)]
            by_cases e : q = (W 7).toNat
            · rw [e, if_neg (by omega), if_neg (by omega), if_neg (by omega), if_neg (by omega), if_neg (by omega), if_neg (by omega), if_neg (by omega), if_neg (by omega), if_neg (by omega), if_neg (by omega), if_neg (by omega), if_neg (by omega), Nat.sub_self, Nat.add_sub_cancel_left, Nat.add_sub_cancel_left, Nat.add_sub_cancel_left]
              exact ⟨sv 0 (by decide), sv 1 (by decide), sv 2 (by decide), sv 3 (by decide)⟩
            · rw [if_neg (by omega), if_neg (by omega), if_pos (by omega), if_neg (by omega), if_neg (by omega), if_pos (by omega), if_neg (by omega), if_neg (by omega), if_pos (by omega), if_neg (by omega), if_neg (by omega), if_pos (by omega), so 5 q (by decide) e, so 6 q (by decide) e, so 7 q (by decide) e, so 8 q (by decide) e]
              exact d4 q (by omega)
        · dsimp only at f1 g2 g3 ⊢
          exact wp_pos (Or.inl rfl) (wpo_of ⟨fun c i h => (f1 c i h).trans (ms_ne (by omega)), Or.inr ⟨rfl, f, pl, Or.inr ⟨w90, Or.inr (Or.inr ⟨u1, c8, g1⟩)⟩, g2, g3⟩⟩)
      · refine wp_neg (by dsimp only; rw [d2]; exact fun z => c8 ((lt32 (by omega) (by omega)).mp z)) (wp_then sp_failed (wp_pos (Or.inl rfl) (wpo_of ⟨frF 3, Or.inr ⟨rfl, 3, tst B n p, Or.inr ⟨w90, Or.inr (Or.inl ⟨u1, by omega, rfl, rfl⟩)⟩, fF 3⟩⟩)))
    · exact wp_pos (show w32 0 = 0 by decide) (wpo_of ⟨frF 1, Or.inr ⟨rfl, 1, tst B n p, Or.inr ⟨w90, Or.inl ⟨u1, rfl, rfl⟩⟩, fF 1⟩⟩)
