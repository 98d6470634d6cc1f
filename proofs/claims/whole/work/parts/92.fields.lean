/-! THE TEXT: the class's fields (by hand) -/
theorem FldOK.uniq {B : Nat → Int} {n p w q q' : Nat} {lo hi v v' : Int} (h : FldOK B n p w lo hi v q) (h' : FldOK B n p w lo hi v' q') : v = v' ∧ q = q' := ⟨h.2.2.1.trans h'.2.2.1.symm, h.2.2.2.2.trans h'.2.2.2.2.symm⟩
theorem FldOK.no {B : Nat → Int} {n p w q pl : Nat} {lo hi v f : Int} (h : FldOK B n p w lo hi v q) : ¬ FldNo B n p w lo hi f pl := by
  obtain ⟨h1, h2, h3, h4, -⟩ := h
  rintro (⟨k, -⟩ | ⟨-, k, -⟩ | ⟨-, -, k, -⟩)
  · exact k h1
  · exact k h2
  · rw [h3] at h4
    exact k h4
theorem FldNo.uniq {B : Nat → Int} {n p w pl pl' : Nat} {lo hi f f' : Int} (h : FldNo B n p w lo hi f pl) (h' : FldNo B n p w lo hi f' pl') : f = f' ∧ pl = pl' := by
  rcases h with ⟨a, b, c⟩ | ⟨a, a2, b, c⟩ | ⟨a, a2, a3, b, c⟩ <;> rcases h' with ⟨d, e, g⟩ | ⟨d, d2, e, g⟩ | ⟨d, d2, d3, e, g⟩
  · exact ⟨b.trans e.symm, c.trans g.symm⟩
  · exact absurd d a
  · exact absurd d a
  · exact absurd a d
  · exact ⟨b.trans e.symm, c.trans g.symm⟩
  · exact absurd d2 a2
  · exact absurd a d
  · exact absurd a2 d2
  · exact ⟨b.trans e.symm, c.trans g.symm⟩
/-- of field k: its word, its bounds, where the class tells it -/
def wd (k : Nat) : Nat := if k < 7 then k + 1 else k + 2
def flo (k : Nat) : Int := (tabL 0).getD k 0
def fhi (k : Nat) : Int := (tabL 1).getD k 0
def tc (k : Nat) : Nat := if k < 7 then 4 else k - 2
def ti (P k : Nat) : Nat := if k < 7 then k + 1 else P
theorem fb_bd : ∀ k : Nat, k < 11 → wd k < 13 ∧ (0 ≤ flo k ∧ flo k ≤ 99) ∧ (0 ≤ fhi k ∧ fhi k ≤ 99) := by decide
theorem t_apart {P j k : Nat} (hj : j < 11) (hk : k < 11) (h : tc j = tc k ∧ ti P j = ti P k) : j = k := by
  unfold tc ti at h
  by_cases c1 : j < 7
  · rw [if_pos c1, if_pos c1] at h
    by_cases c2 : k < 7
    · rw [if_pos c2, if_pos c2] at h
      omega
    · rw [if_neg c2, if_neg c2] at h
      omega
  · rw [if_neg c1, if_neg c1] at h
    by_cases c2 : k < 7
    · rw [if_pos c2, if_pos c2] at h
      omega
    · rw [if_neg c2, if_neg c2] at h
      omega
theorem t_bd {P k : Nat} (hk : k < 11) : (4 ≤ tc k ∧ tc k ≤ 8) ∧ ¬ (tc k = 4 ∧ (ti P k = 0 ∨ ti P k = 8 ∨ ti P k = 9)) := by
  unfold tc ti
  by_cases c : k < 7
  · rw [if_pos c, if_pos c]
    omega
  · rw [if_neg c, if_neg c]
    omega
theorem sp_wordOf {M : Mem} {k : Nat} (hk : k < 11) : f4_wordOf M (k : Int) = some (wd k) := by
  have hc : k = 0 ∨ k = 1 ∨ k = 2 ∨ k = 3 ∨ k = 4 ∨ k = 5 ∨ k = 6 ∨ k = 7 ∨ k = 8 ∨ k = 9 ∨ k = 10 := by omega
  unfold f4_wordOf
  rcases hc with rfl | rfl | rfl | rfl | rfl | rfl | rfl | rfl | rfl | rfl | rfl <;> decide
theorem sp_tell {M : Mem} {P k : Nat} {v : Int} (hk : k < 11) (hP : P < 8) (h : k < 7 ∨ M 4 8 = (P : Int) + 1) : f2_tell M 4 (k : Int) v = some (mset M (tc k) (ti P k) v) := by
  have hw : ∀ j : Int, 0 ≤ j → j ≤ 20 → (w32 (k : Int) = j ↔ (k : Int) = j) := fun j h1 h2 => by rw [w32_id (by omega)]
  refine wp_is ?_
  unfold f2_tell tc ti
  by_cases c0 : k = 0
  · subst c0; exact wp_pos (by decide) (wpo_of rfl)
  refine wp_neg (by rw [hw 0 (by decide) (by decide)]; omega) ?_
  by_cases c1 : k = 1
  · subst c1; exact wp_pos (by decide) (wpo_of rfl)
  refine wp_neg (by rw [hw 1 (by decide) (by decide)]; omega) ?_
  by_cases c2 : k = 2
  · subst c2; exact wp_pos (by decide) (wpo_of rfl)
  refine wp_neg (by rw [hw 2 (by decide) (by decide)]; omega) ?_
  by_cases c3 : k = 3
  · subst c3; exact wp_pos (by decide) (wpo_of rfl)
  refine wp_neg (by rw [hw 3 (by decide) (by decide)]; omega) ?_
  by_cases c4 : k = 4
  · subst c4; exact wp_pos (by decide) (wpo_of rfl)
  refine wp_neg (by rw [hw 4 (by decide) (by decide)]; omega) ?_
  by_cases c5 : k = 5
  · subst c5; exact wp_pos (by decide) (wpo_of rfl)
  refine wp_neg (by rw [hw 5 (by decide) (by decide)]; omega) ?_
  by_cases c6 : k = 6
  · subst c6; exact wp_pos (by decide) (wpo_of rfl)
  refine wp_neg (by rw [hw 6 (by decide) (by decide)]; omega) ?_
  have h48 : M 4 8 - 1 = (P : Int) := by
    rcases h with h | h <;> omega
  rw [if_neg (by omega), if_neg (by omega)]
  refine wp_then (wp_is ?_) (wpo_of rfl)
  unfold f2_tellPerson
  rw [h48]
  refine wp_neg (by rw [w32_id (by omega)]; omega) (wp_pos ((lt32 (by omega) (by omega)).mpr (by omega)) ?_)
  by_cases c7 : k = 7
  · subst c7; exact wp_pos (by decide) (wp_pos (by omega) (wpo_of (by rw [Int.toNat_natCast])))
  refine wp_neg (by rw [hw 7 (by decide) (by decide)]; omega) ?_
  by_cases c8 : k = 8
  · subst c8; exact wp_pos (by decide) (wp_pos (by omega) (wpo_of (by rw [Int.toNat_natCast])))
  refine wp_neg (by rw [hw 8 (by decide) (by decide)]; omega) ?_
  by_cases c9 : k = 9
  · subst c9; exact wp_pos (by decide) (wp_pos (by omega) (wpo_of (by rw [Int.toNat_natCast])))
  refine wp_neg (by rw [hw 9 (by decide) (by decide)]; omega) ?_
  have c10 : k = 10 := by omega
  subst c10
  exact wp_pos (by omega) (wpo_of (by rw [Int.toNat_natCast]))
/-- fields, one after the other -/
def FlS (B : Nat → Int) (n a m : Nat) (Q : Nat → Nat) (V : Nat → Int) : Prop := ∀ i, i < m → FldOK B n (Q i) (wd (a + i)) (flo (a + i)) (fhi (a + i)) (V i) (Q (i + 1))
def FOno (B : Nat → Int) (n a m p : Nat) (f : Int) (pl : Nat) : Prop := ∃ (m' : Nat) (Q : Nat → Nat) (V : Nat → Int), m' ≤ m ∧ Q 0 = p ∧ FlS B n a m' Q V ∧ ((m' < m ∧ FldNo B n (Q m') (wd (a + m')) (flo (a + m')) (fhi (a + m')) f pl) ∨ (m' = m ∧ tkd B n (Q m) ≠ 3 ∧ f = 1 ∧ pl = tst B n (Q m)))
theorem FlS.next {B : Nat → Int} {n a k q : Nat} {Q : Nat → Nat} {V : Nat → Int} {v : Int} (h : FlS B n a k Q V) (hk : FldOK B n (Q k) (wd (a + k)) (flo (a + k)) (fhi (a + k)) v q) : FlS B n a (k + 1) (fun i => if i = k + 1 then q else Q i) (fun i => if i = k then v else V i) := by
  intro i hi
  dsimp only
  by_cases e : i = k
  · rw [e, if_neg (by omega), if_pos rfl, if_pos rfl]
    exact hk
  · rw [if_neg (by omega), if_neg e, if_neg (by omega)]
    exact h i (by omega)
set_option maxHeartbeats 1000000 in
theorem sp_readFields {M : Mem} {B : Nat → Int} {n p a m P : Nat} (hT : TX M B n) (hp : p ≤ n) (h6 : M 3 6 = (p : Int)) (hP : P < 8) (ham : a + m ≤ 11) (h48 : a + m ≤ 7 ∨ M 4 8 = (P : Int) + 1) : wpo (f4_readFields M (a : Int) ((a + m : Nat) : Int)) (fun r => (∀ c i, (c < 3 ∨ 8 < c) → r.2 c i = M c i) ∧ ((r.1 = 1 ∧ ∃ (Q : Nat → Nat) (V : Nat → Int), Q 0 = p ∧ FlS B n a m Q V ∧ tkd B n (Q m) = 3 ∧ Q m ≤ n ∧ r.2 3 6 = (ten B n (Q m) : Int) ∧ r.2 3 2 = M 3 2 ∧ r.2 3 3 = M 3 3 ∧ (∀ j, j < m → r.2 (tc (a + j)) (ti P (a + j)) = V j) ∧ ∀ c i, (4 ≤ c ∧ c ≤ 8) → (∀ j, j < m → ¬ (c = tc (a + j) ∧ i = ti P (a + j))) → r.2 c i = M c i) ∨ (r.1 = 0 ∧ ∃ f pl, FOno B n a m p f pl ∧ r.2 3 2 = f ∧ r.2 3 3 = (pl : Int)))) := by
  have t2 := hT.2.1
  unfold f4_readFields
  refine wp_bind.mpr (wpo_mono (P := fun z => match z with
    | .inl N => ∃ (Q : Nat → Nat) (V : Nat → Int), Q 0 = p ∧ FlS B n a m Q V ∧ Q m ≤ n ∧ N 3 6 = (Q m : Int) ∧ (∀ c i, (c < 3 ∨ 8 < c) → N c i = M c i) ∧ N 3 2 = M 3 2 ∧ N 3 3 = M 3 3 ∧ (∀ j, j < m → N (tc (a + j)) (ti P (a + j)) = V j) ∧ ∀ c i, (4 ≤ c ∧ c ≤ 8) → (∀ j, j < m → ¬ (c = tc (a + j) ∧ i = ti P (a + j))) → N c i = M c i
    | .inr r => (∀ c i, (c < 3 ∨ 8 < c) → r.2 c i = M c i) ∧ r.1 = 0 ∧ ∃ f pl, FOno B n a m p f pl ∧ r.2 3 2 = f ∧ r.2 3 3 = (pl : Int)) ?_ ?_)
  · refine wp_for (I := fun k t => t.1 = ((a + k : Nat) : Int) ∧ ∃ (Q : Nat → Nat) (V : Nat → Int), Q 0 = p ∧ FlS B n a k Q V ∧ Q k ≤ n ∧ t.2 3 6 = (Q k : Int) ∧ (∀ c i, (c < 3 ∨ 8 < c) → t.2 c i = M c i) ∧ t.2 3 2 = M 3 2 ∧ t.2 3 3 = M 3 3 ∧ (∀ j, j < k → t.2 (tc (a + j)) (ti P (a + j)) = V j) ∧ ∀ c i, (4 ≤ c ∧ c ≤ 8) → (∀ j, j < k → ¬ (c = tc (a + j) ∧ i = ti P (a + j))) → t.2 c i = M c i) m ?_ ?_ FU 0 _ ⟨rfl, fun _ => p, fun _ => 0, rfl, fun i hi => absurd hi (Nat.not_lt_zero _), hp, h6, fun _ _ _ => rfl, rfl, rfl, fun j hj => absurd hj (Nat.not_lt_zero _), fun _ _ _ _ => rfl⟩ (Nat.zero_le _) (by unfold FU; omega)
    · rintro k ⟨t1, N⟩ hk ⟨e1, Q, V, q0, q1, q2, q3, q4, q5, q6, q7, q8⟩
      dsimp only at e1 q3 q4 q5 q6 q7 q8 ⊢
      subst e1
      obtain ⟨b1, b2, b3⟩ := fb_bd (a + k) (by omega)
      have hTN : TX N B n := hT.congr (fun c i h => q4 c i (by omega))
      refine wp_pos ((lt32 (by omega) (by omega)).mpr (by omega)) ?_
      refine wp_bind.mpr (wpo_mono (sp_next hTN q2 q3) ?_)
      rintro N1 ⟨n1, n2, n3, n4⟩
      have hT1 : TX N1 B n := hTN.congr (fun c i h => n1 c i (by omega))
      have hen := ten_bd (B := B) q2
      refine wp_then (sp_wordOf (by omega)) (wp_pos b1 ?_)
      refine wp_bind.mpr (wpo_mono (sp_isWord hT1 q2 ⟨n2, n3, n4⟩ b1) ?_)
      rintro ⟨v, N2⟩ (⟨rfl, w1, rfl⟩ | ⟨rfl, w1, rfl⟩)
      · refine wp_neg (show ¬ w32 1 = 0 by decide) ?_
        refine wp_bind.mpr (wpo_mono (sp_next hT1 hen.2 n4) ?_)
        rintro N3 ⟨o1, o2, o3, o4⟩
        have hT3 : TX N3 B n := hT1.congr (fun c i h => o1 c i (by omega))
        have hen2 := ten_bd (B := B) hen.2
        have hkd := tkd_bd (B := B) (n := n) (p := ten B n (Q k))
        have fr : ∀ c i, (c < 3 ∨ 8 < c) → N3 c i = M c i := fun c i h => (o1 c i (by omega)).trans ((n1 c i (by omega)).trans (q4 c i h))
        have fr2 : ∀ c i, (4 ≤ c ∧ c ≤ 8) → N3 c i = N c i := fun c i h => (o1 c i (by omega)).trans (n1 c i (by omega))
        have fr3 : N3 3 2 = M 3 2 ∧ N3 3 3 = M 3 3 := ⟨(o1 3 2 (by omega)).trans ((n1 3 2 (by omega)).trans q5), (o1 3 3 (by omega)).trans ((n1 3 3 (by omega)).trans q6)⟩
        have frF : ∀ f c i, (c < 3 ∨ 8 < c) → fail9 N3 f c i = M c i := fun f c i h => by
          unfold fail9
          rw [ms_ne (by omega), ms_ne (by omega)]
          exact fr c i h
        have fF : ∀ f, fail9 N3 f 3 2 = f ∧ fail9 N3 f 3 3 = (tst B n (ten B n (Q k)) : Int) := fun f => by
          unfold fail9
          rw [ms_ni (by decide), ms_same, ms_same]
          exact ⟨rfl, o3⟩
        by_cases d2 : tkd B n (ten B n (Q k)) = 2
        · obtain ⟨nr1, nr2⟩ := sp_numberRead hT3 hen.2 ⟨o2, o3, o4⟩ d2
          refine wp_pos (by rw [o2, d2]) (wp_then nr1 (wp_pos (by omega) ?_))
          have el : (tabL 0).getD (((a + k : Nat) : Int)).toNat 0 = flo (a + k) := by rw [Int.toNat_natCast]; rfl
          have eh : (tabL 1).getD (((a + k : Nat) : Int)).toNat 0 = fhi (a + k) := by rw [Int.toNat_natCast]; rfl
          rw [el, eh]
          by_cases d3 : flo (a + k) ≤ tvl B n (ten B n (Q k)) ∧ tvl B n (ten B n (Q k)) ≤ fhi (a + k)
          · have hok : FldOK B n (Q k) (wd (a + k)) (flo (a + k)) (fhi (a + k)) (tvl B n (ten B n (Q k))) (ten B n (ten B n (Q k))) := ⟨w1, d2, rfl, d3, rfl⟩
            have em : min 1000 (tvl B n (ten B n (Q k))) = tvl B n (ten B n (Q k)) := by omega
            rw [em]
            refine wp_neg (fun z => absurd ((lt32 (by omega) (by omega)).mp z) (by omega)) (wp_neg (fun z => absurd ((lt32 (by omega) (by omega)).mp z) (by omega)) ?_)
            have h48' : a + k < 7 ∨ N3 4 8 = (P : Int) + 1 := by
              rcases h48 with h | h
              · exact Or.inl (by omega)
              · refine Or.inr ?_
                rw [fr2 4 8 (by decide), q8 4 8 (by decide) (fun j hj z => ?_)]
                · exact h
                · exact (t_bd (P := P) (k := a + j) (by omega)).2 ⟨z.1.symm, Or.inr (Or.inl z.2.symm)⟩
            obtain ⟨tb1, tb2⟩ := t_bd (P := P) (k := a + k) (by omega)
            refine wp_then (sp_tell (by omega) hP h48') (wpo_of ⟨by dsimp only; omega, _, _, ?_, q1.next hok, ?_, ?_, fun c i h => ?_, ?_, ?_, fun j hj => ?_, fun c i h1 h2 => ?_⟩)
            · rw [if_neg (by omega)]
              exact q0
            · rw [if_pos rfl]
              exact hen2.2
            · dsimp only
              rw [if_pos rfl, ms_ne (by omega)]
              exact o4
            · dsimp only
              rw [ms_ne (by omega)]
              exact fr c i h
            · dsimp only
              rw [ms_ne (by omega)]
              exact fr3.1
            · dsimp only
              rw [ms_ne (by omega)]
              exact fr3.2
            · dsimp only
              by_cases e : j = k
              · rw [e, ms_same, if_pos rfl]
              · have tj := (t_bd (P := P) (k := a + j) (by omega)).1
                rw [ms_at, if_neg (fun z => e (by have := t_apart (by omega) (by omega) z; omega)), if_neg e, fr2 _ _ tj]
                exact q7 j (by omega)
            · dsimp only
              rw [ms_at, if_neg (h2 k (Nat.lt_succ_self k)), fr2 c i h1]
              exact q8 c i h1 (fun j hj => h2 j (by omega))
          · have hno : FOno B n a m p 2 (tst B n (ten B n (Q k))) := ⟨k, Q, V, Nat.le_of_lt hk, q0, q1, Or.inl ⟨hk, Or.inr (Or.inr ⟨w1, d2, d3, rfl, rfl⟩)⟩⟩
            by_cases d4 : min 1000 (tvl B n (ten B n (Q k))) < flo (a + k)
            · refine wp_pos ((lt32 (by omega) (by omega)).mpr d4) (wp_then sp_failed (wp_pos (Or.inl rfl) (wpo_of ⟨frF 2, rfl, 2, _, hno, fF 2⟩)))
            · refine wp_neg (fun z => d4 ((lt32 (by omega) (by omega)).mp z)) (wp_pos ((lt32 (by omega) (by omega)).mpr (by omega)) (wp_then sp_failed (wp_pos (Or.inl rfl) (wpo_of ⟨frF 2, rfl, 2, _, hno, fF 2⟩))))
        · refine wp_neg (by rw [o2]; exact fun z => d2 ((eq32 (by omega) (by omega)).mp z)) (wp_then sp_failed (wp_pos (Or.inl rfl) (wpo_of ⟨frF 1, rfl, 1, _, ⟨k, Q, V, Nat.le_of_lt hk, q0, q1, Or.inl ⟨hk, Or.inr (Or.inl ⟨w1, d2, rfl, rfl⟩)⟩⟩, fF 1⟩)))
      · refine wp_pos (show w32 0 = 0 by decide) (wpo_of ⟨fun c i h => ?_, rfl, 1, tst B n (Q k), ⟨k, Q, V, Nat.le_of_lt hk, q0, q1, Or.inl ⟨hk, Or.inl ⟨w1, rfl, rfl⟩⟩⟩, ?_, ?_⟩)
        · dsimp only
          unfold fail9
          rw [ms_ne (by omega), ms_ne (by omega), n1 c i (by omega)]
          exact q4 c i h
        · dsimp only
          unfold fail9
          rw [ms_ni (by decide), ms_same]
        · dsimp only
          unfold fail9
          rw [ms_same]
          exact n3
    · rintro ⟨t1, N⟩ ⟨e1, Q, V, q0, q1, q2, q3, q4, q5, q6, q7, q8⟩
      dsimp only at e1 q3 q4 q5 q6 q7 q8 ⊢
      subst e1
      exact wp_neg (fun z => absurd ((lt32 (by omega) (by omega)).mp z) (by omega)) (wpo_of ⟨Q, V, q0, q1, q2, q3, q4, q5, q6, q7, q8⟩)
  · rintro (N | ⟨v, N⟩)
    · rintro ⟨Q, V, q0, q1, q2, q3, q4, q5, q6, q7, q8⟩
      have hTN : TX N B n := hT.congr (fun c i h => q4 c i (by omega))
      show wpo (Option.bind (f4_next N) _) _
      refine wp_bind.mpr (wpo_mono (sp_next hTN q2 q3) ?_)
      rintro N1 ⟨n1, n2, n3, n4⟩
      have hk := tkd_bd (B := B) (n := n) (p := Q m)
      by_cases d : tkd B n (Q m) = 3
      · refine wp_pos (by rw [n2, d]) (wpo_of ⟨fun c i h => (n1 c i (by omega)).trans (q4 c i h), Or.inl ⟨rfl, Q, V, q0, q1, d, q2, n4, (n1 3 2 (by omega)).trans q5, (n1 3 3 (by omega)).trans q6, fun j hj => ?_, fun c i h1 h2 => (n1 c i (by omega)).trans (q8 c i h1 h2)⟩⟩)
        have tj := (t_bd (P := P) (k := a + j) (by omega)).1
        dsimp only
        rw [n1 _ _ (by omega)]
        exact q7 j hj
      · refine wp_neg (by rw [n2]; exact fun z => d ((eq32 (by omega) (by omega)).mp z)) (wp_then sp_failed (wp_pos (show w32 0 = 0 by decide) (wpo_of ⟨fun c i h => ?_, Or.inr ⟨rfl, 1, tst B n (Q m), ⟨m, Q, V, Nat.le_refl _, q0, q1, Or.inr ⟨rfl, d, rfl, rfl⟩⟩, ?_, ?_⟩⟩)))
        · dsimp only
          unfold fail9
          rw [ms_ne (by omega), ms_ne (by omega), n1 c i (by omega)]
          exact q4 c i h
        · dsimp only
          unfold fail9
          rw [ms_ni (by decide), ms_same]
        · dsimp only
          unfold fail9
          rw [ms_same]
          exact n3
    · rintro ⟨h1, h2, h3⟩
      exact wpo_of ⟨h1, Or.inr ⟨h2, h3⟩⟩
