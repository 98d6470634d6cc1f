/-! PAIRS, BEARER, SPOONS, LONELY (by hand) -/
theorem RB.of {D M : Mem} (hs : SK D M) (hM : YM (yW (D 118)) M) : RB D M := ⟨hs.w, fun p hp => ((hM.2.2.2.2.2.2.2.2 p hp).1).symm⟩
theorem all_bit {P p : Nat} (hp : p < P) : (2 ^ P - 1).testBit p = true := by
  rw [Nat.testBit_two_pow_sub_one]
  exact decide_eq_true hp
theorem mB_all {W : Nat → Int} {P d u : Nat} (hd : d ≤ P) : mB (fB W (2 ^ P - 1) 0) (2 ^ P - 1).testBit P d u = mB (fB W 0 0) allT P d u :=
  mB_congr (fun _ _ _ _ => fB_zero) (fun _ hp => all_bit hp) d u hd
set_option maxHeartbeats 1000000 in
theorem sp_layBearers {D M : Mem} (hI : IC D) (hs : SX 58 59 D M) : wpo (f10_layBearers M) (fun r => r.1 = (uB (fB (D 118) 0 0) (yP (yW (D 118))) (yP (yW (D 118))) : Int) ∧ (∀ c i, ¬ scr c i → r.2 c i = M c i) ∧ ∀ p, p < yP (yW (D 118)) → r.2 139 p = bB (fB (D 118) 0 0) (yP (yW (D 118))) p) := by
  have hP := hI.P
  have h256 := pow8 hP.2
  have hpos : 0 < 2 ^ yP (yW (D 118)) := Nat.two_pow_pos _
  have hMI := hI.sx hs (by decide)
  have hw := hs.w (by decide)
  obtain ⟨n, hn⟩ : ∃ n, n = yP (yW (D 118)) := ⟨_, rfl⟩
  obtain ⟨f, hf⟩ : ∃ f, f = fB (D 118) 0 0 := ⟨_, rfl⟩
  unfold f10_layBearers
  refine wp_bind.mpr (wpo_mono (sp_asIt hMI SK.rf) ?_)
  rintro M1 ⟨s1, y1, -⟩
  rw [hw] at y1
  have w1 : M1 118 = D 118 := s1.w.trans hw
  have R1 : RB D M1 := ⟨w1, fun p hp => ((y1.2.2.2.2.2.2.2.2 p hp).1).symm⟩
  have ha : f10_allPersons M1 = some ((2 ^ yP (yW (D 118)) - 1 : Nat) : Int) := by
    rw [sp_allP hP.2 (by rw [w1]; exact hP.1.symm)]
    congr 1
    omega
  refine wp_then ha ?_
  refine wp_bind.mpr (wpo_mono (sp_layPairs hI R1 (by omega) (by decide)) ?_)
  rintro ⟨q, M2⟩ ⟨-, k2, t2⟩
  dsimp only at k2 t2 ⊢
  have w2 : M2 118 = D 118 := (funext (fun i => k2 118 i (by decide))).trans w1
  have f2 : ∀ c i, ¬ scr c i → M2 c i = M c i := fun c i a => (k2 c i (by unfold scr at a; omega)).trans (s1 c i a)
  have tb : ∀ p u, p ≤ yP (yW (D 118)) → u < 2 ^ yP (yW (D 118)) → M2 138 (256 * p + u) = mB f allT (yP (yW (D 118))) (yP (yW (D 118)) - p) u := fun p u hp hu => by
    rw [t2 p u hp hu, mB_all (by omega), hf]
  have m7 : M2 118 7 = (n : Int) := by rw [w2, hn]; exact hP.1.symm
  rw [← hn] at hP h256 hpos tb
  rw [← hn, ← hf]
  have h8 : n ≤ 8 := hP.2
  refine wp_bind.mpr (wpo_mono (P := fun r => r.1 = (uB f n n : Int) ∧ (∀ c i, c ≠ 139 → r.2 c i = M2 c i) ∧ ∀ p, p < n → r.2 139 p = bB f n p) ?_ (fun r hr => wpo_of ⟨hr.1, fun c i a => (hr.2.1 c i (by unfold scr at a; omega)).trans (f2 c i a), hr.2.2⟩))
  refine wp_for (I := fun p t => t.1 = (uB f n p : Int) ∧ t.2.1 = (p : Int) ∧ (∀ c i, c ≠ 139 → t.2.2 c i = M2 c i) ∧ ∀ q, q < p → t.2.2 139 q = bB f n q) n ?_ ?_ FU 0 _ ⟨rfl, rfl, fun _ _ _ => rfl, fun q hq => absurd hq (Nat.not_lt_zero _)⟩ (Nat.zero_le _) (by unfold FU; omega)
  · rintro p ⟨t1, t2', N⟩ hp ⟨e1, e2, e3, e4⟩
    dsimp only at e1 e2 e3 e4 ⊢
    subst e1 e2
    have hu := uB_lt (f := f) (n := n) (p := p)
    refine wp_pos (by rw [m7]; exact (lt32 (by omega) (by omega)).mpr (by omega)) (wp_pos (by omega) (wp_then rfl (wp_then rfl ?_)))
    rw [Int.toNat_natCast]
    refine wp_bind.mpr (wpo_mono (P := fun B => (∀ c i, (c ≠ 139 ∨ i ≠ p) → B c i = N c i) ∧ B 139 p = bB f n p) ?_ ?_)
    · refine wp_for (I := fun k t => t.1 = (n : Int) - 1 - (k : Int) ∧ (∀ c i, (c ≠ 139 ∨ i ≠ p) → t.2 c i = N c i) ∧ ((t.2 139 p = -1 ∧ ∀ b, b < n → n - k ≤ b → ¬ cB f n p (uB f n p) b = true) ∨ ∃ b : Nat, b < n ∧ n - k ≤ b ∧ t.2 139 p = (b : Int) ∧ cB f n p (uB f n p) b = true ∧ ∀ j, n - k ≤ j → j < b → ¬ cB f n p (uB f n p) j = true)) n ?_ ?_ FU 0 _ ⟨by dsimp only; rw [m7]; omega, fun c i h => ?_, Or.inl ⟨by dsimp only; exact ms_same, fun b hb hb2 => by omega⟩⟩ (Nat.zero_le _) (by unfold FU; omega)
      · rintro k ⟨u1, B⟩ hk ⟨b1, b2, b3⟩
        dsimp only at b1 b2 b3 ⊢
        obtain ⟨b, hb⟩ : ∃ b : Nat, b = n - (k + 1) := ⟨_, rfl⟩
        have hbk : (n : Int) - 1 - (k : Int) = (b : Int) := by omega
        have hnk : n - k = b + 1 := by omega
        rw [hbk] at b1
        subst b1
        have hbn : b < n := by omega
        have hol := or_lt hu hbn
        have hob := or_bit h8 hu hbn
        have BR : RB D B := by
          refine ⟨(funext (fun i => (b2 118 i (Or.inl (by decide))).trans (e3 118 i (by decide)))).trans w2, fun q hq => ?_⟩
          rw [b2 124 q (Or.inl (by decide)), e3 124 q (by decide), k2 124 q (by decide)]
          exact R1.2 q hq
        have bT : ∀ p' u, p' ≤ n → u < 2 ^ n → B 138 (256 * p' + u) = mB f allT n (n - p') u := fun p' u h1 h2 => by
          rw [b2 138 _ (Or.inl (by decide)), e3 138 _ (by decide)]
          exact tb p' u h1 h2
        have bt : f10_bit B (uB f n p : Int) (b : Int) = some (if (uB f n p).testBit b = true then 1 else 0) := by
          unfold f10_bit
          rw [bit8 (by omega) (by omega)]
        have hmb := mB_bd (f := f) (g := allT) (n := n) (d := n - (p + 1)) (u := uB f n p ||| 1 <<< b)
        have hdue := mB_bd (f := f) (g := allT) (n := n) (d := n - p) (u := uB f n p)
        have hcB : cB f n p (uB f n p) b = (!(uB f n p).testBit b && (f p b && decide (1 + mB f allT n (n - (p + 1)) (uB f n p ||| 1 <<< b) = mB f allT n (n - p) (uB f n p)))) := rfl
        refine wp_neg (by rw [w32_id (by omega)]; omega) (wp_then bt ?_)
        refine wp_then (a := if cB f n p (uB f n p) b = true then mset B 139 p (b : Int) else B) (wp_is ?_) ?_
        · by_cases g1 : (uB f n p).testBit b = true
          · refine wp_neg (by rw [if_pos g1]; decide) (wpo_of ?_)
            rw [if_neg (by rw [hcB, g1]; simp)]
          · have g1' : (uB f n p).testBit b = false := by simpa using g1
            refine wp_pos (by rw [if_neg g1]; decide) (wp_then (sp_canBear hI BR (by omega) (by omega) (by decide)) ?_)
            by_cases g2 : b ≠ p ∧ yW (D 118) 1 p ≤ D 118 (10 + 4 * b + 3) + 0
            · have g2' : f p b = true := by
                rw [hf]
                unfold fB
                rw [decide_eq_true_eq, Nat.zero_testBit]
                exact ⟨g2.1, by simpa using g2.2⟩
              refine wp_neg (fun z => if01.mp z g2) ?_
              rw [hob]
              have st1 : f10_state B ((p : Int) + 1) ((uB f n p ||| 1 <<< b : Nat) : Int) = some ((256 * (p + 1) + (uB f n p ||| 1 <<< b) : Nat) : Int) := by
                show some (256 * ((p : Int) + 1) + _) = _
                congr 1
              have st2 : f10_state B (p : Int) (uB f n p : Int) = some ((256 * p + uB f n p : Nat) : Int) := by
                show some (256 * (p : Int) + _) = _
                congr 1
              refine wp_then st1 (wp_pos (by omega) (wp_then st2 (wp_pos (by omega) ?_)))
              have v1 := bT (p + 1) _ (by omega) hol
              have v2 := bT p _ (by omega) hu
              by_cases g3 : 1 + mB f allT n (n - (p + 1)) (uB f n p ||| 1 <<< b) = mB f allT n (n - p) (uB f n p)
              · refine wp_pos (by rw [Int.toNat_natCast, Int.toNat_natCast, v1, v2]; exact congrArg w32 g3) (wpo_of ?_)
                rw [if_pos (by rw [hcB, g1', g2', decide_eq_true g3]; rfl)]
              · refine wp_neg (fun z => g3 ?_) (wpo_of ?_)
                · rw [Int.toNat_natCast, Int.toNat_natCast, v1, v2] at z
                  exact (eq32 (by omega) (by omega)).mp z
                · rw [if_neg (by rw [hcB, decide_eq_false g3]; simp)]
            · have g2' : f p b = false := by
                rw [hf]
                unfold fB
                rw [decide_eq_false_iff_not, Nat.zero_testBit]
                exact fun z => g2 ⟨z.1, by simpa using z.2⟩
              refine wp_pos (if01.mpr g2) (wpo_of ?_)
              rw [if_neg (by rw [hcB, g2']; simp)]
        · by_cases c : cB f n p (uB f n p) b = true
          · rw [if_pos c]
            refine wpo_of ⟨by dsimp only; omega, fun c' i h => ?_, Or.inr ⟨b, hbn, by omega, by dsimp only; exact ms_same, c, fun j h1 h2 => by omega⟩⟩
            dsimp only
            rcases h with h | h
            · rw [ms_ne h]
              exact b2 c' i (Or.inl h)
            · rw [ms_ni h]
              exact b2 c' i (Or.inr h)
          · rw [if_neg c]
            refine wpo_of ⟨by dsimp only; omega, b2, ?_⟩
            dsimp only
            have hno : ∀ j, j < n → n - (k + 1) ≤ j → (n - k ≤ j ∨ j = b) := fun j h1 h2 => by omega
            rcases b3 with ⟨b3, b4⟩ | ⟨b0, c1, c2, c3, c4, c5⟩
            · refine Or.inl ⟨b3, fun j h1 h2 => ?_⟩
              rcases hno j h1 h2 with h | h
              · exact b4 j h1 h
              · rw [h]
                exact c
            · refine Or.inr ⟨b0, c1, by omega, c3, c4, fun j h1 h2 => ?_⟩
              rcases hno j (by omega) h1 with h | h
              · exact c5 j h h2
              · rw [h]
                exact c
      · rintro ⟨u1, B⟩ ⟨b1, b2, b3⟩
        dsimp only at b1 b2 b3 ⊢
        refine wp_pos (by rw [b1, w32_id (by omega)]; omega) (wpo_of ⟨b2, ?_⟩)
        have hfirst : First n (fun k => cB f n p (uB f n p) k = true) (B 139 p) := by
          rcases b3 with ⟨b3, b4⟩ | ⟨b0, c1, c2, c3, c4, c5⟩
          · exact Or.inl ⟨b3, fun j hj => b4 j hj (by omega)⟩
          · exact Or.inr ⟨b0, c1, c3, c4, fun j hj => c5 j (by omega) hj⟩
        exact hfirst.uniq (fi_first n)
      · dsimp only
        rcases h with h | h
        · exact ms_ne h
        · exact ms_ni h
    · rintro B ⟨b2, b3⟩
      have hbb := bB_bd (f := f) (n := n) (p := p)
      have eu : uB f n (p + 1) = if bB f n p = -1 then uB f n p else uB f n p ||| 1 <<< (bB f n p).toNat := rfl
      have e5' : ∀ q, q < p + 1 → B 139 q = bB f n q := fun q hq => by
        by_cases e : q = p
        · rw [e]
          exact b3
        · rw [b2 139 q (Or.inr e)]
          exact e4 q (by omega)
      have e3' : ∀ c i, c ≠ 139 → B c i = M2 c i := fun c i h => (b2 c i (Or.inl h)).trans (e3 c i h)
      by_cases c : bB f n p = -1
      · refine wp_then (a := 0) (if_pos (by rw [b3, c])) (wpo_of ⟨?_, by dsimp only; omega, e3', e5'⟩)
        dsimp only
        rw [eu, if_pos c]
        have := or32_nat (a := uB f n p) (b := 0) (by omega) (by decide)
        simpa using this
      · obtain ⟨w, hw2⟩ : ∃ w : Nat, bB f n p = (w : Int) := ⟨(bB f n p).toNat, by omega⟩
        refine wp_then (if_neg (fun z => c ?_)) (wpo_of ⟨?_, by dsimp only; omega, e3', e5'⟩)
        · rw [b3] at z
          exact (eq32 (by omega) (by omega)).mp z
        · dsimp only
          rw [b3, hw2, or_bit h8 hu (by omega), eu, if_neg c, hw2, Int.toNat_natCast]
  · rintro ⟨t1, t2', N⟩ ⟨e1, e2, e3, e4⟩
    dsimp only at e1 e2 e3 e4 ⊢
    subst e1 e2
    exact wp_neg (by rw [m7]; exact fun z => absurd ((lt32 (by omega) (by omega)).mp z) (by omega)) (wpo_of ⟨rfl, e3, e4⟩)
def AGb (D : Mem) (x9 : Option (Int × Mem)) (x10 : Mem → Option (Int × Mem)) : Prop := wpo x9 (fun a => wpo (x10 a.2) (fun b => w32 a.1 = w32 b.1 ∧ SX 58 59 D b.2 ∧ KB b.2))
theorem KB.to {D M N : Mem} (hw : N 118 = D 118) (h1 : M 58 1 = 1) (h2 : YTB (D 118) M) (h' : ∀ c i, ¬ scr c i → N c i = M c i) : KB N := by
  have e1 : ∀ i, N 58 i = M 58 i := fun i => h' 58 i (by unfold scr; omega)
  have e2 : ∀ i, N 59 i = M 59 i := fun i => h' 59 i (by unfold scr; omega)
  refine Or.inr ⟨(e1 1).trans h1, ?_⟩
  obtain ⟨a1, a2, a3⟩ := h2
  rw [hw]
  exact ⟨(e1 2).trans a1, (e1 3).trans a2, fun p hp => (e2 p).trans (a3 p hp)⟩
theorem sx_there10 {D M : Mem} (hI : IC D) (hw : M 118 = D 118) : f10_isParish M = some (if 0 < D 118 9 then 1 else 0) := by
  have hb := hI.1.bd
  rw [sp_isParish (by rw [hw]; omega), hw]
theorem sx_person10 {D M : Mem} {x : Int} (hI : IC D) (hw : M 118 = D 118) (hx : A32 x) : f10_isPerson M x = some (if 0 ≤ x ∧ x < D 118 7 then 1 else 0) := by
  have hb := hI.1.bd
  rw [sp_isPersonM (by rw [hw]; omega) hx, hw]
theorem ag_pairs {D : Mem} (hI : IC D) (hK : KB D) : AGb D (f9_pairs D) (fun M => f10_pairs M) := by
  have hP := hI.P
  have h256 := pow8 hP.2
  have hpos : 0 < 2 ^ yP (yW (D 118)) := Nat.two_pow_pos _
  unfold AGb f9_pairs f10_pairs
  refine wp_then (sp_there9 hI) ?_
  by_cases c : 0 < D 118 9
  · refine wp_neg (fun z => if01.mp z c) ?_
    refine wp_bind.mpr (wpo_mono (sp_workB hI hK) ?_)
    rintro M ⟨s1, k1, k2⟩
    refine wpo_of ?_
    have hMI := hI.sx s1 (by decide)
    have hw := s1.w (by decide)
    refine wp_bind.mpr (wpo_mono (sp_asIt hMI SK.rf) ?_)
    rintro M1 ⟨s2, y1, -⟩
    rw [hw] at y1
    have w1 : M1 118 = D 118 := s2.w.trans hw
    have R1 : RB D M1 := ⟨w1, fun p hp => ((y1.2.2.2.2.2.2.2.2 p hp).1).symm⟩
    have ha : f10_allPersons M1 = some ((2 ^ yP (yW (D 118)) - 1 : Nat) : Int) := by
      rw [sp_allP hP.2 (by rw [w1]; exact hP.1.symm)]
      congr 1
      omega
    refine wp_then (sx_there10 hI w1) (wp_neg (fun z => if01.mp z c) (wp_then ha ?_))
    refine wp_bind.mpr (wpo_mono (sp_layPairs hI R1 (by omega) (by decide)) ?_)
    rintro ⟨q, M2⟩ ⟨q1, q2, -⟩
    dsimp only at q1 q2 ⊢
    have f2 : ∀ c i, ¬ scr c i → M2 c i = M c i := fun c i a => (q2 c i (by unfold scr at a; omega)).trans (s2 c i a)
    have w2 : M2 118 = D 118 := (funext (fun i => q2 118 i (by decide))).trans w1
    refine wpo_of ⟨?_, s1.scr f2, KB.to w2 k1 k2 f2⟩
    dsimp only
    rw [k2.1, q1, mB_all (Nat.le_refl _)]
  · refine wp_pos (if01.mpr c) (wpo_of ?_)
    refine wp_bind.mpr (wpo_mono (sp_asIt hI SK.rf) ?_)
    rintro M1 ⟨s1, -, -⟩
    exact wp_then (sp_there10 hI s1) (wp_pos (if01.mpr c) (wpo_of ⟨rfl, s1.sx 58 59, hK.sk s1⟩))
theorem bB_32 {f : Nat → Nat → Bool} {n p : Nat} (hn : n ≤ 8) : (w32 (bB f n p) = w32 (-1)) ↔ bB f n p = -1 := by
  have := bB_bd (f := f) (n := n) (p := p)
  exact eq32 (by omega) (by omega)
theorem ag_bearer {D : Mem} {x : Int} (hI : IC D) (hK : KB D) (hx : A32 x) : AGb D (f9_bearer D x) (fun M => f10_bearer M x) := by
  have hP := hI.P
  unfold AGb f9_bearer f10_bearer
  refine wp_then (sp_person9 hI hx) ?_
  by_cases c : 0 ≤ x ∧ x < D 118 7
  · refine wp_neg (fun z => if01.mp z c) ?_
    refine wp_bind.mpr (wpo_mono (sp_workB hI hK) ?_)
    rintro M ⟨s1, k1, k2⟩
    refine wp_pos (by omega) (wpo_of ?_)
    refine wp_bind.mpr (wpo_mono (sp_layBearers hI s1) ?_)
    rintro ⟨v, N⟩ ⟨-, n2, n3⟩
    dsimp only at n2 n3 ⊢
    have w2 : N 118 = D 118 := (s1.scr n2).w (by decide)
    refine wp_then (sx_person10 hI w2 hx) (wp_neg (fun z => if01.mp z c) (wp_pos (by omega) (wpo_of ⟨?_, s1.scr n2, KB.to w2 k1 k2 n2⟩)))
    dsimp only
    rw [n3 _ (by omega), k2.2.2 _ (by omega)]
  · refine wp_pos (if01.mpr c) (wpo_of ?_)
    refine wp_bind.mpr (wpo_mono (sp_layBearers hI (SK.rf.sx 58 59)) ?_)
    rintro ⟨v, N⟩ ⟨-, n2, n3⟩
    dsimp only at n2 n3 ⊢
    have sN : SK D N := n2
    exact wp_then (sx_person10 hI sN.w hx) (wp_pos (if01.mpr c) (wpo_of ⟨rfl, sN.sx 58 59, hK.sk sN⟩))
theorem ag_spoons {D : Mem} (hI : IC D) (hK : KB D) : AGb D (f9_spoons D) (fun M => f10_spoons M) := by
  have hP := hI.P
  unfold AGb f9_spoons f10_spoons
  refine wp_then (sp_there9 hI) ?_
  by_cases c : 0 < D 118 9
  · refine wp_neg (fun z => if01.mp z c) ?_
    refine wp_bind.mpr (wpo_mono (sp_workB hI hK) ?_)
    rintro M ⟨s1, k1, k2⟩
    refine wpo_of ?_
    refine wp_bind.mpr (wpo_mono (sp_layBearers hI s1) ?_)
    rintro ⟨v, N⟩ ⟨n1, n2, n3⟩
    dsimp only at n1 n2 n3 ⊢
    have w2 : N 118 = D 118 := (s1.scr n2).w (by decide)
    refine wp_then (sx_there10 hI w2) (wp_neg (fun z => if01.mp z c) (wpo_of ⟨?_, s1.scr n2, KB.to w2 k1 k2 n2⟩))
    dsimp only
    rw [n1, k2.2.1]
  · refine wp_pos (if01.mpr c) (wpo_of ?_)
    refine wp_bind.mpr (wpo_mono (sp_layBearers hI (SK.rf.sx 58 59)) ?_)
    rintro ⟨v, N⟩ ⟨-, n2, n3⟩
    dsimp only at n2 n3 ⊢
    have sN : SK D N := n2
    exact wp_then (sx_there10 hI sN.w) (wp_pos (if01.mpr c) (wpo_of ⟨rfl, sN.sx 58 59, hK.sk sN⟩))
theorem ag_lonely {D : Mem} (hI : IC D) (hK : KB D) : AGb D (f9_lonely D) (fun M => f10_lonely M) := by
  have hP := hI.P
  unfold AGb f9_lonely f10_lonely
  refine wp_then (sp_there9 hI) ?_
  by_cases c : 0 < D 118 9
  · refine wp_neg (fun z => if01.mp z c) ?_
    refine wp_bind.mpr (wpo_mono (sp_workB hI hK) ?_)
    rintro M ⟨s1, k1, k2⟩
    have e8 : M 12 8 = D 118 7 := (s1.keep (by omega) (by decide) 8).trans hI.e8
    refine wp_bind.mpr (wpo_mono (P := fun v => v = ((nset (fun p => decide (bB (fB (D 118) 0 0) (yP (yW (D 118))) p = -1)) (yP (yW (D 118))) : Nat) : Int)) ?_ ?_)
    · refine wp_for (I := fun k s => s = (((nset (fun p => decide (bB (fB (D 118) 0 0) (yP (yW (D 118))) p = -1)) k : Nat) : Int), (k : Int))) (yP (yW (D 118))) ?_ ?_ FU 0 _ rfl (Nat.zero_le _) (by unfold FU; omega)
      · rintro k s hk rfl
        dsimp only
        refine wp_pos (by rw [e8]; exact (lt32 (by omega) (by omega)).mpr (by omega)) (wp_pos (by omega) ?_)
        refine wp_then (a := ((nset (fun p => decide (bB (fB (D 118) 0 0) (yP (yW (D 118))) p = -1)) (k + 1) : Nat) : Int)) ?_ (wpo_of rfl)
        rw [← or_next2 (by omega), Int.toNat_natCast, k2.2.2 k hk]
        refine wp_is ?_
        by_cases c1 : bB (fB (D 118) 0 0) (yP (yW (D 118))) k = -1
        · exact wp_pos ((bB_32 hP.2).mpr c1) (wpo_of (by rw [if_pos (by simp [c1])]))
        · exact wp_neg (fun z => c1 ((bB_32 hP.2).mp z)) (wpo_of (by rw [if_neg (by simp [c1])]))
      · rintro s rfl
        dsimp only
        exact wp_neg (by rw [e8]; exact fun z => absurd ((lt32 (by omega) (by omega)).mp z) (by omega)) (wpo_of rfl)
    · rintro v rfl
      refine wpo_of ?_
      refine wp_bind.mpr (wpo_mono (sp_layBearers hI s1) ?_)
      rintro ⟨v, N⟩ ⟨n1, n2, n3⟩
      dsimp only at n1 n2 n3 ⊢
      have w2 : N 118 = D 118 := (s1.scr n2).w (by decide)
      refine wp_then (sx_there10 hI w2) (wp_neg (fun z => if01.mp z c) ?_)
      refine wp_bind.mpr (wpo_mono (P := fun v => v = ((nset (fun p => decide (bB (fB (D 118) 0 0) (yP (yW (D 118))) p = -1)) (yP (yW (D 118))) : Nat) : Int)) ?_ (fun v hv => wpo_of ⟨by dsimp only; rw [hv], s1.scr n2, KB.to w2 k1 k2 n2⟩))
      refine wp_for (I := fun k s => s = (((nset (fun p => decide (bB (fB (D 118) 0 0) (yP (yW (D 118))) p = -1)) k : Nat) : Int), (k : Int))) (yP (yW (D 118))) ?_ ?_ FU 0 _ rfl (Nat.zero_le _) (by unfold FU; omega)
      · rintro k s hk rfl
        dsimp only
        refine wp_pos (by rw [w2]; exact (lt32 (by omega) (by omega)).mpr (by omega)) (wp_pos (by omega) ?_)
        refine wp_then (a := if (fun p => decide (bB (fB (D 118) 0 0) (yP (yW (D 118))) p = -1)) k = true then shl32 1 (k : Int) else 0) ?_ (wpo_of ?_)
        · refine wp_is ?_
          by_cases c1 : bB (fB (D 118) 0 0) (yP (yW (D 118))) k = -1
          · exact wp_pos (by rw [Int.toNat_natCast, n3 k hk]; exact (bB_32 hP.2).mpr c1) (wpo_of (by rw [if_pos (by simp [c1])]))
          · exact wp_neg (by rw [Int.toNat_natCast, n3 k hk]; exact fun z => c1 ((bB_32 hP.2).mp z)) (wpo_of (by rw [if_neg (by simp [c1])]))
        · show (_, _) = (_, _)
          rw [or_next (f := fun p => decide (bB (fB (D 118) 0 0) (yP (yW (D 118))) p = -1)) (by omega)]
          rfl
      · rintro s rfl
        dsimp only
        exact wp_neg (by rw [w2]; exact fun z => absurd ((lt32 (by omega) (by omega)).mp z) (by omega)) (wpo_of rfl)
  · refine wp_pos (if01.mpr c) (wpo_of ?_)
    refine wp_bind.mpr (wpo_mono (sp_layBearers hI (SK.rf.sx 58 59)) ?_)
    rintro ⟨v, N⟩ ⟨-, n2, n3⟩
    dsimp only at n2 n3 ⊢
    have sN : SK D N := n2
    exact wp_then (sx_there10 hI sN.w) (wp_pos (if01.mpr c) (wpo_of ⟨rfl, sN.sx 58 59, hK.sk sN⟩))
