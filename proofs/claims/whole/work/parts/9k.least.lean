/-! LEAST, WAYS, REGRET (by hand) -/
def AGk (D : Mem) (x9 : Option (Int × Mem)) (x10 : Mem → Option (Int × Mem)) : Prop := wpo x9 (fun a => wpo (x10 a.2) (fun b => a.1 = b.1 ∧ SX 49 57 D b.2 ∧ KP b.2))
theorem YM.congr2 {Y M M' : Mem} (h : YM Y M) (k : ∀ c i, c = 118 ∨ (c = 117 ∧ 19 ≤ i ∧ i ≤ 22) ∨ (124 ≤ c ∧ c ≤ 127) → M' c i = M c i) : YM Y M' := by
  obtain ⟨h0, h1, h2, h3, h4, h5, h6, hg, h7⟩ := h
  refine ⟨?_, ?_, ?_, ?_, ?_, ?_, ?_, ?_, fun p hp => ?_⟩
  · rw [k 118 0 (by omega)]; exact h0
  · rw [k 117 19 (by omega)]; exact h1
  · rw [k 117 20 (by omega)]; exact h2
  · rw [k 117 22 (by omega)]; exact h3
  · rw [k 118 2 (by omega)]; exact h4
  · rw [k 118 3 (by omega)]; exact h5
  · rw [k 118 7 (by omega)]; exact h6
  · rw [k 117 21 (by omega)]; exact hg
  · rw [k 124 p (by omega), k 118 _ (by omega), k 117 21 (by omega), k 125 p (by omega), k 126 p (by omega), k 127 p (by omega)]
    exact h7 p hp
theorem sp_asksPlans {M : Mem} (hI : IC M) : wpo (f10_asksPlans M) (fun r => r.1 = (if 0 < M 118 9 then 1 else 0) ∧ SK M r.2 ∧ YM (yW (M 118)) r.2 ∧ r.2 117 21 = -1 ∧ ∀ p, p < 8 → r.2 137 p = -2) := by
  unfold f10_asksPlans
  refine wp_bind.mpr (wpo_mono (sp_asIt hI SK.rf) ?_)
  rintro M1 ⟨a1, a2, a3⟩
  refine wp_bind.mpr (wpo_mono (P := fun S => (∀ c i, c ≠ 137 → S c i = M1 c i) ∧ ∀ p, p < 8 → S 137 p = -2) ?_ ?_)
  · refine wp_for (I := fun j t => t.1 = (j : Int) ∧ (∀ c i, c ≠ 137 → t.2 c i = M1 c i) ∧ ∀ p, p < j → t.2 137 p = -2) 8 ?_ ?_ FU 0 _ ⟨rfl, fun _ _ _ => rfl, fun p hp => absurd hp (Nat.not_lt_zero _)⟩ (Nat.zero_le _) (by unfold FU; omega)
    · rintro j ⟨t1, N⟩ hj ⟨b1, b2, b3⟩
      dsimp only at b1 b2 b3 ⊢
      subst b1
      refine wp_pos ((lt32 (by omega) (by omega)).mpr (by omega)) (wp_pos (by omega) (wpo_of ⟨by dsimp only; omega, fun c i h => ?_, fun p hp => ?_⟩))
      · dsimp only
        rw [ms_ne h]
        exact b2 c i h
      · dsimp only
        rw [Int.toNat_natCast]
        by_cases e : p = j
        · rw [e, ms_same]
        · rw [ms_ni e]
          exact b3 p (by omega)
    · rintro ⟨t1, N⟩ ⟨b1, b2, b3⟩
      dsimp only at b1 b2 b3 ⊢
      subst b1
      exact wp_neg (fun z => absurd ((lt32 (by omega) (by omega)).mp z) (by omega)) (wpo_of ⟨b2, b3⟩)
  rintro S ⟨b1, b2⟩
  have hs : SK M S := a1.tr (fun c i h => b1 c i (by unfold scr at h; omega))
  refine wp_then (sp_there10 hI hs) (wp_pos ?_ (wpo_of ⟨rfl, hs, a2.congr2 (fun c i h => b1 c i (by omega)), (b1 117 21 (by decide)).trans a3, b2⟩))
  by_cases c : 0 < M 118 9
  · rw [if_pos c]; exact Or.inr rfl
  · rw [if_neg c]; exact Or.inl rfl
/-- a year told of the parish as it is, but for its room -/
def YE (Y M : Mem) : Prop := YOK Y ∧ Y 1 = pA M ∧ ycost Y = pC M ∧ Y 3 = pF M ∧ yP Y = pP M ∧ yN Y = pN M
theorem YE.self {M : Mem} (hI : IC M) : YE (yW (M 118)) M := ⟨hI.1.yok, rfl, rfl, rfl, rfl, rfl⟩
theorem sp_leastY {Y M N : Mem} {fx : Nat → Int} (hI : IC M) (hs : SK M N) (hE : YE Y M) (hY : YM Y N) (h21 : N 117 21 = -1) (hx : ∀ p, p < pP M → N 137 p = fx p ∧ -2 ≤ fx p ∧ fx p ≤ 20) : wpo (f10_leastOf N) (fun r => LF N r.2 ∧ SK M r.2 ∧ YM Y r.2 ∧ r.2 117 21 = -1 ∧ TBp (1440 * (pN M : Int)) r.1 (r.2 136 0) (Zr (pA M) (pC M) (pF M) fx (pP M) (pN M) (Y 0 1) (pK M) 0 0)) := by
  obtain ⟨y1, y2, y3, y4, y5, y6⟩ := hE
  have hR := y1.2.1
  have hB := hI.pb hR
  rw [← y2, ← y3, ← y4, ← y5, ← y6] at hB
  have hw : N 118 = M 118 := funext (fun i => hs 118 i (by unfold scr; omega))
  refine wpo_mono (sp_leastOf (fx := fx) (K := pK M) y1 hY h21 hB (by rw [hw]; rfl) (fun p hp => hx p (by rw [← y5]; exact hp))) ?_
  rintro ⟨v, S⟩ ⟨a1, a2⟩
  dsimp only at a1 a2 ⊢
  rw [y2, y3, y4, y5, y6] at a2
  exact ⟨a1, hs.tr (fun c i h => a1 c i (by unfold scr at h; omega) (by unfold scr at h; omega)), hY.congr2 (fun c i h => a1 c i (by omega) (by omega)), (a1 117 21 (by omega) (by omega)).trans h21, a2⟩
theorem KP.to {D M N : Mem} (hw : N 118 = D 118) (h1 : M 49 1 = 1) (h2 : KP1 D M) (hs : SK M N) : KP N := Or.inr ⟨(hs 49 1 (by unfold scr; omega)).trans h1, h2.congr hw (fun c i x => hs c i (by unfold scr; omega))⟩
/-- both have looked at all plans -/
theorem sp_both {D M : Mem} (hI : IC D) (hs : SX 49 57 D M) (h1 : M 49 1 = 1) (h2 : KP1 D M) : IC M ∧ M 118 = D 118 ∧ KP1 M M := by
  have hw := hs.w (by omega)
  exact ⟨hI.sx hs (by omega), hw, h2.congr hw (fun _ _ _ => rfl)⟩
theorem sp_first {M : Mem} (hI : IC M) (hK : KP1 M M) : wpo (f10_asksPlans M) (fun r => r.1 = (if 0 < M 118 9 then 1 else 0) ∧ SK M r.2 ∧ wpo (f10_leastOf r.2) (fun u => SK M u.2 ∧ YM (yW (M 118)) u.2 ∧ u.2 117 21 = -1 ∧ (∀ p, p < 8 → u.2 137 p = -2) ∧ u.1 = M 49 2 ∧ u.2 136 0 = M 49 3)) := by
  refine wpo_mono (sp_asksPlans hI) ?_
  rintro ⟨v, N⟩ ⟨a1, a2, a3, a4, a5⟩
  dsimp only at a1 a2 a3 a4 a5 ⊢
  have hP : pP M ≤ 8 := hI.P.2
  refine ⟨a1, a2, wpo_mono (sp_leastY (fx := fun _ => -2) hI a2 (YE.self hI) a3 a4 (fun p hp => ⟨a5 p (by omega), by decide, by decide⟩)) ?_⟩
  rintro ⟨u, S⟩ ⟨b1, b2, b3, b4, b5⟩
  dsimp only at b1 b2 b3 b4 b5 ⊢
  obtain ⟨-, r, h3, -⟩ := hK
  obtain ⟨e1, e2⟩ := free_least (fun p _ => rfl) h3 b5
  exact ⟨b2, b3, b4, fun p hp => (b1 137 p (by omega) (by omega)).trans (a5 p hp), e1, e2⟩
theorem ag_none {D : Mem} (hI : IC D) (hK : KP D) (h : ¬ 0 < D 118 9) {x : Int × Mem → Option (Int × Mem)} (hx : ∀ r, w32 r.1 = 0 → x r = some (-2, r.2)) : wpo (Option.bind (f10_asksPlans D) x) (fun b => (-2 : Int) = b.1 ∧ SX 49 57 D b.2 ∧ KP b.2) := by
  refine wp_bind.mpr (wpo_mono (sp_asksPlans hI) ?_)
  rintro ⟨v, N⟩ ⟨a1, a2, -⟩
  dsimp only at a1 a2 ⊢
  rw [hx _ (by dsimp only; rw [a1, if_neg h]; rfl)]
  exact wpo_of ⟨rfl, a2.sx 49 57, hK.sk a2⟩
theorem ag_least {D : Mem} (hI : IC D) (hK : KP D) : AGk D (f9_least D) (fun M => f10_least M) := by
  unfold AGk f9_least f10_least
  refine wp_then (sp_there9 hI) ?_
  by_cases c : 0 < D 118 9
  · refine wp_neg (fun z => if01.mp z c) (wp_bind.mpr (wpo_mono (sp_workP hI hK) ?_))
    rintro M ⟨m1, m2, m3⟩
    obtain ⟨hM, hw, k1⟩ := sp_both hI m1 m2 m3
    refine wpo_of (wp_bind.mpr (wpo_mono (sp_first hM k1) ?_))
    rintro ⟨v, N⟩ ⟨a1, -, a2⟩
    dsimp only at a1 a2 ⊢
    refine wp_neg (by rw [a1]; exact fun z => if01.mp z (by rw [hw]; exact c)) (wp_bind.mpr (wpo_mono a2 ?_))
    rintro ⟨u, S⟩ ⟨b1, -, -, -, b5, -⟩
    dsimp only at b1 b5 ⊢
    exact wpo_of ⟨by rw [b5], m1.tr (b1.sx 49 57), KP.to ((funext (fun i => b1 118 i (by unfold scr; omega))).trans hw) m2 m3 b1⟩
  · exact wp_pos (if01.mpr c) (wpo_of (ag_none hI hK c (fun r hr => if_pos hr)))
theorem ag_ways {D : Mem} (hI : IC D) (hK : KP D) : AGk D (f9_ways D) (fun M => f10_ways M) := by
  unfold AGk f9_ways f10_ways
  refine wp_then (sp_there9 hI) ?_
  by_cases c : 0 < D 118 9
  · refine wp_neg (fun z => if01.mp z c) (wp_bind.mpr (wpo_mono (sp_workP hI hK) ?_))
    rintro M ⟨m1, m2, m3⟩
    obtain ⟨hM, hw, k1⟩ := sp_both hI m1 m2 m3
    refine wpo_of (wp_bind.mpr (wpo_mono (sp_first hM k1) ?_))
    rintro ⟨v, N⟩ ⟨a1, -, a2⟩
    dsimp only at a1 a2 ⊢
    refine wp_neg (by rw [a1]; exact fun z => if01.mp z (by rw [hw]; exact c)) (wp_bind.mpr (wpo_mono a2 ?_))
    rintro ⟨u, S⟩ ⟨b1, -, -, -, -, b6⟩
    dsimp only at b1 b6 ⊢
    exact wpo_of ⟨by rw [b6], m1.tr (b1.sx 49 57), KP.to ((funext (fun i => b1 118 i (by unfold scr; omega))).trans hw) m2 m3 b1⟩
  · exact wp_pos (if01.mpr c) (wpo_of (ag_none hI hK c (fun r hr => if_pos hr)))
theorem ag_regret {D : Mem} (hI : IC D) (hK : KP D) : AGk D (f9_regret D) (fun M => f10_regret M) := by
  unfold AGk f9_regret f10_regret
  refine wp_then (sp_there9 hI) ?_
  by_cases c : 0 < D 118 9
  · refine wp_neg (fun z => if01.mp z c) (wp_bind.mpr (wpo_mono (sp_workP hI hK) ?_))
    rintro M ⟨m1, m2, m3⟩
    obtain ⟨hM, hw, k1⟩ := sp_both hI m1 m2 m3
    refine wpo_of (wp_bind.mpr (wpo_mono (sp_asksParish hM.1) ?_))
    rintro ⟨v, N⟩ ⟨a1, a2, a3⟩
    dsimp only at a1 a2 a3 ⊢
    refine wp_neg (by rw [a1]; exact fun z => if01.mp z (by rw [hw]; exact c)) (wp_then (sp_bearsAll hM.1.yok a3) ?_)
    have hN := hM.sk a2
    have hw2 : N 118 = M 118 := funext (fun i => a2 118 i (by unfold scr; omega))
    have k2 : KP1 N N := k1.congr hw2 (fun c i x => a2 c i (by unfold scr; omega))
    refine wp_bind.mpr (wpo_mono (sp_first hN k2) ?_)
    rintro ⟨v2, N2⟩ ⟨-, -, a5⟩
    dsimp only at a5 ⊢
    refine wp_bind.mpr (wpo_mono a5 ?_)
    rintro ⟨u, S⟩ ⟨b1, -, -, -, b5, -⟩
    dsimp only at b1 b5 ⊢
    have b0 : SK M S := a2.tr b1
    refine wpo_of ⟨?_, m1.tr (b0.sx 49 57), KP.to ((funext (fun i => b0 118 i (by unfold scr; omega))).trans hw) m2 m3 b0⟩
    rw [b5, a2 49 2 (by unfold scr; omega), ← hM.2.2.2.2]
  · refine wp_pos (if01.mpr c) (wpo_of (wp_bind.mpr (wpo_mono (sp_asksParish hI.1) ?_)))
    rintro ⟨v, N⟩ ⟨a1, a2, a3⟩
    dsimp only at a1 a2 ⊢
    exact wp_pos (by rw [a1]; exact if01.mpr c) (wpo_of ⟨rfl, a2.sx 49 57, hK.sk a2⟩)
