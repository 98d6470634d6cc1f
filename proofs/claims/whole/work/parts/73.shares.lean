/-! NIGHTS, COSTS (by hand) -/
/-- what both tables tell of a set -/
theorem cost_same {D : Mem} (hI : IC D) {C T : Nat → Int} (hC : YTC (D 118) C) (hT : TB (yW (D 118) 1) (yP (yW (D 118))) (yW (D 118) 0 1) (2 ^ yP (yW (D 118))) T) {s : Nat} (hs : s < 2 ^ yP (yW (D 118))) : (C s = -1 ∧ T s = 1000000000) ∨ (0 ≤ C s ∧ C s ≤ 255 ∧ T s = C s) := by
  have hP := hI.P
  have h256 := pow8 hP.2
  have hA : ∀ p, p < yP (yW (D 118)) → 0 ≤ yW (D 118) 1 p := fun p hp => by have := yW_ache hI hp; omega
  obtain ⟨h1, h2⟩ := bins_same hP.2 hA hT hC.1 s hs
  by_cases hf : Feas (yW (D 118) 1) (yW (D 118) 0 1) s
  · have := hT.le hP.2 s hs
    have h3 := h1 hf
    have h4 := this.2 hf
    exact Or.inr ⟨by omega, by omega, h3.symm⟩
  · exact Or.inl ⟨h2 hf, hT.inf hA s hs hf⟩
/-- agreement of a call that keeps costs -/
def AGc (D : Mem) (x9 : Option (Int × Mem)) (x10 : Mem → Option (Int × Mem)) : Prop := wpo x9 (fun a => wpo (x10 a.2) (fun b => w32 a.1 = w32 b.1 ∧ SX 64 66 D b.2 ∧ KC b.2))
theorem KC.sk {D M : Mem} (h : KC D) (hs : SK D M) : KC M := by
  have e1 : M 64 1 = D 64 1 := hs 64 1 (by unfold scr; omega)
  have e2 : M 66 = D 66 := funext (fun i => hs 66 i (by unfold scr; omega))
  unfold KC
  rw [e1, e2, hs.w]
  exact h
theorem sp_isSetC {D : Mem} {x : Int} (hI : IC D) (hx : A32 x) : f9_isSet D x = some (if 0 < D 118 9 ∧ 0 ≤ x ∧ x < ((2 ^ yP (yW (D 118)) : Nat) : Int) then 1 else 0) := by
  have hP := hI.P
  have h256 := pow8 hP.2
  have hpos : 0 < 2 ^ yP (yW (D 118)) := Nat.two_pow_pos _
  unfold A32 at hx
  refine wp_is ?_
  unfold f9_isSet
  refine wp_then (sp_there9 hI) ?_
  by_cases c1 : 0 < D 118 9
  · refine wp_neg (fun z => if01.mp z c1) ?_
    by_cases c2 : x < 0
    · exact wp_pos (by rw [w32_id hx]; exact c2) (wpo_of (by rw [if_neg (by omega)]))
    · refine wp_neg (by rw [w32_id hx]; exact c2) ?_
      rw [hI.e8, ← hP.1, shl_one (by omega)]
      by_cases c3 : x < ((2 ^ yP (yW (D 118)) : Nat) : Int)
      · exact wp_pos ((lt32 hx (by omega)).mpr c3) (wpo_of (by rw [if_pos ⟨c1, by omega, c3⟩]))
      · exact wp_neg (fun z => c3 ((lt32 hx (by omega)).mp z)) (wpo_of (by rw [if_neg (fun z => c3 z.2.2)]))
  · exact wp_pos (if01.mpr c1) (wpo_of (by rw [if_neg (fun z => c1 z.1)]))
theorem sp_isSetM {D M : Mem} {x : Int} (hI : IC D) (h9 : M 118 = D 118) (hx : A32 x) : f10_isSet M x = some (if 0 < D 118 9 ∧ 0 ≤ x ∧ x < ((2 ^ yP (yW (D 118)) : Nat) : Int) then 1 else 0) := by
  have hP := hI.P
  have hb := hI.1.bd
  have h256 := pow8 hP.2
  have hpos : 0 < 2 ^ yP (yW (D 118)) := Nat.two_pow_pos _
  unfold A32 at hx
  refine wp_is ?_
  unfold f10_isSet
  refine wp_then (sp_isParish (by rw [h9]; omega)) ?_
  rw [h9]
  by_cases c1 : 0 < D 118 9
  · refine wp_neg (fun z => if01.mp z c1) ?_
    rw [← hP.1, shl_one (by omega), w32_id hx, w32_id (x := ((2 ^ yP (yW (D 118)) : Nat) : Int) - 1) (by omega)]
    refine wp_then (sp_in (by omega) (by omega) (by omega)) ?_
    by_cases c2 : 0 ≤ x ∧ x ≤ ((2 ^ yP (yW (D 118)) : Nat) : Int) - 1
    · exact wp_neg (fun z => if01.mp z c2) (wpo_of (by rw [if_pos ⟨c1, by omega, by omega⟩]))
    · exact wp_pos (if01.mpr c2) (wpo_of (by rw [if_neg (fun z => c2 (by omega))]))
  · exact wp_pos (if01.mpr c1) (wpo_of (by rw [if_neg (fun z => c1 z.1)]))
/-- the reference lays its table, from any memory of this invariant -/
theorem sp_asksBins {D M : Mem} (hI : IC D) (hs : SX 64 66 D M) : wpo (f10_asksBins M) (fun r => r.1 = (if 0 < D 118 9 then 1 else 0) ∧ (∀ c i, ¬ scr c i → r.2 c i = M c i) ∧ TB (yW (D 118) 1) (yP (yW (D 118))) (yW (D 118) 0 1) (2 ^ yP (yW (D 118))) (r.2 141) ∧ ∀ s, s < 2 ^ yP (yW (D 118)) → 0 ≤ r.2 141 s ∧ r.2 141 s ≤ 1000000000) := by
  have hM := hI.sx hs (by decide)
  have hb := hI.1.bd
  have hw := hs.w (by decide)
  unfold f10_asksBins
  refine wp_bind.mpr (wpo_mono (sp_asIt hM SK.rf) ?_)
  rintro M1 ⟨s1, y1, -⟩
  rw [hw] at y1
  refine wp_bind.mpr (wpo_mono (sp_layBins hI.1.yok y1) ?_)
  rintro M2 ⟨k2, t1, t2⟩
  have f : ∀ c i, ¬ scr c i → M2 c i = M c i := fun c i a => (k2 c i (by unfold scr at a; omega) (by unfold scr at a; omega) (by unfold scr at a; omega)).trans (s1 c i a)
  have w2 : M2 118 = D 118 := (funext (fun i => f 118 i (by unfold scr; omega))).trans hw
  refine wp_then (sp_isParish (by rw [w2]; omega)) ?_
  rw [w2]
  exact wp_pos (by split <;> omega) (wpo_of ⟨rfl, f, t1, t2⟩)
theorem SX.scr {lo hi : Nat} {D M N : Mem} (h : SX lo hi D M) (h' : ∀ c i, ¬ scr c i → N c i = M c i) : SX lo hi D N := fun c i a b => (h' c i a).trans (h c i a b)
theorem KC.to {D M N : Mem} (hw : N 118 = D 118) (h1 : M 64 1 = 1) (h2 : YTC (D 118) (M 66)) (h' : ∀ c i, ¬ scr c i → N c i = M c i) : KC N := by
  refine Or.inr ⟨(h' 64 1 (by unfold scr; omega)).trans h1, ?_⟩
  have e : N 66 = M 66 := funext (fun i => h' 66 i (by unfold scr; omega))
  rw [hw, e]
  exact h2
theorem ag_nightsX {D : Mem} {x : Int} (hI : IC D) (hK : KC D) (hx : A32 x) : AGc D (f9_nights D x) (fun M => f10_nightsX M x) := by
  have hP := hI.P
  have h256 := pow8 hP.2
  have hx' := hx
  unfold A32 at hx'
  unfold AGc f9_nights
  refine wp_then (sp_isSetC hI hx) ?_
  by_cases c : 0 < D 118 9 ∧ 0 ≤ x ∧ x < ((2 ^ yP (yW (D 118)) : Nat) : Int)
  · refine wp_neg (fun z => if01.mp z c) ?_
    refine wp_bind.mpr (wpo_mono (sp_workC hI hK (SK.rf.sx 64 66) rfl rfl) ?_)
    rintro M ⟨s1, k1, k2⟩
    refine wp_pos (by omega) (wpo_of ?_)
    unfold f10_nightsX
    refine wp_bind.mpr (wpo_mono (sp_asksBins hI s1) ?_)
    rintro ⟨v, N⟩ ⟨rfl, n1, n2, n3⟩
    dsimp only at n1 n2 n3 ⊢
    have sN := s1.scr n1
    have wN := sN.w (by decide)
    refine wp_neg (fun z => if01.mp z c.1) (wp_then (sp_isSetM hI wN hx) (wp_neg (fun z => if01.mp z c) (wp_pos (by omega) ?_)))
    have hv := cost_same hI k2 n2 (s := x.toNat) (by omega)
    unfold f10_orNone
    rcases hv with ⟨v1, v2⟩ | ⟨v1, v2, v3⟩
    · refine wp_then (a := -1) (if_neg (by rw [v2]; decide)) (wpo_of ⟨by dsimp only; rw [v1], sN, KC.to wN k1 k2 n1⟩)
    · refine wp_then (if_pos (by rw [v3]; exact (lt32 (by omega) (by omega)).mpr (by omega))) (wpo_of ⟨by dsimp only; rw [v3], sN, KC.to wN k1 k2 n1⟩)
  · refine wp_pos (if01.mpr c) (wpo_of ?_)
    unfold f10_nightsX
    refine wp_bind.mpr (wpo_mono (sp_asksBins hI (SK.rf.sx 64 66)) ?_)
    rintro ⟨v, N⟩ ⟨rfl, n1, n2, n3⟩
    dsimp only at n1 n2 n3 ⊢
    have sN : SK D N := n1
    by_cases c1 : 0 < D 118 9
    · exact wp_neg (fun z => if01.mp z c1) (wp_then (sp_isSetM hI sN.w hx) (wp_pos (if01.mpr c) (wpo_of ⟨rfl, sN.sx 64 66, hK.sk sN⟩)))
    · exact wp_pos (if01.mpr c1) (wpo_of ⟨rfl, sN.sx 64 66, hK.sk sN⟩)
theorem sp_costOf1 {M : Mem} {s : Nat} {v : Int} (hs : s < 256) (h66 : M 66 s = v) (hv : -1 ≤ v ∧ v ≤ 255) : f1_costOf M (s : Int) = some (if v = -1 then -1 else M 12 6 * v) := by
  refine wp_is ?_
  unfold f1_costOf
  refine wp_pos (by omega) ?_
  rw [Int.toNat_natCast, h66]
  by_cases c : v = -1
  · exact wp_pos (by rw [c]) (wpo_of (by rw [if_pos c]))
  · exact wp_neg (fun z => c ((eq32 (by omega) (by omega)).mp z)) (wpo_of (by rw [if_neg c]))
theorem ag_costs {D : Mem} {x : Int} (hI : IC D) (hK : KC D) (hx : A32 x) : AGc D (f9_costs D x) (fun M => f10_costs M x) := by
  have hP := hI.P
  have h256 := pow8 hP.2
  have hx' := hx
  unfold A32 at hx'
  have e6 : D 12 6 = D 118 5 := hI.2.1.1.2.2.2.2.2.2.1
  unfold AGc f9_costs
  refine wp_then (sp_isSetC hI hx) ?_
  by_cases c : 0 < D 118 9 ∧ 0 ≤ x ∧ x < ((2 ^ yP (yW (D 118)) : Nat) : Int)
  · refine wp_neg (fun z => if01.mp z c) ?_
    obtain ⟨s, rfl⟩ : ∃ s : Nat, x = (s : Int) := ⟨x.toNat, by omega⟩
    refine wp_bind.mpr (wpo_mono (sp_workC hI hK (SK.rf.sx 64 66) rfl rfl) ?_)
    rintro M ⟨s1, k1, k2⟩
    have hCb := k2.2 s (by omega)
    have m6 : M 12 6 = D 118 5 := (s1.keep (by omega) (by decide) 6).trans e6
    refine wp_then (sp_costOf1 (s := s) (by omega) rfl (by omega)) (wpo_of ?_)
    unfold f10_costs
    refine wp_bind.mpr (wpo_mono (sp_asksBins hI s1) ?_)
    rintro ⟨v, N⟩ ⟨rfl, n1, n2, n3⟩
    dsimp only at n1 n2 n3 ⊢
    have sN := s1.scr n1
    have wN := sN.w (by decide)
    refine wp_neg (fun z => if01.mp z c.1) (wp_then (sp_isSetM hI wN hx) (wp_neg (fun z => if01.mp z c) (wp_pos (by omega) ?_)))
    have hv := cost_same hI k2 n2 (s := s) (by omega)
    rw [Int.toNat_natCast]
    rcases hv with ⟨v1, v2⟩ | ⟨v1, v2, v3⟩
    · refine wp_neg (by rw [v2]; decide) (wpo_of ⟨by dsimp only; rw [if_pos v1], sN, KC.to wN k1 k2 n1⟩)
    · refine wp_pos (by rw [v3]; exact (lt32 (by omega) (by omega)).mpr (by omega)) (wpo_of ⟨by dsimp only; rw [if_neg (by omega), m6, v3, wN], sN, KC.to wN k1 k2 n1⟩)
  · refine wp_pos (if01.mpr c) (wpo_of ?_)
    unfold f10_costs
    refine wp_bind.mpr (wpo_mono (sp_asksBins hI (SK.rf.sx 64 66)) ?_)
    rintro ⟨v, N⟩ ⟨rfl, n1, n2, n3⟩
    dsimp only at n1 n2 n3 ⊢
    have sN : SK D N := n1
    by_cases c1 : 0 < D 118 9
    · exact wp_neg (fun z => if01.mp z c1) (wp_then (sp_isSetM hI sN.w hx) (wp_pos (if01.mpr c) (wpo_of ⟨rfl, sN.sx 64 66, hK.sk sN⟩)))
    · exact wp_pos (if01.mpr c1) (wpo_of ⟨rfl, sN.sx 64 66, hK.sk sN⟩)
