/-! ACTS, on the world and on the class's parish (by hand) -/
theorem PR.congr {D D' : Mem} {b : Nat} {W : Nat → Int} (h : PR D b W) (k : ∀ c i, b ≤ c → c ≤ b + 7 → D' c i = D c i) : PR D' b W := by
  obtain ⟨⟨a0, a1, a2, a3, a4, a5, a6, a7, a8, a9⟩, h2, h3⟩ := h
  have e : ∀ i, D' b i = D b i := fun i => k b i (by omega) (by omega)
  refine ⟨⟨(e 0).trans a0, (e 1).trans a1, (e 2).trans a2, (e 3).trans a3, (e 4).trans a4, (e 5).trans a5, (e 6).trans a6, (e 7).trans a7, (e 8).trans a8, (e 9).trans a9⟩, fun p hp => ?_, fun i hi => ?_⟩
  · rw [k (b + 1) p (by omega) (by omega), k (b + 2) p (by omega) (by omega), k (b + 3) p (by omega) (by omega), k (b + 4) p (by omega) (by omega)]
    exact h2 p hp
  · rw [k (b + 5) i (by omega) (by omega), k (b + 6) i (by omega) (by omega), k (b + 7) i (by omega) (by omega)]
    exact h3 i hi
theorem NowOK.congr {Y M M' : Mem} (h : NowOK Y M) (k : ∀ c i, 23 ≤ c → c ≤ 35 → M' c i = M c i) : NowOK Y M' := by
  obtain ⟨h1, h2, h3⟩ := h
  refine ⟨fun p hp => ?_, fun n hn => ?_, ?_⟩
  · rw [k 28 p (by decide) (by decide), k 29 p (by decide) (by decide)]
    exact h1 p hp
  · rw [k (23 + 7) n (by decide) (by decide), k (23 + 8) n (by decide) (by decide), k (23 + 9) n (by decide) (by decide), k (23 + 10) n (by decide) (by decide), k (23 + 11) n (by decide) (by decide), k (23 + 12) n (by decide) (by decide)]
    exact h2 n hn
  · rw [k 23 4 (by decide) (by decide)]
    exact h3
theorem IC.new {M1 M N : Mem} {W : Nat → Int} (hW : WOK W) (hP : PR M1 12 W) (hC : CK M1 M) (hN : NowOK (yW W) M) (h118 : N 118 = W) (hk : ∀ c i, 12 ≤ c → c ≤ 35 → N c i = M c i) : IC N := by
  unfold IC
  rw [h118]
  refine ⟨hW, hP.congr (fun c i h1 h2 => ?_), hN.congr (fun c i h1 h2 => hk c i (by omega) h2)⟩
  rw [hk c i h1 (by omega), hC c i (by omega) (by omega)]
/-- cells that a change of the parish leaves -/
def kp (c i : Nat) : Prop := c = 1 ∨ c = 2 ∨ (c = 3 ∧ (i = 2 ∨ i = 3)) ∨ (20 ≤ c ∧ c ≤ 22) ∨ (85 ≤ c ∧ c ≤ 116) ∨ (119 ≤ c ∧ c ≤ 121) ∨ (143 ≤ c ∧ c ≤ 145) ∨ (c = 117 ∧ (i = 5 ∨ i = 12 ∨ i = 13))
def CP (D M : Mem) : Prop := ∀ c i, kp c i → M c i = D c i
/-- another parish stands, and nothing is kept of the old one -/
def NewP (D M : Mem) : Prop := CP D M ∧ IC M ∧ M 49 1 = 0 ∧ M 58 1 = 0 ∧ M 64 1 = 0
def AGn (D : Mem) (x9 : Option (Int × Mem)) (x10 : Mem → Option (Int × Mem)) : Prop := wpo x9 (fun a => wpo (x10 a.2) (fun b => w32 a.1 = w32 b.1 ∧ (SK D b.2 ∨ NewP D b.2)))
-- worlds with more or fewer acts
def wAct (W : Nat → Int) (a : Int) : Nat → Int := fun i => if i = 8 then W 8 + 1 else if i = 42 + wA W then a else W i
def wTo (W : Nat → Int) (j : Nat) : Nat → Int := fun i => if i = 8 then (j : Int) else W i
theorem wAche_congr {W W' : Nat → Int} {p : Nat} (hb : W' (10 + 4 * p) = W (10 + 4 * p)) : ∀ i, (∀ j, j < i → W' (42 + j) = W (42 + j)) → wAche W' i p = wAche W i p := by
  intro i
  induction i with
  | zero => intro _; exact hb
  | succ i ih =>
    intro h
    rw [wAche, wAche, ih (fun j hj => h j (Nat.lt_succ_of_lt hj)), h i (Nat.lt_succ_self i)]
theorem wFrom_congr {W W' : Nat → Int} {p : Nat} (hb : W' (10 + 4 * p + 1) = W (10 + 4 * p + 1)) : ∀ i, (∀ j, j < i → W' (42 + j) = W (42 + j)) → wFrom W' i p = wFrom W i p := by
  intro i
  induction i with
  | zero => intro _; exact hb
  | succ i ih =>
    intro h
    rw [wFrom, wFrom, ih (fun j hj => h j (Nat.lt_succ_of_lt hj)), h i (Nat.lt_succ_self i)]
theorem wTo_A {W : Nat → Int} {j : Nat} : wA (wTo W j) = j := by
  unfold wA wTo
  simp
theorem wTo_ne {W : Nat → Int} {i j : Nat} (h : i ≠ 8) : wTo W j i = W i := by
  unfold wTo
  rw [if_neg h]
theorem wTo_8 {W : Nat → Int} {j : Nat} : wTo W j 8 = (j : Int) := by
  unfold wTo
  rw [if_pos rfl]
theorem wTo_ok {W : Nat → Int} (h : WOK W) {j : Nat} (hj : (j : Int) ≤ W 8) : WOK (wTo W j) := by
  obtain ⟨h1, h2, h3⟩ := h
  have e : ∀ i, i ≠ 8 → wTo W j i = W i := fun i hi => wTo_ne hi
  refine ⟨?_, fun p hp => ?_, fun i hi => ?_⟩
  · rw [e 9 (by decide), e 0 (by decide), e 1 (by decide), e 2 (by decide), e 3 (by decide), e 4 (by decide), e 5 (by decide), e 6 (by decide), e 7 (by decide), wTo_8]
    omega
  · rw [e 7 (by decide)] at hp
    rw [e _ (by omega), e _ (by omega), e _ (by omega), e _ (by omega)]
    exact h2 p hp
  · rw [wTo_8] at hi
    rw [e 7 (by decide), e _ (by omega)]
    exact h3 i (by omega)
theorem wTo_ache {W : Nat → Int} {i j p : Nat} : wAche (wTo W j) i p = wAche W i p := wAche_congr (wTo_ne (by omega)) i (fun k _ => wTo_ne (by omega))
theorem wTo_from {W : Nat → Int} {i j p : Nat} : wFrom (wTo W j) i p = wFrom W i p := wFrom_congr (wTo_ne (by omega)) i (fun k _ => wTo_ne (by omega))
/-- one act is taken back -/
theorem sp_takeBack {D : Mem} {W : Nat → Int} {j : Nat} (hW : WOK W) (hj : ((j + 1 : Nat) : Int) ≤ W 8) (hp : PR D 12 (wTo W (j + 1))) : wpo (f2_takeBack D 12) (fun M => (∀ c i, (c < 12 ∨ 14 < c) → M c i = D c i) ∧ PR M 12 (wTo W j)) := by
  have hb := hW.bd
  obtain ⟨⟨a0, a1, a2, a3, a4, a5, a6, a7, a8, a9⟩, h2, h3⟩ := hp
  rw [wTo_8] at a9
  have e : ∀ i k, i ≠ 8 → wTo W k i = W i := fun i k hi => wTo_ne hi
  obtain ⟨p, p1, p2, p3⟩ := h3 j (by rw [wTo_8]; omega)
  rw [e 7 _ (by decide)] at p1
  rw [e _ _ (show 42 + j ≠ 8 by omega), wTo_ache, wTo_from] at p3
  have hdj : mset D 12 9 (D 12 9 - 1) 12 9 = (j : Int) := by
    rw [ms_same, a9]
    omega
  have hact : ∀ q, wAche W (j + 1) q = if W (42 + j) < 1000 ∧ W (42 + j) / 100 = q then W (42 + j) % 100 else wAche W j q := fun q => rfl
  have hfrm : ∀ q, wFrom W (j + 1) q = if 1000 ≤ W (42 + j) ∧ W (42 + j) / 100 - 10 = q then W (42 + j) % 100 else wFrom W j q := fun q => rfl
  have scal : ∀ M : Mem, (∀ i, i ≠ 9 → M 12 i = D 12 i) → M 12 9 = (j : Int) → (M 12 0 = wTo W j 9 ∧ M 12 1 = wTo W j 0 ∧ M 12 2 = wTo W j 1 ∧ M 12 3 = wTo W j 2 ∧ M 12 4 = wTo W j 3 ∧ M 12 5 = wTo W j 4 ∧ M 12 6 = wTo W j 5 ∧ M 12 7 = wTo W j 6 ∧ M 12 8 = wTo W j 7 ∧ M 12 9 = wTo W j 8) := fun M hM h9 => by
    rw [e 9 _ (by decide)] at a0 ⊢
    rw [e 0 _ (by decide)] at a1 ⊢
    rw [e 1 _ (by decide)] at a2 ⊢
    rw [e 2 _ (by decide)] at a3 ⊢
    rw [e 3 _ (by decide)] at a4 ⊢
    rw [e 4 _ (by decide)] at a5 ⊢
    rw [e 5 _ (by decide)] at a6 ⊢
    rw [e 6 _ (by decide)] at a7 ⊢
    rw [e 7 _ (by decide)] at a8 ⊢
    rw [wTo_8, hM 0 (by decide), hM 1 (by decide), hM 2 (by decide), hM 3 (by decide), hM 4 (by decide), hM 5 (by decide), hM 6 (by decide), hM 7 (by decide), hM 8 (by decide)]
    exact ⟨a0, a1, a2, a3, a4, a5, a6, a7, a8, h9⟩
  have acts : ∀ M : Mem, (∀ c i, 17 ≤ c → c ≤ 19 → M c i = D c i) → ∀ i : Nat, (i : Int) < wTo W j 8 → ∃ p : Nat, (p : Int) < wTo W j 7 ∧ M (12 + 5) i = p ∧ ((wTo W j (42 + i) < 1000 ∧ wTo W j (42 + i) / 100 = p ∧ M (12 + 6) i = 0 ∧ M (12 + 7) i = wAche (wTo W j) i p) ∨ (1000 ≤ wTo W j (42 + i) ∧ wTo W j (42 + i) / 100 - 10 = p ∧ M (12 + 6) i = 1 ∧ M (12 + 7) i = wFrom (wTo W j) i p)) := fun M hM i hi => by
    rw [wTo_8] at hi
    obtain ⟨q, q1, q2, q3⟩ := h3 i (by rw [wTo_8]; omega)
    rw [e 7 _ (by decide)] at q1
    rw [e _ _ (show 42 + i ≠ 8 by omega), wTo_ache, wTo_from] at q3
    refine ⟨q, by rw [e 7 _ (by decide)]; exact q1, ?_, ?_⟩
    · rw [hM _ _ (by omega) (by omega)]
      exact q2
    · rw [e _ _ (show 42 + i ≠ 8 by omega), wTo_ache, wTo_from, hM _ _ (by omega) (by omega), hM _ _ (by omega) (by omega)]
      exact q3
  unfold f2_takeBack
  refine wp_neg (by rw [a9, w32_id (by omega)]; omega) (wp_then rfl (wp_pos (by rw [hdj]; omega) ?_))
  rw [hdj, Int.toNat_natCast, ms_ne (show 12 + 6 ≠ 12 by decide), ms_ne (show 12 + 5 ≠ 12 by decide), ms_ne (show 12 + 7 ≠ 12 by decide), p2]
  rcases p3 with ⟨c1, c2, c3, c4⟩ | ⟨c1, c2, c3, c4⟩
  · refine wp_pos (by rw [c3]; rfl) (wp_pos (by omega) (wpo_of ⟨fun c i h => ?_, scal _ (fun i hi => ?_) ?_, fun q hq => ?_, acts _ (fun c i h1 h2 => ?_)⟩))
    · rw [ms_ne (by omega), ms_ne (by omega)]
    · rw [ms_ne (by decide), ms_ni hi]
    · rw [ms_ne (by decide)]
      exact hdj
    · rw [e 7 _ (by decide)] at hq
      obtain ⟨b1, b2, b3, b4⟩ := h2 q (by rw [e 7 _ (by decide)]; exact hq)
      rw [wTo_A, wTo_ache] at b1
      rw [wTo_A, wTo_from] at b2
      rw [e _ _ (by omega)] at b3 b4
      rw [wTo_A, wTo_ache, wTo_from, e _ _ (by omega), e _ _ (by omega), ms_ne (show 12 + 2 ≠ 12 + 1 by decide), ms_ne (show 12 + 2 ≠ 12 by decide), ms_ne (show 12 + 3 ≠ 12 + 1 by decide), ms_ne (show 12 + 3 ≠ 12 by decide), ms_ne (show 12 + 4 ≠ 12 + 1 by decide), ms_ne (show 12 + 4 ≠ 12 by decide)]
      refine ⟨?_, ?_, b3, b4⟩
      · rw [Int.toNat_natCast]
        by_cases hqp : q = p
        · rw [hqp, ms_same, c4]
        · rw [ms_ni hqp, ms_ne (by decide), b1, hact, if_neg (by omega)]
      · rw [b2, hfrm, if_neg (by omega)]
    · rw [ms_ne (by omega), ms_ne (by omega)]
  · refine wp_neg (by rw [c3]; decide) (wp_pos (by omega) (wpo_of ⟨fun c i h => ?_, scal _ (fun i hi => ?_) ?_, fun q hq => ?_, acts _ (fun c i h1 h2 => ?_)⟩))
    · rw [ms_ne (by omega), ms_ne (by omega)]
    · rw [ms_ne (by decide), ms_ni hi]
    · rw [ms_ne (by decide)]
      exact hdj
    · rw [e 7 _ (by decide)] at hq
      obtain ⟨b1, b2, b3, b4⟩ := h2 q (by rw [e 7 _ (by decide)]; exact hq)
      rw [wTo_A, wTo_ache] at b1
      rw [wTo_A, wTo_from] at b2
      rw [e _ _ (by omega)] at b3 b4
      rw [wTo_A, wTo_ache, wTo_from, e _ _ (by omega), e _ _ (by omega), ms_ne (show 12 + 1 ≠ 12 + 2 by decide), ms_ne (show 12 + 1 ≠ 12 by decide), ms_ne (show 12 + 3 ≠ 12 + 2 by decide), ms_ne (show 12 + 3 ≠ 12 by decide), ms_ne (show 12 + 4 ≠ 12 + 2 by decide), ms_ne (show 12 + 4 ≠ 12 by decide)]
      refine ⟨?_, ?_, b3, b4⟩
      · rw [b1, hact, if_neg (by omega)]
      · rw [Int.toNat_natCast]
        by_cases hqp : q = p
        · rw [hqp, ms_same, c4]
        · rw [ms_ni hqp, ms_ne (by decide), b2, hfrm, if_neg (by omega)]
    · rw [ms_ne (by omega), ms_ne (by omega)]
theorem wTo_self {W : Nat → Int} (h : WOK W) : wTo W (wA W) = W := by
  funext i
  have := h.A
  unfold wTo
  split
  · rename_i e
    rw [e]
    exact this.1
  · rfl
theorem wTo_set {D : Mem} {j : Nat} {v : Int} (hv : v = (j : Int)) : mset D 118 8 v 118 = wTo (D 118) j := by
  funext i
  rw [hv]
  simp only [mset, wTo, true_and]
theorem kp_ne {c i : Nat} (h : kp c i) : c < 12 ∨ (19 < c ∧ c < 23) ∨ (35 < c ∧ c ≠ 49 ∧ c ≠ 58 ∧ c ≠ 64 ∧ c ≠ 118) := by
  unfold kp at h
  omega
theorem ag_undo {D : Mem} (hI : IC D) : AGn D (f9_undo D) (fun M => f10_undo M) := by
  have hb := hI.1.bd
  have hA := hI.1.A
  have e9 : D 12 9 = D 118 8 := hI.2.1.1.2.2.2.2.2.2.2.2.2
  unfold AGn f9_undo f10_undo
  refine wp_then (sp_there9 hI) ?_
  by_cases c : 0 < D 118 9
  · refine wp_neg (fun z => if01.mp z c) ?_
    by_cases c1 : D 118 8 = 0
    · refine wp_pos (by rw [e9, c1]; rfl) (wpo_of ?_)
      exact wp_then (sp_there10 hI SK.rf) (wp_neg (fun z => if01.mp z c) (wp_pos (congrArg w32 c1) (wpo_of ⟨rfl, Or.inl SK.rf⟩)))
    · obtain ⟨j, hj⟩ : ∃ j : Nat, D 118 8 = ((j + 1 : Nat) : Int) := ⟨(D 118 8).toNat - 1, by omega⟩
      refine wp_neg (by rw [e9, w32_id (by omega)]; exact c1) ?_
      have hp : PR D 12 (wTo (D 118) (j + 1)) := by
        have : wTo (D 118) (j + 1) = D 118 := by
          have e : j + 1 = wA (D 118) := by omega
          rw [e]
          exact wTo_self hI.1
        rw [this]
        exact hI.2.1
      refine wp_bind.mpr (wpo_mono (sp_takeBack hI.1 (by omega) hp) ?_)
      rintro M1 ⟨k1, k2⟩
      have hW' := wTo_ok hI.1 (j := j) (by omega)
      refine wp_bind.mpr (wpo_mono (sp_changed hW' k2) ?_)
      rintro M ⟨m1, m2, m3, m4, m5⟩
      refine wpo_of ?_
      have f : ∀ i, M 118 i = D 118 i := fun i => (m1 118 i (by omega) (by omega)).trans (k1 118 i (by omega))
      have h118 : M 118 = D 118 := funext f
      refine wp_then (sx_there10 hI h118) (wp_neg (fun z => if01.mp z c) (wp_neg ?_ (wp_then rfl (wpo_of ⟨?_, Or.inr ⟨fun c i h => ?_, IC.new hW' k2 m1 m2 ?_ (fun c i h1 h2 => ms_ne (by omega)), ?_, ?_, ?_⟩⟩))))
      · show ¬ w32 (M 118 8) = 0
        rw [f, w32_id (by omega)]
        exact c1
      · show w32 (M 12 9) = w32 (mset M 118 8 (M 118 8 - 1) 118 8)
        rw [ms_same, f, m1 12 9 (by omega) (by omega), k2.1.2.2.2.2.2.2.2.2.2, wTo_8]
        congr 1
        omega
      · have hk := kp_ne h
        show mset M 118 8 (M 118 8 - 1) c i = D c i
        rw [ms_ne (by omega), m1 c i (by omega) (by omega), k1 c i (by omega)]
      · show mset M 118 8 (M 118 8 - 1) 118 = wTo (D 118) j
        rw [wTo_set (j := j) (by rw [f]; omega), h118]
      · show mset M 118 8 (M 118 8 - 1) 49 1 = 0
        rw [ms_ne (by decide)]
        exact m3
      · show mset M 118 8 (M 118 8 - 1) 58 1 = 0
        rw [ms_ne (by decide)]
        exact m4
      · show mset M 118 8 (M 118 8 - 1) 64 1 = 0
        rw [ms_ne (by decide)]
        exact m5
  · exact wp_pos (if01.mpr c) (wpo_of (wp_then (sp_there10 hI SK.rf) (wp_pos (if01.mpr c) (wpo_of ⟨rfl, Or.inl SK.rf⟩))))
