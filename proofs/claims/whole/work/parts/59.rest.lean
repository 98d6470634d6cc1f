/-! RESTS, REST, HOLDING (by hand) -/
def yRk (Y : Mem) (p q k : Nat) : Bool := yRest (fun k => hB Y p q k p) (fun k => hB Y p q k q) (k / 4) (k % 4)
theorem sp_restC {D M : Mem} {p q k : Nat} (hI : IC D) (hp : p < yP (yW (D 118))) (hq : q < yP (yW (D 118))) (h : ∀ k, k < 16 → M 83 k = hB (yW (D 118)) p q k p ∧ M 84 k = hB (yW (D 118)) p q k q) (hk : k < 16) : f9_isRest M (div32 (k : Int) 4) (rem32 (k : Int) 4) = some (if yRk (yW (D 118)) p q k = true then 1 else 0) := by
  rw [div4 (by omega), rem4 (by omega)]
  exact sp_isRestC (H1 := fun k => hB (yW (D 118)) p q k p) (H2 := fun k => hB (yW (D 118)) p q k q) h (fun k hk => ⟨hB_bd hI hp hk, hB_bd hI hq hk⟩) (by omega) (by omega)
theorem sp_restM {D M : Mem} {p q k : Nat} (hI : IC D) (hp : p < yP (yW (D 118))) (hq : q < yP (yW (D 118))) (h : ∀ k, k < 16 → M 142 (2 * k) = hB (yW (D 118)) p q k p ∧ M 142 (2 * k + 1) = hB (yW (D 118)) p q k q) (hk : k < 16) : f10_isRest M (div32 (k : Int) 4) (rem32 (k : Int) 4) = some (if yRk (yW (D 118)) p q k = true then 1 else 0) := by
  rw [div4 (by omega), rem4 (by omega)]
  exact sp_isRestM (H1 := fun k => hB (yW (D 118)) p q k p) (H2 := fun k => hB (yW (D 118)) p q k q) h (fun k hk => ⟨hB_bd hI hp hk, hB_bd hI hq hk⟩) (by omega) (by omega)
/-- a call of two persons -/
theorem ag_two {D : Mem} {x y : Int} {k9 : Mem → Option (Int × Mem)} {k10 : Int × Mem → Option (Int × Mem)} (hI : IC D) (hx : A32 x) (hy : A32 y) (h : ∀ p q : Nat, x = (p : Int) → y = (q : Int) → p < yP (yW (D 118)) → q < yP (yW (D 118)) → ∀ M, SK D M → (∀ k, k < 16 → M 83 k = hB (yW (D 118)) p q k p ∧ M 84 k = hB (yW (D 118)) p q k q) → wpo (k9 M) (fun a => SK D a.2 ∧ ∀ N, SK D N → (∀ k, k < 16 → N 142 (2 * k) = hB (yW (D 118)) p q k p ∧ N 142 (2 * k + 1) = hB (yW (D 118)) p q k q) → wpo (k10 (1, N)) (fun c => w32 a.1 = w32 c.1 ∧ SK D c.2))) :
    AGi D (Option.bind (f9_areTwo D x y) fun (a1 : Int) => if w32 a1 = 0 then some ((-2), D) else Option.bind (f9_passHoldings D x y) fun (a2 : Mem) => k9 a2) (fun M => Option.bind (f10_layHeld M x y) fun (a1 : Int × Mem) => if w32 a1.1 = 0 then some ((-2), a1.2) else k10 a1) := by
  have hP := hI.P
  unfold AGi
  refine wp_bind.mpr (wpo_mono (sp_areTwo hI hx hy) ?_)
  rintro v (⟨rfl, ht⟩ | ⟨rfl, ht⟩)
  · obtain ⟨c1, c2, c3⟩ := ht
    obtain ⟨p, rfl⟩ : ∃ p : Nat, x = (p : Int) := ⟨x.toNat, by omega⟩
    obtain ⟨q, rfl⟩ : ∃ q : Nat, y = (q : Int) := ⟨y.toNat, by omega⟩
    have hp : p < yP (yW (D 118)) := by omega
    have hq : q < yP (yW (D 118)) := by omega
    refine wp_neg (by decide) ?_
    refine wp_bind.mpr (wpo_mono (sp_passHoldings hI SK.rf hp hq) ?_)
    rintro M2 ⟨s2, h2⟩
    refine wpo_mono (h p q rfl rfl hp hq M2 s2 h2) ?_
    rintro a ⟨sa, ka⟩
    refine wp_bind.mpr (wpo_mono (sp_layHeld hI sa hx hy) ?_)
    rintro ⟨v, N⟩ ⟨r1, ⟨r2, -, r3⟩ | ⟨-, r3⟩⟩
    · dsimp only at r1 r2 r3
      subst r2
      rw [Int.toNat_natCast, Int.toNat_natCast] at r3
      exact wp_neg (show ¬ w32 1 = 0 by decide) (ka N r1 r3)
    · exact absurd ⟨c1, c2, c3⟩ r3
  · refine wp_pos (by decide) (wpo_of ?_)
    refine wp_bind.mpr (wpo_mono (sp_layHeld hI SK.rf hx hy) ?_)
    rintro r ⟨r1, ⟨-, r3, -⟩ | ⟨r2, -⟩⟩
    · exact absurd r3 ht
    · exact wp_pos (by rw [r2]; decide) (wpo_of ⟨rfl, r1⟩)
theorem ag_rests {D : Mem} {x y : Int} (hI : IC D) (hx : A32 x) (hy : A32 y) : AGi D (f9_rests D x y) (fun M => f10_rests M x y) := by
  unfold f9_rests f10_rests
  refine ag_two hI hx hy (fun p q _ _ hp hq M s2 h2 => ?_)
  refine wp_bind.mpr (wpo_mono (P := fun v => v = sumN (fun k => if yRk (yW (D 118)) p q k = true then 1 else 0) 16) ?_ ?_)
  · refine wp_for (I := fun k s => s = (sumN (fun k => if yRk (yW (D 118)) p q k = true then 1 else 0) k, (k : Int))) 16 ?_ ?_ FU 0 _ rfl (Nat.zero_le _) (by unfold FU; omega)
    · rintro k s hk rfl
      dsimp only
      refine wp_pos ((lt32 (by omega) (by omega)).mpr (by omega)) (wp_then (sp_restC hI hp hq h2 hk) ?_)
      refine wp_then (a := sumN (fun k => if yRk (yW (D 118)) p q k = true then 1 else 0) (k + 1)) ?_ (wpo_of rfl)
      rw [sumN]
      refine wp_is ?_
      by_cases c : yRk (yW (D 118)) p q k = true
      · exact wp_neg (fun z => if01.mp z c) (wpo_of (by rw [if_pos c]))
      · exact wp_pos (if01.mpr c) (wpo_of (by rw [if_neg c]; omega))
    · rintro s rfl
      dsimp only
      exact wp_neg (fun z => absurd ((lt32 (by omega) (by omega)).mp z) (by omega)) (wpo_of rfl)
  · rintro v rfl
    refine wpo_of ⟨s2, fun N sN hN => ?_⟩
    refine wp_bind.mpr (wpo_mono (P := fun v => v = sumN (fun k => if yRk (yW (D 118)) p q k = true then 1 else 0) 16) ?_ (fun v hv => wpo_of ⟨by rw [hv], sN⟩))
    refine wp_for (I := fun k s => s = (sumN (fun k => if yRk (yW (D 118)) p q k = true then 1 else 0) k, (k : Int))) 16 ?_ ?_ FU 0 _ rfl (Nat.zero_le _) (by unfold FU; omega)
    · rintro k s hk rfl
      dsimp only
      refine wp_pos ((lt32 (by omega) (by omega)).mpr (by omega)) (wp_then (sp_restM hI hp hq hN hk) ?_)
      refine wp_then (a := if yRk (yW (D 118)) p q k = true then 1 else 0) ?_ (wpo_of rfl)
      refine wp_is ?_
      by_cases c : yRk (yW (D 118)) p q k = true
      · exact wp_neg (fun z => if01.mp z c) (wpo_of (by rw [if_pos c]))
      · exact wp_pos (if01.mpr c) (wpo_of (by rw [if_neg c]))
    · rintro s rfl
      dsimp only
      exact wp_neg (fun z => absurd ((lt32 (by omega) (by omega)).mp z) (by omega)) (wpo_of rfl)
/-- the first pair at rest, as it is told -/
def FRest (Y : Mem) (p q : Nat) (v : Int) : Prop := ∃ w : Int, First 16 (fun k => yRk Y p q k = true) w ∧ v = (if w = -1 then -1 else 10 * (w / 4) + w % 4)
theorem FRest.uniq {Y : Mem} {p q : Nat} {v v' : Int} (h : FRest Y p q v) (h' : FRest Y p q v') : v = v' := by
  obtain ⟨w, h1, h2⟩ := h
  obtain ⟨w', h3, h4⟩ := h'
  rw [h2, h4, h1.uniq h3]
theorem ag_rest {D : Mem} {x y : Int} (hI : IC D) (hx : A32 x) (hy : A32 y) : AGi D (f9_rest D x y) (fun M => f10_rest M x y) := by
  unfold f9_rest f10_rest
  refine ag_two hI hx hy (fun p q _ _ hp hq M s2 h2 => ?_)
  have told : ∀ k : Nat, k < 16 → 10 * div32 (k : Int) 4 + rem32 (k : Int) 4 = (if (k : Int) = -1 then -1 else 10 * ((k : Int) / 4) + (k : Int) % 4) := fun k hk => by
    rw [if_neg (by omega), div4 (by omega), rem4 (by omega)]
    omega
  refine wp_bind.mpr (wpo_mono (P := fun z => wpo (Sum.elim (fun (_ : Unit) => some ((-1), M)) (fun rv => some rv) z) (fun v => FRest (yW (D 118)) p q v.1 ∧ v.2 = M)) ?_ ?_)
  · refine wp_for (I := fun k s => s = (k : Int) ∧ ∀ j, j < k → ¬ yRk (yW (D 118)) p q j = true) 16 ?_ ?_ FU 0 _ ⟨rfl, fun j hj => absurd hj (Nat.not_lt_zero _)⟩ (Nat.zero_le _) (by unfold FU; omega)
    · rintro k s hk ⟨rfl, hno⟩
      refine wp_pos ((lt32 (by omega) (by omega)).mpr (by omega)) (wp_then (sp_restC hI hp hq h2 hk) ?_)
      by_cases c : yRk (yW (D 118)) p q k = true
      · exact wp_neg (fun z => if01.mp z c) (wpo_of (wpo_of ⟨⟨_, Or.inr ⟨k, hk, rfl, c, hno⟩, told k hk⟩, rfl⟩))
      · refine wp_pos (if01.mpr c) (wpo_of ⟨by omega, fun j hj => ?_⟩)
        by_cases hjk : j = k
        · subst hjk
          exact c
        · exact hno j (by omega)
    · rintro s ⟨rfl, hno⟩
      exact wp_neg (fun z => absurd ((lt32 (by omega) (by omega)).mp z) (by omega)) (wpo_of (wpo_of ⟨⟨-1, Or.inl ⟨rfl, hno⟩, rfl⟩, rfl⟩))
  · intro z hz
    refine wpo_mono hz ?_
    rintro ⟨v, M'⟩ ⟨hv, rfl⟩
    refine ⟨s2, fun N sN hN => ?_⟩
    refine wp_bind.mpr (wpo_mono (P := fun z => wpo (Sum.elim (fun (_ : Unit) => some ((-1), N)) (fun rv => some rv) z) (fun v => FRest (yW (D 118)) p q v.1 ∧ v.2 = N)) ?_ ?_)
    · refine wp_for (I := fun k s => s = (k : Int) ∧ ∀ j, j < k → ¬ yRk (yW (D 118)) p q j = true) 16 ?_ ?_ FU 0 _ ⟨rfl, fun j hj => absurd hj (Nat.not_lt_zero _)⟩ (Nat.zero_le _) (by unfold FU; omega)
      · rintro k s hk ⟨rfl, hno⟩
        refine wp_pos ((lt32 (by omega) (by omega)).mpr (by omega)) (wp_then (sp_restM hI hp hq hN hk) ?_)
        by_cases c : yRk (yW (D 118)) p q k = true
        · exact wp_neg (fun z => if01.mp z c) (wpo_of (wpo_of ⟨⟨_, Or.inr ⟨k, hk, rfl, c, hno⟩, told k hk⟩, rfl⟩))
        · refine wp_pos (if01.mpr c) (wpo_of ⟨by omega, fun j hj => ?_⟩)
          by_cases hjk : j = k
          · subst hjk
            exact c
          · exact hno j (by omega)
      · rintro s ⟨rfl, hno⟩
        exact wp_neg (fun z => absurd ((lt32 (by omega) (by omega)).mp z) (by omega)) (wpo_of (wpo_of ⟨⟨-1, Or.inl ⟨rfl, hno⟩, rfl⟩, rfl⟩))
    · intro z2 hz2
      refine wpo_mono hz2 (fun c hc => ⟨?_, by rw [hc.2]; exact sN⟩)
      rw [hv.uniq hc.1]
theorem sp_isHeldBack {D : Mem} {y : Int} (hy : A32 y) : f9_isHeldBack D y = some (if 0 ≤ y ∧ y ≤ 3 then 1 else 0) := by
  unfold A32 at hy
  refine wp_is ?_
  unfold f9_isHeldBack
  by_cases c0 : y < 0
  · exact wp_pos (by rw [w32_id hy]; exact c0) (wpo_of (by rw [if_neg (by omega)]))
  · refine wp_neg (by rw [w32_id hy]; exact c0) ?_
    by_cases c1 : y < 4
    · exact wp_pos ((lt32 hy (by omega)).mpr c1) (wpo_of (by rw [if_pos (by omega)]))
    · exact wp_neg (fun z => c1 ((lt32 hy (by omega)).mp z)) (wpo_of (by rw [if_neg (by omega)]))
theorem ag_holding {D : Mem} {x y u v : Int} (hI : IC D) (hx : A32 x) (hy : A32 y) (hu : A32 u) (hv : A32 v) : AGi D (f9_holding D x y u v) (fun M => f10_holding M x y u v) := by
  have hP := hI.P
  have hu' := hu
  have hv' := hv
  unfold A32 at hu' hv'
  have in1 : ∀ M : Mem, f10_in M (w32 u) 0 3 = some (if 0 ≤ u ∧ u ≤ 3 then 1 else 0) := fun M => by
    rw [w32_id hu']
    exact sp_in (by omega) (by omega) (by omega)
  have in2 : ∀ M : Mem, f10_in M (w32 v) 0 3 = some (if 0 ≤ v ∧ v ≤ 3 then 1 else 0) := fun M => by
    rw [w32_id hv']
    exact sp_in (by omega) (by omega) (by omega)
  have bad : ¬ (Two D x y ∧ (0 ≤ u ∧ u ≤ 3) ∧ (0 ≤ v ∧ v ≤ 3)) → wpo (f10_holding D x y u v) (fun b => w32 (-2) = w32 b.1 ∧ SK D b.2) := by
    intro hb
    unfold f10_holding
    refine wp_then (in1 D) ?_
    by_cases c1 : 0 ≤ u ∧ u ≤ 3
    · refine wp_neg (fun z => if01.mp z c1) (wp_then (in2 D) ?_)
      by_cases c2 : 0 ≤ v ∧ v ≤ 3
      · refine wp_neg (fun z => if01.mp z c2) ?_
        refine wp_bind.mpr (wpo_mono (sp_layHeld hI SK.rf hx hy) ?_)
        rintro r ⟨r1, ⟨-, r3, -⟩ | ⟨r2, -⟩⟩
        · exact absurd ⟨r3, c1, c2⟩ hb
        · exact wp_pos (by rw [r2]; decide) (wpo_of ⟨rfl, r1⟩)
      · exact wp_pos (if01.mpr c2) (wpo_of ⟨rfl, SK.rf⟩)
    · exact wp_pos (if01.mpr c1) (wpo_of ⟨rfl, SK.rf⟩)
  unfold AGi f9_holding
  refine wp_bind.mpr (wpo_mono (sp_areTwo hI hx hy) ?_)
  rintro t (⟨rfl, ht⟩ | ⟨rfl, ht⟩)
  · refine wp_neg (by decide) (wp_then (sp_isHeldBack hu) ?_)
    by_cases c1 : 0 ≤ u ∧ u ≤ 3
    · refine wp_neg (fun z => if01.mp z c1) (wp_then (sp_isHeldBack hv) ?_)
      by_cases c2 : 0 ≤ v ∧ v ≤ 3
      · refine wp_neg (fun z => if01.mp z c2) ?_
        obtain ⟨b1, b2, b3⟩ := ht
        obtain ⟨p, rfl⟩ : ∃ p : Nat, x = (p : Int) := ⟨x.toNat, by omega⟩
        obtain ⟨q, rfl⟩ : ∃ q : Nat, y = (q : Int) := ⟨y.toNat, by omega⟩
        obtain ⟨m, rfl⟩ : ∃ m : Nat, u = (m : Int) := ⟨u.toNat, by omega⟩
        obtain ⟨n, rfl⟩ : ∃ n : Nat, v = (n : Int) := ⟨v.toNat, by omega⟩
        have hp : p < yP (yW (D 118)) := by omega
        have hq : q < yP (yW (D 118)) := by omega
        have h8 := hI.person hp
        refine wp_bind.mpr (wpo_mono (sp_passHolding hI SK.rf hp hq c1 c2) ?_)
        rintro M2 ⟨k2, y1, y2⟩
        have s2 : SK D M2 := k2.sk
        have b42 := (y2 p (by rw [yH_P]; exact hp)).2
        rw [yH_N] at b42
        refine wp_pos (by omega) (wpo_of ?_)
        unfold f10_holding
        refine wp_then (in1 _) (wp_neg (fun z => if01.mp z c1) (wp_then (in2 _) (wp_neg (fun z => if01.mp z c2) ?_)))
        refine wp_bind.mpr (wpo_mono (sp_layHeld hI s2 hx hy) ?_)
        rintro r ⟨r1, ⟨r2, -, r3⟩ | ⟨-, r3⟩⟩
        · rw [Int.toNat_natCast, Int.toNat_natCast] at r3
          refine wp_neg (by rw [r2]; decide) ?_
          refine wp_then (sp_heldBy (H1 := fun k => hB (yW (D 118)) p q k p) (H2 := fun k => hB (yW (D 118)) p q k q) (w := 0) r3 (x := m) (y := n) (by omega) (by omega) (by decide)) (wpo_of ⟨?_, r1⟩)
          dsimp only
          rw [Int.toNat_natCast, b42, if_pos rfl]
          have d1 : (4 * m + n) / 4 = m := by omega
          have d2 : (4 * m + n) % 4 = n := by omega
          unfold hB
          rw [d1, d2]
        · exact absurd ⟨b1, b2, b3⟩ r3
      · exact wp_pos (if01.mpr c2) (wpo_of (bad (fun z => c2 z.2.2)))
    · exact wp_pos (if01.mpr c1) (wpo_of (bad (fun z => c1 z.2.1)))
  · exact wp_pos (by decide) (wpo_of (bad (fun z => ht z.1)))
