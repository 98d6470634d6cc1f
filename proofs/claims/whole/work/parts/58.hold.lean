/-! TWO WHO HOLD BACK (by hand) -/
def yH (Y : Mem) (p q : Nat) (u v : Int) : Mem := mset (mset Y 5 p u) 5 q v
theorem yH_set {Y : Mem} {p q : Nat} {u v u' v' : Int} : mset (mset (yH Y p q u v) 5 p u') 5 q v' = yH Y p q u' v' := by
  unfold yH
  funext c i
  simp only [mset]
  by_cases h1 : c = 5 ∧ i = q
  · simp [h1]
  · simp only [h1, if_false]
    by_cases h2 : c = 5 ∧ i = p <;> simp [h2]
theorem yH_P {Y : Mem} {p q : Nat} {u v : Int} : yP (yH Y p q u v) = yP Y := by
  unfold yH
  rw [yP_set (by omega), yP_set (by omega)]
theorem yH_N {Y : Mem} {p q : Nat} {u v : Int} : yN (yH Y p q u v) = yN Y := by
  unfold yH
  rw [yN_set (by omega), yN_set (by omega)]
theorem yH_ok {D : Mem} (hI : IC D) {p q : Nat} {u v : Int} (hu : 0 ≤ u ∧ u ≤ 3) (hv : 0 ≤ v ∧ v ≤ 3) : YOK (yH (yW (D 118)) p q u v) := (hI.1.yok.per (Or.inr (Or.inr ⟨rfl, hu⟩))).per (Or.inr (Or.inr ⟨rfl, hv⟩))
theorem yH_teeth {D : Mem} (hI : IC D) {p q : Nat} {u v : Int} : yH (yW (D 118)) p q u v 0 0 = 0 ∨ 1 ≤ yH (yW (D 118)) p q u v 0 5 := by
  unfold yH
  rw [ms_ne (show 0 ≠ 5 by decide), ms_ne (show 0 ≠ 5 by decide), ms_ne (show 0 ≠ 5 by decide), ms_ne (show 0 ≠ 5 by decide)]
  exact hI.1.teeth
/-- what one of the two bears by the k-th pair -/
def hB (Y : Mem) (p q : Nat) (k : Nat) (w : Nat) : Int := ybears (yH Y p q ((k / 4 : Nat) : Int) ((k % 4 : Nat) : Int)) (yN Y) w
theorem hB_bd {D : Mem} (hI : IC D) {p q w k : Nat} (hw : w < yP (yW (D 118))) (hk : k < 16) : 0 ≤ hB (yW (D 118)) p q k w ∧ hB (yW (D 118)) p q k w ≤ 2160 := by
  have := ybears_bd (yH_ok hI (p := p) (q := q) (u := ((k / 4 : Nat) : Int)) (v := ((k % 4 : Nat) : Int)) (by omega) (by omega)) (p := w) (by rw [yH_P]; exact hw)
  rw [yH_N] at this
  exact this
theorem sp_passHolding {D M : Mem} {p q : Nat} {u v : Int} (hI : IC D) (hs : SK D M) (hp : p < yP (yW (D 118))) (hq : q < yP (yW (D 118))) (hu : 0 ≤ u ∧ u ≤ 3) (hv : 0 ≤ v ∧ v ≤ 3) : wpo (f9_passHolding M (p : Int) (q : Int) u v) (fun M2 => YF 36 M M2 ∧ Y36 (yH (yW (D 118)) p q u v) M2) := by
  have hM := hI.sk hs
  have h1 := hI.person hp
  have h2 := hI.person hq
  unfold f9_passHolding
  refine wp_bind.mpr (wpo_mono (sp_prepare (r := 36) (by decide)) ?_)
  intro M1 k1
  have c1 : YC (yW (D 118)) M1 36 := by
    rw [← hs.w]
    exact k1.yc (by decide) hM.1 hM.2.1
  refine wp_pos (by omega) (wp_then rfl (wp_pos (by omega) (wp_then rfl ?_)))
  rw [Int.toNat_natCast, Int.toNat_natCast]
  have c2 : YC (yH (yW (D 118)) p q u v) (mset (mset M1 39 p u) 39 q v) 36 := YC.per (j := 3) (k := 5) (by decide) (YC.per (j := 3) (k := 5) (by decide) c1 (Or.inr (Or.inr ⟨rfl, rfl⟩))) (Or.inr (Or.inr ⟨rfl, rfl⟩))
  refine wp_bind.mpr (wpo_mono (sp_pass (r := 36) (by decide) (yH_ok hI hu hv) c2) ?_)
  rintro M2 ⟨k, o1, o2, o3⟩
  refine wpo_of ⟨fun c i h => ?_, o3.trans yall_eq, o1⟩
  rw [k.1 c i h, ms_ne (by omega), ms_ne (by omega)]
  exact k1.1 c i h
theorem div4 {k : Nat} (h : k < 1000) : div32 (k : Int) 4 = ((k / 4 : Nat) : Int) := by
  rw [div32_id (by omega) (by omega)]
  omega
theorem rem4 {k : Nat} (h : k < 1000) : rem32 (k : Int) 4 = ((k % 4 : Nat) : Int) := by
  rw [rem32_id (by omega) (by omega)]
  omega
theorem sp_passHoldings {D M : Mem} {p q : Nat} (hI : IC D) (hs : SK D M) (hp : p < yP (yW (D 118))) (hq : q < yP (yW (D 118))) : wpo (f9_passHoldings M (p : Int) (q : Int)) (fun M2 => SK D M2 ∧ ∀ k, k < 16 → M2 83 k = hB (yW (D 118)) p q k p ∧ M2 84 k = hB (yW (D 118)) p q k q) := by
  have h1 := hI.person hp
  have h2 := hI.person hq
  unfold f9_passHoldings
  refine wp_bind.mpr ?_
  simp only [wp_some]
  refine wp_for (I := fun k s => s.1 = (k : Int) ∧ SK D s.2 ∧ ∀ j, j < k → s.2 83 j = hB (yW (D 118)) p q j p ∧ s.2 84 j = hB (yW (D 118)) p q j q) 16 ?_ ?_ FU 0 _ ⟨rfl, hs, fun j hj => absurd hj (Nat.not_lt_zero _)⟩ (Nat.zero_le _) (by unfold FU; omega)
  · rintro k ⟨t1, N⟩ hk ⟨e1, e2, e3⟩
    dsimp only at e1 e2 e3 ⊢
    subst e1
    refine wp_pos ((lt32 (by omega) (by omega)).mpr (by omega)) ?_
    rw [div4 (by omega), rem4 (by omega)]
    refine wp_bind.mpr (wpo_mono (sp_passHolding hI e2 hp hq (by omega) (by omega)) ?_)
    rintro M2 ⟨k2, y1, y2⟩
    have b1 := (y2 p (by rw [yH_P]; exact hp)).2
    have b2 := (y2 q (by rw [yH_P]; exact hq)).2
    rw [yH_N] at b1 b2
    refine wp_pos (by omega) (wp_pos (by omega) (wp_then rfl (wp_pos (by omega) (wpo_of ?_))))
    rw [Int.toNat_natCast, Int.toNat_natCast, Int.toNat_natCast]
    refine ⟨by dsimp only; omega, ((e2.tr k2.sk).set (by unfold scr; omega)).set (by unfold scr; omega), fun j hj => ?_⟩
    dsimp only
    by_cases hjk : j = k
    · subst hjk
      refine ⟨?_, ?_⟩
      · rw [ms_ne (by decide), ms_same]
        exact b1
      · rw [ms_same, ms_ne (by decide)]
        exact b2
    · obtain ⟨g1, g2⟩ := e3 j (by omega)
      rw [ms_ne (by decide), ms_ni hjk, ms_ni hjk, ms_ne (by decide), k2 83 j (by omega), k2 84 j (by omega)]
      exact ⟨g1, g2⟩
  · rintro ⟨t1, N⟩ ⟨e1, e2, e3⟩
    dsimp only at e1 e2 e3 ⊢
    subst e1
    exact wp_neg (fun z => absurd ((lt32 (by omega) (by omega)).mp z) (by omega)) (wpo_of ⟨e2, e3⟩)
/-- neither gains by another number alone -/
def yRest (H1 H2 : Nat → Int) (x y : Nat) : Bool := (List.range 4).all fun k => decide (¬ H1 (4 * k + y) < H1 (4 * x + y) ∧ ¬ H2 (4 * x + k) < H2 (4 * x + y))
theorem yRest_no {H1 H2 : Nat → Int} {x y k : Nat} (hk : k < 4) (h : H1 (4 * k + y) < H1 (4 * x + y) ∨ H2 (4 * x + k) < H2 (4 * x + y)) : yRest H1 H2 x y = false := by
  refine List.all_eq_false.mpr ⟨k, List.mem_range.mpr hk, ?_⟩
  simp only [decide_eq_true_eq]
  rintro ⟨h1, h2⟩
  rcases h with h | h
  · exact h1 h
  · exact h2 h
theorem yRest_yes {H1 H2 : Nat → Int} {x y : Nat} (h : ∀ k, k < 4 → ¬ H1 (4 * k + y) < H1 (4 * x + y) ∧ ¬ H2 (4 * x + k) < H2 (4 * x + y)) : yRest H1 H2 x y = true := by
  refine List.all_eq_true.mpr (fun k hk => ?_)
  exact decide_eq_true (h k (List.mem_range.mp hk))
theorem sp_isRestC {M : Mem} {H1 H2 : Nat → Int} {x y : Nat} (h83 : ∀ k, k < 16 → M 83 k = H1 k ∧ M 84 k = H2 k) (hb : ∀ k, k < 16 → (0 ≤ H1 k ∧ H1 k ≤ 2160) ∧ (0 ≤ H2 k ∧ H2 k ≤ 2160)) (hx : x < 4) (hy : y < 4) : f9_isRest M (x : Int) (y : Int) = some (if yRest H1 H2 x y = true then 1 else 0) := by
  refine wp_is ?_
  unfold f9_isRest
  refine wp_bind.mpr (wpo_mono (P := fun z => wpo (Sum.elim (fun (_ : Unit) => some 1) (fun rv => some rv) z) (fun v => v = (if yRest H1 H2 x y = true then 1 else 0))) ?_ (fun z hz => hz))
  refine wp_for (I := fun k s => s = (k : Int) ∧ ∀ j, j < k → ¬ H1 (4 * j + y) < H1 (4 * x + y) ∧ ¬ H2 (4 * x + j) < H2 (4 * x + y)) 4 ?_ ?_ FU 0 _ ⟨rfl, fun j hj => absurd hj (Nat.not_lt_zero _)⟩ (Nat.zero_le _) (by unfold FU; omega)
  · rintro k s hk ⟨rfl, hno⟩
    have t1 : (4 * (k : Int) + (y : Int)).toNat = 4 * k + y := by omega
    have t2 : (4 * (x : Int) + (y : Int)).toNat = 4 * x + y := by omega
    have t3 : (4 * (x : Int) + (k : Int)).toNat = 4 * x + k := by omega
    have a1 := h83 (4 * k + y) (by omega)
    have a2 := h83 (4 * x + y) (by omega)
    have a3 := h83 (4 * x + k) (by omega)
    have b1 := hb (4 * k + y) (by omega)
    have b2 := hb (4 * x + y) (by omega)
    have b3 := hb (4 * x + k) (by omega)
    refine wp_pos ((lt32 (by omega) (by omega)).mpr (by omega)) (wp_pos (by omega) (wp_pos (by omega) ?_))
    by_cases c1 : H1 (4 * k + y) < H1 (4 * x + y)
    · refine wp_pos ?_ (wpo_of (wpo_of ?_))
      · rw [t1, t2, a1.1, a2.1]
        exact (lt32 (by omega) (by omega)).mpr c1
      · rw [yRest_no hk (Or.inl c1)]
        rfl
    · refine wp_neg ?_ (wp_pos (by omega) ?_)
      · rw [t1, t2, a1.1, a2.1]
        exact fun z => c1 ((lt32 (by omega) (by omega)).mp z)
      · by_cases c2 : H2 (4 * x + k) < H2 (4 * x + y)
        · refine wp_pos ?_ (wpo_of (wpo_of ?_))
          · rw [t3, t2, a3.2, a2.2]
            exact (lt32 (by omega) (by omega)).mpr c2
          · rw [yRest_no hk (Or.inr c2)]
            rfl
        · refine wp_neg ?_ (wpo_of ⟨by omega, fun j hj => ?_⟩)
          · rw [t3, t2, a3.2, a2.2]
            exact fun z => c2 ((lt32 (by omega) (by omega)).mp z)
          · by_cases hjk : j = k
            · subst hjk
              exact ⟨c1, c2⟩
            · exact hno j (by omega)
  · rintro s ⟨rfl, hno⟩
    refine wp_neg (fun z => absurd ((lt32 (by omega) (by omega)).mp z) (by omega)) (wpo_of (wpo_of ?_))
    rw [yRest_yes hno]
    rfl
theorem sp_heldBy {M : Mem} {H1 H2 : Nat → Int} {x y w : Nat} (h : ∀ k, k < 16 → M 142 (2 * k) = H1 k ∧ M 142 (2 * k + 1) = H2 k) (hx : x < 4) (hy : y < 4) (hw : w < 2) : f10_heldBy M (x : Int) (y : Int) (w : Int) = some (if w = 0 then H1 (4 * x + y) else H2 (4 * x + y)) := by
  have a := h (4 * x + y) (by omega)
  unfold f10_heldBy
  rw [if_pos (by omega)]
  congr 1
  by_cases c : w = 0
  · subst c
    rw [if_pos rfl]
    have t : ((2 * (4 * (x : Int) + (y : Int))) + ((0 : Nat) : Int)).toNat = 2 * (4 * x + y) := by omega
    rw [t]
    exact a.1
  · have c : w = 1 := by omega
    subst c
    rw [if_neg (by decide)]
    have t : ((2 * (4 * (x : Int) + (y : Int))) + ((1 : Nat) : Int)).toNat = 2 * (4 * x + y) + 1 := by omega
    rw [t]
    exact a.2
theorem sp_isRestM {M : Mem} {H1 H2 : Nat → Int} {x y : Nat} (h : ∀ k, k < 16 → M 142 (2 * k) = H1 k ∧ M 142 (2 * k + 1) = H2 k) (hb : ∀ k, k < 16 → (0 ≤ H1 k ∧ H1 k ≤ 2160) ∧ (0 ≤ H2 k ∧ H2 k ≤ 2160)) (hx : x < 4) (hy : y < 4) : f10_isRest M (x : Int) (y : Int) = some (if yRest H1 H2 x y = true then 1 else 0) := by
  have h0 : ∀ x y : Nat, x < 4 → y < 4 → f10_heldBy M (x : Int) (y : Int) 0 = some (H1 (4 * x + y)) := fun x y hx hy => sp_heldBy (w := 0) h hx hy (by decide)
  have h1 : ∀ x y : Nat, x < 4 → y < 4 → f10_heldBy M (x : Int) (y : Int) 1 = some (H2 (4 * x + y)) := fun x y hx hy => sp_heldBy (w := 1) h hx hy (by decide)
  refine wp_is ?_
  unfold f10_isRest
  refine wp_bind.mpr (wpo_mono (P := fun z => wpo (Sum.elim (fun (_ : Unit) => some 1) (fun rv => some rv) z) (fun v => v = (if yRest H1 H2 x y = true then 1 else 0))) ?_ (fun z hz => hz))
  refine wp_for (I := fun k s => s = (k : Int) ∧ ∀ j, j < k → ¬ H1 (4 * j + y) < H1 (4 * x + y) ∧ ¬ H2 (4 * x + j) < H2 (4 * x + y)) 4 ?_ ?_ FU 0 _ ⟨rfl, fun j hj => absurd hj (Nat.not_lt_zero _)⟩ (Nat.zero_le _) (by unfold FU; omega)
  · rintro k s hk ⟨rfl, hno⟩
    have b1 := hb (4 * k + y) (by omega)
    have b2 := hb (4 * x + y) (by omega)
    have b3 := hb (4 * x + k) (by omega)
    refine wp_pos ((lt32 (by omega) (by omega)).mpr (by omega)) ?_
    refine wp_then (h0 k y hk hy) (wp_then (h0 x y hx hy) ?_)
    by_cases c1 : H1 (4 * k + y) < H1 (4 * x + y)
    · refine wp_pos ((lt32 (by omega) (by omega)).mpr c1) (wpo_of (wpo_of ?_))
      rw [yRest_no hk (Or.inl c1)]
      rfl
    · refine wp_neg (fun z => c1 ((lt32 (by omega) (by omega)).mp z)) ?_
      refine wp_then (h1 x k hx hk) (wp_then (h1 x y hx hy) ?_)
      by_cases c2 : H2 (4 * x + k) < H2 (4 * x + y)
      · refine wp_pos ((lt32 (by omega) (by omega)).mpr c2) (wpo_of (wpo_of ?_))
        rw [yRest_no hk (Or.inr c2)]
        rfl
      · refine wp_neg (fun z => c2 ((lt32 (by omega) (by omega)).mp z)) (wpo_of ⟨by omega, fun j hj => ?_⟩)
        by_cases hjk : j = k
        · subst hjk
          exact ⟨c1, c2⟩
        · exact hno j (by omega)
  · rintro s ⟨rfl, hno⟩
    refine wp_neg (fun z => absurd ((lt32 (by omega) (by omega)).mp z) (by omega)) (wpo_of (wpo_of ?_))
    rw [yRest_yes hno]
    rfl
/-- two persons -/
def Two (D : Mem) (x y : Int) : Prop := (0 ≤ x ∧ x < D 118 7) ∧ (0 ≤ y ∧ y < D 118 7) ∧ x ≠ y
theorem sp_areTwo {D : Mem} {x y : Int} (hI : IC D) (hx : A32 x) (hy : A32 y) : wpo (f9_areTwo D x y) (fun v => (v = 1 ∧ Two D x y) ∨ (v = 0 ∧ ¬ Two D x y)) := by
  have hx' := hx
  have hy' := hy
  unfold A32 at hx' hy'
  unfold f9_areTwo
  refine wp_then (sp_person9 hI hx) ?_
  by_cases c1 : 0 ≤ x ∧ x < D 118 7
  · refine wp_neg (fun z => if01.mp z c1) (wp_then (sp_person9 hI hy) ?_)
    by_cases c2 : 0 ≤ y ∧ y < D 118 7
    · refine wp_neg (fun z => if01.mp z c2) ?_
      by_cases c3 : x = y
      · exact wp_pos (by rw [c3]) (wpo_of (Or.inr ⟨rfl, fun z => z.2.2 c3⟩))
      · exact wp_neg (fun z => c3 ((eq32 hx' hy').mp z)) (wpo_of (Or.inl ⟨rfl, c1, c2, c3⟩))
    · exact wp_pos (if01.mpr c2) (wpo_of (Or.inr ⟨rfl, fun z => c2 z.2.1⟩))
  · exact wp_pos (if01.mpr c1) (wpo_of (Or.inr ⟨rfl, fun z => c1 z.1⟩))
/-- the reference lays what the two bear -/
theorem sp_layHeld {D M : Mem} {x y : Int} (hI : IC D) (hs : SK D M) (hx : A32 x) (hy : A32 y) : wpo (f10_layHeld M x y) (fun r => SK D r.2 ∧ ((r.1 = 1 ∧ Two D x y ∧ ∀ k, k < 16 → r.2 142 (2 * k) = hB (yW (D 118)) x.toNat y.toNat k x.toNat ∧ r.2 142 (2 * k + 1) = hB (yW (D 118)) x.toNat y.toNat k y.toNat) ∨ (r.1 = 0 ∧ ¬ Two D x y))) := by
  have hP := hI.P
  have hx' := hx
  have hy' := hy
  unfold A32 at hx' hy'
  unfold f10_layHeld
  refine wp_bind.mpr (wpo_mono (sp_asIt hI hs) ?_)
  rintro M1 ⟨s1, y1, -⟩
  refine wp_then (sp_person10 hI s1 hx) ?_
  by_cases c1 : 0 ≤ x ∧ x < D 118 7
  · refine wp_neg (fun z => if01.mp z c1) (wp_then (sp_person10 hI s1 hy) ?_)
    by_cases c2 : 0 ≤ y ∧ y < D 118 7
    · refine wp_neg (fun z => if01.mp z c2) ?_
      by_cases c3 : x = y
      · exact wp_pos (by rw [c3]) (wpo_of ⟨s1, Or.inr ⟨rfl, fun z => z.2.2 c3⟩⟩)
      · refine wp_neg (fun z => c3 ((eq32 hx' hy').mp z)) ?_
        obtain ⟨p, rfl⟩ : ∃ p : Nat, x = (p : Int) := ⟨x.toNat, by omega⟩
        obtain ⟨q, rfl⟩ : ∃ q : Nat, y = (q : Int) := ⟨y.toNat, by omega⟩
        have hp : p < yP (yW (D 118)) := by omega
        have hq : q < yP (yW (D 118)) := by omega
        rw [Int.toNat_natCast, Int.toNat_natCast]
        refine wp_bind.mpr (wpo_mono (P := fun b => SK D b ∧ ∀ k, k < 16 → b 142 (2 * k) = hB (yW (D 118)) p q k p ∧ b 142 (2 * k + 1) = hB (yW (D 118)) p q k q) ?_ (fun b hb => wpo_of ⟨hb.1, Or.inl ⟨rfl, ⟨c1, c2, c3⟩, hb.2⟩⟩))
        have y2 : YM (yH (yW (D 118)) p q 0 0) M1 := by
          have e : yH (yW (D 118)) p q 0 0 = yW (D 118) := by
            unfold yH
            rw [mset_same (D := yW (D 118)) (c := 5) (i := p) (v := 0) rfl, mset_same (D := yW (D 118)) (c := 5) (i := q) (v := 0) rfl]
          rw [e]
          exact y1
        refine wp_for (I := fun k s => s.1 = (k : Int) ∧ SK D s.2 ∧ (∃ u v : Int, YM (yH (yW (D 118)) p q u v) s.2) ∧ ∀ j, j < k → s.2 142 (2 * j) = hB (yW (D 118)) p q j p ∧ s.2 142 (2 * j + 1) = hB (yW (D 118)) p q j q) 16 ?_ ?_ FU 0 _ ⟨rfl, s1, ⟨0, 0, y2⟩, fun j hj => absurd hj (Nat.not_lt_zero _)⟩ (Nat.zero_le _) (by unfold FU; omega)
        · rintro k ⟨t1, N⟩ hk ⟨e1, e2, ⟨u, v, e3⟩, e4⟩
          dsimp only at e1 e2 e3 e4 ⊢
          subst e1
          refine wp_pos ((lt32 (by omega) (by omega)).mpr (by omega)) (wp_pos (by omega) (wp_then rfl (wp_pos (by omega) (wp_then rfl ?_))))
          rw [div4 (by omega), rem4 (by omega)]
          have hm := (e3.hold (q := p) (v := ((k / 4 : Nat) : Int)) (by rw [yH_P]; exact hp)).hold (q := q) (v := ((k % 4 : Nat) : Int)) (by rw [yP_set (by omega), yH_P]; exact hq)
          rw [yH_set] at hm
          have hY := yH_ok hI (p := p) (q := q) (u := ((k / 4 : Nat) : Int)) (v := ((k % 4 : Nat) : Int)) (by omega) (by omega)
          refine wp_bind.mpr (wpo_mono (sp_goNights hY hm (yH_teeth hI)) ?_)
          rintro M3 hO
          have m3 := hO.ms hm
          have s3 : SK D M3 := ((e2.set (by unfold scr; omega)).set (by unfold scr; omega)).tr hO.1.sk
          have b1 := sp_bearsOf hY m3 (p := p) (by rw [yH_P]; exact hp)
          have hm4 : ∀ w : Int, MS (yH (yW (D 118)) p q ((k / 4 : Nat) : Int) ((k % 4 : Nat) : Int)) (mset M3 142 (2 * k) w) := fun w => m3.congr (fun c i hc => ms_ne (by omega))
          have b2 := fun w => sp_bearsOf hY (hm4 w) (p := q) (by rw [yH_P]; exact hq)
          rw [yH_N] at b1 b2
          have t2 : (2 * (k : Int)).toNat = 2 * k := by omega
          have t3 : (2 * (k : Int) + 1).toNat = 2 * k + 1 := by omega
          refine wp_then b1 (wp_pos (by omega) (wp_then rfl ?_))
          rw [t2]
          refine wp_then (b2 _) (wp_pos (by omega) (wpo_of ?_))
          rw [t3]
          refine ⟨by dsimp only; omega, (s3.set (by unfold scr; omega)).set (by unfold scr; omega), ⟨_, _, ((hm4 _).congr (fun c i hc => ms_ne (by omega))).1⟩, fun j hj => ?_⟩
          dsimp only
          by_cases hjk : j = k
          · subst hjk
            refine ⟨?_, ?_⟩
            · rw [ms_ni (by omega), ms_same]
              rfl
            · rw [ms_same]
              rfl
          · obtain ⟨g1, g2⟩ := e4 j (by omega)
            have f : ∀ i, M3 142 i = N 142 i := fun i => by
              rw [hO.1 142 i (by omega) (by omega), ms_ne (by decide), ms_ne (by decide)]
            rw [ms_ni (by omega), ms_ni (by omega), ms_ni (by omega), ms_ni (by omega), f, f]
            exact ⟨g1, g2⟩
        · rintro ⟨t1, N⟩ ⟨e1, e2, -, e4⟩
          dsimp only at e1 e2 e4 ⊢
          subst e1
          exact wp_neg (fun z => absurd ((lt32 (by omega) (by omega)).mp z) (by omega)) (wpo_of ⟨e2, e4⟩)
    · exact wp_pos (if01.mpr c2) (wpo_of ⟨s1, Or.inr ⟨rfl, fun z => c2 z.2.1⟩⟩)
  · exact wp_pos (if01.mpr c1) (wpo_of ⟨s1, Or.inr ⟨rfl, fun z => c1 z.1⟩⟩)
