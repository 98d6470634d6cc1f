/-! GROAN, the class's side (by hand) -/
/-- the year told otherwise: a rule, and a groan of one person -/
def yGr (Y : Mem) (u : Int) (p : Nat) (m : Int) : Mem := mset (mset Y 0 2 u) 4 p (Y 1 p + m)
def Gr (Y : Mem) (u : Int) (p j : Nat) : Prop := 1 ≤ j ∧ ybears (yGr Y u p j) (yN Y) p < ybears (yGr Y u p 0) (yN Y) p
theorem yGr_ok {D : Mem} (hI : IC D) {u : Int} {p : Nat} {m : Int} (hp : p < yP (yW (D 118))) (hu : 0 ≤ u ∧ u ≤ 3) (hm : 0 ≤ m ∧ m ≤ 20) : YOK (yGr (yW (D 118)) u p m) := by
  have ha := (hI.1.yok.ache hp).1
  exact (hI.1.yok.num (Or.inr (Or.inl ⟨rfl, hu⟩))).per (Or.inr (Or.inl ⟨rfl, by omega⟩))
theorem yGr_P {Y : Mem} {u m : Int} {p : Nat} : yP (yGr Y u p m) = yP Y := by
  unfold yGr
  rw [yP_set (by omega), yP_set (by omega)]
theorem yGr_N {Y : Mem} {u m : Int} {p : Nat} : yN (yGr Y u p m) = yN Y := by
  unfold yGr
  rw [yN_set (by omega), yN_set (by omega)]
theorem yGr_zero {D : Mem} {u : Int} {p : Nat} : yGr (yW (D 118)) u p 0 = mset (yW (D 118)) 0 2 u := by
  unfold yGr
  have e : yW (D 118) 1 p + 0 = mset (yW (D 118)) 0 2 u 4 p := by
    rw [ms_ne (show 4 ≠ 0 by decide), Int.add_zero]
    rfl
  rw [e, ms_self]
theorem sp_passBy2 {D M : Mem} {v : Int} (hI : IC D) (hs : SK D M) (hv : 0 ≤ v ∧ v ≤ 3) : wpo (f9_passBy M v) (fun M2 => (SK D M2 ∧ Y36 (mset (yW (D 118)) 0 2 v) M2) ∧ M2 36 2 = v) := by
  unfold f9_passBy
  refine wp_bind.mpr (wpo_mono (sp_prep36 hI hs) ?_)
  rintro M1 ⟨s1, c1⟩
  refine wp_then rfl ?_
  refine wp_bind.mpr (wpo_mono (wp_and (sp_pass36 (D := D) (s1.set (by unfold scr; omega)) (hI.1.yok.num (Or.inr (Or.inl ⟨rfl, hv⟩))) (YC.num (by decide) c1 v (by omega))) (sp_pass (by decide) (hI.1.yok.num (Or.inr (Or.inl ⟨rfl, hv⟩))) (YC.num (by decide) c1 v (by omega)))) (fun M2 h2 => wpo_of ⟨h2.1, ?_⟩))
  rw [h2.2.1.2.1 2 (by decide)]
  exact ms_same
set_option maxHeartbeats 1000000 in
theorem sp_leastGroanC {D M : Mem} {u : Int} {p : Nat} (hI : IC D) (hs : SK D M) (hp : p < yP (yW (D 118))) (hu : 0 ≤ u ∧ u ≤ 3) : wpo (f9_leastGroan M (p : Int) u) (fun r => First 21 (Gr (yW (D 118)) u p) r.1 ∧ SK D r.2) := by
  have h8 := hI.person hp
  have bdk : ∀ j : Nat, j ≤ 20 → 0 ≤ ybears (yGr (yW (D 118)) u p j) (yN (yW (D 118))) p ∧ ybears (yGr (yW (D 118)) u p j) (yN (yW (D 118))) p ≤ 2160 := fun j hj => by
    have := ybears_bd (yGr_ok hI (m := (j : Int)) hp hu (by omega)) (p := p) (by rw [yGr_P]; exact hp)
    rw [yGr_N] at this
    exact this
  unfold f9_leastGroan
  refine wp_bind.mpr (wpo_mono (sp_passBy2 hI hs hu) ?_)
  rintro M1 ⟨⟨s1, y1, y2⟩, r2⟩
  have e42 : M1 42 p = ybears (yGr (yW (D 118)) u p 0) (yN (yW (D 118))) p := by
    have := (y2 p (by rw [yP_set (by omega)]; exact hp)).2
    rw [yN_set (by omega)] at this
    rw [this, yGr_zero]
  have b0 : 0 ≤ ybears (yGr (yW (D 118)) u p 0) (yN (yW (D 118))) p ∧ ybears (yGr (yW (D 118)) u p 0) (yN (yW (D 118))) p ≤ 2160 := bdk 0 (by omega)
  refine wp_pos (by omega) ?_
  rw [Int.toNat_natCast, e42]
  by_cases c0 : ybears (yGr (yW (D 118)) u p 0) (yN (yW (D 118))) p = 0
  · refine wp_pos (by rw [c0]; decide) (wpo_of ⟨Or.inl ⟨rfl, fun j hj hg => ?_⟩, s1⟩)
    have := bdk j (by omega)
    have h2 := hg.2
    omega
  · refine wp_neg (by rw [w32_id (by omega)]; exact c0) ?_
    by_cases cu : u = 1 ∨ u = 2
    · have hl : f8_looksAtAches M1 36 = some 1 := by
        unfold f8_looksAtAches
        rw [r2]
        rcases cu with rfl | rfl <;> rfl
      refine wp_then hl (wp_neg (by decide) ?_)
      refine wp_bind.mpr (wpo_mono (P := fun z => wpo (Sum.elim (fun (b1 : Mem) => some ((-1), b1)) (fun rv => some rv) z) (fun (a : Int × Mem) => First 21 (Gr (yW (D 118)) u p) a.1 ∧ SK D a.2)) ?_ (fun z hz => hz))
      refine wp_for (I := fun k s => 1 ≤ k ∧ s.1 = (k : Int) ∧ SK D s.2 ∧ ∀ j, j < k → ¬ Gr (yW (D 118)) u p j) 21 ?_ ?_ FU 1 _ ⟨Nat.le_refl _, rfl, s1, fun j hj hg => by have := hg.1; omega⟩ (by decide) (by unfold FU; omega)
      · rintro k ⟨t1, N⟩ hk ⟨k1, e1, e2, hno⟩
        dsimp only at e1 e2 ⊢
        subst e1
        have bk := bdk k (by omega)
        refine wp_neg (fun z => absurd ((lt32 (by omega) (by omega)).mp z) (by omega)) ?_
        refine wp_bind.mpr (wpo_mono (sp_prep36 hI e2) ?_)
        rintro N1 ⟨t2, c1⟩
        refine wp_then rfl (wp_then rfl ?_)
        have e37 : mset N1 36 2 u 37 p = yW (D 118) 1 p := by
          rw [ms_ne (by decide)]
          exact ((c1.2.2.2.2.2.2.2 p hp).2.2.2.1).symm
        rw [e37]
        have hc := YC.per (j := 1) (k := 4) (q := p) (v := yW (D 118) 1 p + (k : Int)) (by decide) (YC.num (by decide) c1 u (i := 2) (by omega)) (Or.inl ⟨rfl, rfl⟩)
        refine wp_bind.mpr (wpo_mono (sp_pass36 (D := D) ((t2.set (by unfold scr; omega)).set (by unfold scr; omega)) (yGr_ok hI (m := (k : Int)) hp hu (by omega)) hc) ?_)
        rintro N2 ⟨t3, -, z2⟩
        have f42 : N2 42 p = ybears (yGr (yW (D 118)) u p k) (yN (yW (D 118))) p := by
          have := (z2 p (by rw [yGr_P]; exact hp)).2
          rw [yGr_N] at this
          exact this
        rw [f42]
        by_cases c : ybears (yGr (yW (D 118)) u p k) (yN (yW (D 118))) p < ybears (yGr (yW (D 118)) u p 0) (yN (yW (D 118))) p
        · exact wp_pos ((lt32 (by omega) (by omega)).mpr c) (wpo_of (wpo_of ⟨Or.inr ⟨k, hk, rfl, ⟨k1, c⟩, hno⟩, t3⟩))
        · refine wp_neg (fun z => c ((lt32 (by omega) (by omega)).mp z)) (wpo_of ⟨by omega, by dsimp only; omega, t3, fun j hj => ?_⟩)
          by_cases hjk : j = k
          · subst hjk
            exact fun z => c z.2
          · exact hno j (by omega)
      · rintro ⟨t1, N⟩ ⟨k1, e1, e2, hno⟩
        dsimp only at e1 e2 ⊢
        subst e1
        exact wp_pos ((lt32 (by omega) (by omega)).mpr (by omega)) (wpo_of (wpo_of ⟨Or.inl ⟨rfl, hno⟩, e2⟩))
    · have hl : f8_looksAtAches M1 36 = some 0 := by
        refine wp_is ?_
        unfold f8_looksAtAches
        rw [r2]
        exact wp_neg (fun z => cu (Or.inl ((eq32 (by omega) (by omega)).mp z))) (wp_neg (fun z => cu (Or.inr ((eq32 (by omega) (by omega)).mp z))) (wpo_of rfl))
      refine wp_then hl (wp_pos (by decide) (wpo_of ⟨Or.inl ⟨rfl, fun j hj hg => ?_⟩, s1⟩))
      have h2 := hg.2
      unfold yGr at h2
      rw [ybears_deaf (by rw [ms_same]; omega) (by rw [ms_same]; omega), ybears_deaf (by rw [ms_same]; omega) (by rw [ms_same]; omega)] at h2
      omega
