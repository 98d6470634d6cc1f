/-! GROAN, the reference's side (by hand) -/
theorem yGr_set {Y : Mem} {u m v : Int} {p : Nat} : mset (yGr Y u p m) 4 p (yGr Y u p m 1 p + v) = yGr Y u p v := by
  unfold yGr
  rw [ms_ms, ms_ne (show 1 ≠ 4 by decide), ms_ne (show 1 ≠ 0 by decide)]
theorem yGr_teeth {D : Mem} (hI : IC D) {u m : Int} {p : Nat} : yGr (yW (D 118)) u p m 0 0 = 0 ∨ 1 ≤ yGr (yW (D 118)) u p m 0 5 := by
  unfold yGr
  rw [ms_ne (show 0 ≠ 4 by decide), ms_ne (show 0 ≠ 4 by decide), ms_ni (by decide), ms_ni (by decide)]
  exact hI.1.teeth
set_option maxHeartbeats 1000000 in
theorem sp_groanByM {D M : Mem} {u : Int} {p : Nat} (hI : IC D) (hs : SK D M) (hp : p < yP (yW (D 118))) (hu : 0 ≤ u ∧ u ≤ 3) (hm : YM (yGr (yW (D 118)) u p 0) M) : wpo (f10_groanBy M (p : Int)) (fun r => First 21 (Gr (yW (D 118)) u p) r.1 ∧ SK D r.2 ∧ YM (yGr (yW (D 118)) u p 0) r.2) := by
  have h8 := hI.person hp
  have hok : ∀ j : Nat, j ≤ 20 → YOK (yGr (yW (D 118)) u p j) := fun j hj => yGr_ok hI (m := (j : Int)) hp hu (by omega)
  have bdk : ∀ j : Nat, j ≤ 20 → 0 ≤ ybears (yGr (yW (D 118)) u p j) (yN (yW (D 118))) p ∧ ybears (yGr (yW (D 118)) u p j) (yN (yW (D 118))) p ≤ 2160 := fun j hj => by
    have := ybears_bd (hok j hj) (p := p) (by rw [yGr_P]; exact hp)
    rw [yGr_N] at this
    exact this
  have b0 : 0 ≤ ybears (yGr (yW (D 118)) u p 0) (yN (yW (D 118))) p ∧ ybears (yGr (yW (D 118)) u p 0) (yN (yW (D 118))) p ≤ 2160 := bdk 0 (by omega)
  have bo : ∀ (j : Nat) (N : Mem), j ≤ 20 → MS (yGr (yW (D 118)) u p j) N → f10_bearsOf N (p : Int) = some (ybears (yGr (yW (D 118)) u p j) (yN (yW (D 118))) p) := fun j N hj hN => by
    have := sp_bearsOf (hok j hj) hN (p := p) (by rw [yGr_P]; exact hp)
    rw [yGr_N] at this
    exact this
  unfold f10_groanBy
  refine wp_bind.mpr (wpo_mono (sp_go (D := D) hs (hok 0 (by omega)) hm (yGr_teeth hI)) ?_)
  rintro M1 ⟨s1, m1⟩
  refine wp_then (bo 0 M1 (by omega) m1) ?_
  refine wp_bind.mpr (wpo_mono (P := fun r => First 21 (Gr (yW (D 118)) u p) r.1 ∧ SK D r.2 ∧ ∃ m : Int, YM (yGr (yW (D 118)) u p m) r.2) ?_ ?_)
  · refine wp_for (I := fun k s => 1 ≤ k ∧ s.2.1 = (k : Int) ∧ SK D s.2.2 ∧ (∃ m : Int, YM (yGr (yW (D 118)) u p m) s.2.2) ∧ ((s.1 = -1 ∧ ∀ j, j < k → ¬ Gr (yW (D 118)) u p j) ∨ (∃ j : Nat, j < 21 ∧ s.1 = (j : Int) ∧ Gr (yW (D 118)) u p j ∧ ∀ i, i < j → ¬ Gr (yW (D 118)) u p i))) 21 ?_ ?_ FU 1 _ ⟨Nat.le_refl _, rfl, s1, ⟨0, m1.1⟩, Or.inl ⟨rfl, fun j hj hg => by have := hg.1; omega⟩⟩ (by decide) (by unfold FU; omega)
    · rintro k ⟨f1, t1, N⟩ hk ⟨k1, e1, e2, ⟨m, e3⟩, e4⟩
      dsimp only at e1 e2 e3 e4 ⊢
      subst e1
      have bk := bdk k (by omega)
      refine wp_neg (fun z => absurd ((lt32 (by omega) (by omega)).mp z) (by omega)) ?_
      rcases e4 with ⟨rfl, hno⟩ | ⟨j, j1, rfl, j2, j3⟩
      · refine wp_pos rfl (wp_pos (by omega) (wp_then rfl ?_))
        rw [Int.toNat_natCast]
        have h2 := e3.groan (q := p) (v := (k : Int)) (by rw [yGr_P]; exact hp)
        rw [yGr_set] at h2
        refine wp_bind.mpr (wpo_mono (sp_go (D := D) (e2.set (by unfold scr; omega)) (hok k (by omega)) h2 (yGr_teeth hI)) ?_)
        rintro N2 ⟨t2, m2⟩
        refine wp_then (bo k N2 (by omega) m2) ?_
        by_cases c : ybears (yGr (yW (D 118)) u p k) (yN (yW (D 118))) p < ybears (yGr (yW (D 118)) u p 0) (yN (yW (D 118))) p
        · refine wp_then (a := (k : Int)) (if_pos ((lt32 (by omega) (by omega)).mpr c)) (wpo_of ⟨by omega, by dsimp only; omega, t2, ⟨(k : Int), m2.1⟩, Or.inr ⟨k, hk, rfl, ⟨k1, c⟩, hno⟩⟩)
        · refine wp_then (a := -1) (if_neg (fun z => c ((lt32 (by omega) (by omega)).mp z))) (wpo_of ⟨by omega, by dsimp only; omega, t2, ⟨(k : Int), m2.1⟩, Or.inl ⟨rfl, fun j hj => ?_⟩⟩)
          by_cases hjk : j = k
          · subst hjk
            exact fun z => c z.2
          · exact hno j (by omega)
      · exact wp_neg (fun z => absurd ((eq32 (by omega) (by omega)).mp z) (by omega)) (wpo_of ⟨Or.inr ⟨j, j1, rfl, j2, j3⟩, e2, m, e3⟩)
    · rintro ⟨f1, t1, N⟩ ⟨k1, e1, e2, ⟨m, e3⟩, e4⟩
      dsimp only at e1 e2 e3 e4 ⊢
      subst e1
      refine wp_pos ((lt32 (by omega) (by omega)).mpr (by omega)) (wpo_of ⟨?_, e2, m, e3⟩)
      exact e4
  · rintro ⟨f1, N⟩ ⟨r1, r2, m, r3⟩
    dsimp only at r1 r2 r3 ⊢
    refine wp_pos (by omega) (wpo_of ⟨r1, r2.set (by unfold scr; omega), ?_⟩)
    rw [Int.toNat_natCast]
    have h2 := r3.groan (q := p) (v := 0) (by rw [yGr_P]; exact hp)
    rw [yGr_set] at h2
    exact h2
theorem ag_groan {D : Mem} {x : Int} (hI : IC D) (hx : A32 x) : AGi D (f9_groan D x) (fun M => f10_groan M x) := by
  refine ag_person_i hI hx (fun p e hp => ?_)
  subst e
  have e5 : D 12 5 = D 118 4 := hI.2.1.1.2.2.2.2.2.1
  have hb := hI.1.bd
  refine wp_bind.mpr (wpo_mono (sp_leastGroanC (u := D 12 5) hI SK.rf hp (by omega)) ?_)
  rintro r ⟨r1, r2⟩
  refine wpo_of ⟨r2, fun b hbb => ?_⟩
  have hm : YM (yGr (yW (D 118)) (D 12 5) p 0) b.2 := by
    rw [yGr_zero, e5]
    have : mset (yW (D 118)) 0 2 (D 118 4) = yW (D 118) := ms_self (D := yW (D 118)) (c := 0) (i := 2)
    rw [this]
    exact hbb.2.1
  refine wp_bind.mpr (wpo_mono (sp_groanByM hI hbb.1 hp (by omega) hm) ?_)
  rintro c ⟨c1, c2, -⟩
  refine wpo_of ⟨?_, c2⟩
  dsimp only
  rw [r1.uniq c1]
