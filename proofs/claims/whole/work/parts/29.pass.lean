/-! THE CLASS'S PASS OVER ALL NIGHTS (by hand) -/
def yN (Y : Mem) : Nat := (Y 0 0).toNat
theorem YOK.N {Y : Mem} (h : YOK Y) : (yN Y : Int) = Y 0 0 ∧ yN Y ≤ 12 := by
  have := h.1
  unfold yN
  omega
/-- rows of the nights so far -/
def YRows (Y M : Mem) (r k : Nat) : Prop := ∀ n, n < k → M (r + 7) n = (nset (ygave Y n) (yP Y) : Nat) ∧ M (r + 8) n = (nset (ywait Y n) (yP Y) : Nat) ∧ M (r + 9) n = yleft Y n ∧ M (r + 10) n = ygroan Y n ∧ M (r + 11) n = (yst Y (n + 1)).2.1 ∧ M (r + 12) n = (yst Y (n + 1)).2.2
/-- what a pass leaves -/
def YOut (Y D M : Mem) (r : Nat) : Prop := YK r D M ∧ (∀ p, p < yP Y → M (r + 5) p = (yst Y (yN Y)).1 p ∧ M (r + 6) p = ybears Y (yN Y) p) ∧ YRows Y M r (yN Y) ∧ M r 4 = sumN (ygroan Y) (yN Y)
theorem yww_wait {Y : Mem} {k p : Nat} (hp : p < yP Y) : yww Y k (yord Y (yP Y)) (ynight Y k (yopen Y k (yst Y k).2.2) (yst Y k).1).2 p = ywait Y k p := by
  unfold yww ywait
  exact decide_eq_decide.mpr ⟨fun h => h.2, fun h => ⟨yord_mem.mpr hp, h⟩⟩
set_option maxHeartbeats 4000000 in
theorem sp_pass {Y D : Mem} {r : Nat} (hr : 20 ≤ r) (hY : YOK Y) (hC : YC Y D r) : wpo (f8_pass D r) (fun M => YOut Y D M r) := by
  have hP := hY.P
  have hN := hY.N
  have hroom := hY.2.1
  have hbirth := hY.2.2.2.1
  have htooth := hY.2.2.2.2.1
  have hteeth := hY.2.2.2.2.2.1
  have hnt := hY.2.2.2.2.2.2.2.1
  unfold f8_pass
  refine wp_then rfl (wp_then (sp_fillI (by decide)) (wp_then (sp_fillI (by decide)) ?_))
  have k0 : YK r D (mfill (mfill (mset D r 4 0) (r + 5) 8 (-1)) (r + 6) 8 0) := (YK.rf.set4.fill (by omega)).fill (by omega)
  refine wp_bind.mpr (wpo_mono (sp_putInOrder hr hY (hC.keep hr k0)) ?_)
  rintro M0 ⟨m1, m2, m3⟩
  have kM0 := k0.tr m1
  refine wp_bind.mpr ?_
  simp only [wp_some]
  refine wp_for (I := fun k s => s.1 = (yst Y k).2.1 ∧ s.2.1 = (yst Y k).2.2 ∧ s.2.2.1 = (k : Int) ∧ YK r D s.2.2.2 ∧ (∀ i, s.2.2.2 (r + 4) i = M0 (r + 4) i) ∧ (∀ p, p < yP Y → s.2.2.2 (r + 5) p = (yst Y k).1 p ∧ s.2.2.2 (r + 6) p = ybears Y k p) ∧ YRows Y s.2.2.2 r k ∧ s.2.2.2 r 4 = sumN (ygroan Y) k) (yN Y) ?_ ?_ FU 0 _ ⟨rfl, rfl, rfl, kM0, fun _ => rfl, fun p hp => ?_, fun n hn => absurd hn (Nat.not_lt_zero _), ?_⟩ (Nat.zero_le _) (by unfold FU; omega)
  · rintro k ⟨s1, s2, s3, M⟩ hk ⟨e1, e2, e3, e4, e5, e6, e7, e8⟩
    dsimp only at e1 e2 e3 e4 e5 e6 e7 e8 ⊢
    subst e3
    have hCM := hC.keep hr e4
    have q0 : M 12 1 = Y 0 0 := hCM.1.symm
    have q1 : M r 1 = Y 0 1 := hCM.2.1.symm
    have q3 : M r 3 = Y 0 3 := hCM.2.2.2.1.symm
    have q4 : M 12 3 = Y 0 4 := hCM.2.2.2.2.1.symm
    have q5 : M 12 4 = Y 0 5 := hCM.2.2.2.2.2.1.symm
    have ht1 : 1 ≤ Y 0 4 := by omega
    obtain ⟨bh, bc⟩ := yst_bd hY ht1 k
    refine wp_pos (by rw [q0]; exact (lt32 (by omega) (by omega)).mpr (by omega)) ?_
    refine wp_then (a := if yopen Y k (yst Y k).2.2 = true then 1 else 0) ?_ ?_
    · simp only [q3, q5, e2]
      unfold yopen
      by_cases c1 : Y 0 3 ≤ k
      · rw [if_neg (fun h => absurd ((lt32 (by omega) (by omega)).mp h) (by omega))]
        by_cases c2 : (yst Y k).2.2 < Y 0 5
        · rw [if_pos ((lt32 (by omega) (by omega)).mpr c2), if_pos (by simp [c1, c2])]
        · rw [if_neg (fun h => c2 ((lt32 (by omega) (by omega)).mp h)), if_neg (by simp [c2])]
      · rw [if_pos ((lt32 (by omega) (by omega)).mpr (by omega)), if_neg (by simp [c1])]
    have hgk : ∀ p, (yst Y k).1 p = -1 ∨ (0 ≤ (yst Y k).1 p ∧ (yst Y k).1 p < k ∧ Y 3 p ≤ (yst Y k).1 p ∧ p < yP Y) := fun p => yst_gives
    have hrow : RowL M (r + 4) (yord Y (yP Y)) := fun t x hx => (e5 t).trans (m3 t x hx)
    refine wp_bind.mpr (wpo_mono (sp_passNight (g := (yst Y k).1) hr hY hCM hrow (by omega) (fun p => by have := hgk p; omega) (fun p => by have := hgk p; omega) (fun p hp => (e6 p hp).1)) ?_)
    rintro M1 ⟨i1, i2, i3, i4, i5, i6, i7, i8, i9, i10, i11⟩
    have i10' : M1 (r + 9) k = yleft Y k := i10
    have kM1 := e4.tr i1
    have hCM1 := hC.keep hr kM1
    have w1 : M1 r 1 = Y 0 1 := hCM1.2.1.symm
    have w4 : M1 12 3 = Y 0 4 := hCM1.2.2.2.2.1.symm
    have w5 : M1 12 4 = Y 0 5 := hCM1.2.2.2.2.2.1.symm
    have hlb := yleft_bd hY (n := k)
    refine wp_pos (by omega) ?_
    refine wp_then (a := (yst Y k).2.1 + (Y 0 1 - yleft Y k)) (by rw [Int.toNat_natCast, e1, w1, i10']) ?_
    have hH : 0 ≤ (yst Y k).2.1 + (Y 0 1 - yleft Y k) ∧ (yst Y k).2.1 + (Y 0 1 - yleft Y k) ≤ 2080 := by omega
    have eH : (yst Y (k + 1)).2.1 = ((yst Y k).2.1 + (Y 0 1 - yleft Y k)) - min (((yst Y k).2.1 + (Y 0 1 - yleft Y k)) / Y 0 4) (Y 0 5 - (yst Y k).2.2) * Y 0 4 := rfl
    have eT : (yst Y (k + 1)).2.2 = (yst Y k).2.2 + min (((yst Y k).2.1 + (Y 0 1 - yleft Y k)) / Y 0 4) (Y 0 5 - (yst Y k).2.2) := rfl
    generalize (yst Y k).2.1 + (Y 0 1 - yleft Y k) = H at *
    have hd : div32 H (Y 0 4) = H / Y 0 4 := div32_id (by omega) (by omega)
    have hd0 : 0 ≤ H / Y 0 4 := Int.ediv_nonneg hH.1 (by omega)
    have hd1 : H / Y 0 4 ≤ H := Int.ediv_le_self _ hH.1
    refine wp_then (a := min (H / Y 0 4) (Y 0 5 - (yst Y k).2.2)) ?_ ?_
    · rw [w4, w5, e2, if_pos (by rw [w32_id (by omega)]; omega), if_pos (by rw [w32_id (by omega)]; omega), hd, min32_id (by omega) (by omega)]
    refine wp_then rfl (wp_then rfl (wp_then rfl (wpo_of ?_)))
    rw [Int.toNat_natCast, w4, ← eH, e2, ← eT]
    refine ⟨rfl, rfl, by dsimp only; omega, ((kM1.set (by omega)).set (by omega)).set4, fun i => ?_, fun p hp => ⟨?_, ?_⟩, fun n hn => ?_, ?_⟩
    · dsimp only
      rw [ms_ne (by omega), ms_ne (by omega), ms_ne (by omega), i3 i]
      exact e5 i
    · dsimp only
      rw [ms_ne (by omega), ms_ne (by omega), ms_ne (by omega)]
      exact i6 p hp
    · dsimp only
      rw [ms_ne (by omega), ms_ne (by omega), ms_ne (by omega), i7 p hp, (e6 p hp).2]
      have ew : yww Y k (yord Y (yP Y)) (ynight Y k (yopen Y k (yst Y k).2.2) (yst Y k).1).2 p = ywait Y k p := yww_wait hp
      rw [ew]
      rfl
    · dsimp only
      rw [ms_ne (by omega), ms_ne (by omega), ms_ne (by omega), ms_ne (by omega), ms_ne (by omega), ms_ne (by omega), ms_ne (by omega), ms_ne (by omega), ms_ne (by omega), ms_ne (by omega), ms_ne (by omega), ms_ne (by omega)]
      by_cases hnk : n = k
      · subst hnk
        have ew : ∀ p, p < yP Y → yww Y n (yord Y (yP Y)) (ynight Y n (yopen Y n (yst Y n).2.2) (yst Y n).1).2 p = ywait Y n p := fun p hp => yww_wait hp
        refine ⟨?_, ?_, i10', ?_, ?_, ?_⟩
        · exact i8
        · rw [i9, nset_congr ew]
        · rw [i11]
          exact sumN_congr (fun p hp => by rw [ew p hp])
        · rw [ms_ne (by omega), ms_ne (by omega), ms_same]
        · rw [ms_ne (by omega), ms_same]
      · obtain ⟨z1, z2, z3, z4, z5, z6⟩ := e7 n (by omega)
        rw [i4 (r + 7) n (by omega) hnk, i4 (r + 8) n (by omega) hnk, i4 (r + 9) n (by omega) hnk, i4 (r + 10) n (by omega) hnk]
        refine ⟨z1, z2, z3, z4, ?_, ?_⟩
        · rw [ms_ne (by omega), ms_ni hnk, ms_ni hnk, i4 (r + 11) n (by omega) hnk]
          exact z5
        · rw [ms_ne (by omega), ms_ni hnk, ms_ni hnk, i4 (r + 12) n (by omega) hnk]
          exact z6
    · dsimp only
      rw [ms_same, ms_ne (by omega), ms_ne (by omega), ms_ne (by omega), ms_ne (by omega), i2, e8, i11, sumN]
      congr 1
      refine sumN_congr (fun p hp => ?_)
      have ew : yww Y k (yord Y (yP Y)) (ynight Y k (yopen Y k (yst Y k).2.2) (yst Y k).1).2 p = ywait Y k p := yww_wait hp
      rw [ew]
  · rintro ⟨s1, s2, s3, M⟩ ⟨e1, e2, e3, e4, e5, e6, e7, e8⟩
    dsimp only at e1 e2 e3 e4 e5 e6 e7 e8 ⊢
    subst e3
    have q0 : M 12 1 = Y 0 0 := (hC.keep hr e4).1.symm
    refine wp_neg (by rw [q0]; exact fun hh => absurd ((lt32 (by omega) (by omega)).mp hh) (by omega)) ?_
    exact wpo_of ⟨e4, e6, e7, e8⟩
  · dsimp only
    rw [m2 (r + 5) p (by omega), m2 (r + 6) p (by omega), mf_ne (by omega), mf_same (by omega), mf_same (by omega)]
    exact ⟨rfl, rfl⟩
  · dsimp only
    rw [m2 r 4 (by omega), mf_ne (by omega), mf_ne (by omega), ms_same]
    rfl
