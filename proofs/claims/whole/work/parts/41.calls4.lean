/-! RULE, LATE (by hand) -/
theorem ymin_at {z : Int × Int} {a : Nat → Int} (h : a 0 < z.2) (n : Nat) : ∃ b : Nat, b ≤ n ∧ ymin z a (n + 1) = ((b : Int), a b) := by
  induction n with
  | zero => exact ⟨0, Nat.le_refl _, by simp [ymin, h]⟩
  | succ n ih =>
    obtain ⟨b, hb, e⟩ := ih
    have e2 : ymin z a (n + 1 + 1) = if a (n + 1) < (ymin z a (n + 1)).2 then (((n + 1 : Nat) : Int), a (n + 1)) else ymin z a (n + 1) := rfl
    rw [e2, e]
    by_cases c : a (n + 1) < a b
    · exact ⟨n + 1, Nat.le_refl _, by rw [if_pos c]⟩
    · exact ⟨b, by omega, by rw [if_neg c]⟩
set_option maxHeartbeats 1000000 in
theorem ag_rule {D : Mem} (hI : IC D) : AGi D (f9_rule D) (fun M => f10_rule M) := by
  refine ag_there_i hI (fun _ => ?_)
  have hab : ∀ k : Nat, k ≤ 3 → 0 ≤ yall (mset (yW (D 118)) 0 2 (k : Int)) ∧ yall (mset (yW (D 118)) 0 2 (k : Int)) ≤ 17280 := fun k hk => yall_bd (hI.1.yok.num (Or.inr (Or.inl ⟨rfl, by omega, by omega⟩)))
  have h0 := hab 0 (by omega)
  refine wp_bind.mpr (wpo_mono (P := fun r => r.1 = (ymin (0, 1000000) (fun k => yall (mset (yW (D 118)) 0 2 (k : Int))) 4).1 ∧ SK D r.2) ?_ ?_)
  · refine wp_for (I := fun k s => s.1 = (ymin (0, 1000000) (fun k => yall (mset (yW (D 118)) 0 2 (k : Int))) k).1 ∧ s.2.1 = (ymin (0, 1000000) (fun k => yall (mset (yW (D 118)) 0 2 (k : Int))) k).2 ∧ s.2.2.1 = (k : Int) ∧ SK D s.2.2.2) 4 ?_ ?_ FU 0 _ ⟨rfl, rfl, rfl, SK.rf⟩ (Nat.zero_le _) (by unfold FU; omega)
    · rintro k ⟨s1, s2, s3, M⟩ hk ⟨e1, e2, e3, e4⟩
      dsimp only at e1 e2 e3 e4 ⊢
      subst e3
      have hmb := ymin_bd (z := (0, 1000000)) (a := fun k => yall (mset (yW (D 118)) 0 2 (k : Int))) (n := k) (hi := 1000000) (by decide) (fun i hi => (hab i (by omega)).1)
      have hak := hab k (by omega)
      refine wp_pos ((lt32 (by omega) (by omega)).mpr (by omega)) ?_
      refine wp_bind.mpr (wpo_mono (sp_passBy hI e4 (v := (k : Int)) (by omega)) ?_)
      rintro M2 ⟨t2, y1, -⟩
      refine wp_then (a := ymin (0, 1000000) (fun k => yall (mset (yW (D 118)) 0 2 (k : Int))) (k + 1)) ?_ (wpo_of ⟨rfl, rfl, by dsimp only; omega, t2⟩)
      refine wp_is ?_
      rw [ymin, y1, e1, e2]
      by_cases c : yall (mset (yW (D 118)) 0 2 (k : Int)) < (ymin (0, 1000000) (fun k => yall (mset (yW (D 118)) 0 2 (k : Int))) k).2
      · exact wp_pos ((lt32 (by omega) (by omega)).mpr c) (wpo_of (by rw [if_pos c]))
      · exact wp_neg (fun z => c ((lt32 (by omega) (by omega)).mp z)) (wpo_of (by rw [if_neg c]))
    · rintro ⟨s1, s2, s3, M⟩ ⟨e1, e2, e3, e4⟩
      dsimp only at e1 e2 e3 e4 ⊢
      subst e3
      exact wp_neg (fun z => absurd ((lt32 (by omega) (by omega)).mp z) (by omega)) (wpo_of ⟨e1, e4⟩)
  · rintro r ⟨r1, r2⟩
    refine wpo_of ⟨r2, fun b hb => ?_⟩
    refine wp_bind.mpr (wpo_mono (P := fun r => r.1 = (ymin (0, 1000000) (fun k => yall (mset (yW (D 118)) 0 2 (k : Int))) 4).1 ∧ SK D r.2) ?_ (fun r' hr' => wpo_of ⟨by dsimp only; rw [r1, hr'.1], hr'.2⟩))
    have hy1 : (ymin (0, 1000000) (fun k => yall (mset (yW (D 118)) 0 2 (k : Int))) 1).1 = 0 := by
      obtain ⟨b0, hb0, e0⟩ := ymin_at (z := (0, 1000000)) (a := fun k => yall (mset (yW (D 118)) 0 2 (k : Int))) (by dsimp only; omega) 0
      rw [e0]
      show (b0 : Int) = 0
      omega
    refine wp_for (I := fun k s => 1 ≤ k ∧ s.1 = (ymin (0, 1000000) (fun k => yall (mset (yW (D 118)) 0 2 (k : Int))) k).1 ∧ s.2.1 = (k : Int) ∧ SK D s.2.2 ∧ ∃ u : Int, YM (mset (yW (D 118)) 0 2 u) s.2.2) 4 ?_ ?_ FU 1 _ ⟨Nat.le_refl _, hy1.symm, rfl, hb.1, yW (D 118) 0 2, by rw [ms_self]; exact hb.2.1⟩ (by decide) (by unfold FU; omega)
    · rintro k ⟨s1, s2, M⟩ hk ⟨k1, e1, e2, e4, u, hm⟩
      dsimp only at e1 e2 e4 hm ⊢
      subst e2
      obtain ⟨j, rfl⟩ : ∃ j, k = j + 1 := ⟨k - 1, by omega⟩
      obtain ⟨bb, hbb, eb⟩ := ymin_at (z := (0, 1000000)) (a := fun k => yall (mset (yW (D 118)) 0 2 (k : Int))) (by dsimp only; omega) j
      have en : ymin (0, 1000000) (fun k => yall (mset (yW (D 118)) 0 2 (k : Int))) (j + 1 + 1) = if yall (mset (yW (D 118)) 0 2 ((j + 1 : Nat) : Int)) < (ymin (0, 1000000) (fun k => yall (mset (yW (D 118)) 0 2 (k : Int))) (j + 1)).2 then (((j + 1 : Nat) : Int), yall (mset (yW (D 118)) 0 2 ((j + 1 : Nat) : Int))) else ymin (0, 1000000) (fun k => yall (mset (yW (D 118)) 0 2 (k : Int))) (j + 1) := rfl
      rw [eb] at e1 en
      dsimp only at e1 en
      have ha1 := hab (j + 1) (by omega)
      have ha2 := hab bb (by omega)
      refine wp_pos ((lt32 (by omega) (by omega)).mpr (by omega)) ?_
      refine wp_bind.mpr (wpo_mono (sp_byRule hI e4 hm (v := ((j + 1 : Nat) : Int)) (by omega)) ?_)
      rintro c2 ⟨z1, z2, z3⟩
      rw [e1]
      refine wp_bind.mpr (wpo_mono (sp_byRule hI z2 z3 (v := (bb : Int)) (by omega)) ?_)
      rintro c3 ⟨w1, w2, w3⟩
      refine wp_then (a := (ymin (0, 1000000) (fun k => yall (mset (yW (D 118)) 0 2 (k : Int))) (j + 1 + 1)).1) ?_ (wpo_of ⟨by omega, rfl, by dsimp only; omega, w2, (bb : Int), w3⟩)
      refine wp_is ?_
      rw [en, z1, w1]
      by_cases c : yall (mset (yW (D 118)) 0 2 ((j + 1 : Nat) : Int)) < yall (mset (yW (D 118)) 0 2 (bb : Int))
      · exact wp_pos ((lt32 (by omega) (by omega)).mpr c) (wpo_of (by rw [if_pos c]))
      · exact wp_neg (fun z => c ((lt32 (by omega) (by omega)).mp z)) (wpo_of (by rw [if_neg c]))
    · rintro ⟨s1, s2, M⟩ ⟨k1, e1, e2, e4, -⟩
      dsimp only at e1 e2 e4 ⊢
      subst e2
      exact wp_neg (fun z => absurd ((lt32 (by omega) (by omega)).mp z) (by omega)) (wpo_of ⟨e1, e4⟩)
theorem sp_passBorn {D M : Mem} {v : Int} (hI : IC D) (hs : SK D M) (hv : 0 ≤ v ∧ v ≤ 100) : wpo (f9_passBorn M v) (fun M2 => SK D M2 ∧ Y36 (mset (yW (D 118)) 0 3 v) M2) := by
  unfold f9_passBorn
  refine wp_bind.mpr (wpo_mono (sp_prep36 hI hs) ?_)
  rintro M1 ⟨s1, c1⟩
  refine wp_then rfl ?_
  exact wp_bind.mpr (wpo_mono (sp_pass36 (D := D) (s1.set (by unfold scr; omega)) (hI.1.yok.num (Or.inr (Or.inr ⟨rfl, hv⟩))) (YC.num (by decide) c1 v (by omega))) (fun M2 h2 => wpo_of h2))
theorem sp_lateBy {D M : Mem} {u v : Int} (hI : IC D) (hs : SK D M) (hm : YM (mset (yW (D 118)) 0 3 u) M) (hv : 0 ≤ v ∧ v ≤ 100) : wpo (f10_lateBy M v) (fun c => c.1 = yall (mset (yW (D 118)) 0 3 v) ∧ SK D c.2 ∧ YM (mset (yW (D 118)) 0 3 v) c.2) := by
  have hY := hI.1.yok.num (i := 3) (v := v) (Or.inr (Or.inr ⟨rfl, hv⟩))
  have h1 := hm.born v
  rw [ms_ms] at h1
  unfold f10_lateBy
  refine wp_then rfl ?_
  refine wp_bind.mpr (wpo_mono (sp_go (D := D) (hs.set (by unfold scr; omega)) hY h1 (teeth_num hI (by omega))) ?_)
  rintro M3 ⟨s3, m3⟩
  exact wp_then (sp_bearsAll hY m3) (wpo_of ⟨rfl, s3, m3.1⟩)
/-- the reference tells the year as it is, from any memory of this invariant -/
theorem sp_asIt {D M : Mem} (hI : IC D) (hs : SK D M) : wpo (f10_asItIs M) (fun M1 => SK D M1 ∧ YM (yW (D 118)) M1 ∧ M1 117 21 = -1) := by
  have hM := hI.sk hs
  refine wpo_mono (sp_asItIs hM.1) (fun M1 h => ?_)
  have hy := h.ym hM.1
  rw [hs.w] at hy
  exact ⟨hs.tr h.1.sk, hy, h.2.2.2.2.1⟩
theorem ag_late {D : Mem} {x : Int} (hI : IC D) (hx : A32 x) : AGi D (f9_late D x) (fun M => f10_late M x) := by
  have hb := hI.1.bd
  have e1 := hI.e1
  have hx' := hx
  unfold A32 at hx'
  unfold AGi f9_late
  refine wp_then (sp_isNightC (by omega) hx) ?_
  rw [e1]
  have ref : ∀ M, SK D M → wpo (f10_late M x) (fun b => (if 0 ≤ x ∧ x < D 118 0 then b.1 = yall (mset (yW (D 118)) 0 3 x) else b.1 = -2) ∧ SK D b.2) := by
    intro M hs
    unfold f10_late
    refine wp_bind.mpr (wpo_mono (sp_asIt hI hs) ?_)
    rintro M1 ⟨s1, y1, -⟩
    rw [w32_id hx']
    refine wp_then (sp_isNightM (by rw [s1.w]; omega) (by omega)) ?_
    rw [s1.w]
    by_cases c : 0 ≤ x ∧ x < D 118 0
    · refine wp_neg (by rw [if_pos c]; decide) ?_
      have hm : YM (mset (yW (D 118)) 0 3 (yW (D 118) 0 3)) M1 := by
        rw [ms_self]
        exact y1
      refine wp_bind.mpr (wpo_mono (sp_lateBy hI s1 hm (v := x) (by omega)) ?_)
      rintro c2 ⟨z1, z2, -⟩
      refine wpo_of ⟨?_, z2⟩
      rw [if_pos c]
      exact z1
    · refine wp_pos (by rw [if_neg c]; decide) (wpo_of ⟨?_, s1⟩)
      rw [if_neg c]
  by_cases c : 0 ≤ x ∧ x < D 118 0
  · refine wp_neg (by rw [if_pos c]; decide) ?_
    refine wp_bind.mpr (wpo_mono (sp_passBorn hI SK.rf (v := x) (by omega)) ?_)
    rintro M2 ⟨s2, y1, -⟩
    refine wpo_of (wpo_mono (ref M2 s2) ?_)
    rintro b ⟨b1, b2⟩
    rw [if_pos c] at b1
    exact ⟨by rw [b1, y1], b2⟩
  · refine wp_pos (by rw [if_neg c]; decide) (wpo_of (wpo_mono (ref D SK.rf) ?_))
    rintro b ⟨b1, b2⟩
    rw [if_neg c] at b1
    exact ⟨by rw [b1], b2⟩
