/-! ACHE, COMES, ANEW, WIDEN (by hand) -/
theorem NewP.of {D R N : Mem} {W : Nat → Int} (hW : WOK W) (r2 : ∀ c i, (c < 12 ∨ (19 < c ∧ c < 23) ∨ (35 < c ∧ c ≠ 49 ∧ c ≠ 58 ∧ c ≠ 64)) → R c i = D c i) (r3 : PR R 12 W) (r4 : NowOK (yW W) R) (r5 : R 49 1 = 0) (r6 : R 58 1 = 0) (r7 : R 64 1 = 0) (h118 : N 118 = W) (hk : ∀ c i, ¬ scr c i → c ≠ 118 → N c i = R c i) : NewP D N := by
  refine ⟨fun c i h => ?_, ?_, ?_, ?_, ?_⟩
  · have h1 := kp_ne h
    rw [hk c i (by unfold kp at h; unfold scr; omega) (by omega)]
    exact r2 c i (by omega)
  · unfold IC
    rw [h118]
    exact ⟨hW, r3.congr (fun c i h1 h2 => hk c i (by unfold scr; omega) (by omega)), r4.congr (fun c i h1 h2 => hk c i (by unfold scr; omega) (by omega))⟩
  · rw [hk 49 1 (by unfold scr; omega) (by decide)]
    exact r5
  · rw [hk 58 1 (by unfold scr; omega) (by decide)]
    exact r6
  · rw [hk 64 1 (by unfold scr; omega) (by decide)]
    exact r7
/-- the reference keeps an act -/
theorem sp_keepAct {M : Mem} {a w : Int} (hW : WOK (M 118)) (h30 : M 118 8 < 30) : f10_keepAct M a w = some (w, mset (mset M 118 (42 + M 118 8).toNat a) 118 8 (M 118 8 + 1)) := by
  have hb := hW.bd
  refine wp_is ?_
  unfold f10_keepAct
  refine wp_neg (fun z => ?_) (wp_pos (by omega) (wp_then rfl (wpo_of ?_)))
  · have := (eq32 (by omega) (by omega)).mp z
    omega
  · rw [ms_ni (show 8 ≠ (42 + M 118 8).toNat by omega)]
theorem ag_ache {D : Mem} {x y : Int} (hI : IC D) (hx : A32 x) (hy : A32 y) : AGn D (f9_ache D x y) (fun M => f10_ache M x y) := by
  have hb := hI.1.bd
  have hA := hI.1.A
  have h1 := hI.1.1
  have e9 : D 12 9 = D 118 8 := hI.2.1.1.2.2.2.2.2.2.2.2.2
  have hx' := hx
  have hy' := hy
  unfold A32 at hx' hy'
  have hin : ∀ M : Mem, f10_in M (w32 y) 1 20 = some (if 1 ≤ y ∧ y ≤ 20 then 1 else 0) := fun M => by
    rw [w32_id hy']
    exact sp_in (by omega) (by omega) (by omega)
  have ref : ¬ ((0 ≤ x ∧ x < D 118 7) ∧ (1 ≤ y ∧ y ≤ 20)) → wpo (f10_ache D x y) (fun b => w32 (-2) = w32 b.1 ∧ (SK D b.2 ∨ NewP D b.2)) := by
    intro hn
    unfold f10_ache
    refine wp_bind.mpr (wpo_mono (sp_asIt hI SK.rf) ?_)
    rintro M1 ⟨s1, -, -⟩
    refine wp_then (sp_person10 hI s1 hx) ?_
    by_cases c : 0 ≤ x ∧ x < D 118 7
    · exact wp_neg (fun z => if01.mp z c) (wp_then (hin _) (wp_pos (if01.mpr (fun z => hn ⟨c, z⟩)) (wpo_of ⟨rfl, Or.inl s1⟩)))
    · exact wp_pos (if01.mpr c) (wpo_of ⟨rfl, Or.inl s1⟩)
  unfold AGn f9_ache
  refine wp_then (sp_person9 hI hx) ?_
  by_cases c : 0 ≤ x ∧ x < D 118 7
  · refine wp_neg (fun z => if01.mp z c) ?_
    by_cases c1 : y < 1
    · exact wp_pos ((lt32 hy' (by omega)).mpr c1) (wpo_of (ref (fun z => by omega)))
    · refine wp_neg (fun z => c1 ((lt32 hy' (by omega)).mp z)) ?_
      by_cases c2 : 20 < y
      · exact wp_pos ((lt32 (by omega) hy').mpr c2) (wpo_of (ref (fun z => by omega)))
      · refine wp_neg (fun z => c2 ((lt32 (by omega) hy').mp z)) ?_
        obtain ⟨p, rfl⟩ : ∃ p : Nat, x = (p : Int) := ⟨x.toNat, by omega⟩
        by_cases c3 : D 118 8 < 30
        · refine wp_bind.mpr (wpo_mono (sp_act (w := 0) (v := y) (a := 100 * (p : Int) + y) hI c3 (by omega) c.2 (Or.inl ⟨rfl, rfl, by omega, by omega⟩)) ?_)
          rintro ⟨r1, R⟩ ⟨rfl, r2, r3, r4, r5, r6, r7⟩
          dsimp only at r2 r3 r4 r5 r6 r7 ⊢
          refine wpo_of ?_
          have h118 : R 118 = D 118 := funext (fun i => r2 118 i (by omega))
          unfold f10_ache
          refine wp_bind.mpr (wpo_mono (sp_asItIs (D := R) (by rw [h118]; exact hI.1)) ?_)
          intro M1 hM1
          have w1 : M1 118 = D 118 := (funext (fun i => hM1.1 118 i (by omega) (by omega))).trans h118
          have v1 := (hM1.2.1 p (by omega)).1
          rw [h118] at v1
          refine wp_then (sx_person10 hI w1 hx) (wp_neg (fun z => if01.mp z c) (wp_then (hin _) (wp_neg (fun z => if01.mp z (by omega)) (wp_pos (by omega) ?_))))
          refine wp_then (sp_keepAct (by rw [w1]; exact hI.1) (by rw [w1]; exact c3)) (wpo_of ⟨?_, Or.inr (NewP.of (wAct_ok hI.1 c3 (by omega) (p := p) (v := y) c.2 (Or.inl ⟨rfl, by omega, by omega⟩)) r2 r3 r4 r5 r6 r7 ?_ (fun c' i a b => ?_))⟩)
          · dsimp only
            rw [Int.toNat_natCast, v1, if_pos rfl]
          · dsimp only
            rw [wAct_set (by rw [w1]; exact hI.1), w1]
          · dsimp only
            rw [ms_ne b, ms_ne b]
            exact hM1.1 c' i (by unfold scr at a; omega) (by unfold scr at a; omega)
        · refine wp_then (a := ((-5 : Int), D)) ?_ (wpo_of ?_)
          · unfold f9_act
            rw [if_neg (by rw [e9]; exact fun z => c3 ((lt32 (by omega) (by omega)).mp z))]
          · unfold f10_ache
            refine wp_bind.mpr (wpo_mono (sp_asIt hI SK.rf) ?_)
            rintro M1 ⟨s1, -, -⟩
            have hk : ∀ a w, f10_keepAct M1 a w = some ((-5), M1) := fun a w => by
              unfold f10_keepAct
              rw [if_pos (by rw [s1.w]; exact congrArg w32 (by omega))]
            exact wp_then (sp_person10 hI s1 hx) (wp_neg (fun z => if01.mp z c) (wp_then (hin _) (wp_neg (fun z => if01.mp z (by omega)) (wp_pos (by omega) (wp_then (hk _ _) (wpo_of ⟨rfl, Or.inl s1⟩))))))
  · exact wp_pos (if01.mpr c) (wpo_of (ref (fun z => c z.1)))
theorem ag_comes {D : Mem} {x y : Int} (hI : IC D) (hx : A32 x) (hy : A32 y) : AGn D (f9_comes D x y) (fun M => f10_comes M x y) := by
  have hb := hI.1.bd
  have hA := hI.1.A
  have h1 := hI.1.1
  have e9 : D 12 9 = D 118 8 := hI.2.1.1.2.2.2.2.2.2.2.2.2
  have hx' := hx
  have hy' := hy
  unfold A32 at hx' hy'
  have hin : ∀ M : Mem, f10_in M (w32 y) 0 11 = some (if 0 ≤ y ∧ y ≤ 11 then 1 else 0) := fun M => by
    rw [w32_id hy']
    exact sp_in (by omega) (by omega) (by omega)
  have ref : ¬ ((0 ≤ x ∧ x < D 118 7) ∧ (0 ≤ y ∧ y ≤ 11)) → wpo (f10_comes D x y) (fun b => w32 (-2) = w32 b.1 ∧ (SK D b.2 ∨ NewP D b.2)) := by
    intro hn
    unfold f10_comes
    refine wp_bind.mpr (wpo_mono (sp_asIt hI SK.rf) ?_)
    rintro M1 ⟨s1, -, -⟩
    refine wp_then (sp_person10 hI s1 hx) ?_
    by_cases c : 0 ≤ x ∧ x < D 118 7
    · exact wp_neg (fun z => if01.mp z c) (wp_then (hin _) (wp_pos (if01.mpr (fun z => hn ⟨c, z⟩)) (wpo_of ⟨rfl, Or.inl s1⟩)))
    · exact wp_pos (if01.mpr c) (wpo_of ⟨rfl, Or.inl s1⟩)
  unfold AGn f9_comes
  refine wp_then (sp_person9 hI hx) ?_
  by_cases c : 0 ≤ x ∧ x < D 118 7
  · refine wp_neg (fun z => if01.mp z c) ?_
    by_cases c1 : y < 0
    · exact wp_pos (by rw [w32_id hy']; exact c1) (wpo_of (ref (fun z => by omega)))
    · refine wp_neg (by rw [w32_id hy']; exact c1) ?_
      by_cases c2 : 11 < y
      · exact wp_pos ((lt32 (by omega) hy').mpr c2) (wpo_of (ref (fun z => by omega)))
      · refine wp_neg (fun z => c2 ((lt32 (by omega) hy').mp z)) ?_
        obtain ⟨p, rfl⟩ : ∃ p : Nat, x = (p : Int) := ⟨x.toNat, by omega⟩
        by_cases c3 : D 118 8 < 30
        · refine wp_bind.mpr (wpo_mono (sp_act (w := 1) (v := y) (a := 1000 + 100 * (p : Int) + y) hI c3 (by omega) c.2 (Or.inr ⟨rfl, rfl, by omega, by omega⟩)) ?_)
          rintro ⟨r1, R⟩ ⟨rfl, r2, r3, r4, r5, r6, r7⟩
          dsimp only at r2 r3 r4 r5 r6 r7 ⊢
          refine wpo_of ?_
          have h118 : R 118 = D 118 := funext (fun i => r2 118 i (by omega))
          unfold f10_comes
          refine wp_bind.mpr (wpo_mono (sp_asItIs (D := R) (by rw [h118]; exact hI.1)) ?_)
          intro M1 hM1
          have w1 : M1 118 = D 118 := (funext (fun i => hM1.1 118 i (by omega) (by omega))).trans h118
          have v1 := (hM1.2.1 p (by omega)).2.1
          rw [h118] at v1
          refine wp_then (sx_person10 hI w1 hx) (wp_neg (fun z => if01.mp z c) (wp_then (hin _) (wp_neg (fun z => if01.mp z (by omega)) (wp_pos (by omega) ?_))))
          refine wp_then (sp_keepAct (by rw [w1]; exact hI.1) (by rw [w1]; exact c3)) (wpo_of ⟨?_, Or.inr (NewP.of (wAct_ok hI.1 c3 (by omega) (p := p) (v := y) c.2 (Or.inr ⟨rfl, by omega, by omega⟩)) r2 r3 r4 r5 r6 r7 ?_ (fun c' i a b => ?_))⟩)
          · dsimp only
            rw [Int.toNat_natCast, v1, if_neg (by decide)]
          · dsimp only
            rw [wAct_set (by rw [w1]; exact hI.1), w1]
          · dsimp only
            rw [ms_ne b, ms_ne b]
            exact hM1.1 c' i (by unfold scr at a; omega) (by unfold scr at a; omega)
        · refine wp_then (a := ((-5 : Int), D)) ?_ (wpo_of ?_)
          · unfold f9_act
            rw [if_neg (by rw [e9]; exact fun z => c3 ((lt32 (by omega) (by omega)).mp z))]
          · unfold f10_comes
            refine wp_bind.mpr (wpo_mono (sp_asIt hI SK.rf) ?_)
            rintro M1 ⟨s1, -, -⟩
            have hk : ∀ a w, f10_keepAct M1 a w = some ((-5), M1) := fun a w => by
              unfold f10_keepAct
              rw [if_pos (by rw [s1.w]; exact congrArg w32 (by omega))]
            exact wp_then (sp_person10 hI s1 hx) (wp_neg (fun z => if01.mp z c) (wp_then (hin _) (wp_neg (fun z => if01.mp z (by omega)) (wp_pos (by omega) (wp_then (hk _ _) (wpo_of ⟨rfl, Or.inl s1⟩))))))
  · exact wp_pos (if01.mpr c) (wpo_of (ref (fun z => c z.1)))
theorem ag_anew {D : Mem} (hI : IC D) : AGn D (f9_anew D) (fun M => f10_anew M) := by
  have hb := hI.1.bd
  have hA := hI.1.A
  have e9 : D 12 9 = D 118 8 := hI.2.1.1.2.2.2.2.2.2.2.2.2
  unfold AGn f9_anew f10_anew
  refine wp_then (sp_there9 hI) ?_
  by_cases c : 0 < D 118 9
  · refine wp_neg (fun z => if01.mp z c) ?_
    have hp0 : PR D 12 (wTo (D 118) (wA (D 118))) := by
      rw [wTo_self hI.1]
      exact hI.2.1
    refine wp_bind.mpr (wpo_mono (P := fun B => (∀ c i, (c < 12 ∨ 14 < c) → B c i = D c i) ∧ PR B 12 (wTo (D 118) 0)) ?_ ?_)
    · refine wp_for (I := fun k t => t.1 = (k : Int) ∧ (∀ c i, (c < 12 ∨ 14 < c) → t.2 c i = D c i) ∧ PR t.2 12 (wTo (D 118) (wA (D 118) - k))) (wA (D 118)) ?_ ?_ FU 0 _ ⟨rfl, fun _ _ _ => rfl, hp0⟩ (Nat.zero_le _) (by unfold FU; omega)
      · rintro k ⟨t1, N⟩ hk ⟨e1, e2, e3⟩
        dsimp only at e1 e2 e3 ⊢
        subst e1
        obtain ⟨j, hj⟩ : ∃ j, wA (D 118) - k = j + 1 := ⟨wA (D 118) - k - 1, by omega⟩
        have hj2 : wA (D 118) - (k + 1) = j := by omega
        rw [hj] at e3
        refine wp_pos (by rw [e9]; exact (lt32 (by omega) (by omega)).mpr (by omega)) ?_
        refine wp_bind.mpr (wpo_mono (sp_takeBack hI.1 (by omega) e3) ?_)
        rintro M1 ⟨k1, k2⟩
        refine wpo_of ⟨by dsimp only; omega, fun c i h => (k1 c i h).trans (e2 c i h), ?_⟩
        rw [hj2]
        exact k2
      · rintro ⟨t1, N⟩ ⟨e1, e2, e3⟩
        dsimp only at e1 e2 e3 ⊢
        subst e1
        rw [Nat.sub_self] at e3
        exact wp_neg (by rw [e9]; exact fun z => absurd ((lt32 (by omega) (by omega)).mp z) (by omega)) (wpo_of ⟨e2, e3⟩)
    · rintro B ⟨b1, b2⟩
      have hW' := wTo_ok hI.1 (j := 0) (by omega)
      refine wp_bind.mpr (wpo_mono (sp_changed hW' b2) ?_)
      rintro M ⟨m1, m2, m3, m4, m5⟩
      refine wpo_of ?_
      have r2 : ∀ c i, (c < 12 ∨ (19 < c ∧ c < 23) ∨ (35 < c ∧ c ≠ 49 ∧ c ≠ 58 ∧ c ≠ 64)) → M c i = D c i := fun c i h => by
        rw [m1 c i (by omega) (by omega)]
        exact b1 c i (by omega)
      have h118 : M 118 = D 118 := funext (fun i => r2 118 i (by omega))
      refine wp_then (sx_there10 hI h118) (wp_neg (fun z => if01.mp z c) (wpo_of ⟨?_, Or.inr (NewP.of hW' r2 (b2.congr (fun c i h1 h2 => m1 c i (by omega) (by omega))) m2 m3 m4 m5 ?_ (fun c' i a b => ms_ne b))⟩))
      · show w32 (D 12 9) = w32 (M 118 8)
        rw [e9, h118]
      · show mset M 118 8 0 118 = wTo (D 118) 0
        rw [wTo_set (v := 0) (j := 0) rfl, h118]
  · exact wp_pos (if01.mpr c) (wpo_of (wp_then (sp_there10 hI SK.rf) (wp_pos (if01.mpr c) (wpo_of ⟨rfl, Or.inl SK.rf⟩))))
def wRoom (W : Nat → Int) (v : Int) : Nat → Int := fun i => if i = 1 then v else W i
theorem ag_widen {D : Mem} {x : Int} (hI : IC D) (hx : A32 x) : AGn D (f9_widen D x) (fun M => f10_widen M x) := by
  have hb := hI.1.bd
  have hA := hI.1.A
  have e9 : D 12 9 = D 118 8 := hI.2.1.1.2.2.2.2.2.2.2.2.2
  have e2 : D 12 2 = D 118 1 := hI.2.1.1.2.2.1
  have hx' := hx
  unfold A32 at hx'
  have hin : ∀ M : Mem, f10_in M (w32 x) 1 60 = some (if 1 ≤ x ∧ x ≤ 60 then 1 else 0) := fun M => by
    rw [w32_id hx']
    exact sp_in (by omega) (by omega) (by omega)
  unfold AGn f9_widen f10_widen
  refine wp_then (sp_there9 hI) ?_
  by_cases c : 0 < D 118 9
  · refine wp_neg (fun z => if01.mp z c) ?_
    by_cases c1 : 1 ≤ x ∧ x ≤ 60
    · refine wp_neg (fun z => absurd ((lt32 hx' (by omega)).mp z) (by omega)) (wp_neg (fun z => absurd ((lt32 (by omega) hx').mp z) (by omega)) ?_)
      by_cases c2 : 0 < D 118 8
      · refine wp_pos (by rw [e9, w32_id (by omega)]; exact c2) (wpo_of ?_)
        refine wp_then (sp_there10 hI SK.rf) (wp_neg (fun z => if01.mp z c) (wp_then (hin _) (wp_neg (fun z => if01.mp z c1) (wp_pos ?_ (wpo_of ⟨rfl, Or.inl SK.rf⟩)))))
        show 0 < w32 (D 118 8)
        rw [w32_id (by omega)]
        exact c2
      · refine wp_neg (by rw [e9, w32_id (by omega)]; exact c2) (wp_then rfl ?_)
        have e : ∀ i, i ≠ 1 → wRoom (D 118) x i = D 118 i := fun i hi => by
          unfold wRoom
          rw [if_neg hi]
        have e1 : wRoom (D 118) x 1 = x := by
          unfold wRoom
          rw [if_pos rfl]
        have eA : wA (wRoom (D 118) x) = wA (D 118) := by
          unfold wA
          rw [e 8 (by decide)]
        have hW' : WOK (wRoom (D 118) x) := by
          obtain ⟨h1, h2, h3⟩ := hI.1
          refine ⟨?_, fun p hp => ?_, fun i hi => ?_⟩
          · rw [e 9 (by decide), e 0 (by decide), e1, e 2 (by decide), e 3 (by decide), e 4 (by decide), e 5 (by decide), e 6 (by decide), e 7 (by decide), e 8 (by decide)]
            omega
          · rw [e 7 (by decide)] at hp
            rw [e _ (by omega), e _ (by omega), e _ (by omega), e _ (by omega)]
            exact h2 p hp
          · rw [e 8 (by decide)] at hi
            omega
        have hP' : PR (mset D 12 2 x) 12 (wRoom (D 118) x) := by
          obtain ⟨⟨a0, a1, a2, a3, a4, a5, a6, a7, a8, a9⟩, h2, h3⟩ := hI.2.1
          refine ⟨?_, fun p hp => ?_, fun i hi => ?_⟩
          · rw [e 9 (by decide), e 0 (by decide), e1, e 2 (by decide), e 3 (by decide), e 4 (by decide), e 5 (by decide), e 6 (by decide), e 7 (by decide), e 8 (by decide), ms_ni (by decide), ms_ni (by decide), ms_same, ms_ni (by decide), ms_ni (by decide), ms_ni (by decide), ms_ni (by decide), ms_ni (by decide), ms_ni (by decide), ms_ni (by decide)]
            exact ⟨a0, a1, rfl, a3, a4, a5, a6, a7, a8, a9⟩
          · rw [e 7 (by decide)] at hp
            have hac : wAche (wRoom (D 118) x) (wA (D 118)) p = wAche (D 118) (wA (D 118)) p := wAche_congr (e _ (by omega)) _ (fun j _ => e _ (by omega))
            have hfr : wFrom (wRoom (D 118) x) (wA (D 118)) p = wFrom (D 118) (wA (D 118)) p := wFrom_congr (e _ (by omega)) _ (fun j _ => e _ (by omega))
            rw [eA, hac, hfr, e _ (by omega), e _ (by omega), ms_ne (by decide), ms_ne (by decide), ms_ne (by decide), ms_ne (by decide)]
            exact h2 p hp
          · rw [e 8 (by decide)] at hi
            omega
        refine wp_bind.mpr (wpo_mono (sp_changed hW' hP') ?_)
        rintro M ⟨m1, m2, m3, m4, m5⟩
        refine wpo_of ?_
        have r2 : ∀ c i, (c < 12 ∨ (19 < c ∧ c < 23) ∨ (35 < c ∧ c ≠ 49 ∧ c ≠ 58 ∧ c ≠ 64)) → M c i = D c i := fun c i h => by
          rw [m1 c i (by omega) (by omega), ms_ne (by omega)]
        have h118 : M 118 = D 118 := funext (fun i => r2 118 i (by omega))
        refine wp_then (sx_there10 hI h118) (wp_neg (fun z => if01.mp z c) (wp_then (hin _) (wp_neg (fun z => if01.mp z c1) (wp_neg ?_ (wpo_of ⟨?_, Or.inr (NewP.of hW' r2 (hP'.congr (fun c i h1 h2 => m1 c i (by omega) (by omega))) m2 m3 m4 m5 ?_ (fun c' i a b => ms_ne b))⟩)))))
        · show ¬ 0 < w32 (M 118 8)
          rw [h118, w32_id (by omega)]
          exact c2
        · show w32 (D 12 2) = w32 (M 118 1)
          rw [e2, h118]
        · show mset M 118 1 x 118 = wRoom (D 118) x
          funext i
          rw [← h118]
          simp only [mset, wRoom, true_and]
    · have href : wpo (Option.bind (f10_isParish D) fun (a1 : Int) => if w32 a1 = 0 then some ((-2), D) else Option.bind (f10_in D (w32 x) 1 60) fun (a2 : Int) => if w32 a2 = 0 then some ((-2), D) else if 0 < w32 (D 118 8) then some ((-5), D) else some ((D 118 1), (mset D 118 1 x))) (fun b => w32 (-2) = w32 b.1 ∧ (SK D b.2 ∨ NewP D b.2)) :=
        wp_then (sp_there10 hI SK.rf) (wp_neg (fun z => if01.mp z c) (wp_then (hin _) (wp_pos (if01.mpr c1) (wpo_of ⟨rfl, Or.inl SK.rf⟩))))
      by_cases c2 : x < 1
      · exact wp_pos ((lt32 hx' (by omega)).mpr c2) (wpo_of href)
      · exact wp_neg (fun z => c2 ((lt32 hx' (by omega)).mp z)) (wp_pos ((lt32 (by omega) hx').mpr (by omega)) (wpo_of href))
  · exact wp_pos (if01.mpr c) (wpo_of (wp_then (sp_there10 hI SK.rf) (wp_pos (if01.mpr c) (wpo_of ⟨rfl, Or.inl SK.rf⟩))))
