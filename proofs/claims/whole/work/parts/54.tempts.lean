/-! TEMPTS (by hand) -/
def yTem (Y : Mem) (u : Int) (p : Nat) : Bool := (List.range 21).any fun j => decide (1 ≤ j ∧ ybears (yGr Y u p j) (yN Y) p < ybears (yGr Y u p 0) (yN Y) p)
theorem yTem_is {Y : Mem} {u v : Int} {p : Nat} (h : First 21 (Gr Y u p) v) : (-1 ≤ v ∧ v ≤ 20) ∧ (v = -1 ↔ yTem Y u p = false) := by
  unfold yTem
  rcases h with ⟨h1, h2⟩ | ⟨m, h1, h2, h3, -⟩
  · refine ⟨by omega, fun _ => ?_, fun _ => h1⟩
    refine List.any_eq_false.mpr (fun j hj hd => ?_)
    have hd2 : 1 ≤ j ∧ ybears (yGr Y u p j) (yN Y) p < ybears (yGr Y u p 0) (yN Y) p := of_decide_eq_true hd
    exact h2 j (List.mem_range.mp hj) hd2
  · refine ⟨by omega, fun h => by omega, fun h => ?_⟩
    have := List.any_eq_false.mp h m (List.mem_range.mpr h1)
    have h4 : 1 ≤ m ∧ ybears (yGr Y u p m) (yN Y) p < ybears (yGr Y u p 0) (yN Y) p := h3
    exact absurd (decide_eq_true h4) this
theorem sp_tempted {D M : Mem} {u : Int} (hI : IC D) (hs : SK D M) (hu : 0 ≤ u ∧ u ≤ 3) : wpo (f9_tempted M u) (fun r => r.1 = ((nset (yTem (yW (D 118)) u) (yP (yW (D 118))) : Nat) : Int) ∧ SK D r.2) := by
  have hP := hI.P
  unfold f9_tempted
  refine wp_bind.mpr (wpo_mono (P := fun r => r.1 = ((nset (yTem (yW (D 118)) u) (yP (yW (D 118))) : Nat) : Int) ∧ SK D r.2) ?_ (fun r hr => wpo_of hr))
  refine wp_for (I := fun k s => s.1 = ((nset (yTem (yW (D 118)) u) k : Nat) : Int) ∧ s.2.1 = (k : Int) ∧ SK D s.2.2) (yP (yW (D 118))) ?_ ?_ FU 0 _ ⟨rfl, rfl, hs⟩ (Nat.zero_le _) (by unfold FU; omega)
  · rintro k ⟨s1, s2, N⟩ hk ⟨e1, e2, e3⟩
    dsimp only at e1 e2 e3 ⊢
    subst e2
    have e8 : N 12 8 = D 118 7 := (e3.keep (Or.inl (by decide)) 8).trans hI.e8
    refine wp_pos (by rw [e8]; exact (lt32 (by omega) (by omega)).mpr (by omega)) ?_
    refine wp_bind.mpr (wpo_mono (sp_leastGroanC hI e3 hk hu) ?_)
    rintro r ⟨r1, r2⟩
    obtain ⟨vb, vi⟩ := yTem_is r1
    refine wp_then (a := ((nset (yTem (yW (D 118)) u) (k + 1) : Nat) : Int)) ?_ (wpo_of ⟨rfl, by dsimp only; omega, r2⟩)
    rw [← or_next2 (by omega), e1]
    refine wp_is ?_
    by_cases c : r.1 = -1
    · exact wp_pos (by rw [c]) (wpo_of (by rw [if_neg (by rw [vi.mp c]; decide)]))
    · refine wp_neg (fun z => c ((eq32 (by omega) (by omega)).mp z)) (wpo_of ?_)
      rw [if_pos]
      cases ht : yTem (yW (D 118)) u k with
      | true => rfl
      | false => exact absurd (vi.mpr ht) c
  · rintro ⟨s1, s2, N⟩ ⟨e1, e2, e3⟩
    dsimp only at e1 e2 e3 ⊢
    subst e2
    have e8 : N 12 8 = D 118 7 := (e3.keep (Or.inl (by decide)) 8).trans hI.e8
    exact wp_neg (by rw [e8]; exact fun z => absurd ((lt32 (by omega) (by omega)).mp z) (by omega)) (wpo_of ⟨e1, e3⟩)
theorem sp_temptsBy {D M : Mem} {t u : Int} (hI : IC D) (hs : SK D M) (hm : YM (mset (yW (D 118)) 0 2 t) M) (hu : 0 ≤ u ∧ u ≤ 3) : wpo (f10_temptsBy M u) (fun r => r.1 = ((nset (yTem (yW (D 118)) u) (yP (yW (D 118))) : Nat) : Int) ∧ SK D r.2 ∧ YM (mset (yW (D 118)) 0 2 u) r.2) := by
  have hP := hI.P
  have h1 := hm.rule u
  rw [ms_ms] at h1
  unfold f10_temptsBy
  refine wp_then rfl ?_
  refine wp_bind.mpr (wpo_mono (P := fun r => r.1 = ((nset (yTem (yW (D 118)) u) (yP (yW (D 118))) : Nat) : Int) ∧ SK D r.2 ∧ YM (mset (yW (D 118)) 0 2 u) r.2) ?_ (fun r hr => wpo_of hr))
  refine wp_for (I := fun k s => s.1 = ((nset (yTem (yW (D 118)) u) k : Nat) : Int) ∧ s.2.1 = (k : Int) ∧ SK D s.2.2 ∧ YM (mset (yW (D 118)) 0 2 u) s.2.2) (yP (yW (D 118))) ?_ ?_ FU 0 _ ⟨rfl, rfl, hs.set (by unfold scr; omega), h1⟩ (Nat.zero_le _) (by unfold FU; omega)
  · rintro k ⟨s1, s2, N⟩ hk ⟨e1, e2, e3, e4⟩
    dsimp only at e1 e2 e3 e4 ⊢
    subst e2
    refine wp_pos (by rw [e3.w]; exact (lt32 (by omega) (by omega)).mpr (by omega)) ?_
    refine wp_bind.mpr (wpo_mono (sp_groanByM hI e3 hk hu (by rw [yGr_zero]; exact e4)) ?_)
    rintro r ⟨r1, r2, r3⟩
    rw [yGr_zero] at r3
    obtain ⟨vb, vi⟩ := yTem_is r1
    refine wp_then (a := if yTem (yW (D 118)) u k = true then shl32 1 (k : Int) else 0) ?_ (wpo_of ⟨?_, by dsimp only; omega, r2, r3⟩)
    · refine wp_is ?_
      by_cases c : r.1 = -1
      · exact wp_pos (by rw [c]) (wpo_of (by rw [if_neg (by rw [vi.mp c]; decide)]))
      · refine wp_neg (fun z => c ((eq32 (by omega) (by omega)).mp z)) (wpo_of ?_)
        rw [if_pos]
        cases ht : yTem (yW (D 118)) u k with
        | true => rfl
        | false => exact absurd (vi.mpr ht) c
    · dsimp only
      rw [e1, or_next (by omega)]
  · rintro ⟨s1, s2, N⟩ ⟨e1, e2, e3, e4⟩
    dsimp only at e1 e2 e3 e4 ⊢
    subst e2
    exact wp_neg (by rw [e3.w]; exact fun z => absurd ((lt32 (by omega) (by omega)).mp z) (by omega)) (wpo_of ⟨e1, e3, e4⟩)
theorem ag_tempts {D : Mem} {x : Int} (hI : IC D) (hx : A32 x) : AGi D (f9_tempts D x) (fun M => f10_tempts M x) := by
  refine ag_there_i hI (fun _ => ?_)
  refine wp_then (sp_isRuleC hx) ?_
  by_cases c : 0 ≤ x ∧ x ≤ 3
  · refine wp_neg (by rw [if_pos c]; decide) ?_
    refine wp_bind.mpr (wpo_mono (sp_tempted hI SK.rf c) ?_)
    rintro r ⟨r1, r2⟩
    refine wpo_of ⟨r2, fun b hb => ?_⟩
    refine wp_then (sp_isRuleM hx) (wp_neg (by rw [if_pos c]; decide) ?_)
    have hm : YM (mset (yW (D 118)) 0 2 (yW (D 118) 0 2)) b.2 := by
      rw [ms_self]
      exact hb.2.1
    refine wp_bind.mpr (wpo_mono (sp_temptsBy hI hb.1 hm c) ?_)
    rintro c3 ⟨z1, z2, -⟩
    refine wpo_of ⟨?_, z2⟩
    dsimp only
    rw [z1, r1]
  · refine wp_pos (by rw [if_neg c]; decide) (wpo_of ⟨SK.rf, fun b hb => ?_⟩)
    exact wp_then (sp_isRuleM hx) (wp_pos (by rw [if_neg c]; decide) (wpo_of ⟨rfl, hb.1⟩))
