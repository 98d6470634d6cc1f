/-! BY, SUITS, BLOCKS (by hand) -/
theorem ms_ms {D : Mem} {c i : Nat} {v w : Int} : mset (mset D c i v) c i w = mset D c i w := by
  funext c' i'
  simp only [mset]
  split <;> rfl
theorem ng_of {Y M : Mem} (h : YM Y M) (h3 : ∀ q, q < yP Y → Y 3 q ≤ 99) : NG Y M := by
  intro q hq e
  have a3 := (h.2.2.2.2.2.2.2.2 q hq).2.2.1
  rw [if_pos e] at a3
  have := h3 q hq
  omega
theorem yW_from {D : Mem} (hI : IC D) {q : Nat} (hq : q < yP (yW (D 118))) : 0 ≤ yW (D 118) 3 q ∧ yW (D 118) 3 q ≤ 11 := by
  have hp7 : (q : Int) < D 118 7 := by rw [yP_W] at hq; omega
  have hA := hI.1.A
  exact wFrom_bd hI.1 hp7 (i := wA (D 118)) (by omega)
theorem sp_isRuleC {D : Mem} {x : Int} (hx : A32 x) : f9_isRule D x = some (if 0 ≤ x ∧ x ≤ 3 then 1 else 0) := by
  unfold A32 at hx
  refine wp_is ?_
  unfold f9_isRule
  by_cases c1 : x < 0
  · exact wp_pos (by rw [w32_id hx]; exact c1) (wpo_of (by rw [if_neg (by omega)]))
  · refine wp_neg (by rw [w32_id hx]; exact c1) ?_
    by_cases c2 : x < 4
    · exact wp_pos ((lt32 hx (by omega)).mpr c2) (wpo_of (by rw [if_pos (by omega)]))
    · exact wp_neg (fun z => c2 ((lt32 hx (by omega)).mp z)) (wpo_of (by rw [if_neg (by omega)]))
theorem sp_isRuleM {D : Mem} {x : Int} (hx : A32 x) : f10_isRule D x = some (if 0 ≤ x ∧ x ≤ 3 then 1 else 0) := by
  unfold A32 at hx
  refine wp_is ?_
  unfold f10_isRule
  rw [w32_id hx]
  refine wp_then (sp_in (by omega) (by omega) (by omega)) ?_
  exact wp_pos (by split <;> omega) (wpo_of rfl)
theorem teeth_num {D : Mem} (hI : IC D) {i : Nat} {v : Int} (hi : i = 1 ∨ i = 2 ∨ i = 3) : mset (yW (D 118)) 0 i v 0 0 = 0 ∨ 1 ≤ mset (yW (D 118)) 0 i v 0 5 := by
  rw [ms_ni (by omega), ms_ni (by omega)]
  exact hI.1.teeth
theorem teeth_per {D : Mem} (hI : IC D) {k q : Nat} {v : Int} (hk : k ≠ 0) : mset (yW (D 118)) k q v 0 0 = 0 ∨ 1 ≤ mset (yW (D 118)) k q v 0 5 := by
  rw [ms_ne (fun e => hk e.symm), ms_ne (fun e => hk e.symm)]
  exact hI.1.teeth
theorem sp_passBy {D M : Mem} {v : Int} (hI : IC D) (hs : SK D M) (hv : 0 ≤ v ∧ v ≤ 3) : wpo (f9_passBy M v) (fun M2 => SK D M2 ∧ Y36 (mset (yW (D 118)) 0 2 v) M2) := by
  unfold f9_passBy
  refine wp_bind.mpr (wpo_mono (sp_prep36 hI hs) ?_)
  rintro M1 ⟨s1, c1⟩
  refine wp_then rfl ?_
  exact wp_bind.mpr (wpo_mono (sp_pass36 (D := D) (s1.set (by unfold scr; omega)) (hI.1.yok.num (Or.inr (Or.inl ⟨rfl, hv⟩))) (YC.num (by decide) c1 v (by omega))) (fun M2 h2 => wpo_of h2))
theorem sp_byRule {D M : Mem} {u v : Int} (hI : IC D) (hs : SK D M) (hm : YM (mset (yW (D 118)) 0 2 u) M) (hv : 0 ≤ v ∧ v ≤ 3) : wpo (f10_byRule M v) (fun c => c.1 = yall (mset (yW (D 118)) 0 2 v) ∧ SK D c.2 ∧ YM (mset (yW (D 118)) 0 2 v) c.2) := by
  have hY := hI.1.yok.num (i := 2) (v := v) (Or.inr (Or.inl ⟨rfl, hv⟩))
  have h1 := hm.rule v
  rw [ms_ms] at h1
  unfold f10_byRule
  refine wp_then rfl ?_
  refine wp_bind.mpr (wpo_mono (sp_go (D := D) (hs.set (by unfold scr; omega)) hY h1 (teeth_num hI (by omega))) ?_)
  rintro M3 ⟨s3, m3⟩
  exact wp_then (sp_bearsAll hY m3) (wpo_of ⟨rfl, s3, m3.1⟩)
theorem ms_self {D : Mem} {c i : Nat} : mset D c i (D c i) = D := mset_same rfl
theorem ag_by {D : Mem} {x : Int} (hI : IC D) (hx : A32 x) : AGi D (f9_by D x) (fun M => f10_by M x) := by
  refine ag_there_i hI (fun _ => ?_)
  refine wp_then (sp_isRuleC hx) ?_
  by_cases c : 0 ≤ x ∧ x ≤ 3
  · refine wp_neg (by rw [if_pos c]; decide) ?_
    refine wp_bind.mpr (wpo_mono (sp_passBy hI SK.rf c) ?_)
    rintro M2 ⟨s2, y1, y2⟩
    refine wpo_of ⟨s2, fun b hb => ?_⟩
    refine wp_then (sp_isRuleM hx) (wp_neg (by rw [if_pos c]; decide) ?_)
    have hm : YM (mset (yW (D 118)) 0 2 (yW (D 118) 0 2)) b.2 := by
      rw [ms_self]
      exact hb.2.1
    refine wp_bind.mpr (wpo_mono (sp_byRule hI hb.1 hm c) ?_)
    rintro c3 ⟨z1, z2, -⟩
    refine wpo_of ⟨?_, z2⟩
    dsimp only
    rw [z1, y1]
  · refine wp_pos (by rw [if_neg c]; decide) (wpo_of ⟨SK.rf, fun b hb => ?_⟩)
    refine wp_then (sp_isRuleM hx) (wp_pos (by rw [if_neg c]; decide) (wpo_of ⟨rfl, hb.1⟩))
def ymin (z : Int × Int) (a : Nat → Int) : Nat → Int × Int
  | 0 => z
  | k + 1 => if a k < (ymin z a k).2 then ((k : Int), a k) else ymin z a k
theorem ymin_bd {z : Int × Int} {a : Nat → Int} {n : Nat} {hi : Int} (hz : 0 ≤ z.2 ∧ z.2 ≤ hi) (h : ∀ i, i < n → 0 ≤ a i) : 0 ≤ (ymin z a n).2 ∧ (ymin z a n).2 ≤ hi := by
  induction n with
  | zero => exact hz
  | succ n ih =>
    have h1 := ih (fun i hi => h i (Nat.lt_succ_of_lt hi))
    have h2 := h n (Nat.lt_succ_self n)
    rw [ymin]
    split
    · rename_i c
      dsimp only
      omega
    · exact h1
theorem ymin_alike {z z' : Int × Int} {a : Nat → Int} (h : a 0 < z.2) (h' : a 0 < z'.2) (n : Nat) : ymin z a (n + 1) = ymin z' a (n + 1) := by
  induction n with
  | zero => simp [ymin, h, h']
  | succ n ih =>
    have e : ∀ z : Int × Int, ymin z a (n + 1 + 1) = if a (n + 1) < (ymin z a (n + 1)).2 then (((n + 1 : Nat) : Int), a (n + 1)) else ymin z a (n + 1) := fun z => rfl
    rw [e, e, ih]
theorem ag_suits {D : Mem} {x : Int} (hI : IC D) (hx : A32 x) : AGi D (f9_suits D x) (fun M => f10_suits M x) := by
  refine ag_person_i hI hx (fun p e hp => ?_)
  subst e
  have h8 := hI.person hp
  have hYk : ∀ k : Nat, k ≤ 11 → YOK (mset (yW (D 118)) 3 p (k : Int)) := fun k hk => hI.1.yok.per (Or.inl ⟨rfl, by omega, by omega⟩)
  have hab : ∀ k : Nat, k ≤ 11 → 0 ≤ yall (mset (yW (D 118)) 3 p (k : Int)) ∧ yall (mset (yW (D 118)) 3 p (k : Int)) ≤ 17280 := fun k hk => yall_bd (hYk k hk)
  refine wp_bind.mpr (wpo_mono (P := fun r => r.1 = (ymin (0, 1000000) (fun k => yall (mset (yW (D 118)) 3 p (k : Int))) 12).1 ∧ SK D r.2) ?_ ?_)
  · refine wp_for (I := fun k s => s.1 = (ymin (0, 1000000) (fun k => yall (mset (yW (D 118)) 3 p (k : Int))) k).1 ∧ s.2.1 = (ymin (0, 1000000) (fun k => yall (mset (yW (D 118)) 3 p (k : Int))) k).2 ∧ s.2.2.1 = (k : Int) ∧ SK D s.2.2.2) 12 ?_ ?_ FU 0 _ ⟨rfl, rfl, rfl, SK.rf⟩ (Nat.zero_le _) (by unfold FU; omega)
    · rintro k ⟨s1, s2, s3, M⟩ hk ⟨e1, e2, e3, e4⟩
      dsimp only at e1 e2 e3 e4 ⊢
      subst e3
      have hmb := ymin_bd (z := (0, 1000000)) (a := fun k => yall (mset (yW (D 118)) 3 p (k : Int))) (n := k) (hi := 1000000) (by decide) (fun i hi => (hab i (by omega)).1)
      have hak := hab k (by omega)
      refine wp_neg (fun z => absurd ((lt32 (by omega) (by omega)).mp z) (by omega)) ?_
      refine wp_bind.mpr (wpo_mono (sp_prep36 hI e4) ?_)
      rintro M1 ⟨t1, c1⟩
      refine wp_pos (by omega) (wp_then rfl ?_)
      rw [Int.toNat_natCast]
      refine wp_bind.mpr (wpo_mono (sp_pass36 (D := D) (t1.set (by unfold scr; omega)) (hYk k (by omega)) (YC.per (j := 2) (by decide) c1 (Or.inr (Or.inl ⟨rfl, rfl⟩)))) ?_)
      rintro M2 ⟨t2, y1, -⟩
      refine wp_then (a := ymin (0, 1000000) (fun k => yall (mset (yW (D 118)) 3 p (k : Int))) (k + 1)) ?_ (wpo_of ⟨rfl, rfl, by dsimp only; omega, t2⟩)
      refine wp_is ?_
      rw [ymin, y1, e1, e2]
      by_cases c : yall (mset (yW (D 118)) 3 p (k : Int)) < (ymin (0, 1000000) (fun k => yall (mset (yW (D 118)) 3 p (k : Int))) k).2
      · exact wp_pos ((lt32 (by omega) (by omega)).mpr c) (wpo_of (by rw [if_pos c]))
      · exact wp_neg (fun z => c ((lt32 (by omega) (by omega)).mp z)) (wpo_of (by rw [if_neg c]))
    · rintro ⟨s1, s2, s3, M⟩ ⟨e1, e2, e3, e4⟩
      dsimp only at e1 e2 e3 e4 ⊢
      subst e3
      exact wp_pos ((lt32 (by omega) (by omega)).mpr (by omega)) (wpo_of ⟨e1, e4⟩)
  · rintro r ⟨r1, r2⟩
    refine wpo_of ⟨r2, fun b hb => ?_⟩
    refine wp_bind.mpr (wpo_mono (P := fun r => r.1 = (ymin (-1, 1000000000) (fun k => yall (mset (yW (D 118)) 3 p (k : Int))) 12).1 ∧ SK D r.2) ?_ ?_)
    · refine wp_for (I := fun k s => s.1 = (ymin (-1, 1000000000) (fun k => yall (mset (yW (D 118)) 3 p (k : Int))) k).1 ∧ s.2.1 = (ymin (-1, 1000000000) (fun k => yall (mset (yW (D 118)) 3 p (k : Int))) k).2 ∧ s.2.2.1 = (k : Int) ∧ SK D s.2.2.2 ∧ ∃ u : Int, u ≤ 11 ∧ YM (mset (yW (D 118)) 3 p u) s.2.2.2) 12 ?_ ?_ FU 0 _ ⟨rfl, rfl, rfl, hb.1, yW (D 118) 3 p, (yW_from hI hp).2, by rw [ms_self]; exact hb.2.1⟩ (Nat.zero_le _) (by unfold FU; omega)
      · rintro k ⟨s1, s2, s3, M⟩ hk ⟨e1, e2, e3, e4, u, hu, hm⟩
        dsimp only at e1 e2 e3 e4 hm ⊢
        subst e3
        have hmb := ymin_bd (z := (-1, 1000000000)) (a := fun k => yall (mset (yW (D 118)) 3 p (k : Int))) (n := k) (hi := 1000000000) (by decide) (fun i hi => (hab i (by omega)).1)
        have hak := hab k (by omega)
        refine wp_pos ((lt32 (by omega) (by omega)).mpr (by omega)) (wp_pos (by omega) (wp_then rfl ?_))
        rw [Int.toNat_natCast]
        have hng : NG (mset (yW (D 118)) 3 p u) M := ng_of hm (fun q hq => by
          rw [yP_set (by omega)] at hq
          have := yW_from hI hq
          rw [ms_at]
          split <;> omega)
        have hm2 := hm.from_ hng (q := p) (v := (k : Int)) (by rw [yP_set (by omega)]; exact hp) (by omega)
        rw [ms_ms] at hm2
        refine wp_bind.mpr (wpo_mono (sp_go (D := D) (e4.set (by unfold scr; omega)) (hYk k (by omega)) hm2 (teeth_per hI (by decide))) ?_)
        rintro M3 ⟨t3, m3⟩
        have hba := sp_bearsAll (hYk k (by omega)) m3
        refine wp_then hba ?_
        refine wp_then (a := ymin (-1, 1000000000) (fun k => yall (mset (yW (D 118)) 3 p (k : Int))) (k + 1)) ?_ (wpo_of ⟨rfl, rfl, by dsimp only; omega, t3, (k : Int), by omega, m3.1⟩)
        refine wp_is ?_
        rw [ymin, e1, e2]
        by_cases c : yall (mset (yW (D 118)) 3 p (k : Int)) < (ymin (-1, 1000000000) (fun k => yall (mset (yW (D 118)) 3 p (k : Int))) k).2
        · exact wp_pos ((lt32 (by omega) (by omega)).mpr c) (wp_then hba (wpo_of (by rw [if_pos c])))
        · exact wp_neg (fun z => c ((lt32 (by omega) (by omega)).mp z)) (wpo_of (by rw [if_neg c]))
      · rintro ⟨s1, s2, s3, M⟩ ⟨e1, e2, e3, e4, -⟩
        dsimp only at e1 e2 e3 e4 ⊢
        subst e3
        exact wp_neg (fun z => absurd ((lt32 (by omega) (by omega)).mp z) (by omega)) (wpo_of ⟨e1, e4⟩)
    · rintro r' ⟨q1, q2⟩
      have h0 := hab 0 (by omega)
      refine wpo_of ⟨?_, q2⟩
      dsimp only
      rw [r1, q1, ymin_alike (z := (0, 1000000)) (z' := (-1, 1000000000)) (by dsimp only; omega) (by dsimp only; omega) 11]
