/-! WHOSE ACHE WAS KEPT BACK: the suspects on both sides (by hand) -/
def yS (D : Mem) (w : Nat) : Mem := if w < 8 then mset (yW (D 118)) 3 w 100 else yW (D 118)
def sC (D : Mem) (w n : Nat) : Int := (yst (yS D w) (n + 1)).2.2
def sB (D : Mem) (s w : Nat) : Nat → Bool
  | 0 => true
  | k + 1 => sB D s w k && decide (sC D w (slN D s (2 * k)).toNat = slN D s (2 * k + 1))
def sF (D : Mem) (s L w : Nat) : Bool := decide ((w < yP (yW (D 118)) ∨ w = 8) ∧ sB D s w L = true)
theorem yS_P {D : Mem} {w : Nat} : yP (yS D w) = yP (yW (D 118)) := by
  unfold yS
  split
  · exact yP_set (by omega)
  · rfl
theorem yS_N {D : Mem} {w : Nat} : yN (yS D w) = yN (yW (D 118)) := by
  unfold yS
  split
  · exact yN_set (by omega)
  · rfl
theorem yS_ok {D : Mem} (hI : IC D) {w : Nat} : YOK (yS D w) := by
  unfold yS
  split
  · exact hI.1.yok.per (Or.inl ⟨rfl, by decide, by decide⟩)
  · exact hI.1.yok
theorem yS_teeth {D : Mem} (hI : IC D) {w : Nat} : yS D w 0 0 = 0 ∨ 1 ≤ yS D w 0 5 := by
  unfold yS
  split
  · exact teeth_per hI (by decide)
  · exact hI.1.teeth
theorem yS_4 {D : Mem} {w : Nat} : yS D w 0 4 = D 118 2 ∧ yS D w 0 5 = D 118 3 := by
  unfold yS
  split
  · exact ⟨rfl, rfl⟩
  · exact ⟨rfl, rfl⟩
theorem sC_bd {D : Mem} (hI : IC D) (h9 : 0 < D 118 9) {w n : Nat} : 0 ≤ sC D w n ∧ sC D w n ≤ 20 := by
  have h1 := hI.1.1
  have h4 := yS_4 (D := D) (w := w)
  have h := (yst_bd (yS_ok hI (w := w)) (by omega) (n + 1)).2
  have h5 := (yS_ok hI (w := w)).2.2.2.2.2.1
  unfold sC
  omega
/-- the class's cells of which a suspicion says nothing -/
def QF (M M' : Mem) : Prop := (∀ c i, (c < 67 ∨ 82 < c) → M' c i = M c i) ∧ ∀ i, i ≠ 2 → M' 67 i = M 67 i
theorem QF.sk {D M : Mem} (h : QF D M) : SK D M := fun c i a => h.1 c i (by unfold scr at a; omega)
theorem sp_suspect {D M : Mem} {s L w : Nat} (hI : IC D) (hS : IS D) (hG : GT D s L) (hs : SK D M) (hw : w < yP (yW (D 118)) ∨ w = 8) : wpo (f6_suspect M (109 + 2 * s) (w : Int)) (fun M' => QF M M' ∧ (∀ n, n < yN (yW (D 118)) → M' 68 (12 * w + n) = sC D w n) ∧ (∀ j, j < 12 * w → M' 68 j = M 68 j) ∧ M' 67 2 = (if sB D s w L = true then or32 (M 67 2) (shl32 1 (w : Int)) else M 67 2)) := by
  have hM := hI.sk hs
  have hP := hI.P
  have hN := hI.N
  obtain ⟨g1, g2, g3, g4, g5, g6, g7⟩ := hG
  unfold f6_suspect
  refine wp_bind.mpr (wpo_mono (sp_prepare (r := 70) (by decide)) ?_)
  intro M1 k1
  have c1 : YC (yW (D 118)) M1 70 := by
    rw [← hs.w]
    exact k1.yc (by decide) hM.1 hM.2.1
  refine wp_bind.mpr (wpo_mono (P := fun J => YF 70 M J ∧ YC (yS D w) J 70) ?_ ?_)
  · by_cases c : w = 8
    · refine wp_pos (by rw [c]; rfl) (wpo_of ⟨k1.1, ?_⟩)
      unfold yS
      rw [if_neg (by omega)]
      exact c1
    · refine wp_neg (fun z => c (by have := (eq32 (by omega) (by omega)).mp z; omega)) (wp_pos (by omega) (wpo_of ?_))
      rw [Int.toNat_natCast]
      refine ⟨fun c i h => ?_, ?_⟩
      · rw [ms_ne (by omega)]
        exact k1.1 c i h
      · unfold yS
        rw [if_pos (by omega)]
        exact YC.per (j := 2) (by decide) c1 (Or.inr (Or.inl ⟨rfl, rfl⟩))
  · rintro J ⟨j1, j2⟩
    refine wp_bind.mpr (wpo_mono (sp_pass (r := 70) (by decide) (yS_ok hI) j2) ?_)
    rintro M2 ⟨k2, -, k3, -⟩
    have f2 : ∀ c i, (c < 70 ∨ 82 < c) → M2 c i = M c i := fun c i h => by
      rw [k2.1 c i (by omega)]
      exact j1 c i (by omega)
    have f82 : ∀ n, n < yN (yW (D 118)) → M2 82 n = sC D w n := fun n hn => (k3 n (by rw [yS_N]; exact hn)).2.2.2.2.2
    have et : ((w : Int) * 12).toNat = 12 * w := by omega
    refine wp_pos (by omega) (wp_then rfl ?_)
    rw [et]
    have d68 : ∀ c i, c ≠ 68 → mcpy M2 82 0 68 (12 * w) 12 c i = M2 c i := fun c i h => congrFun (mcpy_ne h) i
    have dl : mcpy M2 82 0 68 (12 * w) 12 (109 + 2 * s) 2 = 2 * (L : Int) := by
      rw [d68 _ _ (by omega), f2 _ _ (by omega), hs.keep (by omega), g6]
    have dn : ∀ i, i < 60 → mcpy M2 82 0 68 (12 * w) 12 (109 + 2 * s + 1) i = slN D s i := fun i hi => by
      rw [d68 _ _ (by omega), f2 _ _ (by omega), hs.keep (by omega)]
      exact (slN_bd hS g1 hi).1
    refine wp_bind.mpr (wpo_mono (P := fun v => v = (if sB D s w L = true then 1 else 0)) ?_ ?_)
    · refine wp_for (I := fun k t => t = ((if sB D s w k = true then 1 else 0), 2 * (k : Int))) L ?_ ?_ FU 0 _ rfl (Nat.zero_le _) (by unfold FU; omega)
      · rintro k t hk rfl
        dsimp only
        have hv := g7 k hk
        unfold VT at hv
        have e1 : (2 * (k : Int)).toNat = 2 * k := by omega
        have e2 : (2 * (k : Int) + 1).toNat = 2 * k + 1 := by omega
        refine wp_pos (by rw [dl]; exact (lt32 (by omega) (by omega)).mpr (by omega)) ?_
        refine wp_then (a := if sB D s w (k + 1) = true then 1 else 0) ?_ (wpo_of ?_)
        · refine wp_is ?_
          rw [sB]
          by_cases cb : sB D s w k = true
          · rw [if_pos cb, cb, Bool.true_and]
            refine wp_neg (by decide) (wp_pos (by omega) ?_)
            rw [e1, e2, dn _ (by omega), dn _ (by omega)]
            refine wp_pos (by omega) (wp_pos (by omega) ?_)
            have hsc := sC_bd hI g2 (w := w) (n := (slN D s (2 * k)).toNat)
            rw [d68 _ _ (by decide), f82 _ (by omega), w32_id (by omega)]
            by_cases cc : sC D w (slN D s (2 * k)).toNat = slN D s (2 * k + 1)
            · exact wp_pos (by rw [cc]) (wpo_of (by rw [if_pos (decide_eq_true cc)]))
            · refine wp_neg (fun z => cc ?_) (wpo_of (by rw [if_neg (by simp only [decide_eq_true_eq]; exact cc)]))
              rw [w64_id (by omega), w64_id (by omega)] at z
              exact z
          · rw [if_neg cb]
            refine wp_pos (by decide) (wpo_of ?_)
            rw [if_neg (by simp [cb])]
        · show (_, _) = (_, _)
          congr 1
      · rintro t rfl
        dsimp only
        exact wp_neg (by rw [dl]; exact fun z => absurd ((lt32 (by omega) (by omega)).mp z) (by omega)) (wpo_of rfl)
    · rintro v rfl
      have q68 : (∀ n, n < yN (yW (D 118)) → mcpy M2 82 0 68 (12 * w) 12 68 (12 * w + n) = sC D w n) ∧ (∀ j, j < 12 * w → mcpy M2 82 0 68 (12 * w) 12 68 j = M 68 j) := by
        refine ⟨fun n hn => ?_, fun j hj => ?_⟩
        · simp only [mcpy]
          rw [if_pos ⟨trivial, by omega, by omega⟩]
          have e : 0 + (12 * w + n - 12 * w) = n := by omega
          rw [e]
          exact f82 n hn
        · simp only [mcpy]
          rw [if_neg (by omega)]
          exact f2 68 j (by omega)
      have qf : ∀ c i, c ≠ 68 → (c < 70 ∨ 82 < c) → mcpy M2 82 0 68 (12 * w) 12 c i = M c i := fun c i h h' => by
        rw [d68 c i h]
        exact f2 c i h'
      by_cases cb : sB D s w L = true
      · rw [if_pos cb, if_pos cb]
        refine wp_neg (by decide) (wpo_of ⟨⟨fun c i h => ?_, fun i h => ?_⟩, fun n hn => ?_, fun j hj => ?_, ?_⟩)
        · rw [ms_ne (by omega)]
          exact qf c i (by omega) (by omega)
        · rw [ms_ni h]
          exact qf 67 i (by omega) (by omega)
        · rw [ms_ne (by omega)]
          exact q68.1 n hn
        · rw [ms_ne (by omega)]
          exact q68.2 j hj
        · rw [ms_same, qf 67 2 (by omega) (by omega)]
      · rw [if_neg cb, if_neg cb]
        exact wp_pos (by decide) (wpo_of ⟨⟨fun c i h => qf c i (by omega) (by omega), fun i h => qf 67 i (by omega) (by omega)⟩, q68.1, q68.2, qf 67 2 (by omega) (by omega)⟩)
/-- the reference: nobody gone yet, or whoever was gone is back -/
def RM (D M : Mem) : Prop := YM (yW (D 118)) (mset M 117 21 (-1))
theorem RM.ng {D M : Mem} (_ : RM D M) : NG (yW (D 118)) (mset M 117 21 (-1)) := by
  intro p _ e
  rw [ms_same] at e
  omega
theorem RM.gone {D M : Mem} (hI : IC D) (h : RM D M) {w : Nat} (hw : w < yP (yW (D 118)) ∨ w = 8) : YM (yS D w) (mset M 117 21 (w : Int)) := by
  have hP := hI.P
  unfold yS
  by_cases c : w < 8
  · rw [if_pos c]
    have h2 := YM.gone h h.ng (q := w) (by omega) (by omega)
    rw [ms_ms] at h2
    exact h2
  · rw [if_neg c]
    obtain ⟨h0, h1, h2, h3, h4, h5, h6, hg, h7⟩ := h
    have e : ∀ i, i ≠ 21 → mset M 117 21 (w : Int) 117 i = mset M 117 21 (-1) 117 i := fun i hi => by rw [ms_ni hi, ms_ni hi]
    have f : ∀ c i, c ≠ 117 → mset M 117 21 (w : Int) c i = mset M 117 21 (-1) c i := fun c i hc => by rw [ms_ne hc, ms_ne hc]
    refine ⟨?_, ?_, ?_, ?_, ?_, ?_, ?_, ?_, fun p hp => ?_⟩
    · rw [f _ _ (by decide)]; exact h0
    · rw [e _ (by decide)]; exact h1
    · rw [e _ (by decide)]; exact h2
    · rw [e _ (by decide)]; exact h3
    · rw [f _ _ (by decide)]; exact h4
    · rw [f _ _ (by decide)]; exact h5
    · rw [f _ _ (by decide)]; exact h6
    · rw [ms_same]; omega
    · obtain ⟨a1, a2, a3, a4, a5, a6⟩ := h7 p hp
      rw [f 124 p (by decide), f 118 _ (by decide), f 125 p (by decide), f 126 p (by decide), f 127 p (by decide), ms_same, if_neg (by omega)]
      rw [ms_same, if_neg (by omega)] at a3
      exact ⟨a1, a2, a3, a4, a5, a6⟩
theorem RM.keep {D M M' : Mem} (h : RM D M) (k : ∀ c i, (c < 128 ∨ 131 < c) → (c ≠ 117 ∨ (i ≠ 27 ∧ i ≠ 21)) → c ≠ 140 → M' c i = M c i) : RM D M' := by
  have hk : MK (mset M 117 21 (-1)) (mset (fun c i => if c = 140 then M c i else M' c i) 117 21 (-1)) := by
    intro c i a b
    by_cases e : c = 117 ∧ i = 21
    · rw [e.1, e.2, ms_same, ms_same]
    · rw [ms_at, ms_at, if_neg e, if_neg e]
      by_cases c140 : c = 140
      · rw [if_pos c140]
      · rw [if_neg c140]
        exact k c i a (by omega) c140
  refine (YM.keep h hk).congr (fun c i hc => ?_)
  by_cases e : c = 117 ∧ i = 21
  · rw [e.1, e.2, ms_same, ms_same]
  · rw [ms_at, ms_at, if_neg e, if_neg e, if_neg (by omega)]
set_option maxHeartbeats 1000000 in
/-- the reference lays whose ache may have been kept back -/
theorem sp_layWhose {D M : Mem} {s L : Nat} (hI : IC D) (hS : IS D) (hG : GT D s L) (hs : SK D M) : wpo (f10_layWhose M (s : Int)) (fun r => r.1 = ((nset (sF D s L) 9 : Nat) : Int) ∧ SK D r.2 ∧ ∀ w, w < 9 → (w < yP (yW (D 118)) ∨ w = 8) → ∀ n, n < yN (yW (D 118)) → r.2 140 (12 * w + n) = sC D w n) := by
  have hP := hI.P
  have hN := hI.N
  have hbd := hI.1.bd
  obtain ⟨g1, g2, g3, g4, g5, g6, g7⟩ := hG
  have hn : ∀ N : Mem, SK D N → f10_nights N = some (D 118 0) := fun N h => by
    show some (N 118 0) = _
    rw [h.w]
  have e143 : ∀ N : Mem, SK D N → N 143 s = 2 * (L : Int) := fun N h => by rw [h.keep (c := 143) (by omega), g5]
  unfold f10_layWhose
  refine wp_then (sp_slot10 (by unfold A32; omega)) (wp_neg (fun z => if01.mp z (by omega)) (wp_then (sp_there10 hI hs) (wp_neg (fun z => if01.mp z g2) (wp_pos (by omega) ?_))))
  rw [Int.toNat_natCast]
  refine wp_neg (by rw [e143 M hs]; exact fun q => absurd ((eq32 (by omega) (by omega)).mp q) (by omega)) ?_
  refine wp_pos (by rw [e143 M hs]; exact (sp_two (M := D) (n := 2 * L) (by omega)).mpr (by omega)) ?_
  refine wp_bind.mpr (wpo_mono (P := fun z => z = Sum.inl ()) ?_ ?_)
  · refine wp_for (I := fun k t => t = 2 * (k : Int)) L ?_ ?_ FU 0 _ rfl (Nat.zero_le _) (by unfold FU; omega)
    · rintro k t hk rfl
      have hv := g7 k hk
      unfold VT at hv
      have n1 : f10_numberAt M (s : Int) (2 * (k : Int)) = some (slN D s (2 * k)) := sp_numberAt hs g1 (i := 2 * k) (by omega)
      have n2 : f10_numberAt M (s : Int) (2 * (k : Int) + 1) = some (slN D s (2 * k + 1)) := sp_numberAt hs g1 (i := 2 * k + 1) (by omega)
      refine wp_pos (by rw [e143 M hs]; exact (lt32 (by omega) (by omega)).mpr (by omega)) (wp_then n1 (wp_then (sp_isNightM (by rw [hs.w]; omega) (by omega)) ?_))
      rw [hs.w]
      refine wp_neg (fun z => if01.mp z (by omega)) (wp_then n2 (wp_then (sp_in (by omega) (by omega) (by omega)) ?_))
      exact wp_neg (fun z => if01.mp z (by omega)) (wpo_of (by dsimp only; omega))
    · rintro t rfl
      exact wp_neg (by rw [e143 M hs]; exact fun q => absurd ((lt32 (by omega) (by omega)).mp q) (by omega)) (wpo_of rfl)
  · rintro z rfl
    show wpo (Option.bind (f10_asItIs M) _) _
    refine wp_bind.mpr (wpo_mono (sp_asIt hI hs) ?_)
    rintro M1 ⟨s1, y1, z1⟩
    have r1 : RM D M1 := by
      unfold RM
      rw [mset_same z1]
      exact y1
    refine wp_bind.mpr (wpo_mono (P := fun r => r.1 = ((nset (sF D s L) 9 : Nat) : Int) ∧ SK D r.2 ∧ ∀ w, w < 9 → (w < yP (yW (D 118)) ∨ w = 8) → ∀ n, n < yN (yW (D 118)) → r.2 140 (12 * w + n) = sC D w n) ?_ (fun r hr => wpo_of hr))
    refine wp_for (I := fun w t => t.1 = ((nset (sF D s L) w : Nat) : Int) ∧ t.2.1 = (w : Int) ∧ SK D t.2.2 ∧ RM D t.2.2 ∧ ∀ v, v < w → (v < yP (yW (D 118)) ∨ v = 8) → ∀ n, n < yN (yW (D 118)) → t.2.2 140 (12 * v + n) = sC D v n) 9 ?_ ?_ FU 0 _ ⟨rfl, rfl, s1, r1, fun v hv => absurd hv (Nat.not_lt_zero _)⟩ (Nat.zero_le _) (by unfold FU; omega)
    · rintro w ⟨t1, t2, N⟩ hw ⟨e1, e2, e3, e4, e5⟩
      dsimp only at e1 e2 e3 e4 e5 ⊢
      subst e1 e2
      refine wp_neg (fun q => absurd ((lt32 (by omega) (by omega)).mp q) (by omega)) ?_
      refine wp_then (a := decide (w < yP (yW (D 118)) ∨ w = 8)) ?_ ?_
      · refine wp_is ?_
        by_cases c : w < 8
        · refine wp_pos ((lt32 (by omega) (by omega)).mpr (by omega)) (wp_then (sp_person10 hI e3 (by unfold A32; omega)) ?_)
          by_cases c2 : 0 ≤ (w : Int) ∧ (w : Int) < D 118 7
          · exact wp_neg (fun z => if01.mp z c2) (wpo_of (by rw [decide_eq_true (by omega)]))
          · exact wp_pos (if01.mpr c2) (wpo_of (by rw [decide_eq_false (by omega)]))
        · exact wp_neg (fun q => absurd ((lt32 (by omega) (by omega)).mp q) (by omega)) (wpo_of (by rw [decide_eq_true (by omega)]))
      · by_cases c : w < yP (yW (D 118)) ∨ w = 8
        · have hm := e4.gone hI c
          refine wp_bind.mpr (wpo_mono (P := fun j => j.1 = ((nset (sF D s L) (w + 1) : Nat) : Int) ∧ SK D j.2 ∧ RM D j.2 ∧ ∀ v, v < w + 1 → (v < yP (yW (D 118)) ∨ v = 8) → ∀ n, n < yN (yW (D 118)) → j.2 140 (12 * v + n) = sC D v n) ?_ (fun j hj => wpo_of ⟨hj.1, by dsimp only; omega, hj.2⟩))
          refine wp_pos (decide_eq_true c) (wp_then rfl ?_)
          refine wp_bind.mpr (wpo_mono (sp_goNights (yS_ok hI) hm (yS_teeth hI)) ?_)
          rintro M3 hO
          have s3 : SK D M3 := (e3.set (by unfold scr; omega)).tr hO.1.sk
          have m131 : ∀ n, n < yN (yW (D 118)) → M3 131 n = sC D w n := fun n hn => (hO.2.2.1 n (by rw [yS_N]; exact hn)).2.2
          have m140 : ∀ i, M3 140 i = N 140 i := fun i => by rw [hO.1 140 i (by omega) (by omega), ms_ne (by decide)]
          refine wp_bind.mpr (wpo_mono (P := fun B => (∀ c i, c ≠ 140 → B c i = M3 c i) ∧ (∀ i, i < 12 * w → B 140 i = M3 140 i) ∧ ∀ n, n < yN (yW (D 118)) → B 140 (12 * w + n) = sC D w n) ?_ ?_)
          · refine wp_for (I := fun k t => t.1 = (k : Int) ∧ (∀ c i, c ≠ 140 → t.2 c i = M3 c i) ∧ (∀ i, i < 12 * w → t.2 140 i = M3 140 i) ∧ ∀ n, n < k → t.2 140 (12 * w + n) = sC D w n) (yN (yW (D 118))) ?_ ?_ FU 0 _ ⟨rfl, fun _ _ _ => rfl, fun _ _ => rfl, fun n hn => absurd hn (Nat.not_lt_zero _)⟩ (Nat.zero_le _) (by unfold FU; omega)
            · rintro k ⟨u1, B⟩ hk ⟨b1, b2, b3, b4⟩
              dsimp only at b1 b2 b3 b4 ⊢
              subst b1
              have bn : f10_nights B = some (D 118 0) := by
                show some (B 118 0) = _
                rw [b2 118 0 (by decide), s3.w]
              have et : (12 * (w : Int) + (k : Int)).toNat = 12 * w + k := by omega
              refine wp_then bn (wp_pos ((lt32 (by omega) (by omega)).mpr (by omega)) (wp_pos (by omega) (wp_pos (by omega) (wpo_of ?_))))
              rw [et, Int.toNat_natCast]
              refine ⟨by dsimp only; omega, fun c i h => ?_, fun i hi => ?_, fun n hn => ?_⟩
              · dsimp only
                rw [ms_ne h]
                exact b2 c i h
              · dsimp only
                rw [ms_ni (by omega)]
                exact b3 i hi
              · dsimp only
                by_cases hnk : n = k
                · subst hnk
                  rw [ms_same, b2 131 n (by decide)]
                  exact m131 n hk
                · rw [ms_ni (by omega)]
                  exact b4 n (by omega)
            · rintro ⟨u1, B⟩ ⟨b1, b2, b3, b4⟩
              dsimp only at b1 b2 b3 b4 ⊢
              subst b1
              have bn : f10_nights B = some (D 118 0) := by
                show some (B 118 0) = _
                rw [b2 118 0 (by decide), s3.w]
              exact wp_then bn (wp_neg (fun q => absurd ((lt32 (by omega) (by omega)).mp q) (by omega)) (wpo_of ⟨b2, b3, b4⟩))
          · rintro B ⟨b2, b3, b4⟩
            have sB_ : SK D B := fun c i a => (b2 c i (by unfold scr at a; omega)).trans (s3 c i a)
            refine wp_bind.mpr (wpo_mono (P := fun v => v = (if sB D s w L = true then 1 else 0)) ?_ ?_)
            · refine wp_for (I := fun k t => t = ((if sB D s w k = true then 1 else 0), 2 * (k : Int))) L ?_ ?_ FU 0 _ rfl (Nat.zero_le _) (by unfold FU; omega)
              · rintro k t hk rfl
                dsimp only
                have hv := g7 k hk
                unfold VT at hv
                have n1 : f10_numberAt B (s : Int) (2 * (k : Int)) = some (slN D s (2 * k)) := sp_numberAt sB_ g1 (i := 2 * k) (by omega)
                have n2 : f10_numberAt B (s : Int) (2 * (k : Int) + 1) = some (slN D s (2 * k + 1)) := sp_numberAt sB_ g1 (i := 2 * k + 1) (by omega)
                refine wp_pos (by rw [e143 B sB_]; exact (lt32 (by omega) (by omega)).mpr (by omega)) ?_
                refine wp_then (a := if sB D s w (k + 1) = true then 1 else 0) ?_ (wpo_of ?_)
                · refine wp_is ?_
                  rw [sB]
                  by_cases cb : sB D s w k = true
                  · rw [if_pos cb, cb, Bool.true_and]
                    refine wp_neg (by decide) (wp_then n1 (wp_pos (by omega) (wp_then n2 ?_)))
                    have hsc := sC_bd hI g2 (w := w) (n := (slN D s (2 * k)).toNat)
                    rw [b2 131 _ (by decide), m131 _ (by omega), w32_id (by omega)]
                    by_cases cc : sC D w (slN D s (2 * k)).toNat = slN D s (2 * k + 1)
                    · exact wp_pos (by rw [cc]) (wpo_of (by rw [if_pos (decide_eq_true cc)]))
                    · refine wp_neg (fun z => cc ?_) (wpo_of (by rw [if_neg (by simp only [decide_eq_true_eq]; exact cc)]))
                      rw [w64_id (by omega), w64_id (by omega)] at z
                      exact z
                  · rw [if_neg cb]
                    refine wp_pos (by decide) (wpo_of ?_)
                    rw [if_neg (by simp [cb])]
                · show (_, _) = (_, _)
                  congr 1
              · rintro t rfl
                dsimp only
                exact wp_neg (by rw [e143 B sB_]; exact fun z => absurd ((lt32 (by omega) (by omega)).mp z) (by omega)) (wpo_of rfl)
            · rintro v rfl
              refine wp_then (a := if sF D s L w = true then shl32 1 (w : Int) else 0) ?_ (wpo_of ⟨?_, sB_, ?_, fun v hv hv2 n hn => ?_⟩)
              · refine wp_is ?_
                by_cases cb : sB D s w L = true
                · rw [if_pos cb]
                  refine wp_neg (by decide) (wpo_of ?_)
                  rw [if_pos (by unfold sF; rw [decide_eq_true_eq]; exact ⟨c, cb⟩)]
                · rw [if_neg cb]
                  refine wp_pos (by decide) (wpo_of ?_)
                  rw [if_neg (by unfold sF; rw [decide_eq_true_eq]; exact fun z => cb z.2)]
              · dsimp only
                rw [or_next (by omega)]
              · refine e4.keep (fun c i a b h140 => ?_)
                dsimp only
                rw [b2 c i h140, hO.1 c i a (by omega)]
                by_cases e : c = 117
                · subst e
                  rw [ms_ni (by omega)]
                · rw [ms_ne e]
              · dsimp only
                by_cases hvw : v = w
                · subst hvw
                  exact b4 n hn
                · rw [b3 _ (by omega), m140]
                  exact e5 v (by omega) hv2 n hn
        · refine wp_then (a := (((nset (sF D s L) w : Nat) : Int), N)) (if_neg (by rw [decide_eq_false c]; decide)) (wpo_of ⟨?_, by dsimp only; omega, e3, e4, fun v hv hv2 n hn => ?_⟩)
          · dsimp only
            have hf : sF D s L w = false := by
              unfold sF
              exact decide_eq_false (fun z => c z.1)
            rw [← or_next2 (by omega), if_neg (by rw [hf]; decide)]
          · refine e5 v ?_ hv2 n hn
            have : v ≠ w := fun e => c (by rw [← e]; exact hv2)
            omega
    · rintro ⟨t1, t2, N⟩ ⟨e1, e2, e3, e4, e5⟩
      dsimp only at e1 e2 e3 e4 e5 ⊢
      subst e1 e2
      exact wp_pos ((lt32 (by omega) (by omega)).mpr (by omega)) (wpo_of ⟨rfl, e3, e5⟩)
