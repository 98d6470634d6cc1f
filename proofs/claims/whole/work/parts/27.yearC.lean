/-! THE CLASS'S YEAR (by hand) -/
def YC (Y D : Mem) (r : Nat) : Prop := Y 0 0 = D 12 1 ∧ Y 0 1 = D r 1 ∧ Y 0 2 = D r 2 ∧ Y 0 3 = D r 3 ∧ Y 0 4 = D 12 3 ∧ Y 0 5 = D 12 4 ∧ Y 0 6 = D 12 8 ∧ ∀ p, p < yP Y → Y 1 p = D 13 p ∧ Y 2 p = D 15 p ∧ Y 3 p = D (r + 2) p ∧ Y 4 p = D (r + 1) p ∧ Y 5 p = D (r + 3) p
/-- what a pass leaves as it was -/
def YK (r : Nat) (D D' : Mem) : Prop := (∀ c i, (c < r ∨ r + 12 < c) → D' c i = D c i) ∧ (∀ i, i ≠ 4 → D' r i = D r i) ∧ ∀ c i, (r < c ∧ c ≤ r + 3) → D' c i = D c i
theorem YK.rf {r : Nat} {D : Mem} : YK r D D := ⟨fun _ _ _ => rfl, fun _ _ => rfl, fun _ _ _ => rfl⟩
theorem YK.tr {r : Nat} {D D' D'' : Mem} (h : YK r D D') (h' : YK r D' D'') : YK r D D'' := ⟨fun c i hc => (h'.1 c i hc).trans (h.1 c i hc), fun i hi => (h'.2.1 i hi).trans (h.2.1 i hi), fun c i hc => (h'.2.2 c i hc).trans (h.2.2 c i hc)⟩
theorem YK.set {r : Nat} {D D' : Mem} (h : YK r D D') {c i : Nat} {v : Int} (hc : r + 4 ≤ c ∧ c ≤ r + 12) : YK r D (mset D' c i v) :=
  ⟨fun c' i' h' => by rw [ms_ne (by omega)]; exact h.1 c' i' h', fun i' h' => by rw [ms_ne (by omega)]; exact h.2.1 i' h', fun c' i' h' => by rw [ms_ne (by omega)]; exact h.2.2 c' i' h'⟩
theorem YK.set4 {r : Nat} {D D' : Mem} (h : YK r D D') {v : Int} : YK r D (mset D' r 4 v) :=
  ⟨fun c' i' h' => by rw [ms_ne (by omega)]; exact h.1 c' i' h', fun i' h' => by rw [ms_ni h']; exact h.2.1 i' h', fun c' i' h' => by rw [ms_ne (by omega)]; exact h.2.2 c' i' h'⟩
theorem YK.fill {r : Nat} {D D' : Mem} (h : YK r D D') {c n : Nat} {v : Int} (hc : r + 4 ≤ c ∧ c ≤ r + 12) : YK r D (mfill D' c n v) :=
  ⟨fun c' i' h' => by rw [mf_ne (by omega)]; exact h.1 c' i' h', fun i' h' => by rw [mf_ne (by omega)]; exact h.2.1 i' h', fun c' i' h' => by rw [mf_ne (by omega)]; exact h.2.2 c' i' h'⟩
theorem YC.keep {Y D D' : Mem} {r : Nat} (hr : 20 ≤ r) (h : YC Y D r) (k : YK r D D') : YC Y D' r := by
  obtain ⟨h0, h1, h2, h3, h4, h5, h6, h7⟩ := h
  obtain ⟨k1, k2, k3⟩ := k
  refine ⟨?_, ?_, ?_, ?_, ?_, ?_, ?_, fun p hp => ?_⟩
  · rw [k1 12 1 (by omega)]; exact h0
  · rw [k2 1 (by omega)]; exact h1
  · rw [k2 2 (by omega)]; exact h2
  · rw [k2 3 (by omega)]; exact h3
  · rw [k1 12 3 (by omega)]; exact h4
  · rw [k1 12 4 (by omega)]; exact h5
  · rw [k1 12 8 (by omega)]; exact h6
  · rw [k1 13 p (by omega), k1 15 p (by omega), k3 (r + 2) p (by omega), k3 (r + 1) p (by omega), k3 (r + 3) p (by omega)]
    exact h7 p hp
theorem YOK.P {Y : Mem} (h : YOK Y) : (yP Y : Int) = Y 0 6 ∧ yP Y ≤ 8 := by
  have := h.2.2.2.2.2.2.1
  unfold yP
  omega
theorem YOK.rank {Y : Mem} (h : YOK Y) {p : Nat} (hp : p < yP Y) : -100 ≤ yrank Y p ∧ yrank Y p ≤ 100 := by
  have := h.ache hp
  unfold yrank
  split
  · omega
  · split
    · omega
    · split <;> omega
theorem sp_rankOf {Y D : Mem} {r p : Nat} (hY : YOK Y) (h : YC Y D r) (hp : p < yP Y) : f8_rankOf D r (p : Int) = some (yrank Y p) := by
  obtain ⟨h0, h1, h2, h3, h4, h5, h6, h7⟩ := h
  obtain ⟨a1, a2, a3, a4, a5⟩ := h7 p hp
  have hP := hY.P
  have hr := hY.2.2.1
  have e : w32 (D r 2) = Y 0 2 := by rw [← h2, w32_id (by omega)]
  have hin : 0 ≤ (p : Int) ∧ (p : Int) < 8 := by omega
  unfold f8_rankOf yrank
  by_cases c1 : Y 0 2 = 1
  · rw [if_pos (e.trans c1), if_pos hin, if_pos c1, Int.toNat_natCast, a4]
  · rw [if_neg (fun h => c1 (e.symm.trans h)), if_neg c1]
    by_cases c2 : Y 0 2 = 2
    · rw [if_pos (e.trans c2), if_pos hin, if_pos c2, Int.toNat_natCast, a4]
    · rw [if_neg (fun h => c2 (e.symm.trans h)), if_neg c2]
      by_cases c3 : Y 0 2 = 3
      · rw [if_pos (e.trans c3), if_pos hin, if_pos c3, Int.toNat_natCast, a3]
      · rw [if_neg (fun h => c3 (e.symm.trans h)), if_neg c3]
/-- a row told by a list -/
def RowL (D : Mem) (c : Nat) (l : List Nat) : Prop := ∀ t x : Nat, l[t]? = some x → D c t = (x : Int)
theorem sorted_rank {Y : Mem} {l : List Nat} (hs : l.Pairwise (ykey Y)) {t t' x x' : Nat} (h : t ≤ t') (hx : l[t]? = some x) (hx' : l[t']? = some x') : yrank Y x ≤ yrank Y x' := by
  by_cases e : t = t'
  · subst e
    rw [hx] at hx'
    cases hx'
    exact Int.le_refl _
  · obtain ⟨h1, h2⟩ := List.getElem?_eq_some_iff.mp hx
    obtain ⟨h3, h4⟩ := List.getElem?_eq_some_iff.mp hx'
    have := List.pairwise_iff_getElem.mp hs t t' h1 h3 (by omega)
    rw [h2, h4] at this
    unfold ykey at this
    omega
theorem sp_putInOrder {Y D : Mem} {r : Nat} (hr : 20 ≤ r) (hY : YOK Y) (h : YC Y D r) : wpo (f8_putInOrder D r) (fun D' => YK r D D' ∧ (∀ c i, c ≠ r + 4 → D' c i = D c i) ∧ RowL D' (r + 4) (yord Y (yP Y))) := by
  unfold f8_putInOrder
  refine wp_bind.mpr ?_
  simp only [wp_some]
  have hP := hY.P
  refine wp_for (I := fun k s => s.1 = (k : Int) ∧ YK r D s.2 ∧ (∀ c i, c ≠ r + 4 → s.2 c i = D c i) ∧ RowL s.2 (r + 4) (yord Y k)) (yP Y) ?_ ?_ FU 0 _ ⟨rfl, YK.rf, fun _ _ _ => rfl, fun t x hx => by simp [yord] at hx⟩ (Nat.zero_le _) (by unfold FU; omega)
  · rintro k ⟨s1, s2⟩ hk ⟨e1, e2, e3, e4⟩
    dsimp only at e1 e2 e3 e4 ⊢
    subst e1
    have hC := h.keep hr e2
    have e8 : s2 12 8 = Y 0 6 := hC.2.2.2.2.2.2.1.symm
    refine wp_pos (by rw [e8]; exact (lt32 (by omega) (by omega)).mpr (by omega)) ?_
    refine wp_then (sp_rankOf hY hC hk) ?_
    refine wp_bind.mpr ?_
    have hs : (yord Y k).Pairwise (ykey Y) := yord_sorted
    have hlen : (yord Y k).length = k := yord_len
    have hrk := hY.rank hk
    refine wpo_mono (P := fun b2 => ∃ t : Nat, t ≤ k ∧ b2.1 = (t : Int) ∧ YK r D b2.2 ∧ (∀ c i, c ≠ r + 4 → b2.2 c i = D c i) ∧ (∀ j x : Nat, j < t → (yord Y k)[j]? = some x → b2.2 (r + 4) j = (x : Int) ∧ yrank Y x ≤ yrank Y k) ∧ (∀ j x : Nat, t ≤ j → (yord Y k)[j]? = some x → b2.2 (r + 4) (j + 1) = (x : Int) ∧ yrank Y k < yrank Y x)) ?_ ?_
    · refine wp_loop (I := fun s => ∃ t : Nat, t ≤ k ∧ s.1 = (t : Int) ∧ YK r D s.2 ∧ (∀ c i, c ≠ r + 4 → s.2 c i = D c i) ∧ (∀ j x : Nat, j < t → (yord Y k)[j]? = some x → s.2 (r + 4) j = (x : Int)) ∧ (∀ j x : Nat, t ≤ j → (yord Y k)[j]? = some x → s.2 (r + 4) (j + 1) = (x : Int) ∧ yrank Y k < yrank Y x)) (mu := fun s => s.1.toNat) ?_ FU _ ⟨k, Nat.le_refl _, rfl, e2, e3, fun j x _ hx => e4 j x hx, fun j x hj hx => by
        have := (List.getElem?_eq_some_iff.mp hx).1
        omega⟩ (by unfold FU; dsimp only; omega)
      rintro ⟨u1, u2⟩ ⟨t, ht, q1, q2, q3, q4, q5⟩
      dsimp only at q1 q2 q3 q4 q5 ⊢
      subst q1
      by_cases ht0 : t = 0
      · subst ht0
        refine wp_neg (by rw [w32_id (by omega)]; omega) ?_
        exact wpo_of ⟨0, Nat.zero_le _, rfl, q2, q3, fun j x hj => absurd hj (Nat.not_lt_zero _), q5⟩
      · refine wp_pos (by rw [w32_id (by omega)]; omega) ?_
        refine wp_pos (by omega) ?_
        have hj : t - 1 < (yord Y k).length := by omega
        obtain ⟨x, hx⟩ : ∃ x, (yord Y k)[t - 1]? = some x := ⟨_, List.getElem?_eq_getElem hj⟩
        have hxk : x < k := yord_mem.mp (List.mem_of_getElem? hx)
        have hxv := q4 (t - 1) x (by omega) hx
        have et : ((t : Int) - 1).toNat = t - 1 := by omega
        refine wp_then (by rw [et, hxv]; exact sp_rankOf hY (h.keep hr q2) (show x < yP Y by omega)) ?_
        have hrx := hY.rank (show x < yP Y by omega)
        by_cases hc : yrank Y k < yrank Y x
        · refine wp_pos ((lt32 (by omega) (by omega)).mpr hc) ?_
          refine wp_pos (by omega) ?_
          refine wpo_of ⟨⟨t - 1, by omega, by dsimp only; omega, q2.set (by omega), fun c i hci => (ms_ne hci).trans (q3 c i hci), fun j y hj hy => ?_, fun j y hj hy => ?_⟩, by dsimp only; omega⟩
          · dsimp only
            rw [Int.toNat_natCast, ms_ni (by omega)]
            exact q4 j y (by omega) hy
          · dsimp only
            rw [Int.toNat_natCast]
            by_cases hjt : j + 1 = t
            · have : j = t - 1 := by omega
              subst this
              rw [hx] at hy
              cases hy
              rw [hjt, ms_same]
              exact ⟨by rw [et]; exact hxv, hc⟩
            · rw [ms_ni hjt]
              exact q5 j y (by omega) hy
        · refine wp_neg (fun hh => hc ((lt32 (by omega) (by omega)).mp hh)) ?_
          refine wpo_of ⟨t, ht, rfl, q2, q3, fun j y hj hy => ⟨q4 j y hj hy, ?_⟩, q5⟩
          have := sorted_rank hs (show j ≤ t - 1 by omega) hy hx
          omega
    · rintro ⟨u1, u2⟩ ⟨t, ht, q1, q2, q3, q4, q5⟩
      dsimp only at q1 q2 q3 q4 q5 ⊢
      subst q1
      refine wp_pos (by omega) ?_
      refine wpo_of ⟨by dsimp only; omega, q2.set (by omega), fun c i hci => (ms_ne hci).trans (q3 c i hci), ?_⟩
      have hsp : yord Y (k + 1) = (yord Y k).take t ++ k :: (yord Y k).drop t := by
        rw [yord]
        refine yins_split (fun x hx => ?_) (fun x hx => ?_)
        · obtain ⟨j, hj⟩ := List.getElem?_of_mem hx
          rw [List.getElem?_take] at hj
          split at hj
          · rename_i hjt
            exact (q4 j x hjt hj).2
          · cases hj
        · obtain ⟨j, hj⟩ := List.getElem?_of_mem hx
          rw [List.getElem?_drop] at hj
          exact (q5 (t + j) x (by omega) hj).2
      intro j x hx
      rw [hsp] at hx
      dsimp only
      rw [Int.toNat_natCast]
      have htl : ((yord Y k).take t).length = t := by rw [List.length_take]; omega
      by_cases hj : j < t
      · rw [List.getElem?_append_left (by omega), List.getElem?_take, if_pos hj] at hx
        rw [ms_ni (by omega)]
        exact (q4 j x hj hx).1
      · rw [List.getElem?_append_right (by omega), htl] at hx
        by_cases hjt : j = t
        · subst hjt
          rw [Nat.sub_self] at hx
          cases hx
          exact ms_same
        · obtain ⟨d, rfl⟩ : ∃ d, j = t + d + 1 := ⟨j - t - 1, by omega⟩
          have ed : t + d + 1 - t = d + 1 := by omega
          rw [ed, List.getElem?_cons_succ, List.getElem?_drop] at hx
          rw [ms_ni (by omega)]
          exact (q5 (t + d) x (by omega) hx).1
  · rintro ⟨s1, s2⟩ ⟨e1, e2, e3, e4⟩
    dsimp only at e1 e2 e3 e4 ⊢
    subst e1
    have hC := h.keep hr e2
    have e8 : s2 12 8 = Y 0 6 := hC.2.2.2.2.2.2.1.symm
    refine wp_neg (by rw [e8]; exact fun hh => absurd ((lt32 (by omega) (by omega)).mp hh) (by omega)) ?_
    exact wpo_of ⟨e2, e3, e4⟩
