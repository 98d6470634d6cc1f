/-! BLOCKS (by hand) -/
theorem YM.congr {Y M M' : Mem} (h : YM Y M) (k : ∀ c i, c ≤ 127 → M' c i = M c i) : YM Y M' := by
  obtain ⟨h0, h1, h2, h3, h4, h5, h6, hg, h7⟩ := h
  refine ⟨?_, ?_, ?_, ?_, ?_, ?_, ?_, ?_, fun p hp => ?_⟩
  · rw [k 118 0 (by decide)]; exact h0
  · rw [k 117 19 (by decide)]; exact h1
  · rw [k 117 20 (by decide)]; exact h2
  · rw [k 117 22 (by decide)]; exact h3
  · rw [k 118 2 (by decide)]; exact h4
  · rw [k 118 3 (by decide)]; exact h5
  · rw [k 118 7 (by decide)]; exact h6
  · rw [k 117 21 (by decide)]; exact hg
  · rw [k 117 21 (by decide), k 124 p (by decide), k 118 _ (by decide), k 125 p (by decide), k 126 p (by decide), k 127 p (by decide)]
    exact h7 p hp
theorem MS.congr {Y M M' : Mem} (h : MS Y M) (k : ∀ c i, c ≤ 131 → M' c i = M c i) : MS Y M' := by
  obtain ⟨h1, h2, h3, h4⟩ := h
  refine ⟨h1.congr (fun c i hc => k c i (by omega)), fun p hp => ?_, fun n hn => ?_, ?_⟩
  · rw [k 128 p (by decide)]; exact h2 p hp
  · rw [k 129 n (by decide), k 130 n (by decide), k 131 n (by decide)]; exact h3 n hn
  · rw [k 117 27 (by decide)]; exact h4
theorem sp_keepBore {D M : Mem} (hI : IC D) (hb : MA D M) : wpo (f10_keepBore M) (fun M' => (∀ c i, c ≠ 132 → M' c i = M c i) ∧ ∀ p, p < yP (yW (D 118)) → M' 132 p = ybears (yW (D 118)) (yN (yW (D 118))) p) := by
  have hP := hI.P
  unfold f10_keepBore
  refine wp_bind.mpr ?_
  simp only [wp_some]
  refine wp_for (I := fun k s => s.1 = (k : Int) ∧ (∀ c i, c ≠ 132 → s.2 c i = M c i) ∧ ∀ p, p < k → s.2 132 p = ybears (yW (D 118)) (yN (yW (D 118))) p) (yP (yW (D 118))) ?_ ?_ FU 0 _ ⟨rfl, fun _ _ _ => rfl, fun p hp => absurd hp (Nat.not_lt_zero _)⟩ (Nat.zero_le _) (by unfold FU; omega)
  · rintro k ⟨s1, N⟩ hk ⟨e1, e2, e3⟩
    dsimp only at e1 e2 e3 ⊢
    subst e1
    have e7 : N 118 7 = D 118 7 := (e2 118 7 (by decide)).trans (hb.w 7)
    refine wp_pos (by rw [e7]; exact (lt32 (by omega) (by omega)).mpr (by omega)) ?_
    refine wp_then (sp_bearsOf hI.1.yok (hb.2.congr (fun c i hc => e2 c i (by omega))) hk) ?_
    refine wp_pos (by omega) (wpo_of ⟨by dsimp only; omega, fun c i hc => ?_, fun p hp => ?_⟩)
    · dsimp only
      rw [ms_ne hc]
      exact e2 c i hc
    · dsimp only
      rw [Int.toNat_natCast]
      by_cases hpk : p = k
      · subst hpk
        exact ms_same
      · rw [ms_ni hpk]
        exact e3 p (by omega)
  · rintro ⟨s1, N⟩ ⟨e1, e2, e3⟩
    dsimp only at e1 e2 e3 ⊢
    subst e1
    have e7 : N 118 7 = D 118 7 := (e2 118 7 (by decide)).trans (hb.w 7)
    exact wp_neg (by rw [e7]; exact fun z => absurd ((lt32 (by omega) (by omega)).mp z) (by omega)) (wpo_of ⟨e2, e3⟩)
set_option maxHeartbeats 1000000 in
theorem ag_blocks {D : Mem} {x : Int} (hI : IC D) (hx : A32 x) : AGi D (f9_blocks D x) (fun M => f10_blocks M x) := by
  refine ag_person_i hI hx (fun p e hp => ?_)
  subst e
  have h8 := hI.person hp
  have hP := hI.P
  have hY0 := hI.1.yok
  have hY : YOK (mset (yW (D 118)) 3 p 100) := hY0.per (Or.inl ⟨rfl, by decide, by decide⟩)
  have eP : yP (mset (yW (D 118)) 3 p 100) = yP (yW (D 118)) := yP_set (by omega)
  have eN : yN (mset (yW (D 118)) 3 p 100) = yN (yW (D 118)) := yN_set (by omega)
  have bd0 : ∀ o, o < yP (yW (D 118)) → 0 ≤ ybears (yW (D 118)) (yN (yW (D 118))) o ∧ ybears (yW (D 118)) (yN (yW (D 118))) o ≤ 2160 := fun o ho => ybears_bd hY0 ho
  have bd1 : ∀ o, o < yP (yW (D 118)) → 0 ≤ ybears (mset (yW (D 118)) 3 p 100) (yN (mset (yW (D 118)) 3 p 100)) o ∧ ybears (mset (yW (D 118)) 3 p 100) (yN (mset (yW (D 118)) 3 p 100)) o ≤ 2160 := fun o ho => ybears_bd hY (by rw [eP]; exact ho)
  refine wp_bind.mpr (wpo_mono (P := fun M => SK D M ∧ Y36 (mset (yW (D 118)) 3 p 100) M) ?_ ?_)
  · unfold f9_passWithout
    refine wp_bind.mpr (wpo_mono (sp_prep36 hI SK.rf) ?_)
    rintro M1 ⟨s1, c1⟩
    refine wp_pos (by omega) (wp_then rfl ?_)
    rw [Int.toNat_natCast]
    exact wp_bind.mpr (wpo_mono (sp_pass36 (D := D) (s1.set (by unfold scr; omega)) hY (YC.per (j := 2) (by decide) c1 (Or.inr (Or.inl ⟨rfl, rfl⟩)))) (fun M2 h2 => wpo_of h2))
  · rintro M2 ⟨s2, y1, y2⟩
    refine wp_bind.mpr (wpo_mono (P := fun v => v = ((nset (fun o => decide (o ≠ p ∧ ybears (mset (yW (D 118)) 3 p 100) (yN (mset (yW (D 118)) 3 p 100)) o < ybears (yW (D 118)) (yN (yW (D 118))) o)) (yP (yW (D 118))) : Nat) : Int)) ?_ ?_)
    · refine wp_for (I := fun k s => s = (((nset (fun o => decide (o ≠ p ∧ ybears (mset (yW (D 118)) 3 p 100) (yN (mset (yW (D 118)) 3 p 100)) o < ybears (yW (D 118)) (yN (yW (D 118))) o)) k : Nat) : Int), (k : Int))) (yP (yW (D 118))) ?_ ?_ FU 0 _ rfl (Nat.zero_le _) (by unfold FU; omega)
      · rintro k s hk rfl
        dsimp only
        have e8 : M2 12 8 = D 118 7 := (s2.keep (Or.inl (by decide)) 8).trans hI.e8
        have e29 : M2 29 k = ybears (yW (D 118)) (yN (yW (D 118))) k := (s2.keep (Or.inl (by decide)) k).trans (hI.2.2.1 k hk).2
        have e42 := (y2 k (by rw [eP]; exact hk)).2
        have b0 := bd0 k hk
        have b1 := bd1 k hk
        refine wp_pos (by rw [e8]; exact (lt32 (by omega) (by omega)).mpr (by omega)) ?_
        refine wp_then (a := ((nset (fun o => decide (o ≠ p ∧ ybears (mset (yW (D 118)) 3 p 100) (yN (mset (yW (D 118)) 3 p 100)) o < ybears (yW (D 118)) (yN (yW (D 118))) o)) (k + 1) : Nat) : Int)) ?_ (wpo_of rfl)
        rw [← or_next2 (by omega)]
        refine wp_is ?_
        by_cases c1 : k = p
        · exact wp_pos (by rw [c1]) (wpo_of (by rw [if_neg (by simp [c1])]))
        · refine wp_neg (fun z => c1 (by have := (eq32 (by omega) (by omega)).mp z; omega)) (wp_pos (by omega) ?_)
          rw [Int.toNat_natCast, e29, e42]
          by_cases c2 : ybears (mset (yW (D 118)) 3 p 100) (yN (mset (yW (D 118)) 3 p 100)) k < ybears (yW (D 118)) (yN (yW (D 118))) k
          · exact wp_pos ((lt32 (by omega) (by omega)).mpr c2) (wpo_of (by rw [if_pos (by simp only [decide_eq_true_eq]; exact ⟨c1, c2⟩)]))
          · exact wp_neg (fun z => c2 ((lt32 (by omega) (by omega)).mp z)) (wpo_of (by rw [if_neg (by simp only [decide_eq_true_eq]; exact fun z => c2 z.2)]))
      · rintro s rfl
        dsimp only
        have e8 : M2 12 8 = D 118 7 := (s2.keep (Or.inl (by decide)) 8).trans hI.e8
        exact wp_neg (by rw [e8]; exact fun z => absurd ((lt32 (by omega) (by omega)).mp z) (by omega)) (wpo_of rfl)
    · rintro v rfl
      refine wpo_of ⟨s2, fun b hb => ?_⟩
      refine wp_bind.mpr (wpo_mono (sp_keepBore hI hb) ?_)
      rintro N ⟨n1, n2⟩
      have hmN : YM (yW (D 118)) N := hb.2.1.congr (fun c i hc => n1 c i (by omega))
      have hng : NG (yW (D 118)) N := by
        intro q hq
        rw [n1 117 21 (by decide)]
        exact hb.ng hI q hq
      have hs : SK D N := fun c i a => (n1 c i (by unfold scr at a; omega)).trans (hb.1 c i a)
      have hm : YM (mset (yW (D 118)) 3 p 100) (mset N 117 21 (p : Int)) := hmN.gone hng hp (by omega)
      refine wp_then rfl ?_
      refine wp_bind.mpr (wpo_mono (sp_goNights hY hm (teeth_per hI (by decide))) ?_)
      rintro M3 hO
      have m3 := hO.ms hm
      have s3 : SK D M3 := (hs.set (by unfold scr; omega)).tr hO.1.sk
      have b132 : ∀ o, o < yP (yW (D 118)) → M3 132 o = ybears (yW (D 118)) (yN (yW (D 118))) o := fun o ho => by
        rw [hO.1 132 o (by omega) (by omega), ms_ne (by decide)]
        exact n2 o ho
      refine wp_bind.mpr (wpo_mono (P := fun v => v = ((nset (fun o => decide (o ≠ p ∧ ybears (mset (yW (D 118)) 3 p 100) (yN (mset (yW (D 118)) 3 p 100)) o < ybears (yW (D 118)) (yN (yW (D 118))) o)) (yP (yW (D 118))) : Nat) : Int)) ?_ (fun v hv => wpo_of ⟨by dsimp only; rw [hv], s3⟩))
      refine wp_for (I := fun k s => s = (((nset (fun o => decide (o ≠ p ∧ ybears (mset (yW (D 118)) 3 p 100) (yN (mset (yW (D 118)) 3 p 100)) o < ybears (yW (D 118)) (yN (yW (D 118))) o)) k : Nat) : Int), (k : Int))) (yP (yW (D 118))) ?_ ?_ FU 0 _ rfl (Nat.zero_le _) (by unfold FU; omega)
      · rintro k s hk rfl
        dsimp only
        have e7 : M3 118 7 = D 118 7 := by rw [s3.w]
        have b0 := bd0 k hk
        have b1 := bd1 k hk
        refine wp_pos (by rw [e7]; exact (lt32 (by omega) (by omega)).mpr (by omega)) ?_
        refine wp_then (a := if (fun o => decide (o ≠ p ∧ ybears (mset (yW (D 118)) 3 p 100) (yN (mset (yW (D 118)) 3 p 100)) o < ybears (yW (D 118)) (yN (yW (D 118))) o)) k = true then shl32 1 (k : Int) else 0) ?_ (wpo_of ?_)
        · dsimp only
          refine wp_is ?_
          by_cases c1 : k = p
          · exact wp_pos (by rw [c1]) (wpo_of (by rw [if_neg (by simp [c1])]))
          · refine wp_neg (fun z => c1 (by have := (eq32 (by omega) (by omega)).mp z; omega)) ?_
            refine wp_then (sp_bearsOf hY m3 (by rw [eP]; exact hk)) (wp_pos (by omega) ?_)
            rw [Int.toNat_natCast, b132 k hk]
            by_cases c2 : ybears (mset (yW (D 118)) 3 p 100) (yN (mset (yW (D 118)) 3 p 100)) k < ybears (yW (D 118)) (yN (yW (D 118))) k
            · exact wp_pos ((lt32 (by omega) (by omega)).mpr c2) (wpo_of (by rw [if_pos (by simp only [decide_eq_true_eq]; exact ⟨c1, c2⟩)]))
            · exact wp_neg (fun z => c2 ((lt32 (by omega) (by omega)).mp z)) (wpo_of (by rw [if_neg (by simp only [decide_eq_true_eq]; exact fun z => c2 z.2)]))
        · show (_, _) = (_, _)
          rw [or_next (f := fun o => decide (o ≠ p ∧ ybears (mset (yW (D 118)) 3 p 100) (yN (mset (yW (D 118)) 3 p 100)) o < ybears (yW (D 118)) (yN (yW (D 118))) o)) (by omega)]
          rfl
      · rintro s rfl
        dsimp only
        have e7 : M3 118 7 = D 118 7 := by rw [s3.w]
        exact wp_neg (by rw [e7]; exact fun z => absurd ((lt32 (by omega) (by omega)).mp z) (by omega)) (wpo_of rfl)
