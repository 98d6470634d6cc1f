/-! THE FEWEST NIGHTS OF ROOM: the reference's table (by hand) -/
/-- the best of the parts below k -/
def FM (A : Nat → Int) (P : Nat) (R : Int) (s : Nat) (T : Nat → Int) (k : Nat) (v : Int) : Prop := (0 ≤ v ∧ v ≤ 1000000000) ∧ (v = 1000000000 ∨ ∃ q, Fit A P R q s ∧ v = 1 + T (s ^^^ q)) ∧ ∀ q, Fit A P R q s → q < k → v ≤ 1 + T (s ^^^ q)
theorem FM.skip {A : Nat → Int} {P : Nat} {R : Int} {s k : Nat} {T : Nat → Int} {v : Int} (h : FM A P R s T k v) (hn : ¬ Fit A P R k s) : FM A P R s T (k + 1) v := ⟨h.1, h.2.1, fun q hq hl => by
  by_cases e : q = k
  · exact absurd (e ▸ hq) hn
  · exact h.2.2 q hq (by omega)⟩
theorem FM.take {A : Nat → Int} {P : Nat} {R : Int} {s k : Nat} {T : Nat → Int} {v : Int} (h : FM A P R s T k v) (hf : Fit A P R k s) (hb : 0 ≤ T (s ^^^ k)) : FM A P R s T (k + 1) (min v (1 + T (s ^^^ k))) := by
  obtain ⟨h1, h2, h3⟩ := h
  refine ⟨by omega, ?_, fun q hq hl => ?_⟩
  · by_cases c : v ≤ 1 + T (s ^^^ k)
    · rcases h2 with h2 | ⟨q, q1, q2⟩
      · exact Or.inl (by omega)
      · exact Or.inr ⟨q, q1, by omega⟩
    · exact Or.inr ⟨k, hf, by omega⟩
  · by_cases e : q = k
    · rw [e]
      omega
    · have := h3 q hq (by omega)
      omega
set_option maxHeartbeats 1000000 in
theorem sp_layBins {Y M : Mem} (hY : YOK Y) (hM : YM Y M) : wpo (f10_layBins M) (fun M' => (∀ c i, c ≠ 133 → c ≠ 134 → c ≠ 141 → M' c i = M c i) ∧ TB (Y 1) (yP Y) (Y 0 1) (2 ^ yP Y) (M' 141) ∧ ∀ s, s < 2 ^ yP Y → 0 ≤ M' 141 s ∧ M' 141 s ≤ 1000000000) := by
  have hP := hY.P
  have h256 := pow8 hP.2
  have hpos : 0 < 2 ^ yP Y := Nat.two_pow_pos _
  have hroom := hY.2.1
  have e7 : M 118 7 = (yP Y : Int) := by rw [← hM.2.2.2.2.2.2.1]; exact hP.1.symm
  have hAb : ∀ p, p < yP Y → 0 ≤ Y 1 p ∧ Y 1 p ≤ 20 := fun p hp => by have := (hY.ache hp).1; omega
  unfold f10_layBins
  refine wp_bind.mpr (wpo_mono (sp_laySums hY hM) ?_)
  rintro M1 ⟨a1, a2⟩
  refine wp_then rfl ?_
  refine wp_bind.mpr ?_
  simp only [wp_some]
  refine wp_for (I := fun k t => t.1 = (k : Int) ∧ 0 < k ∧ (∀ c i, c ≠ 141 → t.2 c i = M1 c i) ∧ TB (Y 1) (yP Y) (Y 0 1) k (t.2 141) ∧ ∀ s, s < k → 0 ≤ t.2 141 s ∧ t.2 141 s ≤ 1000000000) (2 ^ yP Y) ?_ ?_ FU 1 _ ⟨rfl, Nat.zero_lt_one, fun c i h => ms_ne h, ⟨by dsimp only; exact ms_same, fun s h1 h2 => by omega⟩, fun s h => ?_⟩ (by omega) (by unfold FU; omega)
  · rintro k ⟨t1, N⟩ hk ⟨e1, e2, e3, e4, e5⟩
    dsimp only at e1 e2 e3 e4 e5 ⊢
    subst e1
    have n7 : N 118 7 = (yP Y : Int) := (e3 118 7 (by decide)).trans ((a1 118 7 (by decide) (by decide)).trans e7)
    refine wp_then (sp_allP hP.2 n7) (wp_neg (fun q => absurd ((lt32 (by omega) (by omega)).mp q) (by omega)) (wp_pos (by omega) (wp_then rfl ?_)))
    rw [Int.toNat_natCast]
    refine wp_bind.mpr (wpo_mono (P := fun B => (∀ c i, c ≠ 141 → B c i = M1 c i) ∧ (∀ s, s < k → B 141 s = N 141 s) ∧ FM (Y 1) (yP Y) (Y 0 1) k (N 141) (k + 1) (B 141 k)) ?_ ?_)
    · refine wp_for (I := fun q u => u.1 = (q : Int) ∧ 1 ≤ q ∧ (∀ c i, c ≠ 141 → u.2 c i = M1 c i) ∧ (∀ s, s < k → u.2 141 s = N 141 s) ∧ FM (Y 1) (yP Y) (Y 0 1) k (N 141) q (u.2 141 k)) (k + 1) ?_ ?_ FU 1 _ ⟨rfl, Nat.le_refl _, fun c i h => ?_, fun s hs => ?_, ?_⟩ (by omega) (by unfold FU; omega)
      · rintro q ⟨u1, B⟩ hq ⟨b1, b0, b2, b3, b4⟩
        dsimp only at b1 b2 b3 b4 ⊢
        subst b1
        refine wp_neg (fun z => absurd ((lt32 (by omega) (by omega)).mp z) (by omega)) ?_
        refine wp_bind.mpr (wpo_mono (P := fun J : Mem => (∀ c i, c ≠ 141 → J c i = M1 c i) ∧ (∀ s, s < k → J 141 s = N 141 s) ∧ FM (Y 1) (yP Y) (Y 0 1) k (N 141) (q + 1) (J 141 k)) ?_ (fun J hJ => wpo_of ⟨by dsimp only; omega, by omega, hJ⟩))
        have hsn : and32 (q : Int) (xor32 (k : Int) (-1)) = 0 ↔ Sub q k := sub_nat (by omega) (by omega)
        have hlt : and32 (q : Int) (xor32 (k : Int) (-1)) = 0 ∨ and32 (q : Int) (xor32 (k : Int) (-1)) ≠ 0 := by omega
        by_cases cs : Sub q k
        · refine wp_pos (by rw [hsn.mpr cs]; rfl) (wp_pos (by omega) ?_)
          rw [Int.toNat_natCast]
          have b133 : B 133 q = aS (Y 1) (yP Y) q := (b2 133 q (by decide)).trans (a2 q (by omega)).1
          have b19 : B 117 19 = Y 0 1 := (b2 117 19 (by decide)).trans ((a1 117 19 (by decide) (by decide)).trans hM.2.1.symm)
          have hab := aS_bd (f := Y 1) (P := yP Y) (s := q) (hi := 20) (by decide) hAb
          by_cases cr : aS (Y 1) (yP Y) q ≤ Y 0 1
          · by_cases cq : q = 0
            · omega
            · have hfit : Fit (Y 1) (yP Y) (Y 0 1) q k := ⟨cq, cs, cr⟩
              have hl := xor_lt cs cq
              have hd := diff_nat cs (show k < 2147483648 by omega)
              have hTb := e5 _ hl
              refine wp_neg ?_ (wp_pos (by rw [hd]; omega) (wpo_of ?_))
              · rw [b133, b19]
                exact fun z => absurd ((lt32 (by omega) (by omega)).mp z) (by omega)
              · rw [hd, Int.toNat_natCast, b3 _ hl, min32_id (by have := b4.1; omega) (by omega)]
                refine ⟨fun c i h => ?_, fun s hs => ?_, ?_⟩
                · rw [ms_ne h]
                  exact b2 c i h
                · rw [ms_ni (by omega)]
                  exact b3 s hs
                · rw [ms_same]
                  exact b4.take hfit hTb.1
          · refine wp_pos ?_ (wpo_of ⟨b2, b3, b4.skip (fun z => cr z.2.2)⟩)
            rw [b133, b19]
            exact (lt32 (by omega) (by omega)).mpr (by omega)
        · refine wp_neg (fun z => ?_) (wpo_of ⟨b2, b3, b4.skip (fun z => cs z.2.1)⟩)
          have hle : q &&& (k ^^^ 2147483647) ≤ q := Nat.and_le_left
          have hv := andn32_nat (a := q) (b := k) (by omega) (by omega)
          refine cs (hsn.mp ?_)
          rw [hv, w32_id (by omega)] at z
          rw [hv]
          exact z
      · rintro ⟨u1, B⟩ ⟨b1, b0, b2, b3, b4⟩
        dsimp only at b1 b2 b3 b4 ⊢
        subst b1
        exact wp_pos ((lt32 (by omega) (by omega)).mpr (by omega)) (wpo_of ⟨b2, b3, b4⟩)
      · dsimp only
        rw [ms_ne h]
        exact e3 c i h
      · dsimp only
        exact ms_ni (by omega)
      · dsimp only
        rw [ms_same]
        exact ⟨by decide, Or.inl rfl, fun q hq hl => absurd hq.1 (by omega)⟩
    · rintro B ⟨b2, b3, b4⟩
      refine wpo_of ⟨by dsimp only; omega, by omega, b2, ⟨?_, fun s hs1 hs2 => ?_⟩, fun s hs => ?_⟩
      · dsimp only
        rw [b3 0 e2]
        exact e4.1
      · dsimp only
        by_cases hsk : s = k
        · subst hsk
          obtain ⟨f1, f2, f3⟩ := b4
          refine ⟨f1.2, ?_, fun q hq => ?_⟩
          · rcases f2 with f2 | ⟨q, q1, q2⟩
            · exact Or.inl f2
            · exact Or.inr ⟨q, q1, by rw [b3 _ (xor_lt q1.2.1 q1.1)]; exact q2⟩
          · rw [b3 _ (xor_lt hq.2.1 hq.1)]
            exact f3 q hq (by have := hq.2.1.le; omega)
        · obtain ⟨f1, f2, f3⟩ := e4.2 s hs1 (by omega)
          rw [b3 s (by omega)]
          refine ⟨f1, ?_, fun q hq => ?_⟩
          · rcases f2 with f2 | ⟨q, q1, q2⟩
            · exact Or.inl f2
            · exact Or.inr ⟨q, q1, by rw [b3 _ (by have := xor_lt q1.2.1 q1.1; omega)]; exact q2⟩
          · rw [b3 _ (by have := xor_lt hq.2.1 hq.1; omega)]
            exact f3 q hq
      · dsimp only
        by_cases hsk : s = k
        · subst hsk
          exact b4.1
        · rw [b3 s (by omega)]
          exact e5 s (by omega)
  · rintro ⟨t1, N⟩ ⟨e1, e2, e3, e4, e5⟩
    dsimp only at e1 e2 e3 e4 e5 ⊢
    subst e1
    have n7 : N 118 7 = (yP Y : Int) := (e3 118 7 (by decide)).trans ((a1 118 7 (by decide) (by decide)).trans e7)
    refine wp_then (sp_allP hP.2 n7) (wp_pos ((lt32 (by omega) (by omega)).mpr (by omega)) (wpo_of ⟨fun c i h h' h'' => ?_, e4, e5⟩))
    rw [e3 c i h'', a1 c i h h']
  · dsimp only
    have h0 : s = 0 := by omega
    subst h0
    rw [ms_same]
    decide
