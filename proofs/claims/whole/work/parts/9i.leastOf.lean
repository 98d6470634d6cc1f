/-! PLANS: the reference's least (by hand) -/
def LF (M M' : Mem) : Prop := ∀ c i, (c < 133 ∨ 136 < c) → (c ≠ 117 ∨ i < 34 ∨ 36 < i) → M' c i = M c i
def TBs (A Co F fx : Nat → Int) (P N : Nat) (R K : Int) (l s : Nat) (S : Mem) : Prop := TBp (1440 * ((N : Int) - (l : Int))) (S 135 (256 * l + s)) (S 136 (256 * l + s)) (Zr A Co F fx P N R K l s)
theorem TBs.congr {A Co F fx : Nat → Int} {P N : Nat} {R K : Int} {l s : Nat} {S S' : Mem} (h : TBs A Co F fx P N R K l s S) (e5 : S' 135 (256 * l + s) = S 135 (256 * l + s)) (e6 : S' 136 (256 * l + s) = S 136 (256 * l + s)) : TBs A Co F fx P N R K l s S' := by
  unfold TBs
  rw [e5, e6]
  exact h
def F5 (M M' : Mem) : Prop := ∀ c i, c ≠ 135 → c ≠ 136 → (c ≠ 117 ∨ i < 34 ∨ 36 < i) → M' c i = M c i
set_option maxHeartbeats 1000000 in
theorem sp_leastOf {Y M : Mem} {fx : Nat → Int} {K : Int} (hY : YOK Y) (hM : YM Y M) (h21 : M 117 21 = -1) (hB : PB (Y 1) (ycost Y) (Y 3) (yP Y) (yN Y) (Y 0 1) K) (hK : M 118 2 * M 118 3 = K) (hx : ∀ p, p < yP Y → M 137 p = fx p ∧ -2 ≤ fx p ∧ fx p ≤ 20) : wpo (f10_leastOf M) (fun r => LF M r.2 ∧ TBp (1440 * (yN Y : Int)) r.1 (r.2 136 0) (Zr (Y 1) (ycost Y) (Y 3) fx (yP Y) (yN Y) (Y 0 1) K 0 0)) := by
  have hP := hY.P
  have hN := hY.N
  have h256 := pow8 hP.2
  have hpos : 0 < 2 ^ yP Y := Nat.two_pow_pos _
  unfold f10_leastOf
  refine wp_bind.mpr (wpo_mono (sp_laySums hY hM) ?_)
  rintro M1 ⟨a1, a2⟩
  have m0 : M1 118 0 = (yN Y : Int) := by rw [a1 118 0 (by decide) (by decide), ← hM.1, hN.1]
  have m7 : M1 118 7 = (yP Y : Int) := by rw [a1 118 7 (by decide) (by decide), ← hM.2.2.2.2.2.2.1, hP.1]
  have m19 : M1 117 19 = Y 0 1 := by rw [a1 117 19 (by decide) (by decide), ← hM.2.1]
  have mK : M1 118 2 * M1 118 3 = K := by rw [a1 118 2 (by decide) (by decide), a1 118 3 (by decide) (by decide)]; exact hK
  have mF : ∀ p, p < yP Y → M1 125 p = Y 3 p ∧ M1 137 p = fx p := fun p hp => by
    have h3 := (hM.2.2.2.2.2.2.2.2 p hp).2.2.1
    rw [h21, if_neg (by omega)] at h3
    exact ⟨(a1 125 p (by decide) (by decide)).trans h3.symm, (a1 137 p (by decide) (by decide)).trans (hx p hp).1⟩
  refine wp_then (show f10_nights M1 = some ((yN Y : Nat) : Int) from congrArg some m0) ?_
  refine wp_bind.mpr (wpo_mono (P := fun S => F5 M1 S ∧ ∀ l s, l ≤ yN Y → s < 2 ^ yP Y → TBs (Y 1) (ycost Y) (Y 3) fx (yP Y) (yN Y) (Y 0 1) K l s S) ?_ ?_)
  · refine wp_for (I := fun j t => t.1 = (yN Y : Int) - (j : Int) ∧ F5 M1 t.2 ∧ ∀ l s, l ≤ yN Y → yN Y < l + j → s < 2 ^ yP Y → TBs (Y 1) (ycost Y) (Y 3) fx (yP Y) (yN Y) (Y 0 1) K l s t.2) (yN Y + 1) ?_ ?_ FU 0 _ ⟨by dsimp only; omega, fun _ _ _ _ _ => rfl, fun l s h1 h2 => by omega⟩ (Nat.zero_le _) (by unfold FU; omega)
    · rintro j ⟨k', S⟩ hj ⟨e1, e2, e3⟩
      dsimp only at e1 e2 e3 ⊢
      obtain ⟨k, hk⟩ : ∃ k : Nat, yN Y = k + j := ⟨yN Y - j, by omega⟩
      have ek : k' = (k : Int) := by omega
      subst ek
      refine wp_neg (by rw [w32_id (by omega)]; omega) ?_
      refine wp_bind.mpr (wpo_mono (sp_layWho (fx := fx) (F := Y 3) (P := yP Y) (k := k) hP.2 (by omega) ((e2 118 7 (by decide) (by decide) (by omega)).trans m7) hB.2.2.2.2.1 (fun p hp => (hx p hp).2) (fun p hp => ⟨(e2 125 p (by decide) (by decide) (by omega)).trans (mF p hp).1, (e2 137 p (by decide) (by decide) (by omega)).trans (mF p hp).2⟩)) ?_)
      rintro S1 ⟨w1, w34, w35, w36⟩
      refine wp_bind.mpr (wpo_mono (P := fun T => F5 M1 T ∧ ∀ l s, l ≤ yN Y → yN Y < l + (j + 1) → s < 2 ^ yP Y → TBs (Y 1) (ycost Y) (Y 3) fx (yP Y) (yN Y) (Y 0 1) K l s T) ?_ ?_)
      · refine wp_for (I := fun s t => t.1 = (s : Int) ∧ (∀ c i, c ≠ 135 → c ≠ 136 → t.2 c i = S1 c i) ∧ (∀ l r, l ≤ yN Y → k < l → r < 2 ^ yP Y → TBs (Y 1) (ycost Y) (Y 3) fx (yP Y) (yN Y) (Y 0 1) K l r t.2) ∧ ∀ r, r < s → TBs (Y 1) (ycost Y) (Y 3) fx (yP Y) (yN Y) (Y 0 1) K k r t.2) (2 ^ yP Y) ?_ ?_ FU 0 _ ⟨rfl, fun _ _ _ _ => rfl, fun l r h1 h2 h3 => (e3 l r h1 (by omega) h3).congr (w1 135 _ (by omega)) (w1 136 _ (by omega)), fun r hr => absurd hr (Nat.not_lt_zero _)⟩ (Nat.zero_le _) (by unfold FU; omega)
        · rintro s ⟨s', T⟩ hs ⟨g1, g2, g3, g4⟩
          dsimp only at g1 g2 g3 g4 ⊢
          subst g1
          have t1 : ∀ c i, c ≠ 135 → c ≠ 136 → (c ≠ 117 ∨ i < 34 ∨ 36 < i) → T c i = M1 c i := fun c i x y z => (g2 c i x y).trans ((w1 c i z).trans (e2 c i x y z))
          have t7 := (t1 118 7 (by decide) (by decide) (by omega)).trans m7
          have t0 := (t1 118 0 (by decide) (by decide) (by omega)).trans m0
          refine wp_then (sp_allP hP.2 t7) (wp_neg (fun z => absurd ((lt32 (by omega) (by omega)).mp z) (by omega)) ?_)
          refine wp_then (show f10_nights T = some ((yN Y : Nat) : Int) from congrArg some t0) ?_
          refine wp_bind.mpr (wpo_mono (P := fun T' => ∃ v c : Int, T' = mset (mset T 135 (256 * k + s) v) 136 (256 * k + s) c ∧ TBp (1440 * ((yN Y : Int) - (k : Int))) v c (Zr (Y 1) (ycost Y) (Y 3) fx (yP Y) (yN Y) (Y 0 1) K k s)) ?_ ?_)
          · by_cases ck : k < yN Y
            · refine wp_pos ((lt32 (by omega) (by omega)).mpr (by omega)) ?_
              refine wp_bind.mpr (wpo_mono (sp_layState hB ck hs ((g2 117 34 (by decide) (by decide)).trans w34) ((g2 117 35 (by decide) (by decide)).trans w35) ((g2 117 36 (by decide) (by decide)).trans w36) ((t1 117 19 (by decide) (by decide) (by omega)).trans m19) (by rw [t1 118 2 (by decide) (by decide) (by omega), t1 118 3 (by decide) (by decide) (by omega)]; exact mK) (fun q hq => by rw [t1 133 q (by decide) (by decide) (by omega), t1 134 q (by decide) (by decide) (by omega)]; exact a2 q hq) (fun t ht => g3 (k + 1) t (by omega) (by omega) ht)) ?_)
              exact fun T' h => wpo_of h
            · have hst : 256 * (k : Int) + (s : Int) = ((256 * k + s : Nat) : Int) := by omega
              have ek : k = yN Y := by omega
              refine wp_neg (fun z => absurd ((lt32 (by omega) (by omega)).mp z) (by omega)) ?_
              refine wp_then (a := ((256 * k + s : Nat) : Int)) (by show some (256 * (k : Int) + (s : Int)) = _; rw [hst]) (wp_pos (by omega) (wp_then rfl (wp_then (a := ((256 * k + s : Nat) : Int)) (by show some (256 * (k : Int) + (s : Int)) = _; rw [hst]) (wp_pos (by omega) (wpo_of ⟨0, 1, by rw [Int.toNat_natCast], ?_⟩)))))
              rw [ek]
              refine Or.inr ⟨by omega, by rw [Zr_end, if_pos rfl], by decide, fun b hb => by rw [Zr_end, if_neg (by omega)]⟩
          · rintro T' ⟨v, c, rfl, h⟩
            refine wpo_of ⟨by dsimp only; omega, fun c' i x y => ?_, fun l r h1 h2 h3 => ?_, fun r hr => ?_⟩
            · dsimp only
              rw [ms_ne y, ms_ne x]
              exact g2 c' i x y
            · dsimp only
              refine (g3 l r h1 h2 h3).congr ?_ ?_
              · rw [ms_ne (by decide), ms_ni (by omega)]
              · rw [ms_ni (by omega), ms_ne (by decide)]
            · dsimp only
              by_cases e : r = s
              · rw [e]
                unfold TBs
                rw [ms_ne (by decide), ms_same, ms_same]
                exact h
              · refine (g4 r (by omega)).congr ?_ ?_
                · rw [ms_ne (by decide), ms_ni (by omega)]
                · rw [ms_ni (by omega), ms_ne (by decide)]
        · rintro ⟨s', T⟩ ⟨g1, g2, g3, g4⟩
          dsimp only at g1 g2 g3 g4 ⊢
          subst g1
          have t1 : ∀ c i, c ≠ 135 → c ≠ 136 → (c ≠ 117 ∨ i < 34 ∨ 36 < i) → T c i = M1 c i := fun c i x y z => (g2 c i x y).trans ((w1 c i z).trans (e2 c i x y z))
          have t7 := (t1 118 7 (by decide) (by decide) (by omega)).trans m7
          refine wp_then (sp_allP hP.2 t7) (wp_pos ((lt32 (by omega) (by omega)).mpr (by omega)) (wpo_of ⟨t1, fun l r h1 h2 h3 => ?_⟩))
          by_cases e : l = k
          · rw [e]
            exact g4 r h3
          · exact g3 l r h1 (by omega) h3
      · rintro T ⟨b1, b2⟩
        exact wpo_of ⟨by dsimp only; omega, b1, b2⟩
    · rintro ⟨k', S⟩ ⟨e1, e2, e3⟩
      dsimp only at e1 e2 e3 ⊢
      have ek : k' = -1 := by omega
      subst ek
      exact wp_pos (by decide) (wpo_of ⟨e2, fun l s h1 h2 => e3 l s h1 (by omega) h2⟩)
  · rintro S ⟨b1, b2⟩
    refine wpo_of ⟨fun c i x y => ?_, ?_⟩
    · exact (b1 c i (by omega) (by omega) y).trans (a1 c i (by omega) (by omega))
    · have := b2 0 0 (Nat.zero_le _) hpos
      unfold TBs at this
      rw [show (yN Y : Int) - ((0 : Nat) : Int) = (yN Y : Int) by omega] at this
      exact this
