/-! PLAN (by hand) -/
theorem cons_dig {fx : Nat → Int} {P N d p : Nat} {g : Nat → Nat} (h : cons fx P N g) (hp : p < P) (e : fx p = (d : Int) - 1) (hd : d ≤ N) : g p = d := by
  have h1 := h p hp
  by_cases c : d = 0
  · rw [h1.1 (by omega), c]
  · have := ((h1.2 (d - 1)) (by omega)).1 (by omega)
    omega
theorem dig_cons {fx : Nat → Int} {P N : Nat} {g : Nat → Nat} (hg : ∀ p, g p ≤ N) (h : ∀ p, p < P → fx p = -2 ∨ fx p = (g p : Int) - 1) : cons fx P N g := by
  intro p hp
  have hgp := hg p
  rcases h p hp with h | h
  · exact ⟨fun e => by omega, fun m e => by omega⟩
  · exact ⟨fun e => by omega, fun m e => ⟨fun _ => by omega, fun _ => by omega⟩⟩
set_option maxHeartbeats 1000000 in
theorem sp_planLoop {M N : Mem} {p0 : Nat} {g : Nat → Nat} {b r c : Int} (hI : IC M) (hs : SK M N) (hY : YM (yW (M 118)) N) (h21 : N 117 21 = -1) (h137 : ∀ p, p < 8 → N 137 p = -2) (hp0 : p0 < pP M) (hb : Best (pA M) (pC M) (pF M) (pP M) (pN M) (pR M) (pK M) b r c) {z : Nat × Int × (Nat → Nat)} (hz : Rea (okm (pA M) (pP M) (pR M) (pK M) (cm (pF M) (pP M)) nomm) (wk (pC M) (pF M) (pP M)) (pN M) 0 z0 z) (hzb : z.2.1 = b) (hzr : row z.2.2 = r) (hg : g = z.2.2) : wpo (@loop (Int × Mem) (Mem) (fun s1 => if w32 (p0 : Int) < w32 s1.1 then some (Sum.inr s1.2) else if 0 ≤ s1.1 ∧ s1.1 < 8 then Option.bind (some (mset s1.2 137 s1.1.toNat (-1))) fun (D1 : Mem) => Option.bind (@loop (Mem) (Mem) (fun s2 => Option.bind (f10_leastOf s2) fun (a4 : Int × Mem) => if w32 a4.1 = w32 b then some (Sum.inr a4.2) else some (Sum.inl (mset a4.2 137 s1.1.toNat ((a4.2 137 s1.1.toNat) + 1)))) FU D1) fun (b2 : Mem) => some (Sum.inl ((s1.1 + 1), b2)) else none) FU (0, N)) (fun S => SK M S ∧ S 137 p0 = (g p0 : Int) - 1) := by
  have hP : pP M ≤ 8 := hI.P.2
  have hN : pN M ≤ 12 := hI.N.2
  have hbd := hI.1.bd
  have hB := hI.pb (R := pR M) (by unfold pR; omega)
  have hgN : ∀ p, g p ≤ pN M := by
    rw [hg]
    exact (Rea_inv hB.F0 hB.2.2.2.2.2.1.1 hB.2.2.2.2.2.2.1 (fun k => Sub.rf) _ z hz).2.1
  have hbb := hb.1
  refine wp_for (I := fun p t => t.1 = (p : Int) ∧ SK M t.2 ∧ YM (yW (M 118)) t.2 ∧ t.2 117 21 = -1 ∧ (∀ q, q < p → t.2 137 q = (g q : Int) - 1) ∧ ∀ q, p ≤ q → q < 8 → t.2 137 q = -2) (p0 + 1) ?_ ?_ FU 0 _ ⟨rfl, hs, hY, h21, fun q hq => absurd hq (Nat.not_lt_zero _), fun q _ hq => h137 q hq⟩ (Nat.zero_le _) (by unfold FU; omega)
  · rintro p ⟨p', S⟩ hp ⟨e1, e2, e3, e4, e5, e6⟩
    dsimp only at e1 e2 e3 e4 e5 e6 ⊢
    subst e1
    refine wp_neg (fun y => absurd ((lt32 (by omega) (by omega)).mp y) (by omega)) (wp_pos (by omega) (wp_then rfl ?_))
    rw [Int.toNat_natCast]
    have hgp := hgN p
    refine wp_bind.mpr (wpo_mono (P := fun T => SK M T ∧ YM (yW (M 118)) T ∧ T 117 21 = -1 ∧ (∀ q, q < p + 1 → T 137 q = (g q : Int) - 1) ∧ ∀ q, p + 1 ≤ q → q < 8 → T 137 q = -2) ?_ ?_)
    · refine wp_loopm (I := fun m T => ∃ v : Nat, m = g p - v ∧ v ≤ g p ∧ SK M T ∧ YM (yW (M 118)) T ∧ T 117 21 = -1 ∧ (∀ q, q < p → T 137 q = (g q : Int) - 1) ∧ T 137 p = (v : Int) - 1 ∧ ∀ q, p + 1 ≤ q → q < 8 → T 137 q = -2) ?_ FU (g p) _ ⟨0, rfl, Nat.zero_le _, e2.set (by unfold scr; omega), e3.congr2 (fun c i h => ms_ne (by omega)), (ms_ne (by decide)).trans e4, fun q hq => (ms_ni (by omega)).trans (e5 q hq), ms_same, fun q h1 h2 => (ms_ni (by omega)).trans (e6 q (by omega) h2)⟩ (by unfold FU; omega)
      rintro m T ⟨v, rfl, hv, t1, t2, t3, t4, t5, t6⟩
      refine wp_bind.mpr (wpo_mono (sp_leastY (fx := fun q => if q < p then (g q : Int) - 1 else if q = p then (v : Int) - 1 else -2) hI t1 (YE.self hI) t2 t3 (fun q hq => ?_)) ?_)
      · have hgq := hgN q
        by_cases c1 : q < p
        · rw [if_pos c1]
          exact ⟨t4 q c1, by omega, by omega⟩
        · rw [if_neg c1]
          by_cases c2 : q = p
          · rw [if_pos c2, c2]
            exact ⟨t5, by omega, by omega⟩
          · rw [if_neg c2]
            exact ⟨t6 q (by omega) (by omega), by omega, by omega⟩
      · rintro ⟨a4, U⟩ ⟨u1, u2, u3, u4, u5⟩
        dsimp only at u1 u2 u3 u4 u5 ⊢
        have ubd := u5.bd (by omega)
        have u137 : ∀ q, U 137 q = T 137 q := fun q => u1 137 q (by omega) (by omega)
        have hfl := fix_least hB (fun q hq => by
          split
          · omega
          · split <;> omega) hb u5
        have w4 : (w32 a4 = w32 b) ↔ a4 = b := eq32 (by omega) (by omega)
        by_cases c : v = g p
        · have : a4 = b := hfl.mpr ⟨z, hz, hzb, by
            rw [← hg]
            refine dig_cons hgN (fun q hq => ?_)
            by_cases c1 : q < p
            · rw [if_pos c1]; exact Or.inr rfl
            · rw [if_neg c1]
              by_cases c2 : q = p
              · rw [if_pos c2, c, c2]; exact Or.inr rfl
              · rw [if_neg c2]; exact Or.inl rfl⟩
          refine wp_pos (w4.mpr this) (wpo_of ⟨u2, u3, u4, fun q hq => ?_, fun q h1 h2 => (u137 q).trans (t6 q h1 h2)⟩)
          rw [u137 q]
          by_cases c2 : q = p
          · rw [c2, t5, c]
          · exact t4 q (by omega)
        · have : a4 ≠ b := fun y => by
            obtain ⟨z', y1, y2, y3⟩ := hfl.mp y
            have hz' := (Rea_inv hB.F0 hB.2.2.2.2.2.1.1 hB.2.2.2.2.2.2.1 (fun k => Sub.rf) _ z' y1).2.1
            have hlex := row_lex (g := z'.2.2) (g' := g) (p := p) (fun q => by have := hz' q; omega) (fun q => by have := hgN q; omega) (by omega) (fun q hq => cons_dig y3 (by omega) (if_pos hq) (hgN q)) (by
              have := cons_dig (d := v) y3 (show p < pP M by omega) (by rw [if_neg (Nat.lt_irrefl p), if_pos rfl]) (by omega)
              omega)
            have := hb.2.2.2.2.2.1 b (row z'.2.2) ⟨z', y1, y2, rfl⟩
            rw [hg, hzr] at hlex
            omega
          refine wp_neg (fun y => this (w4.mp y)) (wpo_of ⟨g p - (v + 1), by omega, v + 1, rfl, by omega, u2.set (by unfold scr; omega), u3.congr2 (fun c i h => ms_ne (by omega)), (ms_ne (by decide)).trans u4, fun q hq => ?_, ?_, fun q h1 h2 => ?_⟩)
          · rw [ms_ni (by omega), u137]
            exact t4 q hq
          · rw [ms_same, u137, t5]
            omega
          · rw [ms_ni (by omega), u137]
            exact t6 q h1 h2
    · rintro T ⟨t1, t2, t3, t4, t5⟩
      exact wpo_of ⟨by dsimp only; omega, t1, t2, t3, t4, t5⟩
  · rintro ⟨p', S⟩ ⟨e1, e2, e3, e4, e5, e6⟩
    dsimp only at e1 e2 e3 e4 e5 e6 ⊢
    subst e1
    exact wp_pos ((lt32 (by omega) (by omega)).mpr (by omega)) (wpo_of ⟨e2, e5 p0 (Nat.lt_succ_self p0)⟩)
theorem ag_plan {D : Mem} {x : Int} (hI : IC D) (hK : KP D) (hx : A32 x) : AGk D (f9_plan D x) (fun M => f10_plan M x) := by
  have hbd := hI.1.bd
  have hP := hI.P
  unfold AGk f9_plan f10_plan
  refine wp_then (sp_person9 hI hx) ?_
  by_cases c : 0 ≤ x ∧ x < D 118 7
  · have cp : 0 < D 118 9 := by
      have := hI.1.1
      omega
    refine wp_neg (fun z => if01.mp z c) (wp_bind.mpr (wpo_mono (sp_workP hI hK) ?_))
    rintro M ⟨m1, m2, m3⟩
    obtain ⟨hM, hw, k1⟩ := sp_both hI m1 m2 m3
    obtain ⟨p0, rfl⟩ : ∃ p : Nat, x = (p : Int) := ⟨x.toNat, by omega⟩
    have hp0 : p0 < pP M := by
      have := hM.P.1
      rw [hw] at this
      unfold pP
      rw [hw]
      omega
    have hP8 : pP M ≤ 8 := hM.P.2
    have hN12 : pN M ≤ 12 := hM.N.2
    obtain ⟨-, r, hb, h4⟩ := id k1
    obtain ⟨z, z1, z2, z3⟩ := hb.2.2.1
    have hB := hM.pb (R := pR M) (by unfold pR; rw [hw]; omega)
    have hdig := (Rea_inv hB.F0 hB.2.2.2.2.2.1.1 hB.2.2.2.2.2.2.1 (fun k => Sub.rf) _ z z1).2.1
    have h12 : ∀ p, z.2.2 p ≤ 12 := fun p => Nat.le_trans (hdig p) hN12
    have hr := row_bd h12
    refine wp_then (a := (z.2.2 p0 : Int) - 1) ?_ (wpo_of ?_)
    · show some (and64 (shr64 (M 49 4) (4 * (7 - (p0 : Int)))) 15 - 1) = some _
      have hdp : 0 ≤ row z.2.2 / mkk p0 ∧ row z.2.2 / mkk p0 ≤ row z.2.2 := by
        have hm : 1 ≤ mkk p0 := by
          have : ∀ p, p < 8 → 1 ≤ mkk p := by decide
          exact this p0 (by omega)
        exact ⟨Int.ediv_nonneg hr.1 (by omega), Int.ediv_le_self _ hr.1⟩
      rw [h4, ← z3, mark_shr (by omega) (by omega), and64_15 (by omega), row_dig h12 (by omega)]
    dsimp only
    refine wp_bind.mpr (wpo_mono (sp_first hM k1) ?_)
    rintro ⟨v, N⟩ ⟨a1, a0, a2⟩
    dsimp only at a1 a0 a2 ⊢
    refine wp_neg (by rw [a1]; exact fun z => if01.mp z (by rw [hw]; exact cp)) (wp_then (sp_person10 hM a0 hx) (wp_neg (fun z => if01.mp z (by rw [hw]; exact c)) ?_))
    refine wp_bind.mpr (wpo_mono a2 ?_)
    rintro ⟨u, S⟩ ⟨b1, b2, b3, b4, b5, -⟩
    dsimp only at b1 b2 b3 b4 b5 ⊢
    rw [b5]
    refine wp_bind.mpr (wpo_mono (sp_planLoop hM b1 b2 b3 b4 hp0 hb z1 z2 z3 rfl) ?_)
    rintro T ⟨t1, t2⟩
    refine wp_pos (by omega) (wpo_of ⟨?_, m1.tr (t1.sx 49 57), KP.to ((funext (fun i => t1 118 i (by unfold scr; omega))).trans hw) m2 m3 t1⟩)
    rw [Int.toNat_natCast, t2]
  · refine wp_pos (if01.mpr c) (wpo_of (wp_bind.mpr (wpo_mono (sp_asksPlans hI) ?_)))
    rintro ⟨v, N⟩ ⟨a1, a2, -⟩
    dsimp only at a1 a2 ⊢
    by_cases cp : 0 < D 118 9
    · exact wp_neg (by rw [a1]; exact fun z => if01.mp z cp) (wp_then (sp_person10 hI a2 hx) (wp_pos (if01.mpr c) (wpo_of ⟨rfl, a2.sx 49 57, hK.sk a2⟩)))
    · exact wp_pos (by rw [a1]; exact if01.mpr cp) (wpo_of ⟨rfl, a2.sx 49 57, hK.sk a2⟩)
