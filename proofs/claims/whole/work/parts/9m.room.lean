/-! ROOM (by hand) -/
theorem Rea_mono {ok ok' : Nat → Nat → Nat → Bool} {w : Nat → Nat → Int} (h : ∀ k s x, ok k s x = true → ok' k s x = true) : ∀ (m k : Nat) (z z' : Nat × Int × (Nat → Nat)), Rea ok w m k z z' → Rea ok' w m k z z' := by
  intro m
  induction m with
  | zero => intro k z z' h; exact h
  | succ m ih =>
    rintro k z z' ⟨x, h1, h2, h3⟩
    exact ⟨x, h1, h _ _ _ h2, ih _ _ _ h3⟩
/-- with room R, nobody need bear more than x -/
def okr (M : Mem) (x R : Int) : Prop := ∃ z, Rea (okm (pA M) (pP M) R (pK M) (cm (pF M) (pP M)) nomm) (wk (pC M) (pF M) (pP M)) (pN M) 0 z0 z ∧ z.2.1 ≤ x
theorem okr_mono {M : Mem} {x R R' : Int} (h : R ≤ R') (hz : okr M x R) : okr M x R' := by
  obtain ⟨z, h1, h2⟩ := hz
  refine ⟨z, Rea_mono (fun k s y hy => ?_) _ _ _ _ h1, h2⟩
  rw [okm_iff] at hy ⊢
  exact ⟨hy.1, hy.2.1, hy.2.2.1, by omega, hy.2.2.2.2⟩
theorem okr_best {M : Mem} {x R b r c : Int} (h : Best (pA M) (pC M) (pF M) (pP M) (pN M) R (pK M) b r c) : b ≤ x ↔ okr M x R := by
  obtain ⟨b1, b2, ⟨z, z1, z2, z3⟩, b4, b5, b6, b7⟩ := h
  constructor
  · intro hx
    exact ⟨z, z1, by omega⟩
  · rintro ⟨z', y1, y2⟩
    have := b6 _ _ ⟨z', y1, rfl, rfl⟩
    omega
theorem okr_ref {M : Mem} {x R v c : Int} {fx : Nat → Int} (hx : x ≤ 20000) (hf : ∀ p, p < pP M → fx p = -2) (h : TBp (1440 * (pN M : Int)) v c (Zr (pA M) (pC M) (pF M) fx (pP M) (pN M) R (pK M) 0 0)) : v ≤ x ↔ okr M x R := by
  have e : ∀ y, Zr (pA M) (pC M) (pF M) fx (pP M) (pN M) R (pK M) 0 0 y = Tot (okm (pA M) (pP M) R (pK M) (cm (pF M) (pP M)) nomm) (wk (pC M) (pF M) (pP M)) (pN M) 0 (ind y) z0 := fun y => by
    unfold Zr
    rw [(fmk_no (F := pF M) hf).1, (fmk_no (F := pF M) hf).2]
    rfl
  constructor
  · intro hv
    rcases h with ⟨t1, t2, t3⟩ | ⟨t1, t2, t3, t4⟩
    · omega
    · refine Classical.byContradiction (fun hn => ?_)
      have : Zr (pA M) (pC M) (pF M) fx (pP M) (pN M) R (pK M) 0 0 v = 0 := by
        rw [e]
        exact Tot_none (fun z hz => if_neg (fun y => hn ⟨z, hz, by omega⟩))
      omega
  · rintro ⟨z, z1, z2⟩
    have hp := (Tot_pos (ok := okm (pA M) (pP M) R (pK M) (cm (pF M) (pP M)) nomm) (w := wk (pC M) (pF M) (pP M)) (pN M) 0 (ind z.2.1) z0 (fun z => by unfold ind; split <;> decide)).2 z z1
    rw [← e] at hp
    have e1 : ind z.2.1 z = 1 := if_pos rfl
    rw [e1] at hp
    rcases h with ⟨t1, t2, t3⟩ | ⟨t1, t2, t3, t4⟩
    · have := t3 z.2.1
      omega
    · by_cases l : z.2.1 < v
      · have := t4 _ l
        omega
      · omega
def F67 (M S : Mem) : Prop := ∀ c i, c ≠ 56 → c ≠ 57 → S c i = M c i
theorem sp_leastBy {M S : Mem} {R : Int} (hI : IC M) (k1 : KP1 M M) (hS : F67 M S) (hR : 0 ≤ R ∧ R ≤ 160) : wpo (f3_leastBy S R) (fun r => F67 M r.2 ∧ ∃ ρ γ, Best (pA M) (pC M) (pF M) (pP M) (pN M) R (pK M) r.1 ρ γ) := by
  have hP := hI.P
  have hN := hI.N
  have hB := hI.pb hR
  have s : ∀ i, S 12 i = M 12 i := fun i => hS 12 i (by decide) (by decide)
  have hp : ∀ p, p < pP M → S 14 p = pF M p := fun p hp => by
    have hq : (p : Int) < M 118 7 := by rw [← hP.1]; exact Int.ofNat_lt.mpr hp
    rw [hS 14 p (by decide) (by decide)]
    exact (hI.2.1.2.1 p hq).2.1
  unfold f3_leastBy
  refine wp_bind.mpr (wpo_mono (sp_search hB (k1.1.congr (fun c i x y => hS c i (by omega) (by omega))) (by rw [s, hI.e8]; exact hP.1.symm) (by rw [s, hI.e1]; exact hN.1.symm) hp (by rw [s, s, hI.2.1.1.2.2.2.1, hI.2.1.1.2.2.2.2.1]; rfl)) ?_)
  rintro T ⟨t1, r, t2, t3⟩
  refine wp_then rfl (wp_then rfl (wpo_of ⟨fun c i x y => ?_, r, _, t2⟩))
  dsimp only
  by_cases e : c = 49 ∧ (i = 2 ∨ i = 3 ∨ i = 4)
  · obtain ⟨rfl, e2⟩ := e
    rcases e2 with rfl | rfl | rfl
    · rw [ms_ni (by decide), ms_ni (by decide), ms_same]
      exact hS 49 2 x y
    · rw [ms_ni (by decide), ms_same]
      exact hS 49 3 x y
    · rw [ms_same]
      exact hS 49 4 x y
  · rw [ms_at, if_neg (by omega), ms_at, if_neg (by omega), ms_at, if_neg (by omega), t1 c i x y (by omega)]
    exact hS c i x y
def RS (M : Mem) (x v : Int) : Prop := (v = -1 ∧ ¬ okr M x 160) ∨ ((1 ≤ v ∧ v ≤ 160) ∧ okr M x v ∧ ∀ R, 1 ≤ R → R < v → ¬ okr M x R)
theorem sp_roomC {M : Mem} {x : Int} (hI : IC M) (k1 : KP1 M M) (hx : 0 ≤ x ∧ x ≤ 20000) : wpo (f3_leastRoom M x) (fun r => F67 M r.2 ∧ RS M x r.1) := by
  unfold f3_leastRoom
  refine wp_bind.mpr (wpo_mono (sp_leastBy hI k1 (fun _ _ _ _ => rfl) (by decide)) ?_)
  rintro ⟨b, S⟩ ⟨s1, ρ, γ, s2⟩
  dsimp only at s1 s2 ⊢
  have hbb := s2.1
  by_cases c : x < b
  · exact wp_pos ((lt32 (by omega) (by omega)).mpr c) (wpo_of ⟨s1, Or.inl ⟨rfl, fun z => by have := (okr_best s2).mpr z; omega⟩⟩)
  · refine wp_neg (fun z => c ((lt32 (by omega) (by omega)).mp z)) ?_
    refine wp_bind.mpr (wpo_mono (P := fun r => F67 M r.2 ∧ RS M x r.1) ?_ (fun r h => wpo_of h))
    refine wp_for (I := fun k t => k ≤ 8 ∧ t.2.2.1 = (k : Int) ∧ (0 ≤ t.1 ∧ t.1 < t.2.1 ∧ t.2.1 ≤ 160) ∧ t.2.1 - t.1 ≤ ((2 ^ (8 - k) : Nat) : Int) ∧ (t.1 = 0 ∨ ¬ okr M x t.1) ∧ okr M x t.2.1 ∧ F67 M t.2.2.2) 9 ?_ ?_ FU 0 _ ⟨by decide, rfl, (by decide : (0 : Int) ≤ 0 ∧ (0 : Int) < 160 ∧ (160 : Int) ≤ 160), (by decide : (160 : Int) - 0 ≤ ((2 ^ (8 - 0) : Nat) : Int)), Or.inl rfl, (okr_best s2).mp (by omega), s1⟩ (Nat.zero_le _) (by unfold FU; omega)
    · rintro k ⟨lo, hi, k', T⟩ hk ⟨h8, e1, e2, e3, e4, e5, e6⟩
      dsimp only at e1 e2 e3 e4 e5 e6 ⊢
      subst e1
      refine wp_pos ((lt32 (by omega) (by omega)).mpr (by omega)) ?_
      by_cases d : 1 < hi - lo
      · have hk8 : k < 8 := by
          refine Classical.byContradiction (fun hn => ?_)
          have : k = 8 := by omega
          subst this
          have e : ((2 ^ (8 - 8) : Nat) : Int) = 1 := rfl
          omega
        have hpw : ((2 ^ (8 - k) : Nat) : Int) = 2 * ((2 ^ (8 - (k + 1)) : Nat) : Int) := by
          rw [show 8 - k = (8 - (k + 1)) + 1 by omega, Nat.pow_succ]
          omega
        have hdiv : div32 (lo + hi) 2 = (lo + hi) / 2 := div32_id (by omega) (by decide)
        refine wp_pos ((lt32 (by omega) (by omega)).mpr d) (wp_then rfl ?_)
        rw [hdiv]
        generalize hm : (lo + hi) / 2 = mid
        have hmid : lo < mid ∧ mid < hi ∧ 2 * mid ≤ lo + hi ∧ lo + hi ≤ 2 * mid + 1 := by omega
        refine wp_bind.mpr (wpo_mono (sp_leastBy hI k1 e6 (R := mid) (by omega)) ?_)
        rintro ⟨b2, T2⟩ ⟨f1, ρ2, γ2, f2⟩
        dsimp only at f1 f2 ⊢
        have hb2 := f2.1
        have hob := okr_best (x := x) f2
        by_cases c2 : x < b2
        · exact wp_then (if_pos ((lt32 (by omega) (by omega)).mpr c2)) (wpo_of ⟨by omega, by dsimp only; omega, by dsimp only; omega, by dsimp only; omega, Or.inr (fun z => by have := hob.mpr z; omega), e5, f1⟩)
        · exact wp_then (if_neg (fun z => c2 ((lt32 (by omega) (by omega)).mp z))) (wpo_of ⟨by omega, by dsimp only; omega, by dsimp only; omega, by dsimp only; omega, e4, hob.mp (by omega), f1⟩)
      · refine wp_neg (fun z => d ((lt32 (by omega) (by omega)).mp z)) (wpo_of ⟨e6, Or.inr ⟨by dsimp only; omega, e5, fun R r1 r2 => ?_⟩⟩)
        dsimp only at r2
        rcases e4 with e4 | e4
        · omega
        · exact fun z => e4 (okr_mono (by omega) z)
    · rintro ⟨lo, hi, k', T⟩ ⟨h8, -⟩
      omega
theorem YE.room {Y M : Mem} {v : Int} (h : YE Y M) (hv : 0 ≤ v ∧ v ≤ 160) : YE (mset Y 0 1 v) M := by
  obtain ⟨y1, y2, y3, y4, y5, y6⟩ := h
  have r1 : ∀ k, k ≠ 0 → (mset Y 0 1 v) k = Y k := fun k hk => funext (fun i => ms_ne hk)
  refine ⟨y1.num (Or.inl ⟨rfl, hv.1, hv.2⟩), (r1 1 (by decide)).trans y2, ?_, (r1 3 (by decide)).trans y4, ?_, ?_⟩
  · rw [← y3]
    funext p
    unfold ycost
    rw [r1 1 (by decide), r1 2 (by decide)]
  · rw [← y5]
    unfold yP
    rw [ms_ni (by decide)]
  · rw [← y6]
    unfold yN
    rw [ms_ni (by decide)]
theorem sp_roomM {M N : Mem} {x : Int} (hI : IC M) (hs : SK M N) (hY : YM (yW (M 118)) N) (h21 : N 117 21 = -1) (h137 : ∀ p, p < 8 → N 137 p = -2) (hx : 0 ≤ x ∧ x ≤ 20000) : wpo (@loop (Int × Int × Mem) (Int × Mem) (fun s1 => if w32 1 < w32 (s1.2.1 - s1.1) then Option.bind (some (mset s1.2.2 117 19 (div32 (s1.1 + s1.2.1) 2))) fun (D1 : Mem) => Option.bind (f10_leastOf D1) fun (a3 : Int × Mem) => if w32 x < w32 a3.1 then some (Sum.inl ((a3.2 117 19), s1.2.1, a3.2)) else some (Sum.inl (s1.1, (a3.2 117 19), a3.2)) else some (Sum.inr (s1.2.1, s1.2.2))) FU (0, 161, N)) (fun r => SK M r.2 ∧ (1 ≤ r.1 ∧ r.1 ≤ 161) ∧ (r.1 ≤ 160 → okr M x r.1) ∧ ∀ R, 1 ≤ R → R < r.1 → ¬ okr M x R) := by
  have hP : pP M ≤ 8 := hI.P.2
  have hN : pN M ≤ 12 := hI.N.2
  refine wp_loopm (I := fun m t => (m : Int) = t.2.1 - t.1 ∧ (0 ≤ t.1 ∧ t.1 < t.2.1 ∧ t.2.1 ≤ 161) ∧ (t.1 = 0 ∨ ¬ okr M x t.1) ∧ (t.2.1 ≤ 160 → okr M x t.2.1) ∧ SK M t.2.2 ∧ (∃ Y, YE Y M ∧ YM Y t.2.2) ∧ t.2.2 117 21 = -1 ∧ ∀ p, p < 8 → t.2.2 137 p = -2) ?_ FU 161 _ ⟨(by decide : ((161 : Nat) : Int) = 161 - 0), (by decide : (0 : Int) ≤ 0 ∧ (0 : Int) < 161 ∧ (161 : Int) ≤ 161), Or.inl rfl, fun z => absurd z (by decide : ¬ (161 : Int) ≤ 160), hs, ⟨_, YE.self hI, hY⟩, h21, h137⟩ (by unfold FU; omega)
  rintro m ⟨lo, hi, T⟩ ⟨e1, e2, e3, e4, e5, ⟨Y, e6, e7⟩, e8, e9⟩
  dsimp only at e1 e2 e3 e4 e5 e7 e8 e9 ⊢
  by_cases d : 1 < hi - lo
  · have hdiv : div32 (lo + hi) 2 = (lo + hi) / 2 := div32_id (by omega) (by decide)
    refine wp_pos ((lt32 (by omega) (by omega)).mpr d) (wp_then rfl ?_)
    rw [hdiv]
    generalize hm : (lo + hi) / 2 = mid
    have hmid : lo < mid ∧ mid < hi := by omega
    have hYE := e6.room (v := mid) (by omega)
    refine wp_bind.mpr (wpo_mono (sp_leastY (fx := fun _ => -2) hI (e5.set (by unfold scr; omega)) hYE (e7.room mid) ((ms_ni (by decide)).trans e8) (fun p hp => ⟨(ms_ne (by decide)).trans (e9 p (by omega)), by decide, by decide⟩)) ?_)
    rintro ⟨v, U⟩ ⟨u1, u2, u3, u4, u5⟩
    dsimp only at u1 u2 u3 u4 u5 ⊢
    have u19 : U 117 19 = mid := (u1 117 19 (by omega) (by omega)).trans ms_same
    have u137 : ∀ p, p < 8 → U 137 p = -2 := fun p hp => (u1 137 p (by omega) (by omega)).trans ((ms_ne (by decide)).trans (e9 p hp))
    have ubd := u5.bd (by omega)
    rw [show mset Y 0 1 mid 0 1 = mid from ms_same] at u5
    have hob := okr_ref (x := x) hx.2 (fun p _ => rfl) u5
    by_cases c : x < v
    · exact wp_pos ((lt32 (by omega) (by omega)).mpr c) (wpo_of ⟨(hi - mid).toNat, by omega, by dsimp only; omega, by dsimp only; omega, Or.inr (by dsimp only; rw [u19]; exact fun z => by have := hob.mpr z; omega), e4, u2, ⟨_, hYE, u3⟩, u4, u137⟩)
    · exact wp_neg (fun z => c ((lt32 (by omega) (by omega)).mp z)) (wpo_of ⟨(mid - lo).toNat, by omega, by dsimp only; omega, by dsimp only; omega, e3, fun _ => by dsimp only; rw [u19]; exact hob.mp (by omega), u2, ⟨_, hYE, u3⟩, u4, u137⟩)
  · refine wp_neg (fun z => d ((lt32 (by omega) (by omega)).mp z)) (wpo_of ⟨e5, by dsimp only; omega, e4, fun R r1 r2 => ?_⟩)
    dsimp only at r2
    rcases e3 with e3 | e3
    · omega
    · exact fun z => e3 (okr_mono (by omega) z)
theorem ag_room {D : Mem} {x : Int} (hI : IC D) (hK : KP D) (hx : A32 x) : AGk D (f9_room D x) (fun M => f10_room M x) := by
  have hx' := hx
  unfold A32 at hx'
  have hin : ∀ M : Mem, f10_in M (w32 x) 0 20000 = some (if 0 ≤ x ∧ x ≤ 20000 then 1 else 0) := fun M => by
    rw [w32_id hx']
    exact sp_in (by omega) (by omega) (by omega)
  have bad : ¬ (0 ≤ x ∧ x ≤ 20000) → wpo (f10_room D x) (fun b => (-2 : Int) = b.1 ∧ SX 49 57 D b.2 ∧ KP b.2) := by
    intro hn
    unfold f10_room
    refine wp_bind.mpr (wpo_mono (sp_asksPlans hI) ?_)
    rintro ⟨v, N⟩ ⟨a1, a2, -⟩
    dsimp only at a1 a2 ⊢
    by_cases cp : 0 < D 118 9
    · exact wp_neg (by rw [a1]; exact fun z => if01.mp z cp) (wp_then (hin _) (wp_pos (if01.mpr hn) (wpo_of ⟨rfl, a2.sx 49 57, hK.sk a2⟩)))
    · exact wp_pos (by rw [a1]; exact if01.mpr cp) (wpo_of ⟨rfl, a2.sx 49 57, hK.sk a2⟩)
  unfold AGk f9_room
  refine wp_then (sp_there9 hI) ?_
  by_cases c : 0 < D 118 9
  · refine wp_neg (fun z => if01.mp z c) ?_
    by_cases c1 : x < 0
    · exact wp_pos (by rw [w32_id hx']; exact c1) (wpo_of (bad (by omega)))
    refine wp_neg (by rw [w32_id hx']; exact c1) ?_
    by_cases c2 : 20000 < x
    · exact wp_pos ((lt32 (by omega) hx').mpr c2) (wpo_of (bad (by omega)))
    refine wp_neg (fun z => c2 ((lt32 (by omega) hx').mp z)) (wp_bind.mpr (wpo_mono (sp_workP hI hK) ?_))
    rintro M ⟨m1, m2, m3⟩
    obtain ⟨hM, hw, k1⟩ := sp_both hI m1 m2 m3
    refine wp_bind.mpr (wpo_mono (sp_roomC hM k1 (x := x) (by omega)) ?_)
    rintro ⟨v, S⟩ ⟨s1, s2⟩
    dsimp only at s1 s2 ⊢
    have hMS : SK M S := fun c i h => s1 c i (by unfold scr at h; omega) (by unfold scr at h; omega)
    have hS := hM.sk hMS
    have hwS : S 118 = M 118 := funext (fun i => hMS 118 i (by unfold scr; omega))
    have hok : ∀ R, okr S x R ↔ okr M x R := fun R => by
      unfold okr pA pC pF pP pN pK
      rw [hwS]
    unfold f10_room
    refine wpo_of (wp_bind.mpr (wpo_mono (sp_asksPlans hS) ?_))
    rintro ⟨v2, N⟩ ⟨a1, a2, a3, a4, a5⟩
    dsimp only at a1 a2 a3 a4 a5 ⊢
    refine wp_neg (by rw [a1]; exact fun z => if01.mp z (by rw [hwS, hw]; exact c)) (wp_then (hin _) (wp_neg (fun z => if01.mp z (by omega)) ?_))
    refine wp_bind.mpr (wpo_mono (sp_roomM hS a2 a3 a4 a5 (x := x) (by omega)) ?_)
    rintro ⟨u, T⟩ ⟨t1, t2, t3, t4⟩
    dsimp only at t1 t2 t3 t4 ⊢
    have fin : SX 49 57 D T ∧ KP T := ⟨m1.tr ((hMS.tr t1).sx 49 57), KP.to ((funext (fun i => (hMS.tr t1) 118 i (by unfold scr; omega))).trans hw) m2 m3 (hMS.tr t1)⟩
    rcases s2 with ⟨rfl, s3⟩ | ⟨s3, s4, s5⟩
    · have : ¬ u ≤ 160 := fun z => s3 (okr_mono z ((hok _).mp (t3 z)))
      exact wp_pos ((lt32 (by omega) (by omega)).mpr (by omega)) (wpo_of ⟨rfl, fin⟩)
    · have l1 : ¬ v < u := fun z => t4 v s3.1 z ((hok _).mpr s4)
      have l2 : ¬ u < v := fun z => s5 u t2.1 z ((hok _).mp (t3 (by omega)))
      have : u = v := by omega
      exact wp_neg (fun z => absurd ((lt32 (by omega) (by omega)).mp z) (by omega)) (wpo_of ⟨by rw [this], fin⟩)
  · exact wp_pos (if01.mpr c) (wpo_of (ag_none hI hK c (fun r hr => if_pos hr)))
