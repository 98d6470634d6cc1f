/-! KINDER (by hand) -/
theorem rch_off {f : Nat → Nat → Bool} {g : Nat → Bool} {n p u : Nat} (hg : g p = false) : Rch f g n (p + 1) u ↔ Rch f g n p u := by
  rw [Rch, hg]
  simp
theorem RT.off {f : Nat → Nat → Bool} {g : Nat → Bool} {n p : Nat} {M : Mem} (h : RT f g n p M) (hg : g p = false) : RT f g n (p + 1) M := fun u hu => by
  have e : cl g (p + 1) = cl g p := by rw [cl, if_neg (by rw [hg]; decide)]
  rw [e, rch_off hg]
  exact h u hu
set_option maxHeartbeats 1000000 in
theorem sp_allBorne {D M : Mem} {s : Nat} {m : Int} (hI : IC D) (hs : SK D M) (h256 : s < 256) (hm : 0 ≤ m ∧ m ≤ 20) : wpo (f0_allBorne M (s : Int) m) (fun r => SK D r.2 ∧ (r.1 = 0 ∨ r.1 = 1) ∧ (r.1 ≠ 0 ↔ ∃ u, Rch (fB (D 118) s m) s.testBit (yP (yW (D 118))) (yP (yW (D 118))) u)) := by
  have hP := hI.P
  have e8 : M 12 8 = (yP (yW (D 118)) : Int) := by rw [hs.keep (by omega), hI.e8, hP.1]
  unfold f0_allBorne
  refine wp_bind.mpr (wpo_mono (sp_findHelpers (o := 61) (s := s) (m := m) hI (fun p hp => (hs.keep (by omega) p).trans (hI.2.1.2.1 p (by omega)).1) (fun p hp => (hs.keep (by omega) p).trans (hI.2.1.2.1 p (by omega)).2.2.2) e8 (by decide) h256 hm) ?_)
  rintro M1 ⟨a1, a2⟩
  have s1 : SK D M1 := fun c i a => (a1 c i (by unfold scr at a; omega)).trans (hs c i a)
  obtain ⟨n, hn⟩ : ∃ n, n = yP (yW (D 118)) := ⟨_, rfl⟩
  obtain ⟨f, hf⟩ : ∃ f, f = fB (D 118) s m := ⟨_, rfl⟩
  rw [← hn] at hP e8 a2
  rw [← hn, ← hf]
  rw [← hf] at a2
  have hp2 := pow8 hP.2
  refine wp_then (sp_fillI (by decide)) (wp_then rfl ?_)
  refine wp_bind.mpr (wpo_mono (P := fun r => SK D r.2 ∧ (r.1 = 0 ∨ r.1 = 1) ∧ (r.1 ≠ 0 ↔ ∃ u, Rch f s.testBit n n u)) ?_ (fun r hr => wp_pos hr.2.1 (wpo_of hr)))
  refine wp_for (I := fun p t => t.1 = (cl s.testBit p : Int) ∧ (t.2.1 = 0 ∨ t.2.1 = 1) ∧ (t.2.1 ≠ 0 ↔ ∃ u, Rch f s.testBit n p u) ∧ t.2.2.1 = (p : Int) ∧ SK D t.2.2.2 ∧ (∀ q, q < n → t.2.2.2 61 q = ((nset (f q) n : Nat) : Int)) ∧ RT f s.testBit n p t.2.2.2) n ?_ ?_ FU 0 _ ⟨rfl, Or.inr rfl, ⟨fun _ => ⟨0, rfl⟩, fun _ => (show (1 : Int) ≠ 0 by decide)⟩, rfl, fun c i a => ?_, fun q hq => ?_, fun u hu => ?_⟩ (Nat.zero_le _) (by unfold FU; omega)
  · rintro p ⟨t1, t2, t3, N⟩ hp ⟨e1, e2, e3, e4, e5, e6, e7⟩
    dsimp only at e1 e2 e3 e4 e5 e6 e7 ⊢
    subst e1 e4
    have k8 : N 12 8 = (n : Int) := by rw [e5.keep (by omega), hI.e8, hP.1]
    have hbit := bit8 (p := p) h256 (by omega)
    have hcl := cl_le (g := s.testBit) (p := p)
    refine wp_pos (by rw [k8]; exact (lt32 (by omega) (by omega)).mpr (by omega)) ?_
    by_cases c0 : t2 = 0
    · refine wp_pos (by rw [c0]; rfl) (wpo_of ⟨e5, e2, ?_⟩)
      dsimp only
      have hno : ¬ ∃ u, Rch f s.testBit n p u := fun z => e3.mpr z c0
      have hno2 := rch_none hno (n - p)
      have e : p + (n - p) = n := by omega
      rw [e] at hno2
      exact ⟨fun z => absurd c0 z, fun z => absurd z hno2⟩
    · refine wp_neg (by rw [w32_id (by omega)]; exact c0) ?_
      by_cases cg : s.testBit p = true
      · refine wp_bind.mpr (wpo_mono (P := fun j => j.1 = (cl s.testBit (p + 1) : Int) ∧ (j.2.1 = 0 ∨ j.2.1 = 1) ∧ (j.2.1 ≠ 0 ↔ ∃ u, Rch f s.testBit n (p + 1) u) ∧ SK D j.2.2 ∧ (∀ q, q < n → j.2.2 61 q = ((nset (f q) n : Nat) : Int)) ∧ RT f s.testBit n (p + 1) j.2.2) ?_ (fun j hj => wpo_of ⟨hj.1, hj.2.1, hj.2.2.1, by dsimp only; omega, hj.2.2.2⟩))
        refine wp_neg (by rw [hbit, if_pos cg]; decide) ?_
        refine wp_bind.mpr (wpo_mono (sp_addBearers (f := f) (g := s.testBit) hP.2 hp cg k8 (e6 p hp) e7) ?_)
        rintro ⟨v, B⟩ ⟨b1, b2, b3, b4⟩
        dsimp only at b1 b2 b3 b4 ⊢
        refine wpo_of ⟨?_, b1, b2, fun c i a => (b3 c i (by unfold scr at a; omega)).trans (e5 c i a), fun q hq => (b3 61 q (by decide)).trans (e6 q hq), b4⟩
        dsimp only
        rw [cl, if_pos cg]
        omega
      · have cg' : s.testBit p = false := by simpa using cg
        refine wp_then (a := ((cl s.testBit p : Int), t2, N)) (if_pos (by rw [hbit, if_neg cg]; rfl)) (wpo_of ⟨?_, e2, ?_, by dsimp only; omega, e5, e6, e7.off cg'⟩)
        · dsimp only
          rw [cl, if_neg cg]
        · dsimp only
          rw [e3]
          exact ⟨fun ⟨u, h⟩ => ⟨u, (rch_off cg').mpr h⟩, fun ⟨u, h⟩ => ⟨u, (rch_off cg').mp h⟩⟩
  · rintro ⟨t1, t2, t3, N⟩ ⟨e1, e2, e3, e4, e5, e6, e7⟩
    dsimp only at e1 e2 e3 e4 e5 e6 e7 ⊢
    subst e1 e4
    have k8 : N 12 8 = (n : Int) := by rw [e5.keep (by omega), hI.e8, hP.1]
    exact wp_neg (by rw [k8]; exact fun z => absurd ((lt32 (by omega) (by omega)).mp z) (by omega)) (wpo_of ⟨e5, e2, e3⟩)
  · dsimp only
    rw [ms_ne (by unfold scr at a; omega), mf_ne (by unfold scr at a; omega)]
    exact s1 c i a
  · dsimp only
    rw [ms_ne (by decide), mf_ne (by decide)]
    exact a2 q hq
  · dsimp only
    have p0 : pc 0 = 0 := by decide
    by_cases e : u = 0
    · rw [e, ms_same, p0]
      exact ⟨Or.inr rfl, fun _ => Nat.le_refl _, fun _ => rfl, fun _ => ⟨by decide, rfl⟩⟩
    · rw [ms_ni e, mf_same (by omega)]
      refine ⟨Or.inl rfl, fun h => absurd rfl h, fun h => absurd rfl h.1, fun h => absurd h e⟩
/-- by so much more all of a set find bearers -/
def KiP (W : Nat → Int) (s m : Nat) : Prop := ∃ u, Rch (fB W s (m : Int)) s.testBit (yP (yW W)) (yP (yW W)) u
theorem sx_set {D M : Mem} {x : Int} (hI : IC D) (hs : SK D M) (hx : A32 x) : f10_isSet M x = some (if 0 < D 118 9 ∧ 0 ≤ x ∧ x < ((2 ^ yP (yW (D 118)) : Nat) : Int) then 1 else 0) := sp_isSetM hI hs.w hx
theorem ag_kinder {D : Mem} {x : Int} (hI : IC D) (hx : A32 x) : AGi D (f9_kinder D x) (fun M => f10_kinder M x) := by
  have hP := hI.P
  have h256 := pow8 hP.2
  unfold AGi f9_kinder f10_kinder
  refine wp_then (sp_isSetC hI hx) ?_
  by_cases c : 0 < D 118 9 ∧ 0 ≤ x ∧ x < ((2 ^ yP (yW (D 118)) : Nat) : Int)
  · refine wp_neg (fun z => if01.mp z c) ?_
    obtain ⟨s, rfl⟩ : ∃ s : Nat, x = (s : Int) := ⟨x.toNat, by omega⟩
    have hs2 : s < 2 ^ yP (yW (D 118)) := by omega
    refine wp_bind.mpr (wpo_mono (P := fun z => wpo (Sum.elim (fun (b1 : Mem) => some ((-1), b1)) (fun rv => some rv) z) (fun r => First 21 (KiP (D 118) s) r.1 ∧ SK D r.2)) ?_ ?_)
    · refine wp_for (I := fun k t => t.1 = (k : Int) ∧ SK D t.2 ∧ ∀ j, j < k → ¬ KiP (D 118) s j) 21 ?_ ?_ FU 0 _ ⟨rfl, SK.rf, fun j hj => absurd hj (Nat.not_lt_zero _)⟩ (Nat.zero_le _) (by unfold FU; omega)
      · rintro k ⟨t1, N⟩ hk ⟨e1, e2, hno⟩
        dsimp only at e1 e2 ⊢
        subst e1
        refine wp_neg (fun z => absurd ((lt32 (by omega) (by omega)).mp z) (by omega)) ?_
        refine wp_bind.mpr (wpo_mono (sp_allBorne hI e2 (by omega) (m := (k : Int)) (by omega)) ?_)
        rintro ⟨v, B⟩ ⟨b1, b2, b3⟩
        dsimp only at b1 b2 b3 ⊢
        by_cases c0 : v = 0
        · refine wp_pos (by rw [c0]; rfl) (wpo_of ⟨by dsimp only; omega, b1, fun j hj => ?_⟩)
          by_cases hjk : j = k
          · rw [hjk]
            exact fun z => b3.mpr z c0
          · exact hno j (by omega)
        · exact wp_neg (by rw [w32_id (by omega)]; exact c0) (wpo_of (wpo_of ⟨Or.inr ⟨k, hk, rfl, b3.mp c0, hno⟩, b1⟩))
      · rintro ⟨t1, N⟩ ⟨e1, e2, hno⟩
        dsimp only at e1 e2 ⊢
        subst e1
        exact wp_pos ((lt32 (by omega) (by omega)).mpr (by omega)) (wpo_of (wpo_of ⟨Or.inl ⟨rfl, hno⟩, e2⟩))
    · intro z hz
      refine wpo_mono hz ?_
      rintro ⟨v, M⟩ ⟨hv, sM⟩
      dsimp only at hv sM ⊢
      refine wp_bind.mpr (wpo_mono (sp_asIt hI sM) ?_)
      rintro M1 ⟨s1, y1, -⟩
      refine wp_then (sx_set hI s1 hx) (wp_neg (fun z => if01.mp z c) ?_)
      refine wp_bind.mpr (wpo_mono (P := fun z => wpo (Sum.elim (fun (b1 : Mem) => some ((-1), b1)) (fun rv => some rv) z) (fun r => First 21 (KiP (D 118) s) r.1 ∧ SK D r.2)) ?_ ?_)
      · refine wp_for (I := fun k t => t.1 = (k : Int) ∧ SK D t.2 ∧ RB D t.2 ∧ ∀ j, j < k → ¬ KiP (D 118) s j) 21 ?_ ?_ FU 0 _ ⟨rfl, s1, RB.of s1 y1, fun j hj => absurd hj (Nat.not_lt_zero _)⟩ (Nat.zero_le _) (by unfold FU; omega)
        · rintro k ⟨t1, N⟩ hk ⟨e1, e2, e3, hno⟩
          dsimp only at e1 e2 e3 ⊢
          subst e1
          refine wp_neg (fun z => absurd ((lt32 (by omega) (by omega)).mp z) (by omega)) ?_
          refine wp_bind.mpr (wpo_mono (sp_layPairs hI e3 (by omega) (m := (k : Int)) (by omega)) ?_)
          rintro ⟨v, B⟩ ⟨b1, b2, -⟩
          dsimp only at b1 b2 ⊢
          have sB : SK D B := fun c i a => (b2 c i (by unfold scr at a; omega)).trans (e2 c i a)
          have rB : RB D B := ⟨(funext (fun i => b2 118 i (by decide))).trans e3.1, fun q hq => (b2 124 q (by decide)).trans (e3.2 q hq)⟩
          have hpc : (pc s : Int) = cg s.testBit (yP (yW (D 118))) (yP (yW (D 118))) := by
            rw [cg_all, pc_aS hP.2 hs2]
            rfl
          have hmf := (mB_full (f := fB (D 118) s (k : Int)) (g := s.testBit) (n := yP (yW (D 118))) (d := yP (yW (D 118))) 0).2
          rw [← hpc, full_iff] at hmf
          have hmb := mB_bd (f := fB (D 118) s (k : Int)) (g := s.testBit) (n := yP (yW (D 118))) (d := yP (yW (D 118))) (u := 0)
          have hpb := pc_bd (a := s)
          refine wp_then (sp_bits (by omega)) ?_
          rw [b1]
          by_cases c0 : mB (fB (D 118) s (k : Int)) s.testBit (yP (yW (D 118))) (yP (yW (D 118))) 0 = (pc s : Int)
          · exact wp_pos (by rw [c0]) (wpo_of (wpo_of ⟨Or.inr ⟨k, hk, rfl, hmf.mp c0, hno⟩, sB⟩))
          · refine wp_neg (fun z => c0 ((eq32 (by omega) (by omega)).mp z)) (wpo_of ⟨by dsimp only; omega, sB, rB, fun j hj => ?_⟩)
            by_cases hjk : j = k
            · rw [hjk]
              exact fun z => c0 (hmf.mpr z)
            · exact hno j (by omega)
        · rintro ⟨t1, N⟩ ⟨e1, e2, e3, hno⟩
          dsimp only at e1 e2 ⊢
          subst e1
          exact wp_pos ((lt32 (by omega) (by omega)).mpr (by omega)) (wpo_of (wpo_of ⟨Or.inl ⟨rfl, hno⟩, e2⟩))
      · intro z2 hz2
        refine wpo_mono hz2 (fun c hc => ⟨?_, hc.2⟩)
        rw [hv.uniq hc.1]
  · refine wp_pos (if01.mpr c) (wpo_of ?_)
    refine wp_bind.mpr (wpo_mono (sp_asIt hI SK.rf) ?_)
    rintro M1 ⟨s1, -, -⟩
    exact wp_then (sx_set hI s1 hx) (wp_pos (if01.mpr c) (wpo_of ⟨rfl, s1⟩))
