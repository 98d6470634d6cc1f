/-! MEAN (by hand) -/
/-- Horner's way: over 10 for each night, all that is borne by children born till now -/
def mH (q o : Nat) (a : Nat → Nat) : Nat → Nat
  | 0 => 0
  | k + 1 => mH q o a k * 10 + q ^ k * o * a k
theorem mH_bd {q o : Nat} {a : Nat → Nat} (h : q + o = 10) (ha : ∀ k, a k ≤ 17280) (k : Nat) : mH q o a k + q ^ k * 17280 ≤ 10 ^ k * 17280 := by
  induction k with
  | zero => simp [mH]
  | succ k ih =>
    have h1 : q ^ k * o * a k ≤ q ^ k * o * 17280 := Nat.mul_le_mul_left _ (ha k)
    have h2 : q ^ k * o + q ^ k * q = q ^ k * 10 := by rw [← Nat.mul_add, Nat.add_comm o q, h]
    rw [mH, Nat.pow_succ, Nat.pow_succ]
    generalize q ^ k * o * a k = z at *
    generalize q ^ k * o = u at *
    generalize q ^ k * q = v at *
    generalize q ^ k = w at *
    generalize 10 ^ k = t at *
    omega
/-- the reference's way -/
theorem mH_next {q o : Nat} {a : Nat → Nat} {N k : Nat} (hk : k < N) : mH q o a k * 10 ^ (N - k) + q ^ k * o * 10 ^ (N - k - 1) * a k = mH q o a (k + 1) * 10 ^ (N - (k + 1)) := by
  obtain ⟨m, rfl⟩ : ∃ m, N = k + 1 + m := ⟨N - (k + 1), by omega⟩
  have e1 : k + 1 + m - k = m + 1 := by omega
  have e2 : m + 1 - 1 = m := by omega
  have e3 : k + 1 + m - (k + 1) = m := by omega
  rw [e1, e2, e3, mH, Nat.add_mul, Nat.pow_succ, Nat.mul_right_comm (q ^ k * o) (10 ^ m) (a k), Nat.mul_comm (10 ^ m) 10, Nat.mul_assoc (mH q o a k) 10 (10 ^ m)]
/-- agreement of a call that answers a long -/
def AGl (D : Mem) (x9 : Option (Int × Mem)) (x10 : Mem → Option (Int × Mem)) : Prop := wpo x9 (fun a => wpo (x10 a.2) (fun b => w64 a.1 = w64 b.1 ∧ SK D b.2))
set_option maxHeartbeats 1000000 in
theorem ag_mean {D : Mem} {y : Int} (hI : IC D) (hy : A32 y) : AGl D (f9_mean D y) (fun M => f10_mean M y) := by
  have hN := hI.N
  have hb := hI.1.bd
  have hy' := hy
  unfold A32 at hy'
  have hn : ∀ N : Mem, SK D N → f10_nights N = some (D 118 0) := fun N h => by
    show some (N 118 0) = _
    rw [h.w]
  obtain ⟨o, ho⟩ : ∃ o : Nat, D 118 6 = (o : Int) := ⟨(D 118 6).toNat, by omega⟩
  obtain ⟨q, hqo⟩ : ∃ q : Nat, q + o = 10 := ⟨10 - o, by omega⟩
  have wo : w32 (o : Int) = o := w32_id (by omega)
  have wq : w32 (10 - (o : Int)) = (q : Int) := by
    rw [w32_id (by omega)]
    omega
  have hab : ∀ v : Int, 0 ≤ v ∧ v ≤ 100 → 0 ≤ yall (mset (yW (D 118)) 0 3 v) ∧ yall (mset (yW (D 118)) 0 3 v) ≤ 17280 := fun v hv => yall_bd (hI.1.yok.num (Or.inr (Or.inr ⟨rfl, hv⟩)))
  obtain ⟨a, ha⟩ : ∃ a : Nat → Nat, a = fun k : Nat => if k ≤ 100 then (yall (mset (yW (D 118)) 0 3 (k : Int))).toNat else 0 := ⟨_, rfl⟩
  have haI : ∀ k : Nat, k ≤ 100 → yall (mset (yW (D 118)) 0 3 (k : Int)) = (a k : Int) := fun k hk => by
    have := hab (k : Int) (by omega)
    rw [ha]
    dsimp only
    rw [if_pos hk]
    omega
  have ha1 : ∀ k, a k ≤ 17280 := fun k => by
    rw [ha]
    dsimp only
    split
    · have := hab (k : Int) (by omega)
      omega
    · omega
  have e100 : a 100 = a (yN (yW (D 118))) := by
    have h1 := haI 100 (by omega)
    have h2 := haI (yN (yW (D 118))) (by omega)
    have h3 := yall_never (Y := yW (D 118)) (v := ((100 : Nat) : Int)) (w := (yN (yW (D 118)) : Int)) (by omega) (Int.le_refl _)
    omega
  have wa : ∀ k, w32 (a k : Int) = (a k : Int) := fun k => w32_id (by have := ha1 k; omega)
  have hH := mH_bd hqo ha1 (yN (yW (D 118)))
  have hp12 := pow12 hN.2
  have hp0 : 0 < 10 ^ yN (yW (D 118)) := Nat.pow_pos (by decide)
  have hqa : q ^ yN (yW (D 118)) * a (yN (yW (D 118))) ≤ q ^ yN (yW (D 118)) * 17280 := Nat.mul_le_mul_left _ (ha1 _)
  have hpb : ∀ k : Nat, k ≤ 12 → q ^ k ≤ 1000000000000 := fun k hk => Nat.le_trans (Nat.pow_le_pow_left (by omega) k) (pow12 hk)
  unfold AGl f9_mean
  refine wp_then (sp_there9 hI) ?_
  by_cases c1 : 0 < D 118 9
  · refine wp_neg (fun z => if01.mp z c1) (wp_then (sp_isPart hy) ?_)
    by_cases c2 : 0 ≤ y ∧ y ≤ 1
    · refine wp_neg (fun z => if01.mp z c2) ?_
      refine wp_bind.mpr (wpo_mono (P := fun r => r.1 = ((mH q o a (yN (yW (D 118))) : Nat) : Int) ∧ r.2.1 = ((q ^ yN (yW (D 118)) : Nat) : Int) ∧ r.2.2.1 = ((10 ^ yN (yW (D 118)) : Nat) : Int) ∧ SK D r.2.2.2) ?_ ?_)
      · refine wp_for (I := fun k s => s.1 = ((mH q o a k : Nat) : Int) ∧ s.2.1 = ((q ^ k : Nat) : Int) ∧ s.2.2.1 = ((10 ^ k : Nat) : Int) ∧ s.2.2.2.1 = (k : Int) ∧ SK D s.2.2.2.2) (yN (yW (D 118))) ?_ ?_ FU 0 _ ⟨rfl, rfl, rfl, rfl, SK.rf⟩ (Nat.zero_le _) (by unfold FU; omega)
        · rintro k ⟨t1, t2, t3, t4, M⟩ hk ⟨e1, e2, e3, e4, e5⟩
          dsimp only at e1 e2 e3 e4 e5 ⊢
          subst e1 e2 e3 e4
          have k1 : M 12 1 = D 118 0 := (e5.keep (Or.inl (by decide)) 1).trans hI.e1
          refine wp_pos (by rw [k1]; exact (lt32 (by omega) (by omega)).mpr (by omega)) ?_
          refine wp_bind.mpr (wpo_mono (sp_passBorn hI e5 (v := (k : Int)) (by omega)) ?_)
          rintro M2 ⟨s2, y1, -⟩
          have k7 : M2 12 7 = (o : Int) := (s2.keep (Or.inl (by decide)) 7).trans (hI.e7.trans ho)
          refine wp_then rfl (wp_then rfl (wpo_of ⟨?_, ?_, ?_, by dsimp only; omega, s2⟩))
          · dsimp only
            rw [k7, y1, haI k (by omega), wa, wo, mH]
            simp only [Int.natCast_add, Int.natCast_mul]
            rfl
          · dsimp only
            rw [k7, wq, Nat.pow_succ, Int.natCast_mul]
          · dsimp only
            rw [Nat.pow_succ, Int.natCast_mul]
            rfl
        · rintro ⟨t1, t2, t3, t4, M⟩ ⟨e1, e2, e3, e4, e5⟩
          dsimp only at e1 e2 e3 e4 e5 ⊢
          subst e1 e2 e3 e4
          have k1 : M 12 1 = D 118 0 := (e5.keep (Or.inl (by decide)) 1).trans hI.e1
          exact wp_neg (by rw [k1]; exact fun z => absurd ((lt32 (by omega) (by omega)).mp z) (by omega)) (wpo_of ⟨rfl, rfl, rfl, e5⟩)
      · rintro ⟨t1, t2, t3, M⟩ ⟨r1, r2, r3, r4⟩
        dsimp only at r1 r2 r3 r4 ⊢
        subst r1 r2 r3
        refine wp_bind.mpr (wpo_mono (sp_passBorn hI r4 (v := 100) (by decide)) ?_)
        rintro M2 ⟨s2, y1, -⟩
        have ev : ((mH q o a (yN (yW (D 118))) : Nat) : Int) + ((q ^ yN (yW (D 118)) : Nat) : Int) * w32 (M2 36 4) = ((mH q o a (yN (yW (D 118))) + q ^ yN (yW (D 118)) * a (yN (yW (D 118))) : Nat) : Int) := by
          have h100 : yall (mset (yW (D 118)) 0 3 100) = (a 100 : Int) := haI 100 (by omega)
          rw [y1, h100, wa, e100]
          simp only [Int.natCast_add, Int.natCast_mul]
        have prt := fun M => ag_part (D := M2) (M := M) (a := mH q o a (yN (yW (D 118))) + q ^ yN (yW (D 118)) * a (yN (yW (D 118)))) (b := 10 ^ yN (yW (D 118))) (w := y) (by omega) (by omega) hp0
        obtain ⟨v, v1, -⟩ := prt M2
        have v2 : ∀ M, f10_part M ((mH q o a (yN (yW (D 118))) + q ^ yN (yW (D 118)) * a (yN (yW (D 118))) : Nat) : Int) ((10 ^ yN (yW (D 118)) : Nat) : Int) y = some v := fun M => by
          obtain ⟨u, u1, u2⟩ := prt M
          rw [v1] at u1
          rw [u2, ← u1]
        refine wp_then (by rw [ev]; exact v1) (wpo_of ?_)
        unfold f10_mean
        refine wp_bind.mpr (wpo_mono (sp_asIt hI s2) ?_)
        rintro M3 ⟨s3, y3, -⟩
        refine wp_then (sp_there10 hI s3) (wp_neg (fun z => if01.mp z c1) (wp_then (sp_isPartM hy) (wp_neg (fun z => if01.mp z c2) ?_)))
        refine wp_bind.mpr (wpo_mono (P := fun r => r.1 = ((mH q o a (yN (yW (D 118))) : Nat) : Int) ∧ SK D r.2 ∧ ∃ u : Int, YM (mset (yW (D 118)) 0 3 u) r.2) ?_ ?_)
        · refine wp_for (I := fun k s => s.1 = ((mH q o a k * 10 ^ (yN (yW (D 118)) - k) : Nat) : Int) ∧ s.2.1 = (k : Int) ∧ SK D s.2.2 ∧ ∃ u : Int, YM (mset (yW (D 118)) 0 3 u) s.2.2) (yN (yW (D 118))) ?_ ?_ FU 0 _ ⟨by simp [mH], rfl, s3, yW (D 118) 0 3, by rw [ms_self]; exact y3⟩ (Nat.zero_le _) (by unfold FU; omega)
          · rintro k ⟨t1, t2, M⟩ hk ⟨e1, e2, e3, u, e4⟩
            dsimp only at e1 e2 e3 e4 ⊢
            subst e1 e2
            have k6 : M 118 6 = (o : Int) := by rw [e3.w, ho]
            have p1 : f10_power M (w32 (10 - M 118 6)) (k : Int) = some ((q ^ k : Nat) : Int) := by
              rw [k6, wq]
              exact sp_power (by omega)
            have en : (D 118 0 - (k : Int)) - 1 = ((yN (yW (D 118)) - k - 1 : Nat) : Int) := by omega
            have p2 : f10_power M 10 ((D 118 0 - (k : Int)) - 1) = some ((10 ^ (yN (yW (D 118)) - k - 1) : Nat) : Int) := by
              rw [en]
              exact sp_power (q := 10) (by omega)
            refine wp_then (hn M e3) (wp_pos ((lt32 (by omega) (by omega)).mpr (by omega)) ?_)
            refine wp_then p1 (wp_then (hn M e3) (wp_then p2 ?_))
            refine wp_bind.mpr (wpo_mono (sp_lateBy hI e3 e4 (v := (k : Int)) (by omega)) ?_)
            rintro c3 ⟨z1, z2, z3⟩
            refine wp_then rfl (wpo_of ⟨?_, by dsimp only; omega, z2, (k : Int), z3⟩)
            dsimp only
            rw [k6, wo, z1, haI k (by omega), wa, ← mH_next hk]
            simp only [Int.natCast_add, Int.natCast_mul]
          · rintro ⟨t1, t2, M⟩ ⟨e1, e2, e3, e4⟩
            dsimp only at e1 e2 e3 e4 ⊢
            subst e1 e2
            refine wp_then (hn M e3) (wp_neg (fun z => absurd ((lt32 (by omega) (by omega)).mp z) (by omega)) (wpo_of ⟨?_, e3, e4⟩))
            simp
        · rintro ⟨t1, M⟩ ⟨q1, q2, u, q3⟩
          dsimp only at q1 q2 q3 ⊢
          subst q1
          have k6 : M 118 6 = (o : Int) := by rw [q2.w, ho]
          have p1 : f10_power M (w32 (10 - M 118 6)) (D 118 0) = some ((q ^ yN (yW (D 118)) : Nat) : Int) := by
            rw [k6, wq, ← hN.1]
            exact sp_power (by omega)
          have p2 : ∀ M, f10_power M 10 (D 118 0) = some ((10 ^ yN (yW (D 118)) : Nat) : Int) := fun M => by
            rw [← hN.1]
            exact sp_power (q := 10) (by omega)
          refine wp_then (hn M q2) (wp_then p1 (wp_then (hn M q2) ?_))
          refine wp_bind.mpr (wpo_mono (sp_lateBy hI q2 q3 (v := D 118 0) (by omega)) ?_)
          rintro ⟨c3, M4⟩ ⟨z1, z2, z3⟩
          dsimp only at z1 z2 z3 ⊢
          have ew : ((mH q o a (yN (yW (D 118))) : Nat) : Int) + ((q ^ yN (yW (D 118)) : Nat) : Int) * w32 c3 = ((mH q o a (yN (yW (D 118))) + q ^ yN (yW (D 118)) * a (yN (yW (D 118))) : Nat) : Int) := by
            rw [z1, ← hN.1, haI _ (by omega), wa]
            simp only [Int.natCast_add, Int.natCast_mul]
          rw [ew]
          exact wp_then rfl (wp_then (hn M4 z2) (wp_then (p2 M4) (wp_then (v2 M4) (wpo_of ⟨rfl, z2⟩))))
    · refine wp_pos (if01.mpr c2) (wpo_of ?_)
      unfold f10_mean
      refine wp_bind.mpr (wpo_mono (sp_asIt hI SK.rf) ?_)
      rintro M3 ⟨s3, -, -⟩
      exact wp_then (sp_there10 hI s3) (wp_neg (fun z => if01.mp z c1) (wp_then (sp_isPartM hy) (wp_pos (if01.mpr c2) (wpo_of ⟨rfl, s3⟩))))
  · refine wp_pos (if01.mpr c1) (wpo_of ?_)
    unfold f10_mean
    refine wp_bind.mpr (wpo_mono (sp_asIt hI SK.rf) ?_)
    rintro M3 ⟨s3, -, -⟩
    exact wp_then (sp_there10 hI s3) (wp_pos (if01.mpr c1) (wpo_of ⟨rfl, s3⟩))
