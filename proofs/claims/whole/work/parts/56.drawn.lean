/-! YEARS DRAWN (by hand) -/
def dr (x : Int) : Nat → Int
  | 0 => x
  | n + 1 => (1103515245 * dr x n + 12345) % 2147483648
theorem dr_bd {x : Int} (h : 0 ≤ x ∧ x ≤ 2000000100) (n : Nat) : 0 ≤ dr x n ∧ dr x n ≤ 2147483648 := by
  cases n with
  | zero => show 0 ≤ x ∧ x ≤ 2147483648; omega
  | succ n =>
    rw [dr]
    omega
theorem dr_rem {x : Int} (h : 0 ≤ x ∧ x ≤ 2000000100) (n : Nat) : rem64 ((1103515245 * dr x n) + 12345) 2147483648 = dr x (n + 1) := by
  have := dr_bd h n
  rw [rem64_id (by omega) (by omega)]
  rfl
theorem dr_tenth {x : Int} (h : 0 ≤ x ∧ x ≤ 2000000100) (n : Nat) : rem64 (div64 (dr x n) 65536) 10 = dr x n / 65536 % 10 := by
  have := dr_bd h n
  rw [div64_id (by omega) (by omega), rem64_id (by omega) (by omega)]
/-- the night in which a child is drawn, of the first n -/
def dn (o x : Int) : Nat → Int
  | 0 => -1
  | n + 1 => if dn o x n = -1 ∧ dr x (n + 1) / 65536 % 10 < o then (n : Int) else dn o x n
def DrP (o x : Int) (j : Nat) : Prop := dr x (j + 1) / 65536 % 10 < o
theorem dn_first {o x : Int} (n : Nat) : First n (DrP o x) (dn o x n) := by
  induction n with
  | zero => exact Or.inl ⟨rfl, fun n hn => absurd hn (Nat.not_lt_zero _)⟩
  | succ n ih =>
    rw [dn]
    by_cases c : dn o x n = -1 ∧ dr x (n + 1) / 65536 % 10 < o
    · rw [if_pos c]
      refine Or.inr ⟨n, Nat.lt_succ_self n, rfl, c.2, ?_⟩
      rcases ih with ⟨-, h2⟩ | ⟨m, -, h2, -⟩
      · exact h2
      · have := c.1
        omega
    · rw [if_neg c]
      rcases ih with ⟨h1, h2⟩ | ⟨m, h1, h2, h3, h4⟩
      · refine Or.inl ⟨h1, fun k hk hx => ?_⟩
        by_cases hkn : k = n
        · subst hkn
          exact c ⟨h1, hx⟩
        · exact h2 k (by omega) hx
      · exact Or.inr ⟨m, by omega, h2, h3, h4⟩
theorem dn_bd {o x : Int} (n : Nat) : -1 ≤ dn o x n ∧ dn o x n < n := by
  rcases dn_first (o := o) (x := x) n with ⟨h, -⟩ | ⟨m, h1, h2, -⟩ <;> omega
/-- its birth in the class's year -/
def bw (v : Int) : Int := if v = -1 then 100 else v
theorem IC.e7 {D : Mem} (hI : IC D) : D 12 7 = D 118 6 := hI.2.1.1.2.2.2.2.2.2.2.1
theorem sp_drawnNight {D M : Mem} {x : Int} (hI : IC D) (hs : SK D M) (hx : 0 ≤ x ∧ x ≤ 2000000100) : f9_drawnNight M x = some (dn (D 118 6) x (yN (yW (D 118)))) := by
  refine wp_is ?_
  have hN := hI.N
  have hb := hI.1.bd
  have e1 : M 12 1 = D 118 0 := (hs.keep (Or.inl (by decide)) 1).trans hI.e1
  have e7 : M 12 7 = D 118 6 := (hs.keep (Or.inl (by decide)) 7).trans hI.e7
  refine wpo_mono (P := fun v => First (yN (yW (D 118))) (DrP (D 118 6) x) v) ?_ (fun v hv => hv.uniq (dn_first _))
  unfold f9_drawnNight
  refine wp_bind.mpr (wpo_mono (P := fun z => wpo (Sum.elim (fun (_ : Unit) => some (-1)) (fun rv => some rv) z) (fun v => First (yN (yW (D 118))) (DrP (D 118 6) x) v)) ?_ (fun z hz => hz))
  refine wp_for (I := fun k s => s = (dr x k, (k : Int)) ∧ ∀ j, j < k → ¬ DrP (D 118 6) x j) (yN (yW (D 118))) ?_ ?_ FU 0 _ ⟨rfl, fun j hj => absurd hj (Nat.not_lt_zero _)⟩ (Nat.zero_le _) (by unfold FU; omega)
  · rintro k s hk ⟨rfl, hno⟩
    dsimp only
    have hd := dr_bd hx (k + 1)
    have hc : (w64 (rem64 (div64 (rem64 ((1103515245 * dr x k) + 12345) 2147483648) 65536) 10) < w64 (w32 (M 12 7))) ↔ DrP (D 118 6) x k := by
      rw [dr_rem hx, dr_tenth hx, e7, w32_id (by omega), w64_id (by omega), w64_id (by omega)]
      rfl
    refine wp_pos (by rw [e1]; exact (lt32 (by omega) (by omega)).mpr (by omega)) (wp_then rfl ?_)
    by_cases c : DrP (D 118 6) x k
    · exact wp_pos (hc.mpr c) (wpo_of (wpo_of (Or.inr ⟨k, hk, rfl, c, hno⟩)))
    · refine wp_neg (fun z => c (hc.mp z)) (wpo_of ⟨?_, fun j hj => ?_⟩)
      · rw [dr_rem hx]
        rfl
      · by_cases hjk : j = k
        · subst hjk
          exact c
        · exact hno j (by omega)
  · rintro s ⟨rfl, hno⟩
    dsimp only
    exact wp_neg (by rw [e1]; exact fun z => absurd ((lt32 (by omega) (by omega)).mp z) (by omega)) (wpo_of (wpo_of (Or.inl ⟨rfl, hno⟩)))
theorem bw_bd {D : Mem} (hI : IC D) {x : Int} : 0 ≤ bw (dn (D 118 6) x (yN (yW (D 118)))) ∧ bw (dn (D 118 6) x (yN (yW (D 118)))) ≤ 100 := by
  have hN := hI.N
  have h := dn_bd (o := D 118 6) (x := x) (yN (yW (D 118)))
  unfold bw
  split <;> omega
/-- the reference draws the year and passes it -/
theorem sp_goDrawn {D M : Mem} {x : Int} (hI : IC D) (hs : SK D M) (hx : 0 ≤ x ∧ x ≤ 2000000100) : wpo (f10_goDrawn M x) (fun r => r.1 = dn (D 118 6) x (yN (yW (D 118))) ∧ SK D r.2 ∧ f10_bearsAll r.2 = some (yall (mset (yW (D 118)) 0 3 (bw (dn (D 118 6) x (yN (yW (D 118))))))) ∧ ∀ p, p < yP (yW (D 118)) → r.2 128 p = (yst (mset (yW (D 118)) 0 3 (bw (dn (D 118 6) x (yN (yW (D 118)))))) (yN (yW (D 118)))).1 p) := by
  have hN := hI.N
  have hb := hI.1.bd
  have hn : ∀ N : Mem, SK D N → f10_nights N = some (D 118 0) := fun N h => by
    show some (N 118 0) = _
    rw [h.w]
  unfold f10_goDrawn
  refine wp_bind.mpr (wpo_mono (sp_asIt hI hs) ?_)
  rintro M1 ⟨s1, y1, -⟩
  refine wp_then rfl ?_
  have y2 : YM (mset (yW (D 118)) 0 3 ((0 : Nat) : Int)) (mset M1 117 22 0) := y1.born 0
  have s2 : SK D (mset M1 117 22 0) := s1.set (by unfold scr; omega)
  refine wp_bind.mpr (wpo_mono (P := fun b => ∃ m : Nat, m ≤ yN (yW (D 118)) ∧ SK D b ∧ YM (mset (yW (D 118)) 0 3 (m : Int)) b ∧ (∀ j, j < m → ¬ DrP (D 118 6) x j) ∧ (m < yN (yW (D 118)) → DrP (D 118 6) x m)) ?_ ?_)
  · refine wp_for (I := fun k s => s.1 = dr x k ∧ SK D s.2 ∧ YM (mset (yW (D 118)) 0 3 (k : Int)) s.2 ∧ ∀ j, j < k → ¬ DrP (D 118 6) x j) (yN (yW (D 118))) ?_ ?_ FU 0 _ ⟨rfl, s2, y2, fun j hj => absurd hj (Nat.not_lt_zero _)⟩ (Nat.zero_le _) (by unfold FU; omega)
    · rintro k ⟨t1, N⟩ hk ⟨e1, e2, e3, hno⟩
      dsimp only at e1 e2 e3 ⊢
      subst e1
      have e22 : N 117 22 = (k : Int) := by
        have := e3.2.2.2.1
        rw [ms_same] at this
        exact this.symm
      have e6 : N 118 6 = D 118 6 := by rw [e2.w]
      have hd := dr_bd hx (k + 1)
      have hc : (w64 (rem64 (div64 (rem64 ((1103515245 * dr x k) + 12345) 2147483648) 65536) 10) < w64 (w32 (N 118 6))) ↔ DrP (D 118 6) x k := by
        rw [dr_rem hx, dr_tenth hx, e6, w32_id (by omega), w64_id (by omega), w64_id (by omega)]
        rfl
      refine wp_then (hn N e2) (wp_pos (by rw [e22]; exact (lt32 (by omega) (by omega)).mpr (by omega)) (wp_then rfl ?_))
      by_cases c : DrP (D 118 6) x k
      · exact wp_pos (hc.mpr c) (wpo_of ⟨k, by omega, e2, e3, hno, fun _ => c⟩)
      · refine wp_neg (fun z => c (hc.mp z)) (wpo_of ⟨dr_rem hx k, e2.set (by unfold scr; omega), ?_, fun j hj => ?_⟩)
        · dsimp only
          rw [e22]
          have h2 := e3.born ((k + 1 : Nat) : Int)
          rw [ms_ms] at h2
          exact h2
        · by_cases hjk : j = k
          · subst hjk
            exact c
          · exact hno j (by omega)
    · rintro ⟨t1, N⟩ ⟨e1, e2, e3, hno⟩
      dsimp only at e1 e2 e3 ⊢
      have e22 : N 117 22 = (yN (yW (D 118)) : Int) := by
        have := e3.2.2.2.1
        rw [ms_same] at this
        exact this.symm
      exact wp_then (hn N e2) (wp_neg (by rw [e22]; exact fun z => absurd ((lt32 (by omega) (by omega)).mp z) (by omega)) (wpo_of ⟨_, Nat.le_refl _, e2, e3, hno, fun h => absurd h (Nat.lt_irrefl _)⟩))
  · rintro N ⟨m, hm, e2, e3, hno, hyes⟩
    have hY : YOK (mset (yW (D 118)) 0 3 (m : Int)) := hI.1.yok.num (Or.inr (Or.inr ⟨rfl, by omega, by omega⟩))
    refine wp_bind.mpr (wpo_mono (sp_go (D := D) e2 hY e3 (teeth_num hI (by omega))) ?_)
    rintro N2 ⟨s3, m3⟩
    have e22 : N2 117 22 = (m : Int) := by
      have := m3.1.2.2.2.1
      rw [ms_same] at this
      exact this.symm
    have hba := sp_bearsAll hY m3
    have hg := m3.2.1
    rw [yP_set (by decide), yN_set (by decide)] at hg
    refine wp_then (hn N2 s3) ?_
    by_cases c : m < yN (yW (D 118))
    · refine wp_pos (by rw [e22]; exact (lt32 (by omega) (by omega)).mpr (by omega)) (wpo_of ?_)
      have hv : (m : Int) = dn (D 118 6) x (yN (yW (D 118))) := First.uniq (Or.inr ⟨m, c, rfl, hyes c, hno⟩) (dn_first _)
      have hbw : bw (dn (D 118 6) x (yN (yW (D 118)))) = (m : Int) := by
        rw [← hv]
        unfold bw
        rw [if_neg (by omega)]
      rw [hbw]
      refine ⟨by dsimp only; rw [e22, hv], s3, hba, hg⟩
    · refine wp_neg (by rw [e22]; exact fun z => absurd ((lt32 (by omega) (by omega)).mp z) (by omega)) (wpo_of ?_)
      have hmN : m = yN (yW (D 118)) := by omega
      subst hmN
      have hv : (-1 : Int) = dn (D 118 6) x (yN (yW (D 118))) := First.uniq (Or.inl ⟨rfl, hno⟩) (dn_first _)
      have hbw : bw (dn (D 118 6) x (yN (yW (D 118)))) = 100 := by
        rw [← hv]
        rfl
      rw [hbw]
      refine ⟨hv, s3, ?_, fun p hp => ?_⟩
      · rw [hba, yall_never (v := (yN (yW (D 118)) : Int)) (w := 100) (Int.le_refl _) (by omega)]
      · dsimp only
        rw [hg p hp, yst_never (Int.le_refl _), yst_never (by omega)]
theorem sp_isSeedC {D : Mem} {x : Int} (hx : A32 x) : f9_isSeed D x = some (if 0 ≤ x ∧ x ≤ 2000000000 then 1 else 0) := by
  unfold A32 at hx
  refine wp_is ?_
  unfold f9_isSeed
  by_cases c1 : x < 0
  · exact wp_pos (by rw [w32_id hx]; exact c1) (wpo_of (by rw [if_neg (by omega)]))
  · refine wp_neg (by rw [w32_id hx]; exact c1) ?_
    by_cases c2 : 2000000000 < x
    · exact wp_pos ((lt32 (by omega) hx).mpr c2) (wpo_of (by rw [if_neg (by omega)]))
    · exact wp_neg (fun z => c2 ((lt32 (by omega) hx).mp z)) (wpo_of (by rw [if_pos (by omega)]))
theorem sp_isSeedM {D : Mem} {x : Int} (hx : A32 x) : f10_isSeed D x = some (if 0 ≤ x ∧ x ≤ 2000000000 then 1 else 0) := by
  unfold A32 at hx
  refine wp_is ?_
  unfold f10_isSeed
  rw [w32_id hx]
  refine wp_then (sp_in (by omega) (by omega) (by omega)) ?_
  exact wp_pos (by split <;> omega) (wpo_of rfl)
theorem sp_there9 {D : Mem} (hI : IC D) : f9_isThere D = some (if 0 < D 118 9 then 1 else 0) := by
  have hb := hI.1.bd
  have e : D 12 0 = D 118 9 := hI.2.1.1.1
  rw [sp_isThere (by omega), e]
theorem sp_there10 {D M : Mem} (hI : IC D) (hs : SK D M) : f10_isParish M = some (if 0 < D 118 9 then 1 else 0) := by
  have hb := hI.1.bd
  rw [sp_isParish (by rw [hs.w]; omega), hs.w]
theorem if01 {c : Prop} [Decidable c] : (w32 (if c then 1 else 0) = 0) ↔ ¬ c := by
  by_cases h : c
  · rw [if_pos h]
    exact ⟨fun z => absurd z (by decide), fun z => absurd h z⟩
  · rw [if_neg h]
    exact ⟨fun _ => h, fun _ => by decide⟩
theorem sp_drawnJ {v : Int} (hv : -1 ≤ v ∧ v ≤ 100) : (if w32 v = w32 (-1) then some 100 else some v) = some (bw v) := by
  unfold bw
  by_cases c : v = -1
  · rw [if_pos c, if_pos (by rw [c])]
  · rw [if_neg c, if_neg (fun z => c ((eq32 (by omega) (by omega)).mp z))]
theorem ag_drawn {D : Mem} {x y : Int} (hI : IC D) (hx : A32 x) (hy : A32 y) : AGi D (f9_drawn D x y) (fun M => f10_drawn M x y) := by
  have hN := hI.N
  have hx' := hx
  have hy' := hy
  unfold A32 at hx' hy'
  unfold AGi f9_drawn f10_drawn
  refine wp_then (sp_there9 hI) ?_
  by_cases c1 : 0 < D 118 9
  · refine wp_neg (fun z => if01.mp z c1) (wp_then (sp_isSeedC hx) ?_)
    by_cases c2 : 0 ≤ x ∧ x ≤ 2000000000
    · refine wp_neg (fun z => if01.mp z c2) (wp_then (sp_isPart hy) ?_)
      by_cases c3 : 0 ≤ y ∧ y ≤ 1
      · have wx : w32 x = x := w32_id hx'
        have hdb := dn_bd (o := D 118 6) (x := x) (yN (yW (D 118)))
        rw [wx]
        have pre : ∀ (M : Mem) (k : Option (Int × Mem)) (Q : Int × Mem → Prop), SK D M → wpo k Q → wpo (Option.bind (f10_isParish M) fun (a1 : Int) => if w32 a1 = 0 then some ((-2), M) else Option.bind (f10_isSeed M x) fun (a2 : Int) => if w32 a2 = 0 then some ((-2), M) else Option.bind (f10_in M (w32 y) 0 1) fun (a3 : Int) => if w32 a3 = 0 then some ((-2), M) else k) Q := fun M k Q hs hk =>
          wp_then (sp_there10 hI hs) (wp_neg (fun z => if01.mp z c1) (wp_then (sp_isSeedM hx) (wp_neg (fun z => if01.mp z c2) (wp_then (sp_isPartM hy) (wp_neg (fun z => if01.mp z c3) hk)))))
        refine wp_neg (fun z => if01.mp z c3) (wp_then (sp_drawnNight hI SK.rf (by omega)) ?_)
        by_cases c : y = 0
        · refine wp_pos (by rw [c]; decide) (wpo_of (pre _ _ _ SK.rf ?_))
          refine wp_bind.mpr (wpo_mono (sp_goDrawn hI SK.rf (by omega)) ?_)
          rintro r ⟨r1, r2, -⟩
          exact wp_pos (by rw [c]; decide) (wpo_of ⟨by dsimp only; rw [r1], r2⟩)
        · refine wp_neg (by rw [w32_id hy']; exact c) (wp_then (sp_drawnJ (by omega)) ?_)
          refine wp_bind.mpr (wpo_mono (sp_passBorn hI SK.rf (bw_bd hI)) ?_)
          rintro M2 ⟨s2, y1, -⟩
          refine wpo_of (pre _ _ _ s2 ?_)
          refine wp_bind.mpr (wpo_mono (sp_goDrawn hI s2 (by omega)) ?_)
          rintro r ⟨r1, r2, r3, -⟩
          exact wp_neg (by rw [w32_id hy']; exact c) (wp_then r3 (wpo_of ⟨by dsimp only; rw [y1], r2⟩))
      · refine wp_pos (if01.mpr c3) (wpo_of ?_)
        exact wp_then (sp_there10 hI SK.rf) (wp_neg (fun z => if01.mp z c1) (wp_then (sp_isSeedM hx) (wp_neg (fun z => if01.mp z c2) (wp_then (sp_isPartM hy) (wp_pos (if01.mpr c3) (wpo_of ⟨rfl, SK.rf⟩))))))
    · refine wp_pos (if01.mpr c2) (wpo_of ?_)
      exact wp_then (sp_there10 hI SK.rf) (wp_neg (fun z => if01.mp z c1) (wp_then (sp_isSeedM hx) (wp_pos (if01.mpr c2) (wpo_of ⟨rfl, SK.rf⟩))))
  · refine wp_pos (if01.mpr c1) (wpo_of ?_)
    exact wp_then (sp_there10 hI SK.rf) (wp_pos (if01.mpr c1) (wpo_of ⟨rfl, SK.rf⟩))
theorem sp_person9 {D : Mem} {x : Int} (hI : IC D) (hx : A32 x) : f9_isPerson D x = some (if 0 ≤ x ∧ x < D 118 7 then 1 else 0) := by
  have hb := hI.1.bd
  have e := hI.e8
  rw [sp_isPersonC (by omega) hx, e]
theorem sp_person10 {D M : Mem} {x : Int} (hI : IC D) (hs : SK D M) (hx : A32 x) : f10_isPerson M x = some (if 0 ≤ x ∧ x < D 118 7 then 1 else 0) := by
  have hb := hI.1.bd
  rw [sp_isPersonM (by rw [hs.w]; omega) hx, hs.w]
/-- in how many years a person gives -/
def lk (D : Mem) (x : Int) (p : Nat) (n : Nat) : Int := sumN (fun k => if (yst (mset (yW (D 118)) 0 3 (bw (dn (D 118 6) (x + k) (yN (yW (D 118)))))) (yN (yW (D 118)))).1 p = -1 then 0 else 1) n
theorem ag_luck {D : Mem} {x y z : Int} (hI : IC D) (hx : A32 x) (hy : A32 y) (hz : A32 z) : AGi D (f9_luck D x y z) (fun M => f10_luck M x y z) := by
  have hN := hI.N
  have hP := hI.P
  have hx' := hx
  have hy' := hy
  have hz' := hz
  unfold A32 at hx' hy' hz'
  have wx : w32 x = x := w32_id hx'
  have hin : ∀ M : Mem, f10_in M (w32 y) 1 20 = some (if 1 ≤ y ∧ y ≤ 20 then 1 else 0) := fun M => by
    rw [w32_id hy']
    exact sp_in (by omega) (by omega) (by omega)
  unfold AGi
  by_cases c1 : 0 ≤ z ∧ z < D 118 7
  · by_cases c2 : 0 ≤ x ∧ x ≤ 2000000000
    · by_cases c3 : 1 ≤ y ∧ y ≤ 20
      · obtain ⟨p, rfl⟩ : ∃ p : Nat, z = (p : Int) := ⟨z.toNat, by omega⟩
        have hp : p < yP (yW (D 118)) := by omega
        have h8 := hI.person hp
        unfold f9_luck
        refine wp_then (sp_person9 hI hz) (wp_neg (fun z => if01.mp z c1) (wp_then (sp_isSeedC hx) (wp_neg (fun z => if01.mp z c2) ?_)))
        refine wp_neg (fun z => absurd ((lt32 hy' (by omega)).mp z) (by omega)) (wp_neg (fun z => absurd ((lt32 (by omega) hy').mp z) (by omega)) ?_)
        have sd : ∀ k : Nat, (k : Int) < y → w32 x + w32 (k : Int) = x + (k : Int) := fun k hk => by rw [wx, w32_id (x := (k : Int)) (by omega)]
        refine wp_bind.mpr (wpo_mono (P := fun r => r.1 = lk D x p y.toNat ∧ SK D r.2) ?_ ?_)
        · refine wp_for (I := fun k s => s.1 = lk D x p k ∧ s.2.1 = (k : Int) ∧ SK D s.2.2) y.toNat ?_ ?_ FU 0 _ ⟨rfl, rfl, SK.rf⟩ (Nat.zero_le _) (by unfold FU; omega)
          · rintro k ⟨t1, t2, M⟩ hk ⟨e1, e2, e3⟩
            dsimp only at e1 e2 e3 ⊢
            subst e1 e2
            have hg := yg_bd (hI.1.yok.num (i := 3) (v := bw (dn (D 118 6) (x + k) (yN (yW (D 118))))) (Or.inr (Or.inr ⟨rfl, bw_bd hI⟩))) p
            rw [yN_set (by decide)] at hg
            have hdb := dn_bd (o := D 118 6) (x := x + (k : Int)) (yN (yW (D 118)))
            refine wp_pos ((lt32 (by omega) (by omega)).mpr (by omega)) ?_
            rw [sd k (by omega)]
            refine wp_then (sp_drawnNight hI e3 (by omega)) (wp_then (sp_drawnJ (by omega)) ?_)
            refine wp_bind.mpr (wpo_mono (sp_passBorn hI e3 (bw_bd hI)) ?_)
            rintro M2 ⟨s2, -, y2⟩
            have h41 := (y2 p (by rw [yP_set (by decide)]; exact hp)).1
            rw [yN_set (by decide)] at h41
            refine wp_pos (by omega) ?_
            refine wp_then (a := lk D x p (k + 1)) ?_ (wpo_of ⟨rfl, rfl, s2⟩)
            rw [Int.toNat_natCast, h41]
            refine wp_is ?_
            by_cases c : (yst (mset (yW (D 118)) 0 3 (bw (dn (D 118 6) (x + k) (yN (yW (D 118)))))) (yN (yW (D 118)))).1 p = -1
            · refine wp_pos (by rw [c]) (wpo_of ?_)
              unfold lk
              rw [sumN, if_pos c]
              omega
            · refine wp_neg (fun z => c ((eq32 (by omega) (by omega)).mp z)) (wpo_of ?_)
              unfold lk
              rw [sumN, if_neg c]
          · rintro ⟨t1, t2, M⟩ ⟨e1, e2, e3⟩
            dsimp only at e1 e2 e3 ⊢
            subst e1 e2
            exact wp_neg (fun z => absurd ((lt32 (by omega) (by omega)).mp z) (by omega)) (wpo_of ⟨rfl, e3⟩)
        · rintro r ⟨r1, r2⟩
          refine wpo_of ?_
          unfold f10_luck
          refine wp_then (sp_isSeedM hx) (wp_neg (fun z => if01.mp z c2) (wp_then (hin _) (wp_neg (fun z => if01.mp z c3) (wp_then (sp_person10 hI r2 hz) (wp_neg (fun z => if01.mp z c1) ?_)))))
          refine wp_bind.mpr (wpo_mono (P := fun r => r.1 = lk D x p y.toNat ∧ SK D r.2) ?_ (fun r' hr' => wpo_of ⟨by dsimp only; rw [r1, hr'.1], hr'.2⟩))
          refine wp_for (I := fun k s => s.1 = lk D x p k ∧ s.2.1 = (k : Int) ∧ SK D s.2.2) y.toNat ?_ ?_ FU 0 _ ⟨rfl, rfl, r2⟩ (Nat.zero_le _) (by unfold FU; omega)
          · rintro k ⟨t1, t2, M⟩ hk ⟨e1, e2, e3⟩
            dsimp only at e1 e2 e3 ⊢
            subst e1 e2
            have hg := yg_bd (hI.1.yok.num (i := 3) (v := bw (dn (D 118 6) (x + k) (yN (yW (D 118))))) (Or.inr (Or.inr ⟨rfl, bw_bd hI⟩))) p
            rw [yN_set (by decide)] at hg
            refine wp_pos ((lt32 (by omega) (by omega)).mpr (by omega)) ?_
            rw [sd k (by omega)]
            refine wp_bind.mpr (wpo_mono (sp_goDrawn hI e3 (by omega)) ?_)
            rintro r ⟨-, s2, -, y2⟩
            refine wp_pos (by omega) ?_
            refine wp_then (a := if (yst (mset (yW (D 118)) 0 3 (bw (dn (D 118 6) (x + k) (yN (yW (D 118)))))) (yN (yW (D 118)))).1 p = -1 then 0 else 1) ?_ (wpo_of ⟨rfl, rfl, s2⟩)
            rw [Int.toNat_natCast, y2 p hp]
            refine wp_is ?_
            by_cases c : (yst (mset (yW (D 118)) 0 3 (bw (dn (D 118 6) (x + k) (yN (yW (D 118)))))) (yN (yW (D 118)))).1 p = -1
            · exact wp_pos (by rw [c]) (wpo_of (by rw [if_pos c]))
            · exact wp_neg (fun z => c ((eq32 (by omega) (by omega)).mp z)) (wpo_of (by rw [if_neg c]))
          · rintro ⟨t1, t2, M⟩ ⟨e1, e2, e3⟩
            dsimp only at e1 e2 e3 ⊢
            subst e1 e2
            exact wp_neg (fun z => absurd ((lt32 (by omega) (by omega)).mp z) (by omega)) (wpo_of ⟨rfl, e3⟩)
      · have href : wpo (f10_luck D x y z) (fun b => w32 (-2) = w32 b.1 ∧ SK D b.2) := by
          unfold f10_luck
          exact wp_then (sp_isSeedM hx) (wp_neg (fun z => if01.mp z c2) (wp_then (hin _) (wp_pos (if01.mpr c3) (wpo_of ⟨rfl, SK.rf⟩))))
        unfold f9_luck
        refine wp_then (sp_person9 hI hz) (wp_neg (fun z => if01.mp z c1) (wp_then (sp_isSeedC hx) (wp_neg (fun z => if01.mp z c2) ?_)))
        by_cases c4 : y < 1
        · exact wp_pos ((lt32 hy' (by omega)).mpr c4) (wpo_of href)
        · exact wp_neg (fun z => c4 ((lt32 hy' (by omega)).mp z)) (wp_pos ((lt32 (by omega) hy').mpr (by omega)) (wpo_of href))
    · unfold f9_luck f10_luck
      refine wp_then (sp_person9 hI hz) (wp_neg (fun z => if01.mp z c1) (wp_then (sp_isSeedC hx) (wp_pos (if01.mpr c2) (wpo_of ?_))))
      exact wp_then (sp_isSeedM hx) (wp_pos (if01.mpr c2) (wpo_of ⟨rfl, SK.rf⟩))
  · unfold f9_luck f10_luck
    refine wp_then (sp_person9 hI hz) (wp_pos (if01.mpr c1) (wpo_of ?_))
    refine wp_then (sp_isSeedM hx) ?_
    by_cases c2 : 0 ≤ x ∧ x ≤ 2000000000
    · refine wp_neg (fun z => if01.mp z c2) (wp_then (hin _) ?_)
      by_cases c3 : 1 ≤ y ∧ y ≤ 20
      · exact wp_neg (fun z => if01.mp z c3) (wp_then (sp_person10 hI SK.rf hz) (wp_pos (if01.mpr c1) (wpo_of ⟨rfl, SK.rf⟩)))
      · exact wp_pos (if01.mpr c3) (wpo_of ⟨rfl, SK.rf⟩)
    · exact wp_pos (if01.mpr c2) (wpo_of ⟨rfl, SK.rf⟩)
