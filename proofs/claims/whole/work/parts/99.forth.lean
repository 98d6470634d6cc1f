/-! PLANS: from the first night on (by hand) -/
def z0 : Nat × Int × (Nat → Nat) := (0, 0, fun _ => 0)
def nomm : Nat → Nat := fun _ => 0
theorem Rea_inv {A Co F : Nat → Int} {P : Nat} {R K : Int} {fm mm : Nat → Nat} (hF : ∀ p, p < P → 0 ≤ F p) (hR : 0 ≤ R) (hK : 0 ≤ K) (hfm : ∀ k, Sub (fm k) (cm F P k)) : ∀ (k : Nat) (z : Nat × Int × (Nat → Nat)), Rea (okm A P R K fm mm) (wk Co F P) k 0 z0 z → (∀ p, z.1.testBit p = true ↔ z.2.2 p ≠ 0) ∧ (∀ p, z.2.2 p ≤ k) ∧ (∀ p, z.1.testBit p = true → p < P ∧ F p < (k : Int)) ∧ aS A P z.1 ≤ K ∧ aS A P z.1 ≤ R * (k : Int) := by
  intro k
  induction k with
  | zero =>
    intro z h
    rw [show z = z0 from h]
    unfold z0
    refine ⟨fun p => ?_, fun p => Nat.le_refl 0, fun p hp => ?_, ?_, ?_⟩
    · rw [Nat.zero_testBit]
      exact ⟨fun h => Bool.noConfusion h, fun h => absurd rfl h⟩
    · rw [Nat.zero_testBit] at hp
      cases hp
    · rw [aS_zero]; exact hK
    · rw [aS_zero]; exact Int.le_of_eq (Int.mul_zero R).symm
  | succ k ih =>
    intro z h
    obtain ⟨z1, x, h1, h2, h3, rfl⟩ := (Rea_snoc k 0 z0 z).mp h
    obtain ⟨i1, i2, i3, i4, i5⟩ := ih z1 h1
    rw [Nat.zero_add] at h3
    obtain ⟨o1, o2, o3, o4, o5⟩ := okm_iff.mp h3
    unfold stp put
    dsimp only
    refine ⟨fun p => ?_, fun p => ?_, fun p hp => ?_, o5, ?_⟩
    · rw [Nat.testBit_or]
      cases hx : x.testBit p with
      | true => simp
      | false =>
        rw [Bool.or_false, if_neg (fun z => Bool.noConfusion z : ¬ false = true)]
        exact i1 p
    · have := i2 p
      split <;> omega
    · rw [Nat.testBit_or] at hp
      cases hx : x.testBit p with
      | true =>
        have := cm_bit.mp (hfm k p (o1 p hx))
        exact ⟨this.1, by omega⟩
      | false =>
        rw [hx, Bool.or_false] at hp
        have := i3 p hp
        exact ⟨this.1, by omega⟩
    · rw [aS_or o2]
      have e : R * ((k + 1 : Nat) : Int) = R * (k : Int) + R := by rw [show ((k + 1 : Nat) : Int) = (k : Int) + 1 from rfl, Int.mul_add, Int.mul_one]
      rw [e]
      omega
/-- plans to the k-th night that give just to t: that there is one, and how many -/
def EX (A Co F : Nat → Int) (P : Nat) (R K : Int) (k t : Nat) (b r : Int) : Prop := ∃ z, Rea (okm A P R K (cm F P) nomm) (wk Co F P) k 0 z0 z ∧ z.1 = t ∧ z.2.1 = b + Ud Co F P k t ∧ row z.2.2 = r
def iz (Co F : Nat → Int) (P k t : Nat) (b : Int) : Nat × Int × (Nat → Nat) → Int := fun z => if z.1 = t ∧ z.2.1 = b + Ud Co F P k t then 1 else 0
def ZX (A Co F : Nat → Int) (P : Nat) (R K : Int) (k t : Nat) (b : Int) : Int := Tot (okm A P R K (cm F P) nomm) (wk Co F P) k 0 (iz Co F P k t b) z0
theorem EX_zero {A Co F : Nat → Int} {P : Nat} {R K : Int} (hF : ∀ p, p < P → 0 ≤ F p) {t : Nat} {b r : Int} : EX A Co F P R K 0 t b r ↔ t = 0 ∧ b = 0 ∧ r = 0 := by
  have er : row (fun _ => 0) = 0 := by
    unfold row
    exact sumN_off (fun p _ => Int.zero_mul _)
  unfold EX
  constructor
  · rintro ⟨z, h, rfl, h2, rfl⟩
    rw [show z = z0 from h] at h2 ⊢
    unfold z0 at h2 ⊢
    dsimp only at h2 ⊢
    rw [Ud_zero hF] at h2
    exact ⟨rfl, by omega, er⟩
  · rintro ⟨rfl, rfl, rfl⟩
    exact ⟨z0, rfl, rfl, by rw [Ud_zero hF]; rfl, er⟩
theorem ZX_zero {A Co F : Nat → Int} {P : Nat} {R K : Int} (hF : ∀ p, p < P → 0 ≤ F p) {t : Nat} {b : Int} : ZX A Co F P R K 0 t b = if t = 0 ∧ b = 0 then 1 else 0 := by
  show iz Co F P 0 t b z0 = _
  unfold iz z0
  dsimp only
  by_cases c : t = 0
  · rw [c, Ud_zero hF]
    by_cases c2 : b = 0
    · rw [if_pos ⟨rfl, by omega⟩, if_pos ⟨rfl, c2⟩]
    · rw [if_neg (fun z => c2 (by have := z.2; omega)), if_neg (fun z => c2 z.2)]
  · rw [if_neg (fun z => c z.1.symm), if_neg (fun z => c z.1)]
theorem sub_nomm {k x : Nat} : Sub (nomm k) x := sub_zero
/-- the last step, taken back -/
theorem last_iff {A Co F : Nat → Int} {P : Nat} {R K : Int} {k t x : Nat} {b : Int} {z : Nat × Int × (Nat → Nat)} (ht : Sub t (cm F P k)) (hK : aS A P t ≤ K) : (okm A P R K (cm F P) nomm k z.1 x = true ∧ (stp (wk Co F P) k z x).1 = t ∧ (stp (wk Co F P) k z x).2.1 = b + Ud Co F P (k + 1) t) ↔ ((x &&& t = x ∧ aS A P x ≤ R) ∧ z.1 = t ^^^ x ∧ z.2.1 = b - de Co F P k x + Ud Co F P k (t ^^^ x)) := by
  unfold stp
  dsimp only
  rw [okm_iff, sub_iff]
  constructor
  · rintro ⟨⟨o1, o2, o3, o4, o5⟩, e1, e2⟩
    obtain ⟨e3, e4⟩ := or_xor o2 e1
    have hu := Ud_step (Co := Co) (F := F) (P := P) (k := k) e4 ht
    rw [e1] at e2
    exact ⟨⟨e4, o4⟩, e3, by omega⟩
  · rintro ⟨⟨e4, o4⟩, e3, e2⟩
    obtain ⟨e1, o2⟩ := xor_or e4
    have hu := Ud_step (Co := Co) (F := F) (P := P) (k := k) e4 ht
    rw [e3, e1]
    exact ⟨⟨e4.tr ht, o2, sub_nomm, o4, hK⟩, rfl, by omega⟩
theorem EX_step {A Co F : Nat → Int} {P : Nat} {R K : Int} {k t : Nat} {b r : Int} (hF : ∀ p, p < P → 0 ≤ F p) (hR : 0 ≤ R) (h0 : 0 ≤ K) (hP : P ≤ 8) (ht : Sub t (cm F P k)) (hK : aS A P t ≤ K) : EX A Co F P R K (k + 1) t b r ↔ ∃ x, (x &&& t = x ∧ aS A P x ≤ R) ∧ EX A Co F P R K k (t ^^^ x) (b - de Co F P k x) (r - ((k + 1 : Nat) : Int) * aS mkk 8 x) := by
  unfold EX
  constructor
  · rintro ⟨z, h, e1, e2, e3⟩
    obtain ⟨z1, x, h1, h2, h3, rfl⟩ := (Rea_snoc k 0 z0 z).mp h
    rw [Nat.zero_add] at h3 e1 e2 e3
    obtain ⟨l1, l2, l3⟩ := (last_iff (b := b) ht hK).mp ⟨h3, e1, e2⟩
    refine ⟨x, l1, z1, h1, l2, l3, ?_⟩
    have hi := (Rea_inv hF hR h0 (fun k => Sub.rf) k z1 h1).1
    have o2 := (okm_iff.mp h3).2.1
    have : row (put z1.2.2 x (k + 1)) = r := e3
    rw [row_put (fun p hp => Classical.byContradiction (fun c => by have := (hi p).mpr c; rw [o2 p hp] at this; cases this))] at this
    omega
  · rintro ⟨x, l1, z1, h1, l2, l3, l4⟩
    obtain ⟨h3, e1, e2⟩ := (last_iff (b := b) ht hK).mpr ⟨l1, l2, l3⟩
    have hx : x < 256 := by
      have h8 := pow8 hP
      have h9 := cm_lt (F := F) (P := P) (k := k)
      have := (sub_iff.mp l1.1).le
      have := ht.le
      omega
    refine ⟨stp (wk Co F P) k z1 x, (Rea_snoc k 0 z0 _).mpr ⟨z1, x, h1, hx, by rw [Nat.zero_add]; exact h3, by rw [Nat.zero_add]⟩, e1, e2, ?_⟩
    have hi := (Rea_inv hF hR h0 (fun k => Sub.rf) k z1 h1).1
    have o2 := (okm_iff.mp h3).2.1
    show row (put z1.2.2 x (k + 1)) = r
    rw [row_put (fun p hp => Classical.byContradiction (fun c => by have := (hi p).mpr c; rw [o2 p hp] at this; cases this))]
    omega
theorem ZX_step {A Co F : Nat → Int} {P : Nat} {R K : Int} {k t : Nat} {b : Int} (ht : Sub t (cm F P k)) (hK : aS A P t ≤ K) : ZX A Co F P R K (k + 1) t b = sumN (fun x => if x &&& t = x ∧ aS A P x ≤ R then ZX A Co F P R K k (t ^^^ x) (b - de Co F P k x) else 0) 256 := by
  unfold ZX
  rw [Tot_snoc, Nat.zero_add]
  show Tot _ _ k 0 (fun z => sumN (fun x => if okm A P R K (cm F P) nomm k z.1 x = true then iz Co F P (k + 1) t b (stp (wk Co F P) k z x) else 0) 256) z0 = _
  rw [Tot_sum]
  refine sumN_congr (fun x hx => ?_)
  by_cases c : x &&& t = x ∧ aS A P x ≤ R
  · rw [if_pos c]
    refine Tot_congr _ _ _ _ _ (fun z _ => ?_)
    unfold iz
    have hl := last_iff (A := A) (Co := Co) (R := R) (K := K) (x := x) (b := b) (z := z) ht hK
    by_cases d : z.1 = t ^^^ x ∧ z.2.1 = b - de Co F P k x + Ud Co F P k (t ^^^ x)
    · obtain ⟨l1, l2, l3⟩ := hl.mpr ⟨c, d⟩
      rw [if_pos d, if_pos l1, if_pos ⟨l2, l3⟩]
    · rw [if_neg d]
      by_cases l1 : okm A P R K (cm F P) nomm k z.1 x = true
      · rw [if_pos l1, if_neg (fun l => d (hl.mp ⟨l1, l⟩).2)]
      · rw [if_neg l1]
  · rw [if_neg c]
    refine Tot_none (fun z _ => ?_)
    unfold iz
    by_cases l1 : okm A P R K (cm F P) nomm k z.1 x = true
    · rw [if_pos l1, if_neg (fun l => c ((last_iff (b := b) ht hK).mp ⟨l1, l⟩).1)]
    · rw [if_neg l1]
/-- nobody can have been given so much, or so early -/
theorem EX_off {A Co F : Nat → Int} {P : Nat} {R K : Int} {k t : Nat} (hF : ∀ p, p < P → 0 ≤ F p) (hR : 0 ≤ R) (h0 : 0 ≤ K) (h : ¬ Sub t (cm F P k) ∨ K < aS A P t ∨ R * ((k + 1 : Nat) : Int) < aS A P t) : ((∀ b r, ¬ EX A Co F P R K k t b r) ∧ ∀ b, ZX A Co F P R K k t b = 0) ∧ ((∀ b r, ¬ EX A Co F P R K (k + 1) t b r) ∧ ∀ b, ZX A Co F P R K (k + 1) t b = 0) := by
  have e : R * ((k + 1 : Nat) : Int) = R * (k : Int) + R := by rw [show ((k + 1 : Nat) : Int) = (k : Int) + 1 from rfl, Int.mul_add, Int.mul_one]
  have no : ∀ j, j = k ∨ j = k + 1 → ∀ z, Rea (okm A P R K (cm F P) nomm) (wk Co F P) j 0 z0 z → z.1 ≠ t := by
    intro j hj z hz hzt
    obtain ⟨i1, i2, i3, i4, i5⟩ := Rea_inv hF hR h0 (fun k => Sub.rf) j z hz
    rw [hzt] at i3 i4 i5
    have i6 : aS A P t ≤ R * ((k + 1 : Nat) : Int) := by
      rcases hj with rfl | rfl
      · rw [e]; omega
      · exact i5
    rcases h with h | h | h
    · refine h (fun p hp => ?_)
      have := i3 p hp
      exact cm_bit.mpr ⟨this.1, by omega⟩
    · omega
    · omega
  refine ⟨⟨?_, fun b => ?_⟩, ?_, fun b => ?_⟩
  · rintro b r ⟨z, h1, h2, -⟩
    exact no k (Or.inl rfl) z h1 h2
  · exact Tot_none (fun z hz => if_neg (fun y => no k (Or.inl rfl) z hz y.1))
  · rintro b r ⟨z, h1, h2, -⟩
    exact no (k + 1) (Or.inr rfl) z h1 h2
  · exact Tot_none (fun z hz => if_neg (fun y => no (k + 1) (Or.inr rfl) z hz y.1))
