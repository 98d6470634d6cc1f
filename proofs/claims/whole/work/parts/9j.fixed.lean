/-! PLANS: with some persons' nights given beforehand (by hand) -/
def cons (fx : Nat → Int) (P k : Nat) (g : Nat → Nat) : Prop := ∀ p, p < P → (fx p = -1 → g p = 0) ∧ ∀ m : Nat, fx p = (m : Int) → (m < k → g p = m + 1) ∧ (k ≤ m → g p = 0)
theorem Rea_fix {A Co F fx : Nat → Int} {P N : Nat} {R K : Int} (hB : PB A Co F P N R K) (hx : ∀ p, p < P → -2 ≤ fx p) : ∀ (k : Nat) (z : Nat × Int × (Nat → Nat)), Rea (okm A P R K (fmk fx F P) (mmk fx P)) (wk Co F P) k 0 z0 z ↔ Rea (okm A P R K (cm F P) nomm) (wk Co F P) k 0 z0 z ∧ cons fx P k z.2.2 := by
  intro k
  induction k with
  | zero =>
    intro z
    constructor
    · intro h
      refine ⟨h, fun p _ => ?_⟩
      rw [show z = z0 from h]
      exact ⟨fun _ => rfl, fun m _ => ⟨fun z => absurd z (Nat.not_lt_zero _), fun _ => rfl⟩⟩
    · exact fun h => h.1
  | succ k ih =>
    intro z
    rw [Rea_snoc k 0 z0 z, Rea_snoc k 0 z0 z, Nat.zero_add]
    constructor
    · rintro ⟨z1, x, h1, h2, h3, rfl⟩
      obtain ⟨i1, i2⟩ := (ih z1).mp h1
      obtain ⟨o1, o2, o3, o4, o5⟩ := okm_iff.mp h3
      refine ⟨⟨z1, x, i1, h2, okm_iff.mpr ⟨o1.tr fmk_cm, o2, sub_nomm, o4, o5⟩, rfl⟩, fun p hp => ?_⟩
      have j := i2 p hp
      show (fx p = -1 → put z1.2.2 x (k + 1) p = 0) ∧ ∀ m : Nat, fx p = (m : Int) → (m < k + 1 → put z1.2.2 x (k + 1) p = m + 1) ∧ (k + 1 ≤ m → put z1.2.2 x (k + 1) p = 0)
      unfold put
      by_cases c : x.testBit p = true
      · rw [if_pos c]
        have hf := (fmk_bit.mp (o1 p c)).2.2
        refine ⟨fun e => by omega, fun m e => ⟨fun _ => by omega, fun _ => by omega⟩⟩
      · rw [if_neg c]
        refine ⟨j.1, fun m e => ⟨fun hm => ?_, fun hm => (j.2 m e).2 (by omega)⟩⟩
        by_cases e2 : m = k
        · exact absurd (o3 p (mmk_bit.mpr ⟨hp, by rw [e, e2]⟩)) c
        · exact (j.2 m e).1 (by omega)
    · rintro ⟨⟨z1, x, h1, h2, h3, rfl⟩, hc⟩
      obtain ⟨o1, o2, o3, o4, o5⟩ := okm_iff.mp h3
      obtain ⟨v1, v2, -⟩ := Rea_inv hB.F0 hB.2.2.2.2.2.1.1 hB.2.2.2.2.2.2.1 (fun k => Sub.rf) k z1 h1
      have hc' : ∀ p, p < P → (fx p = -1 → put z1.2.2 x (k + 1) p = 0) ∧ ∀ m : Nat, fx p = (m : Int) → (m < k + 1 → put z1.2.2 x (k + 1) p = m + 1) ∧ (k + 1 ≤ m → put z1.2.2 x (k + 1) p = 0) := hc
      have g0 : ∀ p, x.testBit p = true → z1.2.2 p = 0 := fun p hp => Classical.byContradiction (fun c => by
        have := (v1 p).mpr c
        rw [o2 p hp] at this
        cases this)
      have hin : ∀ p, p < P → x.testBit p = true → put z1.2.2 x (k + 1) p = k + 1 := fun p _ h => if_pos h
      have hout : ∀ p, ¬ x.testBit p = true → put z1.2.2 x (k + 1) p = z1.2.2 p := fun p h => if_neg h
      refine ⟨z1, x, (ih z1).mpr ⟨h1, fun p hp => ?_⟩, h2, okm_iff.mpr ⟨fun p hp => ?_, o2, fun p hp => ?_, o4, o5⟩, rfl⟩
      · have j := hc' p hp
        by_cases c : x.testBit p = true
        · rw [hin p hp c] at j
          rw [g0 p c]
          refine ⟨fun _ => rfl, fun m e => ⟨fun hm => ?_, fun _ => rfl⟩⟩
          have := (j.2 m e).1 (by omega)
          omega
        · rw [hout p c] at j
          refine ⟨j.1, fun m e => ⟨fun hm => (j.2 m e).1 (by omega), fun hm => ?_⟩⟩
          by_cases e2 : m = k
          · have h9 := (j.2 m e).1 (by omega)
            have := v2 p
            omega
          · exact (j.2 m e).2 (by omega)
      · have h8 := cm_bit.mp (o1 p hp)
        have j := hc' p h8.1
        rw [hin p h8.1 hp] at j
        refine fmk_bit.mpr ⟨h8.1, h8.2, ?_⟩
        have hx' := hx p h8.1
        by_cases e1 : fx p = -2
        · exact Or.inl e1
        · refine Or.inr ?_
          by_cases e2 : fx p = -1
          · have := j.1 e2
            omega
          · obtain ⟨m, hm⟩ : ∃ m : Nat, fx p = (m : Int) := ⟨(fx p).toNat, by omega⟩
            by_cases c : m < k + 1
            · have := (j.2 m hm).1 c
              omega
            · have := (j.2 m hm).2 (by omega)
              omega
      · obtain ⟨hp1, hp2⟩ := mmk_bit.mp hp
        by_cases c : x.testBit p = true
        · exact c
        · have j := ((hc' p hp1).2 k hp2).1 (by omega)
          rw [hout p c] at j
          have := v2 p
          omega
/-- what the reference finds under given nights, held against the best of all plans -/
theorem fix_least {A Co F fx : Nat → Int} {P N : Nat} {R K b r c v c' : Int} (hB : PB A Co F P N R K) (hx : ∀ p, p < P → -2 ≤ fx p) (hb : Best A Co F P N R K b r c) (ht : TBp (1440 * (N : Int)) v c' (Zr A Co F fx P N R K 0 0)) : v = b ↔ ∃ z, Rea (okm A P R K (cm F P) nomm) (wk Co F P) N 0 z0 z ∧ z.2.1 = b ∧ cons fx P N z.2.2 := by
  obtain ⟨b1, b2, b3, b4, b5, b6, b7⟩ := hb
  have ex : ∀ x, Zr A Co F fx P N R K 0 0 x ≠ 0 → ∃ z, Rea (okm A P R K (cm F P) nomm) (wk Co F P) N 0 z0 z ∧ z.2.1 = x ∧ cons fx P N z.2.2 := by
    intro x hz
    refine Classical.byContradiction (fun hn => hz ?_)
    unfold Zr
    refine Tot_none (fun z hr => ?_)
    have hr' := (Rea_fix hB hx N z).mp hr
    exact if_neg (fun e => hn ⟨z, hr'.1, e, hr'.2⟩)
  constructor
  · intro e
    rcases ht with ⟨h1, h2, h3⟩ | ⟨h1, h2, h3, h4⟩
    · omega
    · rw [← e]
      exact ex v (by omega)
  · rintro ⟨z, h1, h2, h3⟩
    have hp : Zr A Co F fx P N R K 0 0 b ≠ 0 := by
      have := (Tot_pos (ok := okm A P R K (fmk fx F P) (mmk fx P)) (w := wk Co F P) N 0 (ind b) z0 (fun z => by unfold ind; split <;> decide)).2 z ((Rea_fix hB hx N z).mpr ⟨h1, h3⟩)
      unfold ind at this
      rw [if_pos h2] at this
      have e : Zr A Co F fx P N R K 0 0 b = Tot (okm A P R K (fmk fx F P) (mmk fx P)) (wk Co F P) N 0 (ind b) z0 := rfl
      rw [e]
      unfold ind
      omega
    rcases ht with ⟨t1, t2, t3⟩ | ⟨t1, t2, t3, t4⟩
    · exact absurd (t3 b) hp
    · have l1 : ¬ b < v := fun hl => hp (t4 b hl)
      obtain ⟨z', y1, y2, -⟩ := ex v (by omega)
      have := b6 v _ ⟨z', y1, y2, rfl⟩
      omega
theorem fmk_no {fx F : Nat → Int} {P : Nat} (h : ∀ p, p < P → fx p = -2) : fmk fx F P = cm F P ∧ mmk fx P = nomm := by
  constructor
  · funext k
    unfold fmk cm
    exact nset_congr (fun p hp => by rw [h p hp]; simp)
  · funext k
    unfold mmk nomm
    rw [nset_congr (g := fun _ => false) (fun p hp => by rw [h p hp]; exact decide_eq_false (by omega))]
    apply Nat.eq_of_testBit_eq
    intro p
    rw [nset_bit, Nat.zero_testBit, Bool.and_false]
theorem free_least {A Co F fx : Nat → Int} {P N : Nat} {R K b r c v c' : Int} (hx : ∀ p, p < P → fx p = -2) (hb : Best A Co F P N R K b r c) (ht : TBp (1440 * (N : Int)) v c' (Zr A Co F fx P N R K 0 0)) : v = b ∧ c' = c := by
  obtain ⟨b1, b2, b3, b4, b5, b6, b7⟩ := hb
  have e : ∀ x, Zr A Co F fx P N R K 0 0 x = ZXt A Co F P N R K x := fun x => by
    unfold Zr ZXt
    rw [(fmk_no (F := F) hx).1, (fmk_no (F := F) hx).2]
    rfl
  rcases ht with ⟨t1, t2, t3⟩ | ⟨t1, t2, t3, t4⟩
  · have := t3 b
    rw [e] at this
    omega
  · have l1 : ¬ v < b := fun hl => by have := b7 v hl; rw [← e] at this; omega
    have l2 : ¬ b < v := fun hl => by have := t4 b hl; rw [e] at this; omega
    have ev : v = b := by omega
    refine ⟨ev, ?_⟩
    rw [t2, e, ev, ← b4]
