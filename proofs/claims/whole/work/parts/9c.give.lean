/-! PLANS: a night's giving, in the planner (by hand) -/
theorem mulbd {a b x y : Int} (ha : 0 ≤ a ∧ a ≤ x) (hb : 0 ≤ b ∧ b ≤ y) : 0 ≤ a * b ∧ a * b ≤ x * y := ⟨Int.mul_nonneg ha.1 hb.1, Int.mul_le_mul ha.2 hb.2 hb.1 (by omega)⟩
theorem de_lin {Co F : Nat → Int} {P k x : Nat} : aS Co P x * (k : Int) - aS (fun p => Co p * F p) P x = de Co F P k x := by
  unfold de aS
  induction P with
  | zero => show (0 : Int) * (k : Int) - 0 = 0; omega
  | succ P ih =>
    rw [sumN, sumN, sumN, Int.add_mul, ← ih]
    cases x.testBit P with
    | true =>
      rw [if_pos rfl, if_pos rfl, if_pos rfl]
      dsimp only
      rw [Int.mul_sub]
      omega
    | false =>
      rw [if_neg (fun z => Bool.noConfusion z), if_neg (fun z => Bool.noConfusion z), if_neg (fun z => Bool.noConfusion z)]
      omega
theorem de_bd {Co F : Nat → Int} {P k x : Nat} (hP : P ≤ 8) (hk : k ≤ 12) (hC : ∀ p, p < P → 0 ≤ Co p ∧ Co p ≤ 180) (hF : ∀ p, p < P → 0 ≤ F p) (hx : Sub x (cm F P k)) : 0 ≤ de Co F P k x ∧ de Co F P k x ≤ 17280 := by
  have := sumN_bd (f := fun p => if x.testBit p = true then Co p * ((k : Int) - F p) else 0) (n := P) (lo := 0) (hi := 2160) (fun p hp => by
    by_cases c : x.testBit p = true
    · rw [if_pos c]
      have h1 := (cm_bit.mp (hx p c)).2
      have h2 := hF p hp
      exact mulbd (x := 180) (y := 12) (hC p hp) ⟨by omega, by omega⟩
    · rw [if_neg c]
      omega)
  have e : de Co F P k x = sumN (fun p => if x.testBit p = true then Co p * ((k : Int) - F p) else 0) P := rfl
  rw [e]
  omega
theorem de_zero {Co F : Nat → Int} {P k : Nat} : de Co F P k 0 = 0 := aS_zero
theorem mk_bd {P x : Nat} (hP : P ≤ 8) : 0 ≤ aS mkk P x ∧ aS mkk P x ≤ 2147483648 := by
  have := aS_bd (f := mkk) (P := P) (s := x) (hi := 268435456) (by decide) (fun p hp => by
    have : ∀ p, p < 8 → 0 ≤ mkk p ∧ mkk p ≤ 268435456 := by decide
    exact this p (by omega))
  omega
theorem mk_8 {P x : Nat} (hP : P ≤ 8) (hx : x < 2 ^ P) : aS mkk P x = aS mkk 8 x := by
  have := aS_ext (f := mkk) hx (8 - P)
  rw [show P + (8 - P) = 8 by omega] at this
  exact this.symm
theorem EX_row {A Co F : Nat → Int} {P : Nat} {R K : Int} {k t : Nat} {b r : Int} (hF : ∀ p, p < P → 0 ≤ F p) (hR : 0 ≤ R) (h0 : 0 ≤ K) (hk : k ≤ 12) (h : EX A Co F P R K k t b r) : 0 ≤ r ∧ r < 4294967296 := by
  obtain ⟨z, h1, -, -, rfl⟩ := h
  have := (Rea_inv hF hR h0 (fun k => Sub.rf) k z h1).2.1
  exact row_bd (fun p => Nat.le_trans (this p) hk)
/-- of the night's sets for t, those done: none, and the ones above q -/
def Exc (A Co F : Nat → Int) (P : Nat) (R K : Int) (k t q : Nat) (b r : Int) : Prop := ∃ x, (x &&& t = x ∧ aS A P x ≤ R) ∧ (x = 0 ∨ q < x) ∧ EX A Co F P R K k (t ^^^ x) (b - de Co F P k x) (r - ((k + 1 : Nat) : Int) * aS mkk 8 x)
def Zxc (A Co F : Nat → Int) (P : Nat) (R K : Int) (k t q : Nat) (b : Int) : Int := sumN (fun x => if (x &&& t = x ∧ aS A P x ≤ R) ∧ (x = 0 ∨ q < x) then ZX A Co F P R K k (t ^^^ x) (b - de Co F P k x) else 0) 256
theorem Exc_start {A Co F : Nat → Int} {P : Nat} {R K : Int} {k t : Nat} {b r : Int} (hR : 0 ≤ R) : Exc A Co F P R K k t t b r ↔ EX A Co F P R K k t b r := by
  unfold Exc
  constructor
  · rintro ⟨x, ⟨h1, -⟩, h2, h3⟩
    have h4 := (sub_iff.mp h1).le
    have hx : x = 0 := by omega
    rw [hx, de_zero, aS_zero, Nat.xor_zero, Int.mul_zero, Int.sub_zero, Int.sub_zero] at h3
    exact h3
  · intro h
    refine ⟨0, ⟨Nat.zero_and t, by rw [aS_zero]; exact hR⟩, Or.inl rfl, ?_⟩
    rw [de_zero, aS_zero, Nat.xor_zero, Int.mul_zero, Int.sub_zero, Int.sub_zero]
    exact h
theorem Zxc_start {A Co F : Nat → Int} {P : Nat} {R K : Int} {k t : Nat} {b : Int} (hR : 0 ≤ R) : Zxc A Co F P R K k t t b = ZX A Co F P R K k t b := by
  unfold Zxc
  rw [sumN_one (x := 0) (by decide) (fun x _ hx => by
    refine if_neg (fun z => ?_)
    have h4 := (sub_iff.mp z.1.1).le
    have := z.2
    omega)]
  rw [if_pos ⟨⟨Nat.zero_and t, by rw [aS_zero]; exact hR⟩, Or.inl rfl⟩, de_zero, Nat.xor_zero, Int.sub_zero]
theorem sub_gt {t q x : Nat} (ht : t < 256) (hq : Sub q t) (hx : Sub x t) (h0 : q ≠ 0) : ((q - 1) &&& t < x) ↔ (q < x ∨ x = q) := by
  have h1 : (q - 1) &&& t ≤ q - 1 := Nat.and_le_left
  constructor
  · intro h
    by_cases c : x < q
    · have := sub_next 8 q x t (by have := hq.le; omega) hq hx c
      omega
    · omega
  · intro h
    omega
theorem Exc_next {A Co F : Nat → Int} {P : Nat} {R K : Int} {k t q : Nat} {b r : Int} (ht : t < 256) (hq : Sub q t) (h0 : q ≠ 0) : Exc A Co F P R K k t ((q - 1) &&& t) b r ↔ Exc A Co F P R K k t q b r ∨ (aS A P q ≤ R ∧ EX A Co F P R K k (t ^^^ q) (b - de Co F P k q) (r - ((k + 1 : Nat) : Int) * aS mkk 8 q)) := by
  unfold Exc
  constructor
  · rintro ⟨x, h1, h2, h3⟩
    by_cases c : x = q
    · rw [c] at h1 h3
      exact Or.inr ⟨h1.2, h3⟩
    · refine Or.inl ⟨x, h1, ?_, h3⟩
      rcases h2 with h2 | h2
      · exact Or.inl h2
      · rcases (sub_gt ht hq (sub_iff.mp h1.1) h0).mp h2 with h | h
        · exact Or.inr h
        · exact absurd h c
  · rintro (⟨x, h1, h2, h3⟩ | ⟨h1, h3⟩)
    · refine ⟨x, h1, ?_, h3⟩
      rcases h2 with h2 | h2
      · exact Or.inl h2
      · exact Or.inr ((sub_gt ht hq (sub_iff.mp h1.1) h0).mpr (Or.inl h2))
    · exact ⟨q, ⟨hq.and, h1⟩, Or.inr ((sub_gt ht hq hq h0).mpr (Or.inr rfl)), h3⟩
theorem Zxc_next {A Co F : Nat → Int} {P : Nat} {R K : Int} {k t q : Nat} {b : Int} (ht : t < 256) (hq : Sub q t) (h0 : q ≠ 0) : Zxc A Co F P R K k t ((q - 1) &&& t) b = Zxc A Co F P R K k t q b + (if aS A P q ≤ R then ZX A Co F P R K k (t ^^^ q) (b - de Co F P k q) else 0) := by
  unfold Zxc
  have hq' : q < 256 := by have := hq.le; omega
  rw [sumN_upd (f := fun x => if (x &&& t = x ∧ aS A P x ≤ R) ∧ (x = 0 ∨ (q - 1) &&& t < x) then ZX A Co F P R K k (t ^^^ x) (b - de Co F P k x) else 0) (g := fun x => if (x &&& t = x ∧ aS A P x ≤ R) ∧ (x = 0 ∨ q < x) then ZX A Co F P R K k (t ^^^ x) (b - de Co F P k x) else 0) hq' (fun x _ hx => ?_)]
  · have e1 : ¬ ((q &&& t = q ∧ aS A P q ≤ R) ∧ (q = 0 ∨ q < q)) := fun z => by have := z.2; omega
    rw [if_neg e1]
    have e2 := (sub_gt ht hq hq h0).mpr (Or.inr rfl)
    by_cases c : aS A P q ≤ R
    · rw [if_pos ⟨⟨hq.and, c⟩, Or.inr e2⟩, if_pos c]
      omega
    · rw [if_neg (fun z => c z.1.2), if_neg c]
      omega
  · by_cases c : x &&& t = x ∧ aS A P x ≤ R
    · have e := sub_gt ht hq (sub_iff.mp c.1) h0
      by_cases d : x = 0 ∨ q < x
      · rw [if_pos ⟨c, d.imp (fun z => z) (fun z => e.mpr (Or.inl z))⟩, if_pos ⟨c, d⟩]
      · rw [if_neg (fun z => d (z.2.imp (fun y => y) (fun y => (e.mp y).resolve_right hx))), if_neg (fun z => d z.2)]
    · rw [if_neg (fun z => c z.1), if_neg (fun z => c z.1)]
set_option maxHeartbeats 1000000 in
theorem sp_give {M : Mem} {A Co F : Nat → Int} {P N k t : Nat} {R K : Int} (hP : P ≤ 8) (hk : k < 12) (hA : ∀ p, p < P → 0 ≤ A p ∧ A p ≤ 20) (hC : ∀ p, p < P → 0 ≤ Co p ∧ Co p ≤ 180) (hF : ∀ p, p < P → 0 ≤ F p ∧ F p ≤ 100) (hR : 0 ≤ R ∧ R ≤ 160) (hK : 0 ≤ K) (hT : PT A Co F P N M) (ht : Sub t (cm F P k)) (hKt : aS A P t ≤ K) (hE : ∀ s, Sub s t → TP (17280 * (k : Int)) (M 56 s) (M 57 s) (EX A Co F P R K k s) (ZX A Co F P R K k s)) : wpo (f3_giveInNight M (t : Int) (k : Int) R) (fun M' => ∃ v c : Int, M' = mset (mset M 56 t v) 57 t c ∧ TP (17280 * ((k + 1 : Nat) : Int)) v c (EX A Co F P R K (k + 1) t) (ZX A Co F P R K (k + 1) t)) := by
  have h256 := pow8 hP
  have htP : t < 2 ^ P := by
    have h9 := cm_lt (F := F) (P := P) (k := k)
    have := ht.le
    omega
  have hF0 : ∀ p, p < P → 0 ≤ F p := fun p hp => (hF p hp).1
  unfold f3_giveInNight
  refine wp_pos (by omega) ?_
  rw [Int.toNat_natCast]
  refine wp_bind.mpr (wpo_mono (P := fun r => TP (17280 * ((k + 1 : Nat) : Int)) r.1 r.2 (Exc A Co F P R K k t 0) (Zxc A Co F P R K k t 0)) ?_ ?_)
  · refine wp_loopm (I := fun m s => s.2.2 = (m : Int) ∧ Sub m t ∧ TP (17280 * ((k + 1 : Nat) : Int)) s.1 s.2.1 (Exc A Co F P R K k t m) (Zxc A Co F P R K k t m)) ?_ FU t _ ⟨rfl, Sub.rf, ((hE t Sub.rf).wide (by omega)).congr (fun b r => Exc_start hR.1) (fun b => Zxc_start hR.1)⟩ (by unfold FU; omega)
    rintro q ⟨best, cnt, q'⟩ ⟨e1, e2, e3⟩
    dsimp only at e1 e2 e3 ⊢
    subst e1
    have hqt := e2.le
    by_cases q0 : q = 0
    · rw [q0] at e3 ⊢
      exact wp_neg (by decide) (wpo_of e3)
    · have hqP : q < 2 ^ P := by omega
      obtain ⟨t51, t52, t53, t54, t55⟩ := hT q hqP
      have ba := aS_bd (f := A) (P := P) (s := q) (hi := 20) (by decide) hA
      have bc := aS_bd (f := Co) (P := P) (s := q) (hi := 180) (by decide) hC
      have bcf := aS_bd (f := fun p => Co p * F p) (P := P) (s := q) (hi := 18000) (by decide) (fun p hp => mulbd (x := 180) (y := 100) (hC p hp) (hF p hp))
      have bd := de_bd hP (Nat.le_of_lt hk) hC hF0 (e2.tr ht)
      have bm := mk_bd (P := P) (x := q) hP
      have hbest := e3.bd (by omega)
      have en : and32 ((q : Int) - 1) (t : Int) = (((q - 1) &&& t : Nat) : Int) := by
        rw [show (q : Int) - 1 = ((q - 1 : Nat) : Int) by omega]
        exact and32_nat (by omega) (by omega)
      have ex : xor32 (t : Int) (q : Int) = ((t ^^^ q : Nat) : Int) := xor32_nat (by omega) (by omega)
      have hxl := (xor_sub e2).le
      refine wp_pos (by rw [w32_id (by omega)]; omega) (wp_pos (by omega) ?_)
      rw [en, ex, Int.toNat_natCast]
      have hnx : (q - 1) &&& t < q := by
        have : (q - 1) &&& t ≤ q - 1 := Nat.and_le_left
        omega
      refine wp_bind.mpr (wpo_mono (P := fun r => TP (17280 * ((k + 1 : Nat) : Int)) r.1 r.2 (Exc A Co F P R K k t ((q - 1) &&& t)) (Zxc A Co F P R K k t ((q - 1) &&& t))) ?_ (fun r hr => wpo_of ⟨(q - 1) &&& t, hnx, rfl, sub_and, hr⟩))
      by_cases c1 : R < aS A P q
      · refine wp_pos (by rw [t51]; exact (lt32 (by omega) (by omega)).mpr c1) (wpo_of (e3.congr (fun b r => ?_) (fun b => ?_)))
        · rw [Exc_next (by omega) e2 q0]
          exact ⟨fun z => z.resolve_right (fun y => by have := y.1; omega), Or.inl⟩
        · rw [Zxc_next (by omega) e2 q0, if_neg (by omega), Int.add_zero]
      · refine wp_neg (by rw [t51]; exact fun z => c1 ((lt32 (by omega) (by omega)).mp z)) (wp_pos (by omega) ?_)
        rw [Int.toNat_natCast]
        have hs := hE (t ^^^ q) (xor_sub e2)
        rcases hs with ⟨s1, s2, s3, s4⟩ | ⟨b, r, s1, s2, s3, s4, s5, s6, s7, s8⟩
        · refine wp_neg (by rw [s1]; decide) (wpo_of (e3.congr (fun b r => ?_) (fun b => ?_)))
          · rw [Exc_next (by omega) e2 q0]
            exact ⟨fun z => z.resolve_right (fun y => s3 _ _ y.2), Or.inl⟩
          · rw [Zxc_next (by omega) e2 q0, if_pos (by omega), s4, Int.add_zero]
        · refine wp_pos (by rw [s1, w64_id (by omega), w64_id (by omega)]; omega) ?_
          have hEx : EX A Co F P R K (k + 1) t (b + de Co F P k q) (r + ((k + 1 : Nat) : Int) * aS mkk P q) := (EX_step hF0 hR.1 hK hP ht hKt).mpr ⟨q, ⟨e2.and, by omega⟩, by rw [mk_8 hP hqP, Int.add_sub_cancel, Int.add_sub_cancel]; exact s4⟩
          have hr2 := EX_row hF0 hR.1 hK (by omega) hEx
          have ev : (M 56 (t ^^^ q) + shl64 (w32 (M 52 q) * w32 (k : Int) - w32 (M 53 q)) 32) + M 55 q * w32 ((k : Int) + 1) = (b + de Co F P k q) * 4294967296 + (r + ((k + 1 : Nat) : Int) * aS mkk P q) := by
            rw [t52, t53, t55, w32_id (x := aS Co P q) (by omega), w32_id (x := aS (fun p => Co p * F p) P q) (by omega), w32_id (x := (k : Int)) (by omega), w32_id (x := (k : Int) + 1) (by omega), de_lin, shl64_32 (by omega), s1, Int.mul_comm (aS mkk P q) ((k : Int) + 1)]
            have : (((k + 1 : Nat) : Int)) = (k : Int) + 1 := rfl
            rw [this]
            omega
          refine wp_then rfl (wp_then rfl (wp_then rfl ?_))
          rw [ev]
          generalize hb2 : b + de Co F P k q = b2 at hEx ev ⊢
          generalize hr3 : r + ((k + 1 : Nat) : Int) * aS mkk P q = r2 at hEx ev hr2 ⊢
          have hb2b : 0 ≤ b2 ∧ b2 ≤ 17280 * ((k + 1 : Nat) : Int) := by omega
          rw [shr64_32 (by omega), shr64_32 (by omega)]
          have e4 : (b2 * 4294967296 + r2) / 4294967296 = b2 := by omega
          rw [e4]
          have em : min64 best (b2 * 4294967296 + r2) = if b2 * 4294967296 + r2 < best then b2 * 4294967296 + r2 else best := by
            unfold min64
            rw [w64_id (by omega), w64_id (by omega)]
          have hadd := TP.add (Ex2 := fun b r => aS A P q ≤ R ∧ EX A Co F P R K k (t ^^^ q) (b - de Co F P k q) (r - ((k + 1 : Nat) : Int) * aS mkk 8 q)) (Z2 := fun b => if aS A P q ≤ R then ZX A Co F P R K k (t ^^^ q) (b - de Co F P k q) else 0) (b2 := b2) (r2 := r2) (c2 := M 57 (t ^^^ q)) (by omega) e3 hr2 hb2b ⟨by omega, by rw [← mk_8 hP hqP, ← hb2, ← hr3, Int.add_sub_cancel, Int.add_sub_cancel]; exact s4⟩ (by rw [if_pos (by omega), ← hb2, Int.add_sub_cancel]; exact s5) s6 (fun b' r' y => by
            have := s7 _ _ y.2
            rw [← mk_8 hP hqP] at this
            omega) (fun b' y => by rw [if_pos (by omega)]; exact s8 _ (by omega))
          rw [← em] at hadd
          have hadd2 := hadd.congr (Ex' := Exc A Co F P R K k t ((q - 1) &&& t)) (Z' := Zxc A Co F P R K k t ((q - 1) &&& t)) (fun b r => Exc_next (by omega) e2 q0) (fun b => Zxc_next (by omega) e2 q0)
          have w0 : w64 0 = 0 := by decide
          by_cases c2 : b2 = best / 4294967296
          · rw [if_pos c2] at hadd2
            exact wp_pos (by rw [c2, Int.sub_self]) (wpo_of hadd2)
          · rw [if_neg c2] at hadd2
            refine wp_neg (by rw [w0, w64_id (by omega)]; omega) ?_
            by_cases c3 : b2 < best / 4294967296
            · rw [if_pos c3] at hadd2
              exact wp_pos (by rw [w0, w64_id (by omega)]; omega) (wp_then rfl (wpo_of hadd2))
            · rw [if_neg c3] at hadd2
              exact wp_neg (by rw [w0, w64_id (by omega)]; omega) (wpo_of hadd2)
  · rintro ⟨v, c⟩ h
    dsimp only at h ⊢
    refine wp_then rfl (wpo_of ⟨v, c, rfl, h.congr (fun b r => ?_) (fun b => ?_)⟩)
    · rw [EX_step hF0 hR.1 hK hP ht hKt]
      unfold Exc
      constructor
      · rintro ⟨x, h1, h2⟩
        exact ⟨x, h1, by omega, h2⟩
      · rintro ⟨x, h1, -, h2⟩
        exact ⟨x, h1, h2⟩
    · rw [ZX_step ht hKt]
      unfold Zxc
      refine sumN_congr (fun x _ => ?_)
      by_cases c1 : x &&& t = x ∧ aS A P x ≤ R
      · rw [if_pos c1, if_pos ⟨c1, by omega⟩]
      · rw [if_neg c1, if_neg (fun z => c1 z.1)]
