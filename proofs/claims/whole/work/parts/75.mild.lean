/-! MILD: the smallest first is the best (by hand) -/
def aB (f : Nat → Int) (P : Nat) (T : Nat → Bool) : Int := sumN (fun p => if T p = true then f p else 0) P
theorem aB_add {f : Nat → Int} {P k : Nat} {T : Nat → Bool} (hk : k < P) (h : T k = false) : aB f P (fun q => T q || decide (q = k)) = aB f P T + f k := by
  unfold aB
  rw [sumN_upd (f := fun p => if (T p || decide (p = k)) = true then f p else 0) (g := fun p => if T p = true then f p else 0) hk (fun i _ hne => by rw [decide_eq_false hne, Bool.or_false])]
  rw [h, decide_eq_true rfl]
  simp
theorem aB_set {f : Nat → Int} {P : Nat} {T : Nat → Bool} : aS f P (nset T P) = aB f P T := by
  unfold aS aB
  refine sumN_congr (fun i hi => ?_)
  rw [nset_bit, decide_eq_true hi, Bool.true_and]
/-- the greedy way's state: of ache a, ahead of person k -/
def GR (A : Nat → Int) (P : Nat) (n a : Int) (k : Nat) (t m : Int) (T : Nat → Bool) : Prop := t = aB A P T ∧ m = aB (fun _ => 1) P T ∧ t ≤ n ∧ (∀ p, p < P → T p = true → A p < a ∨ (A p = a ∧ p < k)) ∧ ((∀ p, p < P → (A p < a ∨ (A p = a ∧ p < k)) → T p = true) ∨ ∃ c : Int, c ≤ a ∧ n < t + c ∧ ∀ p, p < P → (T p = true → A p ≤ c) ∧ (T p = false → c ≤ A p))
theorem GR.other {A : Nat → Int} {P k : Nat} {n a t m : Int} {T : Nat → Bool} (h : GR A P n a k t m T) (hk : A k ≠ a) : GR A P n a (k + 1) t m T := by
  obtain ⟨h1, h2, h3, h4, h5⟩ := h
  refine ⟨h1, h2, h3, fun p hp hT => ?_, ?_⟩
  · have := h4 p hp hT
    omega
  · rcases h5 with h5 | h5
    · refine Or.inl (fun p hp hx => h5 p hp ?_)
      rcases hx with hx | ⟨hx, hl⟩
      · exact Or.inl hx
      · by_cases e : p = k
        · rw [e] at hx
          exact absurd hx hk
        · exact Or.inr ⟨hx, by omega⟩
    · exact Or.inr h5
theorem GR.take {A : Nat → Int} {P k : Nat} {n a t m : Int} {T : Nat → Bool} (h : GR A P n a k t m T) (hP : k < P) (hk : A k = a) (hn : t + a ≤ n) : GR A P n a (k + 1) (t + a) (m + 1) (fun q => T q || decide (q = k)) := by
  obtain ⟨h1, h2, h3, h4, h5⟩ := h
  have hTk : T k = false := by
    cases hT : T k with
    | false => rfl
    | true =>
      have := h4 k hP hT
      omega
  refine ⟨by rw [aB_add hP hTk, ← h1, hk], by rw [aB_add hP hTk, ← h2], hn, fun p hp hT => ?_, ?_⟩
  · dsimp only at hT
    rw [Bool.or_eq_true, decide_eq_true_eq] at hT
    rcases hT with hT | hT
    · have := h4 p hp hT
      omega
    · rw [hT, hk]
      exact Or.inr ⟨rfl, by omega⟩
  · rcases h5 with h5 | ⟨c, c1, c2, -⟩
    · refine Or.inl (fun p hp hx => ?_)
      dsimp only
      rw [Bool.or_eq_true, decide_eq_true_eq]
      by_cases e : p = k
      · exact Or.inr e
      · exact Or.inl (h5 p hp (by omega))
    · omega
theorem GR.fail {A : Nat → Int} {P k : Nat} {n a t m : Int} {T : Nat → Bool} (h : GR A P n a k t m T) (hk : A k = a) (hn : n < t + a) : GR A P n a (k + 1) t m T := by
  obtain ⟨h1, h2, h3, h4, h5⟩ := h
  refine ⟨h1, h2, h3, fun p hp hT => ?_, Or.inr ?_⟩
  · have := h4 p hp hT
    omega
  · rcases h5 with h5 | h5
    · refine ⟨a, Int.le_refl _, hn, fun p hp => ⟨fun hT => ?_, fun hT => ?_⟩⟩
      · have := h4 p hp hT
        omega
      · by_cases c : A p < a
        · rw [h5 p hp (Or.inl c)] at hT
          cases hT
        · omega
    · exact h5
theorem GR.next {A : Nat → Int} {P : Nat} {n a t m : Int} {T : Nat → Bool} (h : GR A P n a P t m T) : GR A P n (a + 1) 0 t m T := by
  obtain ⟨h1, h2, h3, h4, h5⟩ := h
  refine ⟨h1, h2, h3, fun p hp hT => ?_, ?_⟩
  · have := h4 p hp hT
    omega
  · rcases h5 with h5 | ⟨c, c1, c2, c3⟩
    · exact Or.inl (fun p hp hx => h5 p hp (by omega))
    · exact Or.inr ⟨c, by omega, c2, c3⟩
/-- no set of more has so little ache -/
theorem GR.best {A : Nat → Int} {P : Nat} {n a t m : Int} {T S : Nat → Bool} (h : GR A P n a 0 t m T) (hA : ∀ p, p < P → A p < a) (hS : aB A P S ≤ n) : aB (fun _ => 1) P S ≤ m := by
  obtain ⟨h1, h2, h3, h4, h5⟩ := h
  rcases h5 with h5 | ⟨c, c1, c2, c3⟩
  · have : ∀ N, N ≤ P → sumN (fun p => if S p = true then 1 else 0) N ≤ sumN (fun p => if T p = true then (1 : Int) else 0) N := by
      intro N
      induction N with
      | zero => intro _; exact Int.le_refl _
      | succ N ih =>
        intro hN
        have := ih (by omega)
        rw [sumN, sumN, h5 N (by omega) (Or.inl (hA N (by omega)))]
        split <;> simp <;> omega
    have h6 := this P (Nat.le_refl _)
    unfold aB at h2 ⊢
    dsimp only at h2 ⊢
    omega
  · have key : ∀ N, N ≤ P → sumN (fun p => if T p = true then A p else 0) N - c * sumN (fun p => if T p = true then (1 : Int) else 0) N ≤ sumN (fun p => if S p = true then A p else 0) N - c * sumN (fun p => if S p = true then (1 : Int) else 0) N := by
      intro N
      induction N with
      | zero => intro _; exact Int.le_refl _
      | succ N ih =>
        intro hN
        have i1 := ih (by omega)
        obtain ⟨d1, d2⟩ := c3 N (by omega)
        rw [sumN, sumN, sumN, sumN, Int.mul_add, Int.mul_add]
        cases hT : T N with
        | true =>
          have := d1 hT
          cases hSN : S N <;> simp <;> omega
        | false =>
          have := d2 hT
          cases hSN : S N <;> simp <;> omega
    have k1 := key P (Nat.le_refl _)
    unfold aB at h1 h2 hS ⊢
    dsimp only at h1 h2 hS ⊢
    rw [← h1, ← h2] at k1
    generalize sumN (fun p => if S p = true then A p else 0) P = sA at *
    generalize sumN (fun p => if S p = true then (1 : Int) else 0) P = sm at *
    by_cases hlt : sm ≤ m
    · exact hlt
    · exfalso
      have hc : 0 ≤ c := by
        by_cases c0 : 0 ≤ c
        · exact c0
        · omega
      have h7 : c * (m + 1) ≤ c * sm := Int.mul_le_mul_of_nonneg_left (by omega) hc
      rw [Int.mul_add, Int.mul_one] at h7
      omega
theorem pc_aS8 : ∀ s : Nat, s < 256 → (pc s : Int) = aS (fun _ => 1) 8 s := by decide +kernel
theorem aS_ext {f : Nat → Int} {P s : Nat} (hs : s < 2 ^ P) : ∀ n, aS f (P + n) s = aS f P s := by
  intro n
  induction n with
  | zero => rfl
  | succ n ih =>
    rw [← ih]
    have : s < 2 ^ (P + n) := Nat.lt_of_lt_of_le hs (Nat.pow_le_pow_right (by decide) (by omega))
    exact aS_off this
theorem pc_aS {P s : Nat} (hP : P ≤ 8) (hs : s < 2 ^ P) : (pc s : Int) = aS (fun _ => 1) P s := by
  have h256 := pow8 hP
  rw [pc_aS8 s (by omega)]
  obtain ⟨n, hn⟩ : ∃ n, 8 = P + n := ⟨8 - P, by omega⟩
  rw [hn]
  exact aS_ext hs n
set_option maxHeartbeats 1000000 in
theorem ag_mild {D : Mem} {x : Int} (hI : IC D) (hx : A32 x) : AGp D (f9_mild D x) (f10_mild D x) := by
  have hP := hI.P
  have h256 := pow8 hP.2
  have hpos : 0 < 2 ^ yP (yW (D 118)) := Nat.two_pow_pos _
  have hx' := hx
  unfold A32 at hx'
  have hAb : ∀ p, p < yP (yW (D 118)) → 1 ≤ yW (D 118) 1 p ∧ yW (D 118) 1 p ≤ 20 := fun p hp => yW_ache hI hp
  have hin : ∀ M : Mem, f10_in M (w32 x) 0 160 = some (if 0 ≤ x ∧ x ≤ 160 then 1 else 0) := fun M => by
    rw [w32_id hx']
    exact sp_in (by omega) (by omega) (by omega)
  unfold AGp f9_mild f10_mild
  refine wp_then (sp_there9 hI) ?_
  by_cases c1 : 0 < D 118 9
  · refine wp_neg (fun z => if01.mp z c1) ?_
    have ref : ¬ (0 ≤ x ∧ x ≤ 160) → wpo (Option.bind (f10_asItIs D) fun (a1 : Mem) => Option.bind (f10_isParish a1) fun (a2 : Int) => if w32 a2 = 0 then some ((-2), a1) else Option.bind (f10_in a1 (w32 x) 0 160) fun (a3 : Int) => if w32 a3 = 0 then some ((-2), a1) else Option.bind (f10_laySums a1) fun (a4 : Mem) => Option.bind (@loop (Int × Int) (Int) (fun s1 => Option.bind (f10_allPersons a4) fun (a5 : Int) => if w32 a5 < w32 s1.2 then some (Sum.inr s1.1) else if 0 ≤ s1.2 ∧ s1.2 < 256 then Option.bind (if w32 x < w32 (a4 133 s1.2.toNat) then some s1.1 else Option.bind (f10_bits a4 s1.2) fun (a6 : Int) => some (max32 s1.1 a6)) fun (j1 : Int) => some (Sum.inl (j1, (s1.2 + 1))) else none) FU (0, 0)) fun (b1 : Int) => some (b1, a4)) (fun b => w32 (-2) = w32 b.1 ∧ SK D b.2) := by
      intro hn
      refine wp_bind.mpr (wpo_mono (sp_asIt hI SK.rf) ?_)
      rintro M1 ⟨s1, -, -⟩
      exact wp_then (sp_there10 hI s1) (wp_neg (fun z => if01.mp z c1) (wp_then (hin _) (wp_pos (if01.mpr hn) (wpo_of ⟨rfl, s1⟩))))
    by_cases c2 : x < 0
    · exact wp_pos (by rw [w32_id hx']; exact c2) (wpo_of (ref (by omega)))
    · refine wp_neg (by rw [w32_id hx']; exact c2) ?_
      by_cases c3 : 160 < x
      · exact wp_pos ((lt32 (by omega) hx').mpr c3) (wpo_of (ref (by omega)))
      · refine wp_neg (fun z => c3 ((lt32 (by omega) hx').mp z)) ?_
        have hmb : ∀ T, 0 ≤ aB (fun _ => 1) (yP (yW (D 118))) T ∧ aB (fun _ => 1) (yP (yW (D 118))) T ≤ 8 := fun T => by
          have := sumN_bd (f := fun p => if T p = true then (1 : Int) else 0) (n := yP (yW (D 118))) (lo := 0) (hi := 1) (fun i _ => by split <;> decide)
          unfold aB
          dsimp only
          omega
        have htb : ∀ T, 0 ≤ aB (yW (D 118) 1) (yP (yW (D 118))) T ∧ aB (yW (D 118) 1) (yP (yW (D 118))) T ≤ 160 := fun T => by
          have := sumN_bd (f := fun p => if T p = true then yW (D 118) 1 p else 0) (n := yP (yW (D 118))) (lo := 0) (hi := 20) (fun i hi => by have := hAb i hi; split <;> omega)
          unfold aB
          omega
        refine wp_bind.mpr (wpo_mono (P := fun m => ∃ t T, GR (yW (D 118) 1) (yP (yW (D 118))) x 21 0 t m T) ?_ ?_)
        · refine wp_for (I := fun a s => s.2.2 = (a : Int) ∧ ∃ T, GR (yW (D 118) 1) (yP (yW (D 118))) x (a : Int) 0 s.2.1 s.1 T) 21 ?_ ?_ FU 1 _ ⟨rfl, fun _ => false, ?_⟩ (by decide) (by unfold FU; omega)
          · rintro a ⟨m, t, a'⟩ ha ⟨e1, T, hG⟩
            dsimp only at e1 hG ⊢
            subst e1
            refine wp_neg (fun z => absurd ((lt32 (by omega) (by omega)).mp z) (by omega)) ?_
            refine wp_bind.mpr (wpo_mono (P := fun r => ∃ T, GR (yW (D 118) 1) (yP (yW (D 118))) x (a : Int) (yP (yW (D 118))) r.2 r.1 T) ?_ ?_)
            · refine wp_for (I := fun k s => s.2.2 = (k : Int) ∧ ∃ T, GR (yW (D 118) 1) (yP (yW (D 118))) x (a : Int) k s.2.1 s.1 T) (yP (yW (D 118))) ?_ ?_ FU 0 _ ⟨rfl, T, hG⟩ (Nat.zero_le _) (by unfold FU; omega)
              · rintro k ⟨m, t, k'⟩ hk ⟨e1, T, hG⟩
                dsimp only at e1 hG ⊢
                subst e1
                have e13 : D 13 k = yW (D 118) 1 k := (hI.2.1.2.1 k (by omega)).1
                have hak := hAb k hk
                have ht := htb T
                have hm := hmb T
                have et := hG.1
                have em := hG.2.1
                refine wp_pos (by rw [hI.e8]; exact (lt32 (by omega) (by omega)).mpr (by omega)) (wp_pos (by omega) ?_)
                rw [Int.toNat_natCast, e13]
                by_cases d1 : yW (D 118) 1 k = (a : Int)
                · by_cases d2 : x < t + (a : Int)
                  · exact wp_then (a := (m, t)) (wp_is (wp_pos (by rw [d1]) (wp_pos ((lt32 (by omega) (by omega)).mpr d2) (wpo_of rfl)))) (wpo_of ⟨by dsimp only; omega, T, hG.fail d1 d2⟩)
                  · exact wp_then (a := (m + 1, t + (a : Int))) (wp_is (wp_pos (by rw [d1]) (wp_neg (fun z => d2 ((lt32 (by omega) (by omega)).mp z)) (wp_then rfl (wpo_of rfl))))) (wpo_of ⟨by dsimp only; omega, _, hG.take hk d1 (by omega)⟩)
                · exact wp_then (a := (m, t)) (wp_is (wp_neg (fun z => d1 ((eq32 (by omega) (by omega)).mp z)) (wpo_of rfl))) (wpo_of ⟨by dsimp only; omega, T, hG.other d1⟩)
              · rintro ⟨m, t, k'⟩ ⟨e1, T, hG⟩
                dsimp only at e1 hG ⊢
                subst e1
                exact wp_neg (by rw [hI.e8]; exact fun z => absurd ((lt32 (by omega) (by omega)).mp z) (by omega)) (wpo_of ⟨T, hG⟩)
            · rintro ⟨m, t⟩ ⟨T, hG⟩
              exact wpo_of ⟨by dsimp only; omega, T, hG.next⟩
          · rintro ⟨m, t, a'⟩ ⟨e1, T, hG⟩
            dsimp only at e1 hG ⊢
            subst e1
            exact wp_pos ((lt32 (by omega) (by omega)).mpr (by omega)) (wpo_of ⟨t, T, hG⟩)
          · dsimp only
            have z1 : ∀ f, aB f (yP (yW (D 118))) (fun _ => false) = 0 := fun f => by
              unfold aB
              rw [sumN_congr (g := fun _ => 0) (fun i _ => if_neg (show ¬ (false = true) by decide))]
              exact sumN_zero _
            refine ⟨(z1 _).symm, (z1 _).symm, by omega, (fun p _ h => absurd h (show ¬ (false = true) by decide)), Or.inl (fun p hp h => ?_)⟩
            have := hAb p hp
            omega
        · rintro m ⟨t, T, hG⟩
          have hm := hmb T
          have em := hG.2.1
          refine wpo_of ?_
          refine wp_bind.mpr (wpo_mono (sp_asIt hI SK.rf) ?_)
          rintro M1 ⟨s1, y1, -⟩
          refine wp_then (sp_there10 hI s1) (wp_neg (fun z => if01.mp z c1) (wp_then (hin _) (wp_neg (fun z => if01.mp z (by omega)) ?_)))
          refine wp_bind.mpr (wpo_mono (sp_laySums hI.1.yok y1) ?_)
          rintro M2 ⟨k2, l2⟩
          have s2 : SK D M2 := fun c i a => (k2 c i (by unfold scr at a; omega) (by unfold scr at a; omega)).trans (s1 c i a)
          have e7 : M2 118 7 = (yP (yW (D 118)) : Int) := by rw [s2.w]; exact hP.1.symm
          have hbest : ∀ S, S < 2 ^ yP (yW (D 118)) → aS (yW (D 118) 1) (yP (yW (D 118))) S ≤ x → (pc S : Int) ≤ m := fun S hS1 hS2 => by
            rw [pc_aS hP.2 hS1]
            exact hG.best (S := S.testBit) (fun p hp => by have := hAb p hp; omega) hS2
          refine wp_bind.mpr (wpo_mono (P := fun v => v = m) ?_ (fun v hv => wpo_of ⟨by dsimp only; rw [hv], s2⟩))
          refine wp_for (I := fun k s => s.2 = (k : Int) ∧ (0 ≤ s.1 ∧ s.1 ≤ m) ∧ ∀ S, S < k → S < 2 ^ yP (yW (D 118)) → aS (yW (D 118) 1) (yP (yW (D 118))) S ≤ x → (pc S : Int) ≤ s.1) (2 ^ yP (yW (D 118))) ?_ ?_ FU 0 _ ⟨rfl, by dsimp only; omega, fun S hS => absurd hS (Nat.not_lt_zero _)⟩ (Nat.zero_le _) (by unfold FU; omega)
          · rintro k ⟨v, k'⟩ hk ⟨e1, e2, e3⟩
            dsimp only at e1 e2 e3 ⊢
            subst e1
            have h133 := (l2 k hk).1
            have hab := aS_bd (f := yW (D 118) 1) (P := yP (yW (D 118))) (s := k) (hi := 20) (by decide) (fun p hp => by have := hAb p hp; omega)
            have hpk := pc_bd (a := k)
            refine wp_then (sp_allP hP.2 e7) (wp_neg (fun q => absurd ((lt32 (by omega) (by omega)).mp q) (by omega)) (wp_pos (by omega) ?_))
            rw [Int.toNat_natCast, h133]
            by_cases d1 : x < aS (yW (D 118) 1) (yP (yW (D 118))) k
            · refine wp_then (a := v) (if_pos ((lt32 (by omega) (by omega)).mpr d1)) (wpo_of ⟨by dsimp only; omega, e2, fun S hS1 hS2 hS3 => ?_⟩)
              by_cases hSk : S = k
              · rw [hSk] at hS3
                omega
              · exact e3 S (by omega) hS2 hS3
            · have hb := hbest k hk (by omega)
              refine wp_then (a := max v (pc k : Int)) (wp_is (wp_neg (fun z => d1 ((lt32 (by omega) (by omega)).mp z)) (wp_then (sp_bits (by omega)) (wpo_of (max32_id (by omega) (by omega)))))) (wpo_of ⟨by dsimp only; omega, by dsimp only; omega, fun S hS1 hS2 hS3 => ?_⟩)
              dsimp only
              by_cases hSk : S = k
              · rw [hSk]
                omega
              · have := e3 S (by omega) hS2 hS3
                omega
          · rintro ⟨v, k'⟩ ⟨e1, e2, e3⟩
            dsimp only at e1 e2 e3 ⊢
            subst e1
            refine wp_then (sp_allP hP.2 e7) (wp_pos ((lt32 (by omega) (by omega)).mpr (by omega)) (wpo_of ?_))
            have hTl := nset_lt T (yP (yW (D 118)))
            have h1 := e3 (nset T (yP (yW (D 118)))) hTl hTl (by rw [aB_set, ← hG.1]; exact hG.2.2.1)
            rw [pc_aS hP.2 hTl, aB_set, ← em] at h1
            omega
  · refine wp_pos (if01.mpr c1) (wpo_of ?_)
    refine wp_bind.mpr (wpo_mono (sp_asIt hI SK.rf) ?_)
    rintro M1 ⟨s1, -, -⟩
    exact wp_then (sp_there10 hI s1) (wp_pos (if01.mpr c1) (wpo_of ⟨rfl, s1⟩))
