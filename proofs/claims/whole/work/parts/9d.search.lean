/-! PLANS: the planner's search (by hand) -/
def PB (A Co F : Nat → Int) (P N : Nat) (R K : Int) : Prop := P ≤ 8 ∧ N ≤ 12 ∧ (∀ p, p < P → 0 ≤ A p ∧ A p ≤ 20) ∧ (∀ p, p < P → 0 ≤ Co p ∧ Co p ≤ 180) ∧ (∀ p, p < P → 0 ≤ F p ∧ F p ≤ 100) ∧ (0 ≤ R ∧ R ≤ 160) ∧ (0 ≤ K ∧ K ≤ 800)
theorem PB.F0 {A Co F : Nat → Int} {P N : Nat} {R K : Int} (h : PB A Co F P N R K) : ∀ p, p < P → 0 ≤ F p := fun p hp => (h.2.2.2.2.1 p hp).1
def TQ (A Co F : Nat → Int) (P : Nat) (R K : Int) (k s : Nat) (M : Mem) : Prop := TP (17280 * (k : Int)) (M 56 s) (M 57 s) (EX A Co F P R K k s) (ZX A Co F P R K k s)
theorem TQ.off {A Co F : Nat → Int} {P N k s : Nat} {R K : Int} {M : Mem} (hB : PB A Co F P N R K) (h : TQ A Co F P R K k s M) (ho : ¬ Sub s (cm F P k) ∨ K < aS A P s ∨ R * ((k + 1 : Nat) : Int) < aS A P s) : TQ A Co F P R K (k + 1) s M := by
  obtain ⟨⟨a1, a2⟩, a3, a4⟩ := EX_off (Co := Co) hB.F0 hB.2.2.2.2.2.1.1 hB.2.2.2.2.2.2.1 ho
  exact (TP.wide h (by omega)).congr (fun b r => ⟨fun z => absurd z (a3 b r), fun z => absurd z (a1 b r)⟩) (fun b => (a4 b).trans (a2 b).symm)
theorem TQ.zero {A Co F : Nat → Int} {P N k : Nat} {R K : Int} {M : Mem} (hB : PB A Co F P N R K) (h : TQ A Co F P R K k 0 M) : TQ A Co F P R K (k + 1) 0 M := by
  have hR := hB.2.2.2.2.2.1.1
  have hK := hB.2.2.2.2.2.2.1
  have a0 : aS A P 0 ≤ K := by rw [aS_zero]; exact hK
  refine (TP.wide h (by omega)).congr (fun b r => ?_) (fun b => ?_)
  · rw [EX_step hB.F0 hR hK hB.1 sub_zero a0]
    constructor
    · rintro ⟨x, ⟨h1, -⟩, h2⟩
      have hx : x = 0 := by rw [Nat.and_zero] at h1; exact h1.symm
      rw [hx, de_zero, aS_zero, Nat.xor_zero, Int.mul_zero, Int.sub_zero, Int.sub_zero] at h2
      exact h2
    · intro h2
      refine ⟨0, ⟨rfl, by rw [aS_zero]; exact hR⟩, ?_⟩
      rw [de_zero, aS_zero, Nat.xor_zero, Int.mul_zero, Int.sub_zero, Int.sub_zero]
      exact h2
  · rw [ZX_step sub_zero a0, sumN_one (x := 0) (by decide) (fun x _ hx => if_neg (fun z => hx (by have := z.1; rw [Nat.and_zero] at this; exact this.symm)))]
    rw [if_pos ⟨rfl, by rw [aS_zero]; exact hR⟩, de_zero, Nat.xor_zero, Int.sub_zero]
theorem TQ.congr {A Co F : Nat → Int} {P k s : Nat} {R K : Int} {M M' : Mem} (h : TQ A Co F P R K k s M) (e6 : M' 56 s = M 56 s) (e7 : M' 57 s = M 57 s) : TQ A Co F P R K k s M' := by
  unfold TQ
  rw [e6, e7]
  exact h
set_option maxHeartbeats 1000000 in
theorem sp_sets {M : Mem} {A Co F : Nat → Int} {P N k : Nat} {R K : Int} (hB : PB A Co F P N R K) (hk : k < 12) (hT : PT A Co F P N M) (hE : ∀ s, s < 2 ^ P → TQ A Co F P R K k s M) : wpo (@loop (Int × Mem) (Mem) (fun s4 => if 0 < w32 s4.1 then (if 0 ≤ s4.1 ∧ s4.1 < 256 then Option.bind (if w32 (min32 K (R * ((k : Int) + 1))) < w32 (s4.2 51 s4.1.toNat) then some s4.2 else Option.bind (f3_giveInNight s4.2 s4.1 (k : Int) R) fun (a1 : Mem) => some a1) fun (j2 : Mem) => some (Sum.inl ((and32 (s4.1 - 1) (cm F P k : Int)), j2)) else none) else some (Sum.inr s4.2)) FU ((cm F P k : Int), M)) (fun M' => (∀ c i, c ≠ 56 → c ≠ 57 → M' c i = M c i) ∧ ∀ s, s < 2 ^ P → TQ A Co F P R K (k + 1) s M') := by
  have hP := hB.1
  have h256 := pow8 hP
  have hcm := cm_lt (F := F) (P := P) (k := k)
  obtain ⟨-, -, hA, hC, hF, hR, hK⟩ := id hB
  have hRk : 0 ≤ R * ((k : Int) + 1) ∧ R * ((k : Int) + 1) ≤ 160 * 12 := mulbd hR ⟨by omega, by omega⟩
  have hmin : min32 K (R * ((k : Int) + 1)) = min K (R * ((k : Int) + 1)) := min32_id (by omega) (by omega)
  rw [hmin]
  refine wp_loopm (I := fun m st => st.1 = (m : Int) ∧ Sub m (cm F P k) ∧ (∀ c i, c ≠ 56 → c ≠ 57 → st.2 c i = M c i) ∧ ∀ s, s < 2 ^ P → ((Sub s (cm F P k) ∧ m < s) → TQ A Co F P R K (k + 1) s st.2) ∧ (¬ (Sub s (cm F P k) ∧ m < s) → TQ A Co F P R K k s st.2)) ?_ FU (cm F P k) _ ⟨rfl, Sub.rf, fun _ _ _ _ => rfl, fun s hs => ⟨fun z => absurd z.1.le (by omega), fun _ => hE s hs⟩⟩ (by unfold FU; omega)
  rintro q ⟨q', S⟩ ⟨e1, e2, e3, e4⟩
  dsimp only at e1 e2 e3 e4 ⊢
  subst e1
  by_cases q0 : q = 0
  · rw [q0] at e4 ⊢
    refine wp_neg (by decide) (wpo_of ⟨e3, fun s hs => ?_⟩)
    by_cases s0 : s = 0
    · rw [s0]
      exact TQ.zero hB ((e4 0 (Nat.two_pow_pos _)).2 (fun z => by have := z.2; omega))
    · by_cases c : Sub s (cm F P k)
      · exact (e4 s hs).1 ⟨c, by omega⟩
      · exact TQ.off hB ((e4 s hs).2 (fun z => c z.1)) (Or.inl c)
  · have hq2 := e2.le
    have hqP : q < 2 ^ P := by omega
    have hT' : PT A Co F P N S := hT.congr (fun c i h1 h2 => e3 c i (by omega) (by omega))
    obtain ⟨t51, -⟩ := hT' q hqP
    have ba := aS_bd (f := A) (P := P) (s := q) (hi := 20) (by decide) hA
    have en : and32 ((q : Int) - 1) (cm F P k : Int) = (((q - 1) &&& cm F P k : Nat) : Int) := by
      rw [show (q : Int) - 1 = ((q - 1 : Nat) : Int) by omega]
      exact and32_nat (by omega) (by omega)
    have hnx : (q - 1) &&& cm F P k < q := by
      have : (q - 1) &&& cm F P k ≤ q - 1 := Nat.and_le_left
      omega
    have hgt : ∀ s, Sub s (cm F P k) → ((q - 1) &&& cm F P k < s ↔ (q < s ∨ s = q)) := fun s hs => sub_gt (by omega) e2 hs q0
    refine wp_pos (by rw [w32_id (by omega)]; omega) (wp_pos (by omega) ?_)
    rw [en, Int.toNat_natCast]
    refine wp_bind.mpr (wpo_mono (P := fun S' => (∀ c i, c ≠ 56 → c ≠ 57 → S' c i = S c i) ∧ (∀ s, s ≠ q → S' 56 s = S 56 s ∧ S' 57 s = S 57 s) ∧ TQ A Co F P R K (k + 1) q S') ?_ ?_)
    · by_cases c1 : min K (R * ((k : Int) + 1)) < aS A P q
      · refine wp_pos (by rw [t51]; exact (lt32 (by omega) (by omega)).mpr c1) (wpo_of ⟨fun _ _ _ _ => rfl, fun _ _ => ⟨rfl, rfl⟩, TQ.off hB ((e4 q hqP).2 (fun z => by have := z.2; omega)) (Or.inr ?_)⟩)
        have : (((k + 1 : Nat) : Int)) = (k : Int) + 1 := rfl
        rw [this]
        omega
      · refine wp_neg (by rw [t51]; exact fun z => c1 ((lt32 (by omega) (by omega)).mp z)) ?_
        refine wp_bind.mpr (wpo_mono (sp_give (N := N) hP hk hA hC hF hR hK.1 hT' e2 (by omega) (fun s hs => (e4 s (by have := hs.le; omega)).2 (fun z => by have := z.2; have := hs.le; omega))) ?_)
        rintro S' ⟨v, c, rfl, h⟩
        refine wpo_of ⟨fun c' i h1 h2 => ?_, fun s hs => ⟨?_, ?_⟩, ?_⟩
        · rw [ms_ne h2, ms_ne h1]
        · rw [ms_ne (by decide), ms_ni hs]
        · rw [ms_ni hs, ms_ne (by decide)]
        · unfold TQ
          rw [ms_ne (by decide), ms_same, ms_same]
          exact h
    · rintro S' ⟨s1, s2, s3⟩
      refine wpo_of ⟨(q - 1) &&& cm F P k, hnx, rfl, sub_and, fun c i h1 h2 => (s1 c i h1 h2).trans (e3 c i h1 h2), fun s hs => ⟨fun z => ?_, fun z => ?_⟩⟩
      · by_cases e : s = q
        · rw [e]; exact s3
        · have := (hgt s z.1).mp z.2
          exact ((e4 s hs).1 ⟨z.1, by omega⟩).congr (s2 s e).1 (s2 s e).2
      · have e : s ≠ q := fun y => z ⟨by rw [y]; exact e2, by rw [y]; exact hnx⟩
        exact ((e4 s hs).2 (fun y => z ⟨y.1, (hgt s y.1).mpr (Or.inl y.2)⟩)).congr (s2 s e).1 (s2 s e).2
theorem sp_come {M : Mem} {F : Nat → Int} {P k : Nat} (hP : P ≤ 8) (hk : k < 12) (hF : ∀ p, p < P → 0 ≤ F p ∧ F p ≤ 100) (h8 : M 12 8 = (P : Int)) (h14 : ∀ p, p < P → M 14 p = F p) : (@loop (Int × Int) (Int) (fun s3 => if w32 s3.2 < w32 (M 12 8) then (if 0 ≤ s3.2 ∧ s3.2 < 8 then Option.bind (if w32 (k : Int) < w32 (M 14 s3.2.toNat) then some s3.1 else some (or32 s3.1 (shl32 1 s3.2))) fun (j1 : Int) => some (Sum.inl (j1, (s3.2 + 1))) else none) else some (Sum.inr s3.1)) FU (0, 0)) = some (cm F P k : Int) := by
  refine wp_is ?_
  refine wp_for (I := fun p t => t.2 = (p : Int) ∧ t.1 = (nset (fun p => decide (F p ≤ (k : Int))) p : Int)) P ?_ ?_ FU 0 _ ⟨rfl, rfl⟩ (Nat.zero_le _) (by unfold FU; omega)
  · rintro p ⟨acc, t2⟩ hp ⟨e1, e2⟩
    dsimp only at e1 e2 ⊢
    subst e1 e2
    have hFp := hF p hp
    have hn := or_next (f := fun p => decide (F p ≤ (k : Int))) (n := p) (by omega)
    refine wp_pos (by rw [h8]; exact (lt32 (by omega) (by omega)).mpr (by omega)) (wp_pos (by omega) ?_)
    rw [Int.toNat_natCast, h14 p hp]
    have hl := nset_lt12 (fun p => decide (F p ≤ (k : Int))) (n := p) (by omega)
    refine wp_then (a := ((nset (fun p => decide (F p ≤ (k : Int))) (p + 1) : Nat) : Int)) ?_ (wpo_of ⟨by dsimp only; omega, rfl⟩)
    rw [← hn]
    by_cases c : (k : Int) < F p
    · rw [if_pos ((lt32 (by omega) (by omega)).mpr c)]
      have : decide (F p ≤ (k : Int)) = false := decide_eq_false (by omega)
      rw [this]
      have h0 := or32_nat (a := nset (fun p => decide (F p ≤ (k : Int))) p) (b := 0) (by omega) (by decide)
      rw [Nat.or_zero] at h0
      exact congrArg some h0.symm
    · rw [if_neg (fun z => c ((lt32 (by omega) (by omega)).mp z))]
      have : decide (F p ≤ (k : Int)) = true := decide_eq_true (by omega)
      rw [this]
      rfl
  · rintro ⟨acc, t2⟩ ⟨e1, e2⟩
    dsimp only at e1 e2 ⊢
    subst e1 e2
    exact wp_neg (by rw [h8]; exact fun z => absurd ((lt32 (by omega) (by omega)).mp z) (by omega)) (wpo_of rfl)
