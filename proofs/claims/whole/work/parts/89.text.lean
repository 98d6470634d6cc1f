/-! THE TEXT: tokens, on both sides (by hand) -/
def kdc (c : Int) : Int := if 97 ≤ c ∧ c ≤ 122 then 1 else if 48 ≤ c ∧ c ≤ 57 then 2 else if c = 59 then 3 else 4
theorem kdc_bd (c : Int) : 1 ≤ kdc c ∧ kdc c ≤ 4 := by
  unfold kdc
  split
  · omega
  · split
    · omega
    · split <;> omega
def blk (c : Int) : Bool := decide (c = 32 ∨ c = 10)
def rnn (t : Nat → Bool) (n : Nat) : Nat → Nat
  | 0 => n
  | d + 1 => if t (n - (d + 1)) = true then rnn t n d else n - (d + 1)
/-- the first place from p on, up to n, where t fails -/
def rn (t : Nat → Bool) (n p : Nat) : Nat := rnn t n (n - p)
theorem rn_end {t : Nat → Bool} {n : Nat} : rn t n n = n := by
  unfold rn
  rw [Nat.sub_self]
  rfl
theorem rn_step {t : Nat → Bool} {n p : Nat} (hp : p < n) (h : t p = true) : rn t n p = rn t n (p + 1) := by
  unfold rn
  have e : n - p = (n - (p + 1)) + 1 := by omega
  have e2 : n - ((n - (p + 1)) + 1) = p := by omega
  rw [e, rnn, e2, if_pos h]
theorem rn_stop {t : Nat → Bool} {n p : Nat} (hp : p < n) (h : t p = false) : rn t n p = p := by
  unfold rn
  have e : n - p = (n - (p + 1)) + 1 := by omega
  have e2 : n - ((n - (p + 1)) + 1) = p := by omega
  rw [e, rnn, e2, if_neg (by rw [h]; decide)]
theorem rnn_bd {t : Nat → Bool} {n d : Nat} (hd : d ≤ n) : n - d ≤ rnn t n d ∧ rnn t n d ≤ n := by
  induction d with
  | zero => rw [rnn]; omega
  | succ d ih =>
    have := ih (by omega)
    rw [rnn]
    split <;> omega
theorem rn_bd {t : Nat → Bool} {n p : Nat} (hp : p ≤ n) : p ≤ rn t n p ∧ rn t n p ≤ n := by
  have := rnn_bd (t := t) (n := n) (d := n - p) (by omega)
  unfold rn
  omega
theorem rnn_all {t : Nat → Bool} {n d : Nat} (hd : d ≤ n) : ∀ i, n - d ≤ i → i < rnn t n d → t i = true := by
  induction d with
  | zero =>
    intro i h1 h2
    rw [rnn] at h2
    omega
  | succ d ih =>
    intro i h1 h2
    rw [rnn] at h2
    by_cases h : t (n - (d + 1)) = true
    · rw [if_pos h] at h2
      by_cases e : i = n - (d + 1)
      · rw [e]
        exact h
      · exact ih (by omega) i (by omega) h2
    · rw [if_neg h] at h2
      omega
theorem rn_all {t : Nat → Bool} {n p : Nat} (hp : p ≤ n) : ∀ i, p ≤ i → i < rn t n p → t i = true := by
  intro i h1 h2
  exact rnn_all (d := n - p) (by omega) i (by omega) h2
/-- of the token that comes from place p on: where it starts, what it is, where it ends -/
def tst (B : Nat → Int) (n p : Nat) : Nat := rn (fun i => blk (B i)) n p
def tkd (B : Nat → Int) (n p : Nat) : Int := if tst B n p < n then kdc (B (tst B n p)) else 0
def ten (B : Nat → Int) (n p : Nat) : Nat := if tst B n p < n then (if kdc (B (tst B n p)) = 1 ∨ kdc (B (tst B n p)) = 2 then rn (fun i => decide (kdc (B i) = kdc (B (tst B n p)))) n (tst B n p) else tst B n p + 1) else tst B n p
theorem tst_bd {B : Nat → Int} {n p : Nat} (hp : p ≤ n) : p ≤ tst B n p ∧ tst B n p ≤ n := rn_bd hp
theorem ten_bd {B : Nat → Int} {n p : Nat} (hp : p ≤ n) : tst B n p ≤ ten B n p ∧ ten B n p ≤ n := by
  have h := tst_bd (B := B) hp
  unfold ten
  split
  · split
    · exact rn_bd h.2
    · omega
  · omega
/-- the class's loops over the text -/
theorem sp_run9 {M : Mem} {n p : Nat} {t : Nat → Bool} {f : Mem → Option (Mem ⊕ Mem)} (hn : n ≤ 700) (hp : p ≤ n) (h6 : M 3 6 = (p : Int)) (hf : ∀ (q : Nat) (s : Mem), q ≤ n → (∀ c i, (c ≠ 3 ∨ i ≠ 6) → s c i = M c i) → s 3 6 = (q : Int) → f s = some (if q < n ∧ t q = true then Sum.inl (mset s 3 6 ((q : Int) + 1)) else Sum.inr s)) : wpo (loop f FU M) (fun s => (∀ c i, (c ≠ 3 ∨ i ≠ 6) → s c i = M c i) ∧ s 3 6 = (rn t n p : Int)) := by
  refine wp_loopm (I := fun m s => ∃ q : Nat, m = n - q ∧ q ≤ n ∧ (∀ c i, (c ≠ 3 ∨ i ≠ 6) → s c i = M c i) ∧ s 3 6 = (q : Int) ∧ rn t n q = rn t n p) ?_ FU (n - p) _ ⟨p, rfl, hp, fun _ _ _ => rfl, h6, rfl⟩ (by unfold FU; omega)
  rintro m s ⟨q, rfl, hq, h1, h2, h3⟩
  rw [hf q s hq h1 h2]
  by_cases c : q < n ∧ t q = true
  · rw [if_pos c]
    refine wpo_of ⟨n - (q + 1), by omega, q + 1, rfl, by omega, fun c' i h => ?_, ms_same, ?_⟩
    · have hne : ¬ (c' = 3 ∧ i = 6) := by omega
      rw [ms_at, if_neg hne]
      exact h1 c' i h
    · rw [← rn_step c.1 c.2]
      exact h3
  · rw [if_neg c]
    refine wpo_of ⟨h1, ?_⟩
    rw [h2, ← h3]
    by_cases e : q = n
    · rw [e, rn_end]
    · have : t q = false := by
        cases h : t q with
        | false => rfl
        | true => exact absurd ⟨by omega, h⟩ c
      rw [rn_stop (by omega) this]
theorem sp_isBlank {M : Mem} {c : Int} (hc : -128 ≤ c ∧ c ≤ 127) : f4_isBlank M c = some (if blk c = true then 1 else 0) := by
  unfold f4_isBlank blk
  by_cases h1 : c = 32
  · rw [if_pos (by rw [h1]), if_pos (by simp [h1])]
  · rw [if_neg (fun z => h1 ((eq32 (by omega) (by omega)).mp z))]
    by_cases h2 : c = 10
    · rw [if_pos (by rw [h2]), if_pos (by simp [h2])]
    · rw [if_neg (fun z => h2 ((eq32 (by omega) (by omega)).mp z)), if_neg (by simp [h1, h2])]
theorem sp_kindOf {M : Mem} {c : Int} (hc : -128 ≤ c ∧ c ≤ 127) : f4_kindOf M c = some (kdc c) := by
  have l : ∀ a b : Int, -128 ≤ a ∧ a ≤ 127 → -128 ≤ b ∧ b ≤ 127 → (w32 a < w32 b ↔ a < b) := fun a b ha hb => lt32 (by omega) (by omega)
  have e59 : (w32 c = w32 59) ↔ c = 59 := eq32 (by omega) (by omega)
  refine wp_is ?_
  unfold f4_kindOf kdc
  by_cases h1 : 97 ≤ c ∧ c ≤ 122
  · refine wp_then (a := false) ?_ (wp_neg (by decide) (wpo_of (by rw [if_pos h1])))
    rw [if_neg (fun z => absurd ((l _ _ (by omega) (by omega)).mp z) (by omega)), if_neg (fun z => absurd ((l _ _ (by omega) (by omega)).mp z) (by omega))]
  · refine wp_then (a := true) ?_ (wp_pos rfl ?_)
    · by_cases h2 : c < 97
      · rw [if_pos ((l _ _ (by omega) (by omega)).mpr h2)]
      · rw [if_neg (fun z => h2 ((l _ _ (by omega) (by omega)).mp z)), if_pos ((l _ _ (by omega) (by omega)).mpr (by omega))]
    · rw [if_neg h1]
      have tail : ¬ (48 ≤ c ∧ c ≤ 57) → wpo (if w32 c = w32 59 then some (3 : Int) else some 4) (fun b => b = if 48 ≤ c ∧ c ≤ 57 then 2 else if c = 59 then 3 else 4) := by
        intro h
        rw [if_neg h]
        by_cases h4 : c = 59
        · exact wp_pos (e59.mpr h4) (wpo_of (by rw [if_pos h4]))
        · exact wp_neg (fun z => h4 (e59.mp z)) (wpo_of (by rw [if_neg h4]))
      by_cases h2 : c < 48
      · exact wp_pos ((l _ _ (by omega) (by omega)).mpr h2) (tail (by omega))
      · refine wp_neg (fun z => h2 ((l _ _ (by omega) (by omega)).mp z)) ?_
        by_cases h3 : 57 < c
        · exact wp_pos ((l _ _ (by omega) (by omega)).mpr h3) (tail (by omega))
        · exact wp_neg (fun z => h3 ((l _ _ (by omega) (by omega)).mp z)) (wpo_of (by rw [if_pos (by omega)]))
/-- the text lies on the class's tape -/
def TX (M : Mem) (B : Nat → Int) (n : Nat) : Prop := M 1 1 = (n : Int) ∧ n ≤ 700 ∧ ∀ i, M 2 i = B i ∧ -128 ≤ B i ∧ B i ≤ 127
theorem TX.congr {M M' : Mem} {B : Nat → Int} {n : Nat} (h : TX M B n) (k : ∀ c i, c = 1 ∨ c = 2 → M' c i = M c i) : TX M' B n := ⟨(k 1 1 (Or.inl rfl)).trans h.1, h.2.1, fun i => by rw [k 2 i (Or.inr rfl)]; exact h.2.2 i⟩
set_option maxHeartbeats 1000000 in
theorem sp_next {M : Mem} {B : Nat → Int} {n p : Nat} (hT : TX M B n) (hp : p ≤ n) (h6 : M 3 6 = (p : Int)) : wpo (f4_next M) (fun M' => (∀ c i, (c ≠ 3 ∨ i < 4) → M' c i = M c i) ∧ M' 3 4 = tkd B n p ∧ M' 3 5 = (tst B n p : Int) ∧ M' 3 6 = (ten B n p : Int)) := by
  obtain ⟨t1, t2, t3⟩ := hT
  have hst := tst_bd (B := B) hp
  have hen := ten_bd (B := B) hp
  unfold f4_next
  refine wp_bind.mpr (wpo_mono (sp_run9 (t := fun i => blk (B i)) t2 hp h6 ?_) ?_)
  · intro q s hq h1 h2
    have s11 : s 1 1 = (n : Int) := (h1 1 1 (Or.inl (by decide))).trans t1
    have s2 : s 2 q = B q := (h1 2 q (Or.inl (by decide))).trans (t3 q).1
    refine wp_is ?_
    by_cases c : q < n
    · refine wp_pos (by rw [h2, s11]; exact (lt32 (by omega) (by omega)).mpr (by omega)) (wp_pos (by rw [h2]; omega) ?_)
      rw [h2, Int.toNat_natCast, s2]
      refine wp_then (sp_isBlank (t3 q).2) ?_
      by_cases c2 : blk (B q) = true
      · exact wp_neg (by rw [if_pos c2]; decide) (wpo_of (by rw [if_pos ⟨c, c2⟩]))
      · exact wp_pos (by rw [if_neg c2]; rfl) (wpo_of (by rw [if_neg (fun z => c2 z.2)]))
    · exact wp_neg (by rw [h2, s11]; exact fun z => absurd ((lt32 (by omega) (by omega)).mp z) (by omega)) (wpo_of (by rw [if_neg (fun z => c z.1)]))
  · rintro M1 ⟨a1, a2⟩
    have a2' : M1 3 6 = (tst B n p : Int) := a2
    have b11 : M1 1 1 = (n : Int) := (a1 1 1 (Or.inl (by decide))).trans t1
    have b2 : ∀ i, M1 2 i = B i := fun i => (a1 2 i (Or.inl (by decide))).trans (t3 i).1
    refine wp_then rfl ?_
    rw [a2', ms_ni (show 6 ≠ 5 by decide), a2', ms_ne (show 1 ≠ 3 by decide), ms_ne (show 2 ≠ 3 by decide), b11, Int.toNat_natCast, b2]
    have hk := kdc_bd (B (tst B n p))
    refine wp_then (a := tkd B n p) (wp_is ?_) (wp_then rfl ?_)
    · unfold tkd
      by_cases c : tst B n p < n
      · refine wp_pos ((lt32 (by omega) (by omega)).mpr (by omega)) (wp_pos (by omega) (wp_then (sp_kindOf (t3 _).2) (wpo_of (by rw [if_pos c]))))
      · exact wp_neg (fun z => absurd ((lt32 (by omega) (by omega)).mp z) (by omega)) (wpo_of (by rw [if_neg c]))
    · generalize hE : mset (mset M1 3 5 (tst B n p : Int)) 3 4 (tkd B n p) = E
      have e4 : E 3 4 = tkd B n p := by rw [← hE, ms_same]
      have e5 : E 3 5 = (tst B n p : Int) := by rw [← hE, ms_ni (by decide), ms_same]
      have e6 : E 3 6 = (tst B n p : Int) := by rw [← hE, ms_ni (by decide), ms_ni (by decide)]; exact a2'
      have eo : ∀ c i, (c ≠ 3 ∨ i < 4) → E c i = M c i := fun c i h => by
        rw [← hE, ms_at, if_neg (by omega), ms_at, if_neg (by omega)]
        exact a1 c i (by omega)
      by_cases c : tst B n p < n
      · have hkd : tkd B n p = kdc (B (tst B n p)) := by unfold tkd; rw [if_pos c]
        refine wp_neg (by rw [e4, hkd, w32_id (by omega)]; omega) (wp_then rfl ?_)
        generalize hG : mset E 3 6 (E 3 6 + 1) = G
        have g4 : G 3 4 = kdc (B (tst B n p)) := by rw [← hG, ms_ni (by decide), e4, hkd]
        have g5 : G 3 5 = (tst B n p : Int) := by rw [← hG, ms_ni (by decide)]; exact e5
        have g6 : G 3 6 = ((tst B n p + 1 : Nat) : Int) := by rw [← hG, ms_same, e6]; rfl
        have go : ∀ c i, (c ≠ 3 ∨ i < 4) → G c i = M c i := fun c i h => by
          rw [← hG, ms_at, if_neg (by omega)]
          exact eo c i h
        have run : (kdc (B (tst B n p)) = 1 ∨ kdc (B (tst B n p)) = 2) → wpo (loop (fun s2 : Mem => if w32 (s2 3 6) < w32 (s2 1 1) then (if 0 ≤ (s2 3 6) ∧ (s2 3 6) < 700 then Option.bind (f4_kindOf s2 (s2 2 (s2 3 6).toNat)) fun (a3 : Int) => if w32 a3 = w32 (s2 3 4) then some (Sum.inl (mset s2 3 6 ((s2 3 6) + 1))) else some (Sum.inr s2) else none) else some (Sum.inr s2)) FU G) (fun M' => (∀ c i, (c ≠ 3 ∨ i < 4) → M' c i = M c i) ∧ M' 3 4 = tkd B n p ∧ M' 3 5 = (tst B n p : Int) ∧ M' 3 6 = (ten B n p : Int)) := by
          intro h12
          refine wpo_mono (sp_run9 (t := fun i => decide (kdc (B i) = kdc (B (tst B n p)))) t2 (show tst B n p + 1 ≤ n by omega) g6 ?_) ?_
          · intro q s hq h1 h2
            have s11 : s 1 1 = (n : Int) := (h1 1 1 (Or.inl (by decide))).trans ((go 1 1 (Or.inl (by decide))).trans t1)
            have s2 : s 2 q = B q := (h1 2 q (Or.inl (by decide))).trans ((go 2 q (Or.inl (by decide))).trans (t3 q).1)
            have s4 : s 3 4 = kdc (B (tst B n p)) := (h1 3 4 (Or.inr (by decide))).trans g4
            have hkq := kdc_bd (B q)
            refine wp_is ?_
            by_cases c1 : q < n
            · refine wp_pos (by rw [h2, s11]; exact (lt32 (by omega) (by omega)).mpr (by omega)) (wp_pos (by rw [h2]; omega) ?_)
              rw [h2, Int.toNat_natCast, s2, s4]
              refine wp_then (sp_kindOf (t3 q).2) ?_
              by_cases c2 : kdc (B q) = kdc (B (tst B n p))
              · exact wp_pos (by rw [c2]) (wpo_of (by rw [if_pos ⟨c1, decide_eq_true c2⟩]))
              · exact wp_neg (fun z => c2 ((eq32 (by omega) (by omega)).mp z)) (wpo_of (by rw [if_neg (fun z => c2 (of_decide_eq_true z.2))]))
            · exact wp_neg (by rw [h2, s11]; exact fun z => absurd ((lt32 (by omega) (by omega)).mp z) (by omega)) (wpo_of (by rw [if_neg (fun z => c1 z.1)]))
          · rintro M2 ⟨m1, m2⟩
            refine ⟨fun c i h => (m1 c i (by omega)).trans (go c i h), ?_, ?_, ?_⟩
            · rw [m1 3 4 (Or.inr (by decide)), g4, hkd]
            · rw [m1 3 5 (Or.inr (by decide)), g5]
            · rw [m2]
              unfold ten
              rw [if_pos c, if_pos h12, rn_step c (decide_eq_true rfl)]
        by_cases c1 : kdc (B (tst B n p)) = 1
        · refine wp_pos (by rw [g4, c1]) ?_
          exact wp_bind.mpr (wpo_mono (run (Or.inl c1)) (fun s hs => wpo_of hs))
        · refine wp_neg (by rw [g4]; exact fun z => c1 ((eq32 (by omega) (by omega)).mp z)) ?_
          by_cases c2 : kdc (B (tst B n p)) = 2
          · refine wp_pos (by rw [g4, c2]) ?_
            exact wp_bind.mpr (wpo_mono (run (Or.inr c2)) (fun s hs => wpo_of hs))
          · refine wp_neg (by rw [g4]; exact fun z => c2 ((eq32 (by omega) (by omega)).mp z)) (wpo_of ⟨go, g4.trans hkd.symm, g5, ?_⟩)
            rw [g6]
            unfold ten
            rw [if_pos c, if_neg (by omega)]
      · have hkd : tkd B n p = 0 := by unfold tkd; rw [if_neg c]
        refine wp_pos (by rw [e4, hkd]; rfl) (wpo_of ⟨eo, e4, e5, ?_⟩)
        rw [e6]
        unfold ten
        rw [if_neg c]
