/-! THE TEXT: the reference's tokens (by hand) -/
theorem see_all : ∀ b : Nat, b < 256 → and32 ((b : Int) - 128) 255 = if 128 ≤ b then (b : Int) - 128 else (b : Int) + 128 := by decide +kernel
def sb (c : Int) : Int := if 0 ≤ c then c else c + 256
theorem see_sb {c : Int} (h : -128 ≤ c ∧ c ≤ 127) : and32 c 255 = sb c := by
  have := see_all (c + 128).toNat (by omega)
  have e : (((c + 128).toNat : Nat) : Int) - 128 = c := by omega
  rw [e] at this
  rw [this]
  unfold sb
  by_cases c0 : 0 ≤ c
  · rw [if_pos (by omega), if_pos c0]
  · rw [if_neg (by omega), if_neg c0]
    omega
/-- the text lies on the reference's tape -/
def TM (M : Mem) (B : Nat → Int) (n : Nat) : Prop := M 117 7 = (n : Int) ∧ n ≤ 700 ∧ ∀ i, M 121 i = B i ∧ -128 ≤ B i ∧ B i ≤ 127
theorem TM.congr {M M' : Mem} {B : Nat → Int} {n : Nat} (h : TM M B n) (k : ∀ c i, (c = 117 ∧ i = 7) ∨ c = 121 → M' c i = M c i) : TM M' B n := ⟨(k 117 7 (Or.inl ⟨rfl, rfl⟩)).trans h.1, h.2.1, fun i => by rw [k 121 i (Or.inr rfl)]; exact h.2.2 i⟩
theorem sp_see {M : Mem} {B : Nat → Int} {n q : Nat} (hT : TM M B n) (hq : q ≤ n) : f10_see M (q : Int) = some (if q < n then sb (B q) else -1) := by
  obtain ⟨t1, t2, t3⟩ := hT
  unfold f10_see
  rw [t1]
  by_cases c : q < n
  · rw [if_pos ((lt32 (by omega) (by omega)).mpr (by omega)), if_pos (by omega), if_pos c, Int.toNat_natCast, (t3 q).1, see_sb (t3 q).2]
  · rw [if_neg (fun z => absurd ((lt32 (by omega) (by omega)).mp z) (by omega)), if_neg c]
theorem sb_bd {c : Int} (h : -128 ≤ c ∧ c ≤ 127) : 0 ≤ sb c ∧ sb c ≤ 255 := by
  unfold sb
  split <;> omega
theorem sp_run10 {M : Mem} {n p : Nat} {t : Nat → Bool} {f : Mem → Option (Mem ⊕ Mem)} (hn : n ≤ 700) (hp : p ≤ n) (h8 : M 117 8 = (p : Int)) (hf : ∀ (q : Nat) (s : Mem), q ≤ n → (∀ c i, (c ≠ 117 ∨ i ≠ 8) → s c i = M c i) → s 117 8 = (q : Int) → f s = some (if q < n ∧ t q = true then Sum.inl (mset s 117 8 ((q : Int) + 1)) else Sum.inr s)) : wpo (loop f FU M) (fun s => (∀ c i, (c ≠ 117 ∨ i ≠ 8) → s c i = M c i) ∧ s 117 8 = (rn t n p : Int)) := by
  refine wp_loopm (I := fun m s => ∃ q : Nat, m = n - q ∧ q ≤ n ∧ (∀ c i, (c ≠ 117 ∨ i ≠ 8) → s c i = M c i) ∧ s 117 8 = (q : Int) ∧ rn t n q = rn t n p) ?_ FU (n - p) _ ⟨p, rfl, hp, fun _ _ _ => rfl, h8, rfl⟩ (by unfold FU; omega)
  rintro m s ⟨q, rfl, hq, h1, h2, h3⟩
  rw [hf q s hq h1 h2]
  by_cases c : q < n ∧ t q = true
  · rw [if_pos c]
    refine wpo_of ⟨n - (q + 1), by omega, q + 1, rfl, by omega, fun c' i h => ?_, ms_same, ?_⟩
    · have hne : ¬ (c' = 117 ∧ i = 8) := by omega
      rw [ms_at, if_neg hne]
      exact h1 c' i h
    · rw [← rn_step c.1 c.2]
      exact h3
  · rw [if_neg c]
    refine wpo_of ⟨h1, ?_⟩
    rw [h2, ← h3]
    by_cases e : q = n
    · rw [e, rn_end]
    · have : t q = false := by
        cases h : t q with
        | false => rfl
        | true => exact absurd ⟨by omega, h⟩ c
      rw [rn_stop (by omega) this]
/-- the number told by k digits from s on -/
def vl (B : Nat → Int) (s : Nat) : Nat → Int
  | 0 => 0
  | k + 1 => 10 * vl B s k + (B (s + k) - 48)
theorem vl_nn {B : Nat → Int} {s k : Nat} (h : ∀ i, s ≤ i → i < s + k → 48 ≤ B i ∧ B i ≤ 57) : 0 ≤ vl B s k := by
  induction k with
  | zero => exact Int.le_refl _
  | succ k ih =>
    have h1 := ih (fun i a b => h i a (by omega))
    have h2 := h (s + k) (by omega) (by omega)
    rw [vl]
    omega
/-- the token, as the reference has it -/
def TA (M M' : Mem) (B : Nat → Int) (n p : Nat) : Prop := (∀ c i, (c ≠ 117 ∨ (i ≠ 8 ∧ i ≠ 9 ∧ i ≠ 10 ∧ i ≠ 11)) → M' c i = M c i) ∧ M' 117 10 = tkd B n p ∧ M' 117 9 = (tst B n p : Int) ∧ M' 117 8 = (ten B n p : Int) ∧ (tkd B n p = 2 → M' 117 11 = min 99999 (vl B (tst B n p) (ten B n p - tst B n p)))
theorem kdc_1 {c : Int} : kdc c = 1 ↔ 97 ≤ c ∧ c ≤ 122 := by
  unfold kdc
  by_cases h1 : 97 ≤ c ∧ c ≤ 122
  · rw [if_pos h1]
    exact ⟨fun _ => h1, fun _ => rfl⟩
  · rw [if_neg h1]
    by_cases h2 : 48 ≤ c ∧ c ≤ 57
    · rw [if_pos h2]
      exact ⟨fun z => absurd z (by decide), fun z => absurd z h1⟩
    · rw [if_neg h2]
      by_cases h3 : c = 59
      · rw [if_pos h3]
        exact ⟨fun z => absurd z (by decide), fun z => absurd z h1⟩
      · rw [if_neg h3]
        exact ⟨fun z => absurd z (by decide), fun z => absurd z h1⟩
theorem kdc_2 {c : Int} : kdc c = 2 ↔ 48 ≤ c ∧ c ≤ 57 := by
  unfold kdc
  by_cases h1 : 97 ≤ c ∧ c ≤ 122
  · rw [if_pos h1]
    exact ⟨fun z => absurd z (by decide), fun z => by omega⟩
  · rw [if_neg h1]
    by_cases h2 : 48 ≤ c ∧ c ≤ 57
    · rw [if_pos h2]
      exact ⟨fun _ => h2, fun _ => rfl⟩
    · rw [if_neg h2]
      by_cases h3 : c = 59
      · rw [if_pos h3]
        exact ⟨fun z => absurd z (by decide), fun z => absurd z h2⟩
      · rw [if_neg h3]
        exact ⟨fun z => absurd z (by decide), fun z => absurd z h2⟩
theorem kdc_34 {c : Int} (h1 : ¬ (97 ≤ c ∧ c ≤ 122)) (h2 : ¬ (48 ≤ c ∧ c ≤ 57)) : kdc c = if c = 59 then 3 else 4 := by
  unfold kdc
  rw [if_neg h1, if_neg h2]
set_option maxHeartbeats 1000000 in
theorem sp_advance {M : Mem} {B : Nat → Int} {n p : Nat} (hT : TM M B n) (hp : p ≤ n) (h8 : M 117 8 = (p : Int)) : wpo (f10_advance M) (fun M' => TA M M' B n p) := by
  have t2 := hT.2.1
  have t3 := fun i => (hT.2.2 i).2
  have hst := tst_bd (B := B) hp
  have hen := ten_bd (B := B) hp
  unfold f10_advance
  refine wp_bind.mpr (wpo_mono (sp_run10 (t := fun i => blk (B i)) t2 hp h8 ?_) ?_)
  · intro q s hq h1 h2
    have hTs : TM s B n := hT.congr (fun c i h => h1 c i (by omega))
    have hb := sb_bd (t3 q)
    have hsb : sb (B q) = 32 ∨ sb (B q) = 10 ↔ B q = 32 ∨ B q = 10 := by
      have := t3 q
      unfold sb
      split <;> omega
    refine wp_is ?_
    rw [h2]
    refine wp_then (sp_see hTs hq) ?_
    by_cases c : q < n
    · rw [if_pos c]
      by_cases c1 : sb (B q) = 32
      · refine wp_pos (by rw [c1]) (wpo_of ?_)
        rw [if_pos ⟨c, decide_eq_true (hsb.mp (Or.inl c1))⟩]
      · refine wp_neg (fun z => c1 ((eq32 (by omega) (by omega)).mp z)) (wp_then (sp_see hTs hq) ?_)
        rw [if_pos c]
        by_cases c2 : sb (B q) = 10
        · refine wp_pos (by rw [c2]) (wpo_of ?_)
          rw [if_pos ⟨c, decide_eq_true (hsb.mp (Or.inr c2))⟩]
        · refine wp_neg (fun z => c2 ((eq32 (by omega) (by omega)).mp z)) (wpo_of ?_)
          rw [if_neg (fun z => by have := hsb.mpr (of_decide_eq_true z.2); omega)]
    · rw [if_neg c]
      refine wp_neg (by decide) (wp_then (sp_see hTs hq) ?_)
      rw [if_neg c]
      exact wp_neg (by decide) (wpo_of (by rw [if_neg (fun z => c z.1)]))
  · rintro M1 ⟨a1, a2⟩
    have a2' : M1 117 8 = (tst B n p : Int) := a2
    refine wp_then rfl ?_
    rw [a2']
    generalize hE : mset M1 117 9 (tst B n p : Int) = E
    have e8 : E 117 8 = (tst B n p : Int) := by rw [← hE, ms_ni (by decide)]; exact a2'
    have e9 : E 117 9 = (tst B n p : Int) := by rw [← hE, ms_same]
    have eo : ∀ c i, (c ≠ 117 ∨ (i ≠ 8 ∧ i ≠ 9 ∧ i ≠ 10 ∧ i ≠ 11)) → E c i = M c i := fun c i h => by
      rw [← hE, ms_at, if_neg (by omega)]
      exact a1 c i (by omega)
    have hTE : TM E B n := hT.congr (fun c i h => eo c i (by omega))
    have hb := sb_bd (t3 (tst B n p))
    have hsb1 : 97 ≤ sb (B (tst B n p)) ∧ sb (B (tst B n p)) ≤ 122 ↔ 97 ≤ B (tst B n p) ∧ B (tst B n p) ≤ 122 := by
      have := t3 (tst B n p)
      unfold sb
      split <;> omega
    have hsb2 : 48 ≤ sb (B (tst B n p)) ∧ sb (B (tst B n p)) ≤ 57 ↔ 48 ≤ B (tst B n p) ∧ B (tst B n p) ≤ 57 := by
      have := t3 (tst B n p)
      unfold sb
      split <;> omega
    have hsb3 : sb (B (tst B n p)) = 59 ↔ B (tst B n p) = 59 := by
      have := t3 (tst B n p)
      unfold sb
      split <;> omega
    rw [e8]
    refine wp_then (sp_see hTE hst.2) ?_
    by_cases c : tst B n p < n
    · have hkd : tkd B n p = kdc (B (tst B n p)) := by unfold tkd; rw [if_pos c]
      rw [if_pos c]
      have win : ∀ (s : Mem) (v lo hi : Int), -1 ≤ v ∧ v ≤ 255 → 0 ≤ lo ∧ lo ≤ 255 → 0 ≤ hi ∧ hi ≤ 255 → f10_in s (w32 v) lo hi = some (if lo ≤ v ∧ v ≤ hi then 1 else 0) := fun s v lo hi hv hl hh => by
        rw [w32_id (by omega)]
        exact sp_in (by omega) (by omega) (by omega)
      refine wp_neg (fun z => ?_) (wp_then (win E _ 97 122 (by omega) (by decide) (by decide)) ?_)
      · have := (eq32 (by omega) (by omega)).mp z
        omega
      · by_cases c1 : 97 ≤ sb (B (tst B n p)) ∧ sb (B (tst B n p)) ≤ 122
        · have k1 := kdc_1.mpr (hsb1.mp c1)
          refine wp_neg (fun z => if01.mp z c1) ?_
          refine wp_bind.mpr (wpo_mono (sp_run10 (t := fun i => decide (kdc (B i) = kdc (B (tst B n p)))) t2 hst.2 e8 ?_) ?_)
          · intro q s hq h1 h2
            have hTs : TM s B n := hTE.congr (fun c i h => h1 c i (by omega))
            have hbq := sb_bd (t3 q)
            have hq1 : 97 ≤ sb (B q) ∧ sb (B q) ≤ 122 ↔ kdc (B q) = 1 := by
              rw [kdc_1]
              have := t3 q
              unfold sb
              split <;> omega
            refine wp_is ?_
            rw [h2]
            refine wp_then (sp_see hTs hq) ?_
            by_cases d : q < n
            · rw [if_pos d]
              refine wp_then (win s _ 97 122 (by omega) (by decide) (by decide)) ?_
              by_cases d1 : 97 ≤ sb (B q) ∧ sb (B q) ≤ 122
              · exact wp_neg (fun z => if01.mp z d1) (wpo_of (by rw [if_pos ⟨d, decide_eq_true (by rw [k1, hq1.mp d1])⟩]))
              · refine wp_pos (if01.mpr d1) (wpo_of ?_)
                rw [if_neg (fun z => d1 (hq1.mpr (by have := of_decide_eq_true z.2; rw [k1] at this; exact this)))]
            · rw [if_neg d]
              refine wp_then (win s (-1) 97 122 (by decide) (by decide) (by decide)) ?_
              exact wp_pos (by decide) (wpo_of (by rw [if_neg (fun z => d z.1)]))
          · rintro M2 ⟨m1, m2⟩
            refine wpo_of ⟨fun c i h => ?_, ?_, ?_, ?_, fun z => ?_⟩
            · rw [ms_at, if_neg (by omega), m1 c i (by omega)]
              exact eo c i h
            · rw [ms_same, hkd, k1]
            · rw [ms_ni (by decide), m1 117 9 (Or.inr (by decide)), e9]
            · rw [ms_ni (by decide), m2]
              unfold ten
              rw [if_pos c, if_pos (Or.inl k1)]
            · rw [hkd, k1] at z
              exact absurd z (by decide)
        · refine wp_pos (if01.mpr c1) (wp_then (win E _ 48 57 (by omega) (by decide) (by decide)) ?_)
          by_cases c2 : 48 ≤ sb (B (tst B n p)) ∧ sb (B (tst B n p)) ≤ 57
          · have k2 := kdc_2.mpr (hsb2.mp c2)
            refine wp_neg (fun z => if01.mp z c2) (wp_then rfl ?_)
            refine wp_bind.mpr (wpo_mono (P := fun s => (∀ c i, (c ≠ 117 ∨ (i ≠ 8 ∧ i ≠ 11)) → s c i = E c i) ∧ s 117 8 = (ten B n p : Int) ∧ s 117 11 = min 99999 (vl B (tst B n p) (ten B n p - tst B n p))) ?_ ?_)
            · have het : ten B n p = rn (fun i => decide (kdc (B i) = kdc (B (tst B n p)))) n (tst B n p) := by
                unfold ten
                rw [if_pos c, if_pos (Or.inr k2)]
              have hall := rn_all (t := fun i => decide (kdc (B i) = kdc (B (tst B n p)))) hst.2
              rw [← het] at hall
              refine wp_loopm (I := fun m s => ∃ q : Nat, m = n - q ∧ tst B n p ≤ q ∧ q ≤ n ∧ (∀ c i, (c ≠ 117 ∨ (i ≠ 8 ∧ i ≠ 11)) → s c i = E c i) ∧ s 117 8 = (q : Int) ∧ q ≤ ten B n p ∧ rn (fun i => decide (kdc (B i) = kdc (B (tst B n p)))) n q = ten B n p ∧ s 117 11 = min 99999 (vl B (tst B n p) (q - tst B n p))) ?_ FU (n - tst B n p) _ ⟨tst B n p, rfl, Nat.le_refl _, hst.2, fun c i h => ?_, ?_, hen.1, het.symm, ?_⟩ (by unfold FU; omega)
              · rintro m s ⟨q, rfl, q0, hq, h1, h2, h3, h4, h5⟩
                have hTs : TM s B n := hTE.congr (fun c i h => h1 c i (by omega))
                have hbq := sb_bd (t3 q)
                have hq1 : 48 ≤ sb (B q) ∧ sb (B q) ≤ 57 ↔ kdc (B q) = 2 := by
                  rw [kdc_2]
                  have := t3 q
                  unfold sb
                  split <;> omega
                have hvn : 0 ≤ vl B (tst B n p) (q - tst B n p) := vl_nn (fun i i1 i2 => by
                  have := of_decide_eq_true (hall i i1 (by omega))
                  rw [k2] at this
                  exact kdc_2.mp this)
                rw [h2]
                refine wp_then (sp_see hTs hq) ?_
                by_cases d : q < n
                · rw [if_pos d]
                  refine wp_then (win s _ 48 57 (by omega) (by decide) (by decide)) ?_
                  by_cases d1 : 48 ≤ sb (B q) ∧ sb (B q) ≤ 57
                  · refine wp_neg (fun z => if01.mp z d1) (wp_then (sp_see hTs hq) ?_)
                    rw [if_pos d]
                    have kq := hq1.mp d1
                    have hs := rn_step (t := fun i => decide (kdc (B i) = kdc (B (tst B n p)))) d (decide_eq_true (by rw [k2, kq]))
                    have hse : sb (B q) = B q := by
                      have := kdc_2.mp kq
                      unfold sb
                      rw [if_pos (by omega)]
                    refine wp_then rfl (wpo_of ⟨n - (q + 1), by omega, q + 1, rfl, by omega, by omega, fun c i h => ?_, ?_, ?_, ?_, ?_⟩)
                    · rw [ms_at, if_neg (by omega), ms_at, if_neg (by omega)]
                      exact h1 c i h
                    · rw [ms_same, ms_ni (by decide), h2]
                      rfl
                    · have := (rn_bd (t := fun i => decide (kdc (B i) = kdc (B (tst B n p)))) (n := n) (p := q + 1) (by omega)).1
                      omega
                    · rw [← hs]
                      exact h4
                    · have e1 : q + 1 - tst B n p = (q - tst B n p) + 1 := by omega
                      have e2 : tst B n p + (q - tst B n p) = q := by omega
                      have hd := kdc_2.mp kq
                      rw [ms_ni (by decide), ms_same, h5, e1, vl, e2, hse, min32_id (by omega) (by omega)]
                      omega
                  · refine wp_pos (if01.mpr d1) (wpo_of ⟨h1, ?_, ?_⟩)
                    · have hstop := rn_stop (t := fun i => decide (kdc (B i) = kdc (B (tst B n p)))) d (decide_eq_false (fun z => d1 (hq1.mpr (by rw [k2] at z; exact z))))
                      rw [hstop] at h4
                      rw [h2, h4]
                    · have hstop := rn_stop (t := fun i => decide (kdc (B i) = kdc (B (tst B n p)))) d (decide_eq_false (fun z => d1 (hq1.mpr (by rw [k2] at z; exact z))))
                      rw [hstop] at h4
                      rw [h5, h4]
                · rw [if_neg d]
                  have hqn : q = n := by omega
                  rw [hqn, rn_end] at h4
                  refine wp_then (win s (-1) 48 57 (by decide) (by decide) (by decide)) (wp_pos (by decide) (wpo_of ⟨h1, ?_, ?_⟩))
                  · rw [h2, hqn.trans h4]
                  · rw [h5, hqn.trans h4]
              · rw [ms_at, if_neg (by omega)]
              · rw [ms_ni (by decide)]
                exact e8
              · rw [ms_same, Nat.sub_self]
                show (0 : Int) = min 99999 0
                decide
            · rintro M2 ⟨m1, m2, m3⟩
              refine wpo_of ⟨fun c i h => ?_, ?_, ?_, ?_, fun _ => ?_⟩
              · rw [ms_at, if_neg (by omega), m1 c i (by omega)]
                exact eo c i h
              · rw [ms_same, hkd, k2]
              · rw [ms_ni (by decide), m1 117 9 (Or.inr (by decide)), e9]
              · rw [ms_ni (by decide), m2]
              · rw [ms_ni (by decide), m3]
          · have k34 := kdc_34 (fun z => c1 (hsb1.mpr z)) (fun z => c2 (hsb2.mpr z))
            refine wp_pos (if01.mpr c2) ?_
            refine wp_then (a := kdc (B (tst B n p))) (wp_is ?_) (wp_then rfl (wpo_of ⟨fun c i h => ?_, ?_, ?_, ?_, fun z => ?_⟩))
            · rw [k34]
              by_cases c3 : B (tst B n p) = 59
              · exact wp_pos (by rw [hsb3.mpr c3]) (wpo_of (by rw [if_pos c3]))
              · refine wp_neg (fun z => c3 (hsb3.mp ((eq32 (by omega) (by omega)).mp z))) (wpo_of (by rw [if_neg c3]))
            · rw [ms_at, if_neg (by omega), ms_at, if_neg (by omega)]
              exact eo c i h
            · rw [ms_ni (by decide), ms_same, hkd]
            · rw [ms_ni (by decide), ms_ni (by decide), e9]
            · rw [ms_same, ms_ni (by decide), e8]
              unfold ten
              have : ¬ (kdc (B (tst B n p)) = 1 ∨ kdc (B (tst B n p)) = 2) := by
                rw [k34]
                split <;> omega
              rw [if_pos c, if_neg this]
              rfl
            · rw [hkd, k34] at z
              split at z <;> omega
    · have hkd : tkd B n p = 0 := by unfold tkd; rw [if_neg c]
      rw [if_neg c]
      refine wp_pos rfl (wpo_of ⟨fun c i h => ?_, ?_, ?_, ?_, fun z => ?_⟩)
      · rw [ms_at, if_neg (by omega)]
        exact eo c i h
      · rw [ms_same, hkd]
      · rw [ms_ni (by decide), e9]
      · rw [ms_ni (by decide), e8]
        unfold ten
        rw [if_neg c]
      · rw [hkd] at z
        exact absurd z (by decide)
