/-! THE TEXT: words, numbers, fields (by hand) -/
def lw (w : Nat) : Nat := lenS.getD w 0
theorem lw_bd : ∀ w : Nat, w < 13 → 1 ≤ lw w ∧ lw w ≤ 6 := by decide
theorem ch_bd : ∀ w : Nat, w < 13 → ∀ i : Nat, i < lw w → 97 ≤ chS w i ∧ chS w i ≤ 122 := by decide +kernel
/-- the token from p on is word w -/
def isW (B : Nat → Int) (n p w : Nat) : Prop := tkd B n p = 1 ∧ ten B n p = tst B n p + lw w ∧ ∀ i, i < lw w → B (tst B n p + i) = chS w i
/-- what a number tells -/
def tvl (B : Nat → Int) (n p : Nat) : Int := vl B (tst B n p) (ten B n p - tst B n p)
theorem dig_all {B : Nat → Int} {n p : Nat} (hp : p ≤ n) (h : tkd B n p = 2) : tst B n p < n ∧ ∀ i, tst B n p ≤ i → i < ten B n p → 48 ≤ B i ∧ B i ≤ 57 := by
  have hst := tst_bd (B := B) hp
  by_cases c : tst B n p < n
  · unfold tkd at h
    rw [if_pos c] at h
    refine ⟨c, fun i h1 h2 => ?_⟩
    unfold ten at h2
    rw [if_pos c, if_pos (Or.inr h)] at h2
    have := of_decide_eq_true (rn_all (t := fun i => decide (kdc (B i) = kdc (B (tst B n p)))) hst.2 i h1 h2)
    rw [h] at this
    exact kdc_2.mp this
  · unfold tkd at h
    rw [if_neg c] at h
    exact absurd h (by decide)
/-- the class has the token from p on -/
def C9 (M : Mem) (B : Nat → Int) (n p : Nat) : Prop := M 3 4 = tkd B n p ∧ M 3 5 = (tst B n p : Int) ∧ M 3 6 = (ten B n p : Int)
def fail9 (M : Mem) (f : Int) : Mem := mset (mset M 3 2 f) 3 3 (M 3 5)
theorem sp_failed {M : Mem} {f : Int} : f4_failed M f = some (0, fail9 M f) := by
  refine wp_is ?_
  unfold f4_failed
  refine wp_then rfl (wpo_of ?_)
  rw [ms_ni (by decide)]
  rfl
theorem tkd_bd {B : Nat → Int} {n p : Nat} : 0 ≤ tkd B n p ∧ tkd B n p ≤ 4 := by
  unfold tkd
  split
  · have := kdc_bd (B (tst B n p))
    omega
  · decide
theorem sp_isWord {M : Mem} {B : Nat → Int} {n p w : Nat} (hT : TX M B n) (hp : p ≤ n) (hC : C9 M B n p) (hw : w < 13) : wpo (f4_isWord M w) (fun r => (r.1 = 1 ∧ isW B n p w ∧ r.2 = M) ∨ (r.1 = 0 ∧ ¬ isW B n p w ∧ r.2 = fail9 M 1)) := by
  obtain ⟨t1, t2, t3⟩ := hT
  obtain ⟨c1, c2, c3⟩ := hC
  have hst := tst_bd (B := B) hp
  have hen := ten_bd (B := B) hp
  have hl := lw_bd w hw
  have hk := tkd_bd (B := B) (n := n) (p := p)
  have bad : ∀ x : Option (Int × Mem), ¬ isW B n p w → x = some (0, fail9 M 1) → wpo (Option.bind x fun (a1 : Int × Mem) => if a1.1 = 0 ∨ a1.1 = 1 then some (a1.1, a1.2) else none) (fun r => (r.1 = 1 ∧ isW B n p w ∧ r.2 = M) ∨ (r.1 = 0 ∧ ¬ isW B n p w ∧ r.2 = fail9 M 1)) := fun x hn hx => wp_then hx (wp_pos (Or.inl rfl) (wpo_of (Or.inr ⟨rfl, hn, rfl⟩)))
  have elw : ((lenS.getD w 0 : Nat) : Int) = (lw w : Int) := rfl
  unfold f4_isWord
  by_cases d1 : tkd B n p = 1
  · refine wp_pos (by rw [c1, d1]) ?_
    by_cases d2 : ten B n p = tst B n p + lw w
    · refine wp_pos ?_ ?_
      · rw [c3, c2, elw]
        congr 1
        omega
      · refine wp_bind.mpr (wpo_mono (P := fun z => wpo (Sum.elim (fun (b1 : Mem) => some (1, b1)) (fun rv => some rv) z) (fun r => (r.1 = 1 ∧ isW B n p w ∧ r.2 = M) ∨ (r.1 = 0 ∧ ¬ isW B n p w ∧ r.2 = fail9 M 1))) ?_ (fun z hz => hz))
        refine wp_for (I := fun k t => t = ((k : Int), M) ∧ ∀ i, i < k → B (tst B n p + i) = chS w i) (lw w) ?_ ?_ FU 0 _ ⟨rfl, fun i hi => absurd hi (Nat.not_lt_zero _)⟩ (Nat.zero_le _) (by unfold FU; omega)
        · rintro k t hkk ⟨rfl, hno⟩
          dsimp only
          have hch := ch_bd w hw k hkk
          have hB := (t3 (tst B n p + k)).2
          have et : ((tst B n p : Int) + (k : Int)).toNat = tst B n p + k := by omega
          refine wp_pos (by rw [elw]; exact (lt32 (by omega) (by omega)).mpr (by omega)) (wp_pos (by rw [c2]; omega) (wp_pos (by rw [elw]; omega) ?_))
          by_cases c : B (tst B n p + k) = chS w k
          · refine wp_pos (by rw [c2, et, (t3 _).1, Int.toNat_natCast, c]) (wpo_of ⟨rfl, fun i hi => ?_⟩)
            by_cases e : i = k
            · rw [e]
              exact c
            · exact hno i (by omega)
          · refine wp_neg (fun z => c (by rw [c2, et, (t3 _).1, Int.toNat_natCast] at z; exact (eq32 (by omega) (by omega)).mp z)) ?_
            exact wp_then sp_failed (wp_pos (Or.inl rfl) (wpo_of (wpo_of (Or.inr ⟨rfl, fun z => c (z.2.2 k hkk), rfl⟩))))
        · rintro t ⟨rfl, hno⟩
          dsimp only
          exact wp_neg (by rw [elw]; exact fun z => absurd ((lt32 (by omega) (by omega)).mp z) (by omega)) (wpo_of (wpo_of (Or.inl ⟨rfl, ⟨d1, d2, hno⟩, rfl⟩)))
    · refine wp_neg (fun z => d2 ?_) (bad _ (fun z => d2 z.2.1) sp_failed)
      rw [c3, c2, elw] at z
      have := (eq32 (by omega) (by omega)).mp z
      omega
  · exact wp_neg (by rw [c1]; exact fun z => d1 ((eq32 (by omega) (by omega)).mp z)) (bad _ (fun z => d1 z.1) sp_failed)
theorem sp_numberRead {M : Mem} {B : Nat → Int} {n p : Nat} (hT : TX M B n) (hp : p ≤ n) (hC : C9 M B n p) (hk : tkd B n p = 2) : f4_numberRead M = some (min 1000 (tvl B n p)) ∧ 0 ≤ tvl B n p := by
  obtain ⟨t1, t2, t3⟩ := hT
  obtain ⟨c1, c2, c3⟩ := hC
  have hst := tst_bd (B := B) hp
  have hen := ten_bd (B := B) hp
  obtain ⟨d1, d2⟩ := dig_all hp hk
  refine ⟨wp_is ?_, vl_nn (fun i h1 h2 => d2 i h1 (by omega))⟩
  unfold f4_numberRead
  refine wp_bind.mpr ?_
  simp only [wp_some]
  refine wp_for (I := fun k t => t.2 = ((tst B n p + k : Nat) : Int) ∧ t.1 = min 1000 (vl B (tst B n p) k)) (ten B n p - tst B n p) ?_ ?_ FU 0 _ ⟨by dsimp only; rw [c2]; rfl, by dsimp only; rw [vl]; rfl⟩ (Nat.zero_le _) (by unfold FU; omega)
  · rintro k ⟨v, q⟩ hkk ⟨e1, e2⟩
    dsimp only at e1 e2 ⊢
    subst e1 e2
    have hd := d2 (tst B n p + k) (by omega) (by omega)
    have hn := vl_nn (B := B) (s := tst B n p) (k := k) (fun i h1 h2 => d2 i h1 (by omega))
    refine wp_pos (by rw [c3]; exact (lt32 (by omega) (by omega)).mpr (by omega)) (wp_pos (by omega) (wp_then rfl (wpo_of ⟨by dsimp only; omega, ?_⟩)))
    dsimp only
    rw [Int.toNat_natCast, (t3 _).1, min32_id (by omega) (by omega), vl]
    omega
  · rintro ⟨v, q⟩ ⟨e1, e2⟩
    dsimp only at e1 e2 ⊢
    subst e1 e2
    exact wp_neg (by rw [c3]; exact fun z => absurd ((lt32 (by omega) (by omega)).mp z) (by omega)) (wpo_of rfl)
/-- the reference has the token from p on, and no fault -/
def R10 (M : Mem) (B : Nat → Int) (n p : Nat) : Prop := TM M B n ∧ M 117 12 = 0 ∧ M 117 10 = tkd B n p ∧ M 117 9 = (tst B n p : Int) ∧ M 117 8 = (ten B n p : Int) ∧ (tkd B n p = 2 → M 117 11 = min 99999 (tvl B n p)) ∧ M 117 13 = -1
/-- the reference has found a fault -/
def N10 (M : Mem) (f : Int) (pl : Nat) : Prop := M 117 12 = f ∧ (1 ≤ f ∧ f ≤ 3) ∧ M 117 13 = (pl : Int)
def F10 (M M' : Mem) : Prop := ∀ c i, (c ≠ 117 ∨ i < 8 ∨ 13 < i) → M' c i = M c i
theorem F10.rf {M : Mem} : F10 M M := fun _ _ _ => rfl
theorem F10.tr {M N O : Mem} (h : F10 M N) (h' : F10 N O) : F10 M O := fun c i a => (h' c i a).trans (h c i a)
theorem sp_good0 {M : Mem} (h : M 117 12 = 0) : f10_good M = some 1 := by
  unfold f10_good
  rw [if_pos (by rw [h]; rfl)]
theorem sp_good1 {M : Mem} {f : Int} {pl : Nat} (h : N10 M f pl) : f10_good M = some 0 := by
  obtain ⟨h1, h2, -⟩ := h
  unfold f10_good
  rw [if_neg (by rw [h1, w32_id (by omega)]; omega)]
theorem sp_errs0 {M : Mem} {f : Int} (h : M 117 12 = 0) : f10_errs M f = some (mset (mset M 117 12 f) 117 13 (M 117 9)) := by
  refine wp_is ?_
  unfold f10_errs
  refine wp_then (sp_good0 h) (wp_neg (by decide) (wp_then rfl (wpo_of ?_)))
  rw [ms_ni (by decide)]
theorem sp_errs1 {M : Mem} {f g : Int} {pl : Nat} (h : N10 M f pl) : f10_errs M g = some M := by
  refine wp_is ?_
  unfold f10_errs
  exact wp_then (sp_good1 h) (wp_pos (by decide) (wpo_of rfl))
/-- what a fault leaves -/
theorem N10.of {M : Mem} {B : Nat → Int} {n p : Nat} {f : Int} (h : R10 M B n p) (hf : 1 ≤ f ∧ f ≤ 3) : N10 (mset (mset M 117 12 f) 117 13 (M 117 9)) f (tst B n p) ∧ F10 M (mset (mset M 117 12 f) 117 13 (M 117 9)) := by
  refine ⟨⟨?_, hf, ?_⟩, fun c i h' => ?_⟩
  · rw [ms_ni (by decide), ms_same]
  · rw [ms_same]
    exact h.2.2.2.1
  · rw [ms_at, if_neg (by omega), ms_at, if_neg (by omega)]
theorem sp_is0 {M : Mem} {f : Int} {pl w : Nat} (h : N10 M f pl) (hw : w < 13) : f10_is M w = some 0 := by
  have hl := lw_bd w hw
  refine wp_is ?_
  unfold f10_is
  refine wp_then (sp_good1 h) (wp_then (if_pos (by decide)) ?_)
  refine wp_bind.mpr (wpo_mono (P := fun v => v = 0) ?_ (fun v hv => by subst hv; exact wp_pos (Or.inl rfl) (wpo_of rfl)))
  refine wp_loop (I := fun t => t.1 = 0) (mu := fun _ => 0) ?_ FU _ rfl (by unfold FU; omega)
  rintro ⟨v, k⟩ hv
  dsimp only at hv ⊢
  subst hv
  by_cases c : w32 k < w32 ((lenS.getD w 0 : Nat) : Int)
  · exact wp_pos c (wp_pos (by decide) (wpo_of rfl))
  · exact wp_neg c (wpo_of rfl)
theorem sp_is1 {M : Mem} {B : Nat → Int} {n p w : Nat} (hp : p ≤ n) (hR : R10 M B n p) (hw : w < 13) : wpo (f10_is M w) (fun v => (v = 1 ∧ isW B n p w) ∨ (v = 0 ∧ ¬ isW B n p w)) := by
  obtain ⟨⟨t1, t2, t3⟩, r1, r2, r3, r4, r5⟩ := hR
  have hst := tst_bd (B := B) hp
  have hen := ten_bd (B := B) hp
  have hl := lw_bd w hw
  have hk := tkd_bd (B := B) (n := n) (p := p)
  have elw : ((lenS.getD w 0 : Nat) : Int) = (lw w : Int) := rfl
  unfold f10_is
  refine wp_then (sp_good0 r1) ?_
  have e0 : ∀ j : Int, j = 0 → ¬ isW B n p w → wpo (Option.bind (loop (fun s1 : Int × Int => if w32 s1.2 < w32 ((lenS.getD w 0 : Nat) : Int) then (if w32 s1.1 = 0 then some (Sum.inr s1.1) else if 0 ≤ ((M 117 9) + s1.2) ∧ ((M 117 9) + s1.2) < 700 then (if 0 ≤ s1.2 ∧ s1.2 < ((lenS.getD w 0 : Nat) : Int) then Option.bind (if w32 (M 121 ((M 117 9) + s1.2).toNat) = w32 (chS w s1.2.toNat) then some 1 else some 0) fun (j2 : Int) => some (Sum.inl (j2, (s1.2 + 1))) else none) else none) else some (Sum.inr s1.1)) FU (j, 0)) fun (b1 : Int) => if b1 = 0 ∨ b1 = 1 then some b1 else none) (fun v => (v = 1 ∧ isW B n p w) ∨ (v = 0 ∧ ¬ isW B n p w)) := by
    rintro j rfl hn
    refine wp_bind.mpr (wpo_mono (P := fun v => v = 0) ?_ (fun v hv => by subst hv; exact wp_pos (Or.inl rfl) (wpo_of (Or.inr ⟨rfl, hn⟩))))
    refine wp_loop (I := fun t => t.1 = 0) (mu := fun _ => 0) ?_ FU _ rfl (by unfold FU; omega)
    rintro ⟨v, k⟩ hv
    dsimp only at hv ⊢
    subst hv
    by_cases c : w32 k < w32 ((lenS.getD w 0 : Nat) : Int)
    · exact wp_pos c (wp_pos (by decide) (wpo_of rfl))
    · exact wp_neg c (wpo_of rfl)
  by_cases d1 : tkd B n p = 1
  · by_cases d2 : ten B n p = tst B n p + lw w
    · refine wp_then (a := 1) (wp_is (wp_neg (by decide) (wp_pos (by rw [r2, d1]) (wp_pos ?_ (wpo_of rfl))))) ?_
      · rw [r4, r3, elw]
        congr 1
        omega
      · refine wp_bind.mpr (wpo_mono (P := fun v => (v = 1 ∧ isW B n p w) ∨ (v = 0 ∧ ¬ isW B n p w)) ?_ (fun v hv => by rcases hv with ⟨rfl, h⟩ | ⟨rfl, h⟩; exact wp_pos (Or.inr rfl) (wpo_of (Or.inl ⟨rfl, h⟩)); exact wp_pos (Or.inl rfl) (wpo_of (Or.inr ⟨rfl, h⟩))))
        refine wp_for (I := fun k t => t.2 = (k : Int) ∧ ((t.1 = 1 ∧ ∀ i, i < k → B (tst B n p + i) = chS w i) ∨ (t.1 = 0 ∧ ¬ isW B n p w))) (lw w) ?_ ?_ FU 0 _ ⟨rfl, Or.inl ⟨rfl, fun i hi => absurd hi (Nat.not_lt_zero _)⟩⟩ (Nat.zero_le _) (by unfold FU; omega)
        · rintro k ⟨v, k'⟩ hkk ⟨e1, e2⟩
          dsimp only at e1 e2 ⊢
          subst e1
          have hch := ch_bd w hw k hkk
          have hB := (t3 (tst B n p + k)).2
          have et : ((tst B n p : Int) + (k : Int)).toNat = tst B n p + k := by omega
          refine wp_pos (by rw [elw]; exact (lt32 (by omega) (by omega)).mpr (by omega)) ?_
          rcases e2 with ⟨rfl, hno⟩ | ⟨rfl, hno⟩
          · refine wp_neg (by decide) (wp_pos (by rw [r3]; omega) (wp_pos (by rw [elw]; omega) ?_))
            by_cases c : B (tst B n p + k) = chS w k
            · refine wp_then (a := 1) (if_pos (by rw [r3, et, (t3 _).1, Int.toNat_natCast, c])) (wpo_of ⟨by dsimp only; omega, Or.inl ⟨rfl, fun i hi => ?_⟩⟩)
              by_cases e : i = k
              · rw [e]
                exact c
              · exact hno i (by omega)
            · refine wp_then (a := 0) (if_neg (fun z => c ?_)) (wpo_of ⟨by dsimp only; omega, Or.inr ⟨rfl, fun z => c (z.2.2 k hkk)⟩⟩)
              rw [r3, et, (t3 _).1, Int.toNat_natCast] at z
              exact (eq32 (by omega) (by omega)).mp z
          · exact wp_pos (by decide) (wpo_of (Or.inr ⟨rfl, hno⟩))
        · rintro ⟨v, k'⟩ ⟨e1, e2⟩
          dsimp only at e1 e2 ⊢
          subst e1
          refine wp_neg (by rw [elw]; exact fun z => absurd ((lt32 (by omega) (by omega)).mp z) (by omega)) (wpo_of ?_)
          rcases e2 with ⟨rfl, hno⟩ | ⟨rfl, hno⟩
          · exact Or.inl ⟨rfl, d1, d2, hno⟩
          · exact Or.inr ⟨rfl, hno⟩
    · refine wp_then (a := 0) (wp_is (wp_neg (by decide) (wp_pos (by rw [r2, d1]) (wp_neg (fun z => d2 ?_) (wpo_of rfl))))) (e0 0 rfl (fun z => d2 z.2.1))
      rw [r4, r3, elw] at z
      have := (eq32 (by omega) (by omega)).mp z
      omega
  · exact wp_then (a := 0) (wp_is (wp_neg (by decide) (wp_neg (by rw [r2]; exact fun z => d1 ((eq32 (by omega) (by omega)).mp z)) (wpo_of rfl)))) (e0 0 rfl (fun z => d1 z.1))
theorem R10.adv {M M' : Mem} {B : Nat → Int} {n p : Nat} (hR : R10 M B n p) (h : TA M M' B n (ten B n p)) : R10 M' B n (ten B n p) ∧ F10 M M' := by
  obtain ⟨r0, r1, r2, r3, r4, r5, r6⟩ := hR
  obtain ⟨a1, a2, a3, a4, a5⟩ := h
  exact ⟨⟨r0.congr (fun c i h => a1 c i (by omega)), (a1 117 12 (by omega)).trans r1, a2, a3, a4, a5, (a1 117 13 (by omega)).trans r6⟩, fun c i h => a1 c i (by omega)⟩
theorem sp_adv {M : Mem} {B : Nat → Int} {n p : Nat} (hp : p ≤ n) (hR : R10 M B n p) : wpo (f10_advance M) (fun M' => R10 M' B n (ten B n p) ∧ F10 M M') :=
  wpo_mono (sp_advance hR.1 (ten_bd hp).2 hR.2.2.2.2.1) (fun _ h => hR.adv h)
/-- a word that is due -/
theorem sp_needs1 {M : Mem} {B : Nat → Int} {n p w : Nat} (hp : p ≤ n) (hR : R10 M B n p) (hw : w < 13) : wpo (f10_needs M w) (fun M' => F10 M M' ∧ ((isW B n p w ∧ R10 M' B n (ten B n p)) ∨ (¬ isW B n p w ∧ N10 M' 1 (tst B n p)))) := by
  unfold f10_needs
  refine wp_bind.mpr (wpo_mono (sp_is1 hp hR hw) ?_)
  rintro v (⟨rfl, h⟩ | ⟨rfl, h⟩)
  · refine wp_then (a := M) (if_neg (by decide)) (wp_neg (by decide) ?_)
    exact wp_bind.mpr (wpo_mono (sp_adv hp hR) (fun M' h' => wpo_of ⟨h'.2, Or.inl ⟨h, h'.1⟩⟩))
  · obtain ⟨o1, o2⟩ := N10.of hR (f := 1) (by decide)
    refine wp_then (wp_is (wp_pos (by decide) (wp_then (sp_errs0 hR.2.1) (wpo_of rfl)))) (wp_pos (by decide) (wpo_of ⟨o2, Or.inr ⟨h, o1⟩⟩))
theorem sp_needs0 {M : Mem} {f : Int} {pl w : Nat} (h : N10 M f pl) (hw : w < 13) : f10_needs M w = some M := by
  refine wp_is ?_
  unfold f10_needs
  refine wp_then (sp_is0 h hw) (wp_then (wp_is (wp_pos (by decide) (wp_then (sp_errs1 h) (wpo_of rfl)))) (wp_pos (by decide) (wpo_of rfl)))
/-- a field that is due: it is there, or a fault -/
def FldOK (B : Nat → Int) (n p w : Nat) (lo hi v : Int) (q : Nat) : Prop := isW B n p w ∧ tkd B n (ten B n p) = 2 ∧ v = tvl B n (ten B n p) ∧ (lo ≤ v ∧ v ≤ hi) ∧ q = ten B n (ten B n p)
def FldNo (B : Nat → Int) (n p w : Nat) (lo hi f : Int) (pl : Nat) : Prop := (¬ isW B n p w ∧ f = 1 ∧ pl = tst B n p) ∨ (isW B n p w ∧ tkd B n (ten B n p) ≠ 2 ∧ f = 1 ∧ pl = tst B n (ten B n p)) ∨ (isW B n p w ∧ tkd B n (ten B n p) = 2 ∧ ¬ (lo ≤ tvl B n (ten B n p) ∧ tvl B n (ten B n p) ≤ hi) ∧ f = 2 ∧ pl = tst B n (ten B n p))
theorem sp_told1 {M : Mem} {B : Nat → Int} {n p w : Nat} {lo hi : Int} (hp : p ≤ n) (hR : R10 M B n p) (hw : w < 13) (hl : 0 ≤ lo ∧ lo ≤ 99) (hh : 0 ≤ hi ∧ hi ≤ 99) : wpo (f10_told M w lo hi) (fun r => F10 M r.2 ∧ ((∃ q, FldOK B n p w lo hi r.1 q ∧ R10 r.2 B n q) ∨ ∃ f pl, FldNo B n p w lo hi f pl ∧ N10 r.2 f pl)) := by
  have hen := ten_bd (B := B) hp
  have hk := tkd_bd (B := B) (n := n) (p := ten B n p)
  have wl : w32 lo = lo := w32_id (by omega)
  have wh : w32 hi = hi := w32_id (by omega)
  unfold f10_told
  refine wp_bind.mpr (wpo_mono (sp_needs1 hp hR hw) ?_)
  rintro M1 ⟨f1, ⟨d1, r1⟩ | ⟨d1, r1⟩⟩
  · refine wp_then (sp_good0 r1.2.1) ?_
    by_cases d2 : tkd B n (ten B n p) = 2
    · obtain ⟨g1, g2⟩ := dig_all hen.2 d2
      have hv0 : 0 ≤ tvl B n (ten B n p) := vl_nn (fun i h1 h2 => g2 i h1 (by omega))
      have e11 := r1.2.2.2.2.2.1 d2
      refine wp_then (a := M1) (wp_is (wp_neg (by decide) (wp_pos (by rw [r1.2.2.1, d2]) (wpo_of rfl)))) ?_
      refine wp_then (sp_good0 r1.2.1) ?_
      have hin : f10_in M1 (w32 (M1 117 11)) (w32 lo) (w32 hi) = some (if lo ≤ tvl B n (ten B n p) ∧ tvl B n (ten B n p) ≤ hi then 1 else 0) := by
        rw [e11, wl, wh, w32_id (by omega), sp_in (by omega) (by omega) (by omega)]
        by_cases c : lo ≤ tvl B n (ten B n p) ∧ tvl B n (ten B n p) ≤ hi
        · rw [if_pos c, if_pos (by omega)]
        · rw [if_neg c, if_neg (by omega)]
      by_cases d3 : lo ≤ tvl B n (ten B n p) ∧ tvl B n (ten B n p) ≤ hi
      · refine wp_then (a := M1) (wp_is (wp_neg (by decide) (wp_then hin (wp_neg (fun z => if01.mp z d3) (wpo_of rfl))))) ?_
        refine wp_then (sp_good0 r1.2.1) (wp_neg (by decide) ?_)
        refine wp_bind.mpr (wpo_mono (sp_adv hen.2 r1) ?_)
        rintro M2 ⟨s1, s2⟩
        refine wpo_of ⟨f1.tr s2, Or.inl ⟨_, ⟨d1, d2, ?_, ?_, rfl⟩, s1⟩⟩
        · dsimp only
          rw [e11]
          omega
        · dsimp only
          rw [e11]
          omega
      · obtain ⟨o1, o2⟩ := N10.of r1 (f := 2) (by decide)
        refine wp_then (wp_is (wp_neg (by decide) (wp_then hin (wp_pos (if01.mpr d3) (wp_then (sp_errs0 r1.2.1) (wpo_of rfl)))))) ?_
        exact wp_then (sp_good1 o1) (wp_pos (by decide) (wpo_of ⟨f1.tr o2, Or.inr ⟨2, _, Or.inr (Or.inr ⟨d1, d2, d3, rfl, rfl⟩), o1⟩⟩))
    · obtain ⟨o1, o2⟩ := N10.of r1 (f := 1) (by decide)
      refine wp_then (wp_is (wp_neg (by decide) (wp_neg (by rw [r1.2.2.1]; exact fun z => d2 ((eq32 (by omega) (by omega)).mp z)) (wp_then (sp_errs0 r1.2.1) (wpo_of rfl))))) ?_
      refine wp_then (sp_good1 o1) (wp_then (if_pos (by decide)) ?_)
      exact wp_then (sp_good1 o1) (wp_pos (by decide) (wpo_of ⟨f1.tr o2, Or.inr ⟨1, _, Or.inr (Or.inl ⟨d1, d2, rfl, rfl⟩), o1⟩⟩))
  · refine wp_then (sp_good1 r1) (wp_then (if_pos (by decide)) (wp_then (sp_good1 r1) (wp_then (if_pos (by decide)) ?_)))
    exact wp_then (sp_good1 r1) (wp_pos (by decide) (wpo_of ⟨f1, Or.inr ⟨1, _, Or.inl ⟨d1, rfl, rfl⟩, r1⟩⟩))
theorem sp_told0 {M : Mem} {f lo hi : Int} {pl w : Nat} (h : N10 M f pl) (hw : w < 13) : f10_told M w lo hi = some (0, M) := by
  refine wp_is ?_
  unfold f10_told
  refine wp_then (sp_needs0 h hw) (wp_then (sp_good1 h) (wp_then (if_pos (by decide)) (wp_then (sp_good1 h) (wp_then (if_pos (by decide)) ?_))))
  exact wp_then (sp_good1 h) (wp_pos (by decide) (wpo_of rfl))
