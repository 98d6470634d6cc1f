/-! PLANS: the reference, from the last night back (by hand) -/
def fmk (fx F : Nat → Int) (P k : Nat) : Nat := nset (fun p => decide (F p ≤ (k : Int) ∧ (fx p = -2 ∨ fx p = (k : Int)))) P
def mmk (fx : Nat → Int) (P k : Nat) : Nat := nset (fun p => decide (fx p = (k : Int))) P
theorem fmk_bit {fx F : Nat → Int} {P k p : Nat} : (fmk fx F P k).testBit p = true ↔ p < P ∧ F p ≤ (k : Int) ∧ (fx p = -2 ∨ fx p = (k : Int)) := by
  unfold fmk
  rw [nset_bit, Bool.and_eq_true, decide_eq_true_eq, decide_eq_true_eq]
theorem mmk_bit {fx : Nat → Int} {P k p : Nat} : (mmk fx P k).testBit p = true ↔ p < P ∧ fx p = (k : Int) := by
  unfold mmk
  rw [nset_bit, Bool.and_eq_true, decide_eq_true_eq, decide_eq_true_eq]
theorem fmk_cm {fx F : Nat → Int} {P k : Nat} : Sub (fmk fx F P k) (cm F P k) := fun p hp => by
  have := fmk_bit.mp hp
  exact cm_bit.mpr ⟨this.1, this.2.1⟩
theorem or_step {f : Nat → Bool} {n : Nat} {v : Int} (hn : n < 12) (hv : v = if f n = true then shl32 1 (n : Int) else 0) : or32 (nset f n : Int) v = ((nset f (n + 1) : Nat) : Int) := by
  rw [hv]
  exact or_next hn
def WF (M M' : Mem) : Prop := ∀ c i, (c ≠ 117 ∨ i < 34 ∨ 36 < i) → M' c i = M c i
theorem sp_layWho {M : Mem} {fx F : Nat → Int} {P k : Nat} (hP : P ≤ 8) (hk : k ≤ 12) (h7 : M 118 7 = (P : Int)) (hF : ∀ p, p < P → 0 ≤ F p ∧ F p ≤ 100) (hx : ∀ p, p < P → -2 ≤ fx p ∧ fx p ≤ 20) (hM : ∀ p, p < P → M 125 p = F p ∧ M 137 p = fx p) : wpo (f10_layWho M (k : Int)) (fun M' => WF M M' ∧ M' 117 34 = (cm F P k : Int) ∧ M' 117 35 = (fmk fx F P k : Int) ∧ M' 117 36 = (mmk fx P k : Int)) := by
  unfold f10_layWho
  refine wp_then rfl (wp_then rfl (wp_then rfl ?_))
  refine wp_bind.mpr (wpo_mono (P := fun M' => WF M M' ∧ M' 117 34 = (cm F P k : Int) ∧ M' 117 35 = (fmk fx F P k : Int) ∧ M' 117 36 = (mmk fx P k : Int)) ?_ (fun M' h => wpo_of h))
  refine wp_for (I := fun p t => t.1 = (p : Int) ∧ WF M t.2 ∧ t.2 117 34 = (cm F p k : Int) ∧ t.2 117 35 = (fmk fx F p k : Int) ∧ t.2 117 36 = (mmk fx p k : Int)) P ?_ ?_ FU 0 _ ⟨rfl, fun c i h => ?_, ?_, ?_, ?_⟩ (Nat.zero_le _) (by unfold FU; omega)
  · rintro p ⟨p', S⟩ hp ⟨e1, e2, e3, e4, e5⟩
    dsimp only at e1 e2 e3 e4 e5 ⊢
    subst e1
    obtain ⟨m1, m2⟩ := hM p hp
    have hFp := hF p hp
    have hxp := hx p hp
    have s7 : S 118 7 = (P : Int) := (e2 118 7 (by omega)).trans h7
    have s125 : S 125 p = F p := (e2 125 p (by omega)).trans m1
    have s137 : S 137 p = fx p := (e2 137 p (by omega)).trans m2
    refine wp_pos (by rw [s7]; exact (lt32 (by omega) (by omega)).mpr (by omega)) (wp_pos (by omega) ?_)
    rw [Int.toNat_natCast]
    refine wp_then (a := if decide (F p ≤ (k : Int)) = true then shl32 1 (p : Int) else 0) ?_ ?_
    · by_cases c : (k : Int) < F p
      · rw [if_pos (by rw [s125]; exact (lt32 (by omega) (by omega)).mpr c), decide_eq_false (by omega)]; rfl
      · rw [if_neg (by rw [s125]; exact fun z => c ((lt32 (by omega) (by omega)).mp z)), decide_eq_true (by omega)]; rfl
    refine wp_then rfl ?_
    generalize hD4 : mset S 117 34 (or32 (S 117 34) (if decide (F p ≤ (k : Int)) = true then shl32 1 (p : Int) else 0)) = D4
    have d4o : ∀ c i, (c ≠ 117 ∨ i ≠ 34) → D4 c i = S c i := fun c i h => by rw [← hD4, ms_at, if_neg (by omega)]
    have d125 : D4 125 p = F p := (d4o 125 p (by omega)).trans s125
    have d137 : D4 137 p = fx p := (d4o 137 p (by omega)).trans s137
    refine wp_then (a := if decide (F p ≤ (k : Int) ∧ (fx p = -2 ∨ fx p = (k : Int))) = true then shl32 1 (p : Int) else 0) (wp_is ?_) ?_
    · by_cases c : (k : Int) < F p
      · exact wp_pos (by rw [d125]; exact (lt32 (by omega) (by omega)).mpr c) (wpo_of (by rw [decide_eq_false (fun z => by have := z.1; omega)]; rfl))
      · refine wp_neg (by rw [d125]; exact fun z => c ((lt32 (by omega) (by omega)).mp z)) ?_
        by_cases c2 : fx p = -2
        · exact wp_pos (by rw [d137, c2]) (wpo_of (by rw [decide_eq_true ⟨by omega, Or.inl c2⟩]; rfl))
        · refine wp_neg (by rw [d137]; exact fun z => c2 ((eq32 (by omega) (by omega)).mp z)) ?_
          by_cases c3 : fx p = (k : Int)
          · exact wp_pos (by rw [d137, c3]) (wpo_of (by rw [decide_eq_true ⟨by omega, Or.inr c3⟩]; rfl))
          · exact wp_neg (by rw [d137]; exact fun z => c3 ((eq32 (by omega) (by omega)).mp z)) (wpo_of (by rw [decide_eq_false (fun z => z.2.elim c2 c3)]; rfl))
    refine wp_then rfl ?_
    generalize hD5 : mset D4 117 35 (or32 (D4 117 35) (if decide (F p ≤ (k : Int) ∧ (fx p = -2 ∨ fx p = (k : Int))) = true then shl32 1 (p : Int) else 0)) = D5
    have d5o : ∀ c i, (c ≠ 117 ∨ i ≠ 35) → D5 c i = D4 c i := fun c i h => by rw [← hD5, ms_at, if_neg (by omega)]
    have f137 : D5 137 p = fx p := (d5o 137 p (by omega)).trans d137
    refine wp_then (a := if decide (fx p = (k : Int)) = true then shl32 1 (p : Int) else 0) (wp_is ?_) (wpo_of ⟨by dsimp only; omega, fun c i h => ?_, ?_, ?_, ?_⟩)
    · by_cases c3 : fx p = (k : Int)
      · exact wp_pos (by rw [f137, c3]) (wpo_of (by rw [decide_eq_true c3]; rfl))
      · exact wp_neg (by rw [f137]; exact fun z => c3 ((eq32 (by omega) (by omega)).mp z)) (wpo_of (by rw [decide_eq_false c3]; rfl))
    · dsimp only
      rw [ms_at, if_neg (by omega), d5o c i (by omega), d4o c i (by omega)]
      exact e2 c i h
    · dsimp only
      rw [ms_ni (by decide), d5o 117 34 (by omega), ← hD4, ms_same, e3]
      exact or_step (f := fun p => decide (F p ≤ (k : Int))) (by omega) rfl
    · dsimp only
      rw [ms_ni (by decide), ← hD5, ms_same, d4o 117 35 (by omega), e4]
      exact or_step (f := fun p => decide (F p ≤ (k : Int) ∧ (fx p = -2 ∨ fx p = (k : Int)))) (by omega) rfl
    · dsimp only
      rw [ms_same, d5o 117 36 (by omega), d4o 117 36 (by omega), e5]
      exact or_step (f := fun p => decide (fx p = (k : Int))) (by omega) rfl
  · rintro ⟨p', S⟩ ⟨e1, e2, e3, e4, e5⟩
    dsimp only at e1 e2 e3 e4 e5 ⊢
    subst e1
    have s7 : S 118 7 = (P : Int) := (e2 118 7 (by omega)).trans h7
    exact wp_neg (by rw [s7]; exact fun z => absurd ((lt32 (by omega) (by omega)).mp z) (by omega)) (wpo_of ⟨e2, e3, e4, e5⟩)
  · dsimp only
    rw [ms_at, if_neg (by omega), ms_at, if_neg (by omega), ms_at, if_neg (by omega)]
  · dsimp only
    rw [ms_ni (by decide), ms_ni (by decide), ms_same]
    rfl
  · dsimp only
    rw [ms_ni (by decide), ms_same]
    rfl
  · dsimp only
    rw [ms_same]
    rfl
/-- a worth and a count of the reference's -/
def TBp (hi v c : Int) (Z : Int → Int) : Prop := (v = 1000000000 ∧ c = 0 ∧ ∀ b, Z b = 0) ∨ ((0 ≤ v ∧ v ≤ hi) ∧ c = Z v ∧ 0 < c ∧ ∀ b, b < v → Z b = 0)
theorem TBp.congr {hi v c : Int} {Z Z' : Int → Int} (h : TBp hi v c Z) (e : ∀ b, Z' b = Z b) : TBp hi v c Z' := by
  rcases h with ⟨a, b, d⟩ | ⟨a, b, d, f⟩
  · exact Or.inl ⟨a, b, fun x => (e x).trans (d x)⟩
  · exact Or.inr ⟨a, b.trans (e v).symm, d, fun x hx => (e x).trans (f x hx)⟩
theorem TBp.bd {hi v c : Int} {Z : Int → Int} (h : TBp hi v c Z) (hh : hi ≤ 1000000000) : 0 ≤ v ∧ v ≤ 1000000000 := by
  rcases h with ⟨a, b, d⟩ | ⟨a, b, d, f⟩ <;> omega
theorem TBp.add {hi v c v2 c2 : Int} {Z Z2 : Int → Int} (h : TBp hi v c Z) (hh : hi < 1000000000) (h1 : 0 ≤ v2 ∧ v2 ≤ hi) (h2 : c2 = Z2 v2) (h3 : 0 < c2) (h4 : ∀ b, b < v2 → Z2 b = 0) : TBp hi (min v v2) ((if v2 < v then 0 else c) + (if v2 = min v v2 then c2 else 0)) (fun b => Z b + Z2 b) := by
  rcases h with ⟨a, b, d⟩ | ⟨a, b, d, f⟩
  · rw [show min v v2 = v2 by omega, if_pos (by omega), if_pos rfl]
    exact Or.inr ⟨h1, by dsimp only; rw [d, h2], by omega, fun x hx => by dsimp only; rw [d, h4 x hx]; rfl⟩
  · by_cases c1 : v2 < v
    · rw [show min v v2 = v2 by omega, if_pos c1, if_pos rfl]
      exact Or.inr ⟨h1, by dsimp only; rw [f v2 c1, h2], by omega, fun x hx => by dsimp only; rw [f x (by omega), h4 x hx]; rfl⟩
    · rw [show min v v2 = v by omega, if_neg c1]
      by_cases c2 : v2 = v
      · rw [if_pos c2]
        exact Or.inr ⟨a, by dsimp only; rw [b, h2, c2], by omega, fun x hx => by dsimp only; rw [f x hx, h4 x (by omega)]; rfl⟩
      · rw [if_neg c2]
        exact Or.inr ⟨a, by dsimp only; rw [b, h4 v (by omega)], by omega, fun x hx => by dsimp only; rw [f x hx, h4 x (by omega)]; rfl⟩
/-- how many ways there are from night k on that cost b more -/
def Zr (A Co F fx : Nat → Int) (P N : Nat) (R K : Int) (k s : Nat) (b : Int) : Int := Tot (okm A P R K (fmk fx F P) (mmk fx P)) (wk Co F P) (N - k) k (ind b) (s, 0, fun _ => 0)
theorem Zr_end {A Co F fx : Nat → Int} {P N : Nat} {R K : Int} {s : Nat} {b : Int} : Zr A Co F fx P N R K N s b = if b = 0 then 1 else 0 := by
  unfold Zr
  rw [Nat.sub_self]
  show ind b (s, 0, fun _ => 0) = _
  unfold ind
  dsimp only
  by_cases c : b = 0
  · rw [if_pos c, if_pos c.symm]
  · rw [if_neg c, if_neg (fun z => c z.symm)]
theorem Zr_step {A Co F fx : Nat → Int} {P N : Nat} {R K : Int} {k s : Nat} {b : Int} (hk : k < N) : Zr A Co F fx P N R K k s b = sumN (fun x => if okm A P R K (fmk fx F P) (mmk fx P) k s x = true then Zr A Co F fx P N R K (k + 1) (s ||| x) (b - wk Co F P k (s ||| x)) else 0) 256 := by
  unfold Zr
  rw [show N - k = (N - (k + 1)) + 1 by omega]
  show Bk _ _ k (Tot _ _ (N - (k + 1)) (k + 1) (ind b)) (s, 0, fun _ => 0) = _
  unfold Bk
  refine sumN_congr (fun x _ => ?_)
  by_cases c : okm A P R K (fmk fx F P) (mmk fx P) k s x = true
  · rw [if_pos c, if_pos c]
    unfold stp
    dsimp only
    rw [Tot_ind, show b - (0 + wk Co F P k (s ||| x)) = b - wk Co F P k (s ||| x) by omega]
  · rw [if_neg c, if_neg c]
