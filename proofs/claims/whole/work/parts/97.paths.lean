/-! PLANS: paths through the nights, and sums over them (by hand) -/
/-- who has been given, what the waiting has cost, who was given when (0: never, n + 1: in night n) -/
def put (g : Nat → Nat) (x v : Nat) : Nat → Nat := fun p => if x.testBit p = true then v else g p
def stp (w : Nat → Nat → Int) (k : Nat) (z : Nat × Int × (Nat → Nat)) (x : Nat) : Nat × Int × (Nat → Nat) := (z.1 ||| x, z.2.1 + w k (z.1 ||| x), put z.2.2 x (k + 1))
def Bk (ok : Nat → Nat → Nat → Bool) (w : Nat → Nat → Int) (k : Nat) (φ : Nat × Int × (Nat → Nat) → Int) : Nat × Int × (Nat → Nat) → Int := fun z => sumN (fun x => if ok k z.1 x = true then φ (stp w k z x) else 0) 256
/-- over all ways through m nights, from night k on -/
def Tot (ok : Nat → Nat → Nat → Bool) (w : Nat → Nat → Int) : Nat → Nat → (Nat × Int × (Nat → Nat) → Int) → Nat × Int × (Nat → Nat) → Int
  | 0, _, φ => φ
  | m + 1, k, φ => Bk ok w k (Tot ok w m (k + 1) φ)
def Rea (ok : Nat → Nat → Nat → Bool) (w : Nat → Nat → Int) : Nat → Nat → Nat × Int × (Nat → Nat) → Nat × Int × (Nat → Nat) → Prop
  | 0, _, z, z' => z' = z
  | m + 1, k, z, z' => ∃ x, x < 256 ∧ ok k z.1 x = true ∧ Rea ok w m (k + 1) (stp w k z x) z'
theorem Bk_congr {ok : Nat → Nat → Nat → Bool} {w : Nat → Nat → Int} {k : Nat} {φ ψ : Nat × Int × (Nat → Nat) → Int} {z : Nat × Int × (Nat → Nat)} (h : ∀ x, x < 256 → ok k z.1 x = true → φ (stp w k z x) = ψ (stp w k z x)) : Bk ok w k φ z = Bk ok w k ψ z := by
  unfold Bk
  refine sumN_congr (fun x hx => ?_)
  by_cases c : ok k z.1 x = true
  · rw [if_pos c, if_pos c, h x hx c]
  · rw [if_neg c, if_neg c]
theorem Tot_snoc {ok : Nat → Nat → Nat → Bool} {w : Nat → Nat → Int} : ∀ (m k : Nat) (φ : Nat × Int × (Nat → Nat) → Int), Tot ok w (m + 1) k φ = Tot ok w m k (Bk ok w (k + m) φ) := by
  intro m
  induction m with
  | zero => intro k φ; rfl
  | succ m ih =>
    intro k φ
    have h := ih (k + 1) φ
    rw [show k + 1 + m = k + (m + 1) by omega] at h
    show Bk ok w k (Tot ok w (m + 1) (k + 1) φ) = Bk ok w k (Tot ok w m (k + 1) (Bk ok w (k + (m + 1)) φ))
    rw [h]
theorem Rea_snoc {ok : Nat → Nat → Nat → Bool} {w : Nat → Nat → Int} : ∀ (m k : Nat) (z z2 : Nat × Int × (Nat → Nat)), Rea ok w (m + 1) k z z2 ↔ ∃ z1 x, Rea ok w m k z z1 ∧ x < 256 ∧ ok (k + m) z1.1 x = true ∧ z2 = stp w (k + m) z1 x := by
  intro m
  induction m with
  | zero =>
    intro k z z2
    constructor
    · rintro ⟨x, h1, h2, h3⟩
      exact ⟨z, x, rfl, h1, h2, h3⟩
    · rintro ⟨z1, x, h0, h1, h2, h3⟩
      rw [show z1 = z from h0] at h2 h3
      exact ⟨x, h1, h2, h3⟩
  | succ m ih =>
    intro k z z2
    constructor
    · rintro ⟨x, h1, h2, h3⟩
      obtain ⟨z1, y, i1, i2, i3, i4⟩ := (ih (k + 1) _ z2).mp h3
      rw [show k + 1 + m = k + (m + 1) by omega] at i3 i4
      exact ⟨z1, y, ⟨x, h1, h2, i1⟩, i2, i3, i4⟩
    · rintro ⟨z1, y, ⟨x, h1, h2, i1⟩, i2, i3, i4⟩
      refine ⟨x, h1, h2, (ih (k + 1) _ z2).mpr ⟨z1, y, i1, i2, ?_, ?_⟩⟩
      · rw [show k + 1 + m = k + (m + 1) by omega]; exact i3
      · rw [show k + 1 + m = k + (m + 1) by omega]; exact i4
theorem Tot_congr {ok : Nat → Nat → Nat → Bool} {w : Nat → Nat → Int} : ∀ (m k : Nat) (φ ψ : Nat × Int × (Nat → Nat) → Int) (z : Nat × Int × (Nat → Nat)), (∀ z', Rea ok w m k z z' → φ z' = ψ z') → Tot ok w m k φ z = Tot ok w m k ψ z := by
  intro m
  induction m with
  | zero => intro k φ ψ z h; exact h z rfl
  | succ m ih =>
    intro k φ ψ z h
    exact Bk_congr (fun x hx c => ih (k + 1) φ ψ _ (fun z' hz => h z' ⟨x, hx, c, hz⟩))
theorem Tot_zero {ok : Nat → Nat → Nat → Bool} {w : Nat → Nat → Int} : ∀ (m k : Nat) (z : Nat × Int × (Nat → Nat)), Tot ok w m k (fun _ => 0) z = 0 := by
  intro m
  induction m with
  | zero => intro k z; rfl
  | succ m ih =>
    intro k z
    have e : Bk ok w k (Tot ok w m (k + 1) (fun _ => 0)) z = Bk ok w k (fun _ => 0) z := Bk_congr (fun x _ _ => ih (k + 1) _)
    show Bk ok w k (Tot ok w m (k + 1) (fun _ => 0)) z = 0
    rw [e]
    unfold Bk
    rw [sumN_congr (g := fun _ => 0) (fun x _ => by split <;> rfl)]
    exact sumN_zero _
theorem Tot_none {ok : Nat → Nat → Nat → Bool} {w : Nat → Nat → Int} {m k : Nat} {φ : Nat × Int × (Nat → Nat) → Int} {z : Nat × Int × (Nat → Nat)} (h : ∀ z', Rea ok w m k z z' → φ z' = 0) : Tot ok w m k φ z = 0 := by
  rw [Tot_congr m k φ (fun _ => 0) z h, Tot_zero]
theorem Tot_pos {ok : Nat → Nat → Nat → Bool} {w : Nat → Nat → Int} : ∀ (m k : Nat) (φ : Nat × Int × (Nat → Nat) → Int) (z : Nat × Int × (Nat → Nat)), (∀ z', 0 ≤ φ z') → 0 ≤ Tot ok w m k φ z ∧ ∀ z', Rea ok w m k z z' → φ z' ≤ Tot ok w m k φ z := by
  intro m
  induction m with
  | zero =>
    intro k φ z h
    exact ⟨h z, fun z' e => by rw [show z' = z from e]; exact Int.le_refl _⟩
  | succ m ih =>
    intro k φ z h
    have hs := sumN_nn (f := fun x => if ok k z.1 x = true then Tot ok w m (k + 1) φ (stp w k z x) else 0) (n := 256) (fun x _ => by
      split
      · exact (ih (k + 1) φ _ h).1
      · exact Int.le_refl _)
    refine ⟨hs.1, ?_⟩
    rintro z' ⟨x, hx, c, hz⟩
    have h2 := hs.2 x hx
    rw [if_pos c] at h2
    exact Int.le_trans ((ih (k + 1) φ _ h).2 z' hz) h2
theorem Tot_add {ok : Nat → Nat → Nat → Bool} {w : Nat → Nat → Int} : ∀ (m k : Nat) (φ ψ : Nat × Int × (Nat → Nat) → Int) (z : Nat × Int × (Nat → Nat)), Tot ok w m k (fun z => φ z + ψ z) z = Tot ok w m k φ z + Tot ok w m k ψ z := by
  intro m
  induction m with
  | zero => intro k φ ψ z; rfl
  | succ m ih =>
    intro k φ ψ z
    show Bk ok w k (Tot ok w m (k + 1) (fun z => φ z + ψ z)) z = Bk ok w k (Tot ok w m (k + 1) φ) z + Bk ok w k (Tot ok w m (k + 1) ψ) z
    unfold Bk
    rw [← sumN_add]
    refine sumN_congr (fun x _ => ?_)
    by_cases c : ok k z.1 x = true
    · rw [if_pos c, if_pos c, if_pos c, ih]
    · rw [if_neg c, if_neg c, if_neg c]; rfl
theorem Tot_sum {ok : Nat → Nat → Nat → Bool} {w : Nat → Nat → Int} {m k : Nat} {φ : Nat → Nat × Int × (Nat → Nat) → Int} {z : Nat × Int × (Nat → Nat)} : ∀ n, Tot ok w m k (fun z => sumN (fun i => φ i z) n) z = sumN (fun i => Tot ok w m k (φ i) z) n := by
  intro n
  induction n with
  | zero => exact Tot_zero m k z
  | succ n ih =>
    rw [sumN, ← ih, ← Tot_add]
    rfl
/-- the ways that cost b -/
def ind (b : Int) : Nat × Int × (Nat → Nat) → Int := fun z => if z.2.1 = b then 1 else 0
theorem Tot_ind {ok : Nat → Nat → Nat → Bool} {w : Nat → Nat → Int} : ∀ (m k s : Nat) (a b : Int) (g : Nat → Nat), Tot ok w m k (ind b) (s, a, g) = Tot ok w m k (ind (b - a)) (s, 0, fun _ => 0) := by
  intro m
  induction m with
  | zero =>
    intro k s a b g
    show ind b (s, a, g) = ind (b - a) (s, 0, fun _ => 0)
    unfold ind
    dsimp only
    by_cases c : a = b
    · rw [if_pos c, if_pos (by omega)]
    · rw [if_neg c, if_neg (by omega)]
  | succ m ih =>
    intro k s a b g
    show Bk ok w k (Tot ok w m (k + 1) (ind b)) (s, a, g) = Bk ok w k (Tot ok w m (k + 1) (ind (b - a))) (s, 0, fun _ => 0)
    unfold Bk
    refine sumN_congr (fun x _ => ?_)
    by_cases c : ok k s x = true
    · rw [if_pos c, if_pos c]
      unfold stp
      dsimp only
      rw [ih (k + 1) _ (a + w k (s ||| x)), ih (k + 1) _ (0 + w k (s ||| x)), show b - (a + w k (s ||| x)) = b - a - (0 + w k (s ||| x)) by omega]
    · rw [if_neg c, if_neg c]
/-- one sum with one place that counts -/
theorem sumN_one {f : Nat → Int} {n x : Nat} (hx : x < n) (h : ∀ i, i < n → i ≠ x → f i = 0) : sumN f n = f x := by
  have := sumN_upd (f := f) (g := fun _ => 0) hx h
  rw [sumN_zero] at this
  omega
theorem sumN_off {f : Nat → Int} {n : Nat} (h : ∀ i, i < n → f i = 0) : sumN f n = 0 := by
  rw [sumN_congr (g := fun _ => 0) h, sumN_zero]
