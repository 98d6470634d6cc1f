/-! BACK; FEED, END, FAULT (by hand) -/
theorem ag_back {D : Mem} {x : Int} (hI : IC D) (hJ : II D) (hx : A32 x) : AGn D (f9_back D x) (fun M => f10_back M x) := by
  have hx' := hx
  unfold A32 at hx'
  have hin : ∀ M : Mem, f10_in M (w32 x) 0 2 = some (if 0 ≤ x ∧ x ≤ 2 then 1 else 0) := fun M => by
    rw [w32_id hx']
    exact sp_in (by omega) (by omega) (by omega)
  unfold AGn f9_back f10_back
  refine wp_then (sp_isImage hx) ?_
  by_cases c : 0 ≤ x ∧ x ≤ 2
  · obtain ⟨k, rfl⟩ : ∃ k : Nat, x = (k : Int) := ⟨x.toNat, by omega⟩
    refine wp_neg (fun z => if01.mp z c) (wp_pos (by omega) ?_)
    rw [Int.toNat_natCast]
    rcases hJ k (by omega) with ⟨h1, h2⟩ | ⟨h1, h2, h3, h4⟩
    · exact wp_pos (by rw [h1]; rfl) (wpo_of (wp_then (hin _) (wp_neg (fun z => if01.mp z c) (wp_pos (by omega) (wp_pos (show w32 (D 120 k) = 0 by rw [h2]; rfl) (wpo_of ⟨rfl, Or.inl SK.rf⟩))))))
    · refine wp_neg (by rw [h1]; decide) ?_
      refine wp_bind.mpr (wpo_mono (sp_become (D := D) (r := 12) (s := 85 + 8 * k) (by omega)) ?_)
      rintro M1 ⟨m0, m1, m2, m3⟩
      have hP1 : PR M1 12 (Wi D k) := PR.become h3 h4 m1 m2 m3
      have e : ∀ i, i < 72 → (fun i => if i < 72 then D 119 (72 * k + i) else D 118 i : Nat → Int) i = Wi D k i := fun i hi => if_pos hi
      have hW' := h3.congr e
      have hP' := hP1.wcongr h3 e
      refine wp_bind.mpr (wpo_mono (sp_changed hW' hP') ?_)
      rintro M ⟨c1, c2, c3, c4, c5⟩
      refine wpo_of (wp_then (hin _) (wp_neg (fun z => if01.mp z c) (wp_pos (by omega) ?_)))
      dsimp only
      have r2 : ∀ c i, (c < 12 ∨ (19 < c ∧ c < 23) ∨ (35 < c ∧ c ≠ 49 ∧ c ≠ 58 ∧ c ≠ 64)) → M c i = D c i := fun c i h => by
        rw [c1 c i (by omega) (by omega)]
        exact m0 c i (by omega)
      refine wp_neg (by rw [r2 120 _ (by omega), h2]; decide) ?_
      refine wp_bind.mpr (wpo_mono (P := fun B => (∀ c i, c ≠ 118 → B c i = M c i) ∧ B 118 = fun i => if i < 72 then D 119 (72 * k + i) else D 118 i) ?_ ?_)
      · refine wp_for (I := fun j t => t.1 = (j : Int) ∧ (∀ c i, c ≠ 118 → t.2 c i = M c i) ∧ ∀ i, t.2 118 i = if i < j then D 119 (72 * k + i) else D 118 i) 72 ?_ ?_ FU 0 _ ⟨rfl, fun _ _ _ => rfl, fun i => ?_⟩ (Nat.zero_le _) (by unfold FU; omega)
        · rintro j ⟨t1, N⟩ hj ⟨e1, e2, e3⟩
          dsimp only at e1 e2 e3 ⊢
          subst e1
          have et : (72 * (k : Int) + (j : Int)).toNat = 72 * k + j := by omega
          refine wp_pos ((lt32 (by omega) (by omega)).mpr (by omega)) (wp_pos (by omega) (wp_pos (by omega) (wpo_of ⟨by dsimp only; omega, fun c i h => ?_, fun i => ?_⟩)))
          · dsimp only
            rw [ms_ne h]
            exact e2 c i h
          · dsimp only
            rw [et, Int.toNat_natCast]
            by_cases h : i = j
            · rw [h, ms_same, e2 119 _ (by decide), r2 119 _ (by omega), if_pos (Nat.lt_succ_self j)]
            · rw [ms_ni h, e3 i]
              by_cases h2 : i < j
              · rw [if_pos h2, if_pos (by omega)]
              · rw [if_neg h2, if_neg (by omega)]
        · rintro ⟨t1, N⟩ ⟨e1, e2, e3⟩
          dsimp only at e1 e2 e3 ⊢
          subst e1
          exact wp_neg (fun z => absurd ((lt32 (by omega) (by omega)).mp z) (by omega)) (wpo_of ⟨e2, funext e3⟩)
        · dsimp only
          rw [if_neg (Nat.not_lt_zero _), r2 118 i (by omega)]
      · rintro B ⟨b1, b2⟩
        exact wpo_of ⟨rfl, Or.inr (NewP.of hW' r2 (hP'.congr (fun c i h1 h2 => c1 c i (by omega) (by omega))) c2 c3 c4 c5 b2 (fun c' i a b => b1 c' i b))⟩
  · exact wp_pos (if01.mpr c) (wpo_of (wp_then (hin _) (wp_pos (if01.mpr c) (wpo_of ⟨rfl, Or.inl SK.rf⟩))))
/-- the tape, and the latest fault, on both sides -/
def IT (D : Mem) : Prop := (D 1 1 = D 117 5 ∧ 0 ≤ D 117 5 ∧ D 117 5 ≤ 700) ∧ (∀ i, D 2 i = D 121 i ∧ -128 ≤ D 121 i ∧ D 121 i ≤ 127) ∧ D 3 2 = D 117 12 ∧ D 3 3 = D 117 13
def TF (D M : Mem) : Prop := ∀ c i, c ≠ 2 → (c ≠ 1 ∨ i ≠ 1) → c ≠ 121 → c ≠ 122 → (c ≠ 117 ∨ i ≠ 5) → M c i = D c i
theorem TF.rf {D : Mem} : TF D D := fun _ _ _ _ _ _ _ => rfl
theorem w8_bd (x : Int) : -128 ≤ w8 x ∧ w8 x ≤ 127 := by
  rw [w8, Int8.toInt_toInt32, Int32.toInt_toInt8, Int.bmod_def]
  omega
/-- the bytes of five numbers -/
def bvF (F : Nat → Int) (k : Nat) : Int := w8 (w8 (shr32 (F (k / 4)) (24 - 8 * ((k % 4 : Nat) : Int))))
theorem sp_add {D M : Mem} {n a : Nat} {F : Nat → Int} {p : Int} (hF : F a = p) (h1 : M 1 1 = ((n + 4 * a : Nat) : Int)) (hl : n + 4 * a + 4 ≤ 700) (h2 : ∀ i, M 2 i = if n ≤ i ∧ i < n + 4 * a then bvF F (i - n) else D 2 i) : wpo (f7_add M p) (fun M' => M' 1 1 = ((n + 4 * (a + 1) : Nat) : Int) ∧ (∀ i, M' 2 i = if n ≤ i ∧ i < n + 4 * (a + 1) then bvF F (i - n) else D 2 i) ∧ ∀ c i, c ≠ 2 → (c ≠ 1 ∨ i ≠ 1) → M' c i = M c i) := by
  unfold f7_add
  refine wp_bind.mpr ?_
  simp only [wp_some]
  refine wp_for (I := fun j t => t.1 = 24 - 8 * (j : Int) ∧ t.2 1 1 = ((n + 4 * a + j : Nat) : Int) ∧ (∀ i, t.2 2 i = if n ≤ i ∧ i < n + 4 * a + j then bvF F (i - n) else D 2 i) ∧ ∀ c i, c ≠ 2 → (c ≠ 1 ∨ i ≠ 1) → t.2 c i = M c i) 4 ?_ ?_ FU 0 _ ⟨rfl, h1, h2, fun _ _ _ _ => rfl⟩ (Nat.zero_le _) (by unfold FU; omega)
  · rintro j ⟨t1, N⟩ hj ⟨e1, e2, e3, e4⟩
    dsimp only at e1 e2 e3 e4 ⊢
    subst e1
    refine wp_neg (by rw [w32_id (by omega)]; omega) (wp_pos (by rw [e2]; exact (lt32 (by omega) (by omega)).mpr (by omega)) (wp_pos (by omega) (wp_then rfl (wpo_of ?_))))
    rw [ms_ne (show 1 ≠ 2 by decide), e2, Int.toNat_natCast]
    refine ⟨by dsimp only; omega, ?_, fun i => ?_, fun c i h h' => ?_⟩
    · dsimp only
      rw [ms_same]
      omega
    · dsimp only
      rw [ms_ne (by decide)]
      by_cases h : i = n + 4 * a + j
      · rw [h, ms_same, if_pos (by omega)]
        have q1 : (n + 4 * a + j - n) / 4 = a := by omega
        have q2 : (n + 4 * a + j - n) % 4 = j := by omega
        unfold bvF
        rw [q1, q2, hF]
      · rw [ms_ni h, e3 i]
        by_cases h2 : n ≤ i ∧ i < n + 4 * a + j
        · rw [if_pos h2, if_pos (by omega)]
        · rw [if_neg h2, if_neg (by omega)]
    · dsimp only
      rcases h' with h' | h'
      · rw [ms_ne h', ms_ne h]
        exact e4 c i h (Or.inl h')
      · rw [ms_ni h', ms_ne h]
        exact e4 c i h (Or.inr h')
  · rintro ⟨t1, N⟩ ⟨e1, e2, e3, e4⟩
    dsimp only at e1 e2 e3 e4 ⊢
    subst e1
    exact wp_pos (by decide) (wpo_of ⟨e2, e3, e4⟩)
def f5 (p0 p1 p2 p3 p4 : Int) : Nat → Int := fun k => match k with
  | 0 => p0
  | 1 => p1
  | 2 => p2
  | 3 => p3
  | _ => p4
theorem ag_feed {D : Mem} {p0 p1 p2 p3 p4 : Int} (hT : IT D) : wpo (f9_feed D p0 p1 p2 p3 p4) (fun a => wpo (f10_feed a.2 p0 p1 p2 p3 p4) (fun b => w32 a.1 = w32 b.1 ∧ TF D b.2 ∧ IT b.2)) := by
  obtain ⟨⟨h1, h2, h3⟩, h4, h5, h6⟩ := hT
  unfold f9_feed f10_feed
  by_cases c : 700 < D 117 5 + 20
  · refine wp_pos (by rw [h1]; exact (lt32 (by omega) (by omega)).mpr c) (wpo_of (wp_pos (show w32 700 < w32 (D 117 5 + 20) from (lt32 (by omega) (by omega)).mpr c) (wpo_of ⟨rfl, TF.rf, ⟨h1, h2, h3⟩, h4, h5, h6⟩)))
  · refine wp_neg (by rw [h1]; exact fun z => c ((lt32 (by omega) (by omega)).mp z)) ?_
    obtain ⟨n, hn⟩ : ∃ n : Nat, D 117 5 = (n : Int) := ⟨(D 117 5).toNat, by omega⟩
    refine wp_bind.mpr (wpo_mono (sp_add (D := D) (n := n) (a := 0) (F := f5 p0 p1 p2 p3 p4) rfl (by rw [h1, hn]; rfl) (by omega) (fun i => by rw [if_neg (by omega)])) ?_)
    rintro A1 ⟨a1, b1, k1⟩
    refine wp_bind.mpr (wpo_mono (sp_add (D := D) (n := n) (a := 1) (F := f5 p0 p1 p2 p3 p4) rfl a1 (by omega) b1) ?_)
    rintro A2 ⟨a2, b2, k2⟩
    refine wp_bind.mpr (wpo_mono (sp_add (D := D) (n := n) (a := 2) (F := f5 p0 p1 p2 p3 p4) rfl a2 (by omega) b2) ?_)
    rintro A3 ⟨a3, b3, k3⟩
    refine wp_bind.mpr (wpo_mono (sp_add (D := D) (n := n) (a := 3) (F := f5 p0 p1 p2 p3 p4) rfl a3 (by omega) b3) ?_)
    rintro A4 ⟨a4, b4, k4⟩
    refine wp_bind.mpr (wpo_mono (sp_add (D := D) (n := n) (a := 4) (F := f5 p0 p1 p2 p3 p4) rfl a4 (by omega) b4) ?_)
    rintro A5 ⟨a5, b5, k5⟩
    have kk : ∀ c i, c ≠ 2 → (c ≠ 1 ∨ i ≠ 1) → A5 c i = D c i := fun c i h h' => (k5 c i h h').trans ((k4 c i h h').trans ((k3 c i h h').trans ((k2 c i h h').trans (k1 c i h h'))))
    have e117 : A5 117 5 = (n : Int) := (kk 117 5 (by decide) (by omega)).trans hn
    refine wpo_of (wp_neg ?_ ?_)
    · show ¬ w32 700 < w32 (A5 117 5 + 20)
      rw [e117]
      exact fun z => absurd ((lt32 (by omega) (by omega)).mp z) (by omega)
    · refine wp_then rfl (wp_then rfl (wp_then rfl (wp_then rfl (wp_then rfl ?_))))
      dsimp only
      generalize hG : mset (mset (mset (mset (mset A5 122 0 p0) 122 1 p1) 122 2 p2) 122 3 p3) 122 4 p4 = G
      have g : ∀ c i, c ≠ 122 → G c i = A5 c i := fun c i h => by rw [← hG, ms_ne h, ms_ne h, ms_ne h, ms_ne h, ms_ne h]
      have g5 : ∀ j, j < 5 → G 122 j = f5 p0 p1 p2 p3 p4 j := fun j hj => by
        have hc : j = 0 ∨ j = 1 ∨ j = 2 ∨ j = 3 ∨ j = 4 := by omega
        rcases hc with rfl | rfl | rfl | rfl | rfl
        · rw [← hG, ms_ni (by decide), ms_ni (by decide), ms_ni (by decide), ms_ni (by decide), ms_same]; rfl
        · rw [← hG, ms_ni (by decide), ms_ni (by decide), ms_ni (by decide), ms_same]; rfl
        · rw [← hG, ms_ni (by decide), ms_ni (by decide), ms_same]; rfl
        · rw [← hG, ms_ni (by decide), ms_same]; rfl
        · rw [← hG, ms_same]; rfl
      refine wp_bind.mpr (wpo_mono (P := fun B => (∀ c i, c ≠ 121 → B c i = G c i) ∧ ∀ i, B 121 i = if n ≤ i ∧ i < n + 20 then bvF (f5 p0 p1 p2 p3 p4) (i - n) else D 121 i) ?_ ?_)
      · refine wp_for (I := fun j t => t.1 = (j : Int) ∧ (∀ c i, c ≠ 121 → t.2 c i = G c i) ∧ ∀ i, t.2 121 i = if n ≤ i ∧ i < n + j then bvF (f5 p0 p1 p2 p3 p4) (i - n) else D 121 i) 20 ?_ ?_ FU 0 _ ⟨rfl, fun _ _ _ => rfl, fun i => ?_⟩ (Nat.zero_le _) (by unfold FU; omega)
        · rintro j ⟨t1, N⟩ hj ⟨e1, e2, e3⟩
          dsimp only at e1 e2 e3 ⊢
          subst e1
          have n5 : N 117 5 = (n : Int) := (e2 117 5 (by decide)).trans ((g 117 5 (by decide)).trans e117)
          have et : ((n : Int) + (j : Int)).toNat = n + j := by omega
          have n122 : N 122 (j / 4) = f5 p0 p1 p2 p3 p4 (j / 4) := (e2 122 _ (by decide)).trans (g5 _ (by omega))
          refine wp_pos ((lt32 (by omega) (by omega)).mpr (by omega)) ?_
          rw [div4 (by omega), rem4 (by omega)]
          refine wp_pos (by omega) (wp_pos (by rw [n5]; omega) (wpo_of ⟨by dsimp only; omega, fun c i h => ?_, fun i => ?_⟩))
          · dsimp only
            rw [ms_ne h]
            exact e2 c i h
          · dsimp only
            rw [n5, et, Int.toNat_natCast, n122]
            by_cases h : i = n + j
            · rw [h, ms_same, if_pos (by omega)]
              have q1 : n + j - n = j := by omega
              rw [q1]
              rfl
            · rw [ms_ni h, e3 i]
              by_cases h2 : n ≤ i ∧ i < n + j
              · rw [if_pos h2, if_pos (by omega)]
              · rw [if_neg h2, if_neg (by omega)]
        · rintro ⟨t1, N⟩ ⟨e1, e2, e3⟩
          dsimp only at e1 e2 e3 ⊢
          subst e1
          exact wp_neg (fun z => absurd ((lt32 (by omega) (by omega)).mp z) (by omega)) (wpo_of ⟨e2, e3⟩)
        · dsimp only
          rw [if_neg (by omega), g 121 i (by decide), kk 121 i (by decide) (by omega)]
      · rintro B ⟨q1, q2⟩
        have b117 : ∀ i, B 117 i = D 117 i := fun i => by rw [q1 117 i (by decide), g 117 i (by decide), kk 117 i (by decide) (by omega)]
        refine wp_then rfl (wpo_of ⟨?_, fun c i h1 h2 h3 h4 h5 => ?_, ⟨?_, ?_, ?_⟩, fun i => ⟨?_, ?_⟩, ?_, ?_⟩)
        · dsimp only
          rw [ms_same, a5, b117, hn]
          rfl
        · dsimp only
          rw [ms_at, if_neg (by omega), q1 c i h3, g c i h4, kk c i h1 h2]
        · dsimp only
          rw [ms_ne (by decide), ms_same, q1 1 1 (by decide), g 1 1 (by decide), a5, b117, hn]
          omega
        · dsimp only
          rw [ms_same, b117]
          omega
        · dsimp only
          rw [ms_same, b117]
          omega
        · dsimp only
          rw [ms_ne (by decide), ms_ne (by decide), q1 2 i (by decide), g 2 i (by decide), b5 i, q2 i]
          by_cases h : n ≤ i ∧ i < n + 20
          · rw [if_pos (by omega), if_pos h]
          · rw [if_neg (by omega), if_neg h]
            exact (h4 i).1
        · dsimp only
          rw [ms_ne (by decide), q2 i]
          split
          · exact w8_bd _
          · exact (h4 i).2
        · dsimp only
          rw [ms_ne (by decide), ms_ni (by decide), q1 3 2 (by decide), g 3 2 (by decide), kk 3 2 (by decide) (by omega), b117]
          exact h5
        · dsimp only
          rw [ms_ne (by decide), ms_ni (by decide), q1 3 3 (by decide), g 3 3 (by decide), kk 3 3 (by decide) (by omega), b117]
          exact h6
theorem ag_end {D : Mem} {x : Int} (hT : IT D) (hx : A32 x) : wpo (f9_end D x) (fun a => wpo (f10_end a.2 x) (fun b => w32 a.1 = w32 b.1 ∧ TF D b.2 ∧ IT b.2)) := by
  have hT0 := hT
  obtain ⟨⟨h1, h2, h3⟩, h4, h5, h6⟩ := hT
  have hx' := hx
  unfold A32 at hx'
  have hin : ∀ M : Mem, M 117 5 = D 117 5 → f10_in M (w32 x) 0 (w32 (M 117 5)) = some (if 0 ≤ x ∧ x ≤ D 117 5 then 1 else 0) := fun M hM => by
    rw [hM, w32_id hx', w32_id (x := D 117 5) (by omega)]
    exact sp_in (by omega) (by omega) (by omega)
  unfold f9_end f10_end
  by_cases c : 0 ≤ x ∧ x ≤ D 117 5
  · refine wp_neg (by rw [w32_id hx']; omega) (wp_neg (by rw [h1]; exact fun z => absurd ((lt32 (by omega) hx').mp z) (by omega)) (wpo_of ?_))
    refine wp_then (hin (mset D 1 1 x) (ms_ne (by decide))) (wp_neg (fun z => if01.mp z c) (wpo_of ⟨rfl, fun c i h1 h2 h3 h4 h5 => ?_, ⟨?_, ?_, ?_⟩, fun i => ?_, ?_, ?_⟩))
    · dsimp only
      rw [ms_at, if_neg (by omega), ms_at, if_neg (by omega)]
    · dsimp only
      rw [ms_ne (by decide), ms_same, ms_same]
    · dsimp only
      rw [ms_same]
      exact c.1
    · dsimp only
      rw [ms_same]
      omega
    · dsimp only
      rw [ms_ne (by decide), ms_ne (by decide), ms_ne (by decide), ms_ne (by decide)]
      exact h4 i
    · dsimp only
      rw [ms_ne (by decide), ms_ne (by decide), ms_ni (by decide), ms_ne (by decide)]
      exact h5
    · dsimp only
      rw [ms_ne (by decide), ms_ne (by decide), ms_ni (by decide), ms_ne (by decide)]
      exact h6
  · have href : wpo (Option.bind (f10_in D (w32 x) 0 (w32 (D 117 5))) fun (a1 : Int) => if w32 a1 = 0 then some ((-1), D) else some (x, (mset D 117 5 x))) (fun b => w32 (-1) = w32 b.1 ∧ TF D b.2 ∧ IT b.2) := wp_then (hin D rfl) (wp_pos (if01.mpr c) (wpo_of ⟨rfl, TF.rf, hT0⟩))
    by_cases c1 : x < 0
    · exact wp_pos (by rw [w32_id hx']; exact c1) (wpo_of href)
    · exact wp_neg (by rw [w32_id hx']; exact c1) (wp_pos (by rw [h1]; exact (lt32 (by omega) hx').mpr (by omega)) (wpo_of href))
theorem ag_fault {D : Mem} {x : Int} (hT : IT D) : ∃ v : Int, f9_fault D x = some v ∧ f10_fault D x = some v := by
  obtain ⟨-, -, h5, h6⟩ := hT
  unfold f9_fault f10_fault
  rw [h5, h6]
  by_cases c : w32 x = 0
  · exact ⟨_, if_pos c, if_pos c⟩
  · by_cases c1 : w32 x = w32 1
    · exact ⟨_, (if_neg c).trans (if_pos c1), (if_neg c).trans (if_pos c1)⟩
    · exact ⟨_, (if_neg c).trans (if_neg c1), (if_neg c).trans (if_neg c1)⟩
