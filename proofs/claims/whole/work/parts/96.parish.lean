/-! PARISH (by hand) -/
/-- the reference, over the same lines -/
theorem sp_lines10 {M : Mem} {B : Nat → Int} {n k : Nat} {P : Nat → Nat} {W : Nat → Nat → Int} {fl : Bool} {f : Int} {pl : Nat} (hH : HS B n k P W) (hR : R10 M B n 0) (hM : ∀ i, i < 72 → M 123 i = 0) (h0 : fl = false → tkd B n (P k) = 0) (h1 : fl = true → tkd B n (P k) ≠ 0 ∧ LnNo B n (P k) (W k) f pl) : wpo (@loop (Mem) (Mem) (fun s2 => Option.bind (f10_good s2) fun (a2 : Int) => if w32 a2 = 0 then some (Sum.inr s2) else if w32 (s2 117 10) = 0 then some (Sum.inr s2) else Option.bind (f10_readLine s2) fun (a3 : Mem) => some (Sum.inl a3)) FU M) (fun M' => G10 M M' ∧ (fl = false → R10 M' B n (P k) ∧ ∀ i, i < 72 → M' 123 i = W k i) ∧ (fl = true → N10 M' f pl)) := by
  obtain ⟨p0, w0, hs, hb⟩ := hH
  have hk := (hb k (Nat.le_refl k)).2.bd
  refine wp_for (I := fun j s => G10 M s ∧ (j ≤ k → R10 s B n (P j) ∧ ∀ i, i < 72 → s 123 i = W j i) ∧ (k < j → fl = true ∧ N10 s f pl)) (k + (if fl = true then 1 else 0)) ?_ ?_ FU 0 _ ⟨fun _ _ _ _ => rfl, fun _ => ⟨by rw [p0]; exact hR, fun i hi => by rw [w0]; exact hM i hi⟩, fun z => absurd z (Nat.not_lt_zero _)⟩ (Nat.zero_le _) ?_
  · rintro j s hj ⟨g, a, -⟩
    have hjk : j ≤ k := by
      cases fl
      · exact Nat.le_of_lt hj
      · exact Nat.le_of_lt_succ hj
    obtain ⟨a1, a2⟩ := a hjk
    obtain ⟨b1, b2⟩ := hb j hjk
    have hkd := tkd_bd (B := B) (n := n) (p := P j)
    refine wp_then (sp_good0 a1.2.1) (wp_neg (by decide) ?_)
    by_cases e : j = k
    · subst e
      have hf : fl = true := by
        cases fl
        · exact absurd hj (Nat.lt_irrefl _)
        · rfl
      obtain ⟨c1, c2⟩ := h1 hf
      refine wp_neg (by rw [a1.2.2.1, w32_id (by omega)]; exact c1) ?_
      refine wp_bind.mpr (wpo_mono (sp_readLine0 b1 a1 b2 a2 c2) ?_)
      rintro M' ⟨g', o⟩
      exact wpo_of ⟨g.tr g', fun z => absurd z (by omega), fun _ => ⟨hf, o⟩⟩
    · obtain ⟨c1, c2⟩ := hs j (by omega)
      refine wp_neg (by rw [a1.2.2.1, w32_id (by omega)]; exact c1) ?_
      refine wp_bind.mpr (wpo_mono (sp_readLine1 b1 a1 b2 a2 c2) ?_)
      rintro M' ⟨g', o1, o2⟩
      exact wpo_of ⟨g.tr g', fun _ => ⟨o1, o2⟩, fun z => absurd z (by omega)⟩
  · rintro s ⟨g, a, b⟩
    cases fl with
    | false =>
      obtain ⟨a1, a2⟩ := a (Nat.le_refl k)
      refine wp_then (sp_good0 a1.2.1) (wp_neg (by decide) (wp_pos (by rw [a1.2.2.1]; show w32 (tkd B n (P k)) = 0; rw [h0 rfl]; rfl) (wpo_of ⟨g, fun _ => ⟨a1, a2⟩, fun z => Bool.noConfusion z⟩)))
    | true =>
      obtain ⟨-, b2⟩ := b (Nat.lt_succ_self k)
      exact wp_then (sp_good1 b2) (wp_pos (by decide) (wpo_of ⟨g, fun z => Bool.noConfusion z, fun _ => b2⟩))
  · have : (if fl = true then 1 else 0) ≤ 1 := by split <;> omega
    unfold FU
    omega
/-- the reference's text, from the start -/
theorem sp_parish10 {D : Mem} {B : Nat → Int} {n k : Nat} {P : Nat → Nat} {W : Nat → Nat → Int} {fl : Bool} {f : Int} {pl : Nat} (h5 : D 117 5 = (n : Int)) (hn : n ≤ 700) (hB : ∀ i, D 121 i = B i ∧ -128 ≤ B i ∧ B i ≤ 127) (hH : HS B n k P W) (h0 : fl = false → tkd B n (P k) = 0) (h1 : fl = true → tkd B n (P k) ≠ 0 ∧ LnNo B n (P k) (W k) f pl) : wpo (f10_parish D) (fun r => (∀ c i, c ≠ 117 → c ≠ 118 → c ≠ 123 → r.2 c i = D c i) ∧ r.2 117 5 = 0 ∧ ((fl = false ∧ r.1 = W k 9 ∧ r.2 117 12 = 0 ∧ r.2 117 13 = -1 ∧ r.2 118 = fun i => if i < 72 then W k i else D 118 i) ∨ (fl = true ∧ r.1 = -4 ∧ r.2 117 12 = f ∧ r.2 117 13 = (pl : Int) ∧ ∀ i, r.2 118 i = D 118 i))) := by
  unfold f10_parish
  refine wp_then rfl (wp_then rfl (wp_then rfl (wp_then rfl (wp_then rfl ?_))))
  generalize hE : mset (mset (mset (mset (mset D 117 7 (D 117 5)) 117 5 0) 117 8 0) 117 12 0) 117 13 (-1) = E
  have e7 : E 117 7 = (n : Int) := by rw [← hE, ms_ni (by decide), ms_ni (by decide), ms_ni (by decide), ms_ni (by decide), ms_same, h5]
  have e5 : E 117 5 = 0 := by rw [← hE, ms_ni (by decide), ms_ni (by decide), ms_ni (by decide), ms_same]
  have e8 : E 117 8 = ((0 : Nat) : Int) := by rw [← hE, ms_ni (by decide), ms_ni (by decide), ms_same]; rfl
  have e12 : E 117 12 = 0 := by rw [← hE, ms_ni (by decide), ms_same]
  have e13 : E 117 13 = -1 := by rw [← hE, ms_same]
  have eo : ∀ c i, c ≠ 117 → E c i = D c i := fun c i h => by rw [← hE, ms_ne h, ms_ne h, ms_ne h, ms_ne h, ms_ne h]
  refine wp_bind.mpr (wpo_mono (P := fun N => (∀ c i, c ≠ 123 → N c i = E c i) ∧ ∀ i, i < 72 → N 123 i = 0) ?_ ?_)
  · refine wp_for (I := fun j t => t.1 = (j : Int) ∧ (∀ c i, c ≠ 123 → t.2 c i = E c i) ∧ ∀ i, i < j → t.2 123 i = 0) 72 ?_ ?_ FU 0 _ ⟨rfl, fun _ _ _ => rfl, fun i hi => absurd hi (Nat.not_lt_zero _)⟩ (Nat.zero_le _) (by unfold FU; omega)
    · rintro j ⟨t1, N⟩ hj ⟨a1, a2, a3⟩
      dsimp only at a1 a2 a3 ⊢
      subst a1
      refine wp_pos ((lt32 (by omega) (by omega)).mpr (by omega)) (wp_pos (by omega) (wpo_of ⟨by dsimp only; omega, fun c i h => ?_, fun i hi => ?_⟩))
      · dsimp only
        rw [ms_ne h]
        exact a2 c i h
      · dsimp only
        rw [Int.toNat_natCast]
        by_cases e : i = j
        · rw [e, ms_same]
        · rw [ms_ni e]
          exact a3 i (by omega)
    · rintro ⟨t1, N⟩ ⟨a1, a2, a3⟩
      dsimp only at a1 a2 a3 ⊢
      subst a1
      exact wp_neg (fun z => absurd ((lt32 (by omega) (by omega)).mp z) (by omega)) (wpo_of ⟨a2, a3⟩)
  rintro N ⟨n1, n2⟩
  have nT : TM N B n := ⟨(n1 117 7 (by decide)).trans e7, hn, fun i => by rw [n1 121 i (by decide), eo 121 i (by decide)]; exact hB i⟩
  refine wp_bind.mpr (wpo_mono (sp_advance nT (Nat.zero_le n) ((n1 117 8 (by decide)).trans e8)) ?_)
  rintro N1 ⟨u1, u2, u3, u4, u5⟩
  have uT : TM N1 B n := nT.congr (fun c i h => u1 c i (by omega))
  have uR : R10 N1 B n 0 := ⟨uT, (u1 117 12 (by omega)).trans ((n1 117 12 (by decide)).trans e12), u2, u3, u4, u5, (u1 117 13 (by omega)).trans ((n1 117 13 (by decide)).trans e13)⟩
  refine wp_bind.mpr (wpo_mono (sp_lines10 (fl := fl) (f := f) (pl := pl) hH uR (fun i hi => (u1 123 i (by omega)).trans (n2 i hi)) h0 h1) ?_)
  rintro N2 ⟨g, r0, r1⟩
  have gf : ∀ c i, c ≠ 117 → c ≠ 123 → N2 c i = D c i := fun c i a b => (g c i b (by omega)).trans ((u1 c i (by omega)).trans ((n1 c i b).trans (eo c i a)))
  have g5 : N2 117 5 = 0 := (g 117 5 (by decide) (by omega)).trans ((u1 117 5 (by omega)).trans ((n1 117 5 (by decide)).trans e5))
  cases fl with
  | true =>
    have o := r1 rfl
    exact wp_then (sp_good1 o) (wp_pos (by decide) (wpo_of ⟨fun c i a b d => gf c i a d, g5, Or.inr ⟨rfl, rfl, o.1, o.2.2, fun i => gf 118 i (by decide) (by decide)⟩⟩))
  | false =>
    obtain ⟨o1, o2⟩ := r0 rfl
    refine wp_then (sp_good0 o1.2.1) (wp_neg (by decide) ?_)
    refine wp_bind.mpr (wpo_mono (P := fun S => (∀ c i, c ≠ 118 → S c i = N2 c i) ∧ S 118 = fun i => if i < 72 then W k i else D 118 i) ?_ ?_)
    · refine wp_for (I := fun j t => t.1 = (j : Int) ∧ (∀ c i, c ≠ 118 → t.2 c i = N2 c i) ∧ ∀ i, t.2 118 i = if i < j then W k i else D 118 i) 72 ?_ ?_ FU 0 _ ⟨rfl, fun _ _ _ => rfl, fun i => ?_⟩ (Nat.zero_le _) (by unfold FU; omega)
      · rintro j ⟨t1, S⟩ hj ⟨a1, a2, a3⟩
        dsimp only at a1 a2 a3 ⊢
        subst a1
        refine wp_pos ((lt32 (by omega) (by omega)).mpr (by omega)) (wp_pos (by omega) (wpo_of ⟨by dsimp only; omega, fun c i h => ?_, fun i => ?_⟩))
        · dsimp only
          rw [ms_ne h]
          exact a2 c i h
        · dsimp only
          rw [Int.toNat_natCast]
          by_cases e : i = j
          · rw [e, ms_same, a2 123 j (by decide), if_pos (Nat.lt_succ_self j)]
            exact o2 j hj
          · rw [ms_ni e, a3 i]
            by_cases h : i < j
            · rw [if_pos h, if_pos (by omega)]
            · rw [if_neg h, if_neg (by omega)]
      · rintro ⟨t1, S⟩ ⟨a1, a2, a3⟩
        dsimp only at a1 a2 a3 ⊢
        subst a1
        exact wp_neg (fun z => absurd ((lt32 (by omega) (by omega)).mp z) (by omega)) (wpo_of ⟨a2, funext a3⟩)
      · dsimp only
        rw [if_neg (Nat.not_lt_zero _)]
        exact gf 118 i (by decide) (by decide)
    · rintro S ⟨s1, s2⟩
      refine wpo_of ⟨fun c i a b d => (s1 c i b).trans (gf c i a d), (s1 117 5 (by decide)).trans g5, Or.inl ⟨rfl, ?_, (s1 117 12 (by decide)).trans o1.2.1, (s1 117 13 (by decide)).trans o1.2.2.2.2.2.2, s2⟩⟩
      dsimp only
      rw [s2]
      exact if_pos (by decide)
theorem DR.pr {M : Mem} {k : Nat} {W : Nat → Int} (h : DR M W) (hW : WL k W) : PR M 4 W := by
  obtain ⟨a, b, c, d, e⟩ := h
  have w8 := hW.2.1
  have eA : wA W = 0 := by unfold wA; rw [w8]; rfl
  refine ⟨⟨a, b 0 (by decide), b 1 (by decide), b 2 (by decide), b 3 (by decide), b 4 (by decide), b 5 (by decide), b 6 (by decide), c, d.trans w8.symm⟩, fun p hp => ?_, fun i hi => absurd hi (by omega)⟩
  rw [eA]
  exact e p hp
/-- what the call 'parish' leaves -/
def RF (D M : Mem) : Prop := ∀ c i, ¬ scr c i → c ≠ 1 → c ≠ 3 → c ≠ 117 → M c i = D c i
def pk (c : Nat) : Prop := (20 ≤ c ∧ c ≤ 22) ∨ (85 ≤ c ∧ c ≤ 116) ∨ (119 ≤ c ∧ c ≤ 120) ∨ (143 ≤ c ∧ c ≤ 145)
def PF (D M : Mem) : Prop := IT M ∧ (RF D M ∨ ((∀ c i, pk c → M c i = D c i) ∧ IC M ∧ M 49 1 = 0 ∧ M 58 1 = 0 ∧ M 64 1 = 0))
theorem ag_parish {D : Mem} (hI : IC D) (hT : IT D) : wpo (f9_parish D) (fun a => wpo (f10_parish a.2) (fun b => w32 a.1 = w32 b.1 ∧ PF D b.2)) := by
  obtain ⟨⟨t1, t2, t3⟩, t4, t5, t6⟩ := hT
  obtain ⟨n, hn⟩ : ∃ n : Nat, D 117 5 = (n : Int) := ⟨(D 117 5).toNat, by omega⟩
  have hX : TX D (D 121) n := ⟨t1.trans hn, by omega, fun i => t4 i⟩
  unfold f9_parish
  refine wp_bind.mpr (wpo_mono (sp_read hX) ?_)
  rintro ⟨v, N⟩ ⟨f1, k, P, W, hH, h⟩
  dsimp only at f1 h ⊢
  refine wp_then rfl ?_
  have hW := (hH.2.2.2 k (Nat.le_refl k)).2
  have hb := hW.bd
  have fN : ∀ c i, (c < 3 ∨ 8 < c) → (c ≠ 1 ∨ i ≠ 1) → mset N 1 1 0 c i = D c i := fun c i h1 h2 => by
    have hne : ¬ (c = 1 ∧ i = 1) := by omega
    rw [ms_at, if_neg hne]
    exact f1 c i h1
  have f3 : ∀ i, mset N 1 1 0 3 i = N 3 i := fun i => ms_ne (by decide)
  have f11 : mset N 1 1 0 1 1 = 0 := ms_same
  have f4 : ∀ c i, 4 ≤ c → mset N 1 1 0 c i = N c i := fun c i h => ms_ne (by omega)
  generalize mset N 1 1 0 = E at fN f3 f11 f4
  rcases h with ⟨rfl, c0, hD, c2, c3⟩ | ⟨rfl, c0, f, pl, hL, c2, c3⟩
  · refine wp_neg (by decide) ?_
    have hDE : DR E (W k) := hD.congr (fun c i h1 h2 => f4 c i h1)
    have hPE := hDE.pr hW
    refine wp_bind.mpr (wpo_mono (sp_become (D := E) (r := 12) (s := 4) (by decide)) ?_)
    rintro M1 ⟨m0, m1, m2, m3⟩
    have hP1 : PR M1 12 (W k) := PR.become hW.2.2.1 hPE m1 m2 m3
    have e : ∀ i, i < 72 → (fun i => if i < 72 then W k i else D 118 i : Nat → Int) i = W k i := fun i hi => if_pos hi
    have hW' := hW.2.2.1.congr e
    have hP' := hP1.wcongr hW.2.2.1 e
    refine wp_bind.mpr (wpo_mono (sp_changed hW' hP') ?_)
    rintro M ⟨d1, d2, d3, d4, d5⟩
    have r2 : ∀ c i, c ≠ 1 ∨ i ≠ 1 → (c < 3 ∨ (8 < c ∧ c < 12) ∨ (19 < c ∧ c < 23) ∨ (35 < c ∧ c ≠ 49 ∧ c ≠ 58 ∧ c ≠ 64)) → M c i = D c i := fun c i h0 h => by
      rw [d1 c i (by omega) (by omega), m0 c i (by omega)]
      exact fN c i (by omega) h0
    have q3 : ∀ i, M 3 i = N 3 i := fun i => by
      rw [d1 3 i (by omega) (by omega), m0 3 i (by omega)]
      exact f3 i
    have q11 : M 1 1 = 0 := by
      rw [d1 1 1 (by omega) (by omega), m0 1 1 (by omega)]
      exact f11
    have q12 : M 12 0 = (k : Int) := by
      rw [d1 12 0 (by omega) (by omega), hP1.1.1]
      exact hW.1
    refine wpo_of (wpo_mono (sp_parish10 (fl := false) (f := 0) (pl := 0) (D := M) ((r2 117 5 (by omega) (by omega)).trans hn) (by omega) (fun i => by rw [r2 121 i (by omega) (by omega)]; exact ⟨rfl, (t4 i).2⟩) hH (fun _ => c0) (fun z => Bool.noConfusion z)) ?_)
    rintro ⟨u, S⟩ ⟨s1, s2, ⟨-, s3, s4, s5, s6⟩ | ⟨z, -⟩⟩
    · dsimp only at s1 s2 s3 s4 s5 s6 ⊢
      have s6' : S 118 = fun i => if i < 72 then W k i else D 118 i := by
        rw [s6]
        funext i
        rw [r2 118 i (by omega) (by omega)]
      refine ⟨by rw [s3, hW.1, q12], ⟨⟨?_, ?_, ?_⟩, fun i => ?_, ?_, ?_⟩, Or.inr ⟨fun c i h => ?_, ?_, ?_, ?_, ?_⟩⟩
      · rw [s1 1 1 (by decide) (by decide) (by decide), q11, s2]
      · rw [s2]; decide
      · rw [s2]; decide
      · rw [s1 2 i (by decide) (by decide) (by decide), s1 121 i (by decide) (by decide) (by decide), r2 2 i (by omega) (by omega), r2 121 i (by omega) (by omega)]
        exact t4 i
      · rw [s1 3 2 (by decide) (by decide) (by decide), q3, c2, s4]
      · rw [s1 3 3 (by decide) (by decide) (by decide), q3, c3, s5]
      · unfold pk at h
        rw [s1 c i (by omega) (by omega) (by omega)]
        exact r2 c i (by omega) (by omega)
      · exact IC.new hW' hP' d1 d2 s6' (fun c i h1 h2 => s1 c i (by omega) (by omega) (by omega))
      · rw [s1 49 1 (by decide) (by decide) (by decide)]; exact d3
      · rw [s1 58 1 (by decide) (by decide) (by decide)]; exact d4
      · rw [s1 64 1 (by decide) (by decide) (by decide)]; exact d5
    · exact Bool.noConfusion z
  · refine wp_pos (by decide) (wpo_of ?_)
    dsimp only
    refine wpo_mono (sp_parish10 (fl := true) (f := f) (pl := pl) (D := E) ((fN 117 5 (by omega) (by omega)).trans hn) (by omega) (fun i => by rw [fN 121 i (by omega) (by omega)]; exact ⟨rfl, (t4 i).2⟩) hH (fun z => Bool.noConfusion z) (fun _ => ⟨c0, hL⟩)) ?_
    rintro ⟨u, S⟩ ⟨s1, s2, ⟨z, -⟩ | ⟨-, s3, s4, s5, s6⟩⟩
    · exact Bool.noConfusion z
    · dsimp only at s1 s2 s3 s4 s5 s6 ⊢
      refine ⟨by rw [s3], ⟨⟨?_, ?_, ?_⟩, fun i => ?_, ?_, ?_⟩, Or.inl (fun c i h h1 h3 h7 => ?_)⟩
      · rw [s1 1 1 (by decide) (by decide) (by decide), f11, s2]
      · rw [s2]; decide
      · rw [s2]; decide
      · rw [s1 2 i (by decide) (by decide) (by decide), s1 121 i (by decide) (by decide) (by decide), fN 2 i (by omega) (by omega), fN 121 i (by omega) (by omega)]
        exact t4 i
      · rw [s1 3 2 (by decide) (by decide) (by decide), f3, c2, s4]
      · rw [s1 3 3 (by decide) (by decide) (by decide), f3, c3, s5]
      · unfold scr at h
        by_cases e : c = 118
        · rw [e, s6]
          exact fN 118 i (by omega) (by omega)
        · rw [s1 c i h7 e (by omega)]
          exact fN c i (by omega) (by omega)
