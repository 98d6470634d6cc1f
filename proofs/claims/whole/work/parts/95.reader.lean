/-! THE TEXT: the class's reader (by hand) -/
/-- k lines, one after the other -/
def HS (B : Nat → Int) (n k : Nat) (P : Nat → Nat) (W : Nat → Nat → Int) : Prop := P 0 = 0 ∧ W 0 = (fun _ => 0) ∧ (∀ j, j < k → tkd B n (P j) ≠ 0 ∧ LnOK B n (P j) (W j) (P (j + 1)) (W (j + 1))) ∧ ∀ j, j ≤ k → P j ≤ n ∧ WL j (W j)
theorem HS.next {B : Nat → Int} {n k p' : Nat} {P : Nat → Nat} {W : Nat → Nat → Int} {W' : Nat → Int} (h : HS B n k P W) (h1 : tkd B n (P k) ≠ 0) (h2 : LnOK B n (P k) (W k) p' W') (h3 : p' ≤ n) : HS B n (k + 1) (fun j => if j = k + 1 then p' else P j) (fun j => if j = k + 1 then W' else W j) := by
  obtain ⟨a, b, c, d⟩ := h
  refine ⟨?_, ?_, fun j hj => ?_, fun j hj => ?_⟩
  · dsimp only
    rw [if_neg (by omega)]
    exact a
  · dsimp only
    rw [if_neg (by omega)]
    exact b
  · dsimp only
    by_cases e : j = k
    · rw [e, if_neg (by omega), if_neg (by omega), if_pos rfl, if_pos rfl]
      exact ⟨h1, h2⟩
    · rw [if_neg (by omega), if_neg (by omega), if_neg (by omega), if_neg (by omega)]
      exact c j (by omega)
  · dsimp only
    by_cases e : j = k + 1
    · rw [if_pos e, if_pos e, e]
      exact ⟨h3, ((d k (Nat.le_refl k)).2.next h2).1⟩
    · rw [if_neg e, if_neg e]
      exact d j (by omega)
theorem sp_clear4 {M : Mem} : wpo (f2_clear M 4) (fun N => (∀ c i, c ≠ 4 → N c i = M c i) ∧ ∀ i, i < 10 → N 4 i = 0) := by
  unfold f2_clear
  refine wp_then rfl (wp_then rfl (wp_then rfl (wp_then rfl (wp_then rfl (wp_then rfl (wp_then rfl (wp_then rfl (wp_then rfl (wpo_of ⟨fun c i h => ?_, fun i hi => ?_⟩)))))))))
  · rw [ms_ne h, ms_ne h, ms_ne h, ms_ne h, ms_ne h, ms_ne h, ms_ne h, ms_ne h, ms_ne h, ms_ne h]
  · have hc : i = 0 ∨ i = 1 ∨ i = 2 ∨ i = 3 ∨ i = 4 ∨ i = 5 ∨ i = 6 ∨ i = 7 ∨ i = 8 ∨ i = 9 := by omega
    rcases hc with rfl | rfl | rfl | rfl | rfl | rfl | rfl | rfl | rfl | rfl <;> rfl
/-- what the class has read, or where it failed -/
def RdC (B : Nat → Int) (n : Nat) (D : Mem) (r : Int × Mem) : Prop := (∀ c i, (c < 3 ∨ 8 < c) → r.2 c i = D c i) ∧ ∃ (k : Nat) (P : Nat → Nat) (W : Nat → Nat → Int), HS B n k P W ∧ ((r.1 = 1 ∧ tkd B n (P k) = 0 ∧ DR r.2 (W k) ∧ r.2 3 2 = 0 ∧ r.2 3 3 = -1) ∨ (r.1 = 0 ∧ tkd B n (P k) ≠ 0 ∧ ∃ (f : Int) (pl : Nat), LnNo B n (P k) (W k) f pl ∧ r.2 3 2 = f ∧ r.2 3 3 = (pl : Int)))
theorem WL.zero : WL 0 (fun _ => 0) := ⟨rfl, rfl, ⟨Or.inl ⟨rfl, rfl, rfl, rfl, rfl, rfl, rfl, rfl, rfl, rfl⟩, fun p hp => absurd hp (by dsimp only; omega), fun p hp => absurd hp (by dsimp only; omega)⟩, fun h => absurd h (by decide)⟩
theorem sp_read {D : Mem} {B : Nat → Int} {n : Nat} (hT : TX D B n) : wpo (f4_read D) (RdC B n D) := by
  have t2 := hT.2.1
  unfold f4_read
  refine wp_bind.mpr (wpo_mono sp_clear4 ?_)
  rintro N ⟨n1, n2⟩
  refine wp_then rfl (wp_then rfl (wp_then rfl ?_))
  generalize hE : mset (mset (mset N 3 2 0) 3 3 (-1)) 3 6 0 = E
  have e6 : E 3 6 = ((0 : Nat) : Int) := by rw [← hE, ms_same]; rfl
  have e2 : E 3 2 = 0 := by rw [← hE, ms_ni (by decide), ms_ni (by decide), ms_same]
  have e3 : E 3 3 = -1 := by rw [← hE, ms_ni (by decide), ms_same]
  have eo : ∀ c i, (c < 3 ∨ 8 < c) → E c i = D c i := fun c i h => by rw [← hE, ms_ne (by omega), ms_ne (by omega), ms_ne (by omega), n1 c i (by omega)]
  have e4 : ∀ i, i < 10 → E 4 i = 0 := fun i h => by rw [← hE, ms_ne (by decide), ms_ne (by decide), ms_ne (by decide), n2 i h]
  have eD : DR E (fun _ => 0) := ⟨e4 0 (by decide), fun i hi => e4 _ (by omega), e4 8 (by decide), e4 9 (by decide), fun q hq => absurd hq (by dsimp only; omega)⟩
  refine wp_bind.mpr (wpo_mono (P := fun z => match z with
    | .inl _ => False
    | .inr r => RdC B n D r) ?_ ?_)
  · refine wp_loopm (I := fun m t => ∃ (k : Nat) (P : Nat → Nat) (W : Nat → Nat → Int), m = 10 - k ∧ t.1 = (k : Int) ∧ HS B n k P W ∧ (∀ c i, (c < 3 ∨ 8 < c) → t.2 c i = D c i) ∧ t.2 3 6 = (P k : Int) ∧ t.2 3 2 = 0 ∧ t.2 3 3 = -1 ∧ DR t.2 (W k)) ?_ FU 10 _ ⟨0, fun _ => 0, fun _ _ => 0, rfl, rfl, ⟨rfl, rfl, fun j hj => absurd hj (Nat.not_lt_zero _), fun j hj => ⟨Nat.zero_le _, by rw [show j = 0 by omega]; exact WL.zero⟩⟩, eo, e6, e2, e3, eD⟩ (by unfold FU; omega)
    rintro m ⟨t1, N1⟩ ⟨k, P, W, rfl, s1, s2, s3, s4, s5, s6, s7⟩
    dsimp only at s1 s3 s4 s5 s6 s7 ⊢
    subst s1
    obtain ⟨hp, hW⟩ := s2.2.2.2 k (Nat.le_refl k)
    have hb := hW.bd
    have hT1 : TX N1 B n := hT.congr (fun c i h => s3 c i (by omega))
    refine wp_neg (fun z => absurd ((lt32 (by omega) (by omega)).mp z) (by omega)) ?_
    refine wp_bind.mpr (wpo_mono (sp_next hT1 hp s4) ?_)
    rintro N2 ⟨u1, u2, u3, u4⟩
    have hT2 : TX N2 B n := hT1.congr (fun c i h => u1 c i (by omega))
    have hk := tkd_bd (B := B) (n := n) (p := P k)
    have u0 : ∀ c i, (c < 3 ∨ 8 < c) → N2 c i = D c i := fun c i h => (u1 c i (by omega)).trans (s3 c i h)
    have uD : DR N2 (W k) := s7.congr (fun c i h1 h2 => u1 c i (by omega))
    by_cases c0 : tkd B n (P k) = 0
    · exact wp_pos (by rw [u2, c0]; rfl) (wpo_of ⟨u0, k, P, W, s2, Or.inl ⟨rfl, c0, uD, (u1 3 2 (by omega)).trans s5, (u1 3 3 (by omega)).trans s6⟩⟩)
    · refine wp_neg (by rw [u2, w32_id (by omega)]; exact c0) ?_
      refine wp_then (a := if k = 0 then 1 else 0) ?_ ?_
      · by_cases k0 : k = 0
        · rw [if_pos (by rw [k0]; rfl), if_pos k0]
        · rw [if_neg (by rw [w32_id (by omega)]; omega), if_neg k0]
      · refine wp_bind.mpr (wpo_mono (sp_readLineC hT2 hp ⟨u2, u3, u4⟩ hW uD) ?_)
        rintro ⟨v, N3⟩ ⟨f1, ⟨g1, p', W', g2, g3, g4, g5, g6, g7⟩ | ⟨g1, f, pl, g2, g3, g4⟩⟩
        · dsimp only at f1 g1 g4 g5 g6 g7 ⊢
          subst g1
          have hn := hW.next g2
          refine wp_neg (by decide) (wpo_of ⟨10 - (k + 1), by omega, k + 1, _, _, rfl, by dsimp only; omega, s2.next c0 g2 g3, fun c i h => ?_, ?_, ?_, ?_, ?_⟩)
          · dsimp only
            rw [ms_ne (by omega), f1 c i h]
            exact u0 c i h
          · dsimp only
            rw [if_pos rfl, ms_ne (by decide)]
            exact g4
          · dsimp only
            rw [ms_ne (by decide), g5, u1 3 2 (by omega)]
            exact s5
          · dsimp only
            rw [ms_ne (by decide), g6, u1 3 3 (by omega)]
            exact s6
          · dsimp only
            rw [if_pos rfl]
            exact g7
        · dsimp only at f1 g1 g3 g4 ⊢
          subst g1
          exact wp_pos (by decide) (wpo_of ⟨fun c i h => (f1 c i h).trans (u0 c i h), k, P, W, s2, Or.inr ⟨rfl, c0, f, pl, g2, g3, g4⟩⟩)
  · rintro (N1 | r)
    · exact fun h => h.elim
    · exact fun h => wpo_of h
/-! THE TEXT: the reference's reader (by hand) -/
theorem sp_lineEnd1 {N : Mem} {B : Nat → Int} {n q : Nat} (hq : q ≤ n) (hR : R10 N B n q) (h3 : tkd B n q = 3) : wpo (Option.bind (f10_good N) fun (a3 : Int) => Option.bind (if w32 a3 = 0 then some N else if w32 (N 117 10) = w32 3 then some N else Option.bind (f10_errs N 1) fun (a4 : Mem) => some a4) fun (j2 : Mem) => Option.bind (f10_good j2) fun (a5 : Int) => Option.bind (if w32 a5 = 0 then some j2 else Option.bind (f10_advance j2) fun (a6 : Mem) => some a6) fun (j3 : Mem) => some (mset j3 123 9 ((j3 123 9) + 1))) (fun M' => G10 N M' ∧ R10 M' B n (ten B n q) ∧ (∀ i, i ≠ 9 → M' 123 i = N 123 i) ∧ M' 123 9 = N 123 9 + 1) := by
  refine wp_then (sp_good0 hR.2.1) (wp_then (a := N) (wp_is (wp_neg (by decide) (wp_pos (by rw [hR.2.2.1, h3]) (wpo_of rfl)))) (wp_then (sp_good0 hR.2.1) ?_))
  refine wp_bind.mpr (wp_neg (by decide) (wp_bind.mpr (wpo_mono (sp_adv hq hR) ?_)))
  rintro N1 ⟨r1, f1⟩
  refine wpo_of (wpo_of ⟨f1.g.set, r1.congr (fun c i h => ms_ne (by omega)), fun i hi => ?_, ?_⟩)
  · rw [ms_ni hi]
    exact f1 123 i (Or.inl (by decide))
  · rw [ms_same, f1 123 9 (Or.inl (by decide))]
theorem sp_lineEnd2 {N : Mem} {B : Nat → Int} {n q : Nat} (hR : R10 N B n q) (h3 : tkd B n q ≠ 3) : wpo (Option.bind (f10_good N) fun (a3 : Int) => Option.bind (if w32 a3 = 0 then some N else if w32 (N 117 10) = w32 3 then some N else Option.bind (f10_errs N 1) fun (a4 : Mem) => some a4) fun (j2 : Mem) => Option.bind (f10_good j2) fun (a5 : Int) => Option.bind (if w32 a5 = 0 then some j2 else Option.bind (f10_advance j2) fun (a6 : Mem) => some a6) fun (j3 : Mem) => some (mset j3 123 9 ((j3 123 9) + 1))) (fun M' => G10 N M' ∧ N10 M' 1 (tst B n q)) := by
  obtain ⟨o1, o2⟩ := N10.of hR (f := 1) (by decide)
  have hk := tkd_bd (B := B) (n := n) (p := q)
  refine wp_then (sp_good0 hR.2.1) (wp_then (a := _) (wp_is (wp_neg (by decide) (wp_neg (by rw [hR.2.2.1]; exact fun z => h3 ((eq32 (by omega) (by omega)).mp z)) (wp_then (sp_errs0 hR.2.1) (wpo_of rfl))))) (wp_then (sp_good1 o1) (wp_then (if_pos (by decide)) (wpo_of ⟨o2.g.set, o1.congr (fun i => ms_ne (by decide))⟩))))
theorem sp_lineEnd3 {N : Mem} {f : Int} {pl : Nat} (h : N10 N f pl) : wpo (Option.bind (f10_good N) fun (a3 : Int) => Option.bind (if w32 a3 = 0 then some N else if w32 (N 117 10) = w32 3 then some N else Option.bind (f10_errs N 1) fun (a4 : Mem) => some a4) fun (j2 : Mem) => Option.bind (f10_good j2) fun (a5 : Int) => Option.bind (if w32 a5 = 0 then some j2 else Option.bind (f10_advance j2) fun (a6 : Mem) => some a6) fun (j3 : Mem) => some (mset j3 123 9 ((j3 123 9) + 1))) (fun M' => G10 N M' ∧ N10 M' f pl) :=
  wp_then (sp_good1 h) (wp_then (if_pos (by decide)) (wp_then (sp_good1 h) (wp_then (if_pos (by decide)) (wpo_of ⟨F10.rf.g.set, h.congr (fun i => ms_ne (by decide))⟩))))
theorem sp_readLine1 {M : Mem} {B : Nat → Int} {n p p' k : Nat} {W W' : Nat → Int} (hp : p ≤ n) (hR : R10 M B n p) (hW : WL k W) (hM : ∀ i, i < 72 → M 123 i = W i) (hL : LnOK B n p W p' W') : wpo (f10_readLine M) (fun M' => G10 M M' ∧ R10 M' B n p' ∧ ∀ i, i < 72 → M' 123 i = W' i) := by
  have hb := hW.bd
  have w9 := hW.1
  have hen := ten_bd (B := B) hp
  have m9 := hM 9 (by decide)
  have m7 := hM 7 (by decide)
  unfold f10_readLine
  obtain ⟨l9, ⟨e1, e2, Q, V, e3, e4, e5, e6, e7, e8⟩ | ⟨e1, e2, e3, e4, Q, V, e5, e6, e7, e8, e9, e10⟩⟩ := hL
  · have hq : Q 7 ≤ n := e4.le (by rw [e3]; exact hen.2) 7 (by decide)
    refine wp_bind.mpr (wp_pos (by rw [m9, e1]; rfl) (wp_bind.mpr (wpo_mono (sp_readFirst1 (m' := 7) (f := 0) (pl := 0) hp hR e2 e3 (by decide) e4 (fun z => absurd z (by decide))) ?_)))
    rintro N ⟨g, s, a, b⟩
    refine wpo_of (wpo_mono (sp_lineEnd1 hq (s.1 (by decide)) e5) ?_)
    rintro M' ⟨g', r, a', b'⟩
    refine ⟨g.tr g', by rw [e6]; exact r, fun i hi => ?_⟩
    by_cases i9 : i = 9
    · rw [i9, b', l9, a 9 (by decide), m9]
    · rw [a' i i9]
      by_cases i7 : i < 7
      · rw [b i i7, e7 i i7]
      · rw [a i (by omega), e8 i (by omega) i9, hM i hi]
  · have hP : ((W 7).toNat : Int) = W 7 := by omega
    have hq : Q 4 ≤ n := e6.le (by rw [e5]; exact hen.2) 4 (by decide)
    refine wp_bind.mpr (wp_neg (by rw [m9, w9, w32_id (by omega)]; omega) (wp_bind.mpr (wpo_mono (sp_readPerson1 (m' := 4) (f := 0) (pl := 0) (q := (W 7).toNat) hp hR e2 (by rw [m7, hP]) (by omega) e5 (by decide) e6 (fun z => absurd z (by decide))) ?_)))
    rintro N ⟨g, s, ab⟩
    obtain ⟨a1, a2, a3⟩ := ab rfl
    refine wpo_of (wpo_mono (sp_lineEnd1 hq (s.1 (by decide)) e7) ?_)
    rintro M' ⟨g', r, a', b'⟩
    refine ⟨g.tr g', by rw [e8]; exact r, fun i hi => ?_⟩
    by_cases i9 : i = 9
    · rw [i9, b', l9, a2 9 (by decide) (Or.inl (by omega)), m9]
    · rw [a' i i9]
      by_cases i7 : i = 7
      · rw [i7, a1, e4, hP]
      · by_cases c : i < 10 + 4 * (W 7).toNat ∨ 14 + 4 * (W 7).toNat ≤ i
        · rw [a2 i i7 c, e10 i i7 i9 c, hM i hi]
        · obtain ⟨j, rfl⟩ : ∃ j, i = 10 + 4 * (W 7).toNat + j := ⟨i - (10 + 4 * (W 7).toNat), by omega⟩
          rw [a3 j (by omega), e9 j (by omega)]
theorem sp_readLine0 {M : Mem} {B : Nat → Int} {n p k pl : Nat} {W : Nat → Int} {f : Int} (hp : p ≤ n) (hR : R10 M B n p) (hW : WL k W) (hM : ∀ i, i < 72 → M 123 i = W i) (hL : LnNo B n p W f pl) : wpo (f10_readLine M) (fun M' => G10 M M' ∧ N10 M' f pl) := by
  have hb := hW.bd
  have w9 := hW.1
  have hen := ten_bd (B := B) hp
  have m9 := hM 9 (by decide)
  have m7 := hM 7 (by decide)
  unfold f10_readLine
  rcases hL with ⟨e1, h⟩ | ⟨e1, h⟩
  · refine wp_bind.mpr (wp_pos (by rw [m9, e1]; rfl) ?_)
    rcases h with ⟨h, rfl, rfl⟩ | ⟨h, m', Q, V, h1, h2, h3, h4⟩
    · refine wp_bind.mpr (wpo_mono (sp_readFirstW hp hR h) ?_)
      rintro N ⟨g, o⟩
      refine wpo_of (wpo_mono (sp_lineEnd3 o) ?_)
      rintro M' ⟨g', o'⟩
      exact ⟨g.tr g', o'⟩
    · have h5 : m' < 7 → FldNo B n (Q m') (wd (0 + m')) (flo (0 + m')) (fhi (0 + m')) f pl := fun z => by
        rcases h4 with h4 | h4
        · exact h4.2
        · omega
      refine wp_bind.mpr (wpo_mono (sp_readFirst1 hp hR h h2 h1 h3 h5) ?_)
      rintro N ⟨g, s, -, -⟩
      rcases h4 with h4 | ⟨rfl, d1, rfl, rfl⟩
      · refine wpo_of (wpo_mono (sp_lineEnd3 (s.2 h4.1)) ?_)
        rintro M' ⟨g', o'⟩
        exact ⟨g.tr g', o'⟩
      · refine wpo_of (wpo_mono (sp_lineEnd2 (s.1 (by decide)) d1) ?_)
        rintro M' ⟨g', o'⟩
        exact ⟨g.tr g', o'⟩
  · refine wp_bind.mpr (wp_neg (by rw [m9, w9, w32_id (by omega)]; omega) ?_)
    rcases h with ⟨h, rfl, rfl⟩ | ⟨h, h8, rfl, rfl⟩ | ⟨h, h8, m', Q, V, h2, h1, h3, h4⟩
    · refine wp_bind.mpr (wpo_mono (sp_readPersonW hp hR (by omega) (Or.inl h)) ?_)
      rintro N ⟨g, o⟩
      rw [if_neg (fun z => h z.2)] at o
      refine wpo_of (wpo_mono (sp_lineEnd3 o) ?_)
      rintro M' ⟨g', o'⟩
      exact ⟨g.tr g', o'⟩
    · refine wp_bind.mpr (wpo_mono (sp_readPersonW hp hR (by omega) (Or.inr ⟨h, by omega⟩)) ?_)
      rintro N ⟨g, o⟩
      rw [if_pos ⟨by omega, h⟩] at o
      refine wpo_of (wpo_mono (sp_lineEnd3 o) ?_)
      rintro M' ⟨g', o'⟩
      exact ⟨g.tr g', o'⟩
    · have hP : ((W 7).toNat : Int) = W 7 := by omega
      have h5 : m' < 4 → FldNo B n (Q m') (wd (7 + m')) (flo (7 + m')) (fhi (7 + m')) f pl := fun z => by
        rcases h4 with h4 | h4
        · exact h4.2
        · omega
      refine wp_bind.mpr (wpo_mono (sp_readPerson1 (q := (W 7).toNat) hp hR h (by rw [m7, hP]) (by omega) h1 h2 h3 h5) ?_)
      rintro N ⟨g, s, -⟩
      rcases h4 with h4 | ⟨rfl, d1, rfl, rfl⟩
      · refine wpo_of (wpo_mono (sp_lineEnd3 (s.2 h4.1)) ?_)
        rintro M' ⟨g', o'⟩
        exact ⟨g.tr g', o'⟩
      · refine wpo_of (wpo_mono (sp_lineEnd2 (s.1 (by decide)) d1) ?_)
        rintro M' ⟨g', o'⟩
        exact ⟨g.tr g', o'⟩
