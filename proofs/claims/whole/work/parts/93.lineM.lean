/-! THE TEXT: the reference's lines (by hand) -/
theorem FlS.le {B : Nat → Int} {n a m : Nat} {Q : Nat → Nat} {V : Nat → Int} (h : FlS B n a m Q V) (h0 : Q 0 ≤ n) : ∀ i, i ≤ m → Q i ≤ n := by
  intro i
  induction i with
  | zero => intro _; exact h0
  | succ i ih =>
    intro hi
    rw [(h i (by omega)).2.2.2.2]
    exact (ten_bd (ten_bd (ih (by omega))).2).2
theorem R10.congr {M M' : Mem} {B : Nat → Int} {n p : Nat} (h : R10 M B n p) (k : ∀ c i, c = 117 ∨ c = 121 → M' c i = M c i) : R10 M' B n p := by
  obtain ⟨r0, r1, r2, r3, r4, r5, r6⟩ := h
  refine ⟨r0.congr (fun c i h => k c i (by omega)), ?_, ?_, ?_, ?_, fun h => ?_, (k 117 13 (Or.inl rfl)).trans r6⟩
  · rw [k 117 12 (Or.inl rfl)]; exact r1
  · rw [k 117 10 (Or.inl rfl)]; exact r2
  · rw [k 117 9 (Or.inl rfl)]; exact r3
  · rw [k 117 8 (Or.inl rfl)]; exact r4
  · rw [k 117 11 (Or.inl rfl)]; exact r5 h
theorem N10.congr {M M' : Mem} {f : Int} {pl : Nat} (h : N10 M f pl) (k : ∀ i, M' 117 i = M 117 i) : N10 M' f pl := ⟨(k 12).trans h.1, h.2.1, (k 13).trans h.2.2⟩
/-- the fields up to m' are there; then a fault, if m' isn't all -/
def SS (B : Nat → Int) (n : Nat) (Q : Nat → Nat) (m' : Nat) (f : Int) (pl k : Nat) (M : Mem) : Prop := (k ≤ m' → R10 M B n (Q k)) ∧ (m' < k → N10 M f pl)
theorem SS.congr {B : Nat → Int} {n : Nat} {Q : Nat → Nat} {m' : Nat} {f : Int} {pl k : Nat} {M M' : Mem} (h : SS B n Q m' f pl k M) (e : ∀ c i, c = 117 ∨ c = 121 → M' c i = M c i) : SS B n Q m' f pl k M' := ⟨fun a => (h.1 a).congr e, fun a => (h.2 a).congr (fun i => e 117 i (Or.inl rfl))⟩
theorem FldNo.f {B : Nat → Int} {n p w pl : Nat} {lo hi f : Int} (h : FldNo B n p w lo hi f pl) : 1 ≤ f ∧ f ≤ 3 := by
  rcases h with ⟨-, b, -⟩ | ⟨-, -, b, -⟩ | ⟨-, -, -, b, -⟩ <;> omega
theorem SS.step {B : Nat → Int} {n a m m' k pl w : Nat} {Q : Nat → Nat} {V : Nat → Int} {f lo hi : Int} {M : Mem} (ew : wd (a + k) = w) (el : flo (a + k) = lo) (eh : fhi (a + k) = hi) (hQ : FlS B n a m' Q V) (h0 : Q 0 ≤ n) (hno : m' < m → FldNo B n (Q m') (wd (a + m')) (flo (a + m')) (fhi (a + m')) f pl) (hk : k < m) (ham : a + m ≤ 11) (h : SS B n Q m' f pl k M) : wpo (f10_told M w lo hi) (fun r => F10 M r.2 ∧ (k < m' → r.1 = V k) ∧ SS B n Q m' f pl (k + 1) r.2) := by
  obtain ⟨b1, b2, b3⟩ := fb_bd (a + k) (by omega)
  subst ew el eh
  by_cases c : m' < k
  · rw [sp_told0 (h.2 c) b1]
    exact wpo_of ⟨F10.rf, fun z => by omega, fun z => by omega, fun _ => h.2 c⟩
  · have hR := h.1 (by omega)
    have hq := hQ.le h0 k (by omega)
    refine wpo_mono (sp_told1 hq hR b1 b2 b3) ?_
    rintro ⟨v, M'⟩ ⟨f1, ⟨q, o1, o2⟩ | ⟨f', pl', o1, o2⟩⟩
    · dsimp only at f1 o1 o2 ⊢
      by_cases e : k < m'
      · obtain ⟨u1, u2⟩ := o1.uniq (hQ k e)
        refine ⟨f1, fun _ => u1, fun _ => ?_, fun z => by omega⟩
        rw [u2] at o2
        exact o2
      · have e' : k = m' := by omega
        subst e'
        exact absurd (hno hk) o1.no
    · dsimp only at f1 o1 o2 ⊢
      by_cases e : k < m'
      · exact absurd o1 (hQ k e).no
      · have e' : k = m' := by omega
        subst e'
        obtain ⟨u1, u2⟩ := o1.uniq (hno hk)
        refine ⟨f1, fun z => by omega, fun z => by omega, fun _ => ?_⟩
        rw [← u1, ← u2]
        exact o2
def G10 (M M' : Mem) : Prop := ∀ c i, c ≠ 123 → (c ≠ 117 ∨ i < 8 ∨ 13 < i) → M' c i = M c i
theorem F10.g {M M' : Mem} (h : F10 M M') : G10 M M' := fun c i _ b => h c i b
theorem G10.tr {M N O : Mem} (h : G10 M N) (h' : G10 N O) : G10 M O := fun c i a b => (h' c i a b).trans (h c i a b)
theorem G10.set {M N : Mem} (h : G10 M N) {i : Nat} {v : Int} : G10 M (mset N 123 i v) := fun c j a b => (ms_ne a).trans (h c j a b)
/-- the first line's fields -/
theorem sp_readFirst1 {M : Mem} {B : Nat → Int} {n p m' pl : Nat} {Q : Nat → Nat} {V : Nat → Int} {f : Int} (hp : p ≤ n) (hR : R10 M B n p) (hw : isW B n p 0) (q0 : Q 0 = ten B n p) (hm : m' ≤ 7) (hQ : FlS B n 0 m' Q V) (hno : m' < 7 → FldNo B n (Q m') (wd (0 + m')) (flo (0 + m')) (fhi (0 + m')) f pl) : wpo (f10_readFirst M) (fun M' => G10 M M' ∧ SS B n Q m' f pl 7 M' ∧ (∀ i, 7 ≤ i → M' 123 i = M 123 i) ∧ ∀ i, i < m' → M' 123 i = V i) := by
  have hen := ten_bd (B := B) hp
  have hq0 : Q 0 ≤ n := by rw [q0]; exact hen.2
  unfold f10_readFirst
  refine wp_bind.mpr (wpo_mono (sp_needs1 hp hR (by decide)) ?_)
  rintro N0 ⟨f0, ⟨-, r0⟩ | ⟨d0, -⟩⟩
  · have s0 : SS B n Q m' f pl 0 N0 := ⟨fun _ => by rw [q0]; exact r0, fun z => by omega⟩
    refine wp_bind.mpr (wpo_mono (SS.step (k := 0) (by decide) (by decide) (by decide) hQ hq0 hno (by decide) (by decide) s0) ?_)
    rintro ⟨v0, N1⟩ ⟨f1, u0, s1⟩
    refine wp_then rfl ?_
    dsimp only at f1 u0 s1 ⊢
    have s1' : SS B n Q m' f pl 1 (mset N1 123 0 v0) := s1.congr (fun c i h => ms_ne (by omega))
    refine wp_bind.mpr (wpo_mono (SS.step (k := 1) (by decide) (by decide) (by decide) hQ hq0 hno (by decide) (by decide) s1') ?_)
    rintro ⟨v1, N2⟩ ⟨f2, u1, s2⟩
    refine wp_then rfl ?_
    dsimp only at f2 u1 s2 ⊢
    have s2' : SS B n Q m' f pl 2 (mset N2 123 1 v1) := s2.congr (fun c i h => ms_ne (by omega))
    refine wp_bind.mpr (wpo_mono (SS.step (k := 2) (by decide) (by decide) (by decide) hQ hq0 hno (by decide) (by decide) s2') ?_)
    rintro ⟨v2, N3⟩ ⟨f3, u2, s3⟩
    refine wp_then rfl ?_
    dsimp only at f3 u2 s3 ⊢
    have s3' : SS B n Q m' f pl 3 (mset N3 123 2 v2) := s3.congr (fun c i h => ms_ne (by omega))
    refine wp_bind.mpr (wpo_mono (SS.step (k := 3) (by decide) (by decide) (by decide) hQ hq0 hno (by decide) (by decide) s3') ?_)
    rintro ⟨v3, N4⟩ ⟨f4, u3, s4⟩
    refine wp_then rfl ?_
    dsimp only at f4 u3 s4 ⊢
    have s4' : SS B n Q m' f pl 4 (mset N4 123 3 v3) := s4.congr (fun c i h => ms_ne (by omega))
    refine wp_bind.mpr (wpo_mono (SS.step (k := 4) (by decide) (by decide) (by decide) hQ hq0 hno (by decide) (by decide) s4') ?_)
    rintro ⟨v4, N5⟩ ⟨f5, u4, s5⟩
    refine wp_then rfl ?_
    dsimp only at f5 u4 s5 ⊢
    have s5' : SS B n Q m' f pl 5 (mset N5 123 4 v4) := s5.congr (fun c i h => ms_ne (by omega))
    refine wp_bind.mpr (wpo_mono (SS.step (k := 5) (by decide) (by decide) (by decide) hQ hq0 hno (by decide) (by decide) s5') ?_)
    rintro ⟨v5, N6⟩ ⟨f6, u5, s6⟩
    refine wp_then rfl ?_
    dsimp only at f6 u5 s6 ⊢
    have s6' : SS B n Q m' f pl 6 (mset N6 123 5 v5) := s6.congr (fun c i h => ms_ne (by omega))
    refine wp_bind.mpr (wpo_mono (SS.step (k := 6) (by decide) (by decide) (by decide) hQ hq0 hno (by decide) (by decide) s6') ?_)
    rintro ⟨v6, N7⟩ ⟨f7, u6, s7⟩
    dsimp only at f7 u6 s7 ⊢
    have e1 : ∀ i, N1 123 i = M 123 i := fun i => (f1 123 i (Or.inl (by decide))).trans (f0 123 i (Or.inl (by decide)))
    have e2 : ∀ i, N2 123 i = mset N1 123 0 v0 123 i := fun i => f2 123 i (Or.inl (by decide))
    have e3 : ∀ i, N3 123 i = mset N2 123 1 v1 123 i := fun i => f3 123 i (Or.inl (by decide))
    have e4 : ∀ i, N4 123 i = mset N3 123 2 v2 123 i := fun i => f4 123 i (Or.inl (by decide))
    have e5 : ∀ i, N5 123 i = mset N4 123 3 v3 123 i := fun i => f5 123 i (Or.inl (by decide))
    have e6 : ∀ i, N6 123 i = mset N5 123 4 v4 123 i := fun i => f6 123 i (Or.inl (by decide))
    have e7 : ∀ i, N7 123 i = mset N6 123 5 v5 123 i := fun i => f7 123 i (Or.inl (by decide))
    refine wpo_of ⟨((((((f0.g.tr f1.g).set.tr f2.g).set.tr f3.g).set.tr f4.g).set.tr f5.g).set.tr f6.g).set.tr f7.g |>.set, s7.congr (fun c i h => ms_ne (by omega)), fun i hi => ?_, fun i hi => ?_⟩
    · rw [ms_ni (by omega), e7, ms_ni (by omega), e6, ms_ni (by omega), e5, ms_ni (by omega), e4, ms_ni (by omega), e3, ms_ni (by omega), e2, ms_ni (by omega), e1]
    · have hc : i = 0 ∨ i = 1 ∨ i = 2 ∨ i = 3 ∨ i = 4 ∨ i = 5 ∨ i = 6 := by omega
      rcases hc with rfl | rfl | rfl | rfl | rfl | rfl | rfl
      · rw [ms_ni (by decide), e7, ms_ni (by decide), e6, ms_ni (by decide), e5, ms_ni (by decide), e4, ms_ni (by decide), e3, ms_ni (by decide), e2, ms_same]
        exact u0 hi
      · rw [ms_ni (by decide), e7, ms_ni (by decide), e6, ms_ni (by decide), e5, ms_ni (by decide), e4, ms_ni (by decide), e3, ms_same]
        exact u1 hi
      · rw [ms_ni (by decide), e7, ms_ni (by decide), e6, ms_ni (by decide), e5, ms_ni (by decide), e4, ms_same]
        exact u2 hi
      · rw [ms_ni (by decide), e7, ms_ni (by decide), e6, ms_ni (by decide), e5, ms_same]
        exact u3 hi
      · rw [ms_ni (by decide), e7, ms_ni (by decide), e6, ms_same]
        exact u4 hi
      · rw [ms_ni (by decide), e7, ms_same]
        exact u5 hi
      · rw [ms_same]
        exact u6 hi
  · exact absurd hw d0
theorem sp_readFirst0 {M : Mem} {f : Int} {pl : Nat} (h : N10 M f pl) : wpo (f10_readFirst M) (fun M' => G10 M M' ∧ N10 M' f pl) := by
  unfold f10_readFirst
  refine wp_then (sp_needs0 h (by decide)) (wp_then (sp_told0 h (by decide)) (wp_then rfl ?_))
  have h1 : N10 (mset M 123 0 0) f pl := h.congr (fun i => ms_ne (by decide))
  refine wp_then (sp_told0 h1 (by decide)) (wp_then rfl ?_)
  have h2 : N10 (mset (mset M 123 0 0) 123 1 0) f pl := h1.congr (fun i => ms_ne (by decide))
  refine wp_then (sp_told0 h2 (by decide)) (wp_then rfl ?_)
  have h3 : N10 (mset (mset (mset M 123 0 0) 123 1 0) 123 2 0) f pl := h2.congr (fun i => ms_ne (by decide))
  refine wp_then (sp_told0 h3 (by decide)) (wp_then rfl ?_)
  have h4 : N10 (mset (mset (mset (mset M 123 0 0) 123 1 0) 123 2 0) 123 3 0) f pl := h3.congr (fun i => ms_ne (by decide))
  refine wp_then (sp_told0 h4 (by decide)) (wp_then rfl ?_)
  have h5 : N10 (mset (mset (mset (mset (mset M 123 0 0) 123 1 0) 123 2 0) 123 3 0) 123 4 0) f pl := h4.congr (fun i => ms_ne (by decide))
  refine wp_then (sp_told0 h5 (by decide)) (wp_then rfl ?_)
  have h6 : N10 (mset (mset (mset (mset (mset (mset M 123 0 0) 123 1 0) 123 2 0) 123 3 0) 123 4 0) 123 5 0) f pl := h5.congr (fun i => ms_ne (by decide))
  refine wp_then (sp_told0 h6 (by decide)) (wpo_of ⟨?_, h6.congr (fun i => ms_ne (by decide))⟩)
  exact (((((F10.rf.g.set).set).set).set).set).set.set
/-- a first line without its word -/
theorem sp_readFirstW {M : Mem} {B : Nat → Int} {n p : Nat} (hp : p ≤ n) (hR : R10 M B n p) (hw : ¬ isW B n p 0) : wpo (f10_readFirst M) (fun M' => G10 M M' ∧ N10 M' 1 (tst B n p)) := by
  unfold f10_readFirst
  refine wp_bind.mpr (wpo_mono (sp_needs1 hp hR (by decide)) ?_)
  rintro N0 ⟨f0, ⟨d0, -⟩ | ⟨-, h⟩⟩
  · exact absurd d0 hw
  · refine wp_then (sp_told0 h (by decide)) (wp_then rfl ?_)
    have h1 : N10 (mset N0 123 0 0) 1 (tst B n p) := h.congr (fun i => ms_ne (by decide))
    refine wp_then (sp_told0 h1 (by decide)) (wp_then rfl ?_)
    have h2 : N10 (mset (mset N0 123 0 0) 123 1 0) 1 (tst B n p) := h1.congr (fun i => ms_ne (by decide))
    refine wp_then (sp_told0 h2 (by decide)) (wp_then rfl ?_)
    have h3 : N10 (mset (mset (mset N0 123 0 0) 123 1 0) 123 2 0) 1 (tst B n p) := h2.congr (fun i => ms_ne (by decide))
    refine wp_then (sp_told0 h3 (by decide)) (wp_then rfl ?_)
    have h4 : N10 (mset (mset (mset (mset N0 123 0 0) 123 1 0) 123 2 0) 123 3 0) 1 (tst B n p) := h3.congr (fun i => ms_ne (by decide))
    refine wp_then (sp_told0 h4 (by decide)) (wp_then rfl ?_)
    have h5 : N10 (mset (mset (mset (mset (mset N0 123 0 0) 123 1 0) 123 2 0) 123 3 0) 123 4 0) 1 (tst B n p) := h4.congr (fun i => ms_ne (by decide))
    refine wp_then (sp_told0 h5 (by decide)) (wp_then rfl ?_)
    have h6 : N10 (mset (mset (mset (mset (mset (mset N0 123 0 0) 123 1 0) 123 2 0) 123 3 0) 123 4 0) 123 5 0) 1 (tst B n p) := h5.congr (fun i => ms_ne (by decide))
    refine wp_then (sp_told0 h6 (by decide)) (wpo_of ⟨?_, h6.congr (fun i => ms_ne (by decide))⟩)
    exact ((((((f0.g).set).set).set).set).set).set.set
/-- a person's line, from its word on: all its fields, or a fault -/
theorem sp_readPerson1 {M : Mem} {B : Nat → Int} {n p m' pl q : Nat} {Q : Nat → Nat} {V : Nat → Int} {f : Int} (hp : p ≤ n) (hR : R10 M B n p) (hw : isW B n p 8) (h7 : M 123 7 = (q : Int)) (hq : q < 8) (q0 : Q 0 = ten B n p) (hm : m' ≤ 4) (hQ : FlS B n 7 m' Q V) (hno : m' < 4 → FldNo B n (Q m') (wd (7 + m')) (flo (7 + m')) (fhi (7 + m')) f pl) : wpo (f10_readPerson M) (fun M' => G10 M M' ∧ SS B n Q m' f pl 4 M' ∧ (m' = 4 → M' 123 7 = (q : Int) + 1 ∧ (∀ i, i ≠ 7 → (i < 10 + 4 * q ∨ 14 + 4 * q ≤ i) → M' 123 i = M 123 i) ∧ ∀ i, i < 4 → M' 123 (10 + 4 * q + i) = V i)) := by
  have hen := ten_bd (B := B) hp
  have hq0 : Q 0 ≤ n := by rw [q0]; exact hen.2
  unfold f10_readPerson
  refine wp_bind.mpr (wpo_mono (sp_is1 hp hR (by decide)) ?_)
  rintro v (⟨rfl, -⟩ | ⟨rfl, hn⟩)
  · refine wp_then (a := M) (wp_is (wp_neg (by decide) (wp_neg (fun z => ?_) (wpo_of rfl)))) ?_
    · rw [h7] at z
      have := (eq32 (by omega) (by omega)).mp z
      omega
    refine wp_bind.mpr (wpo_mono (sp_needs1 hp hR (by decide)) ?_)
    rintro N0 ⟨f0, ⟨-, r0⟩ | ⟨d0, -⟩⟩
    · have s0 : SS B n Q m' f pl 0 N0 := ⟨fun _ => by rw [q0]; exact r0, fun z => by omega⟩
      refine wp_then rfl ?_
      refine wp_bind.mpr (wpo_mono (SS.step (k := 0) (by decide) (by decide) (by decide) hQ hq0 hno (by decide) (by decide) s0) ?_)
      rintro ⟨v0, N1⟩ ⟨f1, u0, s1⟩
      dsimp only at f1 u0 s1 ⊢
      refine wp_bind.mpr (wpo_mono (SS.step (k := 1) (by decide) (by decide) (by decide) hQ hq0 hno (by decide) (by decide) s1) ?_)
      rintro ⟨v1, N2⟩ ⟨f2, u1, s2⟩
      dsimp only at f2 u1 s2 ⊢
      refine wp_bind.mpr (wpo_mono (SS.step (k := 2) (by decide) (by decide) (by decide) hQ hq0 hno (by decide) (by decide) s2) ?_)
      rintro ⟨v2, N3⟩ ⟨f3, u2, s3⟩
      dsimp only at f3 u2 s3 ⊢
      refine wp_bind.mpr (wpo_mono (SS.step (k := 3) (by decide) (by decide) (by decide) hQ hq0 hno (by decide) (by decide) s3) ?_)
      rintro ⟨v3, N4⟩ ⟨f4, u3, s4⟩
      dsimp only at f4 u3 s4 ⊢
      have g : G10 M N4 := (((f0.g.tr f1.g).tr f2.g).tr f3.g).tr f4.g
      have e4 : ∀ i, N4 123 i = M 123 i := fun i => (f4 123 i (Or.inl (by decide))).trans ((f3 123 i (Or.inl (by decide))).trans ((f2 123 i (Or.inl (by decide))).trans ((f1 123 i (Or.inl (by decide))).trans (f0 123 i (Or.inl (by decide))))))
      have e0 : N0 123 7 = (q : Int) := (f0 123 7 (Or.inl (by decide))).trans h7
      by_cases c : m' < 4
      · refine wp_then (sp_good1 (s4.2 c)) (wp_pos (by decide) (wpo_of ⟨g, s4, fun z => by omega⟩))
      · have c4 : m' = 4 := by omega
        have r4 := s4.1 (by omega)
        refine wp_then (sp_good0 r4.2.1) (wp_neg (by decide) ?_)
        rw [e0]
        have t0 : (10 + 4 * (q : Int) + 0).toNat = 10 + 4 * q := by omega
        have t1 : (10 + 4 * (q : Int) + 1).toNat = 10 + 4 * q + 1 := by omega
        have t2 : (10 + 4 * (q : Int) + 2).toNat = 10 + 4 * q + 2 := by omega
        have t3 : (10 + 4 * (q : Int) + 3).toNat = 10 + 4 * q + 3 := by omega
        refine wp_pos (by omega) (wp_then rfl (wp_pos (by omega) (wp_then rfl (wp_pos (by omega) (wp_then rfl (wp_pos (by omega) (wp_then rfl (wpo_of ?_))))))))
        rw [t0, t1, t2, t3]
        refine ⟨((((g.set).set).set).set).set, s4.congr (fun c i h => ?_), fun _ => ⟨?_, fun i h1 h2 => ?_, fun i hi => ?_⟩⟩
        · rw [ms_ne (by omega), ms_ne (by omega), ms_ne (by omega), ms_ne (by omega), ms_ne (by omega)]
        · rw [ms_same, ms_ni (by omega), ms_ni (by omega), ms_ni (by omega), ms_ni (by omega), e4, h7]
        · rw [ms_ni h1, ms_ni (by omega), ms_ni (by omega), ms_ni (by omega), ms_ni (by omega), e4]
        · have hc : i = 0 ∨ i = 1 ∨ i = 2 ∨ i = 3 := by omega
          rw [ms_ni (by omega)]
          rcases hc with rfl | rfl | rfl | rfl
          · rw [ms_ni (by omega), ms_ni (by omega), ms_ni (by omega)]
            show mset N4 123 (10 + 4 * q) v0 123 (10 + 4 * q) = V 0
            rw [ms_same]
            exact u0 (by omega)
          · rw [ms_ni (by omega), ms_ni (by omega), ms_same]
            exact u1 (by omega)
          · rw [ms_ni (by omega), ms_same]
            exact u2 (by omega)
          · rw [ms_same]
            exact u3 (by omega)
    · exact absurd hw d0
  · exact absurd hw hn
theorem sp_person0 {N0 : Mem} {f : Int} {pl : Nat} (h : N10 N0 f pl) {v1 : Int} : wpo (Option.bind (f10_told N0 9 1 20) fun (a4 : Int × Mem) => Option.bind (f10_told a4.2 10 0 11) fun (a5 : Int × Mem) => Option.bind (f10_told a5.2 11 1 9) fun (a6 : Int × Mem) => Option.bind (f10_told a6.2 12 0 20) fun (a7 : Int × Mem) => Option.bind (f10_good a7.2) fun (a8 : Int) => if w32 a8 = 0 then some a7.2 else if 0 ≤ (v1 + 0) ∧ (v1 + 0) < 72 then Option.bind (some (mset a7.2 123 (v1 + 0).toNat a4.1)) fun (D1 : Mem) => if 0 ≤ (v1 + 1) ∧ (v1 + 1) < 72 then Option.bind (some (mset D1 123 (v1 + 1).toNat a5.1)) fun (D2 : Mem) => if 0 ≤ (v1 + 2) ∧ (v1 + 2) < 72 then Option.bind (some (mset D2 123 (v1 + 2).toNat a6.1)) fun (D3 : Mem) => if 0 ≤ (v1 + 3) ∧ (v1 + 3) < 72 then Option.bind (some (mset D3 123 (v1 + 3).toNat a7.1)) fun (D4 : Mem) => some (mset D4 123 7 ((D4 123 7) + 1)) else none else none else none else none) (fun M' => M' = N0) := by
  refine wp_then (sp_told0 h (by decide)) (wp_then (sp_told0 h (by decide)) (wp_then (sp_told0 h (by decide)) (wp_then (sp_told0 h (by decide)) ?_)))
  exact wp_then (sp_good1 h) (wp_pos (by decide) (wpo_of rfl))
/-- a person's line that fails at its word -/
theorem sp_readPersonW {M : Mem} {B : Nat → Int} {n p : Nat} (hp : p ≤ n) (hR : R10 M B n p) (h7 : 0 ≤ M 123 7 ∧ M 123 7 ≤ 8) (hw : ¬ isW B n p 8 ∨ (isW B n p 8 ∧ M 123 7 = 8)) : wpo (f10_readPerson M) (fun M' => G10 M M' ∧ N10 M' (if M 123 7 = 8 ∧ tkd B n p = 1 ∧ ten B n p = tst B n p + lw 8 ∧ (∀ i, i < lw 8 → B (tst B n p + i) = chS 8 i) then 3 else 1) (tst B n p)) := by
  have ew : (tkd B n p = 1 ∧ ten B n p = tst B n p + lw 8 ∧ (∀ i, i < lw 8 → B (tst B n p + i) = chS 8 i)) ↔ isW B n p 8 := Iff.rfl
  unfold f10_readPerson
  refine wp_bind.mpr (wpo_mono (sp_is1 hp hR (by decide)) ?_)
  rintro v (⟨rfl, h⟩ | ⟨rfl, h⟩)
  · have h8 : M 123 7 = 8 := by
      rcases hw with hw | hw
      · exact absurd h hw
      · exact hw.2
    obtain ⟨o1, o2⟩ := N10.of hR (f := 3) (by decide)
    refine wp_then (wp_is (wp_neg (by decide) (wp_pos (by rw [h8]) (wp_then (sp_errs0 hR.2.1) (wpo_of rfl))))) ?_
    refine wp_then (sp_needs0 o1 (by decide)) (wp_then rfl ?_)
    refine wpo_mono (sp_person0 o1) ?_
    rintro M' rfl
    rw [if_pos ⟨h8, h⟩]
    exact ⟨o2.g, o1⟩
  · refine wp_then (a := M) (if_pos (by decide)) ?_
    refine wp_bind.mpr (wpo_mono (sp_needs1 hp hR (by decide)) ?_)
    rintro N0 ⟨f0, ⟨d0, -⟩ | ⟨-, o1⟩⟩
    · exact absurd d0 h
    · refine wp_then rfl ?_
      refine wpo_mono (sp_person0 o1) ?_
      rintro M' rfl
      rw [if_neg (fun z => h z.2)]
      exact ⟨f0.g, o1⟩
