/-! WHOSE, FITS, ASK, LEAVES (by hand) -/
def pc (a : Nat) : Nat := (List.range 12).countP (fun i => a.testBit i)
theorem pc_bd {a : Nat} : pc a ≤ 12 := by
  have := List.countP_le_length (p := fun i => a.testBit i) (l := List.range 12)
  simpa [pc] using this
theorem pc_all : ∀ a : Nat, a < 512 → f13_bitCount (fun _ _ => 0) (a : Int) = some (pc a : Int) ∧ f10_bits (fun _ _ => 0) (a : Int) = some (pc a : Int) := by decide +kernel
theorem sp_bitCount {D : Mem} {a : Nat} (h : a < 512) : f13_bitCount D (a : Int) = some (pc a : Int) := (pc_all a h).1
theorem sp_bits {D : Mem} {a : Nat} (h : a < 512) : f10_bits D (a : Int) = some (pc a : Int) := (pc_all a h).2
theorem nset_lt9 (f : Nat → Bool) : nset f 9 < 512 := nset_lt f 9
theorem bit9 {f : Nat → Bool} {p : Nat} (hp : p < 9) : and32 (shr32 ((nset f 9 : Nat) : Int) (p : Int)) 1 = if f p = true then 1 else 0 := by
  rw [bit_of (nset_lt9 f) (by omega), nset_bit]
  simp [hp]
def mx (g : Nat → Int) : Nat → Int
  | 0 => 0
  | n + 1 => max (mx g n) (g n)
theorem mx_bd {g : Nat → Int} {n : Nat} {hi : Int} (h0 : 0 ≤ hi) (h : ∀ i, i < n → g i ≤ hi) : 0 ≤ mx g n ∧ mx g n ≤ hi := by
  induction n with
  | zero => exact ⟨Int.le_refl _, h0⟩
  | succ n ih =>
    have h1 := ih (fun i hi => h i (Nat.lt_succ_of_lt hi))
    have h2 := h n (Nat.lt_succ_self n)
    rw [mx]
    omega
theorem mx_congr {g g' : Nat → Int} {n : Nat} (h : ∀ i, i < n → g' i = g i) : mx g' n = mx g n := by
  induction n with
  | zero => rfl
  | succ n ih => rw [mx, mx, ih (fun i hi => h i (Nat.lt_succ_of_lt hi)), h n (Nat.lt_succ_self n)]
theorem mx_upd {g g' : Nat → Int} {n t : Nat} (ht : t < n) (h : ∀ i, i < n → i ≠ t → g' i = g i) (h0 : g t ≤ g' t) : mx g' n = max (mx g n) (g' t) := by
  induction n with
  | zero => omega
  | succ n ih =>
    rw [mx, mx]
    by_cases e : t = n
    · subst e
      rw [mx_congr (fun i hi => h i (Nat.lt_succ_of_lt hi) (Nat.ne_of_lt hi))]
      omega
    · rw [ih (by omega) (fun i hi hne => h i (Nat.lt_succ_of_lt hi) hne), h n (Nat.lt_succ_self n) (fun e' => e e'.symm)]
      omega
/-- how many suspects, of the first k, have t teeth by the end of night n -/
def cN (D : Mem) (s L n : Nat) (k t : Nat) : Int := sumN (fun w => if sF D s L w = true ∧ sC D w n = (t : Int) then 1 else 0) k
def wst (D : Mem) (s L n : Nat) : Int := mx (cN D s L n 9) 21
theorem cN_bd {D : Mem} {s L n k t : Nat} : 0 ≤ cN D s L n k t ∧ cN D s L n k t ≤ k := by
  have := sumN_bd (f := fun w => if sF D s L w = true ∧ sC D w n = (t : Int) then 1 else 0) (n := k) (lo := 0) (hi := 1) (fun i _ => by split <;> decide)
  unfold cN
  omega
theorem cN_yes {D : Mem} {s L n k t : Nat} (h : sF D s L k = true ∧ sC D k n = (t : Int)) : cN D s L n (k + 1) t = cN D s L n k t + 1 := by
  unfold cN
  rw [sumN, if_pos h]
theorem cN_no {D : Mem} {s L n k t : Nat} (h : ¬ (sF D s L k = true ∧ sC D k n = (t : Int))) : cN D s L n (k + 1) t = cN D s L n k t := by
  unfold cN
  rw [sumN, if_neg h, Int.add_zero]
theorem wst_bd {D : Mem} {s L n : Nat} : 0 ≤ wst D s L n ∧ wst D s L n ≤ 9 := mx_bd (by decide) (fun i _ => cN_bd.2)
/-- the class's memory with the suspects laid -/
def QS (D M : Mem) (s L : Nat) : Prop := SK D M ∧ M 67 2 = ((nset (sF D s L) 9 : Nat) : Int) ∧ ∀ w, w < 9 → (w < yP (yW (D 118)) ∨ w = 8) → ∀ n, n < yN (yW (D 118)) → M 68 (12 * w + n) = sC D w n
theorem sp_mostAlike {D M : Mem} {s L n : Nat} (hI : IC D) (hG : GT D s L) (hQ : QS D M s L) (hn : n < yN (yW (D 118))) : wpo (f6_mostAlike M (n : Int)) (fun r => r.1 = wst D s L n ∧ ∀ c i, c ≠ 69 → r.2 c i = M c i) := by
  have hN := hI.N
  obtain ⟨q1, q2, q3⟩ := hQ
  unfold f6_mostAlike
  refine wp_then (sp_fillI (by decide)) ?_
  refine wp_bind.mpr (wpo_mono (P := fun r => r.1 = wst D s L n ∧ ∀ c i, c ≠ 69 → r.2 c i = M c i) ?_ (fun r hr => wpo_of hr))
  refine wp_for (I := fun k t => t.1 = mx (cN D s L n k) 21 ∧ t.2.1 = (k : Int) ∧ (∀ c i, c ≠ 69 → t.2.2 c i = M c i) ∧ ∀ j, j < 21 → t.2.2 69 j = cN D s L n k j) 9 ?_ ?_ FU 0 _ ⟨?_, rfl, fun c i h => mf_ne h, fun j hj => mf_same hj⟩ (Nat.zero_le _) (by unfold FU; omega)
  · rintro k ⟨t1, t2, N⟩ hk ⟨e1, e2, e3, e4⟩
    dsimp only at e1 e2 e3 e4 ⊢
    subst e1 e2
    have hmb := mx_bd (g := cN D s L n k) (n := 21) (hi := 9) (by decide) (fun i _ => by have := cN_bd (D := D) (s := s) (L := L) (n := n) (k := k) (t := i); omega)
    refine wp_neg (fun q => absurd ((lt32 (by omega) (by omega)).mp q) (by omega)) ?_
    have hbit : and32 (shr32 (N 67 2) (k : Int)) 1 = if sF D s L k = true then 1 else 0 := by
      rw [e3 67 2 (by decide), q2]
      exact bit9 hk
    refine wp_bind.mpr (wpo_mono (P := fun j => j.1 = mx (cN D s L n (k + 1)) 21 ∧ (∀ c i, c ≠ 69 → j.2 c i = M c i) ∧ ∀ i, i < 21 → j.2 69 i = cN D s L n (k + 1) i) ?_ (fun j hj => wpo_of ⟨hj.1, by dsimp only; omega, hj.2⟩))
    by_cases c : sF D s L k = true
    · refine wp_neg (by rw [hbit, if_pos c]; decide) (wp_pos (by omega) (wp_then rfl ?_))
      have hval : k < yP (yW (D 118)) ∨ k = 8 := by
        have h := c
        unfold sF at h
        rw [decide_eq_true_eq] at h
        exact h.1
      have et : ((k : Int) * 12 + (n : Int)).toNat = 12 * k + n := by omega
      have hv : N 68 ((k : Int) * 12 + (n : Int)).toNat = sC D k n := by
        rw [et, e3 68 _ (by decide)]
        exact q3 k hk hval n hn
      have hsb := sC_bd hI hG.2.1 (w := k) (n := n)
      obtain ⟨t, ht⟩ : ∃ t : Nat, sC D k n = (t : Int) := ⟨(sC D k n).toNat, by omega⟩
      have ht21 : t < 21 := by omega
      have hcb := cN_bd (D := D) (s := s) (L := L) (n := n) (k := k) (t := t)
      rw [hv, ht, Int.toNat_natCast]
      refine wp_pos (by omega) (wp_then rfl (wpo_of ⟨?_, fun c i h => ?_, fun i hi => ?_⟩))
      · dsimp only
        rw [ms_same, e4 t ht21, max32_id (by omega) (by omega), ← cN_yes ⟨c, ht⟩]
        refine (mx_upd ht21 (fun i hi hne => cN_no (fun z => ?_)) (by rw [cN_yes ⟨c, ht⟩]; omega)).symm
        have := z.2
        omega
      · dsimp only
        rw [ms_ne h]
        exact e3 c i h
      · dsimp only
        by_cases hit : i = t
        · subst hit
          rw [ms_same, e4 i hi, cN_yes ⟨c, ht⟩]
        · rw [ms_ni hit, e4 i hi, cN_no (fun z => hit (by have := z.2; omega))]
    · refine wp_pos (by rw [hbit, if_neg c]; decide) (wpo_of ⟨?_, e3, fun i hi => ?_⟩)
      · exact mx_congr (fun i _ => (cN_no (fun z => c z.1)).symm)
      · dsimp only
        rw [e4 i hi, cN_no (fun z => c z.1)]
  · rintro ⟨t1, t2, N⟩ ⟨e1, e2, e3, e4⟩
    dsimp only at e1 e2 e3 e4 ⊢
    subst e1 e2
    exact wp_pos ((lt32 (by omega) (by omega)).mpr (by omega)) (wpo_of ⟨rfl, e3⟩)
  · dsimp only
    have := mx_bd (g := cN D s L n 0) (n := 21) (hi := 0) (by decide) (fun i _ => by have := cN_bd (D := D) (s := s) (L := L) (n := n) (k := 0) (t := i); omega)
    omega
/-- the best night, and how many it leaves -/
def yAsk (D : Mem) (s L : Nat) : Int × Int := ymin (-1, (pc (nset (sF D s L) 9) : Int)) (wst D s L) (yN (yW (D 118)))
theorem yAsk_bd {D : Mem} {s L k : Nat} : 0 ≤ (ymin (-1, (pc (nset (sF D s L) 9) : Int)) (wst D s L) k).2 ∧ (ymin (-1, (pc (nset (sF D s L) 9) : Int)) (wst D s L) k).2 ≤ 12 := by
  have h := pc_bd (a := nset (sF D s L) 9)
  exact ymin_bd (by dsimp only; omega) (fun i _ => wst_bd.1)
set_option maxHeartbeats 1000000 in
theorem sp_question {D M : Mem} {s L : Nat} (hI : IC D) (hS : IS D) (hG : GT D s L) (hs : SK D M) : wpo (f6_question M (109 + 2 * s)) (fun M' => SK D M' ∧ M' 67 2 = ((nset (sF D s L) 9 : Nat) : Int) ∧ M' 67 3 = (yAsk D s L).1 ∧ M' 67 4 = (yAsk D s L).2) := by
  have hP := hI.P
  have hN := hI.N
  unfold f6_question
  refine wp_then rfl ?_
  refine wp_bind.mpr (wpo_mono (P := fun B => QS D B s L) ?_ ?_)
  · refine wp_for (I := fun w t => t.1 = (w : Int) ∧ SK D t.2 ∧ t.2 67 2 = ((nset (sF D s L) w : Nat) : Int) ∧ ∀ v, v < w → (v < yP (yW (D 118)) ∨ v = 8) → ∀ n, n < yN (yW (D 118)) → t.2 68 (12 * v + n) = sC D v n) 9 ?_ ?_ FU 0 _ ⟨rfl, hs.set (by unfold scr; omega), (by dsimp only; rw [ms_same]; rfl), fun v hv => absurd hv (Nat.not_lt_zero _)⟩ (Nat.zero_le _) (by unfold FU; omega)
    · rintro w ⟨t1, N⟩ hw ⟨e1, e2, e3, e4⟩
      dsimp only at e1 e2 e3 e4 ⊢
      subst e1
      have k8 : N 12 8 = D 118 7 := (e2.keep (Or.inl (by decide)) 8).trans hI.e8
      refine wp_neg (fun q => absurd ((lt32 (by omega) (by omega)).mp q) (by omega)) ?_
      refine wp_bind.mpr (wpo_mono (P := fun j => SK D j ∧ j 67 2 = ((nset (sF D s L) (w + 1) : Nat) : Int) ∧ ∀ v, v < w + 1 → (v < yP (yW (D 118)) ∨ v = 8) → ∀ n, n < yN (yW (D 118)) → j 68 (12 * v + n) = sC D v n) ?_ (fun j hj => wpo_of ⟨by dsimp only; omega, hj⟩))
      have sus : (w < yP (yW (D 118)) ∨ w = 8) → wpo (f6_suspect N (109 + 2 * s) (w : Int)) (fun j => SK D j ∧ j 67 2 = ((nset (sF D s L) (w + 1) : Nat) : Int) ∧ ∀ v, v < w + 1 → (v < yP (yW (D 118)) ∨ v = 8) → ∀ n, n < yN (yW (D 118)) → j 68 (12 * v + n) = sC D v n) := by
        intro hval
        refine wpo_mono (sp_suspect hI hS hG e2 hval) ?_
        rintro j ⟨j1, j2, j3, j4⟩
        refine ⟨e2.tr j1.sk, ?_, fun v hv hv2 n hn => ?_⟩
        · rw [j4, e3, ← or_next2 (by omega)]
          by_cases cb : sB D s w L = true
          · rw [if_pos cb, if_pos (by unfold sF; rw [decide_eq_true_eq]; exact ⟨hval, cb⟩)]
          · rw [if_neg cb, if_neg (by unfold sF; rw [decide_eq_true_eq]; exact fun z => cb z.2)]
        · by_cases hvw : v = w
          · subst hvw
            exact j2 n hn
          · rw [j3 _ (by omega)]
            exact e4 v (by omega) hv2 n hn
      by_cases c1 : (w : Int) < D 118 7
      · refine wp_pos (by rw [k8]; exact (lt32 (by omega) (by omega)).mpr c1) ?_
        exact wp_bind.mpr (wpo_mono (sus (Or.inl (by omega))) (fun j hj => wpo_of hj))
      · refine wp_neg (by rw [k8]; exact fun q => c1 ((lt32 (by omega) (by omega)).mp q)) ?_
        by_cases c2 : w = 8
        · refine wp_pos (by rw [c2]; rfl) ?_
          exact wp_bind.mpr (wpo_mono (sus (Or.inr c2)) (fun j hj => wpo_of hj))
        · refine wp_neg (fun z => c2 (by have := (eq32 (by omega) (by omega)).mp z; omega)) (wpo_of ⟨e2, ?_, fun v hv hv2 n hn => ?_⟩)
          · have hf : sF D s L w = false := by
              unfold sF
              refine decide_eq_false (fun z => ?_)
              have := z.1
              omega
            rw [e3, ← or_next2 (by omega), if_neg (by rw [hf]; decide)]
          · exact e4 v (by omega) hv2 n hn
    · rintro ⟨t1, N⟩ ⟨e1, e2, e3, e4⟩
      dsimp only at e1 e2 e3 e4 ⊢
      subst e1
      exact wp_pos ((lt32 (by omega) (by omega)).mpr (by omega)) (wpo_of ⟨e2, e3, e4⟩)
  · rintro B ⟨q1, q2, q3⟩
    have hpc := pc_bd (a := nset (sF D s L) 9)
    refine wp_then rfl ?_
    refine wp_then (by rw [ms_ni (by decide), q2]; exact sp_bitCount (nset_lt9 _)) (wp_then rfl ?_)
    refine wp_bind.mpr ?_
    simp only [wp_some]
    refine wp_for (I := fun k t => t.1 = (k : Int) ∧ QS D t.2 s L ∧ t.2 67 3 = (ymin (-1, (pc (nset (sF D s L) 9) : Int)) (wst D s L) k).1 ∧ t.2 67 4 = (ymin (-1, (pc (nset (sF D s L) 9) : Int)) (wst D s L) k).2) (yN (yW (D 118))) ?_ ?_ FU 0 _ ⟨rfl, ⟨(q1.set (by unfold scr; omega)).set (by unfold scr; omega), ?_, fun w h1 h2 n h3 => ?_⟩, ?_, (by dsimp only; rw [ms_same]; rfl)⟩ (Nat.zero_le _) (by unfold FU; omega)
    · rintro k ⟨t1, N⟩ hk ⟨e1, e2, e3, e4⟩
      dsimp only at e1 e2 e3 e4 ⊢
      subst e1
      have k1 : N 12 1 = D 118 0 := (e2.1.keep (Or.inl (by decide)) 1).trans hI.e1
      have hyb := yAsk_bd (D := D) (s := s) (L := L) (k := k)
      have hwb := wst_bd (D := D) (s := s) (L := L) (n := k)
      refine wp_pos (by rw [k1]; exact (lt32 (by omega) (by omega)).mpr (by omega)) ?_
      refine wp_bind.mpr (wpo_mono (sp_mostAlike hI hG e2 hk) ?_)
      rintro ⟨v, A⟩ ⟨rfl, hA⟩
      dsimp only at hA ⊢
      have qA : QS D A s L := by
        refine ⟨fun c i a => (hA c i (by unfold scr at a; omega)).trans (e2.1 c i a), ?_, fun w h1 h2 n h3 => ?_⟩
        · rw [hA 67 2 (by decide)]
          exact e2.2.1
        · rw [hA 68 _ (by decide)]
          exact e2.2.2 w h1 h2 n h3
      have en : ymin (-1, (pc (nset (sF D s L) 9) : Int)) (wst D s L) (k + 1) = if wst D s L k < (ymin (-1, (pc (nset (sF D s L) 9) : Int)) (wst D s L) k).2 then ((k : Int), wst D s L k) else ymin (-1, (pc (nset (sF D s L) 9) : Int)) (wst D s L) k := rfl
      have a3 : A 67 3 = (ymin (-1, (pc (nset (sF D s L) 9) : Int)) (wst D s L) k).1 := (hA 67 3 (by decide)).trans e3
      have a4 : A 67 4 = (ymin (-1, (pc (nset (sF D s L) 9) : Int)) (wst D s L) k).2 := (hA 67 4 (by decide)).trans e4
      by_cases c : wst D s L k < (ymin (-1, (pc (nset (sF D s L) 9) : Int)) (wst D s L) k).2
      · refine wp_then (a := mset (mset A 67 4 (wst D s L k)) 67 3 (k : Int)) (if_pos (by rw [a4]; exact (lt32 (by omega) (by omega)).mpr c)) (wpo_of ⟨by dsimp only; omega, ⟨(qA.1.set (by unfold scr; omega)).set (by unfold scr; omega), ?_, fun w h1 h2 n h3 => ?_⟩, ?_, ?_⟩)
        · dsimp only
          rw [ms_ni (by decide), ms_ni (by decide)]
          exact qA.2.1
        · dsimp only
          rw [ms_ne (by decide), ms_ne (by decide)]
          exact qA.2.2 w h1 h2 n h3
        · dsimp only
          rw [ms_same, en, if_pos c]
        · dsimp only
          rw [ms_ni (by decide), ms_same, en, if_pos c]
      · refine wp_then (a := A) (if_neg (by rw [a4]; exact fun z => c ((lt32 (by omega) (by omega)).mp z))) (wpo_of ⟨by dsimp only; omega, qA, ?_, ?_⟩)
        · dsimp only
          rw [en, if_neg c]
          exact a3
        · dsimp only
          rw [en, if_neg c]
          exact a4
    · rintro ⟨t1, N⟩ ⟨e1, e2, e3, e4⟩
      dsimp only at e1 e2 e3 e4 ⊢
      subst e1
      have k1 : N 12 1 = D 118 0 := (e2.1.keep (Or.inl (by decide)) 1).trans hI.e1
      exact wp_neg (by rw [k1]; exact fun z => absurd ((lt32 (by omega) (by omega)).mp z) (by omega)) (wpo_of ⟨e2.1, e2.2.1, e3, e4⟩)
    · dsimp only
      rw [ms_ni (by decide), ms_ni (by decide)]
      exact q2
    · dsimp only
      rw [ms_ne (by decide), ms_ne (by decide)]
      exact q3 w h1 h2 n h3
    · dsimp only
      rw [ms_ni (by decide), ms_same]
      rfl
set_option maxHeartbeats 1000000 in
theorem sp_askOf {D M : Mem} {s L : Nat} (hI : IC D) (hs : SK D M) (h140 : ∀ w, w < 9 → (w < yP (yW (D 118)) ∨ w = 8) → ∀ n, n < yN (yW (D 118)) → M 140 (12 * w + n) = sC D w n) (hsb : ∀ w n, 0 ≤ sC D w n ∧ sC D w n ≤ 20) : wpo (f10_askOf M ((nset (sF D s L) 9 : Nat) : Int)) (fun r => r.1 = (yAsk D s L).1 ∧ SK D r.2 ∧ r.2 117 40 = (yAsk D s L).2) := by
  have hN := hI.N
  have hpc := pc_bd (a := nset (sF D s L) 9)
  unfold f10_askOf
  refine wp_then (sp_bits (nset_lt9 _)) (wp_then rfl ?_)
  refine wp_bind.mpr (wpo_mono (P := fun r => r.1 = (yAsk D s L).1 ∧ SK D r.2 ∧ r.2 117 40 = (yAsk D s L).2) ?_ (fun r hr => wpo_of hr))
  refine wp_for (I := fun k t => t.1 = (ymin (-1, (pc (nset (sF D s L) 9) : Int)) (wst D s L) k).1 ∧ t.2.1 = (k : Int) ∧ SK D t.2.2 ∧ t.2.2 117 40 = (ymin (-1, (pc (nset (sF D s L) 9) : Int)) (wst D s L) k).2 ∧ ∀ w, w < 9 → (w < yP (yW (D 118)) ∨ w = 8) → ∀ n, n < yN (yW (D 118)) → t.2.2 140 (12 * w + n) = sC D w n) (yN (yW (D 118))) ?_ ?_ FU 0 _ ⟨rfl, rfl, hs.set (by unfold scr; omega), (by dsimp only; rw [ms_same]; rfl), fun w h1 h2 n h3 => by dsimp only; rw [ms_ne (by decide)]; exact h140 w h1 h2 n h3⟩ (Nat.zero_le _) (by unfold FU; omega)
  · rintro k ⟨t1, t2, N⟩ hk ⟨e1, e2, e3, e4, e5⟩
    dsimp only at e1 e2 e3 e4 e5 ⊢
    subst e1 e2
    have hn : f10_nights N = some (D 118 0) := by
      show some (N 118 0) = _
      rw [e3.w]
    have hyb := yAsk_bd (D := D) (s := s) (L := L) (k := k)
    have hwb := wst_bd (D := D) (s := s) (L := L) (n := k)
    refine wp_then hn (wp_pos ((lt32 (by omega) (by omega)).mpr (by omega)) ?_)
    refine wp_bind.mpr (wpo_mono (P := fun v => v = wst D s L k) ?_ ?_)
    · refine wp_for (I := fun j u => u = (mx (cN D s L k 9) j, (j : Int))) 21 ?_ ?_ FU 0 _ rfl (Nat.zero_le _) (by unfold FU; omega)
      · rintro j u hj rfl
        dsimp only
        have hmb := mx_bd (g := cN D s L k 9) (n := j) (hi := 9) (by decide) (fun i _ => by have := cN_bd (D := D) (s := s) (L := L) (n := k) (k := 9) (t := i); omega)
        have hcb := cN_bd (D := D) (s := s) (L := L) (n := k) (k := 9) (t := j)
        refine wp_neg (fun q => absurd ((lt32 (by omega) (by omega)).mp q) (by omega)) ?_
        refine wp_bind.mpr (wpo_mono (P := fun v => v = cN D s L k 9 j) ?_ ?_)
        · refine wp_for (I := fun w u => u = (cN D s L k w j, (w : Int))) 9 ?_ ?_ FU 0 _ rfl (Nat.zero_le _) (by unfold FU; omega)
          · rintro w u hw rfl
            dsimp only
            refine wp_neg (fun q => absurd ((lt32 (by omega) (by omega)).mp q) (by omega)) ?_
            have hbit : f10_bit N ((nset (sF D s L) 9 : Nat) : Int) (w : Int) = some (if sF D s L w = true then 1 else 0) := by
              unfold f10_bit
              rw [bit9 hw]
            refine wp_then hbit ?_
            refine wp_then (a := if sF D s L w = true ∧ sC D w k = (j : Int) then 1 else 0) ?_ (wpo_of rfl)
            refine wp_is ?_
            by_cases c : sF D s L w = true
            · have hval : w < yP (yW (D 118)) ∨ w = 8 := by
                have h := c
                unfold sF at h
                rw [decide_eq_true_eq] at h
                exact h.1
              have et : (12 * (w : Int) + (k : Int)).toNat = 12 * w + k := by omega
              have hb := hsb w k
              refine wp_pos (by rw [if_pos c]) (wp_pos (by omega) ?_)
              by_cases c2 : sC D w k = (j : Int)
              · exact wp_pos (by rw [et, e5 w hw hval k hk, c2]) (wpo_of (by rw [if_pos ⟨c, c2⟩]))
              · refine wp_neg (fun z => c2 ?_) (wpo_of (by rw [if_neg (fun z => c2 z.2)]))
                rw [et, e5 w hw hval k hk] at z
                exact (eq32 (by omega) (by omega)).mp z
            · exact wp_neg (by rw [if_neg c]; decide) (wpo_of (by rw [if_neg (fun z => c z.1)]))
          · rintro u rfl
            dsimp only
            exact wp_pos ((lt32 (by omega) (by omega)).mpr (by omega)) (wpo_of rfl)
        · rintro v rfl
          refine wpo_of ?_
          rw [max32_id (by omega) (by omega)]
          rfl
      · rintro u rfl
        dsimp only
        exact wp_pos ((lt32 (by omega) (by omega)).mpr (by omega)) (wpo_of rfl)
    · rintro v rfl
      have en : ymin (-1, (pc (nset (sF D s L) 9) : Int)) (wst D s L) (k + 1) = if wst D s L k < (ymin (-1, (pc (nset (sF D s L) 9) : Int)) (wst D s L) k).2 then ((k : Int), wst D s L k) else ymin (-1, (pc (nset (sF D s L) 9) : Int)) (wst D s L) k := rfl
      by_cases c : wst D s L k < (ymin (-1, (pc (nset (sF D s L) 9) : Int)) (wst D s L) k).2
      · refine wp_then (a := ((k : Int), mset N 117 40 (wst D s L k))) (if_pos (by rw [e4]; exact (lt32 (by omega) (by omega)).mpr c)) (wpo_of ⟨?_, by dsimp only; omega, e3.set (by unfold scr; omega), ?_, fun w h1 h2 n h3 => ?_⟩)
        · dsimp only
          rw [en, if_pos c]
        · dsimp only
          rw [ms_same, en, if_pos c]
        · dsimp only
          rw [ms_ne (by decide)]
          exact e5 w h1 h2 n h3
      · refine wp_then (a := ((ymin (-1, (pc (nset (sF D s L) 9) : Int)) (wst D s L) k).1, N)) (if_neg (by rw [e4]; exact fun z => c ((lt32 (by omega) (by omega)).mp z))) (wpo_of ⟨?_, by dsimp only; omega, e3, ?_, e5⟩)
        · dsimp only
          rw [en, if_neg c]
        · dsimp only
          rw [en, if_neg c]
          exact e4
  · rintro ⟨t1, t2, N⟩ ⟨e1, e2, e3, e4, e5⟩
    dsimp only at e1 e2 e3 e4 e5 ⊢
    subst e1 e2
    have hn : f10_nights N = some (D 118 0) := by
      show some (N 118 0) = _
      rw [e3.w]
    exact wp_then hn (wp_neg (fun z => absurd ((lt32 (by omega) (by omega)).mp z) (by omega)) (wpo_of ⟨rfl, e3, e4⟩))
/-- a call of a row of teeth -/
theorem ag_teeth {D : Mem} {x : Int} {k9 : Mem → Option (Int × Mem)} {k10 : Int × Mem → Option (Int × Mem)} (hI : IC D) (hS : IS D) (hx : A32 x)
    (hneg : ∀ r : Int × Mem, (r.1 = -2 ∨ r.1 = -6) → k10 r = some (r.1, r.2))
    (h : ∀ s L, GT D s L → ∀ M, SK D M → M 67 2 = ((nset (sF D s L) 9 : Nat) : Int) → M 67 3 = (yAsk D s L).1 → M 67 4 = (yAsk D s L).2 → wpo (k9 M) (fun a => SK D a.2 ∧ ∀ N, SK D N → (∀ w, w < 9 → (w < yP (yW (D 118)) ∨ w = 8) → ∀ n, n < yN (yW (D 118)) → N 140 (12 * w + n) = sC D w n) → wpo (k10 (((nset (sF D s L) 9 : Nat) : Int), N)) (fun c => w32 a.1 = w32 c.1 ∧ SK D c.2))) :
    AGi D (Option.bind (f9_troubleOfTeeth D x) fun (a1 : Int) => if w32 a1 = 0 then (if 0 ≤ x ∧ x < 4 then Option.bind (f6_question D (109 + 2 * x.toNat)) fun (a2 : Mem) => k9 a2 else none) else some (a1, D)) (fun M => Option.bind (f10_layWhose M x) fun (a1 : Int × Mem) => k10 a1) := by
  unfold AGi
  refine wp_bind.mpr (wpo_mono (sp_troubleOfTeeth hI hS hx) ?_)
  rintro v (⟨rfl, s, L, rfl, hG⟩ | ⟨hv, hr⟩)
  · have h4 := hG.1
    refine wp_pos (by decide) (wp_pos (by omega) ?_)
    rw [Int.toNat_natCast]
    refine wp_bind.mpr (wpo_mono (sp_question hI hS hG SK.rf) ?_)
    rintro M ⟨q1, q2, q3, q4⟩
    refine wpo_mono (h s L hG M q1 q2 q3 q4) ?_
    rintro a ⟨sa, ka⟩
    refine wp_bind.mpr (wpo_mono (sp_layWhose hI hS hG sa) ?_)
    rintro ⟨r1, r2⟩ ⟨e1, e2, e3⟩
    dsimp only at e1 e2 e3
    subst e1
    exact ka r2 e2 e3
  · refine wp_neg (by rcases hv with rfl | rfl <;> decide) (wpo_of ?_)
    refine wp_bind.mpr (wpo_mono (hr D SK.rf) ?_)
    rintro r ⟨r1, r2⟩
    rw [hneg r (by rw [r1]; exact hv)]
    exact wpo_of ⟨by dsimp only; rw [r1], r2⟩
theorem set9_nn {D : Mem} {s L : Nat} : ¬ w32 ((nset (sF D s L) 9 : Nat) : Int) < 0 := by
  have := nset_lt9 (sF D s L)
  rw [w32_id (by omega)]
  omega
theorem neg_lt {v : Int} (h : v = -2 ∨ v = -6) : w32 v < 0 := by rcases h with rfl | rfl <;> decide
theorem ag_whose {D : Mem} {x : Int} (hI : IC D) (hS : IS D) (hx : A32 x) : AGi D (f9_whose D x) (fun M => f10_whose M x) := by
  refine ag_teeth hI hS hx (fun r _ => rfl) (fun s L hG M q1 q2 q3 q4 => ?_)
  exact wpo_of ⟨q1, fun N hN _ => wpo_of ⟨by dsimp only; rw [q2], hN⟩⟩
theorem ag_fits {D : Mem} {x : Int} (hI : IC D) (hS : IS D) (hx : A32 x) : AGi D (f9_fits D x) (fun M => f10_fits M x) := by
  refine ag_teeth hI hS hx (fun r hr => if_pos (neg_lt hr)) (fun s L hG M q1 q2 q3 q4 => ?_)
  refine wp_then (by rw [q2]; exact sp_bitCount (nset_lt9 _)) (wpo_of ⟨q1, fun N hN _ => ?_⟩)
  exact wp_neg set9_nn (wp_then (sp_bits (nset_lt9 _)) (wpo_of ⟨rfl, hN⟩))
theorem ag_ask {D : Mem} {x : Int} (hI : IC D) (hS : IS D) (hx : A32 x) : AGi D (f9_ask D x) (fun M => f10_ask M x) := by
  refine ag_teeth hI hS hx (fun r hr => if_pos (neg_lt hr)) (fun s L hG M q1 q2 q3 q4 => ?_)
  refine wpo_of ⟨q1, fun N hN h140 => wp_neg set9_nn ?_⟩
  refine wp_bind.mpr (wpo_mono (sp_askOf (s := s) (L := L) hI hN h140 (fun w n => sC_bd hI hG.2.1)) ?_)
  rintro r ⟨r1, r2, r3⟩
  exact wpo_of ⟨by dsimp only; rw [q3, r1], r2⟩
theorem ag_leaves {D : Mem} {x : Int} (hI : IC D) (hS : IS D) (hx : A32 x) : AGi D (f9_leaves D x) (fun M => f10_leaves M x) := by
  refine ag_teeth hI hS hx (fun r hr => if_pos (neg_lt hr)) (fun s L hG M q1 q2 q3 q4 => ?_)
  refine wpo_of ⟨q1, fun N hN h140 => wp_neg set9_nn ?_⟩
  refine wp_bind.mpr (wpo_mono (sp_askOf (s := s) (L := L) hI hN h140 (fun w n => sC_bd hI hG.2.1)) ?_)
  rintro r ⟨r1, r2, r3⟩
  exact wpo_of ⟨by dsimp only; rw [q4, r3], r2⟩
