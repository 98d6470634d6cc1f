/-! ONE NIGHT OF THE CLASS (by hand) -/
theorem nset_add {f f' : Nat → Bool} {n p : Nat} (hn : n ≤ 12) (hp : p < n) (hf : f' p = true) (ho : ∀ q, q < n → q ≠ p → f' q = f q) : or32 (nset f n : Int) (shl32 1 (p : Int)) = ((nset f' n : Nat) : Int) := by
  rw [or_shl hn hp]
  congr 1
  apply nset_congr
  intro q hq
  by_cases e : q = p
  · subst e
    simp [hf]
  · simp [e, ho q hq e]
/-- of those told so far, who waits -/
def yww (Y : Mem) (n : Nat) (l : List Nat) (g : Nat → Int) (p : Nat) : Bool := decide (p ∈ l ∧ Y 3 p ≤ n ∧ g p = -1)
def YNin (Y D : Mem) (r n : Nat) (g : Nat → Int) (l : List Nat) (s : Int × (Nat → Int)) (M : Mem) : Prop :=
  YK r D M ∧ M r 4 = D r 4 ∧ (∀ i, M (r + 4) i = D (r + 4) i) ∧ (∀ c i, r + 7 ≤ c → i ≠ n → M c i = D c i) ∧ (∀ c i, r + 11 ≤ c → M c i = D c i) ∧
  (∀ p, p < yP Y → M (r + 5) p = s.2 p) ∧ (∀ p, p < yP Y → M (r + 6) p = D (r + 6) p + (if yww Y n l s.2 p = true then ycost Y p else 0)) ∧
  M (r + 7) n = (nset (fun p => decide (s.2 p = (n : Int))) (yP Y) : Nat) ∧ M (r + 8) n = (nset (yww Y n l s.2) (yP Y) : Nat) ∧ M (r + 9) n = s.1 ∧
  M (r + 10) n = sumN (fun p => if yww Y n l s.2 p = true then ycost Y p else 0) (yP Y)
theorem yww_other {Y : Mem} {n p q : Nat} {l : List Nat} {g g' : Nat → Int} (h : q ≠ p) (hg : g' q = g q) : yww Y n (l ++ [p]) g' q = yww Y n l g q := by
  unfold yww
  rw [hg]
  congr 1
  simp [h]
theorem yww_not {Y : Mem} {n p : Nat} {l : List Nat} {g : Nat → Int} (h : p ∉ l) : yww Y n l g p = false := by
  simp [yww, h]
set_option maxHeartbeats 4000000 in
theorem sp_turn {Y D M : Mem} {r n p : Nat} {op : Bool} {g : Nat → Int} {l : List Nat} {s : Int × (Nat → Int)} (hr : 20 ≤ r) (hY : YOK Y) (hC : YC Y D r) (hn : n < 12) (hp : p < yP Y) (hpl : p ∉ l) (hgn : g p ≠ (n : Int)) (hgb : -1 ≤ g p ∧ g p ≤ 12) (hs : s.2 p = g p) (hs1 : 0 ≤ s.1 ∧ s.1 ≤ 160) (hI : YNin Y D r n g l s M) :
    wpo (if w32 (n : Int) < w32 (M (r + 2) (p : Int).toNat) then some M
      else if w32 (M (r + 5) (p : Int).toNat) = w32 (-1) then
        Option.bind (if w32 (if op = true then 1 else 0) = 0 then some true
          else if w32 (n : Int) < w32 ((M (r + 2) (p : Int).toNat) + (M (r + 3) (p : Int).toNat)) then some true
          else if w32 (M (r + 9) (n : Int).toNat) < w32 (M 13 (p : Int).toNat) then some true else some false) fun (t1 : Bool) =>
        if t1 = true then
          Option.bind (some (M 13 (p : Int).toNat * (M 15 (p : Int).toNat))) fun (v3 : Int) =>
          Option.bind (some (mset M (r + 8) (n : Int).toNat (or32 (M (r + 8) (n : Int).toNat) (shl32 1 (p : Int))))) fun (D5 : Mem) =>
          Option.bind (some (mset D5 (r + 10) (n : Int).toNat ((D5 (r + 10) (n : Int).toNat) + v3))) fun (D6 : Mem) =>
          some (mset D6 (r + 6) (p : Int).toNat ((D6 (r + 6) (p : Int).toNat) + v3))
        else
          Option.bind (some (mset M (r + 5) (p : Int).toNat (n : Int))) fun (D7 : Mem) =>
          Option.bind (some (mset D7 (r + 7) (n : Int).toNat (or32 (D7 (r + 7) (n : Int).toNat) (shl32 1 (p : Int))))) fun (D8 : Mem) =>
          some (mset D8 (r + 9) (n : Int).toNat ((D8 (r + 9) (n : Int).toNat) - (M 13 (p : Int).toNat)))
      else some M)
    (fun M' => YNin Y D r n g (l ++ [p]) (ygo Y n op s p) M') := by
  simp only [Int.toNat_natCast]
  obtain ⟨i1, i2, i3, i4, i5, i6, i7, i8, i9, i10, i11⟩ := hI
  have hCM := hC.keep hr i1
  obtain ⟨a1, a2, a3, a4, a5⟩ := hCM.2.2.2.2.2.2.2 p hp
  obtain ⟨b1, b2, b3, b4, b5⟩ := hY.ache hp
  have hP := hY.P
  have h5 : M (r + 5) p = g p := (i6 p hp).trans hs
  simp only [← a1, ← a2, ← a3, ← a5, h5, i10]
  -- nothing happens
  have skip : ¬ (Y 3 p ≤ n ∧ g p = -1) → YNin Y D r n g (l ++ [p]) (ygo Y n op s p) M := by
    intro hc
    have e : ygo Y n op s p = s := by
      unfold ygo
      rw [if_neg]
      rintro ⟨c1, c2, -⟩
      exact hc ⟨c1, by rw [← hs]; exact c2⟩
    rw [e]
    have hw : ∀ q, yww Y n (l ++ [p]) s.2 q = yww Y n l s.2 q := by
      intro q
      by_cases hq : q = p
      · subst hq
        rw [yww_not hpl]
        simp only [yww, decide_eq_false_iff_not]
        rintro ⟨-, c1, c2⟩
        exact hc ⟨c1, by rw [← hs]; exact c2⟩
      · exact yww_other hq rfl
    have hw2 : yww Y n (l ++ [p]) s.2 = yww Y n l s.2 := funext hw
    refine ⟨i1, i2, i3, i4, i5, i6, ?_, i8, ?_, i10, ?_⟩
    · rw [hw2]; exact i7
    · rw [hw2]; exact i9
    · rw [hw2]; exact i11
  by_cases hfrom : Y 3 p ≤ n
  · refine wp_neg (fun h => absurd ((lt32 (by omega) (by omega)).mp h) (by omega)) ?_
    by_cases hg1 : g p = -1
    · refine wp_pos (by rw [hg1]) ?_
      by_cases hgive : op = true ∧ Y 3 p + Y 5 p ≤ n ∧ Y 1 p ≤ s.1
      · -- gives
        obtain ⟨g1, g2, g3⟩ := hgive
        refine wp_then (a := false) ?_ ?_
        · rw [if_pos g1, if_neg (by decide), if_neg (fun h => absurd ((lt32 (by omega) (by omega)).mp h) (by omega)), if_neg (fun h => absurd ((lt32 (by omega) (by omega)).mp h) (by omega))]
        · refine wp_neg (by decide) ?_
          refine wp_then rfl (wp_then rfl (wpo_of ?_))
          have e : ygo Y n op s p = (s.1 - Y 1 p, gset s.2 p n) := by
            unfold ygo
            rw [if_pos ⟨hfrom, hs.trans hg1, g1, g2, g3⟩]
          rw [e]
          have hw : ∀ q, yww Y n (l ++ [p]) (gset s.2 p n) q = yww Y n l s.2 q := by
            intro q
            by_cases hq : q = p
            · subst hq
              rw [yww_not hpl]
              simp only [yww, decide_eq_false_iff_not]
              rintro ⟨-, -, c2⟩
              rw [gset_eq] at c2
              omega
            · exact yww_other hq (gset_ne hq)
          have hw2 : yww Y n (l ++ [p]) (gset s.2 p n) = yww Y n l s.2 := funext hw
          refine ⟨((i1.set (by omega)).set (by omega)).set (by omega), ?_, fun i => ?_, fun c i hc hi => ?_, fun c i hc => ?_, fun q hq => ?_, fun q hq => ?_, ?_, ?_, ?_, ?_⟩
          · rw [ms_ne (by omega), ms_ne (by omega), ms_ne (by omega)]; exact i2
          · rw [ms_ne (by omega), ms_ne (by omega), ms_ne (by omega)]; exact i3 i
          · rw [ms_ni hi, ms_ni hi, ms_ne (by omega)]; exact i4 c i hc hi
          · rw [ms_ne (by omega), ms_ne (by omega), ms_ne (by omega)]; exact i5 c i hc
          · rw [ms_ne (by omega), ms_ne (by omega)]
            by_cases hq2 : q = p
            · subst hq2
              rw [ms_same]
              exact gset_eq.symm
            · rw [ms_ni hq2]
              exact (i6 q hq).trans (gset_ne hq2).symm
          · rw [ms_ne (by omega), ms_ne (by omega), ms_ne (by omega), hw2]
            exact i7 q hq
          · rw [ms_ne (by omega), ms_same, ms_ne (by omega), i8]
            refine nset_add (by omega) hp ?_ (fun q hq hne => ?_)
            · simp [gset_eq]
            · show decide (gset s.2 p n q = (n : Int)) = decide (s.2 q = (n : Int))
              rw [gset_ne hne]
          · rw [ms_ne (by omega), ms_ne (by omega), ms_ne (by omega), hw2]
            exact i9
          · rw [ms_same, ms_ne (by omega), ms_ne (by omega), i10]
          · rw [ms_ne (by omega), ms_ne (by omega), ms_ne (by omega), hw2]
            exact i11
      · -- waits
        refine wp_then (a := true) ?_ ?_
        · by_cases g1 : op = true
          · rw [if_pos g1, if_neg (by decide)]
            by_cases g2 : Y 3 p + Y 5 p ≤ n
            · rw [if_neg (fun h => absurd ((lt32 (by omega) (by omega)).mp h) (by omega)), if_pos ((lt32 (by omega) (by omega)).mpr (by
                by_cases g3 : Y 1 p ≤ s.1
                · exact absurd ⟨g1, g2, g3⟩ hgive
                · omega))]
            · rw [if_pos ((lt32 (by omega) (by omega)).mpr (by omega))]
          · rw [if_neg g1, if_pos (by decide)]
        · refine wp_pos rfl ?_
          refine wp_then rfl (wp_then rfl (wp_then rfl (wpo_of ?_)))
          have e : ygo Y n op s p = s := by
            unfold ygo
            rw [if_neg]
            rintro ⟨-, -, c3⟩
            exact hgive c3
          rw [e]
          have hwp : yww Y n (l ++ [p]) s.2 p = true := by
            simp only [yww, decide_eq_true_eq]
            exact ⟨by simp, hfrom, hs.trans hg1⟩
          have hwo : ∀ q, q ≠ p → yww Y n (l ++ [p]) s.2 q = yww Y n l s.2 q := fun q hq => yww_other hq rfl
          have hwn : yww Y n l s.2 p = false := yww_not hpl
          refine ⟨((i1.set (by omega)).set (by omega)).set (by omega), ?_, fun i => ?_, fun c i hc hi => ?_, fun c i hc => ?_, fun q hq => ?_, fun q hq => ?_, ?_, ?_, ?_, ?_⟩
          · rw [ms_ne (by omega), ms_ne (by omega), ms_ne (by omega)]; exact i2
          · rw [ms_ne (by omega), ms_ne (by omega), ms_ne (by omega)]; exact i3 i
          · rw [ms_ne (by omega), ms_ni hi, ms_ni hi]; exact i4 c i hc hi
          · rw [ms_ne (by omega), ms_ne (by omega), ms_ne (by omega)]; exact i5 c i hc
          · rw [ms_ne (by omega), ms_ne (by omega), ms_ne (by omega)]; exact i6 q hq
          · by_cases hq2 : q = p
            · subst hq2
              rw [ms_same, ms_ne (by omega), ms_ne (by omega), i7 q hq, hwp, hwn]
              simp [ycost]
            · rw [ms_ni hq2, ms_ne (by omega), ms_ne (by omega), hwo q hq2]
              exact i7 q hq
          · rw [ms_ne (by omega), ms_ne (by omega), ms_ne (by omega)]; exact i8
          · rw [ms_ne (by omega), ms_ne (by omega), ms_same, i9]
            exact nset_add (by omega) hp hwp (fun q hq hne => hwo q hne)
          · rw [ms_ne (by omega), ms_ne (by omega), ms_ne (by omega)]; exact i10
          · rw [ms_ne (by omega), ms_same, ms_ne (by omega), i11]
            rw [sumN_upd (f := fun q => if yww Y n (l ++ [p]) s.2 q = true then ycost Y q else 0) (g := fun q => if yww Y n l s.2 q = true then ycost Y q else 0) hp (fun q hq hne => by rw [hwo q hne])]
            rw [hwp, hwn]
            simp [ycost]
    · refine wp_neg (fun h => hg1 ((eq32 (by omega) (by omega)).mp h)) ?_
      exact wpo_of (skip (fun h => hg1 h.2))
  · refine wp_pos ((lt32 (by omega) (by omega)).mpr (by omega)) ?_
    exact wpo_of (skip (fun h => hfrom h.1))
set_option maxHeartbeats 4000000 in
theorem sp_passNight {Y D : Mem} {r n : Nat} {op : Bool} {g : Nat → Int} (hr : 20 ≤ r) (hY : YOK Y) (hC : YC Y D r) (hL : RowL D (r + 4) (yord Y (yP Y))) (hn : n < 12) (hgn : ∀ p, g p ≠ (n : Int)) (hgb : ∀ p, -1 ≤ g p ∧ g p ≤ 12) (hg : ∀ p, p < yP Y → D (r + 5) p = g p) :
    wpo (f8_passNight D r (n : Int) (if op = true then 1 else 0)) (fun M => YNin Y D r n g (yord Y (yP Y)) (ynight Y n op g) M) := by
  have hP := hY.P
  have hroom := hY.2.1
  unfold f8_passNight
  refine wp_pos (by omega) ?_
  refine wp_then rfl (wp_then rfl (wp_then rfl (wp_then rfl ?_)))
  rw [Int.toNat_natCast]
  refine wp_bind.mpr ?_
  simp only [wp_some]
  have hlen : (yord Y (yP Y)).length = yP Y := yord_len
  have hl0 : ∀ p, ∀ l' : List Nat, (∀ x ∈ l', x < yP Y) → p ∈ l' → 0 ≤ Y 1 p := fun p l' hx hp => by have := (hY.ache (hx p hp)).1; omega
  refine wp_for (I := fun k s => s.1 = (k : Int) ∧ YNin Y D r n g ((yord Y (yP Y)).take k) (((yord Y (yP Y)).take k).foldl (ygo Y n op) (Y 0 1, g)) s.2) (yP Y) ?_ ?_ FU 0 _ ?_ (Nat.zero_le _) (by unfold FU; omega)
  · rintro k ⟨s1, M⟩ hk ⟨e1, hI⟩
    dsimp only at e1 hI ⊢
    subst e1
    have hCM := hC.keep hr hI.1
    have e8 : M 12 8 = Y 0 6 := hCM.2.2.2.2.2.2.1.symm
    refine wp_pos (by rw [e8]; exact (lt32 (by omega) (by omega)).mpr (by omega)) ?_
    refine wp_pos (by omega) ?_
    obtain ⟨p, hp⟩ : ∃ p, (yord Y (yP Y))[k]? = some p := ⟨_, List.getElem?_eq_getElem (by omega)⟩
    have hpP : p < yP Y := yord_mem.mp (List.mem_of_getElem? hp)
    have hrow : M (r + 4) (k : Int).toNat = (p : Int) := by
      rw [Int.toNat_natCast, hI.2.2.1 k]
      exact hL k p hp
    refine wp_then (by rw [hrow]) ?_
    refine wp_pos (by omega) ?_
    refine wp_then rfl ?_
    have hnd : (yord Y (yP Y)).Nodup := yord_nodup
    have hpl : p ∉ (yord Y (yP Y)).take k := by
      intro hm
      obtain ⟨j, hj⟩ := List.getElem?_of_mem hm
      rw [List.getElem?_take] at hj
      split at hj
      · rename_i hjk
        have := (List.getElem?_inj (by omega) hnd).mp (hj.trans hp.symm)
        omega
      · cases hj
    have htk : (yord Y (yP Y)).take (k + 1) = (yord Y (yP Y)).take k ++ [p] := by
      rw [List.take_succ, hp]
      rfl
    have hsp : (((yord Y (yP Y)).take k).foldl (ygo Y n op) (Y 0 1, g)).2 p = g p := yfold_out hpl
    have hs1 := yfold_left (Y := Y) (n := n) (op := op) (l := (yord Y (yP Y)).take k) (fun q hq => hl0 q _ (fun x hx => yord_mem.mp (List.mem_of_mem_take hx)) hq) (s := (Y 0 1, g)) hroom.1
    dsimp only at hs1
    refine wp_bind.mpr (wpo_mono (sp_turn (op := op) hr hY hC hn hpP hpl (hgn p) (hgb p) hsp ⟨hs1.1, by omega⟩ hI) (fun M' hM' => wpo_of ⟨by dsimp only; omega, ?_⟩))
    dsimp only
    rw [htk, List.foldl_append]
    exact hM'
  · rintro ⟨s1, M⟩ ⟨e1, hI⟩
    dsimp only at e1 hI ⊢
    subst e1
    have e8 : M 12 8 = Y 0 6 := (hC.keep hr hI.1).2.2.2.2.2.2.1.symm
    refine wp_neg (by rw [e8]; exact fun hh => absurd ((lt32 (by omega) (by omega)).mp hh) (by omega)) ?_
    rw [List.take_of_length_le (by omega)] at hI
    exact wpo_of hI
  · refine ⟨rfl, ?_⟩
    have hw : yww Y n [] g = fun _ => false := by
      funext q
      simp [yww]
    have hz : ∀ m, nset (fun _ => false) m = 0 := by
      intro m
      induction m with
      | zero => rfl
      | succ m ih => rw [nset, ih]; simp
    have hz2 : ∀ m, sumN (fun _ => 0) m = 0 := by
      intro m
      induction m with
      | zero => rfl
      | succ m ih => rw [sumN, ih]; rfl
    show YNin Y D r n g [] (Y 0 1, g) (mset (mset (mset (mset D (r + 7) n 0) (r + 8) n 0) (r + 9) n _) (r + 10) n 0)
    refine ⟨(((YK.rf.set (by omega)).set (by omega)).set (by omega)).set (by omega), ?_, fun i => ?_, fun c i hc hi => ?_, fun c i hc => ?_, fun q hq => ?_, fun q hq => ?_, ?_, ?_, ?_, ?_⟩
    · rw [ms_ne (by omega), ms_ne (by omega), ms_ne (by omega), ms_ne (by omega)]
    · rw [ms_ne (by omega), ms_ne (by omega), ms_ne (by omega), ms_ne (by omega)]
    · rw [ms_ni hi, ms_ni hi, ms_ni hi, ms_ni hi]
    · rw [ms_ne (by omega), ms_ne (by omega), ms_ne (by omega), ms_ne (by omega)]
    · rw [ms_ne (by omega), ms_ne (by omega), ms_ne (by omega), ms_ne (by omega)]
      exact hg q hq
    · rw [ms_ne (by omega), ms_ne (by omega), ms_ne (by omega), ms_ne (by omega)]
      show D (r + 6) q = D (r + 6) q + (if yww Y n [] g q = true then ycost Y q else 0)
      rw [hw]
      simp
    · rw [ms_ne (by omega), ms_ne (by omega), ms_ne (by omega), ms_same]
      have : (fun p => decide (g p = (n : Int))) = fun _ => false := by
        funext q
        simp [hgn q]
      show (0 : Int) = ((nset (fun p => decide (g p = (n : Int))) (yP Y) : Nat) : Int)
      rw [this, hz]
      rfl
    · rw [ms_ne (by omega), ms_ne (by omega), ms_same]
      show (0 : Int) = ((nset (yww Y n [] g) (yP Y) : Nat) : Int)
      rw [hw, hz]
      rfl
    · rw [ms_ne (by omega), ms_same]
      (try rw [ms_ne (by omega), ms_ne (by omega)])
      exact hC.2.1.symm
    · rw [ms_same]
      show (0 : Int) = sumN (fun p => if yww Y n [] g p = true then ycost Y p else 0) (yP Y)
      rw [hw]
      simp [hz2]
