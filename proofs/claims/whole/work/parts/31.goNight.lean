/-! ONE NIGHT OF THE REFERENCE (by hand) -/
theorem nset_del {F F' : Nat → Bool} {n p : Nat} (hn : n ≤ 12) (hp : p < n) (hF : F' p = false) (ho : ∀ q, q < n → q ≠ p → F' q = F q) : and32 (nset F n : Int) (xor32 (shl32 1 (p : Int)) (-1)) = ((nset F' n : Nat) : Int) := by
  have h1 := nset_lt12 F hn
  have h2 : (1 <<< p : Nat) < 2147483648 := by
    rw [Nat.one_shiftLeft]
    exact Nat.lt_of_lt_of_le (Nat.pow_lt_pow_right (by decide) (Nat.lt_of_lt_of_le hp hn)) (by decide)
  rw [shl_all p (by omega), andn32_nat (by omega) h2]
  congr 1
  apply Nat.eq_of_testBit_eq
  intro i
  have e : (2147483647 : Nat) = 2 ^ 31 - 1 := rfl
  rw [Nat.testBit_and, Nat.testBit_xor, e, Nat.testBit_two_pow_sub_one, nset_bit, nset_bit, bit1]
  by_cases hi : i < n
  · have h31 : i < 31 := by omega
    by_cases hip : i = p
    · subst hip
      simp [hF, h31]
    · simp [hi, h31, hip, ho i hi hip]
  · simp [hi]
theorem nset_zero {F : Nat → Bool} {n : Nat} (h : nset F n = 0) {p : Nat} (hp : p < n) : F p = false := by
  have := nset_bit F n p
  rw [h, Nat.zero_testBit] at this
  simpa [hp] using this.symm
theorem nset_none {F : Nat → Bool} {n : Nat} (h : ∀ p, p < n → F p = false) : nset F n = 0 := by
  apply Nat.eq_of_testBit_eq
  intro i
  rw [nset_bit, Nat.zero_testBit]
  by_cases hi : i < n
  · simp [hi, h i hi]
  · simp [hi]
theorem first_of {F : Nat → Bool} {l : List Nat} (h : ∃ x ∈ l, F x = true) : ∃ a p b, l = a ++ p :: b ∧ (∀ x ∈ a, F x = false) ∧ F p = true := by
  induction l with
  | nil =>
    obtain ⟨x, hx, -⟩ := h
    cases hx
  | cons q l ih =>
    cases hq : F q with
    | true => exact ⟨[], q, l, rfl, fun x hx => (by cases hx), hq⟩
    | false =>
      obtain ⟨x, hx, hF⟩ := h
      have hx2 : x ∈ l := by
        rcases List.mem_cons.mp hx with rfl | hx
        · rw [hq] at hF
          cases hF
        · exact hx
      obtain ⟨a, p, b, h1, h2, h3⟩ := ih ⟨x, hx2, hF⟩
      refine ⟨q :: a, p, b, by rw [h1]; rfl, fun y hy => ?_, h3⟩
      rcases List.mem_cons.mp hy with rfl | hy
      · exact hq
      · exact h2 y hy
theorem fold_skip {Y : Mem} {n : Nat} {op : Bool} {l : List Nat} {s : Int × (Nat → Int)} (h : ∀ x ∈ l, ygo Y n op s x = s) : l.foldl (ygo Y n op) s = s := by
  induction l with
  | nil => rfl
  | cons p l ih => rw [List.foldl_cons, h p List.mem_cons_self, ih (fun x hx => h x (List.mem_cons_of_mem _ hx))]
theorem ygo_neg {Y : Mem} {n p : Nat} {op : Bool} {s : Int × (Nat → Int)} (h : ¬ (Y 3 p ≤ n ∧ s.2 p = -1 ∧ op = true ∧ Y 3 p + Y 5 p ≤ n ∧ Y 1 p ≤ s.1)) : ygo Y n op s p = s := if_neg h
theorem ygo_pos {Y : Mem} {n p : Nat} {op : Bool} {s : Int × (Nat → Int)} (h : Y 3 p ≤ n ∧ s.2 p = -1 ∧ op = true ∧ Y 3 p + Y 5 p ≤ n ∧ Y 1 p ≤ s.1) : ygo Y n op s p = (s.1 - Y 1 p, gset s.2 p n) := if_pos h
/-- who would give in this night -/
def ycand (Y : Mem) (n : Nat) (op : Bool) (g : Nat → Int) (p : Nat) : Bool := decide (Y 3 p ≤ n ∧ g p = -1 ∧ op = true ∧ Y 3 p + Y 5 p ≤ n)
theorem sp_hasAche {Y D : Mem} {p n : Nat} {v : Int} (hY : YOK Y) (h : YM Y D) (hp : p < yP Y) (hn : n < 12) (hv : D 128 p = v) (hvb : v = -1 ∨ (0 ≤ v ∧ v ≤ 12)) : f10_hasAche D (p : Int) (n : Int) = some (if Y 3 p ≤ n ∧ (v = -1 ∨ (n : Int) < v) then 1 else 0) := by
  obtain ⟨h0, h1, h2, h3, h4, h5, h6, hg, h7⟩ := h
  obtain ⟨a1, a2, a3, a4, a5, a6⟩ := h7 p hp
  have hP := hY.P
  refine wp_is ?_
  unfold f10_hasAche
  by_cases hgo : (p : Int) = D 117 21
  · rw [if_pos hgo] at a3
    refine wp_pos ((eq32 (by omega) (by omega)).mpr hgo) (wpo_of ?_)
    rw [if_neg (by omega)]
  · rw [if_neg hgo] at a3
    refine wp_neg (fun x => hgo ((eq32 (by omega) (by omega)).mp x)) ?_
    refine wp_pos (by omega) ?_
    rw [Int.toNat_natCast, hv, ← a3]
    by_cases c1 : Y 3 p ≤ n
    · refine wp_neg (fun x => absurd ((lt32 (by omega) (by omega)).mp x) (by omega)) ?_
      by_cases c2 : v = -1
      · refine wp_pos (by rw [c2]) (wpo_of ?_)
        rw [if_pos ⟨c1, Or.inl c2⟩]
      · refine wp_neg (fun x => c2 ((eq32 (by omega) (by omega)).mp x)) ?_
        by_cases c3 : (n : Int) < v
        · refine wp_pos ((lt32 (by omega) (by omega)).mpr c3) (wpo_of ?_)
          rw [if_pos ⟨c1, Or.inr c3⟩]
        · refine wp_neg (fun x => c3 ((lt32 (by omega) (by omega)).mp x)) (wpo_of ?_)
          rw [if_neg (by omega)]
    · refine wp_pos ((lt32 (by omega) (by omega)).mpr (by omega)) (wpo_of ?_)
      rw [if_neg (by omega)]
def MNight (Y D M : Mem) (n : Nat) : Prop := MK D M ∧ (∀ p, p < yP Y → M 128 p = (yst Y (n + 1)).1 p) ∧ M 129 n = yleft Y n ∧ M 130 n = (yst Y (n + 1)).2.1 ∧ M 131 n = (yst Y (n + 1)).2.2 ∧ (∀ c i, 129 ≤ c → i ≠ n → M c i = D c i) ∧ M 117 27 = (if D 117 27 = -1 ∧ (yst Y (n + 1)).2.2 = Y 0 5 then (n : Int) else D 117 27)
set_option maxHeartbeats 8000000 in
theorem sp_goNight {Y D : Mem} {n : Nat} (hY : YOK Y) (h : YM Y D) (hn : n < yN Y) (hg : ∀ p, p < yP Y → D 128 p = (yst Y n).1 p) (hprev : n = 0 ∨ (D 130 (n - 1) = (yst Y n).2.1 ∧ D 131 (n - 1) = (yst Y n).2.2)) (hf : -1 ≤ D 117 27 ∧ D 117 27 ≤ 12) :
    wpo (f10_goNight D (n : Int) (if yopen Y n (yst Y n).2.2 = true then 1 else 0)) (fun M => MNight Y D M n) := by
  have hP := hY.P
  have hN := hY.N
  have hroom := hY.2.1
  have htooth := hY.2.2.2.2.1
  have hteeth := hY.2.2.2.2.2.1
  have hnt := hY.2.2.2.2.2.2.2.1
  have ht1 : 1 ≤ Y 0 4 := by omega
  have e8 : D 118 7 = Y 0 6 := h.2.2.2.2.2.2.1.symm
  have e19 : D 117 19 = Y 0 1 := h.2.1.symm
  have hgk : ∀ p, (yst Y n).1 p = -1 ∨ (0 ≤ (yst Y n).1 p ∧ (yst Y n).1 p < n ∧ Y 3 p ≤ (yst Y n).1 p ∧ p < yP Y) := fun p => yst_gives
  have elf : yleft Y n = (ynight Y n (yopen Y n (yst Y n).2.2) (yst Y n).1).1 := rfl
  have egv : (yst Y (n + 1)).1 = (ynight Y n (yopen Y n (yst Y n).2.2) (yst Y n).1).2 := rfl
  obtain ⟨bh, bc⟩ := yst_bd hY ht1 n
  have hlb := yleft_bd hY (n := n)
  have eH : (yst Y (n + 1)).2.1 = ((yst Y n).2.1 + (Y 0 1 - yleft Y n)) - min (((yst Y n).2.1 + (Y 0 1 - yleft Y n)) / Y 0 4) (Y 0 5 - (yst Y n).2.2) * Y 0 4 := rfl
  have eT : (yst Y (n + 1)).2.2 = (yst Y n).2.2 + min (((yst Y n).2.1 + (Y 0 1 - yleft Y n)) / Y 0 4) (Y 0 5 - (yst Y n).2.2) := rfl
  generalize hop : yopen Y n (yst Y n).2.2 = op at *
  generalize hgg : (yst Y n).1 = g at *
  unfold f10_goNight
  refine wp_pos (by omega) ?_
  refine wp_then rfl ?_
  rw [Int.toNat_natCast, e19]
  have k1 : MK D (mset D 129 n (Y 0 1)) := MK.rf.set (by omega)
  have hYM1 := h.keep k1
  refine wp_bind.mpr (wpo_mono (P := fun b => b = ((nset (ycand Y n op g) (yP Y) : Nat) : Int)) ?_ ?_)
  · refine wp_for (I := fun k s => s = (((nset (ycand Y n op g) k : Nat) : Int), (k : Int))) (yP Y) ?_ ?_ FU 0 _ rfl (Nat.zero_le _) (by unfold FU; omega)
    · rintro k s hk rfl
      dsimp only
      refine wp_pos (by rw [ms_ne (by omega), e8]; exact (lt32 (by omega) (by omega)).mpr (by omega)) ?_
      cases ho : op with
      | false =>
        refine wp_pos (by decide) (wpo_of ?_)
        dsimp only
        rw [nset_none (fun p _ => by simp [ycand]), nset_none (fun p _ => by simp [ycand])]
      | true =>
        refine wp_neg (by decide) ?_
        have hgk1 := hgk k
        refine wp_then (sp_hasAche (v := g k) hY hYM1 hk (by omega) (by rw [ms_ne (by omega)]; exact hg k hk) (by omega)) ?_
        refine wp_then (a := if ycand Y n true g k = true then shl32 1 (k : Int) else 0) ?_ (wpo_of ?_)
        · obtain ⟨a1, a2, a3, a4, a5, a6⟩ := h.2.2.2.2.2.2.2.2 k hk
          obtain ⟨b1, b2, b3, b4, b5⟩ := hY.ache hk
          refine wp_is ?_
          by_cases c1 : Y 3 k ≤ n ∧ g k = -1
          · refine wp_neg (by rw [if_pos ⟨c1.1, Or.inl c1.2⟩]; decide) ?_
            refine wp_pos (by omega) ?_
            have a3' : Y 3 k = D 125 k := by
              by_cases hgo : (k : Int) = D 117 21
              · rw [if_pos hgo] at a3
                omega
              · rw [if_neg hgo] at a3
                exact a3
            rw [Int.toNat_natCast, ms_ne (by omega), ms_ne (by omega), ← a3', ← a5]
            by_cases c2 : Y 3 k + Y 5 k ≤ n
            · refine wp_neg (fun x => absurd ((lt32 (by omega) (by omega)).mp x) (by omega)) (wpo_of ?_)
              rw [if_pos (by simp [ycand, c1.1, c1.2, c2])]
            · refine wp_pos ((lt32 (by omega) (by omega)).mpr (by omega)) (wpo_of ?_)
              rw [if_neg (by simp [ycand, c2])]
          · refine wp_pos (by rw [if_neg (by omega)]; decide) (wpo_of ?_)
            rw [if_neg (by
              simp only [ycand, decide_eq_true_eq]
              rintro ⟨x1, x2, -⟩
              exact c1 ⟨x1, x2⟩)]
        · show (_, _) = (_, _)
          rw [or_next (by omega)]
          rfl
    · rintro s rfl
      dsimp only
      exact wp_neg (by rw [ms_ne (by omega), e8]; exact fun hh => absurd ((lt32 (by omega) (by omega)).mp hh) (by omega)) (wpo_of rfl)
  · rintro b rfl
    refine wp_bind.mpr (wpo_mono (P := fun M => MK D M ∧ (∀ p, p < yP Y → M 128 p = (ynight Y n op g).2 p) ∧ M 129 n = (ynight Y n op g).1 ∧ (∀ c i, 129 ≤ c → (c ≠ 129 ∨ i ≠ n) → M c i = D c i) ∧ M 117 27 = D 117 27) ?_ ?_)
    · have hso : (yord Y (yP Y)).Pairwise (ykey Y) := yord_sorted
      have hnd : (yord Y (yP Y)).Nodup := yord_nodup
      refine wp_loopm (I := fun m s => ∃ l1 l2, yord Y (yP Y) = l1 ++ l2 ∧ l2.length = m ∧ s.1 = ((nset (fun p => ycand Y n op g p && decide (p ∈ l2)) (yP Y) : Nat) : Int) ∧ MK D s.2 ∧ (∀ p, p < yP Y → s.2 128 p = (l1.foldl (ygo Y n op) (Y 0 1, g)).2 p) ∧ s.2 129 n = (l1.foldl (ygo Y n op) (Y 0 1, g)).1 ∧ (∀ c i, 129 ≤ c → (c ≠ 129 ∨ i ≠ n) → s.2 c i = D c i) ∧ s.2 117 27 = D 117 27) ?_ FU (yord Y (yP Y)).length _ ⟨[], yord Y (yP Y), rfl, rfl, ?_, k1, fun p hp => ?_, ?_, fun c i hc hi => ?_, ?_⟩ (by rw [yord_len]; unfold FU; omega)
      · rintro m ⟨s1, M⟩ ⟨l1, l2, q1, q2, q3, q4, q5, q6, q7, q8⟩
        dsimp only at q3 q4 q5 q6 q7 q8 ⊢
        have hall : ∀ x, x ∈ l2 → x < yP Y := fun x hx => yord_mem.mp (by rw [q1]; exact List.mem_append_right _ hx)
        have hout : ∀ x, x ∈ l2 → x ∉ l1 := by
          intro x hx hx1
          rw [q1] at hnd
          exact (List.nodup_append.mp hnd).2.2 x hx1 x hx rfl
        have hst : ∀ x, x ∈ l2 → (l1.foldl (ygo Y n op) (Y 0 1, g)).2 x = g x := fun x hx => yfold_out (hout x hx)
        have hyn : ynight Y n op g = l2.foldl (ygo Y n op) (l1.foldl (ygo Y n op) (Y 0 1, g)) := by
          unfold ynight
          rw [q1, List.foldl_append]
        have hskip : ∀ x, x ∈ l2 → ycand Y n op g x = false → ygo Y n op (l1.foldl (ygo Y n op) (Y 0 1, g)) x = l1.foldl (ygo Y n op) (Y 0 1, g) := by
          intro x hx hc
          refine ygo_neg ?_
          rintro ⟨c1, c2, c3, c4, -⟩
          rw [hst x hx] at c2
          simp only [ycand, decide_eq_false_iff_not] at hc
          exact hc ⟨c1, c2, c3, c4⟩
        have hlt := nset_lt8 (fun p => ycand Y n op g p && decide (p ∈ l2)) hP.2
        by_cases hz : nset (fun p => ycand Y n op g p && decide (p ∈ l2)) (yP Y) = 0
        · refine wp_pos (by rw [q3, hz]; decide) (wpo_of ?_)
          have hn2 : ∀ x, x ∈ l2 → ycand Y n op g x = false := by
            intro x hx
            have := nset_zero hz (hall x hx)
            simpa [hx] using this
          have hfin : ynight Y n op g = l1.foldl (ygo Y n op) (Y 0 1, g) := by
            rw [hyn]
            exact fold_skip (fun x hx => hskip x hx (hn2 x hx))
          rw [hfin]
          exact ⟨q4, q5, q6, q7, q8⟩
        · refine wp_neg (by rw [q3, w32_id (by omega)]; omega) ?_
          have hex : ∃ x ∈ l2, ycand Y n op g x = true := by
            refine Classical.byContradiction (fun hno => hz (nset_none (fun p hp => ?_)))
            by_cases hm : p ∈ l2
            · cases hc : ycand Y n op g p with
              | true => exact absurd ⟨p, hm, hc⟩ hno
              | false => rfl
            · simp [hm]
          obtain ⟨a, p, b, hl2, ha, hp⟩ := first_of hex
          have hpl2 : p ∈ l2 := by rw [hl2]; simp
          have hpP := hall p hpl2
          have hcp : Y 3 p ≤ n ∧ g p = -1 ∧ op = true ∧ Y 3 p + Y 5 p ≤ n := by simpa [ycand] using hp
          have hng : ∀ q, q < yP Y → (ycand Y n op g q && decide (q ∈ l2)) = true → (q : Int) ≠ M 117 21 := by
            intro q hq hcq e
            rw [q4 117 21 (by omega) (Or.inr (by omega))] at e
            have a3 := (h.2.2.2.2.2.2.2.2 q hq).2.2.1
            rw [if_pos e] at a3
            simp only [ycand, Bool.and_eq_true, decide_eq_true_eq] at hcq
            omega
          have hpw : (l1 ++ (a ++ p :: b)).Pairwise (ykey Y) := by
            rw [← hl2, ← q1]
            exact hso
          have hpb : ∀ q, q ∈ b → ykey Y p q := (List.pairwise_cons.mp (List.pairwise_append.mp (List.pairwise_append.mp hpw).2.1).2.1).1
          have hndb : p ∉ b := by
            intro hb
            have := hpb p hb
            unfold ykey at this
            omega
          rw [q3]
          refine wp_then (sp_nextOf hY (h.keep q4) hpP (by simp [hp, hpl2]) hng (fun q hq hcq hne => ?_)) ?_
          · simp only [Bool.and_eq_true, decide_eq_true_eq] at hcq
            obtain ⟨hc1, hc2⟩ := hcq
            rw [hl2] at hc2
            rcases List.mem_append.mp hc2 with hc2 | hc2
            · rw [ha q hc2] at hc1
              cases hc1
            · rcases List.mem_cons.mp hc2 with hc2 | hc2
              · exact absurd hc2 hne
              · exact hpb q hc2
          · refine wp_then rfl ?_
            refine wp_pos (by omega) ?_
            rw [Int.toNat_natCast]
            have hset : and32 ((nset (fun p => ycand Y n op g p && decide (p ∈ l2)) (yP Y) : Nat) : Int) (xor32 (shl32 1 (p : Int)) (-1)) = ((nset (fun x => ycand Y n op g x && decide (x ∈ b)) (yP Y) : Nat) : Int) := by
              refine nset_del (by omega) hpP (by simp [hndb]) (fun q hq hne => ?_)
              by_cases hqb : q ∈ b
              · simp [hqb, hl2]
              · by_cases hqa : q ∈ a
                · simp [ha q hqa]
                · simp [hqb, hl2, hqa, hne]
            rw [hset]
            have hbl : b.length < m := by
              rw [← q2, hl2]
              simp
              omega
            have happ : yord Y (yP Y) = (l1 ++ (a ++ [p])) ++ b := by rw [q1, hl2]; simp
            have hfa : a.foldl (ygo Y n op) (l1.foldl (ygo Y n op) (Y 0 1, g)) = l1.foldl (ygo Y n op) (Y 0 1, g) := fold_skip (fun x hx => hskip x (by rw [hl2]; exact List.mem_append_left _ hx) (ha x hx))
            have hfl : (l1 ++ (a ++ [p])).foldl (ygo Y n op) (Y 0 1, g) = ygo Y n op (l1.foldl (ygo Y n op) (Y 0 1, g)) p := by
              rw [List.foldl_append, List.foldl_append, hfa]
              rfl
            have hache : M 124 p = Y 1 p := by
              rw [q4 124 p (by omega) (Or.inl (by omega))]
              exact ((h.2.2.2.2.2.2.2.2 p hpP).1).symm
            have hl1b := yfold_left (Y := Y) (n := n) (op := op) (l := l1) (fun q hq => by have := (hY.ache (yord_mem.mp (show q ∈ yord Y (yP Y) by rw [q1]; exact List.mem_append_left _ hq))).1; omega) (s := (Y 0 1, g)) hroom.1
            dsimp only at hl1b
            have hab := (hY.ache hpP).1
            generalize hstt : l1.foldl (ygo Y n op) (Y 0 1, g) = st at *
            by_cases hle : Y 1 p ≤ st.1
            · refine wp_neg (by rw [hache, q6]; exact fun x => absurd ((lt32 (by omega) (by omega)).mp x) (by omega)) ?_
              refine wp_then rfl (wpo_of ⟨b.length, hbl, l1 ++ (a ++ [p]), b, happ, rfl, rfl, (q4.set (by omega)).set (by omega), fun q hq => ?_, ?_, fun c i hc hi => ?_, ?_⟩)
              · rw [hfl, ygo_pos ⟨hcp.1, (hst p hpl2).trans hcp.2.1, hcp.2.2.1, hcp.2.2.2, hle⟩]
                dsimp only
                by_cases hqp : q = p
                · subst hqp
                  rw [ms_same]
                  exact gset_eq.symm
                · rw [ms_ni hqp, ms_ne (by omega)]
                  exact (q5 q hq).trans (gset_ne hqp).symm
              · rw [hfl, ygo_pos ⟨hcp.1, (hst p hpl2).trans hcp.2.1, hcp.2.2.1, hcp.2.2.2, hle⟩]
                dsimp only
                rw [ms_ne (by omega), ms_same, hache, q6]
              · dsimp only
                rw [ms_ne (by omega)]
                by_cases hc129 : c = 129
                · rw [ms_ni (by omega)]
                  exact q7 c i hc hi
                · rw [ms_ne hc129]
                  exact q7 c i hc hi
              · dsimp only
                rw [ms_ne (by omega), ms_ne (by omega)]
                exact q8
            · refine wp_pos (by rw [hache, q6]; exact (lt32 (by omega) (by omega)).mpr (by omega)) (wpo_of ⟨b.length, hbl, l1 ++ (a ++ [p]), b, happ, rfl, rfl, q4, ?_⟩)
              have e : ygo Y n op st p = st := by
                refine ygo_neg ?_
                rintro ⟨-, -, -, -, c5⟩
                exact hle c5
              rw [hfl, e]
              exact ⟨q5, q6, q7, q8⟩
      · dsimp only
        congr 1
        exact nset_congr (fun p hp => by simp [yord_mem.mpr hp])
      · dsimp only
        rw [ms_ne (by omega)]
        exact hg p hp
      · exact ms_same
      · dsimp only
        by_cases hc129 : c = 129
        · rw [ms_ni (by omega)]
        · rw [ms_ne hc129]
      · dsimp only
        rw [ms_ne (by omega)]
    · rintro M ⟨r1, r2, r3, r4, r5⟩
      have hYM := h.keep r1
      have w19 : M 117 19 = Y 0 1 := hYM.2.1.symm
      have w2 : M 118 2 = Y 0 4 := hYM.2.2.2.2.1.symm
      have w3 : M 118 3 = Y 0 5 := hYM.2.2.2.2.2.1.symm
      have hj2 : ∀ (cc : Nat) (v : Int), (cc = 130 ∨ cc = 131) → (n = 0 → v = 0) → (n ≠ 0 → D cc (n - 1) = v) → (if w32 (n : Int) = 0 then some 0 else if 0 ≤ ((n : Int) - 1) ∧ ((n : Int) - 1) < 12 then some (M cc ((n : Int) - 1).toNat) else none) = some v := by
        intro cc v hcc v0 v1
        by_cases hn0 : n = 0
        · rw [if_pos (by rw [hn0]; decide), v0 hn0]
        · have et : ((n : Int) - 1).toNat = n - 1 := by omega
          rw [if_neg (by rw [w32_id (by omega)]; omega), if_pos (by omega), et, r4 cc (n - 1) (by omega) (Or.inr (by omega)), v1 hn0]
      refine wp_then (hj2 130 (yst Y n).2.1 (Or.inl rfl) (fun e => by rw [e]; rfl) (fun e => (hprev.resolve_left e).1)) ?_
      refine wp_then (a := (yst Y n).2.1 + (Y 0 1 - yleft Y n)) ?_ ?_
      · rw [w19, r3, ← elf]
        congr 1
        omega
      refine wp_then (hj2 131 (yst Y n).2.2 (Or.inr rfl) (fun e => by rw [e]; rfl) (fun e => (hprev.resolve_left e).2)) ?_
      have hH : 0 ≤ (yst Y n).2.1 + (Y 0 1 - yleft Y n) ∧ (yst Y n).2.1 + (Y 0 1 - yleft Y n) ≤ 2080 := by omega
      generalize (yst Y n).2.1 + (Y 0 1 - yleft Y n) = H at *
      have hd : div32 H (Y 0 4) = H / Y 0 4 := div32_id (by omega) (by omega)
      have hd0 : 0 ≤ H / Y 0 4 := Int.ediv_nonneg hH.1 (by omega)
      have hd1 : H / Y 0 4 ≤ H := Int.ediv_le_self _ hH.1
      refine wp_pos (by rw [w2, w32_id (by omega)]; omega) ?_
      refine wp_then (a := min (H / Y 0 4) (Y 0 5 - (yst Y n).2.2)) (by rw [w2, w3, hd, min32_id (by omega) (by omega), Int.min_comm]) ?_
      refine wp_then rfl (wp_then rfl ?_)
      rw [w2, ← eH, ← eT]
      have hT2 := (yst_bd hY ht1 (n + 1)).2
      have kf : MK D (mset (mset M 130 n (yst Y (n + 1)).2.1) 131 n (yst Y (n + 1)).2.2) := (r1.set (by omega)).set (by omega)
      have base : ∀ M' : Mem, (∀ c i, c ≠ 117 → M' c i = mset (mset M 130 n (yst Y (n + 1)).2.1) 131 n (yst Y (n + 1)).2.2 c i) → MK D M' → M' 117 27 = (if D 117 27 = -1 ∧ (yst Y (n + 1)).2.2 = Y 0 5 then (n : Int) else D 117 27) → MNight Y D M' n := by
        intro M' hM' hk hfe
        refine ⟨hk, fun p hp => ?_, ?_, ?_, ?_, fun c i hc hi => ?_, hfe⟩
        · rw [hM' 128 p (by omega), ms_ne (by omega), ms_ne (by omega), egv]
          exact r2 p hp
        · rw [hM' 129 n (by omega), ms_ne (by omega), ms_ne (by omega), elf]
          exact r3
        · rw [hM' 130 n (by omega), ms_ne (by omega), ms_same]
        · rw [hM' 131 n (by omega), ms_same]
        · rw [hM' c i (by omega), ms_ni hi, ms_ni hi]
          exact r4 c i hc (Or.inr hi)
      have f27 : mset (mset M 130 n (yst Y (n + 1)).2.1) 131 n (yst Y (n + 1)).2.2 117 27 = D 117 27 := by
        rw [ms_ne (by omega), ms_ne (by omega)]
        exact r5
      have f131 : mset (mset M 130 n (yst Y (n + 1)).2.1) 131 n (yst Y (n + 1)).2.2 131 n = (yst Y (n + 1)).2.2 := ms_same
      have f3 : mset (mset M 130 n (yst Y (n + 1)).2.1) 131 n (yst Y (n + 1)).2.2 118 3 = Y 0 5 := by
        rw [ms_ne (by omega), ms_ne (by omega)]
        exact w3
      by_cases c1 : D 117 27 = -1
      · refine wp_pos (by rw [f27, c1]) ?_
        by_cases c2 : (yst Y (n + 1)).2.2 = Y 0 5
        · refine wp_pos (by rw [f131, f3, c2]) (wpo_of (base _ (fun c i hc => ms_ne hc) kf.feast ?_))
          rw [ms_same, if_pos ⟨c1, c2⟩]
        · refine wp_neg (fun x => c2 (by rw [f131, f3] at x; exact (eq32 (by omega) (by omega)).mp x)) (wpo_of (base _ (fun c i hc => rfl) kf ?_))
          rw [f27, if_neg (fun x => c2 x.2)]
      · refine wp_neg (fun x => c1 (by rw [f27] at x; exact (eq32 (by omega) (by omega)).mp x)) (wpo_of (base _ (fun c i hc => rfl) kf ?_))
        rw [f27, if_neg (fun x => c1 x.1)]
