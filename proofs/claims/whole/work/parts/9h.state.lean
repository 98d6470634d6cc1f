/-! PLANS: a state of the reference's table (by hand) -/
theorem andn_bit {a b p : Nat} (hp : p < 31) : (a &&& (b ^^^ 2147483647)).testBit p = (a.testBit p && !b.testBit p) := by
  have e : (2147483647 : Nat) = 2 ^ 31 - 1 := rfl
  rw [Nat.testBit_and, Nat.testBit_xor, e, Nat.testBit_two_pow_sub_one, decide_eq_true hp, Bool.xor_true]
theorem sub_w {q s : Nat} (hq : q < 2147483648) (hs : s < 2147483648) : w32 (and32 (q : Int) (xor32 (s : Int) (-1))) = 0 ↔ Sub q s := by
  have h := sub_nat hq hs
  have e := andn32_nat hq hs
  have hc : q &&& (s ^^^ 2147483647) ≤ q := Nat.and_le_left
  rw [← h, e, w32_id (by omega)]
theorem wk_is {Co F : Nat → Int} {P k t : Nat} (hP : P ≤ 8) : aS Co P (cm F P k &&& (t ^^^ 2147483647)) = wk Co F P k t := by
  unfold aS wk
  refine sumN_congr (fun p hp => ?_)
  rw [andn_bit (by omega)]
  by_cases c : (cm F P k).testBit p = true
  · have := (cm_bit.mp c).2
    rw [c, Bool.true_and]
    cases ht : t.testBit p with
    | true => rw [if_neg (by decide), if_neg (fun z => Bool.noConfusion z.2)]
    | false => rw [if_pos (by decide), if_pos ⟨this, rfl⟩]
  · rw [if_neg (fun z => c (by rw [Bool.and_eq_true] at z; exact z.1)), if_neg (fun z => c (cm_bit.mpr ⟨hp, z.1⟩))]
theorem wk_bd {Co F : Nat → Int} {P k t : Nat} (hP : P ≤ 8) (hC : ∀ p, p < P → 0 ≤ Co p ∧ Co p ≤ 180) : 0 ≤ wk Co F P k t ∧ wk Co F P k t ≤ 1440 := by
  have := sumN_bd (f := fun p => if F p ≤ (k : Int) ∧ t.testBit p = false then Co p else 0) (n := P) (lo := 0) (hi := 180) (fun p hp => by
    have := hC p hp
    split <;> omega)
  have e : wk Co F P k t = sumN (fun p => if F p ≤ (k : Int) ∧ t.testBit p = false then Co p else 0) P := rfl
  rw [e]
  omega
/-- of a night's sets, those from q up -/
def Zd (A Co F fx : Nat → Int) (P N : Nat) (R K : Int) (k s q : Nat) (b : Int) : Int := sumN (fun x => if okm A P R K (fmk fx F P) (mmk fx P) k s x = true ∧ q ≤ x then Zr A Co F fx P N R K (k + 1) (s ||| x) (b - wk Co F P k (s ||| x)) else 0) 256
def Zo (A Co F fx : Nat → Int) (P N : Nat) (R K : Int) (k s q : Nat) (b : Int) : Int := if okm A P R K (fmk fx F P) (mmk fx P) k s q = true then Zr A Co F fx P N R K (k + 1) (s ||| q) (b - wk Co F P k (s ||| q)) else 0
theorem ok_free {A F fx : Nat → Int} {P : Nat} {R K : Int} {k s x : Nat} (hP : P ≤ 8) (h : okm A P R K (fmk fx F P) (mmk fx P) k s x = true) : Sub x (fmk fx F P k &&& (s ^^^ 2147483647)) := by
  obtain ⟨o1, o2, -⟩ := okm_iff.mp h
  intro p hp
  have h1 := o1 p hp
  have := (fmk_bit.mp h1).1
  rw [andn_bit (by omega), h1, o2 p hp]
  rfl
theorem free_ok {fx F : Nat → Int} {P k s x : Nat} (hP : P ≤ 8) (h : Sub x (fmk fx F P k &&& (s ^^^ 2147483647))) : Sub x (fmk fx F P k) ∧ ∀ p, x.testBit p = true → s.testBit p = false := by
  have h1 : Sub x (fmk fx F P k) := fun p hp => by
    have := h p hp
    rw [Nat.testBit_and, Bool.and_eq_true] at this
    exact this.1
  refine ⟨h1, fun p hp => ?_⟩
  have h2 := (fmk_bit.mp (h1 p hp)).1
  have := h p hp
  rw [andn_bit (by omega), Bool.and_eq_true] at this
  cases hs : s.testBit p with
  | false => rfl
  | true => rw [hs] at this; exact absurd this.2 (by decide)
theorem Zd_upd {A Co F fx : Nat → Int} {P N : Nat} {R K : Int} {k s q q' : Nat} {b : Int} (hP : P ≤ 8) (hq : q < 256) (hq' : q' ≤ q) (h : ∀ x, Sub x (fmk fx F P k &&& (s ^^^ 2147483647)) → x ≠ q → (q' ≤ x ↔ q + 1 ≤ x)) : Zd A Co F fx P N R K k s q' b = Zd A Co F fx P N R K k s (q + 1) b + Zo A Co F fx P N R K k s q b := by
  unfold Zd Zo
  rw [sumN_upd (f := fun x => if okm A P R K (fmk fx F P) (mmk fx P) k s x = true ∧ q' ≤ x then Zr A Co F fx P N R K (k + 1) (s ||| x) (b - wk Co F P k (s ||| x)) else 0) (g := fun x => if okm A P R K (fmk fx F P) (mmk fx P) k s x = true ∧ q + 1 ≤ x then Zr A Co F fx P N R K (k + 1) (s ||| x) (b - wk Co F P k (s ||| x)) else 0) hq (fun x _ hx => ?_)]
  · have e1 : ¬ (okm A P R K (fmk fx F P) (mmk fx P) k s q = true ∧ q + 1 ≤ q) := fun z => by have := z.2; omega
    rw [if_neg e1]
    by_cases c : okm A P R K (fmk fx F P) (mmk fx P) k s q = true
    · rw [if_pos ⟨c, hq'⟩, if_pos c]
      omega
    · rw [if_neg (fun z => c z.1), if_neg c]
      omega
  · by_cases c : okm A P R K (fmk fx F P) (mmk fx P) k s x = true
    · have e := h x (ok_free hP c) hx
      by_cases d : q + 1 ≤ x
      · rw [if_pos ⟨c, e.mpr d⟩, if_pos ⟨c, d⟩]
      · rw [if_neg (fun z => d (e.mp z.2)), if_neg (fun z => d z.2)]
    · rw [if_neg (fun z => c z.1), if_neg (fun z => c z.1)]
set_option maxHeartbeats 2000000 in
theorem sp_layState {S : Mem} {A Co F fx : Nat → Int} {P N k s : Nat} {R K : Int} (hB : PB A Co F P N R K) (hk : k < N) (hs : s < 2 ^ P) (h34 : S 117 34 = (cm F P k : Int)) (h35 : S 117 35 = (fmk fx F P k : Int)) (h36 : S 117 36 = (mmk fx P k : Int)) (h19 : S 117 19 = R) (hK : S 118 2 * S 118 3 = K) (hT : ∀ q, q < 2 ^ P → S 133 q = aS A P q ∧ S 134 q = aS Co P q) (hn : ∀ t, t < 2 ^ P → TBp (1440 * ((N : Int) - ((k + 1 : Nat) : Int))) (S 135 (256 * (k + 1) + t)) (S 136 (256 * (k + 1) + t)) (Zr A Co F fx P N R K (k + 1) t)) : wpo (f10_layState S (k : Int) (s : Int)) (fun S' => ∃ v c : Int, S' = mset (mset S 135 (256 * k + s) v) 136 (256 * k + s) c ∧ TBp (1440 * ((N : Int) - (k : Int))) v c (Zr A Co F fx P N R K k s)) := by
  have hP := hB.1
  have hN := hB.2.1
  have h256 := pow8 hP
  have hcm := cm_lt (F := F) (P := P) (k := k)
  have hfm : fmk fx F P k < 2 ^ P := nset_lt _ _
  have hmm : mmk fx P k < 2 ^ P := nset_lt _ _
  obtain ⟨-, -, hA, hC, hF, hR, hKb⟩ := id hB
  unfold f10_layState
  refine wp_then rfl ?_
  rw [h35, andn32_nat (by omega) (by omega)]
  generalize hv1 : fmk fx F P k &&& (s ^^^ 2147483647) = v1
  have hv1l : v1 ≤ fmk fx F P k := by rw [← hv1]; exact Nat.and_le_left
  refine wp_bind.mpr (wpo_mono (P := fun r => TBp (1440 * ((N : Int) - (k : Int))) r.1 r.2 (Zd A Co F fx P N R K k s 0)) ?_ ?_)
  · refine wp_loopm (I := fun m st => (st.2.2.2 = 1 ∧ ∃ q : Nat, m = q + 1 ∧ st.2.2.1 = (q : Int) ∧ Sub q v1 ∧ TBp (1440 * ((N : Int) - (k : Int))) st.1 st.2.1 (Zd A Co F fx P N R K k s (q + 1))) ∨ (st.2.2.2 = 0 ∧ m = 0 ∧ TBp (1440 * ((N : Int) - (k : Int))) st.1 st.2.1 (Zd A Co F fx P N R K k s 0))) ?_ FU (v1 + 1) _ (Or.inl ⟨rfl, v1, rfl, rfl, Sub.rf, Or.inl ⟨rfl, rfl, fun b => ?_⟩⟩) (by unfold FU; omega)
    · rintro m ⟨best, cnt, part, flag⟩ (⟨e1, q, rfl, e2, e3, e4⟩ | ⟨e1, rfl, e4⟩)
      · dsimp only at e1 e2 e4 ⊢
        subst e1 e2
        have hqv := e3.le
        have hqP : q < 2 ^ P := by omega
        obtain ⟨f1, f2⟩ := free_ok (fx := fx) (F := F) (P := P) (k := k) (s := s) hP (by rw [hv1]; exact e3)
        have hor : or32 (s : Int) (q : Int) = ((s ||| q : Nat) : Int) := or32_nat (by omega) (by omega)
        have horl : s ||| q < 2 ^ P := Nat.or_lt_two_pow hs hqP
        have hdn : and32 (cm F P k : Int) (xor32 ((s ||| q : Nat) : Int) (-1)) = ((cm F P k &&& ((s ||| q) ^^^ 2147483647) : Nat) : Int) := andn32_nat (by omega) (by omega)
        have hdl : cm F P k &&& ((s ||| q) ^^^ 2147483647) ≤ cm F P k := Nat.and_le_left
        have bq := aS_bd (f := A) (P := P) (s := q) (hi := 20) (by decide) hA
        have bs := aS_bd (f := A) (P := P) (s := s ||| q) (hi := 20) (by decide) hA
        have bw := wk_bd (F := F) (k := k) (t := s ||| q) hP hC
        have bb := e4.bd (by omega)
        have ha1 : 256 * ((k : Int) + 1) + ((s ||| q : Nat) : Int) = ((256 * (k + 1) + (s ||| q) : Nat) : Int) := by omega
        have hne := hn (s ||| q) horl
        have bn := hne.bd (by omega)
        refine wp_neg (by decide) ?_
        refine wp_then (a := ((256 * (k + 1) + (s ||| q) : Nat) : Int)) (by show some (256 * ((k : Int) + 1) + or32 (s : Int) (q : Int)) = _; rw [hor, ha1]) ?_
        rw [hor, h34, h36, hdn, Int.toNat_natCast, Int.toNat_natCast, Int.toNat_natCast, Int.toNat_natCast]
        refine wp_bind.mpr (wpo_mono (P := fun j => (j = 0 ∧ ∀ b, Zo A Co F fx P N R K k s q b = 0) ∨ (j = 1 ∧ okm A P R K (fmk fx F P) (mmk fx P) k s q = true ∧ S 135 (256 * (k + 1) + (s ||| q)) < 1000000000)) ?_ ?_)
        · by_cases c1 : Sub (mmk fx P k) q
          · refine wp_pos ((sub_w (by omega) (by omega)).mpr c1) (wp_pos (by omega) ?_)
            by_cases c2 : R < aS A P q
            · refine wp_pos (by rw [h19, (hT q hqP).1]; exact (lt32 (by omega) (by omega)).mpr c2) (wpo_of (Or.inl ⟨rfl, fun b => if_neg (fun z => ?_)⟩))
              have := (okm_iff.mp z).2.2.2.1
              omega
            · refine wp_neg (by rw [h19, (hT q hqP).1]; exact fun z => c2 ((lt32 (by omega) (by omega)).mp z)) (wp_pos (by omega) ?_)
              by_cases c3 : K < aS A P (s ||| q)
              · refine wp_pos (by rw [hK, (hT _ horl).1]; exact (lt32 (by omega) (by omega)).mpr c3) (wpo_of (Or.inl ⟨rfl, fun b => if_neg (fun z => ?_)⟩))
                have := (okm_iff.mp z).2.2.2.2
                omega
              · refine wp_neg (by rw [hK, (hT _ horl).1]; exact fun z => c3 ((lt32 (by omega) (by omega)).mp z)) (wp_pos (by omega) ?_)
                have hok : okm A P R K (fmk fx F P) (mmk fx P) k s q = true := okm_iff.mpr ⟨f1, f2, c1, by omega, by omega⟩
                by_cases c4 : S 135 (256 * (k + 1) + (s ||| q)) < 1000000000
                · exact wp_pos ((lt32 (by omega) (by omega)).mpr c4) (wpo_of (Or.inr ⟨rfl, hok, c4⟩))
                · refine wp_neg (fun z => c4 ((lt32 (by omega) (by omega)).mp z)) (wpo_of (Or.inl ⟨rfl, fun b => ?_⟩))
                  unfold Zo
                  rw [if_pos hok]
                  rcases hne with ⟨n1, n2, n3⟩ | ⟨n1, n2, n3, n4⟩
                  · exact n3 _
                  · omega
          · refine wp_neg (fun z => c1 ((sub_w (by omega) (by omega)).mp z)) (wpo_of (Or.inl ⟨rfl, fun b => if_neg (fun z => c1 (okm_iff.mp z).2.2.1)⟩))
        intro j hj
        refine wp_bind.mpr (wpo_mono (P := fun r => TBp (1440 * ((N : Int) - (k : Int))) r.1 r.2 (fun b => Zd A Co F fx P N R K k s (q + 1) b + Zo A Co F fx P N R K k s q b)) ?_ ?_)
        · rcases hj with ⟨rfl, hz⟩ | ⟨rfl, hok, c4⟩
          · exact wp_pos (by decide) (wpo_of (e4.congr (fun b => by rw [hz, Int.add_zero])))
          · refine wp_neg (by decide) (wp_pos (by omega) (wp_pos (by omega) (wp_then rfl ?_)))
            have hd : S 134 (cm F P k &&& ((s ||| q) ^^^ 2147483647)) = wk Co F P k (s ||| q) := by rw [(hT _ (by omega)).2, wk_is hP]
            rw [hd]
            rcases hne with ⟨n1, n2, n3⟩ | ⟨n1, n2, n3, n4⟩
            · omega
            · have hadd := TBp.add (Z2 := Zo A Co F fx P N R K k s q) (v2 := wk Co F P k (s ||| q) + S 135 (256 * (k + 1) + (s ||| q))) (c2 := S 136 (256 * (k + 1) + (s ||| q))) e4 (by omega) (by omega) (by unfold Zo; rw [if_pos hok, Int.add_comm (wk Co F P k (s ||| q)), Int.add_sub_cancel]; exact n2) n3 (fun b hb => by unfold Zo; rw [if_pos hok]; exact n4 _ (by omega))
              generalize hv2 : wk Co F P k (s ||| q) + S 135 (256 * (k + 1) + (s ||| q)) = v2 at hadd ⊢
              have hv2b : 0 ≤ v2 ∧ v2 ≤ 20000 := by omega
              have em : min32 best v2 = min best v2 := min32_id (by omega) (by omega)
              rw [em]
              refine wp_then (a := if v2 < best then 0 else cnt) (wp_is ?_) (wp_then (a := if v2 = min best v2 then S 136 (256 * (k + 1) + (s ||| q)) else 0) (wp_is ?_) (wpo_of hadd))
              · by_cases c : v2 < best
                · exact wp_pos ((lt32 (by omega) (by omega)).mpr c) (wpo_of (by rw [if_pos c]))
                · exact wp_neg (fun z => c ((lt32 (by omega) (by omega)).mp z)) (wpo_of (by rw [if_neg c]))
              · by_cases c : v2 = min best v2
                · exact wp_pos (by rw [← c]) (wpo_of (by rw [if_pos c]))
                · exact wp_neg (fun z => c ((eq32 (by omega) (by omega)).mp z)) (wpo_of (by rw [if_neg c]))
        rintro ⟨nb, nc⟩ hnew
        dsimp only at hnew ⊢
        by_cases q0 : q = 0
        · refine wp_then (a := 0) (by rw [if_pos (by rw [q0]; rfl)]) (wpo_of ⟨0, by omega, Or.inr ⟨rfl, rfl, hnew.congr (fun b => Zd_upd hP (by omega) (Nat.zero_le _) (fun x _ hx => by omega))⟩⟩)
        · have en : and32 ((q : Int) - 1) (v1 : Int) = (((q - 1) &&& v1 : Nat) : Int) := by
            rw [show (q : Int) - 1 = ((q - 1 : Nat) : Int) by omega]
            exact and32_nat (by omega) (by omega)
          have hnx : (q - 1) &&& v1 ≤ q - 1 := Nat.and_le_left
          refine wp_then (a := 1) (by rw [if_neg (by rw [w32_id (by omega)]; omega)]) (wpo_of ⟨((q - 1) &&& v1) + 1, by omega, Or.inl ⟨rfl, (q - 1) &&& v1, rfl, en, sub_and, hnew.congr (fun b => Zd_upd hP (by omega) (by omega) (fun x hx hxq => ?_))⟩⟩)
          rw [hv1] at hx
          have := sub_gt (by omega) e3 hx q0
          omega
      · dsimp only at e1 e4 ⊢
        subst e1
        exact wp_pos (by decide) (wpo_of e4)
    · unfold Zd
      refine sumN_off (fun x _ => if_neg (fun z => ?_))
      have h1 := ok_free hP z.1
      rw [hv1] at h1
      have := h1.le
      have := z.2
      omega
  · rintro ⟨v, c⟩ h
    dsimp only at h ⊢
    have hst : 256 * (k : Int) + (s : Int) = ((256 * k + s : Nat) : Int) := by omega
    refine wp_then (a := ((256 * k + s : Nat) : Int)) (by show some (256 * (k : Int) + (s : Int)) = _; rw [hst]) (wp_pos (by omega) (wp_then rfl (wp_then (a := ((256 * k + s : Nat) : Int)) (by show some (256 * (k : Int) + (s : Int)) = _; rw [hst]) (wp_pos (by omega) (wpo_of ⟨v, c, ?_, h.congr (fun b => ?_)⟩)))))
    · rw [Int.toNat_natCast]
    · rw [Zr_step hk]
      unfold Zd
      refine sumN_congr (fun x _ => ?_)
      by_cases c : okm A P R K (fmk fx F P) (mmk fx P) k s x = true
      · rw [if_pos c, if_pos ⟨c, Nat.zero_le _⟩]
      · rw [if_neg c, if_neg (fun z => c z.1)]
