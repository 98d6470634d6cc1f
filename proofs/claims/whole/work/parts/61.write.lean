/-! WRITE, COUNT (by hand) -/
theorem shlr {v : Int} {n : Nat} (hn : n < 64) (h : ((Int32.ofInt (n : Int)).toInt64 &&& 63).toBitVec.smod 64 = BitVec.ofNat 64 n) : shr64 (shl64 v (n : Int)) (n : Int) = ((v % 18446744073709551616) * (2 ^ n : Nat)).bmod 18446744073709551616 / (2 ^ n : Nat) := by
  have hm : n % 18446744073709551616 = n := Nat.mod_eq_of_lt (by omega)
  have e1 : Int64.ofInt (shl64 v (n : Int)) = Int64.ofInt v <<< ((Int32.ofInt (n : Int)).toInt64 &&& 63) := by
    rw [shl64, Int64.ofInt_toInt]
  rw [shr64, e1, ← Int64.toInt_toBitVec, Int64.toBitVec_shiftRight, Int64.toBitVec_shiftLeft, Int64.toBitVec_ofInt, h, BitVec.toInt_sshiftRight', BitVec.shiftLeft_eq', BitVec.toNat_ofNat, hm, BitVec.toInt_shiftLeft, BitVec.toNat_ofInt, Int.shiftRight_eq_div_pow]
  have hp : 0 ≤ v % 18446744073709551616 := Int.emod_nonneg _ (by decide)
  have e3 : (((v % ((2 ^ 64 : Nat) : Int)).toNat <<< n : Nat) : Int) = (v % 18446744073709551616) * ((2 ^ n : Nat) : Int) := by
    rw [Nat.shiftLeft_eq, Int.natCast_mul]
    congr 1
    exact Int.toNat_of_nonneg hp
  rw [e3]
theorem w8_is (v : Int) : w32 (w8 v) = (v.bmod 4294967296).bmod 256 := by
  rw [w8, w32, Int32.ofInt_toInt, Int8.toInt_toInt32, Int32.toInt_toInt8, Int32.toInt_ofInt]
theorem w16_is (v : Int) : w32 (w16 v) = (v.bmod 4294967296).bmod 65536 := by
  rw [w16, w32, Int32.ofInt_toInt, Int16.toInt_toInt32, Int32.toInt_toInt16, Int32.toInt_ofInt]
theorem w32_is (v : Int) : w32 v = v.bmod 4294967296 := by
  rw [w32, Int32.toInt_ofInt]
def A64 (x : Int) : Prop := -9223372036854775808 ≤ x ∧ x < 9223372036854775808
theorem cut_is {D : Mem} {r : Nat} {v w : Int} (hv : A64 v) (hw : 0 ≤ w ∧ w ≤ 3) (e : D r 1 = w) : ∃ u : Int, f5_narrowed D r v = some u ∧ f10_cutX D v w = some u ∧ A64 u := by
  unfold A64 at *
  have hc : w = 0 ∨ w = 1 ∨ w = 2 ∨ w = 3 := by omega
  rcases hc with rfl | rfl | rfl | rfl
  · refine ⟨w32 (w8 v), wp_is ?_, ?_, ?_⟩
    · unfold f5_narrowed
      exact wp_pos (by rw [e]; decide) (wpo_of rfl)
    · have h := shlr (v := v) (n := 56) (by decide) (by decide)
      have t : (64 - shl32 8 0 : Int) = ((56 : Nat) : Int) := by decide
      show some (shr64 (shl64 v (64 - shl32 8 0)) (64 - shl32 8 0)) = some (w32 (w8 v))
      rw [t, h, w8_is]
      refine congrArg some ?_
      rw [Int.bmod_def, Int.bmod_def, Int.bmod_def]
      omega
    · have := w32_bd (w8 v)
      omega
  · refine ⟨w32 (w16 v), wp_is ?_, ?_, ?_⟩
    · unfold f5_narrowed
      exact wp_neg (by rw [e]; decide) (wp_pos (by rw [e]; decide) (wpo_of rfl))
    · have h := shlr (v := v) (n := 48) (by decide) (by decide)
      have t : (64 - shl32 8 1 : Int) = ((48 : Nat) : Int) := by decide
      show some (shr64 (shl64 v (64 - shl32 8 1)) (64 - shl32 8 1)) = some (w32 (w16 v))
      rw [t, h, w16_is]
      refine congrArg some ?_
      rw [Int.bmod_def, Int.bmod_def, Int.bmod_def]
      omega
    · have := w32_bd (w16 v)
      omega
  · refine ⟨w32 v, wp_is ?_, ?_, ?_⟩
    · unfold f5_narrowed
      exact wp_neg (by rw [e]; decide) (wp_neg (by rw [e]; decide) (wp_pos (by rw [e]; decide) (wpo_of rfl)))
    · have h := shlr (v := v) (n := 32) (by decide) (by decide)
      have t : (64 - shl32 8 2 : Int) = ((32 : Nat) : Int) := by decide
      show some (shr64 (shl64 v (64 - shl32 8 2)) (64 - shl32 8 2)) = some (w32 v)
      rw [t, h, w32_is]
      refine congrArg some ?_
      rw [Int.bmod_def, Int.bmod_def]
      omega
    · have := w32_bd v
      omega
  · refine ⟨v, wp_is ?_, ?_, hv⟩
    · unfold f5_narrowed
      exact wp_neg (by rw [e]; decide) (wp_neg (by rw [e]; decide) (wp_neg (by rw [e]; decide) (wpo_of rfl)))
    · have h := shlr (v := v) (n := 0) (by decide) (by decide)
      have t : (64 - shl32 8 3 : Int) = ((0 : Nat) : Int) := by decide
      show some (shr64 (shl64 v (64 - shl32 8 3)) (64 - shl32 8 3)) = some v
      rw [t, h]
      refine congrArg some ?_
      rw [Int.bmod_def]
      omega
theorem ag_write {D : Mem} {x i v : Int} (hS : IS D) (hx : A32 x) (hi : A32 i) (hv : A64 v) : AGs D (f9_write D x i v) (fun M => f10_write M x i v) := by
  have hx' := hx
  have hi' := hi
  unfold A32 at hx' hi'
  unfold AGs f9_write f10_write
  refine wp_then (sp_slot9 hx) ?_
  by_cases c1 : 0 ≤ x ∧ x ≤ 3
  · refine wp_neg (fun z => if01.mp z c1) (wp_pos (by omega) ?_)
    obtain ⟨s, rfl⟩ : ∃ s : Nat, x = (s : Int) := ⟨x.toNat, by omega⟩
    rw [Int.toNat_natCast]
    have pre : ∀ (N : Mem) (k : Option (Int × Mem)) (Q : Int × Mem → Prop), wpo k Q → wpo (Option.bind (f10_isSlot N (s : Int)) fun (a1 : Int) => if w32 a1 = 0 then some ((-2), N) else if 0 ≤ (s : Int) ∧ (s : Int) < 4 then k else none) Q := fun N k Q h =>
      wp_then (sp_slot10 hx) (wp_neg (fun z => if01.mp z c1) (wp_pos (by omega) h))
    obtain ⟨hs1, hs2⟩ := hS s (by omega)
    rcases hs1 with ⟨a1, a2⟩ | ⟨a1, a2, a3, a4, a5⟩
    · exact wp_pos (by rw [a1]; decide) (wpo_of (pre _ _ _ (wp_pos (congrArg w32 a2) (wpo_of ⟨rfl, hS, SF.rf⟩))))
    · refine wp_neg (by rw [a1]; decide) ?_
      have n1 : ¬ w32 (D 143 s) = w32 (-1) := fun q => absurd ((eq32 (by omega) (by omega)).mp q) (by omega)
      have hin : ∀ M : Mem, f10_in M (w32 i) 0 (w32 (D 143 s - 1)) = some (if 0 ≤ i ∧ i ≤ D 143 s - 1 then 1 else 0) := fun M => by
        rw [w32_id hi', w32_id (x := D 143 s - 1) (by omega)]
        exact sp_in (by omega) (by omega) (by omega)
      by_cases c2 : 0 ≤ i ∧ i ≤ D 143 s - 1
      · refine wp_neg (by rw [w32_id hi']; omega) (wp_pos (by rw [a2]; exact (lt32 hi' (by omega)).mpr (by omega)) ?_)
        obtain ⟨u, u1, u2, u3⟩ := cut_is (D := D) (r := 109 + 2 * s) hv a5 a3
        refine wp_then u1 (wp_pos (by omega) (wpo_of (pre _ _ _ ?_)))
        dsimp only
        obtain ⟨j, rfl⟩ : ∃ j : Nat, i = (j : Int) := ⟨i.toNat, by omega⟩
        rw [Int.toNat_natCast]
        have e : ∀ c q, c ≠ 109 + 2 * s + 1 → mset D (109 + 2 * s + 1) j u c q = D c q := fun c q h => ms_ne h
        refine wp_neg (by rw [e _ _ (by omega)]; exact n1) ?_
        rw [e 143 s (by omega), e 144 s (by omega)]
        refine wp_then (hin _) (wp_neg (fun z => if01.mp z c2) (wp_then u2 (wp_pos (by omega) (wpo_of ⟨rfl, fun t ht => ?_, fun c q h => ?_⟩))))
        · dsimp only
          have et : (60 * (s : Int) + (j : Int)).toNat = 60 * s + j := by omega
          rw [et]
          have e2 : ∀ c q, c ≠ 145 → c ≠ 109 + 2 * s + 1 → mset (mset D (109 + 2 * s + 1) j u) 145 (60 * s + j) u c q = D c q := fun c q h h' => by rw [ms_ne h, ms_ne h']
          obtain ⟨h1, h2⟩ := hS t ht
          refine ⟨?_, fun q hq => ?_⟩
          · rw [e2 _ _ (by omega) (by omega), e2 _ _ (by omega) (by omega), e2 _ _ (by omega) (by omega), e2 _ _ (by omega) (by omega), e2 _ _ (by omega) (by omega)]
            exact h1
          · by_cases hts : t = s ∧ q = j
            · obtain ⟨rfl, rfl⟩ := hts
              rw [ms_ne (show 109 + 2 * t + 1 ≠ 145 by omega), ms_same, ms_same]
              exact ⟨rfl, u3⟩
            · have g1 : mset (mset D (109 + 2 * s + 1) j u) 145 (60 * s + j) u (109 + 2 * t + 1) q = D (109 + 2 * t + 1) q := by
                rw [ms_ne (by omega)]
                by_cases hts2 : t = s
                · subst hts2
                  rw [ms_ni (by omega)]
                · rw [ms_ne (by omega)]
              have g2 : mset (mset D (109 + 2 * s + 1) j u) 145 (60 * s + j) u 145 (60 * t + q) = D 145 (60 * t + q) := by
                rw [ms_ni (by omega), ms_ne (by omega)]
              rw [g1, g2]
              exact h2 q hq
        · dsimp only
          rw [ms_ne (by omega), ms_ne (by omega)]
      · have href : wpo (if w32 (D 143 s) = w32 (-1) then some ((-6), D) else Option.bind (f10_in D (w32 i) 0 (w32 ((D 143 s) - 1))) fun (a2 : Int) => if w32 a2 = 0 then some ((-7), D) else Option.bind (f10_cutX D v (D 144 s)) fun (a3 : Int) => if 0 ≤ ((60 * (s : Int)) + i) ∧ ((60 * (s : Int)) + i) < 240 then some (0, (mset D 145 ((60 * (s : Int)) + i).toNat a3)) else none) (fun b => w32 (-7) = w32 b.1 ∧ IS b.2 ∧ SF D b.2) :=
          wp_neg n1 (wp_then (hin _) (wp_pos (if01.mpr c2) (wpo_of ⟨rfl, hS, SF.rf⟩)))
        by_cases c3 : i < 0
        · exact wp_pos (by rw [w32_id hi']; exact c3) (wpo_of (pre _ _ _ href))
        · refine wp_neg (by rw [w32_id hi']; exact c3) (wp_neg (fun q => ?_) (wpo_of (pre _ _ _ href)))
          rw [a2] at q
          have := (lt32 hi' (by omega)).mp q
          omega
  · exact wp_pos (if01.mpr c1) (wpo_of (wp_then (sp_slot10 hx) (wp_pos (if01.mpr c1) (wpo_of ⟨rfl, hS, SF.rf⟩))))
/-- how many slots have a row -/
theorem ag_count {D : Mem} {x : Int} (hI : IC D) (hS : IS D) (hT : D 1 1 = D 117 5) (hx : A32 x) : ∃ v : Int, f9_count D x = some v ∧ f10_count D x = some v := by
  have hx' := hx
  unfold A32 at hx'
  have hw : w32 x = x := w32_id hx'
  obtain ⟨p0, p1, p2, p3, p4, p5, p6, p7, p8, p9⟩ := hI.2.1.1
  have hin : f10_in D (w32 x) 0 9 = some (if 0 ≤ x ∧ x ≤ 9 then 1 else 0) := by
    rw [hw]
    exact sp_in (by omega) (by omega) (by omega)
  by_cases c : 0 ≤ x ∧ x ≤ 9
  · refine ⟨D 118 x.toNat, wp_is ?_, wp_is ?_⟩
    · unfold f9_count
      rw [hw]
      have hc : x = 0 ∨ x = 1 ∨ x = 2 ∨ x = 3 ∨ x = 4 ∨ x = 5 ∨ x = 6 ∨ x = 7 ∨ x = 8 ∨ x = 9 := by omega
      rcases hc with rfl | rfl | rfl | rfl | rfl | rfl | rfl | rfl | rfl | rfl
      · exact wpo_of p1
      · exact wpo_of p2
      · exact wpo_of p3
      · exact wpo_of p4
      · exact wpo_of p5
      · exact wpo_of p6
      · exact wpo_of p7
      · exact wpo_of p8
      · exact wpo_of p9
      · exact wpo_of p0
    · unfold f10_count
      exact wp_then hin (wp_neg (fun z => if01.mp z c) (wp_pos (by omega) (wpo_of rfl)))
  · have n9 : ∀ k : Int, 0 ≤ k → k ≤ 9 → ¬ w32 x = k := fun k h1 h2 z => by rw [hw] at z; omega
    have pre9 : ∀ (K : Option Int) (Q : Int → Prop), wpo (if w32 x = 10 then some (D 1 1) else if w32 x = 11 then Option.bind (f9_slotsWithRows D) fun (a1 : Int) => some a1 else some (-1)) Q → wpo (f9_count D x) Q := fun K Q h => by
      unfold f9_count
      exact wp_neg (n9 0 (by decide) (by decide)) (wp_neg (n9 1 (by decide) (by decide)) (wp_neg (n9 2 (by decide) (by decide)) (wp_neg (n9 3 (by decide) (by decide)) (wp_neg (n9 4 (by decide) (by decide)) (wp_neg (n9 5 (by decide) (by decide)) (wp_neg (n9 6 (by decide) (by decide)) (wp_neg (n9 7 (by decide) (by decide)) (wp_neg (n9 8 (by decide) (by decide)) (wp_neg (n9 9 (by decide) (by decide)) h)))))))))
    by_cases c10 : x = 10
    · refine ⟨D 1 1, wp_is (pre9 none _ (wp_pos (by rw [hw]; exact c10) (wpo_of rfl))), wp_is ?_⟩
      unfold f10_count
      exact wp_then hin (wp_pos (if01.mpr c) (wp_pos (by rw [c10]) (wpo_of hT.symm)))
    · have h10 : ¬ w32 x = w32 10 := fun z => c10 ((eq32 hx' (by omega)).mp z)
      by_cases c11 : x = 11
      · refine ⟨sumN (fun s => if D 143 s = -1 then 0 else 1) 4, wp_is (pre9 none _ (wp_neg (by rw [hw]; exact c10) (wp_pos (by rw [hw]; exact c11) ?_))), wp_is ?_⟩
        · refine wp_bind.mpr (wpo_mono (P := fun v => v = sumN (fun s => if D 143 s = -1 then 0 else 1) 4) ?_ (fun v hv => wpo_of hv))
          unfold f9_slotsWithRows
          refine wp_bind.mpr ?_
          simp only [wp_some]
          refine wp_for (I := fun k s => s = (sumN (fun s => if D 143 s = -1 then 0 else 1) k, (k : Int))) 4 ?_ ?_ FU 0 _ rfl (Nat.zero_le _) (by unfold FU; omega)
          · rintro k s hk rfl
            dsimp only
            refine wp_pos ((lt32 (by omega) (by omega)).mpr (by omega)) (wp_pos (by omega) ?_)
            rw [Int.toNat_natCast]
            obtain ⟨h1, -⟩ := hS k hk
            refine wp_then (a := sumN (fun s => if D 143 s = -1 then 0 else 1) (k + 1)) ?_ (wpo_of rfl)
            rw [sumN]
            refine wp_is ?_
            rcases h1 with ⟨a1, a2⟩ | ⟨a1, a2, a3, a4, a5⟩
            · exact wp_pos (by rw [a1]; decide) (wpo_of (by rw [if_pos a2]; omega))
            · exact wp_neg (by rw [a1]; decide) (wpo_of (by rw [if_neg (by omega)]))
          · rintro s rfl
            dsimp only
            exact wp_neg (fun z => absurd ((lt32 (by omega) (by omega)).mp z) (by omega)) (wpo_of rfl)
        · unfold f10_count
          refine wp_then hin (wp_pos (if01.mpr c) (wp_neg h10 (wp_pos (by rw [c11]) ?_)))
          refine wp_bind.mpr (wpo_mono (P := fun v => v = sumN (fun s => if D 143 s = -1 then 0 else 1) 4) ?_ (fun v hv => wpo_of hv))
          refine wp_for (I := fun k s => s = (sumN (fun s => if D 143 s = -1 then 0 else 1) k, (k : Int))) 4 ?_ ?_ FU 0 _ rfl (Nat.zero_le _) (by unfold FU; omega)
          · rintro k s hk rfl
            dsimp only
            refine wp_pos ((lt32 (by omega) (by omega)).mpr (by omega)) (wp_pos (by omega) ?_)
            rw [Int.toNat_natCast]
            obtain ⟨h1, -⟩ := hS k hk
            refine wp_then (a := if D 143 k = -1 then 0 else 1) ?_ (wpo_of rfl)
            refine wp_is ?_
            rcases h1 with ⟨a1, a2⟩ | ⟨a1, a2, a3, a4, a5⟩
            · exact wp_pos (by rw [a2]) (wpo_of (by rw [if_pos a2]))
            · exact wp_neg (fun z => absurd ((eq32 (by omega) (by omega)).mp z) (by omega)) (wpo_of (by rw [if_neg (by omega)]))
          · rintro s rfl
            dsimp only
            exact wp_neg (fun z => absurd ((lt32 (by omega) (by omega)).mp z) (by omega)) (wpo_of rfl)
      · have h11 : ¬ w32 x = w32 11 := fun z => c11 ((eq32 hx' (by omega)).mp z)
        refine ⟨-1, wp_is (pre9 none _ (wp_neg (by rw [hw]; exact c10) (wp_neg (by rw [hw]; exact c11) (wpo_of rfl)))), wp_is ?_⟩
        unfold f10_count
        exact wp_then hin (wp_pos (if01.mpr c) (wp_neg h10 (wp_neg h11 (wpo_of rfl))))
