/-! CLASS'S PARISH AGAINST THE WORLD; what a change brings (by hand) -/
/-- the class's parish at cell b is the world W -/
def PR (D : Mem) (b : Nat) (W : Nat → Int) : Prop :=
  (D b 0 = W 9 ∧ D b 1 = W 0 ∧ D b 2 = W 1 ∧ D b 3 = W 2 ∧ D b 4 = W 3 ∧ D b 5 = W 4 ∧ D b 6 = W 5 ∧ D b 7 = W 6 ∧ D b 8 = W 7 ∧ D b 9 = W 8) ∧
  (∀ p : Nat, (p : Int) < W 7 → D (b + 1) p = wAche W (wA W) p ∧ D (b + 2) p = wFrom W (wA W) p ∧ D (b + 3) p = W (10 + 4 * p + 2) ∧ D (b + 4) p = W (10 + 4 * p + 3)) ∧
  (∀ i : Nat, (i : Int) < W 8 → ∃ p : Nat, (p : Int) < W 7 ∧ D (b + 5) i = p ∧ ((W (42 + i) < 1000 ∧ W (42 + i) / 100 = p ∧ D (b + 6) i = 0 ∧ D (b + 7) i = wAche W i p) ∨ (1000 ≤ W (42 + i) ∧ W (42 + i) / 100 - 10 = p ∧ D (b + 6) i = 1 ∧ D (b + 7) i = wFrom W i p)))
theorem mc_in {D : Mem} {a b len i : Nat} (h : i < len) : mcpy D a 0 b 0 len b i = D a i := by simp [mcpy, h]
theorem mc_ne {D : Mem} {a sp b dp len c i : Nat} (h : c ≠ b) : mcpy D a sp b dp len c i = D c i := by simp [mcpy, h]
def YF (r : Nat) (D D' : Mem) : Prop := ∀ c i, (c < r ∨ r + 12 < c) → D' c i = D c i
def Prep (r : Nat) (D M : Mem) : Prop := YF r D M ∧ M r 1 = D 12 2 ∧ M r 2 = D 12 5 ∧ M r 3 = 0 ∧ ∀ i, i < 8 → M (r + 1) i = D 13 i ∧ M (r + 2) i = D 14 i ∧ M (r + 3) i = 0
theorem sp_prepare {D : Mem} {r : Nat} (hr : 20 ≤ r) : wpo (f8_prepare D r) (fun M => Prep r D M) := by
  unfold f8_prepare
  refine wp_then rfl (wp_then rfl (wp_then rfl (wp_then rfl (wp_then rfl (wp_then (sp_fillI (by decide)) (wpo_of ?_))))))
  refine ⟨fun c i h => ?_, ?_, ?_, ?_, fun i hi => ⟨?_, ?_, ?_⟩⟩
  · rw [mf_ne (by omega), mc_ne (by omega), mc_ne (by omega), ms_ne (by omega), ms_ne (by omega), ms_ne (by omega)]
  · rw [mf_ne (by omega), mc_ne (by omega), mc_ne (by omega), ms_ni (by omega), ms_ni (by omega), ms_same]
  · rw [mf_ne (by omega), mc_ne (by omega), mc_ne (by omega), ms_ni (by omega), ms_same, ms_ne (by omega)]
  · rw [mf_ne (by omega), mc_ne (by omega), mc_ne (by omega), ms_same]
  · rw [mf_ne (by omega), mc_ne (by omega), mc_in hi, ms_ne (by omega), ms_ne (by omega), ms_ne (by omega)]
  · rw [mf_ne (by omega), mc_in hi, mc_ne (by omega), ms_ne (by omega), ms_ne (by omega), ms_ne (by omega)]
  · exact mf_same hi
theorem Prep.yc {D M : Mem} {r : Nat} {W : Nat → Int} (hr : 20 ≤ r) (hW : WOK W) (hp : PR D 12 W) (h : Prep r D M) : YC (yW W) M r := by
  obtain ⟨k, h1, h2, h3, h4⟩ := h
  obtain ⟨⟨p0, p1, p2, p3, p4, p5, p6, p7, p8, p9⟩, q, -⟩ := hp
  have hb := hW.bd
  have w : ∀ c i, c < 20 → M c i = D c i := fun c i hc => k c i (by omega)
  refine ⟨?_, ?_, ?_, ?_, ?_, ?_, ?_, fun p hpp => ?_⟩
  · rw [w 12 1 (by omega), p1]; rfl
  · rw [h1, p2]; rfl
  · rw [h2, p5]; rfl
  · rw [h3]; rfl
  · rw [w 12 3 (by omega), p3]; rfl
  · rw [w 12 4 (by omega), p4]; rfl
  · rw [w 12 8 (by omega), p8]; rfl
  · rw [yP_W] at hpp
    obtain ⟨z1, z2, z3, z4⟩ := q p (by omega)
    obtain ⟨y1, y2, y3⟩ := h4 p (by omega)
    rw [w 13 p (by omega), w 15 p (by omega), y1, y2, y3]
    exact ⟨z1.symm, z3.symm, z2.symm, z1.symm, rfl⟩
def NowOK (Y M : Mem) : Prop := (∀ p, p < yP Y → M 28 p = (yst Y (yN Y)).1 p ∧ M 29 p = ybears Y (yN Y) p) ∧ YRows Y M 23 (yN Y) ∧ M 23 4 = yall Y
def CK (D M : Mem) : Prop := ∀ c i, (c < 23 ∨ 35 < c) → (i ≠ 1 ∨ (c ≠ 49 ∧ c ≠ 58 ∧ c ≠ 64)) → M c i = D c i
theorem sp_changed {D : Mem} {W : Nat → Int} (hW : WOK W) (hp : PR D 12 W) : wpo (f9_changed D) (fun M => CK D M ∧ NowOK (yW W) M ∧ M 49 1 = 0 ∧ M 58 1 = 0 ∧ M 64 1 = 0) := by
  unfold f9_changed
  refine wp_bind.mpr (wpo_mono (sp_prepare (r := 23) (by decide)) (fun M hM => ?_))
  have hC := hM.yc (by decide) hW hp
  refine wp_bind.mpr (wpo_mono (sp_pass (by decide) hW.yok hC) ?_)
  rintro M1 ⟨k, o1, o2, o3⟩
  refine wp_then rfl (wp_then rfl (wpo_of ?_))
  have kY : YF 23 D M1 := fun c i h => (k.1 c i h).trans (hM.1 c i h)
  have f : ∀ c i, c ≠ 49 → c ≠ 58 → c ≠ 64 → mset (mset (mset M1 49 1 0) 58 1 0) 64 1 0 c i = M1 c i := fun c i h1 h2 h3 => by rw [ms_ne h3, ms_ne h2, ms_ne h1]
  refine ⟨fun c i h1 h2 => ?_, ⟨fun p hpp => ?_, fun n hn => ?_, ?_⟩, ?_, ?_, ?_⟩
  · rcases h2 with h2 | ⟨h2, h3, h4⟩
    · rw [ms_ni h2, ms_ni h2, ms_ni h2]
      exact kY c i h1
    · rw [f c i h2 h3 h4]
      exact kY c i h1
  · rw [f 28 p (by decide) (by decide) (by decide), f 29 p (by decide) (by decide) (by decide)]
    exact o1 p hpp
  · have z := o2 n hn
    rw [f (23 + 7) n (by decide) (by decide) (by decide), f (23 + 8) n (by decide) (by decide) (by decide), f (23 + 9) n (by decide) (by decide) (by decide), f (23 + 10) n (by decide) (by decide) (by decide), f (23 + 11) n (by decide) (by decide) (by decide), f (23 + 12) n (by decide) (by decide) (by decide)]
    exact z
  · rw [f 23 4 (by decide) (by decide) (by decide), o3]
    exact yall_eq
  · rw [ms_ne (by decide), ms_ne (by decide), ms_same]
  · rw [ms_ne (by decide), ms_same]
  · exact ms_same
/-- cells of which the invariant says nothing -/
def scr (c i : Nat) : Prop := (4 ≤ c ∧ c ≤ 11) ∨ (36 ≤ c ∧ c ≤ 48) ∨ c = 50 ∨ c = 56 ∨ c = 57 ∨ (60 ≤ c ∧ c ≤ 63) ∨ (67 ≤ c ∧ c ≤ 84) ∨ (122 ≤ c ∧ c ≤ 142) ∨ c = 146 ∨ (c = 117 ∧ i ≠ 5 ∧ i ≠ 12 ∧ i ≠ 13) ∨ (c = 3 ∧ 4 ≤ i)
def SK (D M : Mem) : Prop := ∀ c i, ¬ scr c i → M c i = D c i
theorem SK.rf {D : Mem} : SK D D := fun _ _ _ => rfl
theorem SK.tr {D D' D'' : Mem} (h : SK D D') (h' : SK D' D'') : SK D D'' := fun c i a => (h' c i a).trans (h c i a)
theorem SK.set {D D' : Mem} (h : SK D D') {c i : Nat} {v : Int} (hc : scr c i) : SK D (mset D' c i v) := fun c' i' a => by
  have : ¬ (c' = c ∧ i' = i) := fun e => a (by rw [e.1, e.2]; exact hc)
  rw [ms_at, if_neg this]
  exact h c' i' a
theorem MK.sk {D M : Mem} (h : MK D M) : SK D M := fun c i a => h c i (by unfold scr at a; omega) (by unfold scr at a; omega)
theorem AK.sk {D M : Mem} (h : AK D M) : SK D M := fun c i a => h c i (by unfold scr at a; omega) (by unfold scr at a; omega)
theorem YF.sk {D M : Mem} (h : YF 36 D M) : SK D M := fun c i a => h c i (by unfold scr at a; omega)
/-- the heart of the invariant -/
def IC (D : Mem) : Prop := WOK (D 118) ∧ PR D 12 (D 118) ∧ NowOK (yW (D 118)) D
/-- the reference, asked: a year as it is has passed -/
def MA (D M : Mem) : Prop := SK D M ∧ MS (yW (D 118)) M
theorem MA.w {D M : Mem} (h : MA D M) (i : Nat) : M 118 i = D 118 i := h.1 118 i (by unfold scr; omega)
theorem sp_isParish {D : Mem} (h : 0 ≤ D 118 9 ∧ D 118 9 ≤ 9) : f10_isParish D = some (if 0 < D 118 9 then 1 else 0) := by
  unfold f10_isParish
  rw [w32_id (by omega)]
  split <;> rfl
theorem sp_asksParish {D : Mem} (hW : WOK (D 118)) : wpo (f10_asksParish D) (fun b => b.1 = (if 0 < D 118 9 then 1 else 0) ∧ MA D b.2) := by
  unfold f10_asksParish
  refine wp_bind.mpr (wpo_mono (sp_asItIs hW) (fun M hM => ?_))
  have hY := hM.ym hW
  refine wp_bind.mpr (wpo_mono (sp_goNights hW.yok hY hW.teeth) (fun M1 hM1 => ?_))
  have hA : MA D M1 := ⟨hM.1.sk.tr hM1.1.sk, hM1.ms hY⟩
  have hb := hW.bd
  have e9 := hA.w 9
  refine wp_then (sp_isParish (by rw [e9]; omega)) ?_
  rw [e9]
  refine wp_pos (by split <;> omega) (wpo_of ⟨rfl, hA⟩)
theorem sp_in {D : Mem} {v lo hi : Int} (hv : -9223372036854775808 ≤ v ∧ v < 9223372036854775808) (hl : -9223372036854775808 ≤ lo ∧ lo < 9223372036854775808) (hh : -9223372036854775808 ≤ hi ∧ hi < 9223372036854775808) : f10_in D v lo hi = some (if lo ≤ v ∧ v ≤ hi then 1 else 0) := by
  refine wp_is ?_
  unfold f10_in
  by_cases c1 : v < lo
  · refine wp_pos (by rw [w64_id hv, w64_id hl]; exact c1) (wpo_of ?_)
    rw [if_neg (by omega)]
  · refine wp_neg (by rw [w64_id hv, w64_id hl]; exact c1) ?_
    by_cases c2 : hi < v
    · refine wp_pos (by rw [w64_id hv, w64_id hh]; exact c2) (wpo_of ?_)
      rw [if_neg (by omega)]
    · refine wp_neg (by rw [w64_id hv, w64_id hh]; exact c2) (wpo_of ?_)
      rw [if_pos (by omega)]
/-- an argument of a call -/
def A32 (x : Int) : Prop := -2147483648 ≤ x ∧ x < 2147483648
theorem sp_isPersonM {D : Mem} {x : Int} (h7 : 0 ≤ D 118 7 ∧ D 118 7 ≤ 8) (hx : A32 x) : f10_isPerson D x = some (if 0 ≤ x ∧ x < D 118 7 then 1 else 0) := by
  unfold A32 at hx
  refine wp_is ?_
  unfold f10_isPerson
  rw [w32_id hx, w32_id (x := D 118 7 - 1) (by omega)]
  refine wp_then (sp_in (by omega) (by omega) (by omega)) ?_
  refine wp_pos (by split <;> omega) (wpo_of ?_)
  by_cases c : 0 ≤ x ∧ x < D 118 7
  · rw [if_pos c, if_pos (by omega)]
  · rw [if_neg c, if_neg (by omega)]
theorem sp_isNightM {D : Mem} {x : Int} (h0 : 0 ≤ D 118 0 ∧ D 118 0 ≤ 12) (hx : -9223372036854775808 ≤ x ∧ x < 9223372036854775808) : f10_isNight D x = some (if 0 ≤ x ∧ x < D 118 0 then 1 else 0) := by
  refine wp_is ?_
  unfold f10_isNight
  rw [w32_id (x := D 118 0 - 1) (by omega)]
  refine wp_then (sp_in (by omega) (by omega) (by omega)) ?_
  refine wp_pos (by split <;> omega) (wpo_of ?_)
  by_cases c : 0 ≤ x ∧ x < D 118 0
  · rw [if_pos c, if_pos (by omega)]
  · rw [if_neg c, if_neg (by omega)]
theorem sp_asksPerson {D : Mem} {x : Int} (hW : WOK (D 118)) (hx : A32 x) : wpo (f10_asksPerson D x) (fun b => b.1 = (if 0 ≤ x ∧ x < D 118 7 then 1 else 0) ∧ MA D b.2) := by
  have hb := hW.bd
  unfold f10_asksPerson
  refine wp_bind.mpr (wpo_mono (sp_asksParish hW) ?_)
  rintro ⟨a, M⟩ ⟨-, hA⟩
  dsimp only at hA ⊢
  refine wp_then (sp_isPersonM (by rw [hA.w 7]; omega) hx) ?_
  rw [hA.w 7]
  exact wp_pos (by split <;> omega) (wpo_of ⟨rfl, hA⟩)
theorem sp_asksNight {D : Mem} {x : Int} (hW : WOK (D 118)) (hx : A32 x) : wpo (f10_asksNight D x) (fun b => b.1 = (if 0 ≤ x ∧ x < D 118 0 then 1 else 0) ∧ MA D b.2) := by
  have hb := hW.bd
  unfold A32 at hx
  unfold f10_asksNight
  refine wp_bind.mpr (wpo_mono (sp_asksParish hW) ?_)
  rintro ⟨a, M⟩ ⟨-, hA⟩
  dsimp only at hA ⊢
  rw [w32_id hx]
  refine wp_then (sp_isNightM (by rw [hA.w 0]; omega) (by omega)) ?_
  rw [hA.w 0]
  exact wp_pos (by split <;> omega) (wpo_of ⟨rfl, hA⟩)
theorem sp_isPersonC {D : Mem} {x : Int} (h7 : 0 ≤ D 12 8 ∧ D 12 8 ≤ 8) (hx : A32 x) : f9_isPerson D x = some (if 0 ≤ x ∧ x < D 12 8 then 1 else 0) := by
  unfold A32 at hx
  refine wp_is ?_
  unfold f9_isPerson
  by_cases c1 : x < 0
  · refine wp_pos (by rw [w32_id hx]; exact c1) (wpo_of ?_)
    rw [if_neg (by omega)]
  · refine wp_neg (by rw [w32_id hx]; exact c1) ?_
    by_cases c2 : x < D 12 8
    · exact wp_pos ((lt32 hx (by omega)).mpr c2) (wpo_of (by rw [if_pos (by omega)]))
    · exact wp_neg (fun z => c2 ((lt32 hx (by omega)).mp z)) (wpo_of (by rw [if_neg (by omega)]))
theorem sp_isNightC {D : Mem} {x : Int} (h7 : 0 ≤ D 12 1 ∧ D 12 1 ≤ 12) (hx : A32 x) : f9_isNight D x = some (if 0 ≤ x ∧ x < D 12 1 then 1 else 0) := by
  unfold A32 at hx
  refine wp_is ?_
  unfold f9_isNight
  by_cases c1 : x < 0
  · refine wp_pos (by rw [w32_id hx]; exact c1) (wpo_of ?_)
    rw [if_neg (by omega)]
  · refine wp_neg (by rw [w32_id hx]; exact c1) ?_
    by_cases c2 : x < D 12 1
    · exact wp_pos ((lt32 hx (by omega)).mpr c2) (wpo_of (by rw [if_pos (by omega)]))
    · exact wp_neg (fun z => c2 ((lt32 hx (by omega)).mp z)) (wpo_of (by rw [if_neg (by omega)]))
theorem sp_isThere {D : Mem} (h : 0 ≤ D 12 0 ∧ D 12 0 ≤ 9) : f9_isThere D = some (if 0 < D 12 0 then 1 else 0) := by
  unfold f9_isThere
  rw [w32_id (by omega)]
  split <;> rfl
