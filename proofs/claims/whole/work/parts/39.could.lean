/-! CALLS OF YEARS THAT COULD BE, frame (by hand) -/
theorem SK.w {D M : Mem} (h : SK D M) : M 118 = D 118 := funext (fun i => h 118 i (by unfold scr; omega))
theorem SK.keep {D M : Mem} (h : SK D M) {c : Nat} (hc : (12 ≤ c ∧ c ≤ 35) ∨ (85 ≤ c ∧ c ≤ 116) ∨ (118 ≤ c ∧ c ≤ 121) ∨ (143 ≤ c ∧ c ≤ 145)) (i : Nat) : M c i = D c i := h c i (by unfold scr; omega)
theorem IC.sk {D M : Mem} (hI : IC D) (h : SK D M) : IC M := by
  obtain ⟨h1, ⟨p1, p2, p3⟩, ⟨n1, n2, n3⟩⟩ := hI
  have hw := h.w
  have k : ∀ c i, 12 ≤ c → c ≤ 35 → M c i = D c i := fun c i h1 h2 => h.keep (Or.inl ⟨h1, h2⟩) i
  unfold IC
  rw [hw]
  refine ⟨h1, ⟨?_, fun p hp => ?_, fun i hi => ?_⟩, ⟨fun p hp => ?_, fun n hn => ?_, ?_⟩⟩
  · rw [k 12 0 (by decide) (by decide), k 12 1 (by decide) (by decide), k 12 2 (by decide) (by decide), k 12 3 (by decide) (by decide), k 12 4 (by decide) (by decide), k 12 5 (by decide) (by decide), k 12 6 (by decide) (by decide), k 12 7 (by decide) (by decide), k 12 8 (by decide) (by decide), k 12 9 (by decide) (by decide)]
    exact p1
  · rw [k (12 + 1) p (by decide) (by decide), k (12 + 2) p (by decide) (by decide), k (12 + 3) p (by decide) (by decide), k (12 + 4) p (by decide) (by decide)]
    exact p2 p hp
  · rw [k (12 + 5) i (by decide) (by decide), k (12 + 6) i (by decide) (by decide), k (12 + 7) i (by decide) (by decide)]
    exact p3 i hi
  · rw [k 28 p (by decide) (by decide), k 29 p (by decide) (by decide)]
    exact n1 p hp
  · rw [k (23 + 7) n (by decide) (by decide), k (23 + 8) n (by decide) (by decide), k (23 + 9) n (by decide) (by decide), k (23 + 10) n (by decide) (by decide), k (23 + 11) n (by decide) (by decide), k (23 + 12) n (by decide) (by decide)]
    exact n2 n hn
  · rw [k 23 4 (by decide) (by decide)]
    exact n3
theorem MA.of {D M N : Mem} (hs : SK D M) (h : MA M N) : MA D N := by
  obtain ⟨h1, h2⟩ := h
  rw [hs.w] at h2
  exact ⟨hs.tr h1, h2⟩
/-- a call that changes only what the invariant is silent of -/
def AGi (D : Mem) (x9 : Option (Int × Mem)) (x10 : Mem → Option (Int × Mem)) : Prop := wpo x9 (fun a => wpo (x10 a.2) (fun b => w32 a.1 = w32 b.1 ∧ SK D b.2))
theorem ag_person_i {D : Mem} {x : Int} {k9 : Option (Int × Mem)} {k10 : Int × Mem → Option (Int × Mem)} (hI : IC D) (hx : A32 x) (h : ∀ p : Nat, x = (p : Int) → p < yP (yW (D 118)) → wpo k9 (fun a => SK D a.2 ∧ ∀ b : Int × Mem, MA D b.2 → wpo (k10 b) (fun c => w32 a.1 = w32 c.1 ∧ SK D c.2))) :
    AGi D (Option.bind (f9_isPerson D x) fun (a1 : Int) => if w32 a1 = 0 then some ((-2), D) else k9) (fun M => Option.bind (f10_asksPerson M x) fun (a1 : Int × Mem) => if w32 a1.1 = 0 then some ((-2), a1.2) else k10 a1) := by
  have hb := hI.1.bd
  have e8 := hI.e8
  unfold AGi
  refine wp_then (sp_isPersonC (by omega) hx) ?_
  rw [e8]
  by_cases c : 0 ≤ x ∧ x < D 118 7
  · refine wp_neg (by rw [if_pos c]; decide) ?_
    have hp : x.toNat < yP (yW (D 118)) := by rw [yP_W]; omega
    have hxp : x = ((x.toNat : Nat) : Int) := by omega
    refine wpo_mono (h x.toNat hxp hp) ?_
    rintro a ⟨hs, hk⟩
    obtain ⟨b, hb1, hb2, hb3⟩ := sp_asksPerson (x := x) (hI.sk hs).1 hx
    rw [hs.w] at hb2
    exact wp_then hb1 (wp_neg (by rw [hb2, if_pos c]; decide) (hk b (MA.of hs hb3)))
  · refine wp_pos (by rw [if_neg c]; decide) (wpo_of ?_)
    refine wp_bind.mpr (wpo_mono (sp_asksPerson hI.1 hx) (fun b hb => ?_))
    exact wp_pos (by rw [hb.1, if_neg c]; decide) (wpo_of ⟨rfl, hb.2.1⟩)
theorem ag_there_i {D : Mem} {k9 : Option (Int × Mem)} {k10 : Int × Mem → Option (Int × Mem)} (hI : IC D) (h : 1 ≤ yN (yW (D 118)) → wpo k9 (fun a => SK D a.2 ∧ ∀ b : Int × Mem, MA D b.2 → wpo (k10 b) (fun c => w32 a.1 = w32 c.1 ∧ SK D c.2))) :
    AGi D (Option.bind (f9_isThere D) fun (a1 : Int) => if w32 a1 = 0 then some ((-2), D) else k9) (fun M => Option.bind (f10_asksParish M) fun (a1 : Int × Mem) => if w32 a1.1 = 0 then some ((-2), a1.2) else k10 a1) := by
  have hb := hI.1.bd
  have h1 := hI.1.1
  have e8 : D 12 0 = D 118 9 := hI.2.1.1.1
  unfold AGi
  refine wp_then (sp_isThere (by omega)) ?_
  rw [e8]
  by_cases c : 0 < D 118 9
  · refine wp_neg (by rw [if_pos c]; decide) ?_
    refine wpo_mono (h (by rw [yN_W]; omega)) ?_
    rintro a ⟨hs, hk⟩
    obtain ⟨b, hb1, hb2, hb3⟩ := sp_asksParish (hI.sk hs).1
    rw [hs.w] at hb2
    exact wp_then hb1 (wp_neg (by rw [hb2, if_pos c]; decide) (hk b (MA.of hs hb3)))
  · refine wp_pos (by rw [if_neg c]; decide) (wpo_of ?_)
    refine wp_bind.mpr (wpo_mono (sp_asksParish hI.1) (fun b hb => ?_))
    exact wp_pos (by rw [hb.1, if_neg c]; decide) (wpo_of ⟨rfl, hb.2.1⟩)
/-- the class makes the other year ready -/
theorem sp_prep36 {D M : Mem} (hI : IC D) (hs : SK D M) : wpo (f8_prepare M 36) (fun M1 => SK D M1 ∧ YC (yW (D 118)) M1 36) := by
  have hM := hI.sk hs
  refine wpo_mono (sp_prepare (r := 36) (by decide)) (fun M1 h => ?_)
  refine ⟨hs.tr h.1.sk, ?_⟩
  rw [← hs.w]
  exact h.yc (by decide) hM.1 hM.2.1
def Y36 (Y M : Mem) : Prop := M 36 4 = yall Y ∧ (∀ p, p < yP Y → M 41 p = (yst Y (yN Y)).1 p ∧ M 42 p = ybears Y (yN Y) p)
theorem sp_pass36 {D Y M : Mem} (hs : SK D M) (hY : YOK Y) (hC : YC Y M 36) : wpo (f8_pass M 36) (fun M1 => SK D M1 ∧ Y36 Y M1) := by
  refine wpo_mono (sp_pass (by decide) hY hC) ?_
  rintro M1 ⟨k, o1, o2, o3⟩
  have hk : YF 36 M M1 := fun c i h => k.1 c i h
  exact ⟨hs.tr hk.sk, o3.trans yall_eq, o1⟩
/-- the reference passes the other year -/
theorem sp_go {D Y M : Mem} (hs : SK D M) (hY : YOK Y) (hM : YM Y M) (hT : Y 0 0 = 0 ∨ 1 ≤ Y 0 5) : wpo (f10_goNights M) (fun M1 => SK D M1 ∧ MS Y M1) :=
  wpo_mono (sp_goNights hY hM hT) (fun _ h => ⟨hs.tr h.1.sk, h.ms hM⟩)
theorem MA.ng {D M : Mem} (hI : IC D) (h : MA D M) : NG (yW (D 118)) M := by
  intro p hp e
  have hp7 : (p : Int) < D 118 7 := by rw [yP_W] at hp; omega
  have hA := hI.1.A
  have hf := wFrom_bd hI.1 hp7 (i := wA (D 118)) (by omega)
  have a3 : wFrom (D 118) (wA (D 118)) p = (if (p : Int) = M 117 21 then 100 else M 125 p) := (h.2.1.2.2.2.2.2.2.2.2 p hp).2.2.1
  rw [if_pos e] at a3
  omega
-- in bounds still
theorem YOK.per {Y : Mem} (h : YOK Y) {k q : Nat} {v : Int} (hk : (k = 3 ∧ 0 ≤ v ∧ v ≤ 100) ∨ (k = 4 ∧ 0 ≤ v ∧ v ≤ 60) ∨ (k = 5 ∧ 0 ≤ v ∧ v ≤ 3)) : YOK (mset Y k q v) := by
  have g : ∀ i, mset Y k q v 0 i = Y 0 i := fun i => ms_ne (by omega)
  obtain ⟨h0, h1, h2, h3, h4, h5, h6, h8, h7⟩ := h
  unfold YOK
  rw [g 0, g 1, g 2, g 3, g 4, g 5, g 6]
  refine ⟨h0, h1, h2, h3, h4, h5, h6, h8, fun p hp => ?_⟩
  obtain ⟨a1, a2, a3, a4, a5⟩ := h7 p hp
  rw [ms_ne (show 1 ≠ k by omega), ms_ne (show 2 ≠ k by omega)]
  refine ⟨a1, a2, ?_, ?_, ?_⟩
  · rw [ms_at]; split <;> omega
  · rw [ms_at]; split <;> omega
  · rw [ms_at]; split <;> omega
theorem YOK.num {Y : Mem} (h : YOK Y) {i : Nat} {v : Int} (hk : (i = 1 ∧ 0 ≤ v ∧ v ≤ 160) ∨ (i = 2 ∧ 0 ≤ v ∧ v ≤ 3) ∨ (i = 3 ∧ 0 ≤ v ∧ v ≤ 100)) : YOK (mset Y 0 i v) := by
  obtain ⟨h0, h1, h2, h3, h4, h5, h6, h8, h7⟩ := h
  unfold YOK
  rw [ms_ni (show 0 ≠ i by omega), ms_ni (show 4 ≠ i by omega), ms_ni (show 5 ≠ i by omega), ms_ni (show 6 ≠ i by omega)]
  refine ⟨h0, ?_, ?_, ?_, h4, h5, h6, h8, fun p hp => ?_⟩
  · rw [ms_at]; split <;> omega
  · rw [ms_at]; split <;> omega
  · rw [ms_at]; split <;> omega
  · rw [ms_ne (show 1 ≠ 0 by decide), ms_ne (show 2 ≠ 0 by decide), ms_ne (show 3 ≠ 0 by decide), ms_ne (show 4 ≠ 0 by decide), ms_ne (show 5 ≠ 0 by decide)]
    exact h7 p hp
theorem ag_without {D : Mem} {x : Int} (hI : IC D) (hx : A32 x) : AGi D (f9_without D x) (fun M => f10_without M x) := by
  refine ag_person_i hI hx (fun p e hp => ?_)
  subst e
  have h8 := hI.person hp
  have hY : YOK (mset (yW (D 118)) 3 p 100) := hI.1.yok.per (Or.inl ⟨rfl, by decide, by decide⟩)
  have hT : (mset (yW (D 118)) 3 p 100) 0 0 = 0 ∨ 1 ≤ (mset (yW (D 118)) 3 p 100) 0 5 := by
    rw [ms_ne (by decide), ms_ne (by decide)]
    exact hI.1.teeth
  refine wp_bind.mpr (wpo_mono (P := fun M => SK D M ∧ Y36 (mset (yW (D 118)) 3 p 100) M) ?_ ?_)
  · unfold f9_passWithout
    refine wp_bind.mpr (wpo_mono (sp_prep36 hI SK.rf) ?_)
    rintro M1 ⟨s1, c1⟩
    refine wp_pos (by omega) (wp_then rfl ?_)
    rw [Int.toNat_natCast]
    refine wp_bind.mpr (wpo_mono (sp_pass36 (D := D) (s1.set (by unfold scr; omega)) hY (YC.per (j := 2) (by decide) c1 (Or.inr (Or.inl ⟨rfl, rfl⟩)))) (fun M2 h2 => wpo_of h2))
  · rintro M2 ⟨s2, y1, y2⟩
    refine wpo_of ⟨s2, fun b hb => ?_⟩
    have hm : YM (mset (yW (D 118)) 3 p 100) (mset b.2 117 21 (p : Int)) := hb.2.1.gone (hb.ng hI) hp (by omega)
    refine wp_then rfl ?_
    refine wp_bind.mpr (wpo_mono (sp_go (D := D) (hb.1.set (by unfold scr; omega)) hY hm hT) ?_)
    rintro M3 ⟨s3, m3⟩
    refine wp_then (sp_bearsAll hY m3) (wpo_of ⟨?_, s3⟩)
    dsimp only
    rw [y1]
