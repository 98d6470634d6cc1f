/-! HEAP RULES: fields, arrays, statics, switches, ends -/
/-- cell k is an object of class c; an array of kind t and length len -/
def VR (n k c : Nat) : Prop := sh k = (0, c) ∧ k < n
def VA (n k t len : Nat) : Prop := sh k = (t, len) ∧ k < n
/-- entry i of class o's pool is field j of class c, of kind t -/
def LkF (o i c j t : Nat) : Prop := c < 11 ∧ j < nf c ∧ fk c j = t ∧ (Cond.fieldLink (RN o) i (RN c) (FT c j).2.1 (FT c j).2.2.1 ∈ T0 ∨ ∃ h, Cond.fieldLinkNest (RN o) i (RN c) (FT c j).2.1 (FT c j).2.2.1 h ∈ NW)
theorem cell_obj {X : XT} {ρ : Rho} {k c : Nat} {d : Nat → Int} (h : sh k = (0, c)) : cellE X ρ k d = .inr (c, (List.range (nf c)).map (fval X ρ k d c)) := by simp [cellE, h]
theorem cell_int {X : XT} {ρ : Rho} {k n : Nat} {d : Nat → Int} (h : sh k = (1, n)) : cellE X ρ k d = .inl (X.cA 1, n, .inl fun i => Int32.ofInt (d i)) := by simp [cellE, h]
theorem cell_long {X : XT} {ρ : Rho} {k n : Nat} {d : Nat → Int} (h : sh k = (2, n)) : cellE X ρ k d = .inl (X.cA 2, n, .inr (.inl fun i => Int64.ofInt (d i))) := by simp [cellE, h]
theorem cell_byte {X : XT} {ρ : Rho} {k n : Nat} {d : Nat → Int} (h : sh k = (3, n)) : cellE X ρ k d = .inl (X.cA 3, n, .inl fun i => Int32.ofInt (d i)) := by simp [cellE, h]
theorem cell_bool {X : XT} {ρ : Rho} {k n : Nat} {d : Nat → Int} (h : sh k = (4, n)) : cellE X ρ k d = .inl (X.cA 4, n, .inl fun i => Int32.ofInt (d i)) := by simp [cellE, h]
theorem cell_rp {X : XT} {ρ : Rho} {k n : Nat} {d : Nat → Int} (h : sh k = (5, n)) : cellE X ρ k d = .inl (X.cA 5, n, .inr (.inr (.inr (.inr fun i => rfO X.B (ρ k i))))) := by simp [cellE, h]
theorem cell_rs {X : XT} {ρ : Rho} {k n : Nat} {d : Nat → Int} (h : sh k = (6, n)) : cellE X ρ k d = .inl (X.cA 6, n, .inr (.inr (.inr (.inr fun i => rfO X.B (ρ k i))))) := by simp [cellE, h]
theorem cell_congr {X : XT} {ρ ρ' : Rho} {k : Nat} {d d' : Nat → Int} (h : ∀ i, d i = d' i) (h' : ∀ i, ρ k i = ρ' k i) : cellE X ρ k d = cellE X ρ' k d' := by
  have e : d = d' := funext h
  have e' : ρ k = ρ' k := funext h'
  subst e
  unfold cellE fval
  rw [e']
theorem fval_at {X : XT} {ρ : Rho} {k c j : Nat} {d : Nat → Int} (hj : j < nf c) : ((List.range (nf c)).map (fval X ρ k d c))[j]? = some (fval X ρ k d c j) := by simp [hj]
theorem fields_set {X : XT} {ρ ρ' : Rho} {k c j : Nat} {d d' : Nat → Int} {v : Value} (hj : j < nf c) (hv : v = fval X ρ' k d' c j) (ho : ∀ i, i ≠ j → fval X ρ k d c i = fval X ρ' k d' c i) :
    ((List.range (nf c)).map (fval X ρ k d c)).set j v = (List.range (nf c)).map (fval X ρ' k d' c) := by
  apply List.ext_getElem?
  intro i
  by_cases hi : i < nf c
  · by_cases hij : i = j
    · subst hij
      rw [List.getElem?_set_self (by simp [hi]), fval_at hi, hv]
    · rw [List.getElem?_set_ne (Ne.symm hij), fval_at hi, fval_at hi, ho i hij]
  · rw [List.getElem?_eq_none (by simp; omega), List.getElem?_eq_none (by simp; omega)]
theorem upd_cell {X : XT} {n k : Nat} {ρ ρ' : Rho} {D D' : Mem} {H H1 : Heap} {e : va_E} (hP : va_P X.G cls (World X n ρ D) H) (h : k < n) (he : e = cellE X ρ' k (D' k)) (hat : va_at X.G cls (X.B + k, e) H1) (oq : ∀ q : Nat, q ≠ X.B + k → H1[q]? = H[q]?) (ho : ∀ j, j ≠ k → cellE X ρ j (D j) = cellE X ρ' j (D' j)) : va_P X.G cls (World X n ρ' D') H1 := by
  rw [← World_set h he ho]
  exact hP.set World_D (World_at h) hat oq
theorem mset_ne {D : Mem} {c i k : Nat} {v : Int} (h : k ≠ c) : mset D c i v k = D k := by
  funext j
  simp [mset, h]
theorem mset_eq {D : Mem} {c i : Nat} {v : Int} : mset D c i v c = fun j => if j = i then v else D c j := by
  funext j
  simp [mset]
/-- an index that is within: the same as a number of Int32 -/
theorem ix_in {i : Int} {n : Nat} (h : 0 ≤ i ∧ i < (n : Int)) (hn : n < 2 ^ 31) : vp_in (Int32.ofInt i) n ∧ (Int32.ofInt i).toNatClampNeg = i.toNat := by
  have e : (Int32.ofInt i).toInt = i := Int32.toInt_ofInt_of_le (by omega) (by omega)
  refine ⟨vp_in_iff.mpr (by rw [e]; exact h), ?_⟩
  show (Int32.ofInt i).toInt.toNat = _
  rw [e]
theorem sh_len : ∀ k, k < 200 → (sh k).2 < 5000 := by decide +kernel
theorem SHs_length : SHs.length = 147 := by decide +kernel
theorem sh_lt {k t len : Nat} (h : sh k = (t, len)) : len < 2 ^ 31 := by
  have h2 : (sh k).2 = len := by rw [h]
  by_cases hk : k < 200
  · have := sh_len k hk
    omega
  · have e : sh k = (9, 0) := by
      unfold sh
      rw [List.getD_eq_getElem?_getD, List.getElem?_eq_none (by rw [SHs_length]; omega)]
      rfl
    rw [e] at h2
    have : (0 : Nat) = len := h2
    omega
section HRULES
variable {K : KT} {X : XT} {Z : State → Prop} {cs ss n nL pc o : Nat} {ρ : Rho} {lv : List (Nat × Value)} {rest : List Value} {D : Mem} {cc : ByteArray} {rtn : Option FieldType} {rm : Room}
theorem r_getV (F : Fx K X o cc nL rtn rm) {i c j r t : Nat} (hl : LkF o i c j t) (hr : VR n r c) {v : Value} (hv : fval X ρ r (D r) c j = v) (d : decode cc pc = .ok (.getfield i, 3)) (k : At K X Z cs ss n ρ nL (pc + 3) lv (v :: rest) D) : At K X Z cs ss n ρ nL pc lv (vR X r :: rest) D := by
  obtain ⟨hc, hj, -, hlk⟩ := hl
  intro H locs ls hz hP hS hll
  have he := World_at (X := X) (ρ := ρ) (D := D) hr.2
  rw [cell_obj hr.1] at he
  have hf := (fval_at (X := X) (ρ := ρ) (k := r) (d := D r) hj).trans (congrArg some hv)
  have q := k H locs ls hz hP hS hll
  rcases hlk with hlk | ⟨h, hlk⟩
  · exact va_get F.1 F.2.1 F.2.2.2.2.1 (wc_in c hc) F.2.2.2.1 F.wd.2.1 hP r he (cls_at hc) j hj (F.2.2.2.2.1 _ hlk) (fun _ z => z) hf d q
  · exact va_getN F.1 F.2.1 F.2.2.2.2.1 (wc_in c hc) F.2.2.2.1 F.wd.2.1 hP r he (cls_at hc) j hj (va_Nw.use rfl (F.wd.1 _ hlk)) (fun _ z => z) hf d q
theorem r_getI (F : Fx K X o cc nL rtn rm) {i c j r : Nat} (hl : LkF o i c j 0) (hr : VR n r c) (d : decode cc pc = .ok (.getfield i, 3)) (k : At K X Z cs ss n ρ nL (pc + 3) lv (vI (D r j) :: rest) D) : At K X Z cs ss n ρ nL pc lv (vR X r :: rest) D :=
  r_getV F hl hr (by simp [fval, hl.2.2.1]) d k
theorem r_getL (F : Fx K X o cc nL rtn rm) {i c j r : Nat} (hl : LkF o i c j 1) (hr : VR n r c) (d : decode cc pc = .ok (.getfield i, 3)) (k : At K X Z cs ss n ρ nL (pc + 3) lv (vL (D r j) :: rest) D) : At K X Z cs ss n ρ nL pc lv (vR X r :: rest) D :=
  r_getV F hl hr (by simp [fval, hl.2.2.1]) d k
theorem r_getR (F : Fx K X o cc nL rtn rm) {i c j r z : Nat} (hl : LkF o i c j 2) (hr : VR n r c) (hz : ρ r j = z + 1) (d : decode cc pc = .ok (.getfield i, 3)) (k : At K X Z cs ss n ρ nL (pc + 3) lv (vR X z :: rest) D) : At K X Z cs ss n ρ nL pc lv (vR X r :: rest) D :=
  r_getV F hl hr (by simp [fval, hl.2.2.1, hz, rfO, va_rf, vR]) d k
/-- any field that isn't final -/
theorem r_putV (F : Fx K X o cc nL rtn rm) {i c j r t : Nat} (hl : LkF o i c j t) (hfin : (FT c j).2.2.2 = false) (hr : VR n r c) {v : Value} {ρ' : Rho} {D' : Mem} (hn : narrow (FY c j) v = v) (hft : fits (FY c j) v = true) (hv : v = fval X ρ' r (D' r) c j) (hsame : ∀ i, i ≠ j → fval X ρ r (D r) c i = fval X ρ' r (D' r) c i) (ho : ∀ j, j ≠ r → cellE X ρ j (D j) = cellE X ρ' j (D' j))
    (d : decode cc pc = .ok (.putfield i, 3)) (k : At K X Z cs ss n ρ' nL (pc + 3) lv rest D') : At K X Z cs ss n ρ nL pc lv (v :: vR X r :: rest) D := by
  obtain ⟨hc, hj, -, hlk⟩ := hl
  intro H locs ls hz hP hS hll
  have he := World_at (X := X) (ρ := ρ) (D := D) hr.2
  rw [cell_obj hr.1] at he
  have hts := F.2.2.2.2.1
  have hin := wc_in c hc
  have hown := F.2.2.2.1
  have hK := F.wd.2.1
  have hap := va_apart (own := RN o) hts hin (FY c) (FY_ok c hc) (FN_ok c hc) hK (cls_at hc)
  obtain ⟨q0, h1, cell, q1, q2, q3, q4⟩ := hP r _ he
  cases h1.symm.trans (cls_at hc)
  obtain ⟨hSl, hfc, kC, hkC, hkind⟩ := hK.1 c _ (cls_at hc)
  obtain ⟨cf, kf, fi, f, hi, hsl⟩ := hSl j hj
  have hlay := hts _ (hin _ (u_in_lay hj))
  unfold u_lay at hlay
  rw [if_neg (by rw [hfin]; decide)] at hlay
  have hst := (u_facts hfc hkC (u_lays hts hin hj) hi).1
  have h6 := u_store hfc hkC hkind hlay hi (FY_ok c hc j hj) hn hft
  have hslot : f.slot < cell.slots.size := by
    rw [hsl]
    exact k2_hasslot (q4 j hj)
  have go : ∀ H' : Heap, H'[X.B + r]? = some (cell.setSlot f.slot v) → H'.size = H.size → (∀ q, q ≠ X.B + r → H'[q]? = H[q]?) → W K.p K.l K.e K.R K.s K.m K.args K.below K.meth K.c H' (locs ++ [⟨X.B + r, f.slot⟩]) cs ss Z (F0 K.m (pc + 3) ls rest) := by
    intro H' e1 e2 e3
    rw [hsl] at e1 ⊢
    refine k H' _ ls (e2.trans hz) ?_ (hS.put e2 e3 (Nat.le_add_right _ _)) hll
    refine upd_cell (D' := D') (e := .inr (c, ((List.range (nf c)).map (fval X ρ r (D r) c)).set j v)) hP hr.2 ?_ ?_ e3 ho
    · rw [cell_obj hr.1, fields_set hj hv hsame]
    · exact ⟨_, cls_at hc, t_OB.to (V := updV (vp_V ((List.range (nf c)).map (fval X ρ r (D r) c))) j v) ⟨_, e1, q2, q3, t_set q4 hap hj v⟩ (fun a _ => vp_updV_set (by simp [hj]) v a)⟩
  rcases hlk with hlk | ⟨h, hlk⟩
  · exact W.putK F.1 F.2.1 (f := f) ⟨hown, hts _ hlk, ⟨_, _, _, hi⟩, hst⟩ (by rw [q2]; exact h6) q1 q3 hslot rfl rfl d go
  · exact va_WputK F.1 F.2.1 (f := f) hown (va_Nw.use rfl (F.wd.1 _ hlk)) hi hst (by rw [q2]; exact h6) q1 q3 hslot rfl rfl d go
theorem fval_ne {D : Mem} {r c j i : Nat} {x : Int} (h : i ≠ j) : fval X ρ r (D r) c i = fval X ρ r (mset D r j x r) c i := by
  rw [mset_eq]
  simp [fval, h]
theorem cell_ne {D : Mem} {r j : Nat} {x : Int} : ∀ k, k ≠ r → cellE X ρ k (D k) = cellE X ρ k (mset D r j x k) := fun k h => by rw [mset_ne h]
theorem r_putI (F : Fx K X o cc nL rtn rm) {i c j r : Nat} {x : Int} (hl : LkF o i c j 0) (hfin : (FT c j).2.2.2 = false) (hty : FY c j = .int) (hr : VR n r c) (d : decode cc pc = .ok (.putfield i, 3)) (k : At K X Z cs ss n ρ nL (pc + 3) lv rest (mset D r j x)) : At K X Z cs ss n ρ nL pc lv (vI x :: vR X r :: rest) D :=
  r_putV F hl hfin hr (by rw [hty]; rfl) (by rw [hty]; rfl) (by simp [fval, hl.2.2.1, mset]) (fun _ h => fval_ne h) cell_ne d k
theorem r_putZ (F : Fx K X o cc nL rtn rm) {i c j r : Nat} {x : Int} (hx : x = 0 ∨ x = 1) (hl : LkF o i c j 0) (hfin : (FT c j).2.2.2 = false) (hty : FY c j = .boolean) (hr : VR n r c) (d : decode cc pc = .ok (.putfield i, 3)) (k : At K X Z cs ss n ρ nL (pc + 3) lv rest (mset D r j x)) : At K X Z cs ss n ρ nL pc lv (vI x :: vR X r :: rest) D :=
  r_putV F hl hfin hr (by rw [hty]; rcases hx with rfl | rfl <;> rfl) (by rw [hty]; rcases hx with rfl | rfl <;> decide +kernel) (by simp [fval, hl.2.2.1, mset]) (fun _ h => fval_ne h) cell_ne d k
theorem r_putL (F : Fx K X o cc nL rtn rm) {i c j r : Nat} {x : Int} (hl : LkF o i c j 1) (hfin : (FT c j).2.2.2 = false) (hty : FY c j = .long) (hr : VR n r c) (d : decode cc pc = .ok (.putfield i, 3)) (k : At K X Z cs ss n ρ nL (pc + 3) lv rest (mset D r j x)) : At K X Z cs ss n ρ nL pc lv (vL x :: vR X r :: rest) D :=
  r_putV F hl hfin hr (by rw [hty]; rfl) (by rw [hty]; rfl) (by simp [fval, hl.2.2.1, mset]) (fun _ h => fval_ne h) cell_ne d k
-- arrays
theorem r_iald (F : Fx K X o cc nL rtn rm) {a len : Nat} {i : Int} (ha : VA n a 1 len) (hi : 0 ≤ i ∧ i < (len : Int)) (d : decode cc pc = .ok (.iaload, 1)) (k : At K X Z cs ss n ρ nL (pc + 1) lv (vI (D a i.toNat) :: rest) D) : At K X Z cs ss n ρ nL pc lv (vI i :: vR X a :: rest) D := by
  intro H locs ls hz hP hS hll
  have he := World_at (X := X) (ρ := ρ) (D := D) ha.2
  rw [cell_int ha.1] at he
  obtain ⟨h1, h2⟩ := ix_in hi (sh_lt ha.1)
  have q := k H locs ls hz hP hS hll
  exact va_iald F.1 F.2.1 F.wd.2.1 hP a 0 he rfl h1 d (by rw [h2]; exact q)
theorem r_bald (F : Fx K X o cc nL rtn rm) {a len : Nat} {i : Int} (ha : VA n a 3 len) (hi : 0 ≤ i ∧ i < (len : Int)) (d : decode cc pc = .ok (.baload, 1)) (k : At K X Z cs ss n ρ nL (pc + 1) lv (vI (D a i.toNat) :: rest) D) : At K X Z cs ss n ρ nL pc lv (vI i :: vR X a :: rest) D := by
  intro H locs ls hz hP hS hll
  have he := World_at (X := X) (ρ := ρ) (D := D) ha.2
  rw [cell_byte ha.1] at he
  obtain ⟨h1, h2⟩ := ix_in hi (sh_lt ha.1)
  have q := k H locs ls hz hP hS hll
  exact va_bald F.1 F.2.1 F.wd.2.1 hP a 2 he rfl h1 d (by rw [h2]; exact q)
theorem r_zald (F : Fx K X o cc nL rtn rm) {a len : Nat} {i : Int} (ha : VA n a 4 len) (hi : 0 ≤ i ∧ i < (len : Int)) (d : decode cc pc = .ok (.baload, 1)) (k : At K X Z cs ss n ρ nL (pc + 1) lv (vI (D a i.toNat) :: rest) D) : At K X Z cs ss n ρ nL pc lv (vI i :: vR X a :: rest) D := by
  intro H locs ls hz hP hS hll
  have he := World_at (X := X) (ρ := ρ) (D := D) ha.2
  rw [cell_bool ha.1] at he
  obtain ⟨h1, h2⟩ := ix_in hi (sh_lt ha.1)
  have q := k H locs ls hz hP hS hll
  exact va_zald F.1 F.2.1 F.wd.2.1 hP a 3 he rfl h1 d (by rw [h2]; exact q)
theorem r_lald (F : Fx K X o cc nL rtn rm) {a len : Nat} {i : Int} (ha : VA n a 2 len) (hi : 0 ≤ i ∧ i < (len : Int)) (d : decode cc pc = .ok (.laload, 1)) (k : At K X Z cs ss n ρ nL (pc + 1) lv (vL (D a i.toNat) :: rest) D) : At K X Z cs ss n ρ nL pc lv (vI i :: vR X a :: rest) D := by
  intro H locs ls hz hP hS hll
  have he := World_at (X := X) (ρ := ρ) (D := D) ha.2
  rw [cell_long ha.1] at he
  obtain ⟨h1, h2⟩ := ix_in hi (sh_lt ha.1)
  have q := k H locs ls hz hP hS hll
  exact va_lald F.1 F.2.1 F.wd.2.1 hP a 1 he rfl h1 d (by rw [h2]; exact q)
theorem r_aaldP (F : Fx K X o cc nL rtn rm) {a len z : Nat} {i : Int} (ha : VA n a 5 len) (hi : 0 ≤ i ∧ i < (len : Int)) (hr : ρ a i.toNat = z + 1) (d : decode cc pc = .ok (.aaload, 1)) (k : At K X Z cs ss n ρ nL (pc + 1) lv (vR X z :: rest) D) : At K X Z cs ss n ρ nL pc lv (vI i :: vR X a :: rest) D := by
  intro H locs ls hz hP hS hll
  have he := World_at (X := X) (ρ := ρ) (D := D) ha.2
  rw [cell_rp ha.1] at he
  obtain ⟨h1, h2⟩ := ix_in hi (sh_lt ha.1)
  have q := k H locs ls hz hP hS hll
  exact va_aldq F.1 F.2.1 F.wd.2.1 hP a 4 he rfl h1 d (by rw [h2, hr]; exact q)
theorem r_aaldS (F : Fx K X o cc nL rtn rm) {a len z : Nat} {i : Int} (ha : VA n a 6 len) (hi : 0 ≤ i ∧ i < (len : Int)) (hr : ρ a i.toNat = z + 1) (d : decode cc pc = .ok (.aaload, 1)) (k : At K X Z cs ss n ρ nL (pc + 1) lv (vR X z :: rest) D) : At K X Z cs ss n ρ nL pc lv (vI i :: vR X a :: rest) D := by
  intro H locs ls hz hP hS hll
  have he := World_at (X := X) (ρ := ρ) (D := D) ha.2
  rw [cell_rs ha.1] at he
  obtain ⟨h1, h2⟩ := ix_in hi (sh_lt ha.1)
  have q := k H locs ls hz hP hS hll
  exact va_aldq F.1 F.2.1 F.wd.2.1 hP a 5 he rfl h1 d (by rw [h2, hr]; exact q)
theorem r_alen (F : Fx K X o cc nL rtn rm) {a t len : Nat} (ha : VA n a t len) (ht : 1 ≤ t ∧ t ≤ 4) (d : decode cc pc = .ok (.arraylength, 1)) (k : At K X Z cs ss n ρ nL (pc + 1) lv (vI (len : Int) :: rest) D) : At K X Z cs ss n ρ nL pc lv (vR X a :: rest) D := by
  intro H locs ls hz hP hS hll
  have he := World_at (X := X) (ρ := ρ) (D := D) ha.2
  have q := k H locs ls hz hP hS hll
  have e : Int32.ofNat len = Int32.ofInt (len : Int) := by first | rfl | exact (Int32.ofInt_eq_ofNat).symm | exact Int32.toInt_inj.mp (by simp)
  rcases (show t = 1 ∨ t = 2 ∨ t = 3 ∨ t = 4 by omega) with rfl | rfl | rfl | rfl
  · rw [cell_int ha.1] at he
    exact va_alen (ty := .int) F.1 F.2.1 F.wd.2.1 hP a 0 he rfl e d q
  · rw [cell_long ha.1] at he
    exact va_alen (ty := .long) F.1 F.2.1 F.wd.2.1 hP a 1 he rfl e d q
  · rw [cell_byte ha.1] at he
    exact va_alen (ty := .byte) F.1 F.2.1 F.wd.2.1 hP a 2 he rfl e d q
  · rw [cell_bool ha.1] at he
    exact va_alen (ty := .boolean) F.1 F.2.1 F.wd.2.1 hP a 3 he rfl e d q
theorem at_store {D : Mem} {a len : Nat} {x : Int} {cA : ClassId} {i : Int} {H1 : Heap} {y : Value} (hi : (Int32.ofInt i).toNatClampNeg = i.toNat) (hy : y = vI x) (e : H1[X.B + a]? = some ((vp_cell cA (len, .inl fun j => Int32.ofInt (D a j))).setSlot (Int32.ofInt i).toNatClampNeg y)) :
    va_at X.G cls (X.B + a, .inl (cA, len, .inl fun j => Int32.ofInt (mset D a i.toNat x a j))) H1 := by
  show H1[X.B + a]? = some (vp_cell _ _)
  rw [e, vp_cell_i, vp_cell_i, arrV_store, hy, hi]
  congr 2
  funext q
  by_cases hq : q = i.toNat
  · simp [updV, mset, hq, vI]
  · simp [updV, mset, hq]
theorem r_iast (F : Fx K X o cc nL rtn rm) {a len : Nat} {i x : Int} (ha : VA n a 1 len) (hi : 0 ≤ i ∧ i < (len : Int)) (d : decode cc pc = .ok (.iastore, 1)) (k : At K X Z cs ss n ρ nL (pc + 1) lv rest (mset D a i.toNat x)) : At K X Z cs ss n ρ nL pc lv (vI x :: vI i :: vR X a :: rest) D := by
  intro H locs ls hz hP hS hll
  have he := World_at (X := X) (ρ := ρ) (D := D) ha.2
  rw [cell_int ha.1] at he
  obtain ⟨h1, h2⟩ := ix_in hi (sh_lt ha.1)
  refine W.iast F.1 F.2.1 (hP a _ he) ((F.wd.2.1.2 0 _ rfl).1 len (fun j => .int (Int32.ofInt (D a j)))) (fun q => by cases q) (by show ¬ (_ < 0 ∨ (arrV _ _ _).slots.size ≤ _); rw [arrV_size]; exact h1) rfl rfl d fun H1 e z oq => ?_
  exact k H1 _ ls (z.trans hz) (upd_cell hP ha.2 (by rw [cell_int ha.1]) (at_store h2 rfl e) oq cell_ne) (hS.put z oq (Nat.le_add_right _ _)) hll
theorem w8_nar (x : Int) : narrow .byte (.int (Int32.ofInt x)) = vI (w8 x) := by rw [w8, vI_of]; rfl
theorem r_bast (F : Fx K X o cc nL rtn rm) {a len : Nat} {i x : Int} (ha : VA n a 3 len) (hi : 0 ≤ i ∧ i < (len : Int)) (d : decode cc pc = .ok (.bastore, 1)) (k : At K X Z cs ss n ρ nL (pc + 1) lv rest (mset D a i.toNat (w8 x))) : At K X Z cs ss n ρ nL pc lv (vI x :: vI i :: vR X a :: rest) D := by
  intro H locs ls hz hP hS hll
  have he := World_at (X := X) (ρ := ρ) (D := D) ha.2
  rw [cell_byte ha.1] at he
  obtain ⟨h1, h2⟩ := ix_in hi (sh_lt ha.1)
  refine W.bast F.1 F.2.1 (hP a _ he) ((F.wd.2.1.2 2 _ rfl).1 len (fun j => .int (Int32.ofInt (D a j)))) (fun q => by cases q) (by show ¬ (_ < 0 ∨ (arrV _ _ _).slots.size ≤ _); rw [arrV_size]; exact h1) rfl rfl d fun H1 e z oq => ?_
  exact k H1 _ ls (z.trans hz) (upd_cell hP ha.2 (by rw [cell_byte ha.1]) (at_store h2 (w8_nar x) e) oq cell_ne) (hS.put z oq (Nat.le_add_right _ _)) hll
theorem r_zast (F : Fx K X o cc nL rtn rm) {a len : Nat} {i x : Int} (hx : x = 0 ∨ x = 1) (ha : VA n a 4 len) (hi : 0 ≤ i ∧ i < (len : Int)) (d : decode cc pc = .ok (.bastore, 1)) (k : At K X Z cs ss n ρ nL (pc + 1) lv rest (mset D a i.toNat x)) : At K X Z cs ss n ρ nL pc lv (vI x :: vI i :: vR X a :: rest) D := by
  intro H locs ls hz hP hS hll
  have he := World_at (X := X) (ρ := ρ) (D := D) ha.2
  rw [cell_bool ha.1] at he
  obtain ⟨h1, h2⟩ := ix_in hi (sh_lt ha.1)
  have ex : narrow .boolean (.int (Int32.ofInt x)) = vI x := by rcases hx with rfl | rfl <;> rfl
  refine W.zast F.1 F.2.1 (hP a _ he) ((F.wd.2.1.2 3 _ rfl).1 len (fun j => .int (Int32.ofInt (D a j)))) (fun q => by cases q) (by show ¬ (_ < 0 ∨ (arrV _ _ _).slots.size ≤ _); rw [arrV_size]; exact h1) rfl rfl d fun H1 e z oq => ?_
  exact k H1 _ ls (z.trans hz) (upd_cell hP ha.2 (by rw [cell_bool ha.1]) (at_store h2 ex e) oq cell_ne) (hS.put z oq (Nat.le_add_right _ _)) hll
theorem r_last (F : Fx K X o cc nL rtn rm) {a len : Nat} {i x : Int} (ha : VA n a 2 len) (hi : 0 ≤ i ∧ i < (len : Int)) (d : decode cc pc = .ok (.lastore, 1)) (k : At K X Z cs ss n ρ nL (pc + 1) lv rest (mset D a i.toNat x)) : At K X Z cs ss n ρ nL pc lv (vL x :: vI i :: vR X a :: rest) D := by
  intro H locs ls hz hP hS hll
  have he := World_at (X := X) (ρ := ρ) (D := D) ha.2
  rw [cell_long ha.1] at he
  obtain ⟨h1, h2⟩ := ix_in hi (sh_lt ha.1)
  refine W.last F.1 F.2.1 (hP a _ he) ((F.wd.2.1.2 1 _ rfl).1 len (fun j => .long (Int64.ofInt (D a j)))) (fun q => by cases q) (by show ¬ (_ < 0 ∨ (arrV _ _ _).slots.size ≤ _); rw [arrV_size]; exact h1) rfl rfl d fun H1 e z oq => ?_
  refine k H1 _ ls (z.trans hz) (upd_cell hP ha.2 (by rw [cell_long ha.1]) ?_ oq cell_ne) (hS.put z oq (Nat.le_add_right _ _)) hll
  show H1[X.B + a]? = some (vp_cell _ _)
  rw [e, vp_cell_l, vp_cell_l, arrV_store, h2]
  congr 2
  funext q
  by_cases hq : q = i.toNat
  · simp [updV, mset, hq]
  · simp [updV, mset, hq]
-- the tables of Reader
theorem r_gets0 (F : Fx K X o cc nL rtn rm) {i : Nat} (hw : Cond.fieldLink (RN o) i (RN 4) "LEAST" "[I" ∈ T0) (d : decode cc pc = .ok (.getstatic i, 3)) (k : At K X Z cs ss n ρ nL (pc + 3) lv (.ref (X.tt 0) :: rest) D) : At K X Z cs ss n ρ nL pc lv rest D := by
  intro H locs ls hz hP hS hll
  exact va_gets F.1 F.2.1 F.wd.2.2.2.1 hS F.2.2.2.1 (F.2.2.2.2.1 _ hw) (fun _ z => z) d (k H locs ls hz hP hS hll)
theorem r_gets1 (F : Fx K X o cc nL rtn rm) {i : Nat} (hw : Cond.fieldLink (RN o) i (RN 4) "MOST" "[I" ∈ T0) (d : decode cc pc = .ok (.getstatic i, 3)) (k : At K X Z cs ss n ρ nL (pc + 3) lv (.ref (X.tt 1) :: rest) D) : At K X Z cs ss n ρ nL pc lv rest D := by
  intro H locs ls hz hP hS hll
  exact va_gets F.1 F.2.1 F.wd.2.2.2.2.2.1 hS F.2.2.2.1 (F.2.2.2.2.1 _ hw) (fun _ z => z) d (k H locs ls hz hP hS hll)
theorem r_tab0 (F : Fx K X o cc nL rtn rm) {i : Int} (hi : 0 ≤ i ∧ i < 11) (d : decode cc pc = .ok (.iaload, 1)) (k : At K X Z cs ss n ρ nL (pc + 1) lv (vI ((tabL 0).getD i.toNat 0) :: rest) D) : At K X Z cs ss n ρ nL pc lv (vI i :: .ref (X.tt 0) :: rest) D := by
  intro H locs ls hz hP hS hll
  obtain ⟨h1, h2⟩ := ix_in (n := 11) hi (by decide)
  exact va_ti F.1 F.2.1 F.wd.2.2.2.2.1 hS h1 (by rw [h2]) d (k H locs ls hz hP hS hll)
theorem r_tab1 (F : Fx K X o cc nL rtn rm) {i : Int} (hi : 0 ≤ i ∧ i < 11) (d : decode cc pc = .ok (.iaload, 1)) (k : At K X Z cs ss n ρ nL (pc + 1) lv (vI ((tabL 1).getD i.toNat 0) :: rest) D) : At K X Z cs ss n ρ nL pc lv (vI i :: .ref (X.tt 1) :: rest) D := by
  intro H locs ls hz hP hS hll
  obtain ⟨h1, h2⟩ := ix_in (n := 11) hi (by decide)
  exact va_ti F.1 F.2.1 F.wd.2.2.2.2.2.2.1 hS h1 (by rw [h2]) d (k H locs ls hz hP hS hll)
-- fewer locals
theorem r_weak {lv' : List (Nat × Value)} (ks : List Nat) (h : lv_pick lv ks = lv') (k : At K X Z cs ss n ρ nL pc lv' rest D) : At K X Z cs ss n ρ nL pc lv rest D := fun H locs ls hz hP hS hl => k H locs ls hz hP hS (lv_sub hl ks h)
theorem w32_lt {x : Int} : (Int32.ofInt x).toInt = w32 x := rfl
theorem r_tabOut (F : Fx K X o cc nL rtn rm) {x dflt lo hi : Int} {offs : Array Int} {len tgt : Nat} (d : decode cc pc = .ok (.tableswitch dflt lo hi offs, len)) (h : w32 x < lo ∨ hi < w32 x) (ht : (pc : Int) + dflt = (tgt : Int)) (k : At K X Z cs ss n ρ nL tgt lv rest D) : At K X Z cs ss n ρ nL pc lv (vI x :: rest) D := by
  intro H locs ls hz hP hS hl
  exact lv_tableOut F.1 F.2.1 d h ht (k H locs ls hz hP hS hl)
theorem r_tabIn (F : Fx K X o cc nL rtn rm) {x dflt lo hi off : Int} {offs : Array Int} {len tgt : Nat} (v : Int) (hv : w32 x = v) (d : decode cc pc = .ok (.tableswitch dflt lo hi offs, len)) (h1 : ¬ v < lo) (h2 : ¬ hi < v) (ho : offs[(v - lo).toNat]? = some off) (ht : (pc : Int) + off = (tgt : Int)) (k : At K X Z cs ss n ρ nL tgt lv rest D) : At K X Z cs ss n ρ nL pc lv (vI x :: rest) D := by
  intro H locs ls hz hP hS hl
  subst hv
  exact lv_tableIn F.1 F.2.1 d h1 h2 ho ht (k H locs ls hz hP hS hl)
end HRULES
