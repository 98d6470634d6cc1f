/-! MAKING OBJECTS: rules for new, newarray, anewarray, references put, constructors called -/
/-- cells from m on are blank; no reference stands far to the right -/
def Fr (m : Nat) (ρ : Rho) (D : Mem) : Prop := (∀ k, m ≤ k → ∀ j, ρ k j = 0 ∧ D k j = 0) ∧ ∀ k j, 60 ≤ j → ρ k j = 0
theorem Fr.mono {m m' : Nat} {ρ : Rho} {D : Mem} (h : Fr m ρ D) (hm : m ≤ m') : Fr m' ρ D := ⟨fun k hk j => h.1 k (Nat.le_trans hm hk) j, h.2⟩
theorem Fr.rset {m c i v : Nat} {ρ : Rho} {D : Mem} (h : Fr m ρ D) (hc : c < m) (hi : i < 60) : Fr m (rset ρ c i v) D := by
  refine ⟨fun k hk j => ⟨?_, (h.1 k hk j).2⟩, fun k j hj => ?_⟩
  · unfold _root_.Jvm.Pilot.CTeethingParishLaw_law_r8292_33dacf.rset
    rw [if_neg (by omega)]
    exact (h.1 k hk j).1
  · unfold _root_.Jvm.Pilot.CTeethingParishLaw_law_r8292_33dacf.rset
    rw [if_neg (by omega)]
    exact h.2 k j hj
theorem Fr.mset {m c i : Nat} {v : Int} {ρ : Rho} {D : Mem} (h : Fr m ρ D) (hc : c < m) : Fr m ρ (mset D c i v) := by
  refine ⟨fun k hk j => ⟨(h.1 k hk j).1, ?_⟩, h.2⟩
  unfold _root_.Jvm.Pilot.CTeethingParishLaw_law_r8292_33dacf.mset
  rw [if_neg (by omega)]
  exact (h.1 k hk j).2
theorem mset_same {D : Mem} {c i : Nat} {v : Int} (h : D c i = v) : mset D c i v = D := by
  funext a b
  unfold mset
  by_cases hab : a = c ∧ b = i
  · rw [if_pos hab, hab.1, hab.2, h]
  · rw [if_neg hab]
theorem dv_ok : ∀ c, c < 11 → ∀ j, j < nf c → defaultValue (FY c j) = (match fk c j with | 0 => Value.int 0 | 1 => Value.long 0 | _ => Value.null) := by decide +kernel
theorem World_succ {X : XT} {n : Nat} {ρ : Rho} {D : Mem} : World X (n + 1) ρ D = World X n ρ D ++ [(X.B + n, cellE X ρ n (D n))] := by
  unfold World
  rw [List.range_succ, List.map_append]
  rfl
theorem World_push {X : XT} {n : Nat} {ρ : Rho} {D : Mem} {H H1 : Heap} (hP : va_P X.G cls (World X n ρ D) H) (ho : ∀ q : Nat, q < X.B + n → H1[q]? = H[q]?) (hat : va_at X.G cls (X.B + n, cellE X ρ n (D n)) H1) : va_P X.G cls (World X (n + 1) ρ D) H1 := by
  rw [World_succ]
  refine (hP.kept (fun k q hk => ?_)).app (fun k q hk => ?_)
  · have hl : k < n := by
      have := (List.getElem?_eq_some_iff.mp hk).1
      rwa [World_len] at this
    rw [World_at hl] at hk
    cases hk
    exact ho _ (by show X.B + k < X.B + n; omega)
  · have hz : k < 1 := (List.getElem?_eq_some_iff.mp hk).1
    rw [show k = 0 by omega] at hk
    cases hk
    exact hat
theorem va_S_push {A : Nat → Prop} {H0 H H1 : Heap} {locs : List Loc} {b : Nat} (hS : va_S A H0 H locs) (hz : H1.size = b + 1) (hb : H.size = b) (ho : ∀ q : Nat, q < b → H1[q]? = H[q]?) : va_S A H0 H1 locs :=
  ⟨Nat.le_trans hS.1 (by omega), fun x h1 h2 => (ho x (by have := hS.1; omega)).trans (hS.2.1 x h1 h2), hS.2.2⟩
section CRULES
variable {K : KT} {X : XT} {Z : State → Prop} {cs ss n nL pc o : Nat} {ρ : Rho} {lv : List (Nat × Value)} {rest : List Value} {D : Mem} {cc : ByteArray} {rtn : Option FieldType} {rm : Room}
theorem r_new (F : Fx K X o cc nL rtn rm) {i c : Nat} (hcl : Cond.classLink (RN o) i (RN c) ∈ T0) (hin : Cond.instantiable (RN c) (nf c) ∈ T0) (hini : Cond.initialized (RN c) ∈ T0) (hc : c < 11) (hs : sh n = (0, c)) (hfr : Fr n ρ D) (hR : cs + 1 ≤ rm.cells ∧ ss + nf c ≤ rm.slots) (d : decode cc pc = .ok (.new i, 3)) (k : At K X Z (cs + 1) (ss + nf c) (n + 1) ρ nL (pc + 3) lv (vR X n :: rest) D) : At K X Z cs ss n ρ nL pc lv rest D := by
  intro H locs ls hz hP hS hl
  have hts := F.2.2.2.2.1
  have hKR : K.R = rm := F.2.2.2.2.2.2.2.2
  have hKn := F.wd.2.1.1 c _ (cls_at hc)
  refine W.newcK F.1 F.2.1 F.2.2.2.1 (hts _ hcl) (hts _ hin) (hts _ hini) rfl d (by rw [hKR]; exact hR.1) (by rw [hKR]; exact hR.2) hKn.2.1 hz fun H1 kC hkC e1 z1 o1 => ?_
  refine k H1 locs ls (by rw [z1]; omega) (World_push hP o1 ?_) (va_S_push hS z1 hz o1) hl
  rw [cell_obj hs]
  refine ⟨_, cls_at hc, (u_born (FY c) hts (wc_in c hc) hKn hkC e1 (FY_ok c hc)).to (fun j hj => ?_)⟩
  rw [dv_ok c hc j hj]
  have h1 := fval_at (X := X) (ρ := ρ) (k := n) (d := D n) hj
  have h2 : vp_V ((List.range (nf c)).map (fval X ρ n (D n) c)) j = fval X ρ n (D n) c j := by
    unfold vp_V
    rw [List.getD_eq_getElem?_getD, h1]
    rfl
  rw [h2]
  unfold fval
  have h3 := hfr.1 n (Nat.le_refl _) j
  rw [h3.1, h3.2]
  generalize fk c j = a
  match a with
  | 0 => rfl
  | 1 => rfl
  | b + 2 => rfl
theorem r_newarrC (F : Fx K X o cc nL rtn rm) {t len : Nat} {ty : FieldType} {at_ : ArrayType} {z : Int} (hty : newarray.typeOf at_ = ty) (htys : (tysX X)[t]? = some (X.cA (t + 1), ty)) (hra : ∀ c, va_RA K.s c ty → K.s.vm.findClass ("[" ++ ty.toString) = some c) (hw : Cond.arrayClass ty ∈ T0) (hlen : z = (len : Int)) (hs : (sh n).2 = len) (hb : len * componentBytes ty ≤ 536870912) (hl31 : len < 2 ^ 31)
    (hcell : ∀ H1 : Heap, H1[X.B + n]? = some (arrV (X.cA (t + 1)) len (fun _ => defaultValue ty)) → va_at X.G cls (X.B + n, cellE X ρ n (D n)) H1) (hR : cs + 1 ≤ rm.cells ∧ ss + len ≤ rm.slots) (d : decode cc pc = .ok (.newarray at_, 2)) (k : At K X Z (cs + 1) (ss + len) (n + 1) ρ nL (pc + 2) lv (vR X n :: rest) D) : At K X Z cs ss n ρ nL pc lv (vI z :: rest) D := by
  intro H locs ls hz hP hS hl
  have hts := F.2.2.2.2.1
  have hKR : K.R = rm := F.2.2.2.2.2.2.2.2
  subst hlen
  obtain ⟨n1, n2, n3⟩ := nn0 (i := (len : Int)) (m := len) ⟨by omega, by omega⟩ hl31
  subst hty
  refine va_newaK F.1 F.2.1 (hts _ hw) rfl d (g := F0 K.m pc ls (vI (len : Int) :: rest)) (n := Int32.ofInt (len : Int)) (N := len) rfl n3 (by rw [n2]; simp) hb (by rw [hKR]; exact hR.1) (by rw [hKR]; exact hR.2) hz fun H1 cA e1 z1 o1 hAr hNm => ?_
  have hcA : cA = X.cA (t + 1) := Option.some.inj (hNm.symm.trans (hra _ (F.wd.2.1.2 t _ htys).2))
  rw [hcA] at e1
  exact k H1 locs ls (by rw [z1]; omega) (World_push hP o1 (hcell H1 e1)) (va_S_push hS z1 hz o1) hl
theorem r_newI (F : Fx K X o cc nL rtn rm) {len : Nat} {z : Int} (hw : Cond.arrayClass .int ∈ T0) (hlen : z = (len : Int)) (hs : sh n = (1, len)) (hb : len * 4 ≤ 536870912) (hfr : Fr n ρ D) (hR : cs + 1 ≤ rm.cells ∧ ss + len ≤ rm.slots) (d : decode cc pc = .ok (.newarray .int, 2)) (k : At K X Z (cs + 1) (ss + len) (n + 1) ρ nL (pc + 2) lv (vR X n :: rest) D) : At K X Z cs ss n ρ nL pc lv (vI z :: rest) D :=
  r_newarrC F (t := 0) (ty := .int) rfl rfl (fun _ h => h) hw hlen (by rw [hs]) hb (sh_lt hs) (fun H1 e => by
    rw [cell_int hs]
    show H1[X.B + n]? = some (vp_cell _ _)
    rw [e, vp_cell_i]
    congr 2
    funext j
    rw [(hfr.1 n (Nat.le_refl _) j).2]
    rfl) hR d k
theorem r_newL (F : Fx K X o cc nL rtn rm) {len : Nat} {z : Int} (hw : Cond.arrayClass .long ∈ T0) (hlen : z = (len : Int)) (hs : sh n = (2, len)) (hb : len * 8 ≤ 536870912) (hfr : Fr n ρ D) (hR : cs + 1 ≤ rm.cells ∧ ss + len ≤ rm.slots) (d : decode cc pc = .ok (.newarray .long, 2)) (k : At K X Z (cs + 1) (ss + len) (n + 1) ρ nL (pc + 2) lv (vR X n :: rest) D) : At K X Z cs ss n ρ nL pc lv (vI z :: rest) D :=
  r_newarrC F (t := 1) (ty := .long) rfl rfl (fun _ h => h) hw hlen (by rw [hs]) hb (sh_lt hs) (fun H1 e => by
    rw [cell_long hs]
    show H1[X.B + n]? = some (vp_cell _ _)
    rw [e, vp_cell_l]
    congr 2
    funext j
    rw [(hfr.1 n (Nat.le_refl _) j).2]
    rfl) hR d k
theorem r_newB (F : Fx K X o cc nL rtn rm) {len : Nat} {z : Int} (hw : Cond.arrayClass .byte ∈ T0) (hlen : z = (len : Int)) (hs : sh n = (3, len)) (hb : len * 1 ≤ 536870912) (hfr : Fr n ρ D) (hR : cs + 1 ≤ rm.cells ∧ ss + len ≤ rm.slots) (d : decode cc pc = .ok (.newarray .byte, 2)) (k : At K X Z (cs + 1) (ss + len) (n + 1) ρ nL (pc + 2) lv (vR X n :: rest) D) : At K X Z cs ss n ρ nL pc lv (vI z :: rest) D :=
  r_newarrC F (t := 2) (ty := .byte) rfl rfl (fun _ h => h) hw hlen (by rw [hs]) hb (sh_lt hs) (fun H1 e => by
    rw [cell_byte hs]
    show H1[X.B + n]? = some (vp_cell _ _)
    rw [e, vp_cell_i]
    congr 2
    funext j
    rw [(hfr.1 n (Nat.le_refl _) j).2]
    rfl) hR d k
theorem r_newZ (F : Fx K X o cc nL rtn rm) {len : Nat} {z : Int} (hw : Cond.arrayClass .boolean ∈ T0) (hlen : z = (len : Int)) (hs : sh n = (4, len)) (hb : len * 1 ≤ 536870912) (hfr : Fr n ρ D) (hR : cs + 1 ≤ rm.cells ∧ ss + len ≤ rm.slots) (d : decode cc pc = .ok (.newarray .boolean, 2)) (k : At K X Z (cs + 1) (ss + len) (n + 1) ρ nL (pc + 2) lv (vR X n :: rest) D) : At K X Z cs ss n ρ nL pc lv (vI z :: rest) D :=
  r_newarrC F (t := 3) (ty := .boolean) rfl rfl (fun _ h => h) hw hlen (by rw [hs]) hb (sh_lt hs) (fun H1 e => by
    rw [cell_bool hs]
    show H1[X.B + n]? = some (vp_cell _ _)
    rw [e, vp_cell_i]
    congr 2
    funext j
    rw [(hfr.1 n (Nat.le_refl _) j).2]
    rfl) hR d k
theorem r_anewC (F : Fx K X o cc nL rtn rm) {i t len : Nat} {C : String} {z : Int} (htys : (tysX X)[t]? = some (X.cA (t + 1), .object C)) (hw : Cond.classLink (RN o) i C ∈ T0) (hao : va_AO C K.s) (hlen : z = (len : Int)) (hb : len * 4 ≤ 536870912) (hl31 : len < 2 ^ 31)
    (hcell : ∀ H1 : Heap, H1[X.B + n]? = some (arrV (X.cA (t + 1)) len (fun _ => .null)) → va_at X.G cls (X.B + n, cellE X ρ n (D n)) H1) (hR : cs + 1 ≤ rm.cells ∧ ss + len ≤ rm.slots) (d : decode cc pc = .ok (.anewarray i, 3)) (k : At K X Z (cs + 1) (ss + len) (n + 1) ρ nL (pc + 3) lv (vR X n :: rest) D) : At K X Z cs ss n ρ nL pc lv (vI z :: rest) D := by
  intro H locs ls hz hP hS hl
  have hts := F.2.2.2.2.1
  have hKR : K.R = rm := F.2.2.2.2.2.2.2.2
  subst hlen
  obtain ⟨n1, n2, n3⟩ := nn0 (i := (len : Int)) (m := len) ⟨by omega, by omega⟩ hl31
  have n2' : (Int32.ofInt (len : Int)).toNatClampNeg = len := by rw [n2]; simp
  refine W.anew F.1 F.2.1 F.2.2.2.1 (hts _ hw) (va_AO.use hao) (g := F0 K.m pc ls (vI (len : Int) :: rest)) (n := Int32.ofInt (len : Int)) rfl d rfl n3 (by rw [n2']; exact hb) (by rw [hKR]; exact hR.1) (by rw [hKR, n2']; exact hR.2) fun cA kA comp f1 f2 f3 f4 => ?_
  obtain ⟨kA', comp', g1, g2, g3, g4⟩ := (F.wd.2.1.2 t _ htys).2
  have hcA : cA = X.cA (t + 1) := Option.some.inj (f1.symm.trans g4)
  subst hcA
  rw [n2', arrV_new, hz]
  refine k _ locs ls (by rw [Array.size_push, hz]; omega) (World_push hP (fun q hq => by rw [Array.getElem?_push, if_neg (by omega)]) (hcell _ (by rw [← hz, Array.getElem?_push_size]))) (va_S_push hS (b := X.B + n) (by rw [Array.size_push, hz]) hz (fun q hq => by rw [Array.getElem?_push, if_neg (by omega)])) hl
theorem r_anewP (F : Fx K X o cc nL rtn rm) {i len : Nat} {z : Int} (hw : Cond.classLink (RN o) i "TeethingParish$Parish" ∈ T0) (hlen : z = (len : Int)) (hs : sh n = (5, len)) (hb : len * 4 ≤ 536870912) (hfr : Fr n ρ D) (hR : cs + 1 ≤ rm.cells ∧ ss + len ≤ rm.slots) (d : decode cc pc = .ok (.anewarray i, 3)) (k : At K X Z (cs + 1) (ss + len) (n + 1) ρ nL (pc + 3) lv (vR X n :: rest) D) : At K X Z cs ss n ρ nL pc lv (vI z :: rest) D :=
  r_anewC F (t := 4) rfl hw F.wd.2.2.2.2.2.2.2.2.2.2.2.1 hlen hb (sh_lt hs) (fun H1 e => by
    rw [cell_rp hs]
    show H1[X.B + n]? = some (vp_cell _ _)
    rw [e, vp_cell_q]
    congr 2
    funext j
    rw [(hfr.1 n (Nat.le_refl _) j).1]
    rfl) hR d k
theorem r_anewS (F : Fx K X o cc nL rtn rm) {i len : Nat} {z : Int} (hw : Cond.classLink (RN o) i "TeethingParish$Slot" ∈ T0) (hlen : z = (len : Int)) (hs : sh n = (6, len)) (hb : len * 4 ≤ 536870912) (hfr : Fr n ρ D) (hR : cs + 1 ≤ rm.cells ∧ ss + len ≤ rm.slots) (d : decode cc pc = .ok (.anewarray i, 3)) (k : At K X Z (cs + 1) (ss + len) (n + 1) ρ nL (pc + 3) lv (vR X n :: rest) D) : At K X Z cs ss n ρ nL pc lv (vI z :: rest) D :=
  r_anewC F (t := 5) rfl hw F.wd.2.2.2.2.2.2.2.2.2.2.2.2 hlen hb (sh_lt hs) (fun H1 e => by
    rw [cell_rs hs]
    show H1[X.B + n]? = some (vp_cell _ _)
    rw [e, vp_cell_q]
    congr 2
    funext j
    rw [(hfr.1 n (Nat.le_refl _) j).1]
    rfl) hR d k
theorem rset_ne {r : Rho} {c i k v : Nat} (h : k ≠ c) : rset r c i v k = r k := by
  funext j
  simp [rset, h]
theorem rset_eq {r : Rho} {c i v : Nat} : rset r c i v c = fun j => if j = i then v else r c j := by
  funext j
  simp [rset]
/-- a final reference, put in the own constructor -/
theorem r_putR (F : Fx K X o cc nL rtn rm) (hnm : K.meth.name = "<init>") {i j r z : Nat} (ho : o < 11) (hj : j < nf o) (hk : fk o j = 2) (hfin : (FT o j).2.2.2 = true) (hlk : Cond.fieldLink (RN o) i (RN o) (FT o j).2.1 (FT o j).2.2.1 ∈ T0) (hty : ∀ a : Nat, narrow (FY o j) (.ref a) = .ref a ∧ fits (FY o j) (.ref a) = true) (hr : VR n r o)
    (d : decode cc pc = .ok (.putfield i, 3)) (k : At K X Z cs ss n (rset ρ r j (z + 1)) nL (pc + 3) lv rest D) : At K X Z cs ss n ρ nL pc lv (vR X z :: vR X r :: rest) D := by
  intro H locs ls hz hP hS hll
  have he := World_at (X := X) (ρ := ρ) (D := D) hr.2
  rw [cell_obj hr.1] at he
  have hts := F.2.2.2.2.1
  have hin := wc_in o ho
  have hown := F.2.2.2.1
  have hK := F.wd.2.1
  have hap := va_apart (own := RN o) hts hin (FY o) (FY_ok o ho) (FN_ok o ho) hK (cls_at ho)
  obtain ⟨q0, h1, cell, q1, q2, q3, q4⟩ := hP r _ he
  cases h1.symm.trans (cls_at ho)
  obtain ⟨hSl, hfc, kC, hkC, hkind⟩ := hK.1 o _ (cls_at ho)
  obtain ⟨cf, kf, fi, f, hi, hsl⟩ := hSl j hj
  have hlay := hts _ (hin _ (u_in_lay hj))
  unfold u_lay at hlay
  rw [if_pos hfin] at hlay
  have hst := (u_facts hfc hkC (u_lays hts hin hj) hi).1
  have hcf : K.m.cls = cf := by
    obtain ⟨_, _, c', _, _, _, -, -, hf', -, -, -, hown2, -⟩ := Cond.laysFinal_spec hlay
    have e1 : c' = cf := by have := hi.symm.trans hf'; simp at this; exact this.1.symm
    rw [← e1]; exact Option.some.inj (hown.symm.trans hown2)
  have h6 := u_fits hfc hkC hkind (Or.inr hlay) hi (FY_ok o ho j hj) (hty (X.B + z)).1 (hty (X.B + z)).2
  refine W.putFinK F.1 F.2.1 hown (hts _ hlk) hi hst hcf hnm (by rw [q2]; exact h6) q1 q3 (by rw [hsl]; exact k2_hasslot (q4 j hj)) rfl rfl d fun H' e1 e2 e3 => ?_
  rw [hsl] at e1 ⊢
  refine k H' _ ls (e2.trans hz) ?_ (hS.put e2 e3 (Nat.le_add_right _ _)) hll
  refine upd_cell (D' := D) (ρ' := rset ρ r j (z + 1)) (e := .inr (o, ((List.range (nf o)).map (fval X ρ r (D r) o)).set j (vR X z))) hP hr.2 ?_ ?_ e3 (fun a ha => cell_congr (fun _ => rfl) (fun b => by rw [rset_ne ha]))
  · rw [cell_obj hr.1, fields_set (ρ' := rset ρ r j (z + 1)) (d' := D r) hj (by simp [fval, hk, rset, rfO, va_rf, vR]) (fun a ha => by simp [fval, rset_eq, ha])]
  · exact ⟨_, cls_at ho, t_OB.to (V := updV (vp_V ((List.range (nf o)).map (fval X ρ r (D r) o))) j (vR X z)) ⟨_, e1, q2, q3, t_set q4 hap hj (vR X z)⟩ (fun a _ => vp_updV_set (by simp [hj]) (vR X z) a)⟩
theorem r_aastC (F : Fx K X o cc nL rtn rm) {a t c len z : Nat} {i : Int} (hn : a < n) (hlen : len < 2 ^ 31) (hc : c < 11) (htys : (tysX X)[t]? = some (X.cA (t + 1), .object (RN c))) (hcell : ∀ r : Rho, cellE X r a (D a) = .inl (X.cA (t + 1), len, .inr (.inr (.inr (.inr fun i => rfO X.B (r a i)))))) (hz : VR n z c) (hi : 0 ≤ i ∧ i < (len : Int)) (d : decode cc pc = .ok (.aastore, 1)) (k : At K X Z cs ss n (rset ρ a i.toNat (z + 1)) nL (pc + 1) lv rest D) : At K X Z cs ss n ρ nL pc lv (vR X z :: vI i :: vR X a :: rest) D := by
  intro H locs ls hsz hP hS hl
  have he := World_at (X := X) (ρ := ρ) (D := D) hn
  rw [hcell ρ] at he
  have hv := World_at (X := X) (ρ := ρ) (D := D) hz.2
  rw [cell_obj hz.1] at hv
  obtain ⟨h1, h2⟩ := ix_in hi hlen
  have hlt : (Int32.ofInt i).toNatClampNeg < len := Nat.not_le.mp fun q => h1 (Or.inr q)
  have h0 : ¬ Int32.ofInt i < 0 := fun q => h1 (Or.inl q)
  obtain ⟨r', hr', cellV, g1, g2, g3, -⟩ := hP z _ hv
  have hcls := (F.wd.2.1.1 c _ (cls_at hc)).2
  obtain ⟨kA, comp, k1, k2, k3, -⟩ := (F.wd.2.1.2 t _ htys).2
  have hcomp : comp = X.G.1 c := Option.some.inj (k3.symm.trans hcls.1)
  subst hcomp
  obtain ⟨kC, hkC, -⟩ := id hcls.2
  refine W.aast F.1 F.2.1 (hP a _ he) (fun q h => by cases h) (fun h => by cases h) k1 k2 rfl hkC ⟨h0, by show _ < (arrV _ _ _).slots.size; rw [arrV_size]; exact hlt⟩ g1 (fun q h => by rw [g3] at h; cases h) (by rw [g2]; exact hkC) (by rw [g2]; exact va_assign hcls) rfl rfl d fun H1 e zz oq => ?_
  refine k H1 _ ls (zz.trans hsz) (upd_cell (D' := D) (ρ' := rset ρ a i.toNat (z + 1)) (e := cellE X (rset ρ a i.toNat (z + 1)) a (D a)) hP hn rfl ?_ oq (fun b hb => cell_congr (fun _ => rfl) (fun j => by rw [rset_ne hb]))) (hS.put zz oq (Nat.le_add_right _ _)) hl
  rw [hcell]
  show H1[X.B + a]? = some (vp_cell _ _)
  rw [e, vp_cell_q, vp_cell_q, arrV_store, h2]
  congr 2
  funext q
  by_cases hq : q = i.toNat
  · simp [updV, rset, hq, rfO, va_rf, vR]
  · simp [updV, rset, hq]
theorem r_aastP (F : Fx K X o cc nL rtn rm) {a len z : Nat} {i : Int} (ha : VA n a 5 len) (hz : VR n z 2) (hi : 0 ≤ i ∧ i < (len : Int)) (d : decode cc pc = .ok (.aastore, 1)) (k : At K X Z cs ss n (rset ρ a i.toNat (z + 1)) nL (pc + 1) lv rest D) : At K X Z cs ss n ρ nL pc lv (vR X z :: vI i :: vR X a :: rest) D :=
  r_aastC F (t := 4) (c := 2) ha.2 (sh_lt ha.1) (by decide) rfl (fun r => cell_rp ha.1) hz hi d k
theorem r_aastS (F : Fx K X o cc nL rtn rm) {a len z : Nat} {i : Int} (ha : VA n a 6 len) (hz : VR n z 5) (hi : 0 ≤ i ∧ i < (len : Int)) (d : decode cc pc = .ok (.aastore, 1)) (k : At K X Z cs ss n (rset ρ a i.toNat (z + 1)) nL (pc + 1) lv rest D) : At K X Z cs ss n ρ nL pc lv (vR X z :: vI i :: vR X a :: rest) D :=
  r_aastC F (t := 5) (c := 5) ha.2 (sh_lt ha.1) (by decide) rfl (fun r => cell_rs ha.1) hz hi d k
theorem r_objInit (F : Fx K X o cc nL rtn rm) {i x : Nat} (w1 : Cond.methodLink (RN o) i Lib.objectInit ∈ T0) (w2 : Cond.instanceMethod Lib.objectInit ∈ T0) (w3 : Cond.code Lib.objectInit ⟨#[0xb1]⟩ 1 none ∈ T0) (hR : 1 ≤ rm.frames ∧ (rest.map fun v => v.category).sum + 12 ≤ rm.locals) (d : decode cc pc = .ok (.invokespecial i, 3)) (k : At K X Z cs ss n ρ nL (pc + 3) lv rest D) : At K X Z cs ss n ρ nL pc lv (vR X x :: rest) D := by
  intro H locs ls hz hP hS hl
  have hts := F.2.2.2.2.1
  have hKR : K.R = rm := F.2.2.2.2.2.2.2.2
  exact W.objInit F.1 F.2.1 F.2.2.2.1 (hts _ w1) (hts _ w2) (hts _ w3) (g := F0 K.m pc ls (vR X x :: rest)) rfl (by rw [F.2.2.1]; exact hl.1) rfl d (by rw [hKR]; exact hR.1) (by rw [hKR]; show 2 * 0 + _ + _ ≤ _; omega) (k H locs ls hz hP hS hl)
/-- a constructor of ours is called -/
theorem r_callC (F : Fx K X o cc nL rtn rm) {i x : Nat} {y : MethodName} {cy : ByteArray} {mL mc ms np : Nat} {rmy : Room} {As : List Value} {st0 : List Value} (hlk : LkM o i y) (hM : MFa y cy mL none np) (hin : Cond.instanceMethod y ∈ T0) (hy1 : y.name = "<init>") (hA : As.length = np) (hrc : rmy.cells = mc) (hrs : rmy.slots = ms) (hR : rmy.frames + 1 ≤ rm.frames ∧ 8 + (mL + 11) + rmy.locals ≤ rm.locals) (hst : st0 = As.reverse ++ vR X x :: rest) (hW : (rest.map fun v => v.category).sum ≤ 8) (hf : cs + mc ≤ rm.cells ∧ ss + ms ≤ rm.slots)
    (d : decode cc pc = .ok (.invokespecial i, 3)) (k : MOK K.l y cy mL none rmy mc ms X (vR X x :: As) n ρ D (fun r n' ρ' D' => At K X Z (cs + mc) (ss + ms) n' ρ' nL (pc + 3) lv (r.toList ++ rest) D')) : At K X Z cs ss n ρ nL pc lv st0 D := by
  intro H locs ls hz hP hS hl
  subst hst
  have hts := F.2.2.2.2.1
  have hKR : K.R = rm := F.2.2.2.2.2.2.2.2
  obtain ⟨cb, hcode, hini, hns, hnp⟩ := cb_of F hM hrc hrs hR
  have hpre : PreS K.s H (PcM X (vR X x :: As) n ρ D) (vR X x :: As) := ⟨PcM_blind, PcM_of F hz hP hS⟩
  have hf' : cs + mc ≤ K.R.cells ∧ ss + ms ≤ K.R.slots := by rw [hKR]; exact hf
  rcases hlk with hlk | ⟨h, hlk⟩
  · exact call_go (As := vR X x :: As) (va_runI (n := np) (As := As) (rest := rest) ⟨F.1, F.2.1, F.2.2.1, F.2.2.2.1, hts⟩ k ⟨⟨cb.1, cb.2.1, cb.2.2.1, cb.2.2.2.1, cb.2.2.2.2.1, cb.2.2.2.2.2, hcode, hini, hns, hnp, hts _ hlk⟩, hy1, hts _ hin⟩ hpre rfl hA hl.1 rfl (lv_room hW) d hf') hS hl
  · exact call_go (As := vR X x :: As) (va_runIN (n := np) (host := h) (As := As) (rest := rest) ⟨F.1, F.2.1, F.2.2.1, F.2.2.2.1, hts⟩ k ⟨⟨cb, hcode, hini, hns, hnp, va_Nw.use rfl (F.wd.1 _ hlk)⟩, hy1, hts _ hin⟩ hpre rfl hA hl.1 rfl (lv_room hW) d hf') hS hl
/-- the references told by another table that agrees -/
theorem At_rho {ρ' : Rho} (h : ∀ k, k < n → ∀ j, ρ k j = ρ' k j) (k : At K X Z cs ss n ρ' nL pc lv rest D) : At K X Z cs ss n ρ nL pc lv rest D := by
  intro H locs ls hz hP hS hl
  have e : World X n ρ D = World X n ρ' D := List.map_congr_left fun a ha => by
    rw [cell_congr (fun _ => rfl) (h a (List.mem_range.mp ha))]
  rw [e] at hP
  exact k H locs ls hz hP hS hl
theorem r_putI0 (F : Fx K X o cc nL rtn rm) {i c j r : Nat} (h0 : D r j = 0) (hl : LkF o i c j 0) (hfin : (FT c j).2.2.2 = false) (hty : FY c j = .int) (hr : VR n r c) (d : decode cc pc = .ok (.putfield i, 3)) (k : At K X Z cs ss n ρ nL (pc + 3) lv rest D) : At K X Z cs ss n ρ nL pc lv (vI 0 :: vR X r :: rest) D := r_putI F hl hfin hty hr d (by rw [mset_same h0]; exact k)
theorem r_putZ0 (F : Fx K X o cc nL rtn rm) {i c j r : Nat} (h0 : D r j = 0) (hl : LkF o i c j 0) (hfin : (FT c j).2.2.2 = false) (hty : FY c j = .boolean) (hr : VR n r c) (d : decode cc pc = .ok (.putfield i, 3)) (k : At K X Z cs ss n ρ nL (pc + 3) lv rest D) : At K X Z cs ss n ρ nL pc lv (vI 0 :: vR X r :: rest) D := r_putZ F (Or.inl rfl) hl hfin hty hr d (by rw [mset_same h0]; exact k)
theorem r_putL0 (F : Fx K X o cc nL rtn rm) {i c j r : Nat} (h0 : D r j = 0) (hl : LkF o i c j 1) (hfin : (FT c j).2.2.2 = false) (hty : FY c j = .long) (hr : VR n r c) (d : decode cc pc = .ok (.putfield i, 3)) (k : At K X Z cs ss n ρ nL (pc + 3) lv rest D) : At K X Z cs ss n ρ nL pc lv (vL 0 :: vR X r :: rest) D := r_putL F hl hfin hty hr d (by rw [mset_same h0]; exact k)
theorem mset_other {D : Mem} {c i c' i' : Nat} {v : Int} (h : ¬ (c' = c ∧ i' = i)) : mset D c i v c' i' = D c' i' := by
  unfold mset
  rw [if_neg h]
end CRULES
