/-! ENDS, CALLS, LIBRARY MEMBERS -/
section ERULES
variable {K : KT} {X : XT} {Z : State → Prop} {cs ss n nL pc o : Nat} {ρ : Rho} {lv : List (Nat × Value)} {rest : List Value} {D : Mem} {cc : ByteArray} {rtn : Option FieldType} {rm : Room} {Q : Option Value → Nat → Rho → Mem → Prop}
-- two longs compared, and a branch on it
theorem lc_lt {x y : Int} : Int64.ofInt x < Int64.ofInt y ↔ w64 x < w64 y := Int64.lt_iff_toInt_lt
theorem lc_le {x y : Int} : Int64.ofInt x ≤ Int64.ofInt y ↔ ¬ w64 y < w64 x := by
  rw [Int64.le_iff_toInt_le]
  exact ⟨fun h z => Int.not_lt.mpr h z, fun h => Int.not_lt.mp h⟩
theorem lc_eq {x y : Int} : Int64.ofInt x = Int64.ofInt y ↔ w64 x = w64 y := Int64.toInt_inj.symm
theorem nn2 {p q : Prop} (h : p ↔ ¬ q) (hp : ¬ p) : q := Classical.byContradiction fun z => hp (h.mpr z)
theorem r_lc_lt (F : Fx K X o cc nL rtn rm) {x y : Int} {off : Int} {tgt : Nat} (d1 : decode cc pc = .ok (.lcmp, 1)) (d : decode cc (pc + 1) = .ok (.ifCond .lt off, 3)) (ht : ((pc + 1 : Nat) : Int) + off = (tgt : Int)) (kt : w64 x < w64 y → At K X Z cs ss n ρ nL tgt lv rest D) (kf : ¬ w64 x < w64 y → At K X Z cs ss n ρ nL (pc + 4) lv rest D) : At K X Z cs ss n ρ nL pc lv (vL y :: vL x :: rest) D := by
  intro H locs ls hz hP hS hl
  exact W.lcmp F.1 F.2.1 d1 (lv_if_lt F.1 F.2.1 d ht (fun q => kt (lc_lt.mp ((lg_cmp_lt _ _).mp q)) H locs ls hz hP hS hl) (fun q => kf (fun z => q ((lg_cmp_lt _ _).mpr (lc_lt.mpr z))) H locs ls hz hP hS hl))
theorem r_lc_ge (F : Fx K X o cc nL rtn rm) {x y : Int} {off : Int} {tgt : Nat} (d1 : decode cc pc = .ok (.lcmp, 1)) (d : decode cc (pc + 1) = .ok (.ifCond .ge off, 3)) (ht : ((pc + 1 : Nat) : Int) + off = (tgt : Int)) (kt : ¬ w64 x < w64 y → At K X Z cs ss n ρ nL tgt lv rest D) (kf : w64 x < w64 y → At K X Z cs ss n ρ nL (pc + 4) lv rest D) : At K X Z cs ss n ρ nL pc lv (vL y :: vL x :: rest) D := by
  intro H locs ls hz hP hS hl
  exact W.lcmp F.1 F.2.1 d1 (lv_if_ge F.1 F.2.1 d ht (fun q => kt (lc_le.mp ((lg_cmp_ge _ _).mp q)) H locs ls hz hP hS hl) (fun q => kf (nn2 (lc_le (x := y) (y := x)) (fun z => q ((lg_cmp_ge _ _).mpr z))) H locs ls hz hP hS hl))
theorem r_lc_gt (F : Fx K X o cc nL rtn rm) {x y : Int} {off : Int} {tgt : Nat} (d1 : decode cc pc = .ok (.lcmp, 1)) (d : decode cc (pc + 1) = .ok (.ifCond .gt off, 3)) (ht : ((pc + 1 : Nat) : Int) + off = (tgt : Int)) (kt : w64 y < w64 x → At K X Z cs ss n ρ nL tgt lv rest D) (kf : ¬ w64 y < w64 x → At K X Z cs ss n ρ nL (pc + 4) lv rest D) : At K X Z cs ss n ρ nL pc lv (vL y :: vL x :: rest) D := by
  intro H locs ls hz hP hS hl
  exact W.lcmp F.1 F.2.1 d1 (lv_if_gt F.1 F.2.1 d ht (fun q => kt (lc_lt.mp ((lg_cmp_gt _ _).mp q)) H locs ls hz hP hS hl) (fun q => kf (fun z => q ((lg_cmp_gt _ _).mpr (lc_lt.mpr z))) H locs ls hz hP hS hl))
theorem r_lc_le (F : Fx K X o cc nL rtn rm) {x y : Int} {off : Int} {tgt : Nat} (d1 : decode cc pc = .ok (.lcmp, 1)) (d : decode cc (pc + 1) = .ok (.ifCond .le off, 3)) (ht : ((pc + 1 : Nat) : Int) + off = (tgt : Int)) (kt : ¬ w64 y < w64 x → At K X Z cs ss n ρ nL tgt lv rest D) (kf : w64 y < w64 x → At K X Z cs ss n ρ nL (pc + 4) lv rest D) : At K X Z cs ss n ρ nL pc lv (vL y :: vL x :: rest) D := by
  intro H locs ls hz hP hS hl
  exact W.lcmp F.1 F.2.1 d1 (lv_if_le F.1 F.2.1 d ht (fun q => kt (lc_le.mp ((lg_cmp_le _ _).mp q)) H locs ls hz hP hS hl) (fun q => kf (nn2 (lc_le (x := x) (y := y)) (fun z => q ((lg_cmp_le _ _).mpr z))) H locs ls hz hP hS hl))
theorem r_lc_eq (F : Fx K X o cc nL rtn rm) {x y : Int} {off : Int} {tgt : Nat} (d1 : decode cc pc = .ok (.lcmp, 1)) (d : decode cc (pc + 1) = .ok (.ifCond .eq off, 3)) (ht : ((pc + 1 : Nat) : Int) + off = (tgt : Int)) (kt : w64 x = w64 y → At K X Z cs ss n ρ nL tgt lv rest D) (kf : ¬ w64 x = w64 y → At K X Z cs ss n ρ nL (pc + 4) lv rest D) : At K X Z cs ss n ρ nL pc lv (vL y :: vL x :: rest) D := by
  intro H locs ls hz hP hS hl
  exact W.lcmp F.1 F.2.1 d1 (lv_if_eq F.1 F.2.1 d ht (fun q => kt (lc_eq.mp ((lg_cmp_eq _ _).mp q)) H locs ls hz hP hS hl) (fun q => kf (fun z => q ((lg_cmp_eq _ _).mpr (lc_eq.mpr z))) H locs ls hz hP hS hl))
theorem r_lc_ne (F : Fx K X o cc nL rtn rm) {x y : Int} {off : Int} {tgt : Nat} (d1 : decode cc pc = .ok (.lcmp, 1)) (d : decode cc (pc + 1) = .ok (.ifCond .ne off, 3)) (ht : ((pc + 1 : Nat) : Int) + off = (tgt : Int)) (kt : ¬ w64 x = w64 y → At K X Z cs ss n ρ nL tgt lv rest D) (kf : w64 x = w64 y → At K X Z cs ss n ρ nL (pc + 4) lv rest D) : At K X Z cs ss n ρ nL pc lv (vL y :: vL x :: rest) D := by
  intro H locs ls hz hP hS hl
  exact W.lcmp F.1 F.2.1 d1 (lv_if_ne F.1 F.2.1 d ht (fun q => kt (fun z => q ((lg_cmp_eq _ _).mpr (lc_eq.mpr z))) H locs ls hz hP hS hl) (fun q => kf (lc_eq.mp ((lg_cmp_eq _ _).mp q)) H locs ls hz hP hS hl))
-- ends
theorem r_iret (F : Fx K X o cc nL (some .int) rm) {x : Int} (hq : Q (some (vI x)) n ρ D) (d : decode cc pc = .ok (.ireturn, 1)) : At K X (MQ K.below (QcM X Q) K.args K.s cs ss (AX X)) cs ss n ρ nL pc lv [vI x] D := by
  intro H locs ls hz hP hS hl
  exact W.iret F.1 F.2.1 F.2.2.2.2.2.1 (fun t ht hW => ⟨⟨_, n, ρ, D, rfl, hq, by rw [ht]; exact hz, by rw [ht]; exact hP⟩, hS.F ht⟩) hS.2.2 d F.2.2.2.2.2.2.1
theorem r_lret (F : Fx K X o cc nL (some .long) rm) {x : Int} (hq : Q (some (vL x)) n ρ D) (d : decode cc pc = .ok (.lreturn, 1)) : At K X (MQ K.below (QcM X Q) K.args K.s cs ss (AX X)) cs ss n ρ nL pc lv [vL x] D := by
  intro H locs ls hz hP hS hl
  exact W.lret F.1 F.2.1 F.2.2.2.2.2.1 (fun t ht hW => ⟨⟨_, n, ρ, D, rfl, hq, by rw [ht]; exact hz, by rw [ht]; exact hP⟩, hS.F ht⟩) hS.2.2 d F.2.2.2.2.2.2.1
theorem r_vret (F : Fx K X o cc nL none rm) (hq : Q none n ρ D) (d : decode cc pc = .ok (.return_, 1)) : At K X (MQ K.below (QcM X Q) K.args K.s cs ss (AX X)) cs ss n ρ nL pc lv [] D := by
  intro H locs ls hz hP hS hl
  exact W.vret F.1 F.2.1 F.2.2.2.2.2.1 (fun t ht hW => ⟨⟨_, n, ρ, D, rfl, hq, by rw [ht]; exact hz, by rw [ht]; exact hP⟩, hS.F ht⟩) hS.2.2 d F.2.2.2.2.2.2.1
theorem r_zret (F : Fx K X o cc nL (some .boolean) rm) {x : Int} (hx : x = 0 ∨ x = 1) (hq : Q (some (vI x)) n ρ D) (d : decode cc pc = .ok (.ireturn, 1)) : At K X (MQ K.below (QcM X Q) K.args K.s cs ss (AX X)) cs ss n ρ nL pc lv [vI x] D := by
  intro H locs ls hz hP hS hl
  exact W.zret F.1 F.2.1 F.2.2.2.2.2.1 (by rcases hx with rfl | rfl <;> rfl) (fun t ht hW => ⟨⟨_, n, ρ, D, rfl, hq, by rw [ht]; exact hz, by rw [ht]; exact hP⟩, hS.F ht⟩) hS.2.2 d F.2.2.2.2.2.2.1
theorem r_sret (F : Fx K X o cc nL (some (.object "java/lang/String")) rm) {i : Nat} (hq : Q (some (vS X i)) n ρ D) (d : decode cc pc = .ok (.areturn, 1)) : At K X (MQ K.below (QcM X Q) K.args K.s cs ss (AX X)) cs ss n ρ nL pc lv [vS X i] D := by
  intro H locs ls hz hP hS hl
  exact W.aret F.1 F.2.1 F.2.2.2.2.2.1 (Or.inl ⟨_, rfl⟩) (Or.inr ⟨_, rfl⟩) (fun t ht hW => ⟨⟨_, n, ρ, D, rfl, hq, by rw [ht]; exact hz, by rw [ht]; exact hP⟩, hS.F ht⟩) hS.2.2 d F.2.2.2.2.2.2.1
-- calls
def MFa (y : MethodName) (cy : ByteArray) (mL : Nat) (ry : Option FieldType) (np : Nat) : Prop :=
  Cond.code y cy mL ry ∈ T0 ∧ Cond.initialized y.cls ∈ T0 ∧ y.cls ≠ "java/lang/invoke/MethodHandle" ∧ y.cls ≠ "java/lang/invoke/VarHandle" ∧ (parseMethodDescriptor y.desc).map (fun d => d.parameters.length) = some np
def MFv (c : Nat) (y : MethodName) (cy : ByteArray) (mL : Nat) (ry : Option FieldType) (np : Nat) : Prop :=
  MFa y cy mL ry np ∧ c < 11 ∧ y.cls = RN c ∧ Cond.instanceMethod y ∈ T0 ∧ Cond.selects (RN c) y y ∈ T0
def MFs (y : MethodName) (cy : ByteArray) (mL : Nat) (ry : Option FieldType) (np : Nat) : Prop := MFa y cy mL ry np ∧ Cond.static y ∈ T0
def LkM (o i : Nat) (y : MethodName) : Prop := Cond.methodLink (RN o) i y ∈ T0 ∨ ∃ h, Cond.methodLinkNest (RN o) i y h ∈ NW
theorem PcM_blind {As : List Value} : FrameBlind (PcM X As n ρ D) := fun a U g mk h => ⟨h.1, h.2.1, h.2.2.1, h.2.2.2.calling⟩
theorem PcM_of (F : Fx K X o cc nL rtn rm) {As : List Value} {H : Heap} {locs : List Loc} (hz : H.size = X.B + n) (hP : va_P X.G cls (World X n ρ D) H) (hS : va_S (AX X) K.s.heap H locs) : ∀ U : State, U.heap = H → K.s.WarmedH U.vm → PcM X As n ρ D As.toArray U := fun U hU hW =>
  ⟨rfl, by rw [hU]; exact hz, by rw [hU]; exact hP, F.wd.moved (by rw [hU]; exact hS) hW⟩
theorem call_go {As : List Value} {H : Heap} {locs : List Loc} {ls : Array Slot} {st0 : List Value} {mc ms : Nat} (hr : va_Run K.p K.l K.e K.R K.s K.m K.args K.below K.meth K.c H locs cs ss mc ms (F0 K.m pc ls st0) rest (QcM X (fun r n' ρ' D' => At K X Z (cs + mc) (ss + ms) n' ρ' nL (pc + 3) lv (r.toList ++ rest) D') As.toArray) (AX X)) (hS : va_S (AX X) K.s.heap H locs) (hl : lv_has ls nL lv) :
    W K.p K.l K.e K.R K.s K.m K.args K.below K.meth K.c H locs cs ss Z (F0 K.m pc ls st0) := by
  intro T hT X1
  obtain ⟨v, st₀, t, T', L, h0, X', hL, e1, e2, ⟨⟨r, n', ρ', D', hv, hq, hz, hp⟩, hF1, hF2⟩, st⟩ := hr T hT X1
  cases hv
  rw [h0] at hF1 hF2
  obtain ⟨t2, a1, b1⟩ := hq T'.heap (locs ++ L) ls (by rw [e1]; exact hz) (by rw [e1]; exact hp)
    ⟨Nat.le_trans hS.1 (by rw [e1]; exact hF1), fun q h1 h2 => by rw [e1, hF2 q (Nat.lt_of_lt_of_le h1 hS.1) h2]; exact hS.2.1 q h1 h2, fun q hq => by
      rcases List.mem_append.mp hq with h | h
      · exact hS.2.2 q h
      · exact hL q h⟩ hl T' rfl X'
  exact ⟨t2, st t2 a1, b1⟩
theorem cb_of (F : Fx K X o cc nL rtn rm) {y : MethodName} {cy : ByteArray} {mL mc ms np : Nat} {ry : Option FieldType} {rmy : Room} (hM : MFa y cy mL ry np) (hrc : rmy.cells = mc) (hrs : rmy.slots = ms) (hR : rmy.frames + 1 ≤ rm.frames ∧ 8 + (mL + 11) + rmy.locals ≤ rm.locals) :
    (rmy.cells = mc ∧ rmy.slots = ms ∧ rmy.frames + 1 ≤ K.R.frames ∧ 8 + (mL + 11) + rmy.locals ≤ K.R.locals ∧ (∀ w ∈ (Cond.code y cy mL ry :: T0), ∀ (a' : Array Value) (U : State), K.s.WarmedH U.vm → w.before a' U = true) ∧ Cond.code y cy mL ry ∈ (Cond.code y cy mL ry :: T0)) ∧
    (Cond.code y cy mL ry).before K.args K.s = true ∧ (Cond.initialized y.cls).before K.args K.s = true ∧ (y.cls ≠ "java/lang/invoke/MethodHandle" ∧ y.cls ≠ "java/lang/invoke/VarHandle") ∧ (∀ sig, parseMethodDescriptor y.desc = some sig → np = sig.parameters.length) := by
  have hts := F.2.2.2.2.1
  have hKR : K.R = rm := F.2.2.2.2.2.2.2.2
  refine ⟨⟨hrc, hrs, by rw [hKR]; exact hR.1, by rw [hKR]; exact hR.2, pay_in hts (goodIn_T0 hM.1), List.mem_cons_self⟩, hts _ hM.1, hts _ hM.2.1, ⟨hM.2.2.1, hM.2.2.2.1⟩, fun sig h => ?_⟩
  have h2 := hM.2.2.2.2
  rw [h] at h2
  exact (Option.some.inj h2).symm
theorem r_callV (F : Fx K X o cc nL rtn rm) {i c r : Nat} {y : MethodName} {cy : ByteArray} {mL mc ms np : Nat} {ry : Option FieldType} {rmy : Room} {As : List Value} {st0 : List Value} (hlk : LkM o i y) (hM : MFv c y cy mL ry np) (hr : VR n r c) (hA : As.length = np) (hrc : rmy.cells = mc) (hrs : rmy.slots = ms) (hR : rmy.frames + 1 ≤ rm.frames ∧ 8 + (mL + 11) + rmy.locals ≤ rm.locals) (hst : st0 = As.reverse ++ vR X r :: rest) (hW : (rest.map fun v => v.category).sum ≤ 8) (hf : cs + mc ≤ rm.cells ∧ ss + ms ≤ rm.slots)
    (d : decode cc pc = .ok (.invokevirtual i, 3)) (k : MOK K.l y cy mL ry rmy mc ms X (vR X r :: As) n ρ D (fun r n' ρ' D' => At K X Z (cs + mc) (ss + ms) n' ρ' nL (pc + 3) lv (r.toList ++ rest) D')) : At K X Z cs ss n ρ nL pc lv st0 D := by
  intro H locs ls hz hP hS hl
  subst hst
  obtain ⟨hMa, hc, hy, hin, hsel⟩ := hM
  have hts := F.2.2.2.2.1
  have hKR : K.R = rm := F.2.2.2.2.2.2.2.2
  have he := World_at (X := X) (ρ := ρ) (D := D) hr.2
  rw [cell_obj hr.1] at he
  obtain ⟨cb, hcode, hini, hns, hnp⟩ := cb_of F hMa hrc hrs hR
  have hpre : PreV K.s H (RN c) (X.B + r) (PcM X (vR X r :: As) n ρ D) As := ⟨PcM_blind, va_recv F.wd.2.1 hP (cls_at hc) he, PcM_of F hz hP hS⟩
  have hf' : cs + mc ≤ K.R.cells ∧ ss + ms ≤ K.R.slots := by rw [hKR]; exact hf
  rcases hlk with hlk | ⟨h, hlk⟩
  · exact call_go (As := vR X r :: As) (va_runV (n := np) (C := RN c) (As := As) (rest := rest) ⟨F.1, F.2.1, F.2.2.1, F.2.2.2.1, hts⟩ k ⟨⟨cb.1, cb.2.1, cb.2.2.1, cb.2.2.2.1, cb.2.2.2.2.1, cb.2.2.2.2.2, hcode, hini, hns, hnp, hts _ hlk⟩, hts _ hin, hts _ hsel⟩ hpre rfl hA hl.1 rfl (lv_room hW) d hf') hS hl
  · exact call_go (As := vR X r :: As) (va_runVN (n := np) (C := RN c) (host := h) (As := As) (rest := rest) ⟨F.1, F.2.1, F.2.2.1, F.2.2.2.1, hts⟩ k ⟨⟨cb, hcode, hini, hns, hnp, va_Nw.use rfl (F.wd.1 _ hlk)⟩, hts _ hin, hts _ hsel⟩ hpre rfl hA hl.1 rfl (lv_room hW) d hf') hS hl
theorem r_callS (F : Fx K X o cc nL rtn rm) {i : Nat} {y : MethodName} {cy : ByteArray} {mL mc ms np : Nat} {ry : Option FieldType} {rmy : Room} {As : List Value} {st0 : List Value} (hlk : LkM o i y) (hM : MFs y cy mL ry np) (hA : As.length = np) (hrc : rmy.cells = mc) (hrs : rmy.slots = ms) (hR : rmy.frames + 1 ≤ rm.frames ∧ 8 + (mL + 11) + rmy.locals ≤ rm.locals) (hst : st0 = As.reverse ++ rest) (hW : (rest.map fun v => v.category).sum ≤ 8) (hf : cs + mc ≤ rm.cells ∧ ss + ms ≤ rm.slots)
    (d : decode cc pc = .ok (.invokestatic i, 3)) (k : MOK K.l y cy mL ry rmy mc ms X As n ρ D (fun r n' ρ' D' => At K X Z (cs + mc) (ss + ms) n' ρ' nL (pc + 3) lv (r.toList ++ rest) D')) : At K X Z cs ss n ρ nL pc lv st0 D := by
  intro H locs ls hz hP hS hl
  subst hst
  obtain ⟨hMa, hst⟩ := hM
  have hts := F.2.2.2.2.1
  have hKR : K.R = rm := F.2.2.2.2.2.2.2.2
  obtain ⟨cb, hcode, hini, hns, hnp⟩ := cb_of F hMa hrc hrs hR
  have hpre : PreS K.s H (PcM X As n ρ D) As := ⟨PcM_blind, PcM_of F hz hP hS⟩
  have hf' : cs + mc ≤ K.R.cells ∧ ss + ms ≤ K.R.slots := by rw [hKR]; exact hf
  rcases hlk with hlk | ⟨h, hlk⟩
  · exact call_go (As := As) (va_runS (n := np) (As := As) (rest := rest) ⟨F.1, F.2.1, F.2.2.1, F.2.2.2.1, hts⟩ k ⟨⟨cb.1, cb.2.1, cb.2.2.1, cb.2.2.2.1, cb.2.2.2.2.1, cb.2.2.2.2.2, hcode, hini, hns, hnp, hts _ hlk⟩, hts _ hst⟩ hpre rfl hA hl.1 rfl (lv_room hW) d hf') hS hl
  · exact call_go (As := As) (va_runSN (n := np) (host := h) (As := As) (rest := rest) ⟨F.1, F.2.1, F.2.2.1, F.2.2.2.1, hts⟩ k ⟨⟨cb, hcode, hini, hns, hnp, va_Nw.use rfl (F.wd.1 _ hlk)⟩, hts _ hst, trivial⟩ hpre rfl hA hl.1 rfl (lv_room hW) d hf') hS hl
-- Math
def max32 (x y : Int) : Int := if w32 x < w32 y then y else x
def min32 (x y : Int) : Int := if w32 y < w32 x then y else x
def min64 (x y : Int) : Int := if w64 y < w64 x then y else x
theorem r_max (F : Fx K X o cc nL rtn rm) {i : Nat} {x y : Int} (h1 : Cond.methodLink (RN o) i Lib.Math.max.name ∈ T0) (h2 : Cond.static Lib.Math.max.name ∈ T0) (h3 : Cond.initialized "java/lang/Math" ∈ T0) (h4 : Cond.code Lib.Math.max.name Lib.Math.max.code 2 (some .int) ∈ T0) (hR : 1 ≤ rm.frames ∧ (rest.map fun v => v.category).sum + 13 ≤ rm.locals ∧ cs ≤ rm.cells ∧ ss ≤ rm.slots) (d : decode cc pc = .ok (.invokestatic i, 3)) (k : At K X Z cs ss n ρ nL (pc + 3) lv (vI (max32 x y) :: rest) D) : At K X Z cs ss n ρ nL pc lv (vI y :: vI x :: rest) D := by
  intro H locs ls hz hP hS hl
  have hts := F.2.2.2.2.1
  have hKR : K.R = rm := F.2.2.2.2.2.2.2.2
  rw [← hKR] at hR
  have q := k H locs ls hz hP hS hl
  have e : vI (max32 x y) = .int (if Int32.ofInt x < Int32.ofInt y then Int32.ofInt y else Int32.ofInt x) := by
    unfold max32
    by_cases h : w32 x < w32 y
    · rw [if_pos h, if_pos (Int32.lt_iff_toInt_lt.mpr h)]; rfl
    · rw [if_neg h, if_neg (fun z => h (Int32.lt_iff_toInt_lt.mp z))]; rfl
  rw [e] at q
  exact va_mmax F.1 F.2.1 (F.2.2.1.trans hl.1.symm) F.2.2.2.1 (hts _ h1) (hts _ h2) (hts _ h3) (hts _ h4) hR.1 hR.2.1 hR.2.2.1 hR.2.2.2 d q
theorem r_min (F : Fx K X o cc nL rtn rm) {i : Nat} {x y : Int} (h1 : Cond.methodLink (RN o) i Lib.Math.min.name ∈ T0) (h2 : Cond.static Lib.Math.min.name ∈ T0) (h3 : Cond.initialized "java/lang/Math" ∈ T0) (h4 : Cond.code Lib.Math.min.name Lib.Math.min.code 2 (some .int) ∈ T0) (hR : 1 ≤ rm.frames ∧ (rest.map fun v => v.category).sum + 13 ≤ rm.locals ∧ cs ≤ rm.cells ∧ ss ≤ rm.slots) (d : decode cc pc = .ok (.invokestatic i, 3)) (k : At K X Z cs ss n ρ nL (pc + 3) lv (vI (min32 x y) :: rest) D) : At K X Z cs ss n ρ nL pc lv (vI y :: vI x :: rest) D := by
  intro H locs ls hz hP hS hl
  have hts := F.2.2.2.2.1
  have hKR : K.R = rm := F.2.2.2.2.2.2.2.2
  rw [← hKR] at hR
  have q := k H locs ls hz hP hS hl
  have e : vI (min32 x y) = .int (if Int32.ofInt y < Int32.ofInt x then Int32.ofInt y else Int32.ofInt x) := by
    unfold min32
    by_cases h : w32 y < w32 x
    · rw [if_pos h, if_pos (Int32.lt_iff_toInt_lt.mpr h)]; rfl
    · rw [if_neg h, if_neg (fun z => h (Int32.lt_iff_toInt_lt.mp z))]; rfl
  rw [e] at q
  exact va_mmin F.1 F.2.1 (F.2.2.1.trans hl.1.symm) F.2.2.2.1 (hts _ h1) (hts _ h2) (hts _ h3) (hts _ h4) hR.1 hR.2.1 hR.2.2.1 hR.2.2.2 d q
theorem r_minL (F : Fx K X o cc nL rtn rm) {i : Nat} {x y : Int} (h1 : Cond.methodLink (RN o) i Lib.MathLoose.min_long.x ∈ T0) (h2 : Cond.static Lib.MathLoose.min_long.x ∈ T0) (h3 : Cond.initialized "java/lang/Math" ∈ T0) (h4 : Cond.code Lib.MathLoose.min_long.x Lib.MathLoose.min_long.code 4 (some .long) ∈ T0) (hR : 1 ≤ rm.frames ∧ (rest.map fun v => v.category).sum + 15 ≤ rm.locals ∧ cs ≤ rm.cells ∧ ss ≤ rm.slots) (d : decode cc pc = .ok (.invokestatic i, 3)) (k : At K X Z cs ss n ρ nL (pc + 3) lv (vL (min64 x y) :: rest) D) : At K X Z cs ss n ρ nL pc lv (vL y :: vL x :: rest) D := by
  intro H locs ls hz hP hS hl
  have hts := F.2.2.2.2.1
  have hKR : K.R = rm := F.2.2.2.2.2.2.2.2
  rw [← hKR] at hR
  have q := k H locs ls hz hP hS hl
  have e : vL (min64 x y) = .long (if Int64.ofInt y < Int64.ofInt x then Int64.ofInt y else Int64.ofInt x) := by
    unfold min64
    by_cases h : w64 y < w64 x
    · rw [if_pos h, if_pos (Int64.lt_iff_toInt_lt.mpr h)]; rfl
    · rw [if_neg h, if_neg (fun z => h (Int64.lt_iff_toInt_lt.mp z))]; rfl
  rw [e] at q
  exact va_mmin_long F.1 F.2.1 (F.2.2.1.trans hl.1.symm) F.2.2.2.1 (hts _ h1) (hts _ h2) (hts _ h3) (hts _ h4) hR.1 hR.2.1 hR.2.2.1 hR.2.2.2 d q
-- System.arraycopy
def mcpy (D : Mem) (a sp b dp len : Nat) : Mem := fun c i => if c = b ∧ dp ≤ i ∧ i < dp + len then D a (sp + (i - dp)) else D c i
theorem mcpy_ne {D : Mem} {a sp b dp len k : Nat} (h : k ≠ b) : mcpy D a sp b dp len k = D k := by
  funext j
  simp [mcpy, h]
theorem nn0 {i : Int} {m : Nat} (h : 0 ≤ i ∧ i ≤ (m : Int)) (hm : m < 2 ^ 31) : (Int32.ofInt i).toInt = i ∧ (Int32.ofInt i).toNatClampNeg = i.toNat ∧ ¬ Int32.ofInt i < 0 := by
  have e : (Int32.ofInt i).toInt = i := Int32.toInt_ofInt_of_le (by omega) (by omega)
  refine ⟨e, by show (Int32.ofInt i).toInt.toNat = _; rw [e], fun z => ?_⟩
  have := Int32.lt_iff_toInt_lt.mp z
  rw [e] at this
  have e0 : (0 : Int32).toInt = 0 := rfl
  omega
theorem copy_core (F : Fx K X o cc nL rtn rm) {t : Nat} {ty : FieldType} {α : Type} (mk : α → Value) (g : Int → α) {i a b la lb : Nat} {sp dp len : Int} {H : Heap} {locs : List Loc} {ls : Array Slot}
    (htys : (tysX X)[t]? = some (X.cA (t + 1), ty)) (hprim : refKind ty = false) (hfit : ∀ z, fits ty (mk z) = true) (w1 : Cond.methodLink (RN o) i arraycopyName ∈ T0) (w2 : Cond.native arraycopyName ∈ T0) (w3 : Cond.static arraycopyName ∈ T0) (w4 : Cond.initialized "java/lang/System" ∈ T0) (hR : 1 ≤ rm.frames ∧ (rest.map fun v => v.category).sum + (nativeFrameWords "java/lang/System" "arraycopy" 5 + 11) ≤ rm.locals)
    (hca : H[X.B + a]? = some (arrV (X.cA (t + 1)) la (fun j => mk (g (D a j))))) (hcb : H[X.B + b]? = some (arrV (X.cA (t + 1)) lb (fun j => mk (g (D b j))))) (hla : la < 2 ^ 31) (hlb : lb < 2 ^ 31) (h1 : 0 ≤ sp) (h2 : 0 ≤ dp) (h3 : 0 ≤ len) (h4 : sp + len ≤ la) (h5 : dp + len ≤ lb) (hl : lv_has ls nL lv)
    (d : decode cc pc = .ok (.invokestatic i, 3))
    (k : ∀ (H1 : Heap) (locs1 : List Loc), H1[X.B + b]? = some (arrV (X.cA (t + 1)) lb (fun j => mk (g (mcpy D a sp.toNat b dp.toNat len.toNat b j)))) → H1.size = H.size → (∀ q : Nat, q ≠ X.B + b → H1[q]? = H[q]?) → va_S (AX X) K.s.heap H1 locs1 → W K.p K.l K.e K.R K.s K.m K.args K.below K.meth K.c H1 locs1 cs ss Z (F0 K.m (pc + 3) ls rest)) (hS : va_S (AX X) K.s.heap H locs) :
    W K.p K.l K.e K.R K.s K.m K.args K.below K.meth K.c H locs cs ss Z (F0 K.m pc ls (vI len :: vI dp :: vR X b :: vI sp :: vR X a :: rest)) := by
  have hts := F.2.2.2.2.1
  have hKR : K.R = rm := F.2.2.2.2.2.2.2.2
  obtain ⟨s1, s2, s3⟩ := nn0 (i := sp) (m := la) ⟨h1, by omega⟩ hla
  obtain ⟨d1, d2, d3⟩ := nn0 (i := dp) (m := lb) ⟨h2, by omega⟩ hlb
  obtain ⟨l1, l2, l3⟩ := nn0 (i := len) (m := la) ⟨h3, by omega⟩ hla
  intro T hT X1
  obtain ⟨-, k0, hk0, cm0, hkk0⟩ := (F.wd.2.1.2 t _ htys).1 la (fun j => mk (g (D a j)))
  obtain ⟨-, k1, hk1, cm1, hkk1⟩ := (F.wd.2.1.2 t _ htys).1 lb (fun j => mk (g (D b j)))
  obtain ⟨vm', X', step⟩ := X1.arraycopy F.1 F.2.2.2.1 (hts _ w1) (hts _ w2) (hts _ w3) (hts _ w4) (src := X.B + a) (dst := X.B + b) (srcPos := Int32.ofInt sp) (destPos := Int32.ofInt dp) (n := Int32.ofInt len) (by rw [hT]; exact hca) (by rw [hT]; exact hcb)
    (fun _ h => by cases h) (fun _ h => by cases h) (fun h => by cases h) (fun h => by cases h) hk0 hk1 hkk0 hkk1 (by simp [hprim]) s3 d3 l3
    (by rw [s1, l1, arrV_size]; omega) (by rw [d1, l1, arrV_size]; omega)
    (fun vm₁ _ i hi => by
      have e : (arrV (X.cA (t + 1)) la (fun j => mk (g (D a j)))).slots.getD ((Int32.ofInt sp).toNatClampNeg + i) .null = mk (g (D a ((Int32.ofInt sp).toNatClampNeg + i))) := by
        rw [Array.getD_eq_getD_getElem?, arrV_read _ _ (by rw [s2]; rw [l2] at hi; omega)]
        rfl
      refine ⟨by rw [e]; exact hfit _, ?_⟩
      rw [e]
      have := hfit (g (D a ((Int32.ofInt sp).toNatClampNeg + i)))
      generalize mk (g (D a ((Int32.ofInt sp).toNatClampNeg + i))) = z at this ⊢
      cases z <;> first | exact trivial | (cases ty <;> simp_all [fits, refKind]))
    (g := F0 K.m pc ls (vI len :: vI dp :: vR X b :: vI sp :: vR X a :: rest)) rfl (by rw [F.2.2.1]; exact hl.1) (rest := rest) rfl (by rw [F.2.1]; exact d) (by rw [hKR]; exact hR.1) (by rw [hKR]; show 2 * 0 + _ + _ ≤ _; omega)
  have e1 : copied (arrV (X.cA (t + 1)) la (fun j => mk (g (D a j)))) (arrV (X.cA (t + 1)) lb (fun j => mk (g (D b j)))) (Int32.ofInt sp) (Int32.ofInt dp) (Int32.ofInt len) = arrV (X.cA (t + 1)) lb (fun j => mk (g (mcpy D a sp.toNat b dp.toNat len.toNat b j))) := by
    have e2 := va_copied (fun z => mk (g z)) (X.cA (t + 1)) (X.cA (t + 1)) (n1 := lb) (dp := dp.toNat) (D a) (D b) (show sp.toNat + len.toNat ≤ la by omega)
    have e3 : copied (arrV (X.cA (t + 1)) la (fun j => mk (g (D a j)))) (arrV (X.cA (t + 1)) lb (fun j => mk (g (D b j)))) (Int32.ofInt sp) (Int32.ofInt dp) (Int32.ofInt len) = (arrV (X.cA (t + 1)) lb (fun j => mk (g (D b j)))).storeRun dp.toNat ((arrV (X.cA (t + 1)) la (fun j => mk (g (D a j)))).stretch sp.toNat len.toNat) := by
      rw [← s2, ← d2, ← l2]
      try rfl
    rw [e3, e2]
    congr 1
    funext j
    congr 2
    simp [va_cpy, mcpy]
  rw [e1] at X' step
  have hlt : X.B + b < H.size := (Array.getElem?_eq_some_iff.mp hcb).1
  obtain ⟨t', a1, b1⟩ := k (H.setIfInBounds (X.B + b) (arrV (X.cA (t + 1)) lb (fun j => mk (g (mcpy D a sp.toNat b dp.toNat len.toNat b j))))) _ (by simp [Array.getElem?_setIfInBounds, hlt]) (by simp) (fun q hq => by simp [Array.getElem?_setIfInBounds, Ne.symm hq]) ⟨by simp; exact hS.1, fun q g1 g2 => by
      rw [show (H.setIfInBounds (X.B + b) (arrV (X.cA (t + 1)) lb (fun j => mk (g (mcpy D a sp.toNat b dp.toNat len.toNat b j)))))[q]? = H[q]? by simp [Array.getElem?_setIfInBounds, show ¬ X.B + b = q from fun e => g2 (by rw [← e]; exact Nat.le_add_right _ _)]]
      exact hS.2.1 q g1 g2, fun q hq => by
      rcases List.mem_append.mp hq with h | h
      · exact hS.2.2 q h
      · obtain ⟨z, -, hz⟩ := List.mem_map.mp h
        rw [← hz]
        exact Nat.le_add_right _ _⟩ _ (by rw [← hT]; rfl) X'
  exact ⟨t', step t' a1, b1⟩
theorem r_copyI (F : Fx K X o cc nL rtn rm) {i a b la lb : Nat} {sp dp len : Int} (w1 : Cond.methodLink (RN o) i arraycopyName ∈ T0) (w2 : Cond.native arraycopyName ∈ T0) (w3 : Cond.static arraycopyName ∈ T0) (w4 : Cond.initialized "java/lang/System" ∈ T0) (hR : 1 ≤ rm.frames ∧ (rest.map fun v => v.category).sum + (nativeFrameWords "java/lang/System" "arraycopy" 5 + 11) ≤ rm.locals) (ha : VA n a 1 la) (hb : VA n b 1 lb) (hi : 0 ≤ sp ∧ 0 ≤ dp ∧ 0 ≤ len ∧ sp + len ≤ (la : Int) ∧ dp + len ≤ (lb : Int)) (d : decode cc pc = .ok (.invokestatic i, 3)) (k : At K X Z cs ss n ρ nL (pc + 3) lv rest (mcpy D a sp.toNat b dp.toNat len.toNat)) : At K X Z cs ss n ρ nL pc lv (vI len :: vI dp :: vR X b :: vI sp :: vR X a :: rest) D := by
  intro H locs ls hz hP hS hl
  have hea := World_at (X := X) (ρ := ρ) (D := D) ha.2
  have heb := World_at (X := X) (ρ := ρ) (D := D) hb.2
  rw [cell_int ha.1] at hea
  rw [cell_int hb.1] at heb
  refine copy_core F (t := 0) (ty := .int) (fun z : Int32 => Value.int z) (fun z => Int32.ofInt z) rfl rfl (fun z => rfl) w1 w2 w3 w4 hR (hP a _ hea) (hP b _ heb) (sh_lt ha.1) (sh_lt hb.1) hi.1 hi.2.1 hi.2.2.1 hi.2.2.2.1 hi.2.2.2.2 hl d (fun H1 locs1 e z oq hS1 => ?_) hS
  refine k H1 locs1 ls (z.trans hz) (upd_cell (e := .inl (X.cA 1, lb, .inl fun j => Int32.ofInt (mcpy D a sp.toNat b dp.toNat len.toNat b j))) hP hb.2 (by rw [cell_int hb.1]) e oq (fun j hj => by rw [mcpy_ne hj])) hS1 hl
theorem r_copyL (F : Fx K X o cc nL rtn rm) {i a b la lb : Nat} {sp dp len : Int} (w1 : Cond.methodLink (RN o) i arraycopyName ∈ T0) (w2 : Cond.native arraycopyName ∈ T0) (w3 : Cond.static arraycopyName ∈ T0) (w4 : Cond.initialized "java/lang/System" ∈ T0) (hR : 1 ≤ rm.frames ∧ (rest.map fun v => v.category).sum + (nativeFrameWords "java/lang/System" "arraycopy" 5 + 11) ≤ rm.locals) (ha : VA n a 2 la) (hb : VA n b 2 lb) (hi : 0 ≤ sp ∧ 0 ≤ dp ∧ 0 ≤ len ∧ sp + len ≤ (la : Int) ∧ dp + len ≤ (lb : Int)) (d : decode cc pc = .ok (.invokestatic i, 3)) (k : At K X Z cs ss n ρ nL (pc + 3) lv rest (mcpy D a sp.toNat b dp.toNat len.toNat)) : At K X Z cs ss n ρ nL pc lv (vI len :: vI dp :: vR X b :: vI sp :: vR X a :: rest) D := by
  intro H locs ls hz hP hS hl
  have hea := World_at (X := X) (ρ := ρ) (D := D) ha.2
  have heb := World_at (X := X) (ρ := ρ) (D := D) hb.2
  rw [cell_long ha.1] at hea
  rw [cell_long hb.1] at heb
  refine copy_core F (t := 1) (ty := .long) (fun z : Int64 => Value.long z) (fun z => Int64.ofInt z) rfl rfl (fun z => rfl) w1 w2 w3 w4 hR (hP a _ hea) (hP b _ heb) (sh_lt ha.1) (sh_lt hb.1) hi.1 hi.2.1 hi.2.2.1 hi.2.2.2.1 hi.2.2.2.2 hl d (fun H1 locs1 e z oq hS1 => ?_) hS
  refine k H1 locs1 ls (z.trans hz) (upd_cell (e := .inl (X.cA 2, lb, .inr (.inl fun j => Int64.ofInt (mcpy D a sp.toNat b dp.toNat len.toNat b j)))) hP hb.2 (by rw [cell_long hb.1]) e oq (fun j hj => by rw [mcpy_ne hj])) hS1 hl
end ERULES
