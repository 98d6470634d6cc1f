/-! RULES: from here on a run is a chain of rules over 'At' (printed by wip/whole/gen/gen_rules.py) -/
abbrev KT : Type := Program × Launch × Env × Room × State × MethodId × Array Value × List Frame × Method × Code
abbrev KT.p (K : KT) : Program := K.1
abbrev KT.l (K : KT) : Launch := K.2.1
abbrev KT.e (K : KT) : Env := K.2.2.1
abbrev KT.R (K : KT) : Room := K.2.2.2.1
abbrev KT.s (K : KT) : State := K.2.2.2.2.1
abbrev KT.m (K : KT) : MethodId := K.2.2.2.2.2.1
abbrev KT.args (K : KT) : Array Value := K.2.2.2.2.2.2.1
abbrev KT.below (K : KT) : List Frame := K.2.2.2.2.2.2.2.1
abbrev KT.meth (K : KT) : Method := K.2.2.2.2.2.2.2.2.1
abbrev KT.c (K : KT) : Code := K.2.2.2.2.2.2.2.2.2
abbrev AX (X : XT) : Nat → Prop := fun q => X.B ≤ q
def tabL (t : Nat) : List Int := if t = 0 then [1, 1, 1, 1, 0, 0, 0, 1, 0, 1, 0] else [12, 60, 40, 20, 3, 99, 10, 20, 11, 9, 20]
def txtS : List String := ["parish", "nights", "room", "tooth", "teeth", "rule", "pays", "odds", "person", "ache", "from", "dear", "bears"]
def chrS : List (List Nat) := [[112, 97, 114, 105, 115, 104], [110, 105, 103, 104, 116, 115], [114, 111, 111, 109], [116, 111, 111, 116, 104], [116, 101, 101, 116, 104], [114, 117, 108, 101], [112, 97, 121, 115], [111, 100, 100, 115], [112, 101, 114, 115, 111, 110], [97, 99, 104, 101], [102, 114, 111, 109], [100, 101, 97, 114], [98, 101, 97, 114, 115]]
def lenS : List Nat := chrS.map List.length
def bytS : List (List Int32) := chrS.map fun l => l.map fun c => Int32.ofNat c
/-- own class, entry, text, number of the text -/
def strTab : List (Nat × Nat × String × Nat) := [(4, 51, "parish", 0), (4, 89, "nights", 1), (4, 91, "room", 2), (4, 93, "tooth", 3), (4, 95, "teeth", 4), (4, 97, "rule", 5), (4, 99, "pays", 6), (4, 101, "odds", 7), (4, 103, "ache", 9), (4, 105, "from", 10), (4, 107, "dear", 11), (4, 109, "bears", 12), (4, 61, "person", 8), (10, 187, "parish", 0), (10, 189, "nights", 1), (10, 195, "room", 2), (10, 197, "tooth", 3), (10, 199, "teeth", 4), (10, 201, "rule", 5), (10, 203, "pays", 6), (10, 205, "odds", 7), (10, 207, "person", 8), (10, 209, "ache", 9), (10, 211, "from", 10), (10, 212, "dear", 11), (10, 214, "bears", 12)]
def SIO : String := "Ljava/util/function/BiFunction;"
def Sx (X : XT) (s : State) : Prop :=
  va_Z (RN 4) "LEAST" "[I" (.ref (X.tt 0)) (AX X) s s.heap ∧ va_T .int (X.tt 0) 11 (fun j => vI ((tabL 0).getD j 0)) (AX X) s s.heap ∧
  va_Z (RN 4) "MOST" "[I" (.ref (X.tt 1)) (AX X) s s.heap ∧ va_T .int (X.tt 1) 11 (fun j => vI ((tabL 1).getD j 0)) (AX X) s s.heap ∧
  va_Z "java/lang/String" "COMPACT_STRINGS" "Z" (.int 1) (AX X) s s.heap ∧ va_Zq "jdk/internal/util/Preconditions" "SIOOBE_FORMATTER" SIO (AX X) s s.heap ∧
  vk_S 13 lenS bytS X.aK X.aV (AX X) s s.heap ∧ (∀ q ∈ strTab, vk_R (RN q.1) q.2.1 q.2.2.1 (X.aK q.2.2.2) s) ∧ va_AO "TeethingParish$Parish" s ∧ va_AO "TeethingParish$Slot" s
def Wd (X : XT) (s : State) : Prop := (∀ w ∈ NW, va_Nw w s) ∧ va_K X.G cls (tysX X) s ∧ X.B ≤ s.heap.size ∧ Sx X s
theorem NW_moved {s U : State} (hW : s.WarmedH U.vm) (h : ∀ w ∈ NW, va_Nw w s) : ∀ w ∈ NW, va_Nw w U := by
  intro w hw
  have h1 := (List.mem_filter.mp hw).2
  have h2 := h w hw
  cases w <;> first | exact va_Nw.warmF hW h2 | exact va_Nw.warmM hW h2 | (simp [isNestW] at h1; done)
theorem NW_same {u U : State} (hv : u.vm = U.vm) (h : ∀ w ∈ NW, va_Nw w u) : ∀ w ∈ NW, va_Nw w U := by
  intro w hw
  have h1 := (List.mem_filter.mp hw).2
  have h2 := h w hw
  cases w <;> first | exact va_Nw.same rfl hv h2 | (simp [isNestW] at h1; done)
theorem Wd.moved {X : XT} {s U : State} {locs : List Loc} (h : Wd X s) (hS : va_S (AX X) s.heap U.heap locs) (hW : s.WarmedH U.vm) : Wd X U := by
  obtain ⟨h1, h2, h3, a1, a2, a3, a4, a5, a6, a7, a8, a9, a10⟩ := h
  have hv : s.vm.Alike U.vm := hW.alike
  have hk := hS.2.1
  exact ⟨NW_moved hW h1, va_K.moved hv h2, Nat.le_trans h3 hS.1, (va_Z.moved hv a1).kept hk, (va_T.moved hv a2).kept hk, (va_Z.moved hv a3).kept hk, (va_T.moved hv a4).kept hk, (va_Z.moved hv a5).kept hk, (va_Zq.moved hv a6).kept hk, (vk_S.moved hv a7).kept hk, fun q hq => (a8 q hq).warm hW, va_AO.moved hv a9, va_AO.moved hv a10⟩
theorem Wd.calling {X : XT} {U : State} {g : JFrame} {mk : MethodId} {a : Array Value} (h : Wd X U) : Wd X (U.calling g mk a) := by
  obtain ⟨h1, h2, h3, a1, a2, a3, a4, a5, a6, a7, a8, a9, a10⟩ := h
  have hv : U.vm.Alike (U.calling g mk a).vm := Vm.Alike.refl U.vm
  exact ⟨NW_same (u := U) (U := U.calling g mk a) (by rfl) h1, va_K.moved hv h2, h3, va_Z.moved hv a1, va_T.moved hv a2, va_Z.moved hv a3, va_T.moved hv a4, va_Z.moved hv a5, va_Zq.moved hv a6, vk_S.moved hv a7, fun q hq => vk_R.same (by rfl) (a8 q hq), va_AO.moved hv a9, va_AO.moved hv a10⟩
/-- what is fixed while one method runs -/
def Fx (K : KT) (X : XT) (o : Nat) (cc : ByteArray) (nL : Nat) (rtn : Option FieldType) (rm : Room) : Prop :=
  K.p.tables.exec = Jvm.exec ∧ K.c.code = cc ∧ K.c.maxLocals = nL ∧ K.s.vm.findClass (RN o) = some K.m.cls ∧ (∀ w ∈ T0, w.before K.args K.s = true) ∧ K.meth.sig.returnType = rtn ∧ K.meth.locks = false ∧ Wd X K.s ∧ K.R = rm
/-- from here (with this memory, these locals, this stack) the machine comes to Z -/
def At (K : KT) (X : XT) (Z : State → Prop) (cs ss n : Nat) (ρ : Rho) (nL pc : Nat) (lv : List (Nat × Value)) (stk : List Value) (D : Mem) : Prop :=
  ∀ (H : Heap) (locs : List Loc) (ls : Array Slot), H.size = X.B + n → va_P X.G cls (World X n ρ D) H → va_S (AX X) K.s.heap H locs → lv_has ls nL lv →
    W K.p K.l K.e K.R K.s K.m K.args K.below K.meth K.c H locs cs ss Z (F0 K.m pc ls stk)
/-- a method's end: what it answers, and the memory behind it -/
def QcM (X : XT) (Q : Option Value → Nat → Rho → Mem → Prop) : Array Value → State → Outcome → State → Prop := fun _ st oc t =>
  (∃ (r : Option Value) (n : Nat) (ρ : Rho) (D : Mem), oc = .returned r ∧ Q r n ρ D ∧ t.heap.size = X.B + n ∧ va_P X.G cls (World X n ρ D) t.heap) ∧ va_F (AX X) st t
def PcM (X : XT) (As : List Value) (n : Nat) (ρ : Rho) (D : Mem) : Array Value → State → Prop := va_Pc As (fun U => U.heap.size = X.B + n ∧ va_P X.G cls (World X n ρ D) U.heap ∧ Wd X U)
/-- a method's contract at these arguments and this memory, with any end Q -/
def MOK (l : Launch) (y : MethodName) (cc : ByteArray) (nL : Nat) (rtn : Option FieldType) (rm : Room) (mc ms : Nat) (X : XT) (As : List Value) (n : Nat) (ρ : Rho) (D : Mem) (Q : Option Value → Nat → Rho → Mem → Prop) : Prop :=
  Met l y (.code y cc nL rtn :: T0) rm (PcM X As n ρ D) (QcM X Q) mc ms (AX X)
theorem MOK_of {l : Launch} {y : MethodName} {cc : ByteArray} {nL : Nat} {rtn : Option FieldType} {rm : Room} {mc ms : Nat} {X : XT} {As : List Value} {n : Nat} {ρ : Rho} {D : Mem} {Q : Option Value → Nat → Rho → Mem → Prop} (o : Nat) (hy : plainName y.cls = true) (ho : y.cls = RN o) {lv : List (Nat × Value)} (hlen : (lg_sl As).length ≤ nL) (hlv : lv_args 0 As = lv)
    (body : ∀ K : KT, K.l = l → Fx K X o cc nL rtn rm → K.meth.name = y.name → At K X (MQ K.below (QcM X Q) K.args K.s mc ms (AX X)) 0 0 n ρ nL 0 lv [] D) : MOK l y cc nL rtn rm mc ms X As n ρ D Q := by
  refine Met.ofW (cc := cc) (maxL := nL) (ret := rtn) hy rfl ?_
  intro p e s m args below meth c s₁ B hml hv
  obtain ⟨rfl, hsz, hP, hW⟩ := hv
  have hts := atoms_spec (ws := .code y cc nL rtn :: T0) B.pre
  have hown : s.vm.findClass y.cls = some m.cls := findClass_of_methodNamed B.named
  have hl := lv_entry As (n := nL) hlen
  rw [lg_entry_eq]
  rw [hlv] at hl
  exact body (p, l, e, rm, s, m, As.toArray, below, meth, c) rfl ⟨B.exec, B.bytes, hml, by rw [← ho]; exact hown, fun w hw => hts w (List.mem_cons_of_mem _ hw), B.returns, B.notSynchronized, hW, rfl⟩ (name_of_methodNamed B.named B.method).1 _ _ _ hsz hP va_S.rf hl
/-- a computation that comes to an answer of which P holds -/
def wpo {α : Type} (x : Option α) (P : α → Prop) : Prop := ∃ a, x = some a ∧ P a
theorem wpo_some {α : Type} {a : α} {P : α → Prop} (h : wpo (some a) P) : P a := by
  obtain ⟨b, h1, h2⟩ := h
  cases h1
  exact h2
theorem wpo_of {α : Type} {a : α} {P : α → Prop} (h : P a) : wpo (some a) P := ⟨a, rfl, h⟩
theorem wpo_bind {α β : Type} {x : Option α} {f : α → Option β} {P : β → Prop} (h : wpo (x.bind f) P) : wpo x (fun a => wpo (f a) P) := by
  obtain ⟨b, h1, h2⟩ := h
  obtain ⟨a, h3, h4⟩ := Option.bind_eq_some_iff.mp h1
  exact ⟨a, h3, b, h4, h2⟩
theorem wpo_pos {α : Type} {c : Prop} {i : Decidable c} {x y : Option α} {P : α → Prop} (h : wpo (@ite _ c i x y) P) (hc : c) : wpo x P := by rwa [if_pos hc] at h
theorem wpo_neg {α : Type} {c : Prop} {i : Decidable c} {x y : Option α} {P : α → Prop} (h : wpo (@ite _ c i x y) P) (hc : ¬ c) : wpo y P := by rwa [if_neg hc] at h
theorem wpo_chk {α : Type} {c : Prop} {i : Decidable c} {x : Option α} {P : α → Prop} (h : wpo (@ite _ c i x none) P) : c ∧ wpo x P := by
  by_cases hc : c
  · exact ⟨hc, wpo_pos h hc⟩
  · obtain ⟨b, h1, -⟩ := wpo_neg h hc
    cases h1
theorem wpo_mono {α : Type} {x : Option α} {P P' : α → Prop} (h : wpo x P) (k : ∀ a, P a → P' a) : wpo x P' := by
  obtain ⟨a, h1, h2⟩ := h
  exact ⟨a, h1, k a h2⟩
/-- at most n rounds of a loop -/
def loop {σ β : Type} (f : σ → Option (σ ⊕ β)) : Nat → σ → Option β
  | 0, _ => none
  | n + 1, s => (f s).bind fun r => match r with
    | .inl s' => loop f n s'
    | .inr b => some b
def FU : Nat := 1000
theorem at_loop {σ β : Type} {A : σ → Prop} {f : σ → Option (σ ⊕ β)} {P : β → Prop} (hb : ∀ (s : σ) (Y : σ → Prop), wpo (f s) (fun r => Sum.casesOn r (fun s' => Y s') (fun b => P b)) → (∀ s', Y s' → A s') → A s) : ∀ (n : Nat) (s : σ), wpo (loop f n s) P → A s := by
  intro n
  induction n with
  | zero => intro s h; obtain ⟨b, h1, -⟩ := h; cases h1
  | succ n ih =>
    intro s h
    refine hb s (fun s' => wpo (loop f n s') P) ?_ ih
    rw [loop] at h
    refine wpo_mono (wpo_bind h) (fun r hr => ?_)
    cases r with
    | inl s' => exact hr
    | inr b => exact wpo_some (a := b) (P := P) hr
-- numbers
theorem vI_add (x y : Int) : vI (x + y) = .int (Int32.ofInt x + Int32.ofInt y) := by rw [vI, Int32.ofInt_add]
theorem vI_sub (x y : Int) : vI (x - y) = .int (Int32.ofInt x - Int32.ofInt y) := by rw [vI, Int32.ofInt_sub]
theorem vI_mul (x y : Int) : vI (x * y) = .int (Int32.ofInt x * Int32.ofInt y) := by rw [vI, Int32.ofInt_mul]
theorem vI_neg (x : Int) : vI (-x) = .int (-Int32.ofInt x) := by rw [vI, Int32.ofInt_neg]
theorem vI_of (z : Int32) : vI z.toInt = .int z := by rw [vI, Int32.ofInt_toInt]
theorem vL_add (x y : Int) : vL (x + y) = .long (Int64.ofInt x + Int64.ofInt y) := by rw [vL, Int64.ofInt_add]
theorem vL_sub (x y : Int) : vL (x - y) = .long (Int64.ofInt x - Int64.ofInt y) := by rw [vL, Int64.ofInt_sub]
theorem vL_mul (x y : Int) : vL (x * y) = .long (Int64.ofInt x * Int64.ofInt y) := by rw [vL, Int64.ofInt_mul]
theorem vL_of (z : Int64) : vL z.toInt = .long z := by rw [vL, Int64.ofInt_toInt]

def and32 (x y : Int) : Int := (Int32.ofInt x &&& Int32.ofInt y).toInt
def or32 (x y : Int) : Int := (Int32.ofInt x ||| Int32.ofInt y).toInt
def xor32 (x y : Int) : Int := (Int32.ofInt x ^^^ Int32.ofInt y).toInt
def shl32 (x y : Int) : Int := (Int32.ofInt x <<< (Int32.ofInt y &&& 31)).toInt
def shr32 (x y : Int) : Int := (Int32.ofInt x >>> (Int32.ofInt y &&& 31)).toInt
def ushr32 (x y : Int) : Int := ((Int32.ofInt x).toUInt32 >>> ((Int32.ofInt y).toUInt32 &&& Int32.toUInt32 31)).toInt32.toInt
def div32 (x y : Int) : Int := (Int32.ofInt x / Int32.ofInt y).toInt
def rem32 (x y : Int) : Int := (Int32.ofInt x - Int32.ofInt x / Int32.ofInt y * Int32.ofInt y).toInt
def and64 (x y : Int) : Int := (Int64.ofInt x &&& Int64.ofInt y).toInt
def or64 (x y : Int) : Int := (Int64.ofInt x ||| Int64.ofInt y).toInt
def shl64 (x y : Int) : Int := (Int64.ofInt x <<< ((Int32.ofInt y).toInt64 &&& 63)).toInt
def shr64 (x y : Int) : Int := (Int64.ofInt x >>> ((Int32.ofInt y).toInt64 &&& 63)).toInt
def div64 (x y : Int) : Int := (Int64.ofInt x / Int64.ofInt y).toInt
def rem64 (x y : Int) : Int := (Int64.ofInt x - Int64.ofInt x / Int64.ofInt y * Int64.ofInt y).toInt
def w8 (x : Int) : Int := (Int32.ofInt x).toInt8.toInt32.toInt
def w16 (x : Int) : Int := (Int32.ofInt x).toInt16.toInt32.toInt
theorem w32_ne {y : Int} (h : ¬ w32 y = 0) : ¬ Int32.ofInt y = 0 := fun z => h (by rw [w32, z]; rfl)
theorem w64_ne {y : Int} (h : ¬ w64 y = 0) : ¬ Int64.ofInt y = 0 := fun z => h (by rw [w64, z]; rfl)
theorem vL_i2l (x : Int) : vL (w32 x) = .long (Int32.ofInt x).toInt64 := by
  rw [vL, w32, ← Int32.toInt_toInt64, Int64.ofInt_toInt]
theorem vI_l2i (x : Int) : vI x = .int (Int64.ofInt x).toInt32 := by
  rw [vI, Int64.toInt32_ofInt]
theorem nlt_of_ge {x y : Int32} (q : y ≤ x) : ¬ x.toInt < y.toInt := by
  have := Int32.le_iff_toInt_le.mp q
  omega
theorem lt_of_nge {x y : Int32} (q : ¬ y ≤ x) : x.toInt < y.toInt := by
  have : ¬ y.toInt ≤ x.toInt := fun z => q (Int32.le_iff_toInt_le.mpr z)
  omega
theorem Fx.wd {K : KT} {X : XT} {o nL : Nat} {cc : ByteArray} {rtn : Option FieldType} {rm : Room} (F : Fx K X o cc nL rtn rm) : Wd X K.s := F.2.2.2.2.2.2.2.1
theorem Wd.str {X : XT} {s : State} (h : Wd X s) : ∀ q ∈ strTab, vk_R (RN q.1) q.2.1 q.2.2.1 (X.aK q.2.2.2) s := h.2.2.2.2.2.2.2.2.2.2.1
theorem Fx.str {K : KT} {X : XT} {o nL : Nat} {cc : ByteArray} {rtn : Option FieldType} {rm : Room} (F : Fx K X o cc nL rtn rm) {i j : Nat} {tx : String} (hw : (o, i, tx, j) ∈ strTab) : vk_R (RN o) i tx (X.aK j) K.s := Wd.str F.wd (o, i, tx, j) hw
section RULES
variable {K : KT} {X : XT} {Z : State → Prop} {cs ss n nL pc o : Nat} {ρ : Rho} {lv : List (Nat × Value)} {rest : List Value} {D : Mem} {cc : ByteArray} {rtn : Option FieldType} {rm : Room}
theorem r_iadd (F : Fx K X o cc nL rtn rm) {x y : Int} {pc : Nat} (d : decode cc pc = .ok (.iadd, 1)) (k : At K X Z cs ss n ρ nL (pc + 1) lv (vI (x + y) :: rest) D) : At K X Z cs ss n ρ nL pc lv (vI y :: vI x :: rest) D := by
  intro H locs ls hz hP hS hl
  have q := k H locs ls hz hP hS hl
  rw [vI_add] at q
  exact lv_iadd F.1 F.2.1 d q
theorem r_isub (F : Fx K X o cc nL rtn rm) {x y : Int} {pc : Nat} (d : decode cc pc = .ok (.isub, 1)) (k : At K X Z cs ss n ρ nL (pc + 1) lv (vI (x - y) :: rest) D) : At K X Z cs ss n ρ nL pc lv (vI y :: vI x :: rest) D := by
  intro H locs ls hz hP hS hl
  have q := k H locs ls hz hP hS hl
  rw [vI_sub] at q
  exact lv_isub F.1 F.2.1 d q
theorem r_imul (F : Fx K X o cc nL rtn rm) {x y : Int} {pc : Nat} (d : decode cc pc = .ok (.imul, 1)) (k : At K X Z cs ss n ρ nL (pc + 1) lv (vI (x * y) :: rest) D) : At K X Z cs ss n ρ nL pc lv (vI y :: vI x :: rest) D := by
  intro H locs ls hz hP hS hl
  have q := k H locs ls hz hP hS hl
  rw [vI_mul] at q
  exact lv_imul F.1 F.2.1 d q
theorem r_ladd (F : Fx K X o cc nL rtn rm) {x y : Int} {pc : Nat} (d : decode cc pc = .ok (.ladd, 1)) (k : At K X Z cs ss n ρ nL (pc + 1) lv (vL (x + y) :: rest) D) : At K X Z cs ss n ρ nL pc lv (vL y :: vL x :: rest) D := by
  intro H locs ls hz hP hS hl
  have q := k H locs ls hz hP hS hl
  rw [vL_add] at q
  exact lv_ladd F.1 F.2.1 d q
theorem r_lsub (F : Fx K X o cc nL rtn rm) {x y : Int} {pc : Nat} (d : decode cc pc = .ok (.lsub, 1)) (k : At K X Z cs ss n ρ nL (pc + 1) lv (vL (x - y) :: rest) D) : At K X Z cs ss n ρ nL pc lv (vL y :: vL x :: rest) D := by
  intro H locs ls hz hP hS hl
  have q := k H locs ls hz hP hS hl
  rw [vL_sub] at q
  exact lv_lsub F.1 F.2.1 d q
theorem r_lmul (F : Fx K X o cc nL rtn rm) {x y : Int} {pc : Nat} (d : decode cc pc = .ok (.lmul, 1)) (k : At K X Z cs ss n ρ nL (pc + 1) lv (vL (x * y) :: rest) D) : At K X Z cs ss n ρ nL pc lv (vL y :: vL x :: rest) D := by
  intro H locs ls hz hP hS hl
  have q := k H locs ls hz hP hS hl
  rw [vL_mul] at q
  exact lv_lmul F.1 F.2.1 d q
theorem r_ineg (F : Fx K X o cc nL rtn rm) {x : Int} {pc : Nat} (d : decode cc pc = .ok (.ineg, 1)) (k : At K X Z cs ss n ρ nL (pc + 1) lv (vI (-x) :: rest) D) : At K X Z cs ss n ρ nL pc lv (vI x :: rest) D := by
  intro H locs ls hz hP hS hl
  have q := k H locs ls hz hP hS hl
  rw [vI_neg] at q
  exact lv_ineg F.1 F.2.1 d q
theorem r_iand (F : Fx K X o cc nL rtn rm) {x y : Int} {pc : Nat} (d : decode cc pc = .ok (.iand, 1)) (k : At K X Z cs ss n ρ nL (pc + 1) lv (vI (and32 x y) :: rest) D) : At K X Z cs ss n ρ nL pc lv (vI y :: vI x :: rest) D := by
  intro H locs ls hz hP hS hl
  have q := k H locs ls hz hP hS hl
  rw [and32, vI_of] at q
  exact lv_iand F.1 F.2.1 d q
theorem r_ior (F : Fx K X o cc nL rtn rm) {x y : Int} {pc : Nat} (d : decode cc pc = .ok (.ior, 1)) (k : At K X Z cs ss n ρ nL (pc + 1) lv (vI (or32 x y) :: rest) D) : At K X Z cs ss n ρ nL pc lv (vI y :: vI x :: rest) D := by
  intro H locs ls hz hP hS hl
  have q := k H locs ls hz hP hS hl
  rw [or32, vI_of] at q
  exact lv_ior F.1 F.2.1 d q
theorem r_ixor (F : Fx K X o cc nL rtn rm) {x y : Int} {pc : Nat} (d : decode cc pc = .ok (.ixor, 1)) (k : At K X Z cs ss n ρ nL (pc + 1) lv (vI (xor32 x y) :: rest) D) : At K X Z cs ss n ρ nL pc lv (vI y :: vI x :: rest) D := by
  intro H locs ls hz hP hS hl
  have q := k H locs ls hz hP hS hl
  rw [xor32, vI_of] at q
  exact lv_ixor F.1 F.2.1 d q
theorem r_ishl (F : Fx K X o cc nL rtn rm) {x y : Int} {pc : Nat} (d : decode cc pc = .ok (.ishl, 1)) (k : At K X Z cs ss n ρ nL (pc + 1) lv (vI (shl32 x y) :: rest) D) : At K X Z cs ss n ρ nL pc lv (vI y :: vI x :: rest) D := by
  intro H locs ls hz hP hS hl
  have q := k H locs ls hz hP hS hl
  rw [shl32, vI_of] at q
  exact lv_ishl F.1 F.2.1 d q
theorem r_ishr (F : Fx K X o cc nL rtn rm) {x y : Int} {pc : Nat} (d : decode cc pc = .ok (.ishr, 1)) (k : At K X Z cs ss n ρ nL (pc + 1) lv (vI (shr32 x y) :: rest) D) : At K X Z cs ss n ρ nL pc lv (vI y :: vI x :: rest) D := by
  intro H locs ls hz hP hS hl
  have q := k H locs ls hz hP hS hl
  rw [shr32, vI_of] at q
  exact lv_ishr F.1 F.2.1 d q
theorem r_iushr (F : Fx K X o cc nL rtn rm) {x y : Int} {pc : Nat} (d : decode cc pc = .ok (.iushr, 1)) (k : At K X Z cs ss n ρ nL (pc + 1) lv (vI (ushr32 x y) :: rest) D) : At K X Z cs ss n ρ nL pc lv (vI y :: vI x :: rest) D := by
  intro H locs ls hz hP hS hl
  have q := k H locs ls hz hP hS hl
  rw [ushr32, vI_of] at q
  exact lv_iushr F.1 F.2.1 d rfl q
theorem r_idiv (F : Fx K X o cc nL rtn rm) {x y : Int} (h : ¬ w32 y = 0) {pc : Nat} (d : decode cc pc = .ok (.idiv, 1)) (k : At K X Z cs ss n ρ nL (pc + 1) lv (vI (div32 x y) :: rest) D) : At K X Z cs ss n ρ nL pc lv (vI y :: vI x :: rest) D := by
  intro H locs ls hz hP hS hl
  have q := k H locs ls hz hP hS hl
  rw [div32, vI_of] at q
  exact lv_idiv F.1 F.2.1 d (w32_ne h) q
theorem r_ldiv (F : Fx K X o cc nL rtn rm) {x y : Int} (h : ¬ w64 y = 0) {pc : Nat} (d : decode cc pc = .ok (.ldiv, 1)) (k : At K X Z cs ss n ρ nL (pc + 1) lv (vL (div64 x y) :: rest) D) : At K X Z cs ss n ρ nL pc lv (vL y :: vL x :: rest) D := by
  intro H locs ls hz hP hS hl
  have q := k H locs ls hz hP hS hl
  rw [div64, vL_of] at q
  exact lv_ldiv F.1 F.2.1 d (w64_ne h) q
theorem r_irem (F : Fx K X o cc nL rtn rm) {x y : Int} (h : ¬ w32 y = 0) {pc : Nat} (d : decode cc pc = .ok (.irem, 1)) (k : At K X Z cs ss n ρ nL (pc + 1) lv (vI (rem32 x y) :: rest) D) : At K X Z cs ss n ρ nL pc lv (vI y :: vI x :: rest) D := by
  intro H locs ls hz hP hS hl
  have q := k H locs ls hz hP hS hl
  rw [rem32, vI_of] at q
  exact lv_irem F.1 F.2.1 d (w32_ne h) q
theorem r_lrem (F : Fx K X o cc nL rtn rm) {x y : Int} (h : ¬ w64 y = 0) {pc : Nat} (d : decode cc pc = .ok (.lrem, 1)) (k : At K X Z cs ss n ρ nL (pc + 1) lv (vL (rem64 x y) :: rest) D) : At K X Z cs ss n ρ nL pc lv (vL y :: vL x :: rest) D := by
  intro H locs ls hz hP hS hl
  have q := k H locs ls hz hP hS hl
  rw [rem64, vL_of] at q
  exact lv_lrem F.1 F.2.1 d (w64_ne h) q
theorem r_land (F : Fx K X o cc nL rtn rm) {x y : Int} {pc : Nat} (d : decode cc pc = .ok (.land, 1)) (k : At K X Z cs ss n ρ nL (pc + 1) lv (vL (and64 x y) :: rest) D) : At K X Z cs ss n ρ nL pc lv (vL y :: vL x :: rest) D := by
  intro H locs ls hz hP hS hl
  have q := k H locs ls hz hP hS hl
  rw [and64, vL_of] at q
  exact lv_land F.1 F.2.1 d q
theorem r_lor (F : Fx K X o cc nL rtn rm) {x y : Int} {pc : Nat} (d : decode cc pc = .ok (.lor, 1)) (k : At K X Z cs ss n ρ nL (pc + 1) lv (vL (or64 x y) :: rest) D) : At K X Z cs ss n ρ nL pc lv (vL y :: vL x :: rest) D := by
  intro H locs ls hz hP hS hl
  have q := k H locs ls hz hP hS hl
  rw [or64, vL_of] at q
  exact lv_lor F.1 F.2.1 d q
theorem r_lshl (F : Fx K X o cc nL rtn rm) {x y : Int} {pc : Nat} (d : decode cc pc = .ok (.lshl, 1)) (k : At K X Z cs ss n ρ nL (pc + 1) lv (vL (shl64 x y) :: rest) D) : At K X Z cs ss n ρ nL pc lv (vI y :: vL x :: rest) D := by
  intro H locs ls hz hP hS hl
  have q := k H locs ls hz hP hS hl
  rw [shl64, vL_of] at q
  exact lv_lshl F.1 F.2.1 d rfl q
theorem r_lshr (F : Fx K X o cc nL rtn rm) {x y : Int} {pc : Nat} (d : decode cc pc = .ok (.lshr, 1)) (k : At K X Z cs ss n ρ nL (pc + 1) lv (vL (shr64 x y) :: rest) D) : At K X Z cs ss n ρ nL pc lv (vI y :: vL x :: rest) D := by
  intro H locs ls hz hP hS hl
  have q := k H locs ls hz hP hS hl
  rw [shr64, vL_of] at q
  exact lv_lshr F.1 F.2.1 d rfl q
theorem r_i2l (F : Fx K X o cc nL rtn rm) {x : Int} {pc : Nat} (d : decode cc pc = .ok (.i2l, 1)) (k : At K X Z cs ss n ρ nL (pc + 1) lv (vL (w32 x) :: rest) D) : At K X Z cs ss n ρ nL pc lv (vI x :: rest) D := by
  intro H locs ls hz hP hS hl
  have q := k H locs ls hz hP hS hl
  rw [vL_i2l] at q
  exact lv_i2l F.1 F.2.1 d rfl q
theorem r_l2i (F : Fx K X o cc nL rtn rm) {x : Int} {pc : Nat} (d : decode cc pc = .ok (.l2i, 1)) (k : At K X Z cs ss n ρ nL (pc + 1) lv (vI x :: rest) D) : At K X Z cs ss n ρ nL pc lv (vL x :: rest) D := by
  intro H locs ls hz hP hS hl
  have q := k H locs ls hz hP hS hl
  rw [vI_l2i] at q
  exact lv_l2i F.1 F.2.1 d rfl q
theorem r_i2b (F : Fx K X o cc nL rtn rm) {x : Int} {pc : Nat} (d : decode cc pc = .ok (.i2b, 1)) (k : At K X Z cs ss n ρ nL (pc + 1) lv (vI (w8 x) :: rest) D) : At K X Z cs ss n ρ nL pc lv (vI x :: rest) D := by
  intro H locs ls hz hP hS hl
  have q := k H locs ls hz hP hS hl
  rw [w8, vI_of] at q
  exact lv_i2b F.1 F.2.1 d rfl q
theorem r_i2s (F : Fx K X o cc nL rtn rm) {x : Int} {pc : Nat} (d : decode cc pc = .ok (.i2s, 1)) (k : At K X Z cs ss n ρ nL (pc + 1) lv (vI (w16 x) :: rest) D) : At K X Z cs ss n ρ nL pc lv (vI x :: rest) D := by
  intro H locs ls hz hP hS hl
  have q := k H locs ls hz hP hS hl
  rw [w16, vI_of] at q
  exact lv_i2s F.1 F.2.1 d rfl q
theorem r_iconst (F : Fx K X o cc nL rtn rm) {z : Int} {pc : Nat} (d : decode cc pc = .ok (.iconst z, 1)) (k : At K X Z cs ss n ρ nL (pc + 1) lv (vI z :: rest) D) : At K X Z cs ss n ρ nL pc lv rest D := by
  intro H locs ls hz hP hS hl
  have q := k H locs ls hz hP hS hl
  exact lv_iconst (n := z) F.1 F.2.1 d rfl q
theorem r_lconst (F : Fx K X o cc nL rtn rm) {z : Fin 2} {x : Int} (hx : Int64.ofNat (z : Nat) = Int64.ofInt x) {pc : Nat} (d : decode cc pc = .ok (.lconst z, 1)) (k : At K X Z cs ss n ρ nL (pc + 1) lv (vL x :: rest) D) : At K X Z cs ss n ρ nL pc lv rest D := by
  intro H locs ls hz hP hS hl
  have q := k H locs ls hz hP hS hl
  exact lv_lconst F.1 F.2.1 d hx q
theorem r_bipush (F : Fx K X o cc nL rtn rm) {z : Int} (he : (Int8.ofInt z).toInt32 = Int32.ofInt z) {pc : Nat} (d : decode cc pc = .ok (.bipush z, 2)) (k : At K X Z cs ss n ρ nL (pc + 2) lv (vI z :: rest) D) : At K X Z cs ss n ρ nL pc lv rest D := by
  intro H locs ls hz hP hS hl
  have q := k H locs ls hz hP hS hl
  exact lv_bipush F.1 F.2.1 d he q
theorem r_sipush (F : Fx K X o cc nL rtn rm) {z : Int} (he : (Int16.ofInt z).toInt32 = Int32.ofInt z) {pc : Nat} (d : decode cc pc = .ok (.sipush z, 3)) (k : At K X Z cs ss n ρ nL (pc + 3) lv (vI z :: rest) D) : At K X Z cs ss n ρ nL pc lv rest D := by
  intro H locs ls hz hP hS hl
  have q := k H locs ls hz hP hS hl
  exact lv_sipush F.1 F.2.1 d he q
theorem r_ldc (F : Fx K X o cc nL rtn rm) {z : Int} {i : Nat} (hw : Cond.constant (RN o) i (Int32.ofInt z) ∈ T0) {pc : Nat} (d : decode cc pc = .ok (.ldc i, 2)) (k : At K X Z cs ss n ρ nL (pc + 2) lv (vI z :: rest) D) : At K X Z cs ss n ρ nL pc lv rest D := by
  intro H locs ls hz hP hS hl
  have q := k H locs ls hz hP hS hl
  exact lv_ldc F.1 F.2.1 F.2.2.2.1 (F.2.2.2.2.1 _ hw) d q
theorem r_ldcw (F : Fx K X o cc nL rtn rm) {z : Int} {i : Nat} (hw : Cond.constant (RN o) i (Int32.ofInt z) ∈ T0) {pc : Nat} (d : decode cc pc = .ok (.ldc_w i, 3)) (k : At K X Z cs ss n ρ nL (pc + 3) lv (vI z :: rest) D) : At K X Z cs ss n ρ nL pc lv rest D := by
  intro H locs ls hz hP hS hl
  have q := k H locs ls hz hP hS hl
  exact lv_ldcw F.1 F.2.1 F.2.2.2.1 (F.2.2.2.2.1 _ hw) d q
theorem r_ldc2 (F : Fx K X o cc nL rtn rm) {z : Int} {i : Nat} (hw : Cond.constantLong (RN o) i (Int64.ofInt z) ∈ T0) {pc : Nat} (d : decode cc pc = .ok (.ldc2_w i, 3)) (k : At K X Z cs ss n ρ nL (pc + 3) lv (vL z :: rest) D) : At K X Z cs ss n ρ nL pc lv rest D := by
  intro H locs ls hz hP hS hl
  have q := k H locs ls hz hP hS hl
  exact lv_ldc2 F.1 F.2.1 F.2.2.2.1 (F.2.2.2.2.1 _ hw) d q
theorem r_ldcS (F : Fx K X o cc nL rtn rm) {i j : Nat} {tx : String} (hw : (o, i, tx, j) ∈ strTab) {pc : Nat} (d : decode cc pc = .ok (.ldc i, 2)) (k : At K X Z cs ss n ρ nL (pc + 2) lv (vS X j :: rest) D) : At K X Z cs ss n ρ nL pc lv rest D := by
  intro H locs ls hz hP hS hl
  have q := k H locs ls hz hP hS hl
  exact va_ldcS F.1 F.2.1 F.2.2.2.1 (Fx.str F hw) d q
theorem r_iload_n (F : Fx K X o cc nL rtn rm) (w : Nat) {kk : Fin 4} {i : Nat} {x : Int} (hw : lv[w]? = some (i, vI x)) (hi : (kk : Nat) = i) {pc : Nat} (d : decode cc pc = .ok (.iload_n kk, 1)) (k : At K X Z cs ss n ρ nL (pc + 1) lv (vI x :: rest) D) : At K X Z cs ss n ρ nL pc lv rest D := by
  intro H locs ls hz hP hS hl
  have q := k H locs ls hz hP hS hl
  exact lv_iload_n F.1 F.2.1 d hi (lv_at hl w hw) q
theorem r_iload (F : Fx K X o cc nL rtn rm) (w : Nat) {i : Nat} {x : Int} (hw : lv[w]? = some (i, vI x)) {pc : Nat} (d : decode cc pc = .ok (.iload i, 2)) (k : At K X Z cs ss n ρ nL (pc + 2) lv (vI x :: rest) D) : At K X Z cs ss n ρ nL pc lv rest D := by
  intro H locs ls hz hP hS hl
  have q := k H locs ls hz hP hS hl
  exact lv_iload F.1 F.2.1 d (lv_at hl w hw) q
theorem r_lload_n (F : Fx K X o cc nL rtn rm) (w : Nat) {kk : Fin 4} {i : Nat} {x : Int} (hw : lv[w]? = some (i, vL x)) (hi : (kk : Nat) = i) {pc : Nat} (d : decode cc pc = .ok (.lload_n kk, 1)) (k : At K X Z cs ss n ρ nL (pc + 1) lv (vL x :: rest) D) : At K X Z cs ss n ρ nL pc lv rest D := by
  intro H locs ls hz hP hS hl
  have q := k H locs ls hz hP hS hl
  exact lv_lload_n F.1 F.2.1 d hi (lv_at hl w hw) q
theorem r_lload (F : Fx K X o cc nL rtn rm) (w : Nat) {i : Nat} {x : Int} (hw : lv[w]? = some (i, vL x)) {pc : Nat} (d : decode cc pc = .ok (.lload i, 2)) (k : At K X Z cs ss n ρ nL (pc + 2) lv (vL x :: rest) D) : At K X Z cs ss n ρ nL pc lv rest D := by
  intro H locs ls hz hP hS hl
  have q := k H locs ls hz hP hS hl
  exact lv_lload F.1 F.2.1 d (lv_at hl w hw) q
theorem r_aload_n (F : Fx K X o cc nL rtn rm) (w : Nat) {kk : Fin 4} {i : Nat} {x : Nat} (hw : lv[w]? = some (i, (Value.ref x))) (hi : (kk : Nat) = i) {pc : Nat} (d : decode cc pc = .ok (.aload_n kk, 1)) (k : At K X Z cs ss n ρ nL (pc + 1) lv ((Value.ref x) :: rest) D) : At K X Z cs ss n ρ nL pc lv rest D := by
  intro H locs ls hz hP hS hl
  have q := k H locs ls hz hP hS hl
  exact lv_aload_n F.1 F.2.1 d hi (lv_at hl w hw) q
theorem r_aload (F : Fx K X o cc nL rtn rm) (w : Nat) {i : Nat} {x : Nat} (hw : lv[w]? = some (i, (Value.ref x))) {pc : Nat} (d : decode cc pc = .ok (.aload i, 2)) (k : At K X Z cs ss n ρ nL (pc + 2) lv ((Value.ref x) :: rest) D) : At K X Z cs ss n ρ nL pc lv rest D := by
  intro H locs ls hz hP hS hl
  have q := k H locs ls hz hP hS hl
  exact lv_aload F.1 F.2.1 d (lv_at hl w hw) q
theorem r_istore_n (F : Fx K X o cc nL rtn rm) {pc i : Nat} {x : Int} {lv' : List (Nat × Value)} {kk : Fin 4} (hi : (kk : Nat) = i) (hn : i < nL) (hl' : (i, vI x) :: lv.filter (fun q => !(q.1 == i) && !(q.1 + 1 == i && q.2.category == 2)) = lv') (d : decode cc pc = .ok (.istore_n kk, 1)) (k : At K X Z cs ss n ρ nL (pc + 1) lv' rest D) : At K X Z cs ss n ρ nL pc lv (vI x :: rest) D := by
  intro H locs ls hz hP hS hl
  exact lv_istore_n F.1 F.2.1 d hi hl hn hl' (fun ls h => k H locs ls hz hP hS h)
theorem r_istore (F : Fx K X o cc nL rtn rm) {pc i : Nat} {x : Int} {lv' : List (Nat × Value)} (hn : i < nL) (hl' : (i, vI x) :: lv.filter (fun q => !(q.1 == i) && !(q.1 + 1 == i && q.2.category == 2)) = lv') (d : decode cc pc = .ok (.istore i, 2)) (k : At K X Z cs ss n ρ nL (pc + 2) lv' rest D) : At K X Z cs ss n ρ nL pc lv (vI x :: rest) D := by
  intro H locs ls hz hP hS hl
  exact lv_istore F.1 F.2.1 d hl hn hl' (fun ls h => k H locs ls hz hP hS h)
theorem r_lstore_n (F : Fx K X o cc nL rtn rm) {pc i : Nat} {x : Int} {lv' : List (Nat × Value)} {kk : Fin 4} (hi : (kk : Nat) = i) (hn : i + 1 < nL) (hl' : (i, vL x) :: lv.filter (fun q => !(q.1 == i) && (!(q.1 == i + 1) && !(q.1 + 1 == i && q.2.category == 2))) = lv') (d : decode cc pc = .ok (.lstore_n kk, 1)) (k : At K X Z cs ss n ρ nL (pc + 1) lv' rest D) : At K X Z cs ss n ρ nL pc lv (vL x :: rest) D := by
  intro H locs ls hz hP hS hl
  exact lv_lstore_n F.1 F.2.1 d hi hl hn hl' (fun ls h => k H locs ls hz hP hS h)
theorem r_lstore (F : Fx K X o cc nL rtn rm) {pc i : Nat} {x : Int} {lv' : List (Nat × Value)} (hn : i + 1 < nL) (hl' : (i, vL x) :: lv.filter (fun q => !(q.1 == i) && (!(q.1 == i + 1) && !(q.1 + 1 == i && q.2.category == 2))) = lv') (d : decode cc pc = .ok (.lstore i, 2)) (k : At K X Z cs ss n ρ nL (pc + 2) lv' rest D) : At K X Z cs ss n ρ nL pc lv (vL x :: rest) D := by
  intro H locs ls hz hP hS hl
  exact lv_lstore F.1 F.2.1 d hl hn hl' (fun ls h => k H locs ls hz hP hS h)
theorem r_astore_n (F : Fx K X o cc nL rtn rm) {pc i : Nat} {x : Nat} {lv' : List (Nat × Value)} {kk : Fin 4} (hi : (kk : Nat) = i) (hn : i < nL) (hl' : (i, Value.ref x) :: lv.filter (fun q => !(q.1 == i) && !(q.1 + 1 == i && q.2.category == 2)) = lv') (d : decode cc pc = .ok (.astore_n kk, 1)) (k : At K X Z cs ss n ρ nL (pc + 1) lv' rest D) : At K X Z cs ss n ρ nL pc lv (Value.ref x :: rest) D := by
  intro H locs ls hz hP hS hl
  exact lv_astore_n F.1 F.2.1 d hi hl hn hl' (fun ls h => k H locs ls hz hP hS h)
theorem r_astore (F : Fx K X o cc nL rtn rm) {pc i : Nat} {x : Nat} {lv' : List (Nat × Value)} (hn : i < nL) (hl' : (i, Value.ref x) :: lv.filter (fun q => !(q.1 == i) && !(q.1 + 1 == i && q.2.category == 2)) = lv') (d : decode cc pc = .ok (.astore i, 2)) (k : At K X Z cs ss n ρ nL (pc + 2) lv' rest D) : At K X Z cs ss n ρ nL pc lv (Value.ref x :: rest) D := by
  intro H locs ls hz hP hS hl
  exact lv_astore F.1 F.2.1 d hl hn hl' (fun ls h => k H locs ls hz hP hS h)
theorem r_iinc (F : Fx K X o cc nL rtn rm) (w : Nat) {pc i : Nat} {z x : Int} {lv' : List (Nat × Value)} (hw : lv[w]? = some (i, vI x)) (hn : i < nL) (hl' : (i, vI (x + z)) :: lv.filter (fun q => !(q.1 == i) && !(q.1 + 1 == i && q.2.category == 2)) = lv') (d : decode cc pc = .ok (.iinc i z, 3)) (k : At K X Z cs ss n ρ nL (pc + 3) lv' rest D) : At K X Z cs ss n ρ nL pc lv rest D := by
  intro H locs ls hz hP hS hl
  exact lv_iinc (k := w) F.1 F.2.1 d hl hw rfl hn (by rw [← hl', vI_add]) (fun ls h => k H locs ls hz hP hS h)
theorem r_dup (F : Fx K X o cc nL rtn rm) {v : Value} (hv : v.category = 1) {pc : Nat} (d : decode cc pc = .ok (.dup, 1)) (k : At K X Z cs ss n ρ nL (pc + 1) lv (v :: v :: rest) D) : At K X Z cs ss n ρ nL pc lv (v :: rest) D := by
  intro H locs ls hz hP hS hl
  have q := k H locs ls hz hP hS hl
  exact lv_dup F.1 F.2.1 d hv q
theorem r_dup2 (F : Fx K X o cc nL rtn rm) {v w : Value} (hv : v.category = 1) (hw : w.category = 1) {pc : Nat} (d : decode cc pc = .ok (.dup2, 1)) (k : At K X Z cs ss n ρ nL (pc + 1) lv (v :: w :: v :: w :: rest) D) : At K X Z cs ss n ρ nL pc lv (v :: w :: rest) D := by
  intro H locs ls hz hP hS hl
  have q := k H locs ls hz hP hS hl
  exact lv_dup2_11 F.1 F.2.1 d hv hw q
theorem r_dup2L (F : Fx K X o cc nL rtn rm) {v : Value} (hv : v.category = 2) {pc : Nat} (d : decode cc pc = .ok (.dup2, 1)) (k : At K X Z cs ss n ρ nL (pc + 1) lv (v :: v :: rest) D) : At K X Z cs ss n ρ nL pc lv (v :: rest) D := by
  intro H locs ls hz hP hS hl
  have q := k H locs ls hz hP hS hl
  exact lv_dup2_2 F.1 F.2.1 d hv q
theorem r_dup_x1 (F : Fx K X o cc nL rtn rm) {v w : Value} (hv : v.category = 1) (hw : w.category = 1) {pc : Nat} (d : decode cc pc = .ok (.dup_x1, 1)) (k : At K X Z cs ss n ρ nL (pc + 1) lv (v :: w :: v :: rest) D) : At K X Z cs ss n ρ nL pc lv (v :: w :: rest) D := by
  intro H locs ls hz hP hS hl
  have q := k H locs ls hz hP hS hl
  exact lv_dup_x1 F.1 F.2.1 d hv hw q
theorem r_pop (F : Fx K X o cc nL rtn rm) {v : Value} (hv : v.category = 1) {pc : Nat} (d : decode cc pc = .ok (.pop, 1)) (k : At K X Z cs ss n ρ nL (pc + 1) lv rest D) : At K X Z cs ss n ρ nL pc lv (v :: rest) D := by
  intro H locs ls hz hP hS hl
  have q := k H locs ls hz hP hS hl
  exact lv_pop F.1 F.2.1 d hv q
theorem r_pop2L (F : Fx K X o cc nL rtn rm) {v : Value} (hv : v.category = 2) {pc : Nat} (d : decode cc pc = .ok (.pop2, 1)) (k : At K X Z cs ss n ρ nL (pc + 1) lv rest D) : At K X Z cs ss n ρ nL pc lv (v :: rest) D := by
  intro H locs ls hz hP hS hl
  have q := k H locs ls hz hP hS hl
  exact lv_pop2_2 F.1 F.2.1 d hv q
theorem r_icmp_lt (F : Fx K X o cc nL rtn rm) {x y : Int} {off : Int} {tgt : Nat} (d : decode cc pc = .ok (.if_icmp .lt off, 3)) (ht : (pc : Int) + off = (tgt : Int)) (kt : w32 x < w32 y → At K X Z cs ss n ρ nL tgt lv rest D) (kf : ¬ w32 x < w32 y → At K X Z cs ss n ρ nL (pc + 3) lv rest D) : At K X Z cs ss n ρ nL pc lv (vI y :: vI x :: rest) D := by
  intro H locs ls hz hP hS hl
  exact lv_icmp_lt F.1 F.2.1 d ht (fun q => kt (Int32.lt_iff_toInt_lt.mp q) H locs ls hz hP hS hl) (fun q => kf (fun z => q (Int32.lt_iff_toInt_lt.mpr z)) H locs ls hz hP hS hl)
theorem r_if_lt (F : Fx K X o cc nL rtn rm) {x : Int} {off : Int} {tgt : Nat} (d : decode cc pc = .ok (.ifCond .lt off, 3)) (ht : (pc : Int) + off = (tgt : Int)) (kt : w32 x < 0 → At K X Z cs ss n ρ nL tgt lv rest D) (kf : ¬ w32 x < 0 → At K X Z cs ss n ρ nL (pc + 3) lv rest D) : At K X Z cs ss n ρ nL pc lv (vI x :: rest) D := by
  intro H locs ls hz hP hS hl
  exact lv_if_lt F.1 F.2.1 d ht (fun q => kt (Int32.lt_iff_toInt_lt.mp q) H locs ls hz hP hS hl) (fun q => kf (fun z => q (Int32.lt_iff_toInt_lt.mpr z)) H locs ls hz hP hS hl)
theorem r_icmp_ge (F : Fx K X o cc nL rtn rm) {x y : Int} {off : Int} {tgt : Nat} (d : decode cc pc = .ok (.if_icmp .ge off, 3)) (ht : (pc : Int) + off = (tgt : Int)) (kt : ¬ w32 x < w32 y → At K X Z cs ss n ρ nL tgt lv rest D) (kf : w32 x < w32 y → At K X Z cs ss n ρ nL (pc + 3) lv rest D) : At K X Z cs ss n ρ nL pc lv (vI y :: vI x :: rest) D := by
  intro H locs ls hz hP hS hl
  exact lv_icmp_ge F.1 F.2.1 d ht (fun q => kt (nlt_of_ge q) H locs ls hz hP hS hl) (fun q => kf (lt_of_nge q) H locs ls hz hP hS hl)
theorem r_if_ge (F : Fx K X o cc nL rtn rm) {x : Int} {off : Int} {tgt : Nat} (d : decode cc pc = .ok (.ifCond .ge off, 3)) (ht : (pc : Int) + off = (tgt : Int)) (kt : ¬ w32 x < 0 → At K X Z cs ss n ρ nL tgt lv rest D) (kf : w32 x < 0 → At K X Z cs ss n ρ nL (pc + 3) lv rest D) : At K X Z cs ss n ρ nL pc lv (vI x :: rest) D := by
  intro H locs ls hz hP hS hl
  exact lv_if_ge F.1 F.2.1 d ht (fun q => kt (nlt_of_ge q) H locs ls hz hP hS hl) (fun q => kf (lt_of_nge q) H locs ls hz hP hS hl)
theorem r_icmp_gt (F : Fx K X o cc nL rtn rm) {x y : Int} {off : Int} {tgt : Nat} (d : decode cc pc = .ok (.if_icmp .gt off, 3)) (ht : (pc : Int) + off = (tgt : Int)) (kt : w32 y < w32 x → At K X Z cs ss n ρ nL tgt lv rest D) (kf : ¬ w32 y < w32 x → At K X Z cs ss n ρ nL (pc + 3) lv rest D) : At K X Z cs ss n ρ nL pc lv (vI y :: vI x :: rest) D := by
  intro H locs ls hz hP hS hl
  exact lv_icmp_gt F.1 F.2.1 d ht (fun q => kt (Int32.lt_iff_toInt_lt.mp q) H locs ls hz hP hS hl) (fun q => kf (fun z => q (Int32.lt_iff_toInt_lt.mpr z)) H locs ls hz hP hS hl)
theorem r_if_gt (F : Fx K X o cc nL rtn rm) {x : Int} {off : Int} {tgt : Nat} (d : decode cc pc = .ok (.ifCond .gt off, 3)) (ht : (pc : Int) + off = (tgt : Int)) (kt : 0 < w32 x → At K X Z cs ss n ρ nL tgt lv rest D) (kf : ¬ 0 < w32 x → At K X Z cs ss n ρ nL (pc + 3) lv rest D) : At K X Z cs ss n ρ nL pc lv (vI x :: rest) D := by
  intro H locs ls hz hP hS hl
  exact lv_if_gt F.1 F.2.1 d ht (fun q => kt (Int32.lt_iff_toInt_lt.mp q) H locs ls hz hP hS hl) (fun q => kf (fun z => q (Int32.lt_iff_toInt_lt.mpr z)) H locs ls hz hP hS hl)
theorem r_icmp_le (F : Fx K X o cc nL rtn rm) {x y : Int} {off : Int} {tgt : Nat} (d : decode cc pc = .ok (.if_icmp .le off, 3)) (ht : (pc : Int) + off = (tgt : Int)) (kt : ¬ w32 y < w32 x → At K X Z cs ss n ρ nL tgt lv rest D) (kf : w32 y < w32 x → At K X Z cs ss n ρ nL (pc + 3) lv rest D) : At K X Z cs ss n ρ nL pc lv (vI y :: vI x :: rest) D := by
  intro H locs ls hz hP hS hl
  exact lv_icmp_le F.1 F.2.1 d ht (fun q => kt (nlt_of_ge q) H locs ls hz hP hS hl) (fun q => kf (lt_of_nge q) H locs ls hz hP hS hl)
theorem r_if_le (F : Fx K X o cc nL rtn rm) {x : Int} {off : Int} {tgt : Nat} (d : decode cc pc = .ok (.ifCond .le off, 3)) (ht : (pc : Int) + off = (tgt : Int)) (kt : ¬ 0 < w32 x → At K X Z cs ss n ρ nL tgt lv rest D) (kf : 0 < w32 x → At K X Z cs ss n ρ nL (pc + 3) lv rest D) : At K X Z cs ss n ρ nL pc lv (vI x :: rest) D := by
  intro H locs ls hz hP hS hl
  exact lv_if_le F.1 F.2.1 d ht (fun q => kt (nlt_of_ge q) H locs ls hz hP hS hl) (fun q => kf (lt_of_nge q) H locs ls hz hP hS hl)
theorem r_icmp_eq (F : Fx K X o cc nL rtn rm) {x y : Int} {off : Int} {tgt : Nat} (d : decode cc pc = .ok (.if_icmp .eq off, 3)) (ht : (pc : Int) + off = (tgt : Int)) (kt : w32 x = w32 y → At K X Z cs ss n ρ nL tgt lv rest D) (kf : ¬ w32 x = w32 y → At K X Z cs ss n ρ nL (pc + 3) lv rest D) : At K X Z cs ss n ρ nL pc lv (vI y :: vI x :: rest) D := by
  intro H locs ls hz hP hS hl
  exact lv_icmp_eq F.1 F.2.1 d ht (fun q => kt (congrArg Int32.toInt q) H locs ls hz hP hS hl) (fun q => kf (fun z => q (Int32.toInt_inj.mp z)) H locs ls hz hP hS hl)
theorem r_if_eq (F : Fx K X o cc nL rtn rm) {x : Int} {off : Int} {tgt : Nat} (d : decode cc pc = .ok (.ifCond .eq off, 3)) (ht : (pc : Int) + off = (tgt : Int)) (kt : w32 x = 0 → At K X Z cs ss n ρ nL tgt lv rest D) (kf : ¬ w32 x = 0 → At K X Z cs ss n ρ nL (pc + 3) lv rest D) : At K X Z cs ss n ρ nL pc lv (vI x :: rest) D := by
  intro H locs ls hz hP hS hl
  exact lv_if_eq F.1 F.2.1 d ht (fun q => kt (congrArg Int32.toInt q) H locs ls hz hP hS hl) (fun q => kf (fun z => q (Int32.toInt_inj.mp z)) H locs ls hz hP hS hl)
theorem r_icmp_ne (F : Fx K X o cc nL rtn rm) {x y : Int} {off : Int} {tgt : Nat} (d : decode cc pc = .ok (.if_icmp .ne off, 3)) (ht : (pc : Int) + off = (tgt : Int)) (kt : ¬ w32 x = w32 y → At K X Z cs ss n ρ nL tgt lv rest D) (kf : w32 x = w32 y → At K X Z cs ss n ρ nL (pc + 3) lv rest D) : At K X Z cs ss n ρ nL pc lv (vI y :: vI x :: rest) D := by
  intro H locs ls hz hP hS hl
  exact lv_icmp_ne F.1 F.2.1 d ht (fun q => kt (fun z => q (Int32.toInt_inj.mp z)) H locs ls hz hP hS hl) (fun q => kf (congrArg Int32.toInt q) H locs ls hz hP hS hl)
theorem r_if_ne (F : Fx K X o cc nL rtn rm) {x : Int} {off : Int} {tgt : Nat} (d : decode cc pc = .ok (.ifCond .ne off, 3)) (ht : (pc : Int) + off = (tgt : Int)) (kt : ¬ w32 x = 0 → At K X Z cs ss n ρ nL tgt lv rest D) (kf : w32 x = 0 → At K X Z cs ss n ρ nL (pc + 3) lv rest D) : At K X Z cs ss n ρ nL pc lv (vI x :: rest) D := by
  intro H locs ls hz hP hS hl
  exact lv_if_ne F.1 F.2.1 d ht (fun q => kt (fun z => q (Int32.toInt_inj.mp z)) H locs ls hz hP hS hl) (fun q => kf (congrArg Int32.toInt q) H locs ls hz hP hS hl)
theorem r_goto (F : Fx K X o cc nL rtn rm) {off : Int} {tgt : Nat} (ht : (pc : Int) + off = (tgt : Int)) (d : decode cc pc = .ok (.goto off, 3)) (k : At K X Z cs ss n ρ nL tgt lv rest D) : At K X Z cs ss n ρ nL pc lv rest D := by
  intro H locs ls hz hP hS hl
  exact lv_goto F.1 F.2.1 d ht (k H locs ls hz hP hS hl)
end RULES