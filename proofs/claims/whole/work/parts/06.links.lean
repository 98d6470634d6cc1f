/-! LINKS: places in the pools, methods, cells (printed by wip/whole/gen/gen_parts.py) -/
theorem at_join {α β : Type} {x : Option α} {f : α → Option β} {P : β → Prop} {A0 : Prop} {B : α → Prop} (h : wpo (Option.bind x f) P) (kont : ∀ a, wpo (f a) P → B a) (k : wpo x B → A0) : A0 := k (wpo_mono (wpo_bind h) kont)
theorem wpo_inl {σ β : Type} {s : σ} {A : σ → Prop} {B : β → Prop} (h : wpo (some (Sum.inl s : σ ⊕ β)) (fun r => Sum.casesOn r A B)) : A s := wpo_some (a := Sum.inl s) h
theorem wpo_inr {σ β : Type} {b : β} {A : σ → Prop} {B : β → Prop} (h : wpo (some (Sum.inr b : σ ⊕ β)) (fun r => Sum.casesOn r A B)) : B b := wpo_some (a := Sum.inr b) h
theorem at_loopj {σ β γ : Type} {f : σ → Option (σ ⊕ β)} {g : β → Option γ} {P : γ → Prop} {n : Nat} {s0 : σ} {A : σ → Prop} {B : β → Prop} (h : wpo (Option.bind (loop f n s0) g) P) (kont : ∀ b, wpo (g b) P → B b) (body : ∀ s, wpo (f s) (fun r => Sum.casesOn r A B) → A s) : A s0 :=
  at_loop (P := B) (fun s Y hw hY => body s (wpo_mono hw (fun r hr => by cases r with
    | inl s' => exact hY s' hr
    | inr b => exact hr))) n s0 (wpo_mono (wpo_bind h) kont)
theorem elim_l {σ τ α : Type} {F : σ → Option α} {G : τ → Option α} {e : σ} {P : α → Prop} (h : wpo (Sum.elim F G (Sum.inl e)) P) : wpo (F e) P := h
theorem elim_r {σ τ α : Type} {F : σ → Option α} {G : τ → Option α} {e : τ} {P : α → Prop} (h : wpo (Sum.elim F G (Sum.inr e)) P) : wpo (G e) P := h
theorem el_l {σ τ : Type} {F : σ → Prop} {G : τ → Prop} {e : σ} (h : Sum.elim F G (Sum.inl e)) : F e := h
theorem el_r {σ τ : Type} {F : σ → Prop} {G : τ → Prop} {e : τ} (h : Sum.elim F G (Sum.inr e)) : G e := h
theorem el_li {σ τ : Type} {F : σ → Prop} {G : τ → Prop} {e : σ} (h : F e) : Sum.elim F G (Sum.inl e) := h
theorem el_ri {σ τ : Type} {F : σ → Prop} {G : τ → Prop} {e : τ} (h : G e) : Sum.elim F G (Sum.inr e) := h
theorem at_bool {α : Type} {t : Bool} {x y : Option α} {P : α → Prop} {A1 A2 : Prop} (h : wpo (if t = true then x else y) P) (k1 : t = true → wpo x P → A1) (k2 : t = false → wpo y P → A2) : (t = true → A1) ∧ (t = false → A2) :=
  ⟨fun ht => k1 ht (wpo_pos h ht), fun ht => k2 ht (wpo_neg h (by rw [ht]; decide))⟩
section LRULES
variable {K : KT} {X : XT} {Z : State → Prop} {cs ss n nL pc o : Nat} {ρ : Rho} {lv : List (Nat × Value)} {rest : List Value} {D : Mem} {cc : ByteArray} {rtn : Option FieldType} {rm : Room}
theorem kI {x : Option Int} {P : Int → Prop} (h : wpo x P) (k : ∀ a, P a → At K X Z cs ss n ρ nL pc lv (vI a :: rest) D) : wpo x (fun a => (fun (r : Option Value) n' ρ' D' => At K X Z cs ss n' ρ' nL pc lv (r.toList ++ rest) D') (some (vI a)) n ρ D) := wpo_mono h k
theorem kL {x : Option Int} {P : Int → Prop} (h : wpo x P) (k : ∀ a, P a → At K X Z cs ss n ρ nL pc lv (vL a :: rest) D) : wpo x (fun a => (fun (r : Option Value) n' ρ' D' => At K X Z cs ss n' ρ' nL pc lv (r.toList ++ rest) D') (some (vL a)) n ρ D) := wpo_mono h k
theorem kS {x : Option Nat} {P : Nat → Prop} (h : wpo x P) (k : ∀ a, P a → At K X Z cs ss n ρ nL pc lv (vS X a :: rest) D) : wpo x (fun a => (fun (r : Option Value) n' ρ' D' => At K X Z cs ss n' ρ' nL pc lv (r.toList ++ rest) D') (some (vS X a)) n ρ D) := wpo_mono h k
theorem kV {x : Option Unit} {P : Unit → Prop} (h : wpo x P) (k : ∀ a, P a → At K X Z cs ss n ρ nL pc lv rest D) : wpo x (fun _ => (fun (r : Option Value) n' ρ' D' => At K X Z cs ss n' ρ' nL pc lv (r.toList ++ rest) D') none n ρ D) := wpo_mono h k
theorem kIm {x : Option (Int × Mem)} {P : Int × Mem → Prop} (h : wpo x P) (k : ∀ a, P a → At K X Z cs ss n ρ nL pc lv (vI a.1 :: rest) a.2) : wpo x (fun a => (fun (r : Option Value) n' ρ' D' => At K X Z cs ss n' ρ' nL pc lv (r.toList ++ rest) D') (some (vI a.1)) n ρ a.2) := wpo_mono h k
theorem kLm {x : Option (Int × Mem)} {P : Int × Mem → Prop} (h : wpo x P) (k : ∀ a, P a → At K X Z cs ss n ρ nL pc lv (vL a.1 :: rest) a.2) : wpo x (fun a => (fun (r : Option Value) n' ρ' D' => At K X Z cs ss n' ρ' nL pc lv (r.toList ++ rest) D') (some (vL a.1)) n ρ a.2) := wpo_mono h k
theorem kVm {x : Option Mem} {P : Mem → Prop} (h : wpo x P) (k : ∀ a, P a → At K X Z cs ss n ρ nL pc lv rest a) : wpo x (fun a => (fun (r : Option Value) n' ρ' D' => At K X Z cs ss n' ρ' nL pc lv (r.toList ++ rest) D') none n ρ a) := wpo_mono h k
theorem r_callV0 (F : Fx K X o cc nL rtn rm) {i c r : Nat} {y : MethodName} {cy : ByteArray} {mL np : Nat} {ry : Option FieldType} {fr lo : Nat} {As : List Value} {st0 : List Value} (hlk : LkM o i y) (hM : MFv c y cy mL ry np) (hr : VR n r c) (hA : As.length = np) (hR : fr + 1 ≤ rm.frames ∧ 8 + (mL + 11) + lo ≤ rm.locals) (hst : st0 = As.reverse ++ vR X r :: rest) (hW : (rest.map fun v => v.category).sum ≤ 8) (hf : cs ≤ rm.cells ∧ ss ≤ rm.slots)
    (d : decode cc pc = .ok (.invokevirtual i, 3)) (k : MOK K.l y cy mL ry { frames := fr, cells := 0, slots := 0, locals := lo } 0 0 X (vR X r :: As) n ρ D (fun r n' ρ' D' => At K X Z cs ss n' ρ' nL (pc + 3) lv (r.toList ++ rest) D')) : At K X Z cs ss n ρ nL pc lv st0 D :=
  r_callV (mc := 0) (ms := 0) (rmy := { frames := fr, cells := 0, slots := 0, locals := lo }) F hlk hM hr hA rfl rfl hR hst hW hf d k
theorem r_callS0 (F : Fx K X o cc nL rtn rm) {i : Nat} {y : MethodName} {cy : ByteArray} {mL np : Nat} {ry : Option FieldType} {fr lo : Nat} {As : List Value} {st0 : List Value} (hlk : LkM o i y) (hM : MFs y cy mL ry np) (hA : As.length = np) (hR : fr + 1 ≤ rm.frames ∧ 8 + (mL + 11) + lo ≤ rm.locals) (hst : st0 = As.reverse ++ rest) (hW : (rest.map fun v => v.category).sum ≤ 8) (hf : cs ≤ rm.cells ∧ ss ≤ rm.slots)
    (d : decode cc pc = .ok (.invokestatic i, 3)) (k : MOK K.l y cy mL ry { frames := fr, cells := 0, slots := 0, locals := lo } 0 0 X As n ρ D (fun r n' ρ' D' => At K X Z cs ss n' ρ' nL (pc + 3) lv (r.toList ++ rest) D')) : At K X Z cs ss n ρ nL pc lv st0 D :=
  r_callS (mc := 0) (ms := 0) (rmy := { frames := fr, cells := 0, slots := 0, locals := lo }) F hlk hM hA rfl rfl hR hst hW hf d k
theorem r_aload_nR (F : Fx K X o cc nL rtn rm) (w : Nat) {kk : Fin 4} {i : Nat} {x : Nat} (hw : lv[w]? = some (i, vR X x)) (hi : (kk : Nat) = i) {pc : Nat} (d : decode cc pc = .ok (.aload_n kk, 1)) (k : At K X Z cs ss n ρ nL (pc + 1) lv (vR X x :: rest) D) : At K X Z cs ss n ρ nL pc lv rest D := r_aload_n F w hw hi d k
theorem r_aloadR (F : Fx K X o cc nL rtn rm) (w : Nat) {i : Nat} {x : Nat} (hw : lv[w]? = some (i, vR X x)) {pc : Nat} (d : decode cc pc = .ok (.aload i, 2)) (k : At K X Z cs ss n ρ nL (pc + 2) lv (vR X x :: rest) D) : At K X Z cs ss n ρ nL pc lv rest D := r_aload F w hw d k
theorem r_aload_nS (F : Fx K X o cc nL rtn rm) (w : Nat) {kk : Fin 4} {i : Nat} {x : Nat} (hw : lv[w]? = some (i, vS X x)) (hi : (kk : Nat) = i) {pc : Nat} (d : decode cc pc = .ok (.aload_n kk, 1)) (k : At K X Z cs ss n ρ nL (pc + 1) lv (vS X x :: rest) D) : At K X Z cs ss n ρ nL pc lv rest D := r_aload_n F w hw hi d k
theorem r_astore_nR (F : Fx K X o cc nL rtn rm) {pc i : Nat} {x : Nat} {lv' : List (Nat × Value)} {kk : Fin 4} (hi : (kk : Nat) = i) (hn : i < nL) (hl' : (i, vR X x) :: lv.filter (fun q => !(q.1 == i) && !(q.1 + 1 == i && q.2.category == 2)) = lv') (d : decode cc pc = .ok (.astore_n kk, 1)) (k : At K X Z cs ss n ρ nL (pc + 1) lv' rest D) : At K X Z cs ss n ρ nL pc lv (vR X x :: rest) D := r_astore_n F hi hn hl' d k
theorem r_astoreR (F : Fx K X o cc nL rtn rm) {pc i : Nat} {x : Nat} {lv' : List (Nat × Value)} (hn : i < nL) (hl' : (i, vR X x) :: lv.filter (fun q => !(q.1 == i) && !(q.1 + 1 == i && q.2.category == 2)) = lv') (d : decode cc pc = .ok (.astore i, 2)) (k : At K X Z cs ss n ρ nL (pc + 2) lv' rest D) : At K X Z cs ss n ρ nL pc lv (vR X x :: rest) D := r_astore F hn hl' d k
theorem r_ialdC (F : Fx K X o cc nL rtn rm) {a len j : Nat} {i : Int} (ha : VA n a 1 len) (hi : 0 ≤ i ∧ i < (len : Int)) (hj : i.toNat = j) (d : decode cc pc = .ok (.iaload, 1)) (k : At K X Z cs ss n ρ nL (pc + 1) lv (vI (D a j) :: rest) D) : At K X Z cs ss n ρ nL pc lv (vI i :: vR X a :: rest) D := r_iald F ha hi d (by rw [hj]; exact k)
theorem r_laldC (F : Fx K X o cc nL rtn rm) {a len j : Nat} {i : Int} (ha : VA n a 2 len) (hi : 0 ≤ i ∧ i < (len : Int)) (hj : i.toNat = j) (d : decode cc pc = .ok (.laload, 1)) (k : At K X Z cs ss n ρ nL (pc + 1) lv (vL (D a j) :: rest) D) : At K X Z cs ss n ρ nL pc lv (vI i :: vR X a :: rest) D := r_lald F ha hi d (by rw [hj]; exact k)
theorem r_iastC (F : Fx K X o cc nL rtn rm) {a len j : Nat} {i x : Int} (ha : VA n a 1 len) (hi : 0 ≤ i ∧ i < (len : Int)) (hj : i.toNat = j) (d : decode cc pc = .ok (.iastore, 1)) (k : At K X Z cs ss n ρ nL (pc + 1) lv rest (mset D a j x)) : At K X Z cs ss n ρ nL pc lv (vI x :: vI i :: vR X a :: rest) D := r_iast F ha hi d (by rw [hj]; exact k)
theorem r_lastC (F : Fx K X o cc nL rtn rm) {a len j : Nat} {i x : Int} (ha : VA n a 2 len) (hi : 0 ≤ i ∧ i < (len : Int)) (hj : i.toNat = j) (d : decode cc pc = .ok (.lastore, 1)) (k : At K X Z cs ss n ρ nL (pc + 1) lv rest (mset D a j x)) : At K X Z cs ss n ρ nL pc lv (vL x :: vI i :: vR X a :: rest) D := r_last F ha hi d (by rw [hj]; exact k)
end LRULES
theorem sh_in {k t len : Nat} (h : sh k = (t, len)) (ht : t < 9) : k < 147 := by
  rcases Nat.lt_or_ge k 147 with h1 | h1
  · exact h1
  · exfalso
    have e : sh k = (9, 0) := by
      unfold sh
      rw [List.getD_eq_getElem?_getD, List.getElem?_eq_none (by rw [SHs_length]; omega)]
      rfl
    rw [h] at e
    cases e
    omega
theorem zs_all : ∀ k, k < 4 → rt 22 k = (109 + 2 * k) + 1 ∧ sh (109 + 2 * k) = (0, 5) ∧ 109 + 2 * k < 117 := by decide +kernel
theorem zi_all : ∀ k, k < 3 → rt 20 k = (85 + 8 * k) + 1 ∧ sh (85 + 8 * k) = (0, 2) ∧ 85 + 8 * k < 117 := by decide +kernel
theorem zs {i : Int} (h : 0 ≤ i ∧ i < 4) : rt 22 i.toNat = (109 + 2 * i.toNat) + 1 := (zs_all _ (by omega)).1
theorem zi {i : Int} (h : 0 ≤ i ∧ i < 3) : rt 20 i.toNat = (85 + 8 * i.toNat) + 1 := (zi_all _ (by omega)).1
theorem vs {n : Nat} (hn : 117 ≤ n) {i : Int} (h : 0 ≤ i ∧ i < 4) : VR n (109 + 2 * i.toNat) 5 := ⟨(zs_all _ (by omega)).2.1, Nat.lt_of_lt_of_le (zs_all _ (by omega)).2.2 hn⟩
theorem vi {n : Nat} (hn : 117 ≤ n) {i : Int} (h : 0 ≤ i ∧ i < 3) : VR n (85 + 8 * i.toNat) 2 := ⟨(zi_all _ (by omega)).2.1, Nat.lt_of_lt_of_le (zi_all _ (by omega)).2.2 hn⟩
/-- the k-th sign of a text -/
def chS (w k : Nat) : Int := (((chrS.getD w []).getD k 0 : Nat) : Int)

theorem vc0 {n : Nat} (hn : 117 ≤ n) : VR n 0 9 := ⟨rfl, Nat.lt_of_lt_of_le (by decide) hn⟩
theorem z0_0 : rt 0 0 = 1 + 1 := by decide +kernel
theorem z0_1 : rt 0 1 = 3 + 1 := by decide +kernel
theorem z0_2 : rt 0 2 = 12 + 1 := by decide +kernel
theorem z0_3 : rt 0 3 = 20 + 1 := by decide +kernel
theorem z0_4 : rt 0 4 = 21 + 1 := by decide +kernel
theorem z0_5 : rt 0 5 = 22 + 1 := by decide +kernel
theorem z0_6 : rt 0 6 = 23 + 1 := by decide +kernel
theorem z0_7 : rt 0 7 = 36 + 1 := by decide +kernel
theorem z0_8 : rt 0 8 = 49 + 1 := by decide +kernel
theorem z0_9 : rt 0 9 = 58 + 1 := by decide +kernel
theorem z0_10 : rt 0 10 = 64 + 1 := by decide +kernel
theorem z0_11 : rt 0 11 = 67 + 1 := by decide +kernel
theorem z0_12 : rt 0 12 = 83 + 1 := by decide +kernel
theorem z0_13 : rt 0 13 = 84 + 1 := by decide +kernel
theorem vc1 {n : Nat} (hn : 117 ≤ n) : VR n 1 7 := ⟨rfl, Nat.lt_of_lt_of_le (by decide) hn⟩
theorem z1_0 : rt 1 0 = 2 + 1 := by decide +kernel
theorem vc2 {n : Nat} (hn : 117 ≤ n) : VA n 2 3 700 := ⟨rfl, Nat.lt_of_lt_of_le (by decide) hn⟩
theorem vc3 {n : Nat} (hn : 117 ≤ n) : VR n 3 4 := ⟨rfl, Nat.lt_of_lt_of_le (by decide) hn⟩
theorem z3_0 : rt 3 0 = 1 + 1 := by decide +kernel
theorem z3_1 : rt 3 1 = 4 + 1 := by decide +kernel
theorem vc4 {n : Nat} (hn : 117 ≤ n) : VR n 4 2 := ⟨rfl, Nat.lt_of_lt_of_le (by decide) hn⟩
theorem z4_10 : rt 4 10 = 5 + 1 := by decide +kernel
theorem z4_11 : rt 4 11 = 6 + 1 := by decide +kernel
theorem z4_12 : rt 4 12 = 7 + 1 := by decide +kernel
theorem z4_13 : rt 4 13 = 8 + 1 := by decide +kernel
theorem z4_14 : rt 4 14 = 9 + 1 := by decide +kernel
theorem z4_15 : rt 4 15 = 10 + 1 := by decide +kernel
theorem z4_16 : rt 4 16 = 11 + 1 := by decide +kernel
theorem vc5 {n : Nat} (hn : 117 ≤ n) : VA n 5 1 8 := ⟨rfl, Nat.lt_of_lt_of_le (by decide) hn⟩
theorem vc6 {n : Nat} (hn : 117 ≤ n) : VA n 6 1 8 := ⟨rfl, Nat.lt_of_lt_of_le (by decide) hn⟩
theorem vc7 {n : Nat} (hn : 117 ≤ n) : VA n 7 1 8 := ⟨rfl, Nat.lt_of_lt_of_le (by decide) hn⟩
theorem vc8 {n : Nat} (hn : 117 ≤ n) : VA n 8 1 8 := ⟨rfl, Nat.lt_of_lt_of_le (by decide) hn⟩
theorem vc9 {n : Nat} (hn : 117 ≤ n) : VA n 9 1 30 := ⟨rfl, Nat.lt_of_lt_of_le (by decide) hn⟩
theorem vc10 {n : Nat} (hn : 117 ≤ n) : VA n 10 1 30 := ⟨rfl, Nat.lt_of_lt_of_le (by decide) hn⟩
theorem vc11 {n : Nat} (hn : 117 ≤ n) : VA n 11 1 30 := ⟨rfl, Nat.lt_of_lt_of_le (by decide) hn⟩
theorem vc12 {n : Nat} (hn : 117 ≤ n) : VR n 12 2 := ⟨rfl, Nat.lt_of_lt_of_le (by decide) hn⟩
theorem z12_10 : rt 12 10 = 13 + 1 := by decide +kernel
theorem z12_11 : rt 12 11 = 14 + 1 := by decide +kernel
theorem z12_12 : rt 12 12 = 15 + 1 := by decide +kernel
theorem z12_13 : rt 12 13 = 16 + 1 := by decide +kernel
theorem z12_14 : rt 12 14 = 17 + 1 := by decide +kernel
theorem z12_15 : rt 12 15 = 18 + 1 := by decide +kernel
theorem z12_16 : rt 12 16 = 19 + 1 := by decide +kernel
theorem vc13 {n : Nat} (hn : 117 ≤ n) : VA n 13 1 8 := ⟨rfl, Nat.lt_of_lt_of_le (by decide) hn⟩
theorem vc14 {n : Nat} (hn : 117 ≤ n) : VA n 14 1 8 := ⟨rfl, Nat.lt_of_lt_of_le (by decide) hn⟩
theorem vc15 {n : Nat} (hn : 117 ≤ n) : VA n 15 1 8 := ⟨rfl, Nat.lt_of_lt_of_le (by decide) hn⟩
theorem vc16 {n : Nat} (hn : 117 ≤ n) : VA n 16 1 8 := ⟨rfl, Nat.lt_of_lt_of_le (by decide) hn⟩
theorem vc17 {n : Nat} (hn : 117 ≤ n) : VA n 17 1 30 := ⟨rfl, Nat.lt_of_lt_of_le (by decide) hn⟩
theorem vc18 {n : Nat} (hn : 117 ≤ n) : VA n 18 1 30 := ⟨rfl, Nat.lt_of_lt_of_le (by decide) hn⟩
theorem vc19 {n : Nat} (hn : 117 ≤ n) : VA n 19 1 30 := ⟨rfl, Nat.lt_of_lt_of_le (by decide) hn⟩
theorem vc20 {n : Nat} (hn : 117 ≤ n) : VA n 20 5 3 := ⟨rfl, Nat.lt_of_lt_of_le (by decide) hn⟩
theorem vc21 {n : Nat} (hn : 117 ≤ n) : VA n 21 4 3 := ⟨rfl, Nat.lt_of_lt_of_le (by decide) hn⟩
theorem vc22 {n : Nat} (hn : 117 ≤ n) : VA n 22 6 4 := ⟨rfl, Nat.lt_of_lt_of_le (by decide) hn⟩
theorem vc23 {n : Nat} (hn : 117 ≤ n) : VR n 23 8 := ⟨rfl, Nat.lt_of_lt_of_le (by decide) hn⟩
theorem z23_0 : rt 23 0 = 12 + 1 := by decide +kernel
theorem z23_5 : rt 23 5 = 24 + 1 := by decide +kernel
theorem z23_6 : rt 23 6 = 25 + 1 := by decide +kernel
theorem z23_7 : rt 23 7 = 26 + 1 := by decide +kernel
theorem z23_8 : rt 23 8 = 27 + 1 := by decide +kernel
theorem z23_9 : rt 23 9 = 28 + 1 := by decide +kernel
theorem z23_10 : rt 23 10 = 29 + 1 := by decide +kernel
theorem z23_11 : rt 23 11 = 30 + 1 := by decide +kernel
theorem z23_12 : rt 23 12 = 31 + 1 := by decide +kernel
theorem z23_13 : rt 23 13 = 32 + 1 := by decide +kernel
theorem z23_14 : rt 23 14 = 33 + 1 := by decide +kernel
theorem z23_15 : rt 23 15 = 34 + 1 := by decide +kernel
theorem z23_16 : rt 23 16 = 35 + 1 := by decide +kernel
theorem vc24 {n : Nat} (hn : 117 ≤ n) : VA n 24 1 8 := ⟨rfl, Nat.lt_of_lt_of_le (by decide) hn⟩
theorem vc25 {n : Nat} (hn : 117 ≤ n) : VA n 25 1 8 := ⟨rfl, Nat.lt_of_lt_of_le (by decide) hn⟩
theorem vc26 {n : Nat} (hn : 117 ≤ n) : VA n 26 1 8 := ⟨rfl, Nat.lt_of_lt_of_le (by decide) hn⟩
theorem vc27 {n : Nat} (hn : 117 ≤ n) : VA n 27 1 8 := ⟨rfl, Nat.lt_of_lt_of_le (by decide) hn⟩
theorem vc28 {n : Nat} (hn : 117 ≤ n) : VA n 28 1 8 := ⟨rfl, Nat.lt_of_lt_of_le (by decide) hn⟩
theorem vc29 {n : Nat} (hn : 117 ≤ n) : VA n 29 1 8 := ⟨rfl, Nat.lt_of_lt_of_le (by decide) hn⟩
theorem vc30 {n : Nat} (hn : 117 ≤ n) : VA n 30 1 12 := ⟨rfl, Nat.lt_of_lt_of_le (by decide) hn⟩
theorem vc31 {n : Nat} (hn : 117 ≤ n) : VA n 31 1 12 := ⟨rfl, Nat.lt_of_lt_of_le (by decide) hn⟩
theorem vc32 {n : Nat} (hn : 117 ≤ n) : VA n 32 1 12 := ⟨rfl, Nat.lt_of_lt_of_le (by decide) hn⟩
theorem vc33 {n : Nat} (hn : 117 ≤ n) : VA n 33 1 12 := ⟨rfl, Nat.lt_of_lt_of_le (by decide) hn⟩
theorem vc34 {n : Nat} (hn : 117 ≤ n) : VA n 34 1 12 := ⟨rfl, Nat.lt_of_lt_of_le (by decide) hn⟩
theorem vc35 {n : Nat} (hn : 117 ≤ n) : VA n 35 1 12 := ⟨rfl, Nat.lt_of_lt_of_le (by decide) hn⟩
theorem vc36 {n : Nat} (hn : 117 ≤ n) : VR n 36 8 := ⟨rfl, Nat.lt_of_lt_of_le (by decide) hn⟩
theorem z36_0 : rt 36 0 = 12 + 1 := by decide +kernel
theorem z36_5 : rt 36 5 = 37 + 1 := by decide +kernel
theorem z36_6 : rt 36 6 = 38 + 1 := by decide +kernel
theorem z36_7 : rt 36 7 = 39 + 1 := by decide +kernel
theorem z36_8 : rt 36 8 = 40 + 1 := by decide +kernel
theorem z36_9 : rt 36 9 = 41 + 1 := by decide +kernel
theorem z36_10 : rt 36 10 = 42 + 1 := by decide +kernel
theorem z36_11 : rt 36 11 = 43 + 1 := by decide +kernel
theorem z36_12 : rt 36 12 = 44 + 1 := by decide +kernel
theorem z36_13 : rt 36 13 = 45 + 1 := by decide +kernel
theorem z36_14 : rt 36 14 = 46 + 1 := by decide +kernel
theorem z36_15 : rt 36 15 = 47 + 1 := by decide +kernel
theorem z36_16 : rt 36 16 = 48 + 1 := by decide +kernel
theorem vc37 {n : Nat} (hn : 117 ≤ n) : VA n 37 1 8 := ⟨rfl, Nat.lt_of_lt_of_le (by decide) hn⟩
theorem vc38 {n : Nat} (hn : 117 ≤ n) : VA n 38 1 8 := ⟨rfl, Nat.lt_of_lt_of_le (by decide) hn⟩
theorem vc39 {n : Nat} (hn : 117 ≤ n) : VA n 39 1 8 := ⟨rfl, Nat.lt_of_lt_of_le (by decide) hn⟩
theorem vc40 {n : Nat} (hn : 117 ≤ n) : VA n 40 1 8 := ⟨rfl, Nat.lt_of_lt_of_le (by decide) hn⟩
theorem vc41 {n : Nat} (hn : 117 ≤ n) : VA n 41 1 8 := ⟨rfl, Nat.lt_of_lt_of_le (by decide) hn⟩
theorem vc42 {n : Nat} (hn : 117 ≤ n) : VA n 42 1 8 := ⟨rfl, Nat.lt_of_lt_of_le (by decide) hn⟩
theorem vc43 {n : Nat} (hn : 117 ≤ n) : VA n 43 1 12 := ⟨rfl, Nat.lt_of_lt_of_le (by decide) hn⟩
theorem vc44 {n : Nat} (hn : 117 ≤ n) : VA n 44 1 12 := ⟨rfl, Nat.lt_of_lt_of_le (by decide) hn⟩
theorem vc45 {n : Nat} (hn : 117 ≤ n) : VA n 45 1 12 := ⟨rfl, Nat.lt_of_lt_of_le (by decide) hn⟩
theorem vc46 {n : Nat} (hn : 117 ≤ n) : VA n 46 1 12 := ⟨rfl, Nat.lt_of_lt_of_le (by decide) hn⟩
theorem vc47 {n : Nat} (hn : 117 ≤ n) : VA n 47 1 12 := ⟨rfl, Nat.lt_of_lt_of_le (by decide) hn⟩
theorem vc48 {n : Nat} (hn : 117 ≤ n) : VA n 48 1 12 := ⟨rfl, Nat.lt_of_lt_of_le (by decide) hn⟩
theorem vc49 {n : Nat} (hn : 117 ≤ n) : VR n 49 3 := ⟨rfl, Nat.lt_of_lt_of_le (by decide) hn⟩
theorem z49_0 : rt 49 0 = 12 + 1 := by decide +kernel
theorem z49_5 : rt 49 5 = 50 + 1 := by decide +kernel
theorem z49_6 : rt 49 6 = 51 + 1 := by decide +kernel
theorem z49_7 : rt 49 7 = 52 + 1 := by decide +kernel
theorem z49_8 : rt 49 8 = 53 + 1 := by decide +kernel
theorem z49_9 : rt 49 9 = 54 + 1 := by decide +kernel
theorem z49_10 : rt 49 10 = 55 + 1 := by decide +kernel
theorem z49_11 : rt 49 11 = 56 + 1 := by decide +kernel
theorem z49_12 : rt 49 12 = 57 + 1 := by decide +kernel
theorem vc50 {n : Nat} (hn : 117 ≤ n) : VA n 50 1 8 := ⟨rfl, Nat.lt_of_lt_of_le (by decide) hn⟩
theorem vc51 {n : Nat} (hn : 117 ≤ n) : VA n 51 1 256 := ⟨rfl, Nat.lt_of_lt_of_le (by decide) hn⟩
theorem vc52 {n : Nat} (hn : 117 ≤ n) : VA n 52 1 256 := ⟨rfl, Nat.lt_of_lt_of_le (by decide) hn⟩
theorem vc53 {n : Nat} (hn : 117 ≤ n) : VA n 53 1 256 := ⟨rfl, Nat.lt_of_lt_of_le (by decide) hn⟩
theorem vc54 {n : Nat} (hn : 117 ≤ n) : VA n 54 1 256 := ⟨rfl, Nat.lt_of_lt_of_le (by decide) hn⟩
theorem vc55 {n : Nat} (hn : 117 ≤ n) : VA n 55 2 256 := ⟨rfl, Nat.lt_of_lt_of_le (by decide) hn⟩
theorem vc56 {n : Nat} (hn : 117 ≤ n) : VA n 56 2 256 := ⟨rfl, Nat.lt_of_lt_of_le (by decide) hn⟩
theorem vc57 {n : Nat} (hn : 117 ≤ n) : VA n 57 2 256 := ⟨rfl, Nat.lt_of_lt_of_le (by decide) hn⟩
theorem vc58 {n : Nat} (hn : 117 ≤ n) : VR n 58 0 := ⟨rfl, Nat.lt_of_lt_of_le (by decide) hn⟩
theorem z58_0 : rt 58 0 = 12 + 1 := by decide +kernel
theorem z58_4 : rt 58 4 = 59 + 1 := by decide +kernel
theorem z58_5 : rt 58 5 = 60 + 1 := by decide +kernel
theorem z58_6 : rt 58 6 = 61 + 1 := by decide +kernel
theorem z58_7 : rt 58 7 = 62 + 1 := by decide +kernel
theorem z58_8 : rt 58 8 = 63 + 1 := by decide +kernel
theorem vc59 {n : Nat} (hn : 117 ≤ n) : VA n 59 1 8 := ⟨rfl, Nat.lt_of_lt_of_le (by decide) hn⟩
theorem vc60 {n : Nat} (hn : 117 ≤ n) : VA n 60 1 8 := ⟨rfl, Nat.lt_of_lt_of_le (by decide) hn⟩
theorem vc61 {n : Nat} (hn : 117 ≤ n) : VA n 61 1 8 := ⟨rfl, Nat.lt_of_lt_of_le (by decide) hn⟩
theorem vc62 {n : Nat} (hn : 117 ≤ n) : VA n 62 1 2304 := ⟨rfl, Nat.lt_of_lt_of_le (by decide) hn⟩
theorem vc63 {n : Nat} (hn : 117 ≤ n) : VA n 63 1 256 := ⟨rfl, Nat.lt_of_lt_of_le (by decide) hn⟩
theorem vc64 {n : Nat} (hn : 117 ≤ n) : VR n 64 1 := ⟨rfl, Nat.lt_of_lt_of_le (by decide) hn⟩
theorem z64_0 : rt 64 0 = 12 + 1 := by decide +kernel
theorem z64_2 : rt 64 2 = 65 + 1 := by decide +kernel
theorem z64_3 : rt 64 3 = 66 + 1 := by decide +kernel
theorem vc65 {n : Nat} (hn : 117 ≤ n) : VA n 65 1 256 := ⟨rfl, Nat.lt_of_lt_of_le (by decide) hn⟩
theorem vc66 {n : Nat} (hn : 117 ≤ n) : VA n 66 1 256 := ⟨rfl, Nat.lt_of_lt_of_le (by decide) hn⟩
theorem vc67 {n : Nat} (hn : 117 ≤ n) : VR n 67 6 := ⟨rfl, Nat.lt_of_lt_of_le (by decide) hn⟩
theorem z67_0 : rt 67 0 = 12 + 1 := by decide +kernel
theorem z67_1 : rt 67 1 = 70 + 1 := by decide +kernel
theorem z67_5 : rt 67 5 = 68 + 1 := by decide +kernel
theorem z67_6 : rt 67 6 = 69 + 1 := by decide +kernel
theorem vc68 {n : Nat} (hn : 117 ≤ n) : VA n 68 1 108 := ⟨rfl, Nat.lt_of_lt_of_le (by decide) hn⟩
theorem vc69 {n : Nat} (hn : 117 ≤ n) : VA n 69 1 21 := ⟨rfl, Nat.lt_of_lt_of_le (by decide) hn⟩
theorem vc70 {n : Nat} (hn : 117 ≤ n) : VR n 70 8 := ⟨rfl, Nat.lt_of_lt_of_le (by decide) hn⟩
theorem z70_0 : rt 70 0 = 12 + 1 := by decide +kernel
theorem z70_5 : rt 70 5 = 71 + 1 := by decide +kernel
theorem z70_6 : rt 70 6 = 72 + 1 := by decide +kernel
theorem z70_7 : rt 70 7 = 73 + 1 := by decide +kernel
theorem z70_8 : rt 70 8 = 74 + 1 := by decide +kernel
theorem z70_9 : rt 70 9 = 75 + 1 := by decide +kernel
theorem z70_10 : rt 70 10 = 76 + 1 := by decide +kernel
theorem z70_11 : rt 70 11 = 77 + 1 := by decide +kernel
theorem z70_12 : rt 70 12 = 78 + 1 := by decide +kernel
theorem z70_13 : rt 70 13 = 79 + 1 := by decide +kernel
theorem z70_14 : rt 70 14 = 80 + 1 := by decide +kernel
theorem z70_15 : rt 70 15 = 81 + 1 := by decide +kernel
theorem z70_16 : rt 70 16 = 82 + 1 := by decide +kernel
theorem vc71 {n : Nat} (hn : 117 ≤ n) : VA n 71 1 8 := ⟨rfl, Nat.lt_of_lt_of_le (by decide) hn⟩
theorem vc72 {n : Nat} (hn : 117 ≤ n) : VA n 72 1 8 := ⟨rfl, Nat.lt_of_lt_of_le (by decide) hn⟩
theorem vc73 {n : Nat} (hn : 117 ≤ n) : VA n 73 1 8 := ⟨rfl, Nat.lt_of_lt_of_le (by decide) hn⟩
theorem vc74 {n : Nat} (hn : 117 ≤ n) : VA n 74 1 8 := ⟨rfl, Nat.lt_of_lt_of_le (by decide) hn⟩
theorem vc75 {n : Nat} (hn : 117 ≤ n) : VA n 75 1 8 := ⟨rfl, Nat.lt_of_lt_of_le (by decide) hn⟩
theorem vc76 {n : Nat} (hn : 117 ≤ n) : VA n 76 1 8 := ⟨rfl, Nat.lt_of_lt_of_le (by decide) hn⟩
theorem vc77 {n : Nat} (hn : 117 ≤ n) : VA n 77 1 12 := ⟨rfl, Nat.lt_of_lt_of_le (by decide) hn⟩
theorem vc78 {n : Nat} (hn : 117 ≤ n) : VA n 78 1 12 := ⟨rfl, Nat.lt_of_lt_of_le (by decide) hn⟩
theorem vc79 {n : Nat} (hn : 117 ≤ n) : VA n 79 1 12 := ⟨rfl, Nat.lt_of_lt_of_le (by decide) hn⟩
theorem vc80 {n : Nat} (hn : 117 ≤ n) : VA n 80 1 12 := ⟨rfl, Nat.lt_of_lt_of_le (by decide) hn⟩
theorem vc81 {n : Nat} (hn : 117 ≤ n) : VA n 81 1 12 := ⟨rfl, Nat.lt_of_lt_of_le (by decide) hn⟩
theorem vc82 {n : Nat} (hn : 117 ≤ n) : VA n 82 1 12 := ⟨rfl, Nat.lt_of_lt_of_le (by decide) hn⟩
theorem vc83 {n : Nat} (hn : 117 ≤ n) : VA n 83 1 16 := ⟨rfl, Nat.lt_of_lt_of_le (by decide) hn⟩
theorem vc84 {n : Nat} (hn : 117 ≤ n) : VA n 84 1 16 := ⟨rfl, Nat.lt_of_lt_of_le (by decide) hn⟩
theorem vc85 {n : Nat} (hn : 117 ≤ n) : VR n 85 2 := ⟨rfl, Nat.lt_of_lt_of_le (by decide) hn⟩
theorem z85_10 : rt 85 10 = 86 + 1 := by decide +kernel
theorem z85_11 : rt 85 11 = 87 + 1 := by decide +kernel
theorem z85_12 : rt 85 12 = 88 + 1 := by decide +kernel
theorem z85_13 : rt 85 13 = 89 + 1 := by decide +kernel
theorem z85_14 : rt 85 14 = 90 + 1 := by decide +kernel
theorem z85_15 : rt 85 15 = 91 + 1 := by decide +kernel
theorem z85_16 : rt 85 16 = 92 + 1 := by decide +kernel
theorem vc86 {n : Nat} (hn : 117 ≤ n) : VA n 86 1 8 := ⟨rfl, Nat.lt_of_lt_of_le (by decide) hn⟩
theorem vc87 {n : Nat} (hn : 117 ≤ n) : VA n 87 1 8 := ⟨rfl, Nat.lt_of_lt_of_le (by decide) hn⟩
theorem vc88 {n : Nat} (hn : 117 ≤ n) : VA n 88 1 8 := ⟨rfl, Nat.lt_of_lt_of_le (by decide) hn⟩
theorem vc89 {n : Nat} (hn : 117 ≤ n) : VA n 89 1 8 := ⟨rfl, Nat.lt_of_lt_of_le (by decide) hn⟩
theorem vc90 {n : Nat} (hn : 117 ≤ n) : VA n 90 1 30 := ⟨rfl, Nat.lt_of_lt_of_le (by decide) hn⟩
theorem vc91 {n : Nat} (hn : 117 ≤ n) : VA n 91 1 30 := ⟨rfl, Nat.lt_of_lt_of_le (by decide) hn⟩
theorem vc92 {n : Nat} (hn : 117 ≤ n) : VA n 92 1 30 := ⟨rfl, Nat.lt_of_lt_of_le (by decide) hn⟩
theorem vc93 {n : Nat} (hn : 117 ≤ n) : VR n 93 2 := ⟨rfl, Nat.lt_of_lt_of_le (by decide) hn⟩
theorem z93_10 : rt 93 10 = 94 + 1 := by decide +kernel
theorem z93_11 : rt 93 11 = 95 + 1 := by decide +kernel
theorem z93_12 : rt 93 12 = 96 + 1 := by decide +kernel
theorem z93_13 : rt 93 13 = 97 + 1 := by decide +kernel
theorem z93_14 : rt 93 14 = 98 + 1 := by decide +kernel
theorem z93_15 : rt 93 15 = 99 + 1 := by decide +kernel
theorem z93_16 : rt 93 16 = 100 + 1 := by decide +kernel
theorem vc94 {n : Nat} (hn : 117 ≤ n) : VA n 94 1 8 := ⟨rfl, Nat.lt_of_lt_of_le (by decide) hn⟩
theorem vc95 {n : Nat} (hn : 117 ≤ n) : VA n 95 1 8 := ⟨rfl, Nat.lt_of_lt_of_le (by decide) hn⟩
theorem vc96 {n : Nat} (hn : 117 ≤ n) : VA n 96 1 8 := ⟨rfl, Nat.lt_of_lt_of_le (by decide) hn⟩
theorem vc97 {n : Nat} (hn : 117 ≤ n) : VA n 97 1 8 := ⟨rfl, Nat.lt_of_lt_of_le (by decide) hn⟩
theorem vc98 {n : Nat} (hn : 117 ≤ n) : VA n 98 1 30 := ⟨rfl, Nat.lt_of_lt_of_le (by decide) hn⟩
theorem vc99 {n : Nat} (hn : 117 ≤ n) : VA n 99 1 30 := ⟨rfl, Nat.lt_of_lt_of_le (by decide) hn⟩
theorem vc100 {n : Nat} (hn : 117 ≤ n) : VA n 100 1 30 := ⟨rfl, Nat.lt_of_lt_of_le (by decide) hn⟩
theorem vc101 {n : Nat} (hn : 117 ≤ n) : VR n 101 2 := ⟨rfl, Nat.lt_of_lt_of_le (by decide) hn⟩
theorem z101_10 : rt 101 10 = 102 + 1 := by decide +kernel
theorem z101_11 : rt 101 11 = 103 + 1 := by decide +kernel
theorem z101_12 : rt 101 12 = 104 + 1 := by decide +kernel
theorem z101_13 : rt 101 13 = 105 + 1 := by decide +kernel
theorem z101_14 : rt 101 14 = 106 + 1 := by decide +kernel
theorem z101_15 : rt 101 15 = 107 + 1 := by decide +kernel
theorem z101_16 : rt 101 16 = 108 + 1 := by decide +kernel
theorem vc102 {n : Nat} (hn : 117 ≤ n) : VA n 102 1 8 := ⟨rfl, Nat.lt_of_lt_of_le (by decide) hn⟩
theorem vc103 {n : Nat} (hn : 117 ≤ n) : VA n 103 1 8 := ⟨rfl, Nat.lt_of_lt_of_le (by decide) hn⟩
theorem vc104 {n : Nat} (hn : 117 ≤ n) : VA n 104 1 8 := ⟨rfl, Nat.lt_of_lt_of_le (by decide) hn⟩
theorem vc105 {n : Nat} (hn : 117 ≤ n) : VA n 105 1 8 := ⟨rfl, Nat.lt_of_lt_of_le (by decide) hn⟩
theorem vc106 {n : Nat} (hn : 117 ≤ n) : VA n 106 1 30 := ⟨rfl, Nat.lt_of_lt_of_le (by decide) hn⟩
theorem vc107 {n : Nat} (hn : 117 ≤ n) : VA n 107 1 30 := ⟨rfl, Nat.lt_of_lt_of_le (by decide) hn⟩
theorem vc108 {n : Nat} (hn : 117 ≤ n) : VA n 108 1 30 := ⟨rfl, Nat.lt_of_lt_of_le (by decide) hn⟩
theorem vc109 {n : Nat} (hn : 117 ≤ n) : VR n 109 5 := ⟨rfl, Nat.lt_of_lt_of_le (by decide) hn⟩
theorem z109_3 : rt 109 3 = 110 + 1 := by decide +kernel
theorem vc110 {n : Nat} (hn : 117 ≤ n) : VA n 110 2 60 := ⟨rfl, Nat.lt_of_lt_of_le (by decide) hn⟩
theorem vc111 {n : Nat} (hn : 117 ≤ n) : VR n 111 5 := ⟨rfl, Nat.lt_of_lt_of_le (by decide) hn⟩
theorem z111_3 : rt 111 3 = 112 + 1 := by decide +kernel
theorem vc112 {n : Nat} (hn : 117 ≤ n) : VA n 112 2 60 := ⟨rfl, Nat.lt_of_lt_of_le (by decide) hn⟩
theorem vc113 {n : Nat} (hn : 117 ≤ n) : VR n 113 5 := ⟨rfl, Nat.lt_of_lt_of_le (by decide) hn⟩
theorem z113_3 : rt 113 3 = 114 + 1 := by decide +kernel
theorem vc114 {n : Nat} (hn : 117 ≤ n) : VA n 114 2 60 := ⟨rfl, Nat.lt_of_lt_of_le (by decide) hn⟩
theorem vc115 {n : Nat} (hn : 117 ≤ n) : VR n 115 5 := ⟨rfl, Nat.lt_of_lt_of_le (by decide) hn⟩
theorem z115_3 : rt 115 3 = 116 + 1 := by decide +kernel
theorem vc116 {n : Nat} (hn : 117 ≤ n) : VA n 116 2 60 := ⟨rfl, Nat.lt_of_lt_of_le (by decide) hn⟩
theorem vc117 {n : Nat} (hn : 147 ≤ n) : VR n 117 10 := ⟨rfl, Nat.lt_of_lt_of_le (by decide) hn⟩
theorem z117_1 : rt 117 1 = 118 + 1 := by decide +kernel
theorem z117_2 : rt 117 2 = 119 + 1 := by decide +kernel
theorem z117_3 : rt 117 3 = 120 + 1 := by decide +kernel
theorem z117_4 : rt 117 4 = 121 + 1 := by decide +kernel
theorem z117_6 : rt 117 6 = 122 + 1 := by decide +kernel
theorem z117_14 : rt 117 14 = 123 + 1 := by decide +kernel
theorem z117_15 : rt 117 15 = 124 + 1 := by decide +kernel
theorem z117_16 : rt 117 16 = 125 + 1 := by decide +kernel
theorem z117_17 : rt 117 17 = 126 + 1 := by decide +kernel
theorem z117_18 : rt 117 18 = 127 + 1 := by decide +kernel
theorem z117_23 : rt 117 23 = 128 + 1 := by decide +kernel
theorem z117_24 : rt 117 24 = 129 + 1 := by decide +kernel
theorem z117_25 : rt 117 25 = 130 + 1 := by decide +kernel
theorem z117_26 : rt 117 26 = 131 + 1 := by decide +kernel
theorem z117_28 : rt 117 28 = 132 + 1 := by decide +kernel
theorem z117_29 : rt 117 29 = 133 + 1 := by decide +kernel
theorem z117_30 : rt 117 30 = 134 + 1 := by decide +kernel
theorem z117_31 : rt 117 31 = 135 + 1 := by decide +kernel
theorem z117_32 : rt 117 32 = 136 + 1 := by decide +kernel
theorem z117_33 : rt 117 33 = 137 + 1 := by decide +kernel
theorem z117_37 : rt 117 37 = 138 + 1 := by decide +kernel
theorem z117_38 : rt 117 38 = 139 + 1 := by decide +kernel
theorem z117_39 : rt 117 39 = 140 + 1 := by decide +kernel
theorem z117_41 : rt 117 41 = 141 + 1 := by decide +kernel
theorem z117_42 : rt 117 42 = 142 + 1 := by decide +kernel
theorem z117_43 : rt 117 43 = 143 + 1 := by decide +kernel
theorem z117_44 : rt 117 44 = 144 + 1 := by decide +kernel
theorem z117_45 : rt 117 45 = 145 + 1 := by decide +kernel
theorem z117_46 : rt 117 46 = 146 + 1 := by decide +kernel
theorem vc118 {n : Nat} (hn : 147 ≤ n) : VA n 118 1 72 := ⟨rfl, Nat.lt_of_lt_of_le (by decide) hn⟩
theorem vc119 {n : Nat} (hn : 147 ≤ n) : VA n 119 1 216 := ⟨rfl, Nat.lt_of_lt_of_le (by decide) hn⟩
theorem vc120 {n : Nat} (hn : 147 ≤ n) : VA n 120 4 3 := ⟨rfl, Nat.lt_of_lt_of_le (by decide) hn⟩
theorem vc121 {n : Nat} (hn : 147 ≤ n) : VA n 121 3 700 := ⟨rfl, Nat.lt_of_lt_of_le (by decide) hn⟩
theorem vc122 {n : Nat} (hn : 147 ≤ n) : VA n 122 1 5 := ⟨rfl, Nat.lt_of_lt_of_le (by decide) hn⟩
theorem vc123 {n : Nat} (hn : 147 ≤ n) : VA n 123 1 72 := ⟨rfl, Nat.lt_of_lt_of_le (by decide) hn⟩
theorem vc124 {n : Nat} (hn : 147 ≤ n) : VA n 124 1 8 := ⟨rfl, Nat.lt_of_lt_of_le (by decide) hn⟩
theorem vc125 {n : Nat} (hn : 147 ≤ n) : VA n 125 1 8 := ⟨rfl, Nat.lt_of_lt_of_le (by decide) hn⟩
theorem vc126 {n : Nat} (hn : 147 ≤ n) : VA n 126 1 8 := ⟨rfl, Nat.lt_of_lt_of_le (by decide) hn⟩
theorem vc127 {n : Nat} (hn : 147 ≤ n) : VA n 127 1 8 := ⟨rfl, Nat.lt_of_lt_of_le (by decide) hn⟩
theorem vc128 {n : Nat} (hn : 147 ≤ n) : VA n 128 1 8 := ⟨rfl, Nat.lt_of_lt_of_le (by decide) hn⟩
theorem vc129 {n : Nat} (hn : 147 ≤ n) : VA n 129 1 12 := ⟨rfl, Nat.lt_of_lt_of_le (by decide) hn⟩
theorem vc130 {n : Nat} (hn : 147 ≤ n) : VA n 130 1 12 := ⟨rfl, Nat.lt_of_lt_of_le (by decide) hn⟩
theorem vc131 {n : Nat} (hn : 147 ≤ n) : VA n 131 1 12 := ⟨rfl, Nat.lt_of_lt_of_le (by decide) hn⟩
theorem vc132 {n : Nat} (hn : 147 ≤ n) : VA n 132 1 8 := ⟨rfl, Nat.lt_of_lt_of_le (by decide) hn⟩
theorem vc133 {n : Nat} (hn : 147 ≤ n) : VA n 133 1 256 := ⟨rfl, Nat.lt_of_lt_of_le (by decide) hn⟩
theorem vc134 {n : Nat} (hn : 147 ≤ n) : VA n 134 1 256 := ⟨rfl, Nat.lt_of_lt_of_le (by decide) hn⟩
theorem vc135 {n : Nat} (hn : 147 ≤ n) : VA n 135 1 3328 := ⟨rfl, Nat.lt_of_lt_of_le (by decide) hn⟩
theorem vc136 {n : Nat} (hn : 147 ≤ n) : VA n 136 2 3328 := ⟨rfl, Nat.lt_of_lt_of_le (by decide) hn⟩
theorem vc137 {n : Nat} (hn : 147 ≤ n) : VA n 137 1 8 := ⟨rfl, Nat.lt_of_lt_of_le (by decide) hn⟩
theorem vc138 {n : Nat} (hn : 147 ≤ n) : VA n 138 1 2304 := ⟨rfl, Nat.lt_of_lt_of_le (by decide) hn⟩
theorem vc139 {n : Nat} (hn : 147 ≤ n) : VA n 139 1 8 := ⟨rfl, Nat.lt_of_lt_of_le (by decide) hn⟩
theorem vc140 {n : Nat} (hn : 147 ≤ n) : VA n 140 1 108 := ⟨rfl, Nat.lt_of_lt_of_le (by decide) hn⟩
theorem vc141 {n : Nat} (hn : 147 ≤ n) : VA n 141 1 256 := ⟨rfl, Nat.lt_of_lt_of_le (by decide) hn⟩
theorem vc142 {n : Nat} (hn : 147 ≤ n) : VA n 142 1 32 := ⟨rfl, Nat.lt_of_lt_of_le (by decide) hn⟩
theorem vc143 {n : Nat} (hn : 147 ≤ n) : VA n 143 1 4 := ⟨rfl, Nat.lt_of_lt_of_le (by decide) hn⟩
theorem vc144 {n : Nat} (hn : 147 ≤ n) : VA n 144 1 4 := ⟨rfl, Nat.lt_of_lt_of_le (by decide) hn⟩
theorem vc145 {n : Nat} (hn : 147 ≤ n) : VA n 145 2 240 := ⟨rfl, Nat.lt_of_lt_of_le (by decide) hn⟩
theorem vc146 {n : Nat} (hn : 147 ≤ n) : VA n 146 2 60 := ⟨rfl, Nat.lt_of_lt_of_le (by decide) hn⟩
theorem y2_10a : ∀ k, k < 147 → sh k = (0, 2) → rt k 10 = (k + 1) + 1 ∧ sh (k + 1) = (1, 8) ∧ k + 1 < 117 := by decide +kernel
theorem z2_10 {n r : Nat} (hr : VR n r 2) : rt r 10 = (r + 1) + 1 := (y2_10a r (sh_in hr.1 (by decide)) hr.1).1
theorem y2_10 {n r : Nat} (hn : 117 ≤ n) (hr : VR n r 2) : VA n (r + 1) 1 8 := ⟨(y2_10a r (sh_in hr.1 (by decide)) hr.1).2.1, Nat.lt_of_lt_of_le (y2_10a r (sh_in hr.1 (by decide)) hr.1).2.2 hn⟩
theorem y2_11a : ∀ k, k < 147 → sh k = (0, 2) → rt k 11 = (k + 2) + 1 ∧ sh (k + 2) = (1, 8) ∧ k + 2 < 117 := by decide +kernel
theorem z2_11 {n r : Nat} (hr : VR n r 2) : rt r 11 = (r + 2) + 1 := (y2_11a r (sh_in hr.1 (by decide)) hr.1).1
theorem y2_11 {n r : Nat} (hn : 117 ≤ n) (hr : VR n r 2) : VA n (r + 2) 1 8 := ⟨(y2_11a r (sh_in hr.1 (by decide)) hr.1).2.1, Nat.lt_of_lt_of_le (y2_11a r (sh_in hr.1 (by decide)) hr.1).2.2 hn⟩
theorem y2_12a : ∀ k, k < 147 → sh k = (0, 2) → rt k 12 = (k + 3) + 1 ∧ sh (k + 3) = (1, 8) ∧ k + 3 < 117 := by decide +kernel
theorem z2_12 {n r : Nat} (hr : VR n r 2) : rt r 12 = (r + 3) + 1 := (y2_12a r (sh_in hr.1 (by decide)) hr.1).1
theorem y2_12 {n r : Nat} (hn : 117 ≤ n) (hr : VR n r 2) : VA n (r + 3) 1 8 := ⟨(y2_12a r (sh_in hr.1 (by decide)) hr.1).2.1, Nat.lt_of_lt_of_le (y2_12a r (sh_in hr.1 (by decide)) hr.1).2.2 hn⟩
theorem y2_13a : ∀ k, k < 147 → sh k = (0, 2) → rt k 13 = (k + 4) + 1 ∧ sh (k + 4) = (1, 8) ∧ k + 4 < 117 := by decide +kernel
theorem z2_13 {n r : Nat} (hr : VR n r 2) : rt r 13 = (r + 4) + 1 := (y2_13a r (sh_in hr.1 (by decide)) hr.1).1
theorem y2_13 {n r : Nat} (hn : 117 ≤ n) (hr : VR n r 2) : VA n (r + 4) 1 8 := ⟨(y2_13a r (sh_in hr.1 (by decide)) hr.1).2.1, Nat.lt_of_lt_of_le (y2_13a r (sh_in hr.1 (by decide)) hr.1).2.2 hn⟩
theorem y2_14a : ∀ k, k < 147 → sh k = (0, 2) → rt k 14 = (k + 5) + 1 ∧ sh (k + 5) = (1, 30) ∧ k + 5 < 117 := by decide +kernel
theorem z2_14 {n r : Nat} (hr : VR n r 2) : rt r 14 = (r + 5) + 1 := (y2_14a r (sh_in hr.1 (by decide)) hr.1).1
theorem y2_14 {n r : Nat} (hn : 117 ≤ n) (hr : VR n r 2) : VA n (r + 5) 1 30 := ⟨(y2_14a r (sh_in hr.1 (by decide)) hr.1).2.1, Nat.lt_of_lt_of_le (y2_14a r (sh_in hr.1 (by decide)) hr.1).2.2 hn⟩
theorem y2_15a : ∀ k, k < 147 → sh k = (0, 2) → rt k 15 = (k + 6) + 1 ∧ sh (k + 6) = (1, 30) ∧ k + 6 < 117 := by decide +kernel
theorem z2_15 {n r : Nat} (hr : VR n r 2) : rt r 15 = (r + 6) + 1 := (y2_15a r (sh_in hr.1 (by decide)) hr.1).1
theorem y2_15 {n r : Nat} (hn : 117 ≤ n) (hr : VR n r 2) : VA n (r + 6) 1 30 := ⟨(y2_15a r (sh_in hr.1 (by decide)) hr.1).2.1, Nat.lt_of_lt_of_le (y2_15a r (sh_in hr.1 (by decide)) hr.1).2.2 hn⟩
theorem y2_16a : ∀ k, k < 147 → sh k = (0, 2) → rt k 16 = (k + 7) + 1 ∧ sh (k + 7) = (1, 30) ∧ k + 7 < 117 := by decide +kernel
theorem z2_16 {n r : Nat} (hr : VR n r 2) : rt r 16 = (r + 7) + 1 := (y2_16a r (sh_in hr.1 (by decide)) hr.1).1
theorem y2_16 {n r : Nat} (hn : 117 ≤ n) (hr : VR n r 2) : VA n (r + 7) 1 30 := ⟨(y2_16a r (sh_in hr.1 (by decide)) hr.1).2.1, Nat.lt_of_lt_of_le (y2_16a r (sh_in hr.1 (by decide)) hr.1).2.2 hn⟩
theorem z8_0a : ∀ k, k < 147 → sh k = (0, 8) → rt k 0 = 12 + 1 := by decide +kernel
theorem z8_0 {n r : Nat} (hr : VR n r 8) : rt r 0 = 12 + 1 := z8_0a r (sh_in hr.1 (by decide)) hr.1
theorem y8_5a : ∀ k, k < 147 → sh k = (0, 8) → rt k 5 = (k + 1) + 1 ∧ sh (k + 1) = (1, 8) ∧ k + 1 < 117 := by decide +kernel
theorem z8_5 {n r : Nat} (hr : VR n r 8) : rt r 5 = (r + 1) + 1 := (y8_5a r (sh_in hr.1 (by decide)) hr.1).1
theorem y8_5 {n r : Nat} (hn : 117 ≤ n) (hr : VR n r 8) : VA n (r + 1) 1 8 := ⟨(y8_5a r (sh_in hr.1 (by decide)) hr.1).2.1, Nat.lt_of_lt_of_le (y8_5a r (sh_in hr.1 (by decide)) hr.1).2.2 hn⟩
theorem y8_6a : ∀ k, k < 147 → sh k = (0, 8) → rt k 6 = (k + 2) + 1 ∧ sh (k + 2) = (1, 8) ∧ k + 2 < 117 := by decide +kernel
theorem z8_6 {n r : Nat} (hr : VR n r 8) : rt r 6 = (r + 2) + 1 := (y8_6a r (sh_in hr.1 (by decide)) hr.1).1
theorem y8_6 {n r : Nat} (hn : 117 ≤ n) (hr : VR n r 8) : VA n (r + 2) 1 8 := ⟨(y8_6a r (sh_in hr.1 (by decide)) hr.1).2.1, Nat.lt_of_lt_of_le (y8_6a r (sh_in hr.1 (by decide)) hr.1).2.2 hn⟩
theorem y8_7a : ∀ k, k < 147 → sh k = (0, 8) → rt k 7 = (k + 3) + 1 ∧ sh (k + 3) = (1, 8) ∧ k + 3 < 117 := by decide +kernel
theorem z8_7 {n r : Nat} (hr : VR n r 8) : rt r 7 = (r + 3) + 1 := (y8_7a r (sh_in hr.1 (by decide)) hr.1).1
theorem y8_7 {n r : Nat} (hn : 117 ≤ n) (hr : VR n r 8) : VA n (r + 3) 1 8 := ⟨(y8_7a r (sh_in hr.1 (by decide)) hr.1).2.1, Nat.lt_of_lt_of_le (y8_7a r (sh_in hr.1 (by decide)) hr.1).2.2 hn⟩
theorem y8_8a : ∀ k, k < 147 → sh k = (0, 8) → rt k 8 = (k + 4) + 1 ∧ sh (k + 4) = (1, 8) ∧ k + 4 < 117 := by decide +kernel
theorem z8_8 {n r : Nat} (hr : VR n r 8) : rt r 8 = (r + 4) + 1 := (y8_8a r (sh_in hr.1 (by decide)) hr.1).1
theorem y8_8 {n r : Nat} (hn : 117 ≤ n) (hr : VR n r 8) : VA n (r + 4) 1 8 := ⟨(y8_8a r (sh_in hr.1 (by decide)) hr.1).2.1, Nat.lt_of_lt_of_le (y8_8a r (sh_in hr.1 (by decide)) hr.1).2.2 hn⟩
theorem y8_9a : ∀ k, k < 147 → sh k = (0, 8) → rt k 9 = (k + 5) + 1 ∧ sh (k + 5) = (1, 8) ∧ k + 5 < 117 := by decide +kernel
theorem z8_9 {n r : Nat} (hr : VR n r 8) : rt r 9 = (r + 5) + 1 := (y8_9a r (sh_in hr.1 (by decide)) hr.1).1
theorem y8_9 {n r : Nat} (hn : 117 ≤ n) (hr : VR n r 8) : VA n (r + 5) 1 8 := ⟨(y8_9a r (sh_in hr.1 (by decide)) hr.1).2.1, Nat.lt_of_lt_of_le (y8_9a r (sh_in hr.1 (by decide)) hr.1).2.2 hn⟩
theorem y8_10a : ∀ k, k < 147 → sh k = (0, 8) → rt k 10 = (k + 6) + 1 ∧ sh (k + 6) = (1, 8) ∧ k + 6 < 117 := by decide +kernel
theorem z8_10 {n r : Nat} (hr : VR n r 8) : rt r 10 = (r + 6) + 1 := (y8_10a r (sh_in hr.1 (by decide)) hr.1).1
theorem y8_10 {n r : Nat} (hn : 117 ≤ n) (hr : VR n r 8) : VA n (r + 6) 1 8 := ⟨(y8_10a r (sh_in hr.1 (by decide)) hr.1).2.1, Nat.lt_of_lt_of_le (y8_10a r (sh_in hr.1 (by decide)) hr.1).2.2 hn⟩
theorem y8_11a : ∀ k, k < 147 → sh k = (0, 8) → rt k 11 = (k + 7) + 1 ∧ sh (k + 7) = (1, 12) ∧ k + 7 < 117 := by decide +kernel
theorem z8_11 {n r : Nat} (hr : VR n r 8) : rt r 11 = (r + 7) + 1 := (y8_11a r (sh_in hr.1 (by decide)) hr.1).1
theorem y8_11 {n r : Nat} (hn : 117 ≤ n) (hr : VR n r 8) : VA n (r + 7) 1 12 := ⟨(y8_11a r (sh_in hr.1 (by decide)) hr.1).2.1, Nat.lt_of_lt_of_le (y8_11a r (sh_in hr.1 (by decide)) hr.1).2.2 hn⟩
theorem y8_12a : ∀ k, k < 147 → sh k = (0, 8) → rt k 12 = (k + 8) + 1 ∧ sh (k + 8) = (1, 12) ∧ k + 8 < 117 := by decide +kernel
theorem z8_12 {n r : Nat} (hr : VR n r 8) : rt r 12 = (r + 8) + 1 := (y8_12a r (sh_in hr.1 (by decide)) hr.1).1
theorem y8_12 {n r : Nat} (hn : 117 ≤ n) (hr : VR n r 8) : VA n (r + 8) 1 12 := ⟨(y8_12a r (sh_in hr.1 (by decide)) hr.1).2.1, Nat.lt_of_lt_of_le (y8_12a r (sh_in hr.1 (by decide)) hr.1).2.2 hn⟩
theorem y8_13a : ∀ k, k < 147 → sh k = (0, 8) → rt k 13 = (k + 9) + 1 ∧ sh (k + 9) = (1, 12) ∧ k + 9 < 117 := by decide +kernel
theorem z8_13 {n r : Nat} (hr : VR n r 8) : rt r 13 = (r + 9) + 1 := (y8_13a r (sh_in hr.1 (by decide)) hr.1).1
theorem y8_13 {n r : Nat} (hn : 117 ≤ n) (hr : VR n r 8) : VA n (r + 9) 1 12 := ⟨(y8_13a r (sh_in hr.1 (by decide)) hr.1).2.1, Nat.lt_of_lt_of_le (y8_13a r (sh_in hr.1 (by decide)) hr.1).2.2 hn⟩
theorem y8_14a : ∀ k, k < 147 → sh k = (0, 8) → rt k 14 = (k + 10) + 1 ∧ sh (k + 10) = (1, 12) ∧ k + 10 < 117 := by decide +kernel
theorem z8_14 {n r : Nat} (hr : VR n r 8) : rt r 14 = (r + 10) + 1 := (y8_14a r (sh_in hr.1 (by decide)) hr.1).1
theorem y8_14 {n r : Nat} (hn : 117 ≤ n) (hr : VR n r 8) : VA n (r + 10) 1 12 := ⟨(y8_14a r (sh_in hr.1 (by decide)) hr.1).2.1, Nat.lt_of_lt_of_le (y8_14a r (sh_in hr.1 (by decide)) hr.1).2.2 hn⟩
theorem y8_15a : ∀ k, k < 147 → sh k = (0, 8) → rt k 15 = (k + 11) + 1 ∧ sh (k + 11) = (1, 12) ∧ k + 11 < 117 := by decide +kernel
theorem z8_15 {n r : Nat} (hr : VR n r 8) : rt r 15 = (r + 11) + 1 := (y8_15a r (sh_in hr.1 (by decide)) hr.1).1
theorem y8_15 {n r : Nat} (hn : 117 ≤ n) (hr : VR n r 8) : VA n (r + 11) 1 12 := ⟨(y8_15a r (sh_in hr.1 (by decide)) hr.1).2.1, Nat.lt_of_lt_of_le (y8_15a r (sh_in hr.1 (by decide)) hr.1).2.2 hn⟩
theorem y8_16a : ∀ k, k < 147 → sh k = (0, 8) → rt k 16 = (k + 12) + 1 ∧ sh (k + 12) = (1, 12) ∧ k + 12 < 117 := by decide +kernel
theorem z8_16 {n r : Nat} (hr : VR n r 8) : rt r 16 = (r + 12) + 1 := (y8_16a r (sh_in hr.1 (by decide)) hr.1).1
theorem y8_16 {n r : Nat} (hn : 117 ≤ n) (hr : VR n r 8) : VA n (r + 12) 1 12 := ⟨(y8_16a r (sh_in hr.1 (by decide)) hr.1).2.1, Nat.lt_of_lt_of_le (y8_16a r (sh_in hr.1 (by decide)) hr.1).2.2 hn⟩
theorem y5_3a : ∀ k, k < 147 → sh k = (0, 5) → rt k 3 = (k + 1) + 1 ∧ sh (k + 1) = (2, 60) ∧ k + 1 < 117 := by decide +kernel
theorem z5_3 {n r : Nat} (hr : VR n r 5) : rt r 3 = (r + 1) + 1 := (y5_3a r (sh_in hr.1 (by decide)) hr.1).1
theorem y5_3 {n r : Nat} (hn : 117 ≤ n) (hr : VR n r 5) : VA n (r + 1) 2 60 := ⟨(y5_3a r (sh_in hr.1 (by decide)) hr.1).2.1, Nat.lt_of_lt_of_le (y5_3a r (sh_in hr.1 (by decide)) hr.1).2.2 hn⟩
theorem lf0_9 : LkF 0 9 0 1 0 := ⟨by decide, by decide, rfl, Or.inl (T0_2 75 (by decide +kernel) rfl)⟩
theorem lf0_15 : LkF 0 15 0 2 0 := ⟨by decide, by decide, rfl, Or.inl (T0_2 77 (by decide +kernel) rfl)⟩
theorem lf0_19 : LkF 0 19 0 3 0 := ⟨by decide, by decide, rfl, Or.inl (T0_2 79 (by decide +kernel) rfl)⟩
theorem lf0_22 : LkF 0 22 0 4 2 := ⟨by decide, by decide, rfl, Or.inl (T0_2 81 (by decide +kernel) rfl)⟩
theorem lf0_26 : LkF 0 26 0 5 2 := ⟨by decide, by decide, rfl, Or.inl (T0_2 83 (by decide +kernel) rfl)⟩
theorem lf0_29 : LkF 0 29 0 6 2 := ⟨by decide, by decide, rfl, Or.inl (T0_2 84 (by decide +kernel) rfl)⟩
theorem lf0_32 : LkF 0 32 0 7 2 := ⟨by decide, by decide, rfl, Or.inl (T0_2 85 (by decide +kernel) rfl)⟩
theorem lf0_35 : LkF 0 35 0 8 2 := ⟨by decide, by decide, rfl, Or.inl (T0_2 86 (by decide +kernel) rfl)⟩
theorem lf0_38 : LkF 0 38 0 0 2 := ⟨by decide, by decide, rfl, Or.inl (T0_2 74 (by decide +kernel) rfl)⟩
theorem lf0_52 : LkF 0 52 2 8 0 := ⟨by decide, by decide, rfl, Or.inr ⟨"TeethingParish", NW_1 89 (by decide +kernel) rfl⟩⟩
theorem lf0_57 : LkF 0 57 2 13 2 := ⟨by decide, by decide, rfl, Or.inr ⟨"TeethingParish", NW_1 111 (by decide +kernel) rfl⟩⟩
theorem lf0_60 : LkF 0 60 2 10 2 := ⟨by decide, by decide, rfl, Or.inr ⟨"TeethingParish", NW_1 99 (by decide +kernel) rfl⟩⟩
theorem lf1_9 : LkF 1 9 1 1 0 := ⟨by decide, by decide, rfl, Or.inl (T0_2 113 (by decide +kernel) rfl)⟩
theorem lf1_15 : LkF 1 15 1 2 2 := ⟨by decide, by decide, rfl, Or.inl (T0_2 115 (by decide +kernel) rfl)⟩
theorem lf1_19 : LkF 1 19 1 3 2 := ⟨by decide, by decide, rfl, Or.inl (T0_2 116 (by decide +kernel) rfl)⟩
theorem lf1_22 : LkF 1 22 1 0 2 := ⟨by decide, by decide, rfl, Or.inl (T0_2 112 (by decide +kernel) rfl)⟩
theorem lf1_26 : LkF 1 26 2 10 2 := ⟨by decide, by decide, rfl, Or.inr ⟨"TeethingParish", NW_1 97 (by decide +kernel) rfl⟩⟩
theorem lf1_31 : LkF 1 31 2 8 0 := ⟨by decide, by decide, rfl, Or.inr ⟨"TeethingParish", NW_1 88 (by decide +kernel) rfl⟩⟩
theorem lf1_43 : LkF 1 43 2 2 0 := ⟨by decide, by decide, rfl, Or.inr ⟨"TeethingParish", NW_1 68 (by decide +kernel) rfl⟩⟩
theorem lf1_52 : LkF 1 52 2 6 0 := ⟨by decide, by decide, rfl, Or.inr ⟨"TeethingParish", NW_1 82 (by decide +kernel) rfl⟩⟩
theorem lf1_55 : LkF 1 55 5 2 0 := ⟨by decide, by decide, rfl, Or.inr ⟨"TeethingParish", NW_2 171 (by decide +kernel) rfl⟩⟩
theorem lf1_60 : LkF 1 60 5 3 2 := ⟨by decide, by decide, rfl, Or.inr ⟨"TeethingParish", NW_2 175 (by decide +kernel) rfl⟩⟩
theorem lf2_9 : LkF 2 9 2 0 0 := ⟨by decide, by decide, rfl, Or.inl (T0_1 57 (by decide +kernel) rfl)⟩
theorem lf2_15 : LkF 2 15 2 1 0 := ⟨by decide, by decide, rfl, Or.inl (T0_1 60 (by decide +kernel) rfl)⟩
theorem lf2_18 : LkF 2 18 2 2 0 := ⟨by decide, by decide, rfl, Or.inl (T0_1 65 (by decide +kernel) rfl)⟩
theorem lf2_21 : LkF 2 21 2 3 0 := ⟨by decide, by decide, rfl, Or.inl (T0_1 70 (by decide +kernel) rfl)⟩
theorem lf2_24 : LkF 2 24 2 4 0 := ⟨by decide, by decide, rfl, Or.inl (T0_1 74 (by decide +kernel) rfl)⟩
theorem lf2_27 : LkF 2 27 2 5 0 := ⟨by decide, by decide, rfl, Or.inl (T0_1 78 (by decide +kernel) rfl)⟩
theorem lf2_30 : LkF 2 30 2 6 0 := ⟨by decide, by decide, rfl, Or.inl (T0_1 81 (by decide +kernel) rfl)⟩
theorem lf2_33 : LkF 2 33 2 7 0 := ⟨by decide, by decide, rfl, Or.inl (T0_1 84 (by decide +kernel) rfl)⟩
theorem lf2_36 : LkF 2 36 2 8 0 := ⟨by decide, by decide, rfl, Or.inl (T0_1 86 (by decide +kernel) rfl)⟩
theorem lf2_39 : LkF 2 39 2 9 0 := ⟨by decide, by decide, rfl, Or.inl (T0_1 94 (by decide +kernel) rfl)⟩
theorem lf2_42 : LkF 2 42 2 10 2 := ⟨by decide, by decide, rfl, Or.inl (T0_1 96 (by decide +kernel) rfl)⟩
theorem lf2_46 : LkF 2 46 2 11 2 := ⟨by decide, by decide, rfl, Or.inl (T0_1 102 (by decide +kernel) rfl)⟩
theorem lf2_49 : LkF 2 49 2 12 2 := ⟨by decide, by decide, rfl, Or.inl (T0_1 106 (by decide +kernel) rfl)⟩
theorem lf2_52 : LkF 2 52 2 13 2 := ⟨by decide, by decide, rfl, Or.inl (T0_1 110 (by decide +kernel) rfl)⟩
theorem lf2_55 : LkF 2 55 2 14 2 := ⟨by decide, by decide, rfl, Or.inl (T0_1 113 (by decide +kernel) rfl)⟩
theorem lf2_58 : LkF 2 58 2 15 2 := ⟨by decide, by decide, rfl, Or.inl (T0_1 114 (by decide +kernel) rfl)⟩
theorem lf2_61 : LkF 2 61 2 16 2 := ⟨by decide, by decide, rfl, Or.inl (T0_1 115 (by decide +kernel) rfl)⟩
theorem lf3_11 : LkF 3 11 3 1 0 := ⟨by decide, by decide, rfl, Or.inl (T0_2 25 (by decide +kernel) rfl)⟩
theorem lf3_15 : LkF 3 15 3 2 0 := ⟨by decide, by decide, rfl, Or.inl (T0_2 27 (by decide +kernel) rfl)⟩
theorem lf3_19 : LkF 3 19 3 3 1 := ⟨by decide, by decide, rfl, Or.inl (T0_2 29 (by decide +kernel) rfl)⟩
theorem lf3_23 : LkF 3 23 3 4 1 := ⟨by decide, by decide, rfl, Or.inl (T0_2 31 (by decide +kernel) rfl)⟩
theorem lf3_26 : LkF 3 26 3 5 2 := ⟨by decide, by decide, rfl, Or.inl (T0_2 32 (by decide +kernel) rfl)⟩
theorem lf3_30 : LkF 3 30 3 6 2 := ⟨by decide, by decide, rfl, Or.inl (T0_2 33 (by decide +kernel) rfl)⟩
theorem lf3_33 : LkF 3 33 3 7 2 := ⟨by decide, by decide, rfl, Or.inl (T0_2 34 (by decide +kernel) rfl)⟩
theorem lf3_36 : LkF 3 36 3 8 2 := ⟨by decide, by decide, rfl, Or.inl (T0_2 35 (by decide +kernel) rfl)⟩
theorem lf3_39 : LkF 3 39 3 9 2 := ⟨by decide, by decide, rfl, Or.inl (T0_2 36 (by decide +kernel) rfl)⟩
theorem lf3_42 : LkF 3 42 3 10 2 := ⟨by decide, by decide, rfl, Or.inl (T0_2 37 (by decide +kernel) rfl)⟩
theorem lf3_46 : LkF 3 46 3 11 2 := ⟨by decide, by decide, rfl, Or.inl (T0_2 38 (by decide +kernel) rfl)⟩
theorem lf3_49 : LkF 3 49 3 12 2 := ⟨by decide, by decide, rfl, Or.inl (T0_2 39 (by decide +kernel) rfl)⟩
theorem lf3_52 : LkF 3 52 3 0 2 := ⟨by decide, by decide, rfl, Or.inl (T0_2 24 (by decide +kernel) rfl)⟩
theorem lf3_59 : LkF 3 59 2 2 0 := ⟨by decide, by decide, rfl, Or.inr ⟨"TeethingParish", NW_1 67 (by decide +kernel) rfl⟩⟩
theorem lf3_77 : LkF 3 77 2 8 0 := ⟨by decide, by decide, rfl, Or.inr ⟨"TeethingParish", NW_1 92 (by decide +kernel) rfl⟩⟩
theorem lf3_80 : LkF 3 80 2 10 2 := ⟨by decide, by decide, rfl, Or.inr ⟨"TeethingParish", NW_1 101 (by decide +kernel) rfl⟩⟩
theorem lf3_87 : LkF 3 87 2 12 2 := ⟨by decide, by decide, rfl, Or.inr ⟨"TeethingParish", NW_1 109 (by decide +kernel) rfl⟩⟩
theorem lf3_90 : LkF 3 90 2 11 2 := ⟨by decide, by decide, rfl, Or.inr ⟨"TeethingParish", NW_1 105 (by decide +kernel) rfl⟩⟩
theorem lf3_93 : LkF 3 93 2 1 0 := ⟨by decide, by decide, rfl, Or.inr ⟨"TeethingParish", NW_1 63 (by decide +kernel) rfl⟩⟩
theorem lf3_102 : LkF 3 102 2 3 0 := ⟨by decide, by decide, rfl, Or.inr ⟨"TeethingParish", NW_1 72 (by decide +kernel) rfl⟩⟩
theorem lf3_105 : LkF 3 105 2 4 0 := ⟨by decide, by decide, rfl, Or.inr ⟨"TeethingParish", NW_1 76 (by decide +kernel) rfl⟩⟩
theorem lf4_12 : LkF 4 12 4 1 2 := ⟨by decide, by decide, rfl, Or.inl (T0_1 153 (by decide +kernel) rfl)⟩
theorem lf4_18 : LkF 4 18 4 2 0 := ⟨by decide, by decide, rfl, Or.inl (T0_1 155 (by decide +kernel) rfl)⟩
theorem lf4_22 : LkF 4 22 4 3 0 := ⟨by decide, by decide, rfl, Or.inl (T0_1 157 (by decide +kernel) rfl)⟩
theorem lf4_25 : LkF 4 25 4 4 0 := ⟨by decide, by decide, rfl, Or.inl (T0_1 159 (by decide +kernel) rfl)⟩
theorem lf4_28 : LkF 4 28 4 5 0 := ⟨by decide, by decide, rfl, Or.inl (T0_1 160 (by decide +kernel) rfl)⟩
theorem lf4_31 : LkF 4 31 4 6 0 := ⟨by decide, by decide, rfl, Or.inl (T0_1 161 (by decide +kernel) rfl)⟩
theorem lf4_34 : LkF 4 34 4 0 2 := ⟨by decide, by decide, rfl, Or.inl (T0_1 152 (by decide +kernel) rfl)⟩
theorem lf4_48 : LkF 4 48 2 0 0 := ⟨by decide, by decide, rfl, Or.inr ⟨"TeethingParish", NW_1 58 (by decide +kernel) rfl⟩⟩
theorem lf4_63 : LkF 4 63 2 8 0 := ⟨by decide, by decide, rfl, Or.inr ⟨"TeethingParish", NW_1 90 (by decide +kernel) rfl⟩⟩
theorem lf4_111 : LkF 4 111 7 1 0 := ⟨by decide, by decide, rfl, Or.inr ⟨"TeethingParish", NW_1 38 (by decide +kernel) rfl⟩⟩
theorem lf4_116 : LkF 4 116 7 0 2 := ⟨by decide, by decide, rfl, Or.inr ⟨"TeethingParish", NW_1 35 (by decide +kernel) rfl⟩⟩
theorem lf5_9 : LkF 5 9 5 0 0 := ⟨by decide, by decide, rfl, Or.inl (T0_2 165 (by decide +kernel) rfl)⟩
theorem lf5_15 : LkF 5 15 5 1 0 := ⟨by decide, by decide, rfl, Or.inl (T0_2 167 (by decide +kernel) rfl)⟩
theorem lf5_19 : LkF 5 19 5 2 0 := ⟨by decide, by decide, rfl, Or.inl (T0_2 169 (by decide +kernel) rfl)⟩
theorem lf5_22 : LkF 5 22 5 3 2 := ⟨by decide, by decide, rfl, Or.inl (T0_2 173 (by decide +kernel) rfl)⟩
theorem lf6_9 : LkF 6 9 6 2 0 := ⟨by decide, by decide, rfl, Or.inl (T0_2 137 (by decide +kernel) rfl)⟩
theorem lf6_15 : LkF 6 15 6 3 0 := ⟨by decide, by decide, rfl, Or.inl (T0_2 139 (by decide +kernel) rfl)⟩
theorem lf6_18 : LkF 6 18 6 4 0 := ⟨by decide, by decide, rfl, Or.inl (T0_2 141 (by decide +kernel) rfl)⟩
theorem lf6_21 : LkF 6 21 6 5 2 := ⟨by decide, by decide, rfl, Or.inl (T0_2 143 (by decide +kernel) rfl)⟩
theorem lf6_25 : LkF 6 25 6 6 2 := ⟨by decide, by decide, rfl, Or.inl (T0_2 144 (by decide +kernel) rfl)⟩
theorem lf6_28 : LkF 6 28 6 0 2 := ⟨by decide, by decide, rfl, Or.inl (T0_2 135 (by decide +kernel) rfl)⟩
theorem lf6_37 : LkF 6 37 6 1 2 := ⟨by decide, by decide, rfl, Or.inl (T0_2 136 (by decide +kernel) rfl)⟩
theorem lf6_41 : LkF 6 41 2 8 0 := ⟨by decide, by decide, rfl, Or.inr ⟨"TeethingParish", NW_1 87 (by decide +kernel) rfl⟩⟩
theorem lf6_56 : LkF 6 56 2 1 0 := ⟨by decide, by decide, rfl, Or.inr ⟨"TeethingParish", NW_1 61 (by decide +kernel) rfl⟩⟩
theorem lf6_65 : LkF 6 65 8 6 2 := ⟨by decide, by decide, rfl, Or.inr ⟨"TeethingParish", NW_1 200 (by decide +kernel) rfl⟩⟩
theorem lf6_71 : LkF 6 71 8 16 2 := ⟨by decide, by decide, rfl, Or.inr ⟨"TeethingParish", NW_1 220 (by decide +kernel) rfl⟩⟩
theorem lf6_78 : LkF 6 78 5 2 0 := ⟨by decide, by decide, rfl, Or.inr ⟨"TeethingParish", NW_2 170 (by decide +kernel) rfl⟩⟩
theorem lf6_83 : LkF 6 83 5 3 2 := ⟨by decide, by decide, rfl, Or.inr ⟨"TeethingParish", NW_2 174 (by decide +kernel) rfl⟩⟩
theorem lf7_9 : LkF 7 9 7 0 2 := ⟨by decide, by decide, rfl, Or.inl (T0_1 34 (by decide +kernel) rfl)⟩
theorem lf7_15 : LkF 7 15 7 1 0 := ⟨by decide, by decide, rfl, Or.inl (T0_1 36 (by decide +kernel) rfl)⟩
theorem lf8_9 : LkF 8 9 8 1 0 := ⟨by decide, by decide, rfl, Or.inl (T0_1 189 (by decide +kernel) rfl)⟩
theorem lf8_15 : LkF 8 15 8 2 0 := ⟨by decide, by decide, rfl, Or.inl (T0_1 191 (by decide +kernel) rfl)⟩
theorem lf8_18 : LkF 8 18 8 3 0 := ⟨by decide, by decide, rfl, Or.inl (T0_1 193 (by decide +kernel) rfl)⟩
theorem lf8_21 : LkF 8 21 8 4 0 := ⟨by decide, by decide, rfl, Or.inl (T0_1 195 (by decide +kernel) rfl)⟩
theorem lf8_24 : LkF 8 24 8 5 2 := ⟨by decide, by decide, rfl, Or.inl (T0_1 197 (by decide +kernel) rfl)⟩
theorem lf8_28 : LkF 8 28 8 6 2 := ⟨by decide, by decide, rfl, Or.inl (T0_1 199 (by decide +kernel) rfl)⟩
theorem lf8_31 : LkF 8 31 8 7 2 := ⟨by decide, by decide, rfl, Or.inl (T0_1 202 (by decide +kernel) rfl)⟩
theorem lf8_34 : LkF 8 34 8 8 2 := ⟨by decide, by decide, rfl, Or.inl (T0_1 204 (by decide +kernel) rfl)⟩
theorem lf8_37 : LkF 8 37 8 9 2 := ⟨by decide, by decide, rfl, Or.inl (T0_1 205 (by decide +kernel) rfl)⟩
theorem lf8_40 : LkF 8 40 8 10 2 := ⟨by decide, by decide, rfl, Or.inl (T0_1 207 (by decide +kernel) rfl)⟩
theorem lf8_43 : LkF 8 43 8 11 2 := ⟨by decide, by decide, rfl, Or.inl (T0_1 209 (by decide +kernel) rfl)⟩
theorem lf8_46 : LkF 8 46 8 12 2 := ⟨by decide, by decide, rfl, Or.inl (T0_1 211 (by decide +kernel) rfl)⟩
theorem lf8_49 : LkF 8 49 8 13 2 := ⟨by decide, by decide, rfl, Or.inl (T0_1 213 (by decide +kernel) rfl)⟩
theorem lf8_52 : LkF 8 52 8 14 2 := ⟨by decide, by decide, rfl, Or.inl (T0_1 215 (by decide +kernel) rfl)⟩
theorem lf8_55 : LkF 8 55 8 15 2 := ⟨by decide, by decide, rfl, Or.inl (T0_1 217 (by decide +kernel) rfl)⟩
theorem lf8_58 : LkF 8 58 8 16 2 := ⟨by decide, by decide, rfl, Or.inl (T0_1 219 (by decide +kernel) rfl)⟩
theorem lf8_61 : LkF 8 61 8 0 2 := ⟨by decide, by decide, rfl, Or.inl (T0_1 188 (by decide +kernel) rfl)⟩
theorem lf8_65 : LkF 8 65 2 2 0 := ⟨by decide, by decide, rfl, Or.inr ⟨"TeethingParish", NW_1 66 (by decide +kernel) rfl⟩⟩
theorem lf8_68 : LkF 8 68 2 5 0 := ⟨by decide, by decide, rfl, Or.inr ⟨"TeethingParish", NW_1 79 (by decide +kernel) rfl⟩⟩
theorem lf8_69 : LkF 8 69 2 10 2 := ⟨by decide, by decide, rfl, Or.inr ⟨"TeethingParish", NW_1 98 (by decide +kernel) rfl⟩⟩
theorem lf8_78 : LkF 8 78 2 11 2 := ⟨by decide, by decide, rfl, Or.inr ⟨"TeethingParish", NW_1 103 (by decide +kernel) rfl⟩⟩
theorem lf8_88 : LkF 8 88 2 1 0 := ⟨by decide, by decide, rfl, Or.inr ⟨"TeethingParish", NW_1 62 (by decide +kernel) rfl⟩⟩
theorem lf8_91 : LkF 8 91 2 4 0 := ⟨by decide, by decide, rfl, Or.inr ⟨"TeethingParish", NW_1 75 (by decide +kernel) rfl⟩⟩
theorem lf8_98 : LkF 8 98 2 3 0 := ⟨by decide, by decide, rfl, Or.inr ⟨"TeethingParish", NW_1 71 (by decide +kernel) rfl⟩⟩
theorem lf8_107 : LkF 8 107 2 8 0 := ⟨by decide, by decide, rfl, Or.inr ⟨"TeethingParish", NW_1 91 (by decide +kernel) rfl⟩⟩
theorem lf8_110 : LkF 8 110 2 12 2 := ⟨by decide, by decide, rfl, Or.inr ⟨"TeethingParish", NW_1 107 (by decide +kernel) rfl⟩⟩
theorem lf9_12 : LkF 9 12 9 0 2 := ⟨by decide, by decide, rfl, Or.inl (T0_2 219 (by decide +kernel) rfl)⟩
theorem lf9_21 : LkF 9 21 9 1 2 := ⟨by decide, by decide, rfl, Or.inl (T0_2 220 (by decide +kernel) rfl)⟩
theorem lf9_28 : LkF 9 28 9 2 2 := ⟨by decide, by decide, rfl, Or.inl (T0_2 221 (by decide +kernel) rfl)⟩
theorem lf9_32 : LkF 9 32 9 3 2 := ⟨by decide, by decide, rfl, Or.inl (T0_2 222 (by decide +kernel) rfl)⟩
theorem lf9_36 : LkF 9 36 9 4 2 := ⟨by decide, by decide, rfl, Or.inl (T0_2 223 (by decide +kernel) rfl)⟩
theorem lf9_42 : LkF 9 42 9 5 2 := ⟨by decide, by decide, rfl, Or.inl (T0_2 224 (by decide +kernel) rfl)⟩
theorem lf9_51 : LkF 9 51 9 6 2 := ⟨by decide, by decide, rfl, Or.inl (T0_2 225 (by decide +kernel) rfl)⟩
theorem lf9_55 : LkF 9 55 9 7 2 := ⟨by decide, by decide, rfl, Or.inl (T0_2 226 (by decide +kernel) rfl)⟩
theorem lf9_61 : LkF 9 61 9 8 2 := ⟨by decide, by decide, rfl, Or.inl (T0_2 227 (by decide +kernel) rfl)⟩
theorem lf9_68 : LkF 9 68 9 9 2 := ⟨by decide, by decide, rfl, Or.inl (T0_2 228 (by decide +kernel) rfl)⟩
theorem lf9_75 : LkF 9 75 9 10 2 := ⟨by decide, by decide, rfl, Or.inl (T0_2 229 (by decide +kernel) rfl)⟩
theorem lf9_82 : LkF 9 82 9 11 2 := ⟨by decide, by decide, rfl, Or.inl (T0_2 230 (by decide +kernel) rfl)⟩
theorem lf9_86 : LkF 9 86 9 12 2 := ⟨by decide, by decide, rfl, Or.inl (T0_2 231 (by decide +kernel) rfl)⟩
theorem lf9_90 : LkF 9 90 9 13 2 := ⟨by decide, by decide, rfl, Or.inl (T0_2 232 (by decide +kernel) rfl)⟩
theorem lf9_97 : LkF 9 97 7 1 0 := ⟨by decide, by decide, rfl, Or.inr ⟨"TeethingParish", NW_1 37 (by decide +kernel) rfl⟩⟩
theorem lf9_109 : LkF 9 109 4 1 2 := ⟨by decide, by decide, rfl, Or.inr ⟨"TeethingParish", NW_1 154 (by decide +kernel) rfl⟩⟩
theorem lf9_115 : LkF 9 115 2 0 0 := ⟨by decide, by decide, rfl, Or.inr ⟨"TeethingParish", NW_1 59 (by decide +kernel) rfl⟩⟩
theorem lf9_118 : LkF 9 118 4 2 0 := ⟨by decide, by decide, rfl, Or.inr ⟨"TeethingParish", NW_1 156 (by decide +kernel) rfl⟩⟩
theorem lf9_121 : LkF 9 121 4 3 0 := ⟨by decide, by decide, rfl, Or.inr ⟨"TeethingParish", NW_1 158 (by decide +kernel) rfl⟩⟩
theorem lf9_128 : LkF 9 128 2 10 2 := ⟨by decide, by decide, rfl, Or.inr ⟨"TeethingParish", NW_1 100 (by decide +kernel) rfl⟩⟩
theorem lf9_131 : LkF 9 131 2 11 2 := ⟨by decide, by decide, rfl, Or.inr ⟨"TeethingParish", NW_1 104 (by decide +kernel) rfl⟩⟩
theorem lf9_134 : LkF 9 134 2 12 2 := ⟨by decide, by decide, rfl, Or.inr ⟨"TeethingParish", NW_1 108 (by decide +kernel) rfl⟩⟩
theorem lf9_137 : LkF 9 137 2 13 2 := ⟨by decide, by decide, rfl, Or.inr ⟨"TeethingParish", NW_1 112 (by decide +kernel) rfl⟩⟩
theorem lf9_140 : LkF 9 140 8 9 2 := ⟨by decide, by decide, rfl, Or.inr ⟨"TeethingParish", NW_1 206 (by decide +kernel) rfl⟩⟩
theorem lf9_146 : LkF 9 146 8 11 2 := ⟨by decide, by decide, rfl, Or.inr ⟨"TeethingParish", NW_1 210 (by decide +kernel) rfl⟩⟩
theorem lf9_149 : LkF 9 149 8 12 2 := ⟨by decide, by decide, rfl, Or.inr ⟨"TeethingParish", NW_1 212 (by decide +kernel) rfl⟩⟩
theorem lf9_152 : LkF 9 152 8 13 2 := ⟨by decide, by decide, rfl, Or.inr ⟨"TeethingParish", NW_1 214 (by decide +kernel) rfl⟩⟩
theorem lf9_155 : LkF 9 155 8 10 2 := ⟨by decide, by decide, rfl, Or.inr ⟨"TeethingParish", NW_1 208 (by decide +kernel) rfl⟩⟩
theorem lf9_156 : LkF 9 156 8 14 2 := ⟨by decide, by decide, rfl, Or.inr ⟨"TeethingParish", NW_1 216 (by decide +kernel) rfl⟩⟩
theorem lf9_162 : LkF 9 162 8 4 0 := ⟨by decide, by decide, rfl, Or.inr ⟨"TeethingParish", NW_1 196 (by decide +kernel) rfl⟩⟩
theorem lf9_165 : LkF 9 165 2 8 0 := ⟨by decide, by decide, rfl, Or.inr ⟨"TeethingParish", NW_1 93 (by decide +kernel) rfl⟩⟩
theorem lf9_168 : LkF 9 168 2 1 0 := ⟨by decide, by decide, rfl, Or.inr ⟨"TeethingParish", NW_1 64 (by decide +kernel) rfl⟩⟩
theorem lf9_171 : LkF 9 171 8 15 2 := ⟨by decide, by decide, rfl, Or.inr ⟨"TeethingParish", NW_1 218 (by decide +kernel) rfl⟩⟩
theorem lf9_174 : LkF 9 174 8 16 2 := ⟨by decide, by decide, rfl, Or.inr ⟨"TeethingParish", NW_1 221 (by decide +kernel) rfl⟩⟩
theorem lf9_177 : LkF 9 177 2 4 0 := ⟨by decide, by decide, rfl, Or.inr ⟨"TeethingParish", NW_1 77 (by decide +kernel) rfl⟩⟩
theorem lf9_184 : LkF 9 184 2 6 0 := ⟨by decide, by decide, rfl, Or.inr ⟨"TeethingParish", NW_1 83 (by decide +kernel) rfl⟩⟩
theorem lf9_208 : LkF 9 208 8 6 2 := ⟨by decide, by decide, rfl, Or.inr ⟨"TeethingParish", NW_1 201 (by decide +kernel) rfl⟩⟩
theorem lf9_215 : LkF 9 215 8 1 0 := ⟨by decide, by decide, rfl, Or.inr ⟨"TeethingParish", NW_1 190 (by decide +kernel) rfl⟩⟩
theorem lf9_224 : LkF 9 224 2 5 0 := ⟨by decide, by decide, rfl, Or.inr ⟨"TeethingParish", NW_1 80 (by decide +kernel) rfl⟩⟩
theorem lf9_236 : LkF 9 236 3 2 0 := ⟨by decide, by decide, rfl, Or.inr ⟨"TeethingParish", NW_2 28 (by decide +kernel) rfl⟩⟩
theorem lf9_244 : LkF 9 244 3 3 1 := ⟨by decide, by decide, rfl, Or.inr ⟨"TeethingParish", NW_2 30 (by decide +kernel) rfl⟩⟩
theorem lf9_252 : LkF 9 252 0 2 0 := ⟨by decide, by decide, rfl, Or.inr ⟨"TeethingParish", NW_2 78 (by decide +kernel) rfl⟩⟩
theorem lf9_255 : LkF 9 255 0 4 2 := ⟨by decide, by decide, rfl, Or.inr ⟨"TeethingParish", NW_2 82 (by decide +kernel) rfl⟩⟩
theorem lf9_258 : LkF 9 258 0 3 0 := ⟨by decide, by decide, rfl, Or.inr ⟨"TeethingParish", NW_2 80 (by decide +kernel) rfl⟩⟩
theorem lf9_275 : LkF 9 275 6 2 0 := ⟨by decide, by decide, rfl, Or.inr ⟨"TeethingParish", NW_2 138 (by decide +kernel) rfl⟩⟩
theorem lf9_283 : LkF 9 283 6 3 0 := ⟨by decide, by decide, rfl, Or.inr ⟨"TeethingParish", NW_2 140 (by decide +kernel) rfl⟩⟩
theorem lf9_286 : LkF 9 286 6 4 0 := ⟨by decide, by decide, rfl, Or.inr ⟨"TeethingParish", NW_2 142 (by decide +kernel) rfl⟩⟩
theorem lf9_290 : LkF 9 290 1 3 2 := ⟨by decide, by decide, rfl, Or.inr ⟨"TeethingParish", NW_2 117 (by decide +kernel) rfl⟩⟩
theorem lf9_325 : LkF 9 325 2 7 0 := ⟨by decide, by decide, rfl, Or.inr ⟨"TeethingParish", NW_1 85 (by decide +kernel) rfl⟩⟩
theorem lf9_342 : LkF 9 342 2 9 0 := ⟨by decide, by decide, rfl, Or.inr ⟨"TeethingParish", NW_1 95 (by decide +kernel) rfl⟩⟩
theorem lf9_348 : LkF 9 348 2 2 0 := ⟨by decide, by decide, rfl, Or.inr ⟨"TeethingParish", NW_1 69 (by decide +kernel) rfl⟩⟩
theorem lf9_349 : LkF 9 349 2 3 0 := ⟨by decide, by decide, rfl, Or.inr ⟨"TeethingParish", NW_1 73 (by decide +kernel) rfl⟩⟩
theorem lf9_363 : LkF 9 363 5 0 0 := ⟨by decide, by decide, rfl, Or.inr ⟨"TeethingParish", NW_2 166 (by decide +kernel) rfl⟩⟩
theorem lf9_367 : LkF 9 367 5 2 0 := ⟨by decide, by decide, rfl, Or.inr ⟨"TeethingParish", NW_2 172 (by decide +kernel) rfl⟩⟩
theorem lf9_368 : LkF 9 368 5 3 2 := ⟨by decide, by decide, rfl, Or.inr ⟨"TeethingParish", NW_2 176 (by decide +kernel) rfl⟩⟩
theorem lf9_376 : LkF 9 376 5 1 0 := ⟨by decide, by decide, rfl, Or.inr ⟨"TeethingParish", NW_2 168 (by decide +kernel) rfl⟩⟩
theorem lf9_395 : LkF 9 395 3 1 0 := ⟨by decide, by decide, rfl, Or.inr ⟨"TeethingParish", NW_2 26 (by decide +kernel) rfl⟩⟩
theorem lf9_398 : LkF 9 398 0 1 0 := ⟨by decide, by decide, rfl, Or.inr ⟨"TeethingParish", NW_2 76 (by decide +kernel) rfl⟩⟩
theorem lf9_399 : LkF 9 399 1 1 0 := ⟨by decide, by decide, rfl, Or.inr ⟨"TeethingParish", NW_2 114 (by decide +kernel) rfl⟩⟩
theorem lf9_403 : LkF 9 403 8 2 0 := ⟨by decide, by decide, rfl, Or.inr ⟨"TeethingParish", NW_1 192 (by decide +kernel) rfl⟩⟩
theorem lf9_404 : LkF 9 404 8 3 0 := ⟨by decide, by decide, rfl, Or.inr ⟨"TeethingParish", NW_1 194 (by decide +kernel) rfl⟩⟩
theorem lf9_410 : LkF 9 410 8 5 2 := ⟨by decide, by decide, rfl, Or.inr ⟨"TeethingParish", NW_1 198 (by decide +kernel) rfl⟩⟩
theorem lf9_413 : LkF 9 413 8 7 2 := ⟨by decide, by decide, rfl, Or.inr ⟨"TeethingParish", NW_1 203 (by decide +kernel) rfl⟩⟩
theorem lf10_9 : LkF 10 9 10 1 2 := ⟨by decide, by decide, rfl, Or.inl (T0_6 2 (by decide +kernel) rfl)⟩
theorem lf10_13 : LkF 10 13 10 2 2 := ⟨by decide, by decide, rfl, Or.inl (T0_6 3 (by decide +kernel) rfl)⟩
theorem lf10_16 : LkF 10 16 10 3 2 := ⟨by decide, by decide, rfl, Or.inl (T0_6 4 (by decide +kernel) rfl)⟩
theorem lf10_20 : LkF 10 20 10 4 2 := ⟨by decide, by decide, rfl, Or.inl (T0_6 5 (by decide +kernel) rfl)⟩
theorem lf10_24 : LkF 10 24 10 6 2 := ⟨by decide, by decide, rfl, Or.inl (T0_6 7 (by decide +kernel) rfl)⟩
theorem lf10_27 : LkF 10 27 10 13 0 := ⟨by decide, by decide, rfl, Or.inl (T0_6 14 (by decide +kernel) rfl)⟩
theorem lf10_31 : LkF 10 31 10 14 2 := ⟨by decide, by decide, rfl, Or.inl (T0_6 15 (by decide +kernel) rfl)⟩
theorem lf10_34 : LkF 10 34 10 15 2 := ⟨by decide, by decide, rfl, Or.inl (T0_6 16 (by decide +kernel) rfl)⟩
theorem lf10_37 : LkF 10 37 10 16 2 := ⟨by decide, by decide, rfl, Or.inl (T0_6 17 (by decide +kernel) rfl)⟩
theorem lf10_40 : LkF 10 40 10 17 2 := ⟨by decide, by decide, rfl, Or.inl (T0_6 18 (by decide +kernel) rfl)⟩
theorem lf10_43 : LkF 10 43 10 18 2 := ⟨by decide, by decide, rfl, Or.inl (T0_6 19 (by decide +kernel) rfl)⟩
theorem lf10_46 : LkF 10 46 10 23 2 := ⟨by decide, by decide, rfl, Or.inl (T0_6 24 (by decide +kernel) rfl)⟩
theorem lf10_49 : LkF 10 49 10 24 2 := ⟨by decide, by decide, rfl, Or.inl (T0_6 25 (by decide +kernel) rfl)⟩
theorem lf10_52 : LkF 10 52 10 25 2 := ⟨by decide, by decide, rfl, Or.inl (T0_6 26 (by decide +kernel) rfl)⟩
theorem lf10_55 : LkF 10 55 10 26 2 := ⟨by decide, by decide, rfl, Or.inl (T0_6 27 (by decide +kernel) rfl)⟩
theorem lf10_58 : LkF 10 58 10 28 2 := ⟨by decide, by decide, rfl, Or.inl (T0_6 29 (by decide +kernel) rfl)⟩
theorem lf10_61 : LkF 10 61 10 29 2 := ⟨by decide, by decide, rfl, Or.inl (T0_6 30 (by decide +kernel) rfl)⟩
theorem lf10_64 : LkF 10 64 10 30 2 := ⟨by decide, by decide, rfl, Or.inl (T0_6 31 (by decide +kernel) rfl)⟩
theorem lf10_67 : LkF 10 67 10 31 2 := ⟨by decide, by decide, rfl, Or.inl (T0_6 32 (by decide +kernel) rfl)⟩
theorem lf10_70 : LkF 10 70 10 32 2 := ⟨by decide, by decide, rfl, Or.inl (T0_6 33 (by decide +kernel) rfl)⟩
theorem lf10_74 : LkF 10 74 10 33 2 := ⟨by decide, by decide, rfl, Or.inl (T0_6 34 (by decide +kernel) rfl)⟩
theorem lf10_77 : LkF 10 77 10 37 2 := ⟨by decide, by decide, rfl, Or.inl (T0_6 38 (by decide +kernel) rfl)⟩
theorem lf10_80 : LkF 10 80 10 38 2 := ⟨by decide, by decide, rfl, Or.inl (T0_6 39 (by decide +kernel) rfl)⟩
theorem lf10_83 : LkF 10 83 10 39 2 := ⟨by decide, by decide, rfl, Or.inl (T0_6 40 (by decide +kernel) rfl)⟩
theorem lf10_86 : LkF 10 86 10 41 2 := ⟨by decide, by decide, rfl, Or.inl (T0_6 42 (by decide +kernel) rfl)⟩
theorem lf10_89 : LkF 10 89 10 42 2 := ⟨by decide, by decide, rfl, Or.inl (T0_6 43 (by decide +kernel) rfl)⟩
theorem lf10_92 : LkF 10 92 10 43 2 := ⟨by decide, by decide, rfl, Or.inl (T0_6 44 (by decide +kernel) rfl)⟩
theorem lf10_95 : LkF 10 95 10 44 2 := ⟨by decide, by decide, rfl, Or.inl (T0_6 45 (by decide +kernel) rfl)⟩
theorem lf10_98 : LkF 10 98 10 45 2 := ⟨by decide, by decide, rfl, Or.inl (T0_6 46 (by decide +kernel) rfl)⟩
theorem lf10_101 : LkF 10 101 10 46 2 := ⟨by decide, by decide, rfl, Or.inl (T0_6 47 (by decide +kernel) rfl)⟩
theorem lf10_119 : LkF 10 119 10 5 0 := ⟨by decide, by decide, rfl, Or.inl (T0_6 6 (by decide +kernel) rfl)⟩
theorem lf10_122 : LkF 10 122 10 7 0 := ⟨by decide, by decide, rfl, Or.inl (T0_6 8 (by decide +kernel) rfl)⟩
theorem lf10_125 : LkF 10 125 10 8 0 := ⟨by decide, by decide, rfl, Or.inl (T0_6 9 (by decide +kernel) rfl)⟩
theorem lf10_132 : LkF 10 132 10 9 0 := ⟨by decide, by decide, rfl, Or.inl (T0_6 10 (by decide +kernel) rfl)⟩
theorem lf10_135 : LkF 10 135 10 10 0 := ⟨by decide, by decide, rfl, Or.inl (T0_6 11 (by decide +kernel) rfl)⟩
theorem lf10_146 : LkF 10 146 10 11 0 := ⟨by decide, by decide, rfl, Or.inl (T0_6 12 (by decide +kernel) rfl)⟩
theorem lf10_156 : LkF 10 156 10 12 0 := ⟨by decide, by decide, rfl, Or.inl (T0_6 13 (by decide +kernel) rfl)⟩
theorem lf10_228 : LkF 10 228 10 19 0 := ⟨by decide, by decide, rfl, Or.inl (T0_6 20 (by decide +kernel) rfl)⟩
theorem lf10_231 : LkF 10 231 10 20 0 := ⟨by decide, by decide, rfl, Or.inl (T0_6 21 (by decide +kernel) rfl)⟩
theorem lf10_234 : LkF 10 234 10 21 0 := ⟨by decide, by decide, rfl, Or.inl (T0_6 22 (by decide +kernel) rfl)⟩
theorem lf10_237 : LkF 10 237 10 22 0 := ⟨by decide, by decide, rfl, Or.inl (T0_6 23 (by decide +kernel) rfl)⟩
theorem lf10_253 : LkF 10 253 10 27 0 := ⟨by decide, by decide, rfl, Or.inl (T0_6 28 (by decide +kernel) rfl)⟩
theorem lf10_331 : LkF 10 331 10 34 0 := ⟨by decide, by decide, rfl, Or.inl (T0_6 35 (by decide +kernel) rfl)⟩
theorem lf10_334 : LkF 10 334 10 35 0 := ⟨by decide, by decide, rfl, Or.inl (T0_6 36 (by decide +kernel) rfl)⟩
theorem lf10_337 : LkF 10 337 10 36 0 := ⟨by decide, by decide, rfl, Or.inl (T0_6 37 (by decide +kernel) rfl)⟩
theorem lf10_395 : LkF 10 395 10 40 0 := ⟨by decide, by decide, rfl, Or.inl (T0_6 41 (by decide +kernel) rfl)⟩
theorem ls0 : Cond.fieldLink (RN 4) 78 (RN 4) "LEAST" "[I" ∈ T0 := T0_3 140 (by decide +kernel) rfl
theorem ls1 : Cond.fieldLink (RN 4) 82 (RN 4) "MOST" "[I" ∈ T0 := T0_3 142 (by decide +kernel) rfl
theorem lc3_72 : Cond.constantLong (RN 3) 72 (Int64.ofInt 15) ∈ T0 := T0_4 157 (by decide +kernel) rfl
theorem lc3_108 : Cond.constantLong (RN 3) 108 (Int64.ofInt 4294967296000000) ∈ T0 := T0_4 131 (by decide +kernel) rfl
theorem lc3_123 : Cond.constantLong (RN 3) 123 (Int64.ofInt 4294967295) ∈ T0 := T0_4 144 (by decide +kernel) rfl
theorem lc4_51 : (4, 51, "parish", 0) ∈ strTab := by decide +kernel
theorem lc4_61 : (4, 61, "person", 8) ∈ strTab := by decide +kernel
theorem lc4_89 : (4, 89, "nights", 1) ∈ strTab := by decide +kernel
theorem lc4_91 : (4, 91, "room", 2) ∈ strTab := by decide +kernel
theorem lc4_93 : (4, 93, "tooth", 3) ∈ strTab := by decide +kernel
theorem lc4_95 : (4, 95, "teeth", 4) ∈ strTab := by decide +kernel
theorem lc4_97 : (4, 97, "rule", 5) ∈ strTab := by decide +kernel
theorem lc4_99 : (4, 99, "pays", 6) ∈ strTab := by decide +kernel
theorem lc4_101 : (4, 101, "odds", 7) ∈ strTab := by decide +kernel
theorem lc4_103 : (4, 103, "ache", 9) ∈ strTab := by decide +kernel
theorem lc4_105 : (4, 105, "from", 10) ∈ strTab := by decide +kernel
theorem lc4_107 : (4, 107, "dear", 11) ∈ strTab := by decide +kernel
theorem lc4_109 : (4, 109, "bears", 12) ∈ strTab := by decide +kernel
theorem lc9_204 : Cond.constant (RN 9) 204 (Int32.ofInt 1000000) ∈ T0 := T0_4 47 (by decide +kernel) rfl
theorem lc9_242 : Cond.constantLong (RN 9) 242 (Int64.ofInt (-2)) ∈ T0 := T0_4 162 (by decide +kernel) rfl
theorem lc9_323 : Cond.constantLong (RN 9) 323 (Int64.ofInt 10) ∈ T0 := T0_5 122 (by decide +kernel) rfl
theorem lc9_388 : Cond.constant (RN 9) 388 (Int32.ofInt 2000000000) ∈ T0 := T0_5 143 (by decide +kernel) rfl
theorem lc9_416 : Cond.constantLong (RN 9) 416 (Int64.ofInt 1103515245) ∈ T0 := T0_5 148 (by decide +kernel) rfl
theorem lc9_418 : Cond.constantLong (RN 9) 418 (Int64.ofInt 12345) ∈ T0 := T0_5 149 (by decide +kernel) rfl
theorem lc9_420 : Cond.constantLong (RN 9) 420 (Int64.ofInt 2147483648) ∈ T0 := T0_5 150 (by decide +kernel) rfl
theorem lc9_422 : Cond.constantLong (RN 9) 422 (Int64.ofInt 65536) ∈ T0 := T0_5 151 (by decide +kernel) rfl
theorem lc10_107 : Cond.constantLong (RN 10) 107 (Int64.ofInt 2) ∈ T0 := T0_6 147 (by decide +kernel) rfl
theorem lc10_117 : Cond.constantLong (RN 10) 117 (Int64.ofInt 3) ∈ T0 := T0_7 47 (by decide +kernel) rfl
theorem lc10_138 : Cond.constantLong (RN 10) 138 (Int64.ofInt 97) ∈ T0 := T0_6 179 (by decide +kernel) rfl
theorem lc10_140 : Cond.constantLong (RN 10) 140 (Int64.ofInt 122) ∈ T0 := T0_6 180 (by decide +kernel) rfl
theorem lc10_142 : Cond.constantLong (RN 10) 142 (Int64.ofInt 48) ∈ T0 := T0_6 181 (by decide +kernel) rfl
theorem lc10_144 : Cond.constantLong (RN 10) 144 (Int64.ofInt 57) ∈ T0 := T0_6 182 (by decide +kernel) rfl
theorem lc10_149 : Cond.constant (RN 10) 149 (Int32.ofInt 99999) ∈ T0 := T0_6 183 (by decide +kernel) rfl
theorem lc10_187 : (10, 187, "parish", 0) ∈ strTab := by decide +kernel
theorem lc10_189 : (10, 189, "nights", 1) ∈ strTab := by decide +kernel
theorem lc10_195 : (10, 195, "room", 2) ∈ strTab := by decide +kernel
theorem lc10_197 : (10, 197, "tooth", 3) ∈ strTab := by decide +kernel
theorem lc10_199 : (10, 199, "teeth", 4) ∈ strTab := by decide +kernel
theorem lc10_201 : (10, 201, "rule", 5) ∈ strTab := by decide +kernel
theorem lc10_203 : (10, 203, "pays", 6) ∈ strTab := by decide +kernel
theorem lc10_205 : (10, 205, "odds", 7) ∈ strTab := by decide +kernel
theorem lc10_207 : (10, 207, "person", 8) ∈ strTab := by decide +kernel
theorem lc10_209 : (10, 209, "ache", 9) ∈ strTab := by decide +kernel
theorem lc10_211 : (10, 211, "from", 10) ∈ strTab := by decide +kernel
theorem lc10_212 : (10, 212, "dear", 11) ∈ strTab := by decide +kernel
theorem lc10_214 : (10, 214, "bears", 12) ∈ strTab := by decide +kernel
theorem lc10_306 : Cond.constant (RN 10) 306 (Int32.ofInt 1000000000) ∈ T0 := T0_7 153 (by decide +kernel) rfl
theorem lc10_310 : Cond.constantLong (RN 10) 310 (Int64.ofInt 20) ∈ T0 := T0_7 178 (by decide +kernel) rfl
theorem lc10_323 : Cond.constantLong (RN 10) 323 (Int64.ofInt 160) ∈ T0 := T0_7 197 (by decide +kernel) rfl
theorem lc10_356 : Cond.constantLong (RN 10) 356 (Int64.ofInt (-2)) ∈ T0 := T0_7 236 (by decide +kernel) rfl
theorem lc10_358 : Cond.constantLong (RN 10) 358 (Int64.ofInt 20000) ∈ T0 := T0_8 9 (by decide +kernel) rfl
theorem lc10_410 : Cond.constantLong (RN 10) 410 (Int64.ofInt 999) ∈ T0 := T0_8 139 (by decide +kernel) rfl
theorem lc10_430 : Cond.constantLong (RN 10) 430 (Int64.ofInt 10) ∈ T0 := T0_8 180 (by decide +kernel) rfl
theorem lc10_442 : Cond.constantLong (RN 10) 442 (Int64.ofInt 11) ∈ T0 := T0_8 208 (by decide +kernel) rfl
theorem lc10_444 : Cond.constantLong (RN 10) 444 (Int64.ofInt 1103515245) ∈ T0 := T0_8 229 (by decide +kernel) rfl
theorem lc10_446 : Cond.constantLong (RN 10) 446 (Int64.ofInt 12345) ∈ T0 := T0_8 230 (by decide +kernel) rfl
theorem lc10_448 : Cond.constantLong (RN 10) 448 (Int64.ofInt 2147483648) ∈ T0 := T0_8 231 (by decide +kernel) rfl
theorem lc10_450 : Cond.constantLong (RN 10) 450 (Int64.ofInt 65536) ∈ T0 := T0_8 232 (by decide +kernel) rfl
theorem lc10_452 : Cond.constantLong (RN 10) 452 (Int64.ofInt 2000000000) ∈ T0 := T0_8 224 (by decide +kernel) rfl
theorem lc10_461 : Cond.constantLong (RN 10) 461 (Int64.ofInt 60) ∈ T0 := T0_9 1 (by decide +kernel) rfl
theorem lc10_463 : Cond.constantLong (RN 10) 463 (Int64.ofInt 9) ∈ T0 := T0_9 6 (by decide +kernel) rfl
theorem lc13_265 : Cond.constant (RN 13) 265 (Int32.ofInt 1431655765) ∈ T0 := T0_4 228 (by decide +kernel) rfl
theorem lc13_266 : Cond.constant (RN 13) 266 (Int32.ofInt 858993459) ∈ T0 := T0_4 229 (by decide +kernel) rfl
theorem lc13_267 : Cond.constant (RN 13) 267 (Int32.ofInt 252645135) ∈ T0 := T0_4 230 (by decide +kernel) rfl
def y9_feed : MethodName := ⟨"TeethingParish", "feed", "(IIIII)I"⟩
abbrev c9_feed : ByteArray := prog_1_method_2_code
theorem mf9_feed : MFv 9 y9_feed c9_feed 6 (some .int) 5 := ⟨⟨T0_3 25 (by decide +kernel) rfl, T0_1 1 (by decide +kernel) rfl, by decide +kernel, by decide +kernel, by decide +kernel⟩, by decide, rfl, T0_3 23 (by decide +kernel) rfl, T0_3 24 (by decide +kernel) rfl⟩
def y9_end : MethodName := ⟨"TeethingParish", "end", "(I)I"⟩
abbrev c9_end : ByteArray := prog_1_method_3_code
theorem mf9_end : MFv 9 y9_end c9_end 2 (some .int) 1 := ⟨⟨T0_3 33 (by decide +kernel) rfl, T0_1 1 (by decide +kernel) rfl, by decide +kernel, by decide +kernel, by decide +kernel⟩, by decide, rfl, T0_3 31 (by decide +kernel) rfl, T0_3 32 (by decide +kernel) rfl⟩
def y9_parish : MethodName := ⟨"TeethingParish", "parish", "()I"⟩
abbrev c9_parish : ByteArray := prog_1_method_4_code
theorem mf9_parish : MFv 9 y9_parish c9_parish 2 (some .int) 0 := ⟨⟨T0_3 37 (by decide +kernel) rfl, T0_1 1 (by decide +kernel) rfl, by decide +kernel, by decide +kernel, by decide +kernel⟩, by decide, rfl, T0_3 35 (by decide +kernel) rfl, T0_3 36 (by decide +kernel) rfl⟩
def y9_fault : MethodName := ⟨"TeethingParish", "fault", "(I)I"⟩
abbrev c9_fault : ByteArray := prog_1_method_5_code
theorem mf9_fault : MFv 9 y9_fault c9_fault 2 (some .int) 1 := ⟨⟨T0_3 161 (by decide +kernel) rfl, T0_1 1 (by decide +kernel) rfl, by decide +kernel, by decide +kernel, by decide +kernel⟩, by decide, rfl, T0_3 159 (by decide +kernel) rfl, T0_3 160 (by decide +kernel) rfl⟩
def y9_person : MethodName := ⟨"TeethingParish", "person", "(II)I"⟩
abbrev c9_person : ByteArray := prog_1_method_6_code
theorem mf9_person : MFv 9 y9_person c9_person 3 (some .int) 2 := ⟨⟨T0_3 165 (by decide +kernel) rfl, T0_1 1 (by decide +kernel) rfl, by decide +kernel, by decide +kernel, by decide +kernel⟩, by decide, rfl, T0_3 163 (by decide +kernel) rfl, T0_3 164 (by decide +kernel) rfl⟩
def y9_gives : MethodName := ⟨"TeethingParish", "gives", "(I)I"⟩
abbrev c9_gives : ByteArray := prog_1_method_7_code
theorem mf9_gives : MFv 9 y9_gives c9_gives 2 (some .int) 1 := ⟨⟨T0_3 173 (by decide +kernel) rfl, T0_1 1 (by decide +kernel) rfl, by decide +kernel, by decide +kernel, by decide +kernel⟩, by decide, rfl, T0_3 171 (by decide +kernel) rfl, T0_3 172 (by decide +kernel) rfl⟩
def y9_given : MethodName := ⟨"TeethingParish", "given", "(I)I"⟩
abbrev c9_given : ByteArray := prog_1_method_8_code
theorem mf9_given : MFv 9 y9_given c9_given 2 (some .int) 1 := ⟨⟨T0_3 177 (by decide +kernel) rfl, T0_1 1 (by decide +kernel) rfl, by decide +kernel, by decide +kernel, by decide +kernel⟩, by decide, rfl, T0_3 175 (by decide +kernel) rfl, T0_3 176 (by decide +kernel) rfl⟩
def y9_waits : MethodName := ⟨"TeethingParish", "waits", "(I)I"⟩
abbrev c9_waits : ByteArray := prog_1_method_9_code
theorem mf9_waits : MFv 9 y9_waits c9_waits 2 (some .int) 1 := ⟨⟨T0_3 185 (by decide +kernel) rfl, T0_1 1 (by decide +kernel) rfl, by decide +kernel, by decide +kernel, by decide +kernel⟩, by decide, rfl, T0_3 183 (by decide +kernel) rfl, T0_3 184 (by decide +kernel) rfl⟩
def y9_left : MethodName := ⟨"TeethingParish", "left", "(I)I"⟩
abbrev c9_left : ByteArray := prog_1_method_10_code
theorem mf9_left : MFv 9 y9_left c9_left 2 (some .int) 1 := ⟨⟨T0_3 189 (by decide +kernel) rfl, T0_1 1 (by decide +kernel) rfl, by decide +kernel, by decide +kernel, by decide +kernel⟩, by decide, rfl, T0_3 187 (by decide +kernel) rfl, T0_3 188 (by decide +kernel) rfl⟩
def y9_bears : MethodName := ⟨"TeethingParish", "bears", "(I)I"⟩
abbrev c9_bears : ByteArray := prog_1_method_11_code
theorem mf9_bears : MFv 9 y9_bears c9_bears 2 (some .int) 1 := ⟨⟨T0_3 193 (by decide +kernel) rfl, T0_1 1 (by decide +kernel) rfl, by decide +kernel, by decide +kernel, by decide +kernel⟩, by decide, rfl, T0_3 191 (by decide +kernel) rfl, T0_3 192 (by decide +kernel) rfl⟩
def y9_groans : MethodName := ⟨"TeethingParish", "groans", "(I)I"⟩
abbrev c9_groans : ByteArray := prog_1_method_12_code
theorem mf9_groans : MFv 9 y9_groans c9_groans 2 (some .int) 1 := ⟨⟨T0_3 197 (by decide +kernel) rfl, T0_1 1 (by decide +kernel) rfl, by decide +kernel, by decide +kernel, by decide +kernel⟩, by decide, rfl, T0_3 195 (by decide +kernel) rfl, T0_3 196 (by decide +kernel) rfl⟩
def y9_all : MethodName := ⟨"TeethingParish", "all", "()I"⟩
abbrev c9_all : ByteArray := prog_1_method_13_code
theorem mf9_all : MFv 9 y9_all c9_all 1 (some .int) 0 := ⟨⟨T0_3 201 (by decide +kernel) rfl, T0_1 1 (by decide +kernel) rfl, by decide +kernel, by decide +kernel, by decide +kernel⟩, by decide, rfl, T0_3 199 (by decide +kernel) rfl, T0_3 200 (by decide +kernel) rfl⟩
def y9_worst : MethodName := ⟨"TeethingParish", "worst", "()I"⟩
abbrev c9_worst : ByteArray := prog_1_method_14_code
theorem mf9_worst : MFv 9 y9_worst c9_worst 4 (some .int) 0 := ⟨⟨T0_3 209 (by decide +kernel) rfl, T0_1 1 (by decide +kernel) rfl, by decide +kernel, by decide +kernel, by decide +kernel⟩, by decide, rfl, T0_3 207 (by decide +kernel) rfl, T0_3 208 (by decide +kernel) rfl⟩
def y9_crowded : MethodName := ⟨"TeethingParish", "crowded", "()I"⟩
abbrev c9_crowded : ByteArray := prog_1_method_15_code
theorem mf9_crowded : MFv 9 y9_crowded c9_crowded 2 (some .int) 0 := ⟨⟨T0_3 213 (by decide +kernel) rfl, T0_1 1 (by decide +kernel) rfl, by decide +kernel, by decide +kernel, by decide +kernel⟩, by decide, rfl, T0_3 211 (by decide +kernel) rfl, T0_3 212 (by decide +kernel) rfl⟩
def y9_holds : MethodName := ⟨"TeethingParish", "holds", "(I)I"⟩
abbrev c9_holds : ByteArray := prog_1_method_16_code
theorem mf9_holds : MFv 9 y9_holds c9_holds 2 (some .int) 1 := ⟨⟨T0_3 217 (by decide +kernel) rfl, T0_1 1 (by decide +kernel) rfl, by decide +kernel, by decide +kernel, by decide +kernel⟩, by decide, rfl, T0_3 215 (by decide +kernel) rfl, T0_3 216 (by decide +kernel) rfl⟩
def y9_cut : MethodName := ⟨"TeethingParish", "cut", "(I)I"⟩
abbrev c9_cut : ByteArray := prog_1_method_17_code
theorem mf9_cut : MFv 9 y9_cut c9_cut 2 (some .int) 1 := ⟨⟨T0_3 221 (by decide +kernel) rfl, T0_1 1 (by decide +kernel) rfl, by decide +kernel, by decide +kernel, by decide +kernel⟩, by decide, rfl, T0_3 219 (by decide +kernel) rfl, T0_3 220 (by decide +kernel) rfl⟩
def y9_feast : MethodName := ⟨"TeethingParish", "feast", "()I"⟩
abbrev c9_feast : ByteArray := prog_1_method_18_code
theorem mf9_feast : MFv 9 y9_feast c9_feast 1 (some .int) 0 := ⟨⟨T0_3 225 (by decide +kernel) rfl, T0_1 1 (by decide +kernel) rfl, by decide +kernel, by decide +kernel, by decide +kernel⟩, by decide, rfl, T0_3 223 (by decide +kernel) rfl, T0_3 224 (by decide +kernel) rfl⟩
def y9_paid : MethodName := ⟨"TeethingParish", "paid", "()I"⟩
abbrev c9_paid : ByteArray := prog_1_method_19_code
theorem mf9_paid : MFv 9 y9_paid c9_paid 1 (some .int) 0 := ⟨⟨T0_3 233 (by decide +kernel) rfl, T0_1 1 (by decide +kernel) rfl, by decide +kernel, by decide +kernel, by decide +kernel⟩, by decide, rfl, T0_3 231 (by decide +kernel) rfl, T0_3 232 (by decide +kernel) rfl⟩
def y9_quiet : MethodName := ⟨"TeethingParish", "quiet", "()I"⟩
abbrev c9_quiet : ByteArray := prog_1_method_20_code
theorem mf9_quiet : MFv 9 y9_quiet c9_quiet 3 (some .int) 0 := ⟨⟨T0_4 1 (by decide +kernel) rfl, T0_1 1 (by decide +kernel) rfl, by decide +kernel, by decide +kernel, by decide +kernel⟩, by decide, rfl, T0_3 239 (by decide +kernel) rfl, T0_4 0 (by decide +kernel) rfl⟩
def y9_kept : MethodName := ⟨"TeethingParish", "kept", "()I"⟩
abbrev c9_kept : ByteArray := prog_1_method_21_code
theorem mf9_kept : MFv 9 y9_kept c9_kept 3 (some .int) 0 := ⟨⟨T0_4 5 (by decide +kernel) rfl, T0_1 1 (by decide +kernel) rfl, by decide +kernel, by decide +kernel, by decide +kernel⟩, by decide, rfl, T0_4 3 (by decide +kernel) rfl, T0_4 4 (by decide +kernel) rfl⟩
def y9_idle : MethodName := ⟨"TeethingParish", "idle", "()I"⟩
abbrev c9_idle : ByteArray := prog_1_method_22_code
theorem mf9_idle : MFv 9 y9_idle c9_idle 3 (some .int) 0 := ⟨⟨T0_4 9 (by decide +kernel) rfl, T0_1 1 (by decide +kernel) rfl, by decide +kernel, by decide +kernel, by decide +kernel⟩, by decide, rfl, T0_4 7 (by decide +kernel) rfl, T0_4 8 (by decide +kernel) rfl⟩
def y9_big : MethodName := ⟨"TeethingParish", "big", "(I)I"⟩
abbrev c9_big : ByteArray := prog_1_method_23_code
theorem mf9_big : MFv 9 y9_big c9_big 5 (some .int) 1 := ⟨⟨T0_4 13 (by decide +kernel) rfl, T0_1 1 (by decide +kernel) rfl, by decide +kernel, by decide +kernel, by decide +kernel⟩, by decide, rfl, T0_4 11 (by decide +kernel) rfl, T0_4 12 (by decide +kernel) rfl⟩
def y9_last : MethodName := ⟨"TeethingParish", "last", "()I"⟩
abbrev c9_last : ByteArray := prog_1_method_24_code
theorem mf9_last : MFv 9 y9_last c9_last 3 (some .int) 0 := ⟨⟨T0_4 17 (by decide +kernel) rfl, T0_1 1 (by decide +kernel) rfl, by decide +kernel, by decide +kernel, by decide +kernel⟩, by decide, rfl, T0_4 15 (by decide +kernel) rfl, T0_4 16 (by decide +kernel) rfl⟩
def y9_gap : MethodName := ⟨"TeethingParish", "gap", "(I)I"⟩
abbrev c9_gap : ByteArray := prog_1_method_25_code
theorem mf9_gap : MFv 9 y9_gap c9_gap 3 (some .int) 1 := ⟨⟨T0_4 24 (by decide +kernel) rfl, T0_1 1 (by decide +kernel) rfl, by decide +kernel, by decide +kernel, by decide +kernel⟩, by decide, rfl, T0_4 22 (by decide +kernel) rfl, T0_4 23 (by decide +kernel) rfl⟩
def y9_when : MethodName := ⟨"TeethingParish", "when", "(I)I"⟩
abbrev c9_when : ByteArray := prog_1_method_26_code
theorem mf9_when : MFv 9 y9_when c9_when 2 (some .int) 1 := ⟨⟨T0_4 28 (by decide +kernel) rfl, T0_1 1 (by decide +kernel) rfl, by decide +kernel, by decide +kernel, by decide +kernel⟩, by decide, rfl, T0_4 26 (by decide +kernel) rfl, T0_4 27 (by decide +kernel) rfl⟩
def y9_share : MethodName := ⟨"TeethingParish", "share", "(II)I"⟩
abbrev c9_share : ByteArray := prog_1_method_27_code
theorem mf9_share : MFv 9 y9_share c9_share 3 (some .int) 2 := ⟨⟨T0_4 32 (by decide +kernel) rfl, T0_1 1 (by decide +kernel) rfl, by decide +kernel, by decide +kernel, by decide +kernel⟩, by decide, rfl, T0_4 30 (by decide +kernel) rfl, T0_4 31 (by decide +kernel) rfl⟩
def y9_suits : MethodName := ⟨"TeethingParish", "suits", "(I)I"⟩
abbrev c9_suits : ByteArray := prog_1_method_28_code
theorem mf9_suits : MFv 9 y9_suits c9_suits 5 (some .int) 1 := ⟨⟨T0_4 46 (by decide +kernel) rfl, T0_1 1 (by decide +kernel) rfl, by decide +kernel, by decide +kernel, by decide +kernel⟩, by decide, rfl, T0_4 44 (by decide +kernel) rfl, T0_4 45 (by decide +kernel) rfl⟩
def y9_without : MethodName := ⟨"TeethingParish", "without", "(I)I"⟩
abbrev c9_without : ByteArray := prog_1_method_29_code
theorem mf9_without : MFv 9 y9_without c9_without 2 (some .int) 1 := ⟨⟨T0_4 51 (by decide +kernel) rfl, T0_1 1 (by decide +kernel) rfl, by decide +kernel, by decide +kernel, by decide +kernel⟩, by decide, rfl, T0_4 49 (by decide +kernel) rfl, T0_4 50 (by decide +kernel) rfl⟩
def y9_blocks : MethodName := ⟨"TeethingParish", "blocks", "(I)I"⟩
abbrev c9_blocks : ByteArray := prog_1_method_30_code
theorem mf9_blocks : MFv 9 y9_blocks c9_blocks 4 (some .int) 1 := ⟨⟨T0_4 59 (by decide +kernel) rfl, T0_1 1 (by decide +kernel) rfl, by decide +kernel, by decide +kernel, by decide +kernel⟩, by decide, rfl, T0_4 57 (by decide +kernel) rfl, T0_4 58 (by decide +kernel) rfl⟩
def y9_wide : MethodName := ⟨"TeethingParish", "wide", "()I"⟩
abbrev c9_wide : ByteArray := prog_1_method_31_code
theorem mf9_wide : MFv 9 y9_wide c9_wide 2 (some .int) 0 := ⟨⟨T0_4 63 (by decide +kernel) rfl, T0_1 1 (by decide +kernel) rfl, by decide +kernel, by decide +kernel, by decide +kernel⟩, by decide, rfl, T0_4 61 (by decide +kernel) rfl, T0_4 62 (by decide +kernel) rfl⟩
def y9_mild : MethodName := ⟨"TeethingParish", "mild", "(I)I"⟩
abbrev c9_mild : ByteArray := prog_1_method_32_code
theorem mf9_mild : MFv 9 y9_mild c9_mild 6 (some .int) 1 := ⟨⟨T0_4 67 (by decide +kernel) rfl, T0_1 1 (by decide +kernel) rfl, by decide +kernel, by decide +kernel, by decide +kernel⟩, by decide, rfl, T0_4 65 (by decide +kernel) rfl, T0_4 66 (by decide +kernel) rfl⟩
def y9_by : MethodName := ⟨"TeethingParish", "by", "(I)I"⟩
abbrev c9_by : ByteArray := prog_1_method_33_code
theorem mf9_by : MFv 9 y9_by c9_by 2 (some .int) 1 := ⟨⟨T0_4 71 (by decide +kernel) rfl, T0_1 1 (by decide +kernel) rfl, by decide +kernel, by decide +kernel, by decide +kernel⟩, by decide, rfl, T0_4 69 (by decide +kernel) rfl, T0_4 70 (by decide +kernel) rfl⟩
def y9_rule : MethodName := ⟨"TeethingParish", "rule", "()I"⟩
abbrev c9_rule : ByteArray := prog_1_method_34_code
theorem mf9_rule : MFv 9 y9_rule c9_rule 4 (some .int) 0 := ⟨⟨T0_4 83 (by decide +kernel) rfl, T0_1 1 (by decide +kernel) rfl, by decide +kernel, by decide +kernel, by decide +kernel⟩, by decide, rfl, T0_4 81 (by decide +kernel) rfl, T0_4 82 (by decide +kernel) rfl⟩
def y9_groan : MethodName := ⟨"TeethingParish", "groan", "(I)I"⟩
abbrev c9_groan : ByteArray := prog_1_method_35_code
theorem mf9_groan : MFv 9 y9_groan c9_groan 2 (some .int) 1 := ⟨⟨T0_4 87 (by decide +kernel) rfl, T0_1 1 (by decide +kernel) rfl, by decide +kernel, by decide +kernel, by decide +kernel⟩, by decide, rfl, T0_4 85 (by decide +kernel) rfl, T0_4 86 (by decide +kernel) rfl⟩
def y9_tempts : MethodName := ⟨"TeethingParish", "tempts", "(I)I"⟩
abbrev c9_tempts : ByteArray := prog_1_method_36_code
theorem mf9_tempts : MFv 9 y9_tempts c9_tempts 2 (some .int) 1 := ⟨⟨T0_4 99 (by decide +kernel) rfl, T0_1 1 (by decide +kernel) rfl, by decide +kernel, by decide +kernel, by decide +kernel⟩, by decide, rfl, T0_4 97 (by decide +kernel) rfl, T0_4 98 (by decide +kernel) rfl⟩
def y9_proof : MethodName := ⟨"TeethingParish", "proof", "()I"⟩
abbrev c9_proof : ByteArray := prog_1_method_37_code
theorem mf9_proof : MFv 9 y9_proof c9_proof 3 (some .int) 0 := ⟨⟨T0_4 107 (by decide +kernel) rfl, T0_1 1 (by decide +kernel) rfl, by decide +kernel, by decide +kernel, by decide +kernel⟩, by decide, rfl, T0_4 105 (by decide +kernel) rfl, T0_4 106 (by decide +kernel) rfl⟩
def y9_least : MethodName := ⟨"TeethingParish", "least", "()I"⟩
abbrev c9_least : ByteArray := prog_1_method_38_code
theorem mf9_least : MFv 9 y9_least c9_least 1 (some .int) 0 := ⟨⟨T0_4 111 (by decide +kernel) rfl, T0_1 1 (by decide +kernel) rfl, by decide +kernel, by decide +kernel, by decide +kernel⟩, by decide, rfl, T0_4 109 (by decide +kernel) rfl, T0_4 110 (by decide +kernel) rfl⟩
def y9_regret : MethodName := ⟨"TeethingParish", "regret", "()I"⟩
abbrev c9_regret : ByteArray := prog_1_method_39_code
theorem mf9_regret : MFv 9 y9_regret c9_regret 1 (some .int) 0 := ⟨⟨T0_4 148 (by decide +kernel) rfl, T0_1 1 (by decide +kernel) rfl, by decide +kernel, by decide +kernel, by decide +kernel⟩, by decide, rfl, T0_4 146 (by decide +kernel) rfl, T0_4 147 (by decide +kernel) rfl⟩
def y9_plan : MethodName := ⟨"TeethingParish", "plan", "(I)I"⟩
abbrev c9_plan : ByteArray := prog_1_method_40_code
theorem mf9_plan : MFv 9 y9_plan c9_plan 2 (some .int) 1 := ⟨⟨T0_4 152 (by decide +kernel) rfl, T0_1 1 (by decide +kernel) rfl, by decide +kernel, by decide +kernel, by decide +kernel⟩, by decide, rfl, T0_4 150 (by decide +kernel) rfl, T0_4 151 (by decide +kernel) rfl⟩
def y9_ways : MethodName := ⟨"TeethingParish", "ways", "()J"⟩
abbrev c9_ways : ByteArray := prog_1_method_41_code
theorem mf9_ways : MFv 9 y9_ways c9_ways 1 (some .long) 0 := ⟨⟨T0_4 161 (by decide +kernel) rfl, T0_1 1 (by decide +kernel) rfl, by decide +kernel, by decide +kernel, by decide +kernel⟩, by decide, rfl, T0_4 159 (by decide +kernel) rfl, T0_4 160 (by decide +kernel) rfl⟩
def y9_room : MethodName := ⟨"TeethingParish", "room", "(I)I"⟩
abbrev c9_room : ByteArray := prog_1_method_42_code
theorem mf9_room : MFv 9 y9_room c9_room 2 (some .int) 1 := ⟨⟨T0_4 166 (by decide +kernel) rfl, T0_1 1 (by decide +kernel) rfl, by decide +kernel, by decide +kernel, by decide +kernel⟩, by decide, rfl, T0_4 164 (by decide +kernel) rfl, T0_4 165 (by decide +kernel) rfl⟩
def y9_pairs : MethodName := ⟨"TeethingParish", "pairs", "()I"⟩
abbrev c9_pairs : ByteArray := prog_1_method_43_code
theorem mf9_pairs : MFv 9 y9_pairs c9_pairs 1 (some .int) 0 := ⟨⟨T0_4 178 (by decide +kernel) rfl, T0_1 1 (by decide +kernel) rfl, by decide +kernel, by decide +kernel, by decide +kernel⟩, by decide, rfl, T0_4 176 (by decide +kernel) rfl, T0_4 177 (by decide +kernel) rfl⟩
def y9_bearer : MethodName := ⟨"TeethingParish", "bearer", "(I)I"⟩
abbrev c9_bearer : ByteArray := prog_1_method_44_code
theorem mf9_bearer : MFv 9 y9_bearer c9_bearer 2 (some .int) 1 := ⟨⟨T0_4 199 (by decide +kernel) rfl, T0_1 1 (by decide +kernel) rfl, by decide +kernel, by decide +kernel, by decide +kernel⟩, by decide, rfl, T0_4 197 (by decide +kernel) rfl, T0_4 198 (by decide +kernel) rfl⟩
def y9_spoons : MethodName := ⟨"TeethingParish", "spoons", "()I"⟩
abbrev c9_spoons : ByteArray := prog_1_method_45_code
theorem mf9_spoons : MFv 9 y9_spoons c9_spoons 1 (some .int) 0 := ⟨⟨T0_4 203 (by decide +kernel) rfl, T0_1 1 (by decide +kernel) rfl, by decide +kernel, by decide +kernel, by decide +kernel⟩, by decide, rfl, T0_4 201 (by decide +kernel) rfl, T0_4 202 (by decide +kernel) rfl⟩
def y9_lonely : MethodName := ⟨"TeethingParish", "lonely", "()I"⟩
abbrev c9_lonely : ByteArray := prog_1_method_46_code
theorem mf9_lonely : MFv 9 y9_lonely c9_lonely 3 (some .int) 0 := ⟨⟨T0_4 207 (by decide +kernel) rfl, T0_1 1 (by decide +kernel) rfl, by decide +kernel, by decide +kernel, by decide +kernel⟩, by decide, rfl, T0_4 205 (by decide +kernel) rfl, T0_4 206 (by decide +kernel) rfl⟩
def y9_kinder : MethodName := ⟨"TeethingParish", "kinder", "(I)I"⟩
abbrev c9_kinder : ByteArray := prog_1_method_47_code
theorem mf9_kinder : MFv 9 y9_kinder c9_kinder 3 (some .int) 1 := ⟨⟨T0_4 211 (by decide +kernel) rfl, T0_1 1 (by decide +kernel) rfl, by decide +kernel, by decide +kernel, by decide +kernel⟩, by decide, rfl, T0_4 209 (by decide +kernel) rfl, T0_4 210 (by decide +kernel) rfl⟩
def y9_whose : MethodName := ⟨"TeethingParish", "whose", "(I)I"⟩
abbrev c9_whose : ByteArray := prog_1_method_48_code
theorem mf9_whose : MFv 9 y9_whose c9_whose 3 (some .int) 1 := ⟨⟨T0_4 234 (by decide +kernel) rfl, T0_1 1 (by decide +kernel) rfl, by decide +kernel, by decide +kernel, by decide +kernel⟩, by decide, rfl, T0_4 232 (by decide +kernel) rfl, T0_4 233 (by decide +kernel) rfl⟩
def y9_fits : MethodName := ⟨"TeethingParish", "fits", "(I)I"⟩
abbrev c9_fits : ByteArray := prog_1_method_49_code
theorem mf9_fits : MFv 9 y9_fits c9_fits 3 (some .int) 1 := ⟨⟨T0_5 32 (by decide +kernel) rfl, T0_1 1 (by decide +kernel) rfl, by decide +kernel, by decide +kernel, by decide +kernel⟩, by decide, rfl, T0_5 30 (by decide +kernel) rfl, T0_5 31 (by decide +kernel) rfl⟩
def y9_ask : MethodName := ⟨"TeethingParish", "ask", "(I)I"⟩
abbrev c9_ask : ByteArray := prog_1_method_50_code
theorem mf9_ask : MFv 9 y9_ask c9_ask 3 (some .int) 1 := ⟨⟨T0_5 37 (by decide +kernel) rfl, T0_1 1 (by decide +kernel) rfl, by decide +kernel, by decide +kernel, by decide +kernel⟩, by decide, rfl, T0_5 35 (by decide +kernel) rfl, T0_5 36 (by decide +kernel) rfl⟩
def y9_leaves : MethodName := ⟨"TeethingParish", "leaves", "(I)I"⟩
abbrev c9_leaves : ByteArray := prog_1_method_51_code
theorem mf9_leaves : MFv 9 y9_leaves c9_leaves 3 (some .int) 1 := ⟨⟨T0_5 41 (by decide +kernel) rfl, T0_1 1 (by decide +kernel) rfl, by decide +kernel, by decide +kernel, by decide +kernel⟩, by decide, rfl, T0_5 39 (by decide +kernel) rfl, T0_5 40 (by decide +kernel) rfl⟩
def y9_nights : MethodName := ⟨"TeethingParish", "nights", "(I)I"⟩
abbrev c9_nights : ByteArray := prog_1_method_52_code
theorem mf9_nights : MFv 9 y9_nights c9_nights 2 (some .int) 1 := ⟨⟨T0_5 45 (by decide +kernel) rfl, T0_1 1 (by decide +kernel) rfl, by decide +kernel, by decide +kernel, by decide +kernel⟩, by decide, rfl, T0_5 43 (by decide +kernel) rfl, T0_5 44 (by decide +kernel) rfl⟩
def y9_costs : MethodName := ⟨"TeethingParish", "costs", "(I)I"⟩
abbrev c9_costs : ByteArray := prog_1_method_53_code
theorem mf9_costs : MFv 9 y9_costs c9_costs 2 (some .int) 1 := ⟨⟨T0_5 59 (by decide +kernel) rfl, T0_1 1 (by decide +kernel) rfl, by decide +kernel, by decide +kernel, by decide +kernel⟩, by decide, rfl, T0_5 57 (by decide +kernel) rfl, T0_5 58 (by decide +kernel) rfl⟩
def y9_fair : MethodName := ⟨"TeethingParish", "fair", "(I)I"⟩
abbrev c9_fair : ByteArray := prog_1_method_54_code
theorem mf9_fair : MFv 9 y9_fair c9_fair 6 (some .int) 1 := ⟨⟨T0_5 67 (by decide +kernel) rfl, T0_1 1 (by decide +kernel) rfl, by decide +kernel, by decide +kernel, by decide +kernel⟩, by decide, rfl, T0_5 65 (by decide +kernel) rfl, T0_5 66 (by decide +kernel) rfl⟩
def y9_leave : MethodName := ⟨"TeethingParish", "leave", "(I)I"⟩
abbrev c9_leave : ByteArray := prog_1_method_55_code
theorem mf9_leave : MFv 9 y9_leave c9_leave 3 (some .int) 1 := ⟨⟨T0_5 85 (by decide +kernel) rfl, T0_1 1 (by decide +kernel) rfl, by decide +kernel, by decide +kernel, by decide +kernel⟩, by decide, rfl, T0_5 83 (by decide +kernel) rfl, T0_5 84 (by decide +kernel) rfl⟩
def y9_rests : MethodName := ⟨"TeethingParish", "rests", "(II)I"⟩
abbrev c9_rests : ByteArray := prog_1_method_56_code
theorem mf9_rests : MFv 9 y9_rests c9_rests 5 (some .int) 2 := ⟨⟨T0_5 89 (by decide +kernel) rfl, T0_1 1 (by decide +kernel) rfl, by decide +kernel, by decide +kernel, by decide +kernel⟩, by decide, rfl, T0_5 87 (by decide +kernel) rfl, T0_5 88 (by decide +kernel) rfl⟩
def y9_rest : MethodName := ⟨"TeethingParish", "rest", "(II)I"⟩
abbrev c9_rest : ByteArray := prog_1_method_57_code
theorem mf9_rest : MFv 9 y9_rest c9_rest 4 (some .int) 2 := ⟨⟨T0_5 109 (by decide +kernel) rfl, T0_1 1 (by decide +kernel) rfl, by decide +kernel, by decide +kernel, by decide +kernel⟩, by decide, rfl, T0_5 107 (by decide +kernel) rfl, T0_5 108 (by decide +kernel) rfl⟩
def y9_holding : MethodName := ⟨"TeethingParish", "holding", "(IIII)I"⟩
abbrev c9_holding : ByteArray := prog_1_method_58_code
theorem mf9_holding : MFv 9 y9_holding c9_holding 5 (some .int) 4 := ⟨⟨T0_5 113 (by decide +kernel) rfl, T0_1 1 (by decide +kernel) rfl, by decide +kernel, by decide +kernel, by decide +kernel⟩, by decide, rfl, T0_5 111 (by decide +kernel) rfl, T0_5 112 (by decide +kernel) rfl⟩
def y9_born : MethodName := ⟨"TeethingParish", "born", "(II)J"⟩
abbrev c9_born : ByteArray := prog_1_method_59_code
theorem mf9_born : MFv 9 y9_born c9_born 8 (some .long) 2 := ⟨⟨T0_5 121 (by decide +kernel) rfl, T0_1 1 (by decide +kernel) rfl, by decide +kernel, by decide +kernel, by decide +kernel⟩, by decide, rfl, T0_5 119 (by decide +kernel) rfl, T0_5 120 (by decide +kernel) rfl⟩
def y9_mean : MethodName := ⟨"TeethingParish", "mean", "(I)J"⟩
abbrev c9_mean : ByteArray := prog_1_method_60_code
theorem mf9_mean : MFv 9 y9_mean c9_mean 9 (some .long) 1 := ⟨⟨T0_5 126 (by decide +kernel) rfl, T0_1 1 (by decide +kernel) rfl, by decide +kernel, by decide +kernel, by decide +kernel⟩, by decide, rfl, T0_5 124 (by decide +kernel) rfl, T0_5 125 (by decide +kernel) rfl⟩
def y9_late : MethodName := ⟨"TeethingParish", "late", "(I)I"⟩
abbrev c9_late : ByteArray := prog_1_method_61_code
theorem mf9_late : MFv 9 y9_late c9_late 2 (some .int) 1 := ⟨⟨T0_5 134 (by decide +kernel) rfl, T0_1 1 (by decide +kernel) rfl, by decide +kernel, by decide +kernel, by decide +kernel⟩, by decide, rfl, T0_5 132 (by decide +kernel) rfl, T0_5 133 (by decide +kernel) rfl⟩
def y9_drawn : MethodName := ⟨"TeethingParish", "drawn", "(II)I"⟩
abbrev c9_drawn : ByteArray := prog_1_method_62_code
theorem mf9_drawn : MFv 9 y9_drawn c9_drawn 4 (some .int) 2 := ⟨⟨T0_5 138 (by decide +kernel) rfl, T0_1 1 (by decide +kernel) rfl, by decide +kernel, by decide +kernel, by decide +kernel⟩, by decide, rfl, T0_5 136 (by decide +kernel) rfl, T0_5 137 (by decide +kernel) rfl⟩
def y9_luck : MethodName := ⟨"TeethingParish", "luck", "(III)I"⟩
abbrev c9_luck : ByteArray := prog_1_method_63_code
theorem mf9_luck : MFv 9 y9_luck c9_luck 7 (some .int) 3 := ⟨⟨T0_5 155 (by decide +kernel) rfl, T0_1 1 (by decide +kernel) rfl, by decide +kernel, by decide +kernel, by decide +kernel⟩, by decide, rfl, T0_5 153 (by decide +kernel) rfl, T0_5 154 (by decide +kernel) rfl⟩
def y9_ache : MethodName := ⟨"TeethingParish", "ache", "(II)I"⟩
abbrev c9_ache : ByteArray := prog_1_method_64_code
theorem mf9_ache : MFv 9 y9_ache c9_ache 3 (some .int) 2 := ⟨⟨T0_5 159 (by decide +kernel) rfl, T0_1 1 (by decide +kernel) rfl, by decide +kernel, by decide +kernel, by decide +kernel⟩, by decide, rfl, T0_5 157 (by decide +kernel) rfl, T0_5 158 (by decide +kernel) rfl⟩
def y9_comes : MethodName := ⟨"TeethingParish", "comes", "(II)I"⟩
abbrev c9_comes : ByteArray := prog_1_method_65_code
theorem mf9_comes : MFv 9 y9_comes c9_comes 3 (some .int) 2 := ⟨⟨T0_5 171 (by decide +kernel) rfl, T0_1 1 (by decide +kernel) rfl, by decide +kernel, by decide +kernel, by decide +kernel⟩, by decide, rfl, T0_5 169 (by decide +kernel) rfl, T0_5 170 (by decide +kernel) rfl⟩
def y9_undo : MethodName := ⟨"TeethingParish", "undo", "()I"⟩
abbrev c9_undo : ByteArray := prog_1_method_66_code
theorem mf9_undo : MFv 9 y9_undo c9_undo 1 (some .int) 0 := ⟨⟨T0_5 175 (by decide +kernel) rfl, T0_1 1 (by decide +kernel) rfl, by decide +kernel, by decide +kernel, by decide +kernel⟩, by decide, rfl, T0_5 173 (by decide +kernel) rfl, T0_5 174 (by decide +kernel) rfl⟩
def y9_anew : MethodName := ⟨"TeethingParish", "anew", "()I"⟩
abbrev c9_anew : ByteArray := prog_1_method_67_code
theorem mf9_anew : MFv 9 y9_anew c9_anew 3 (some .int) 0 := ⟨⟨T0_5 183 (by decide +kernel) rfl, T0_1 1 (by decide +kernel) rfl, by decide +kernel, by decide +kernel, by decide +kernel⟩, by decide, rfl, T0_5 181 (by decide +kernel) rfl, T0_5 182 (by decide +kernel) rfl⟩
def y9_widen : MethodName := ⟨"TeethingParish", "widen", "(I)I"⟩
abbrev c9_widen : ByteArray := prog_1_method_68_code
theorem mf9_widen : MFv 9 y9_widen c9_widen 3 (some .int) 1 := ⟨⟨T0_5 187 (by decide +kernel) rfl, T0_1 1 (by decide +kernel) rfl, by decide +kernel, by decide +kernel, by decide +kernel⟩, by decide, rfl, T0_5 185 (by decide +kernel) rfl, T0_5 186 (by decide +kernel) rfl⟩
def y9_count : MethodName := ⟨"TeethingParish", "count", "(I)I"⟩
abbrev c9_count : ByteArray := prog_1_method_69_code
theorem mf9_count : MFv 9 y9_count c9_count 2 (some .int) 1 := ⟨⟨T0_5 191 (by decide +kernel) rfl, T0_1 1 (by decide +kernel) rfl, by decide +kernel, by decide +kernel, by decide +kernel⟩, by decide, rfl, T0_5 189 (by decide +kernel) rfl, T0_5 190 (by decide +kernel) rfl⟩
def y9_image : MethodName := ⟨"TeethingParish", "image", "(I)I"⟩
abbrev c9_image : ByteArray := prog_1_method_70_code
theorem mf9_image : MFv 9 y9_image c9_image 2 (some .int) 1 := ⟨⟨T0_5 199 (by decide +kernel) rfl, T0_1 1 (by decide +kernel) rfl, by decide +kernel, by decide +kernel, by decide +kernel⟩, by decide, rfl, T0_5 197 (by decide +kernel) rfl, T0_5 198 (by decide +kernel) rfl⟩
def y9_back : MethodName := ⟨"TeethingParish", "back", "(I)I"⟩
abbrev c9_back : ByteArray := prog_1_method_71_code
theorem mf9_back : MFv 9 y9_back c9_back 2 (some .int) 1 := ⟨⟨T0_5 207 (by decide +kernel) rfl, T0_1 1 (by decide +kernel) rfl, by decide +kernel, by decide +kernel, by decide +kernel⟩, by decide, rfl, T0_5 205 (by decide +kernel) rfl, T0_5 206 (by decide +kernel) rfl⟩
def y9_row : MethodName := ⟨"TeethingParish", "row", "(III)I"⟩
abbrev c9_row : ByteArray := prog_1_method_72_code
theorem mf9_row : MFv 9 y9_row c9_row 4 (some .int) 3 := ⟨⟨T0_5 211 (by decide +kernel) rfl, T0_1 1 (by decide +kernel) rfl, by decide +kernel, by decide +kernel, by decide +kernel⟩, by decide, rfl, T0_5 209 (by decide +kernel) rfl, T0_5 210 (by decide +kernel) rfl⟩
def y9_write : MethodName := ⟨"TeethingParish", "write", "(IIJ)I"⟩
abbrev c9_write : ByteArray := prog_1_method_73_code
theorem mf9_write : MFv 9 y9_write c9_write 6 (some .int) 3 := ⟨⟨T0_5 222 (by decide +kernel) rfl, T0_1 1 (by decide +kernel) rfl, by decide +kernel, by decide +kernel, by decide +kernel⟩, by decide, rfl, T0_5 220 (by decide +kernel) rfl, T0_5 221 (by decide +kernel) rfl⟩
def y9_paste : MethodName := ⟨"TeethingParish", "paste", "(IIIII)I"⟩
abbrev c9_paste : ByteArray := prog_1_method_74_code
theorem mf9_paste : MFv 9 y9_paste c9_paste 8 (some .int) 5 := ⟨⟨T0_5 230 (by decide +kernel) rfl, T0_1 1 (by decide +kernel) rfl, by decide +kernel, by decide +kernel, by decide +kernel⟩, by decide, rfl, T0_5 228 (by decide +kernel) rfl, T0_5 229 (by decide +kernel) rfl⟩
def y9_isThere : MethodName := ⟨"TeethingParish", "isThere", "()Z"⟩
abbrev c9_isThere : ByteArray := prog_1_method_75_code
theorem mf9_isThere : MFv 9 y9_isThere c9_isThere 1 (some .boolean) 0 := ⟨⟨T0_3 205 (by decide +kernel) rfl, T0_1 1 (by decide +kernel) rfl, by decide +kernel, by decide +kernel, by decide +kernel⟩, by decide, rfl, T0_3 204 (by decide +kernel) rfl, T0_sel 20 (by decide +kernel) rfl⟩
def y9_isPerson : MethodName := ⟨"TeethingParish", "isPerson", "(I)Z"⟩
abbrev c9_isPerson : ByteArray := prog_1_method_76_code
theorem mf9_isPerson : MFv 9 y9_isPerson c9_isPerson 2 (some .boolean) 1 := ⟨⟨T0_3 169 (by decide +kernel) rfl, T0_1 1 (by decide +kernel) rfl, by decide +kernel, by decide +kernel, by decide +kernel⟩, by decide, rfl, T0_3 168 (by decide +kernel) rfl, T0_sel 18 (by decide +kernel) rfl⟩
def y9_areTwo : MethodName := ⟨"TeethingParish", "areTwo", "(II)Z"⟩
abbrev c9_areTwo : ByteArray := prog_1_method_77_code
theorem mf9_areTwo : MFv 9 y9_areTwo c9_areTwo 3 (some .boolean) 2 := ⟨⟨T0_5 93 (by decide +kernel) rfl, T0_1 1 (by decide +kernel) rfl, by decide +kernel, by decide +kernel, by decide +kernel⟩, by decide, rfl, T0_5 92 (by decide +kernel) rfl, T0_sel 58 (by decide +kernel) rfl⟩
def y9_isNight : MethodName := ⟨"TeethingParish", "isNight", "(I)Z"⟩
abbrev c9_isNight : ByteArray := prog_1_method_78_code
theorem mf9_isNight : MFv 9 y9_isNight c9_isNight 2 (some .boolean) 1 := ⟨⟨T0_3 181 (by decide +kernel) rfl, T0_1 1 (by decide +kernel) rfl, by decide +kernel, by decide +kernel, by decide +kernel⟩, by decide, rfl, T0_3 180 (by decide +kernel) rfl, T0_sel 19 (by decide +kernel) rfl⟩
def y9_isSet : MethodName := ⟨"TeethingParish", "isSet", "(I)Z"⟩
abbrev c9_isSet : ByteArray := prog_1_method_79_code
theorem mf9_isSet : MFv 9 y9_isSet c9_isSet 2 (some .boolean) 1 := ⟨⟨T0_4 215 (by decide +kernel) rfl, T0_1 1 (by decide +kernel) rfl, by decide +kernel, by decide +kernel, by decide +kernel⟩, by decide, rfl, T0_4 214 (by decide +kernel) rfl, T0_sel 42 (by decide +kernel) rfl⟩
def y9_isRule : MethodName := ⟨"TeethingParish", "isRule", "(I)Z"⟩
abbrev c9_isRule : ByteArray := prog_1_method_80_code
theorem mf9_isRule : MFv 9 y9_isRule c9_isRule 2 (some .boolean) 1 := ⟨⟨T0_4 75 (by decide +kernel) rfl, T0_1 1 (by decide +kernel) rfl, by decide +kernel, by decide +kernel, by decide +kernel⟩, by decide, rfl, T0_4 74 (by decide +kernel) rfl, T0_sel 25 (by decide +kernel) rfl⟩
def y9_isPart : MethodName := ⟨"TeethingParish", "isPart", "(I)Z"⟩
abbrev c9_isPart : ByteArray := prog_1_method_81_code
theorem mf9_isPart : MFv 9 y9_isPart c9_isPart 2 (some .boolean) 1 := ⟨⟨T0_4 36 (by decide +kernel) rfl, T0_1 1 (by decide +kernel) rfl, by decide +kernel, by decide +kernel, by decide +kernel⟩, by decide, rfl, T0_4 35 (by decide +kernel) rfl, T0_sel 23 (by decide +kernel) rfl⟩
def y9_isSeed : MethodName := ⟨"TeethingParish", "isSeed", "(I)Z"⟩
abbrev c9_isSeed : ByteArray := prog_1_method_82_code
theorem mf9_isSeed : MFv 9 y9_isSeed c9_isSeed 2 (some .boolean) 1 := ⟨⟨T0_5 142 (by decide +kernel) rfl, T0_1 1 (by decide +kernel) rfl, by decide +kernel, by decide +kernel, by decide +kernel⟩, by decide, rfl, T0_5 141 (by decide +kernel) rfl, T0_sel 64 (by decide +kernel) rfl⟩
def y9_isHeldBack : MethodName := ⟨"TeethingParish", "isHeldBack", "(I)Z"⟩
abbrev c9_isHeldBack : ByteArray := prog_1_method_83_code
theorem mf9_isHeldBack : MFv 9 y9_isHeldBack c9_isHeldBack 2 (some .boolean) 1 := ⟨⟨T0_5 117 (by decide +kernel) rfl, T0_1 1 (by decide +kernel) rfl, by decide +kernel, by decide +kernel, by decide +kernel⟩, by decide, rfl, T0_5 116 (by decide +kernel) rfl, T0_sel 62 (by decide +kernel) rfl⟩
def y9_isImage : MethodName := ⟨"TeethingParish", "isImage", "(I)Z"⟩
abbrev c9_isImage : ByteArray := prog_1_method_84_code
theorem mf9_isImage : MFv 9 y9_isImage c9_isImage 2 (some .boolean) 1 := ⟨⟨T0_5 203 (by decide +kernel) rfl, T0_1 1 (by decide +kernel) rfl, by decide +kernel, by decide +kernel, by decide +kernel⟩, by decide, rfl, T0_5 202 (by decide +kernel) rfl, T0_sel 70 (by decide +kernel) rfl⟩
def y9_isSlot : MethodName := ⟨"TeethingParish", "isSlot", "(I)Z"⟩
abbrev c9_isSlot : ByteArray := prog_1_method_85_code
theorem mf9_isSlot : MFv 9 y9_isSlot c9_isSlot 2 (some .boolean) 1 := ⟨⟨T0_5 6 (by decide +kernel) rfl, T0_1 1 (by decide +kernel) rfl, by decide +kernel, by decide +kernel, by decide +kernel⟩, by decide, rfl, T0_5 5 (by decide +kernel) rfl, T0_sel 47 (by decide +kernel) rfl⟩
def y9_slotsWithRows : MethodName := ⟨"TeethingParish", "slotsWithRows", "()I"⟩
abbrev c9_slotsWithRows : ByteArray := prog_1_method_86_code
theorem mf9_slotsWithRows : MFv 9 y9_slotsWithRows c9_slotsWithRows 3 (some .int) 0 := ⟨⟨T0_5 195 (by decide +kernel) rfl, T0_1 1 (by decide +kernel) rfl, by decide +kernel, by decide +kernel, by decide +kernel⟩, by decide, rfl, T0_5 194 (by decide +kernel) rfl, T0_sel 69 (by decide +kernel) rfl⟩
def y9_troubleOfRow : MethodName := ⟨"TeethingParish", "troubleOfRow", "(I)I"⟩
abbrev c9_troubleOfRow : ByteArray := prog_1_method_87_code
theorem mf9_troubleOfRow : MFv 9 y9_troubleOfRow c9_troubleOfRow 2 (some .int) 1 := ⟨⟨T0_5 2 (by decide +kernel) rfl, T0_1 1 (by decide +kernel) rfl, by decide +kernel, by decide +kernel, by decide +kernel⟩, by decide, rfl, T0_5 1 (by decide +kernel) rfl, T0_sel 46 (by decide +kernel) rfl⟩
def y9_troubleOfTeeth : MethodName := ⟨"TeethingParish", "troubleOfTeeth", "(I)I"⟩
abbrev c9_troubleOfTeeth : ByteArray := prog_1_method_88_code
theorem mf9_troubleOfTeeth : MFv 9 y9_troubleOfTeeth c9_troubleOfTeeth 5 (some .int) 1 := ⟨⟨T0_4 238 (by decide +kernel) rfl, T0_1 1 (by decide +kernel) rfl, by decide +kernel, by decide +kernel, by decide +kernel⟩, by decide, rfl, T0_4 237 (by decide +kernel) rfl, T0_sel 45 (by decide +kernel) rfl⟩
def y9_troubleOfShares : MethodName := ⟨"TeethingParish", "troubleOfShares", "(I)I"⟩
abbrev c9_troubleOfShares : ByteArray := prog_1_method_89_code
theorem mf9_troubleOfShares : MFv 9 y9_troubleOfShares c9_troubleOfShares 5 (some .int) 1 := ⟨⟨T0_5 71 (by decide +kernel) rfl, T0_1 1 (by decide +kernel) rfl, by decide +kernel, by decide +kernel, by decide +kernel⟩, by decide, rfl, T0_5 70 (by decide +kernel) rfl, T0_sel 55 (by decide +kernel) rfl⟩
def y9_changed : MethodName := ⟨"TeethingParish", "changed", "()V"⟩
abbrev c9_changed : ByteArray := prog_1_method_90_code
theorem mf9_changed : MFv 9 y9_changed c9_changed 1 (none) 0 := ⟨⟨T0_2 189 (by decide +kernel) rfl, T0_1 1 (by decide +kernel) rfl, by decide +kernel, by decide +kernel, by decide +kernel⟩, by decide, rfl, T0_2 188 (by decide +kernel) rfl, T0_sel 0 (by decide +kernel) rfl⟩
def y9_act : MethodName := ⟨"TeethingParish", "act", "(III)I"⟩
abbrev c9_act : ByteArray := prog_1_method_91_code
theorem mf9_act : MFv 9 y9_act c9_act 5 (some .int) 3 := ⟨⟨T0_5 163 (by decide +kernel) rfl, T0_1 1 (by decide +kernel) rfl, by decide +kernel, by decide +kernel, by decide +kernel⟩, by decide, rfl, T0_5 162 (by decide +kernel) rfl, T0_sel 66 (by decide +kernel) rfl⟩
def y9_nightOfTooth : MethodName := ⟨"TeethingParish", "nightOfTooth", "(I)I"⟩
abbrev c9_nightOfTooth : ByteArray := prog_1_method_92_code
theorem mf9_nightOfTooth : MFv 9 y9_nightOfTooth c9_nightOfTooth 3 (some .int) 1 := ⟨⟨T0_3 229 (by decide +kernel) rfl, T0_1 1 (by decide +kernel) rfl, by decide +kernel, by decide +kernel, by decide +kernel⟩, by decide, rfl, T0_3 228 (by decide +kernel) rfl, T0_sel 21 (by decide +kernel) rfl⟩
def y9_passWithout : MethodName := ⟨"TeethingParish", "passWithout", "(I)V"⟩
abbrev c9_passWithout : ByteArray := prog_1_method_93_code
theorem mf9_passWithout : MFv 9 y9_passWithout c9_passWithout 2 (none) 1 := ⟨⟨T0_4 55 (by decide +kernel) rfl, T0_1 1 (by decide +kernel) rfl, by decide +kernel, by decide +kernel, by decide +kernel⟩, by decide, rfl, T0_4 54 (by decide +kernel) rfl, T0_sel 24 (by decide +kernel) rfl⟩
def y9_passBy : MethodName := ⟨"TeethingParish", "passBy", "(I)V"⟩
abbrev c9_passBy : ByteArray := prog_1_method_94_code
theorem mf9_passBy : MFv 9 y9_passBy c9_passBy 2 (none) 1 := ⟨⟨T0_4 79 (by decide +kernel) rfl, T0_1 1 (by decide +kernel) rfl, by decide +kernel, by decide +kernel, by decide +kernel⟩, by decide, rfl, T0_4 78 (by decide +kernel) rfl, T0_sel 26 (by decide +kernel) rfl⟩
def y9_passBorn : MethodName := ⟨"TeethingParish", "passBorn", "(I)V"⟩
abbrev c9_passBorn : ByteArray := prog_1_method_95_code
theorem mf9_passBorn : MFv 9 y9_passBorn c9_passBorn 2 (none) 1 := ⟨⟨T0_5 130 (by decide +kernel) rfl, T0_1 1 (by decide +kernel) rfl, by decide +kernel, by decide +kernel, by decide +kernel⟩, by decide, rfl, T0_5 129 (by decide +kernel) rfl, T0_sel 63 (by decide +kernel) rfl⟩
def y9_leastGroan : MethodName := ⟨"TeethingParish", "leastGroan", "(II)I"⟩
abbrev c9_leastGroan : ByteArray := prog_1_method_96_code
theorem mf9_leastGroan : MFv 9 y9_leastGroan c9_leastGroan 5 (some .int) 2 := ⟨⟨T0_4 91 (by decide +kernel) rfl, T0_1 1 (by decide +kernel) rfl, by decide +kernel, by decide +kernel, by decide +kernel⟩, by decide, rfl, T0_4 90 (by decide +kernel) rfl, T0_sel 27 (by decide +kernel) rfl⟩
def y9_tempted : MethodName := ⟨"TeethingParish", "tempted", "(I)I"⟩
abbrev c9_tempted : ByteArray := prog_1_method_97_code
theorem mf9_tempted : MFv 9 y9_tempted c9_tempted 4 (some .int) 1 := ⟨⟨T0_4 103 (by decide +kernel) rfl, T0_1 1 (by decide +kernel) rfl, by decide +kernel, by decide +kernel, by decide +kernel⟩, by decide, rfl, T0_4 102 (by decide +kernel) rfl, T0_sel 29 (by decide +kernel) rfl⟩
def y9_passHolding : MethodName := ⟨"TeethingParish", "passHolding", "(IIII)V"⟩
abbrev c9_passHolding : ByteArray := prog_1_method_98_code
theorem mf9_passHolding : MFv 9 y9_passHolding c9_passHolding 5 (none) 4 := ⟨⟨T0_5 101 (by decide +kernel) rfl, T0_1 1 (by decide +kernel) rfl, by decide +kernel, by decide +kernel, by decide +kernel⟩, by decide, rfl, T0_5 100 (by decide +kernel) rfl, T0_sel 60 (by decide +kernel) rfl⟩
def y9_passHoldings : MethodName := ⟨"TeethingParish", "passHoldings", "(II)V"⟩
abbrev c9_passHoldings : ByteArray := prog_1_method_99_code
theorem mf9_passHoldings : MFv 9 y9_passHoldings c9_passHoldings 4 (none) 2 := ⟨⟨T0_5 97 (by decide +kernel) rfl, T0_1 1 (by decide +kernel) rfl, by decide +kernel, by decide +kernel, by decide +kernel⟩, by decide, rfl, T0_5 96 (by decide +kernel) rfl, T0_sel 59 (by decide +kernel) rfl⟩
def y9_isRest : MethodName := ⟨"TeethingParish", "isRest", "(II)Z"⟩
abbrev c9_isRest : ByteArray := prog_1_method_100_code
theorem mf9_isRest : MFv 9 y9_isRest c9_isRest 5 (some .boolean) 2 := ⟨⟨T0_5 105 (by decide +kernel) rfl, T0_1 1 (by decide +kernel) rfl, by decide +kernel, by decide +kernel, by decide +kernel⟩, by decide, rfl, T0_5 104 (by decide +kernel) rfl, T0_sel 61 (by decide +kernel) rfl⟩
def y9_drawnNight : MethodName := ⟨"TeethingParish", "drawnNight", "(J)I"⟩
abbrev c9_drawnNight : ByteArray := prog_1_method_101_code
theorem mf9_drawnNight : MFv 9 y9_drawnNight c9_drawnNight 6 (some .int) 1 := ⟨⟨T0_5 147 (by decide +kernel) rfl, T0_1 1 (by decide +kernel) rfl, by decide +kernel, by decide +kernel, by decide +kernel⟩, by decide, rfl, T0_5 146 (by decide +kernel) rfl, T0_sel 65 (by decide +kernel) rfl⟩
def y9_inLowestTerms : MethodName := ⟨"TeethingParish", "inLowestTerms", "(JJI)J"⟩
abbrev c9_inLowestTerms : ByteArray := prog_1_method_102_code
theorem mf9_inLowestTerms : MFs y9_inLowestTerms c9_inLowestTerms 9 (some .long) 3 := ⟨⟨T0_4 39 (by decide +kernel) rfl, T0_1 1 (by decide +kernel) rfl, by decide +kernel, by decide +kernel, by decide +kernel⟩, T0_4 38 (by decide +kernel) rfl⟩
def y9_commonDivisor : MethodName := ⟨"TeethingParish", "commonDivisor", "(JJ)J"⟩
abbrev c9_commonDivisor : ByteArray := prog_1_method_103_code
theorem mf9_commonDivisor : MFs y9_commonDivisor c9_commonDivisor 7 (some .long) 2 := ⟨⟨T0_4 42 (by decide +kernel) rfl, T0_1 1 (by decide +kernel) rfl, by decide +kernel, by decide +kernel, by decide +kernel⟩, T0_4 41 (by decide +kernel) rfl⟩
def y9_sumBySets : MethodName := ⟨"TeethingParish", "sumBySets", "([II[I)V"⟩
abbrev c9_sumBySets : ByteArray := prog_1_method_104_code
theorem mf9_sumBySets : MFs y9_sumBySets c9_sumBySets 6 (none) 3 := ⟨⟨T0_4 122 (by decide +kernel) rfl, T0_1 1 (by decide +kernel) rfl, by decide +kernel, by decide +kernel, by decide +kernel⟩, T0_4 121 (by decide +kernel) rfl⟩
def y10_in : MethodName := ⟨"TeethingParishModel", "in", "(JJJ)Z"⟩
abbrev c10_in : ByteArray := prog_12_method_3_code
theorem mf10_in : MFs y10_in c10_in 6 (some .boolean) 3 := ⟨⟨T0_6 150 (by decide +kernel) rfl, T0_1 14 (by decide +kernel) rfl, by decide +kernel, by decide +kernel, by decide +kernel⟩, T0_6 149 (by decide +kernel) rfl⟩
def y10_bits : MethodName := ⟨"TeethingParishModel", "bits", "(I)I"⟩
abbrev c10_bits : ByteArray := prog_12_method_4_code
theorem mf10_bits : MFs y10_bits c10_bits 3 (some .int) 1 := ⟨⟨T0_7 208 (by decide +kernel) rfl, T0_1 14 (by decide +kernel) rfl, by decide +kernel, by decide +kernel, by decide +kernel⟩, T0_7 207 (by decide +kernel) rfl⟩
def y10_bit : MethodName := ⟨"TeethingParishModel", "bit", "(II)I"⟩
abbrev c10_bit : ByteArray := prog_12_method_5_code
theorem mf10_bit : MFs y10_bit c10_bit 2 (some .int) 2 := ⟨⟨T0_7 34 (by decide +kernel) rfl, T0_1 14 (by decide +kernel) rfl, by decide +kernel, by decide +kernel, by decide +kernel⟩, T0_7 33 (by decide +kernel) rfl⟩
def y10_image : MethodName := ⟨"TeethingParishModel", "image", "(I)I"⟩
abbrev c10_image : ByteArray := prog_12_method_6_code
theorem mf10_image : MFv 10 y10_image c10_image 3 (some .int) 1 := ⟨⟨T0_6 146 (by decide +kernel) rfl, T0_1 14 (by decide +kernel) rfl, by decide +kernel, by decide +kernel, by decide +kernel⟩, by decide, rfl, T0_6 144 (by decide +kernel) rfl, T0_6 145 (by decide +kernel) rfl⟩
def y10_back : MethodName := ⟨"TeethingParishModel", "back", "(I)I"⟩
abbrev c10_back : ByteArray := prog_12_method_7_code
theorem mf10_back : MFv 10 y10_back c10_back 3 (some .int) 1 := ⟨⟨T0_6 154 (by decide +kernel) rfl, T0_1 14 (by decide +kernel) rfl, by decide +kernel, by decide +kernel, by decide +kernel⟩, by decide, rfl, T0_6 152 (by decide +kernel) rfl, T0_6 153 (by decide +kernel) rfl⟩
def y10_isParish : MethodName := ⟨"TeethingParishModel", "isParish", "()Z"⟩
abbrev c10_isParish : ByteArray := prog_12_method_8_code
theorem mf10_isParish : MFv 10 y10_isParish c10_isParish 1 (some .boolean) 0 := ⟨⟨T0_7 42 (by decide +kernel) rfl, T0_1 14 (by decide +kernel) rfl, by decide +kernel, by decide +kernel, by decide +kernel⟩, by decide, rfl, T0_7 41 (by decide +kernel) rfl, T0_sel 94 (by decide +kernel) rfl⟩
def y10_isNight : MethodName := ⟨"TeethingParishModel", "isNight", "(J)Z"⟩
abbrev c10_isNight : ByteArray := prog_12_method_9_code
theorem mf10_isNight : MFv 10 y10_isNight c10_isNight 3 (some .boolean) 1 := ⟨⟨T0_7 63 (by decide +kernel) rfl, T0_1 14 (by decide +kernel) rfl, by decide +kernel, by decide +kernel, by decide +kernel⟩, by decide, rfl, T0_7 62 (by decide +kernel) rfl, T0_sel 97 (by decide +kernel) rfl⟩
def y10_isPerson : MethodName := ⟨"TeethingParishModel", "isPerson", "(I)Z"⟩
abbrev c10_isPerson : ByteArray := prog_12_method_10_code
theorem mf10_isPerson : MFv 10 y10_isPerson c10_isPerson 2 (some .boolean) 1 := ⟨⟨T0_7 46 (by decide +kernel) rfl, T0_1 14 (by decide +kernel) rfl, by decide +kernel, by decide +kernel, by decide +kernel⟩, by decide, rfl, T0_7 45 (by decide +kernel) rfl, T0_sel 95 (by decide +kernel) rfl⟩
def y10_isSet : MethodName := ⟨"TeethingParishModel", "isSet", "(I)Z"⟩
abbrev c10_isSet : ByteArray := prog_12_method_11_code
theorem mf10_isSet : MFv 10 y10_isSet c10_isSet 2 (some .boolean) 1 := ⟨⟨T0_8 80 (by decide +kernel) rfl, T0_1 14 (by decide +kernel) rfl, by decide +kernel, by decide +kernel, by decide +kernel⟩, by decide, rfl, T0_8 79 (by decide +kernel) rfl, T0_sel 117 (by decide +kernel) rfl⟩
def y10_isRule : MethodName := ⟨"TeethingParishModel", "isRule", "(I)Z"⟩
abbrev c10_isRule : ByteArray := prog_12_method_12_code
theorem mf10_isRule : MFs y10_isRule c10_isRule 1 (some .boolean) 1 := ⟨⟨T0_8 16 (by decide +kernel) rfl, T0_1 14 (by decide +kernel) rfl, by decide +kernel, by decide +kernel, by decide +kernel⟩, T0_8 15 (by decide +kernel) rfl⟩
def y10_feed : MethodName := ⟨"TeethingParishModel", "feed", "(IIIII)I"⟩
abbrev c10_feed : ByteArray := prog_12_method_13_code
theorem mf10_feed : MFv 10 y10_feed c10_feed 7 (some .int) 5 := ⟨⟨T0_6 158 (by decide +kernel) rfl, T0_1 14 (by decide +kernel) rfl, by decide +kernel, by decide +kernel, by decide +kernel⟩, by decide, rfl, T0_6 156 (by decide +kernel) rfl, T0_6 157 (by decide +kernel) rfl⟩
def y10_end : MethodName := ⟨"TeethingParishModel", "end", "(I)I"⟩
abbrev c10_end : ByteArray := prog_12_method_14_code
theorem mf10_end : MFv 10 y10_end c10_end 2 (some .int) 1 := ⟨⟨T0_6 162 (by decide +kernel) rfl, T0_1 14 (by decide +kernel) rfl, by decide +kernel, by decide +kernel, by decide +kernel⟩, by decide, rfl, T0_6 160 (by decide +kernel) rfl, T0_6 161 (by decide +kernel) rfl⟩
def y10_see : MethodName := ⟨"TeethingParishModel", "see", "(I)I"⟩
abbrev c10_see : ByteArray := prog_12_method_15_code
theorem mf10_see : MFv 10 y10_see c10_see 2 (some .int) 1 := ⟨⟨T0_6 178 (by decide +kernel) rfl, T0_1 14 (by decide +kernel) rfl, by decide +kernel, by decide +kernel, by decide +kernel⟩, by decide, rfl, T0_6 177 (by decide +kernel) rfl, T0_sel 75 (by decide +kernel) rfl⟩
def y10_advance : MethodName := ⟨"TeethingParishModel", "advance", "()V"⟩
abbrev c10_advance : ByteArray := prog_12_method_16_code
theorem mf10_advance : MFv 10 y10_advance c10_advance 2 (none) 0 := ⟨⟨T0_6 174 (by decide +kernel) rfl, T0_1 14 (by decide +kernel) rfl, by decide +kernel, by decide +kernel, by decide +kernel⟩, by decide, rfl, T0_6 173 (by decide +kernel) rfl, T0_sel 74 (by decide +kernel) rfl⟩
def y10_good : MethodName := ⟨"TeethingParishModel", "good", "()Z"⟩
abbrev c10_good : ByteArray := prog_12_method_17_code
theorem mf10_good : MFv 10 y10_good c10_good 1 (some .boolean) 0 := ⟨⟨T0_6 188 (by decide +kernel) rfl, T0_1 14 (by decide +kernel) rfl, by decide +kernel, by decide +kernel, by decide +kernel⟩, by decide, rfl, T0_6 187 (by decide +kernel) rfl, T0_sel 76 (by decide +kernel) rfl⟩
def y10_errs : MethodName := ⟨"TeethingParishModel", "errs", "(I)V"⟩
abbrev c10_errs : ByteArray := prog_12_method_18_code
theorem mf10_errs : MFv 10 y10_errs c10_errs 2 (none) 1 := ⟨⟨T0_6 211 (by decide +kernel) rfl, T0_1 14 (by decide +kernel) rfl, by decide +kernel, by decide +kernel, by decide +kernel⟩, by decide, rfl, T0_6 210 (by decide +kernel) rfl, T0_sel 81 (by decide +kernel) rfl⟩
def y10_is : MethodName := ⟨"TeethingParishModel", "is", "(Ljava/lang/String;)Z"⟩
abbrev c10_is : ByteArray := prog_12_method_19_code
theorem mf10_is : MFv 10 y10_is c10_is 4 (some .boolean) 1 := ⟨⟨T0_6 205 (by decide +kernel) rfl, T0_1 14 (by decide +kernel) rfl, by decide +kernel, by decide +kernel, by decide +kernel⟩, by decide, rfl, T0_6 204 (by decide +kernel) rfl, T0_sel 80 (by decide +kernel) rfl⟩
def y10_needs : MethodName := ⟨"TeethingParishModel", "needs", "(Ljava/lang/String;)V"⟩
abbrev c10_needs : ByteArray := prog_12_method_20_code
theorem mf10_needs : MFv 10 y10_needs c10_needs 3 (none) 1 := ⟨⟨T0_6 201 (by decide +kernel) rfl, T0_1 14 (by decide +kernel) rfl, by decide +kernel, by decide +kernel, by decide +kernel⟩, by decide, rfl, T0_6 200 (by decide +kernel) rfl, T0_sel 79 (by decide +kernel) rfl⟩
def y10_told : MethodName := ⟨"TeethingParishModel", "told", "(Ljava/lang/String;II)I"⟩
abbrev c10_told : ByteArray := prog_12_method_21_code
theorem mf10_told : MFv 10 y10_told c10_told 5 (some .int) 3 := ⟨⟨T0_6 216 (by decide +kernel) rfl, T0_1 14 (by decide +kernel) rfl, by decide +kernel, by decide +kernel, by decide +kernel⟩, by decide, rfl, T0_6 215 (by decide +kernel) rfl, T0_sel 82 (by decide +kernel) rfl⟩
def y10_fault : MethodName := ⟨"TeethingParishModel", "fault", "(I)I"⟩
abbrev c10_fault : ByteArray := prog_12_method_22_code
theorem mf10_fault : MFv 10 y10_fault c10_fault 2 (some .int) 1 := ⟨⟨T0_6 166 (by decide +kernel) rfl, T0_1 14 (by decide +kernel) rfl, by decide +kernel, by decide +kernel, by decide +kernel⟩, by decide, rfl, T0_6 164 (by decide +kernel) rfl, T0_6 165 (by decide +kernel) rfl⟩
def y10_readFirst : MethodName := ⟨"TeethingParishModel", "readFirst", "()V"⟩
abbrev c10_readFirst : ByteArray := prog_12_method_23_code
theorem mf10_readFirst : MFv 10 y10_readFirst c10_readFirst 1 (none) 0 := ⟨⟨T0_6 196 (by decide +kernel) rfl, T0_1 14 (by decide +kernel) rfl, by decide +kernel, by decide +kernel, by decide +kernel⟩, by decide, rfl, T0_6 195 (by decide +kernel) rfl, T0_sel 78 (by decide +kernel) rfl⟩
def y10_readPerson : MethodName := ⟨"TeethingParishModel", "readPerson", "()V"⟩
abbrev c10_readPerson : ByteArray := prog_12_method_24_code
theorem mf10_readPerson : MFv 10 y10_readPerson c10_readPerson 6 (none) 0 := ⟨⟨T0_6 226 (by decide +kernel) rfl, T0_1 14 (by decide +kernel) rfl, by decide +kernel, by decide +kernel, by decide +kernel⟩, by decide, rfl, T0_6 225 (by decide +kernel) rfl, T0_sel 83 (by decide +kernel) rfl⟩
def y10_readLine : MethodName := ⟨"TeethingParishModel", "readLine", "()V"⟩
abbrev c10_readLine : ByteArray := prog_12_method_25_code
theorem mf10_readLine : MFv 10 y10_readLine c10_readLine 1 (none) 0 := ⟨⟨T0_6 192 (by decide +kernel) rfl, T0_1 14 (by decide +kernel) rfl, by decide +kernel, by decide +kernel, by decide +kernel⟩, by decide, rfl, T0_6 191 (by decide +kernel) rfl, T0_sel 77 (by decide +kernel) rfl⟩
def y10_parish : MethodName := ⟨"TeethingParishModel", "parish", "()I"⟩
abbrev c10_parish : ByteArray := prog_12_method_26_code
theorem mf10_parish : MFv 10 y10_parish c10_parish 2 (some .int) 0 := ⟨⟨T0_6 170 (by decide +kernel) rfl, T0_1 14 (by decide +kernel) rfl, by decide +kernel, by decide +kernel, by decide +kernel⟩, by decide, rfl, T0_6 168 (by decide +kernel) rfl, T0_6 169 (by decide +kernel) rfl⟩
def y10_of : MethodName := ⟨"TeethingParishModel", "of", "(II)I"⟩
abbrev c10_of : ByteArray := prog_12_method_27_code
theorem mf10_of : MFv 10 y10_of c10_of 3 (some .int) 2 := ⟨⟨T0_7 11 (by decide +kernel) rfl, T0_1 14 (by decide +kernel) rfl, by decide +kernel, by decide +kernel, by decide +kernel⟩, by decide, rfl, T0_7 10 (by decide +kernel) rfl, T0_sel 87 (by decide +kernel) rfl⟩
def y10_asItIs : MethodName := ⟨"TeethingParishModel", "asItIs", "()V"⟩
abbrev c10_asItIs : ByteArray := prog_12_method_28_code
theorem mf10_asItIs : MFv 10 y10_asItIs c10_asItIs 3 (none) 0 := ⟨⟨T0_7 7 (by decide +kernel) rfl, T0_1 14 (by decide +kernel) rfl, by decide +kernel, by decide +kernel, by decide +kernel⟩, by decide, rfl, T0_7 6 (by decide +kernel) rfl, T0_sel 86 (by decide +kernel) rfl⟩
def y10_nights : MethodName := ⟨"TeethingParishModel", "nights", "()I"⟩
abbrev c10_nights : ByteArray := prog_12_method_29_code
theorem mf10_nights : MFv 10 y10_nights c10_nights 1 (some .int) 0 := ⟨⟨T0_7 19 (by decide +kernel) rfl, T0_1 14 (by decide +kernel) rfl, by decide +kernel, by decide +kernel, by decide +kernel⟩, by decide, rfl, T0_7 18 (by decide +kernel) rfl, T0_sel 89 (by decide +kernel) rfl⟩
def y10_costOf : MethodName := ⟨"TeethingParishModel", "costOf", "(I)I"⟩
abbrev c10_costOf : ByteArray := prog_12_method_30_code
theorem mf10_costOf : MFv 10 y10_costOf c10_costOf 2 (some .int) 1 := ⟨⟨T0_7 96 (by decide +kernel) rfl, T0_1 14 (by decide +kernel) rfl, by decide +kernel, by decide +kernel, by decide +kernel⟩, by decide, rfl, T0_7 95 (by decide +kernel) rfl, T0_sel 102 (by decide +kernel) rfl⟩
def y10_hasAche : MethodName := ⟨"TeethingParishModel", "hasAche", "(II)Z"⟩
abbrev c10_hasAche : ByteArray := prog_12_method_31_code
theorem mf10_hasAche : MFv 10 y10_hasAche c10_hasAche 3 (some .boolean) 2 := ⟨⟨T0_7 27 (by decide +kernel) rfl, T0_1 14 (by decide +kernel) rfl, by decide +kernel, by decide +kernel, by decide +kernel⟩, by decide, rfl, T0_7 26 (by decide +kernel) rfl, T0_sel 91 (by decide +kernel) rfl⟩
def y10_keyOf : MethodName := ⟨"TeethingParishModel", "keyOf", "(I)I"⟩
abbrev c10_keyOf : ByteArray := prog_12_method_32_code
theorem mf10_keyOf : MFv 10 y10_keyOf c10_keyOf 4 (some .int) 1 := ⟨⟨T0_7 38 (by decide +kernel) rfl, T0_1 14 (by decide +kernel) rfl, by decide +kernel, by decide +kernel, by decide +kernel⟩, by decide, rfl, T0_7 37 (by decide +kernel) rfl, T0_sel 93 (by decide +kernel) rfl⟩
def y10_nextOf : MethodName := ⟨"TeethingParishModel", "nextOf", "(I)I"⟩
abbrev c10_nextOf : ByteArray := prog_12_method_33_code
theorem mf10_nextOf : MFv 10 y10_nextOf c10_nextOf 4 (some .int) 1 := ⟨⟨T0_7 31 (by decide +kernel) rfl, T0_1 14 (by decide +kernel) rfl, by decide +kernel, by decide +kernel, by decide +kernel⟩, by decide, rfl, T0_7 30 (by decide +kernel) rfl, T0_sel 92 (by decide +kernel) rfl⟩
def y10_goNight : MethodName := ⟨"TeethingParishModel", "goNight", "(IZ)V"⟩
abbrev c10_goNight : ByteArray := prog_12_method_34_code
theorem mf10_goNight : MFv 10 y10_goNight c10_goNight 7 (none) 2 := ⟨⟨T0_7 23 (by decide +kernel) rfl, T0_1 14 (by decide +kernel) rfl, by decide +kernel, by decide +kernel, by decide +kernel⟩, by decide, rfl, T0_7 22 (by decide +kernel) rfl, T0_sel 90 (by decide +kernel) rfl⟩
def y10_goNights : MethodName := ⟨"TeethingParishModel", "goNights", "()V"⟩
abbrev c10_goNights : ByteArray := prog_12_method_35_code
theorem mf10_goNights : MFv 10 y10_goNights c10_goNights 2 (none) 0 := ⟨⟨T0_7 15 (by decide +kernel) rfl, T0_1 14 (by decide +kernel) rfl, by decide +kernel, by decide +kernel, by decide +kernel⟩, by decide, rfl, T0_7 14 (by decide +kernel) rfl, T0_sel 88 (by decide +kernel) rfl⟩
def y10_bearsBy : MethodName := ⟨"TeethingParishModel", "bearsBy", "(II)I"⟩
abbrev c10_bearsBy : ByteArray := prog_12_method_36_code
theorem mf10_bearsBy : MFv 10 y10_bearsBy c10_bearsBy 4 (some .int) 2 := ⟨⟨T0_7 91 (by decide +kernel) rfl, T0_1 14 (by decide +kernel) rfl, by decide +kernel, by decide +kernel, by decide +kernel⟩, by decide, rfl, T0_7 90 (by decide +kernel) rfl, T0_sel 101 (by decide +kernel) rfl⟩
def y10_bearsOf : MethodName := ⟨"TeethingParishModel", "bearsOf", "(I)I"⟩
abbrev c10_bearsOf : ByteArray := prog_12_method_37_code
theorem mf10_bearsOf : MFv 10 y10_bearsOf c10_bearsOf 2 (some .int) 1 := ⟨⟨T0_7 87 (by decide +kernel) rfl, T0_1 14 (by decide +kernel) rfl, by decide +kernel, by decide +kernel, by decide +kernel⟩, by decide, rfl, T0_7 86 (by decide +kernel) rfl, T0_sel 100 (by decide +kernel) rfl⟩
def y10_bearsAll : MethodName := ⟨"TeethingParishModel", "bearsAll", "()I"⟩
abbrev c10_bearsAll : ByteArray := prog_12_method_38_code
theorem mf10_bearsAll : MFv 10 y10_bearsAll c10_bearsAll 3 (some .int) 0 := ⟨⟨T0_7 108 (by decide +kernel) rfl, T0_1 14 (by decide +kernel) rfl, by decide +kernel, by decide +kernel, by decide +kernel⟩, by decide, rfl, T0_7 107 (by decide +kernel) rfl, T0_sel 103 (by decide +kernel) rfl⟩
def y10_asksParish : MethodName := ⟨"TeethingParishModel", "asksParish", "()Z"⟩
abbrev c10_asksParish : ByteArray := prog_12_method_39_code
theorem mf10_asksParish : MFv 10 y10_asksParish c10_asksParish 1 (some .boolean) 0 := ⟨⟨T0_7 3 (by decide +kernel) rfl, T0_1 14 (by decide +kernel) rfl, by decide +kernel, by decide +kernel, by decide +kernel⟩, by decide, rfl, T0_7 2 (by decide +kernel) rfl, T0_sel 85 (by decide +kernel) rfl⟩
def y10_asksPerson : MethodName := ⟨"TeethingParishModel", "asksPerson", "(I)Z"⟩
abbrev c10_asksPerson : ByteArray := prog_12_method_40_code
theorem mf10_asksPerson : MFv 10 y10_asksPerson c10_asksPerson 2 (some .boolean) 1 := ⟨⟨T0_6 239 (by decide +kernel) rfl, T0_1 14 (by decide +kernel) rfl, by decide +kernel, by decide +kernel, by decide +kernel⟩, by decide, rfl, T0_6 238 (by decide +kernel) rfl, T0_sel 84 (by decide +kernel) rfl⟩
def y10_asksNight : MethodName := ⟨"TeethingParishModel", "asksNight", "(I)Z"⟩
abbrev c10_asksNight : ByteArray := prog_12_method_41_code
theorem mf10_asksNight : MFv 10 y10_asksNight c10_asksNight 2 (some .boolean) 1 := ⟨⟨T0_7 59 (by decide +kernel) rfl, T0_1 14 (by decide +kernel) rfl, by decide +kernel, by decide +kernel, by decide +kernel⟩, by decide, rfl, T0_7 58 (by decide +kernel) rfl, T0_sel 96 (by decide +kernel) rfl⟩
def y10_waitsIn : MethodName := ⟨"TeethingParishModel", "waitsIn", "(I)I"⟩
abbrev c10_waitsIn : ByteArray := prog_12_method_42_code
theorem mf10_waitsIn : MFv 10 y10_waitsIn c10_waitsIn 4 (some .int) 1 := ⟨⟨T0_7 75 (by decide +kernel) rfl, T0_1 14 (by decide +kernel) rfl, by decide +kernel, by decide +kernel, by decide +kernel⟩, by decide, rfl, T0_7 74 (by decide +kernel) rfl, T0_sel 99 (by decide +kernel) rfl⟩
def y10_givenIn : MethodName := ⟨"TeethingParishModel", "givenIn", "(I)I"⟩
abbrev c10_givenIn : ByteArray := prog_12_method_43_code
theorem mf10_givenIn : MFv 10 y10_givenIn c10_givenIn 4 (some .int) 1 := ⟨⟨T0_7 67 (by decide +kernel) rfl, T0_1 14 (by decide +kernel) rfl, by decide +kernel, by decide +kernel, by decide +kernel⟩, by decide, rfl, T0_7 66 (by decide +kernel) rfl, T0_sel 98 (by decide +kernel) rfl⟩
def y10_person : MethodName := ⟨"TeethingParishModel", "person", "(II)I"⟩
abbrev c10_person : ByteArray := prog_12_method_44_code
theorem mf10_person : MFv 10 y10_person c10_person 3 (some .int) 2 := ⟨⟨T0_6 235 (by decide +kernel) rfl, T0_1 14 (by decide +kernel) rfl, by decide +kernel, by decide +kernel, by decide +kernel⟩, by decide, rfl, T0_6 233 (by decide +kernel) rfl, T0_6 234 (by decide +kernel) rfl⟩
def y10_gives : MethodName := ⟨"TeethingParishModel", "gives", "(I)I"⟩
abbrev c10_gives : ByteArray := prog_12_method_45_code
theorem mf10_gives : MFv 10 y10_gives c10_gives 2 (some .int) 1 := ⟨⟨T0_7 51 (by decide +kernel) rfl, T0_1 14 (by decide +kernel) rfl, by decide +kernel, by decide +kernel, by decide +kernel⟩, by decide, rfl, T0_7 49 (by decide +kernel) rfl, T0_7 50 (by decide +kernel) rfl⟩
def y10_given : MethodName := ⟨"TeethingParishModel", "given", "(I)I"⟩
abbrev c10_given : ByteArray := prog_12_method_46_code
theorem mf10_given : MFv 10 y10_given c10_given 2 (some .int) 1 := ⟨⟨T0_7 55 (by decide +kernel) rfl, T0_1 14 (by decide +kernel) rfl, by decide +kernel, by decide +kernel, by decide +kernel⟩, by decide, rfl, T0_7 53 (by decide +kernel) rfl, T0_7 54 (by decide +kernel) rfl⟩
def y10_waits : MethodName := ⟨"TeethingParishModel", "waits", "(I)I"⟩
abbrev c10_waits : ByteArray := prog_12_method_47_code
theorem mf10_waits : MFv 10 y10_waits c10_waits 2 (some .int) 1 := ⟨⟨T0_7 71 (by decide +kernel) rfl, T0_1 14 (by decide +kernel) rfl, by decide +kernel, by decide +kernel, by decide +kernel⟩, by decide, rfl, T0_7 69 (by decide +kernel) rfl, T0_7 70 (by decide +kernel) rfl⟩
def y10_left : MethodName := ⟨"TeethingParishModel", "left", "(I)I"⟩
abbrev c10_left : ByteArray := prog_12_method_48_code
theorem mf10_left : MFv 10 y10_left c10_left 2 (some .int) 1 := ⟨⟨T0_7 79 (by decide +kernel) rfl, T0_1 14 (by decide +kernel) rfl, by decide +kernel, by decide +kernel, by decide +kernel⟩, by decide, rfl, T0_7 77 (by decide +kernel) rfl, T0_7 78 (by decide +kernel) rfl⟩
def y10_bears : MethodName := ⟨"TeethingParishModel", "bears", "(I)I"⟩
abbrev c10_bears : ByteArray := prog_12_method_49_code
theorem mf10_bears : MFv 10 y10_bears c10_bears 2 (some .int) 1 := ⟨⟨T0_7 83 (by decide +kernel) rfl, T0_1 14 (by decide +kernel) rfl, by decide +kernel, by decide +kernel, by decide +kernel⟩, by decide, rfl, T0_7 81 (by decide +kernel) rfl, T0_7 82 (by decide +kernel) rfl⟩
def y10_groans : MethodName := ⟨"TeethingParishModel", "groans", "(I)I"⟩
abbrev c10_groans : ByteArray := prog_12_method_50_code
theorem mf10_groans : MFv 10 y10_groans c10_groans 4 (some .int) 1 := ⟨⟨T0_7 100 (by decide +kernel) rfl, T0_1 14 (by decide +kernel) rfl, by decide +kernel, by decide +kernel, by decide +kernel⟩, by decide, rfl, T0_7 98 (by decide +kernel) rfl, T0_7 99 (by decide +kernel) rfl⟩
def y10_all : MethodName := ⟨"TeethingParishModel", "all", "()I"⟩
abbrev c10_all : ByteArray := prog_12_method_51_code
theorem mf10_all : MFv 10 y10_all c10_all 1 (some .int) 0 := ⟨⟨T0_7 104 (by decide +kernel) rfl, T0_1 14 (by decide +kernel) rfl, by decide +kernel, by decide +kernel, by decide +kernel⟩, by decide, rfl, T0_7 102 (by decide +kernel) rfl, T0_7 103 (by decide +kernel) rfl⟩
def y10_worst : MethodName := ⟨"TeethingParishModel", "worst", "()I"⟩
abbrev c10_worst : ByteArray := prog_12_method_52_code
theorem mf10_worst : MFv 10 y10_worst c10_worst 4 (some .int) 0 := ⟨⟨T0_7 112 (by decide +kernel) rfl, T0_1 14 (by decide +kernel) rfl, by decide +kernel, by decide +kernel, by decide +kernel⟩, by decide, rfl, T0_7 110 (by decide +kernel) rfl, T0_7 111 (by decide +kernel) rfl⟩
def y10_crowded : MethodName := ⟨"TeethingParishModel", "crowded", "()I"⟩
abbrev c10_crowded : ByteArray := prog_12_method_53_code
theorem mf10_crowded : MFv 10 y10_crowded c10_crowded 2 (some .int) 0 := ⟨⟨T0_7 116 (by decide +kernel) rfl, T0_1 14 (by decide +kernel) rfl, by decide +kernel, by decide +kernel, by decide +kernel⟩, by decide, rfl, T0_7 114 (by decide +kernel) rfl, T0_7 115 (by decide +kernel) rfl⟩
def y10_holds : MethodName := ⟨"TeethingParishModel", "holds", "(I)I"⟩
abbrev c10_holds : ByteArray := prog_12_method_54_code
theorem mf10_holds : MFv 10 y10_holds c10_holds 2 (some .int) 1 := ⟨⟨T0_7 120 (by decide +kernel) rfl, T0_1 14 (by decide +kernel) rfl, by decide +kernel, by decide +kernel, by decide +kernel⟩, by decide, rfl, T0_7 118 (by decide +kernel) rfl, T0_7 119 (by decide +kernel) rfl⟩
def y10_cut : MethodName := ⟨"TeethingParishModel", "cut", "(I)I"⟩
abbrev c10_cut : ByteArray := prog_12_method_55_code
theorem mf10_cut : MFv 10 y10_cut c10_cut 2 (some .int) 1 := ⟨⟨T0_7 124 (by decide +kernel) rfl, T0_1 14 (by decide +kernel) rfl, by decide +kernel, by decide +kernel, by decide +kernel⟩, by decide, rfl, T0_7 122 (by decide +kernel) rfl, T0_7 123 (by decide +kernel) rfl⟩
def y10_feast : MethodName := ⟨"TeethingParishModel", "feast", "()I"⟩
abbrev c10_feast : ByteArray := prog_12_method_56_code
theorem mf10_feast : MFv 10 y10_feast c10_feast 1 (some .int) 0 := ⟨⟨T0_7 128 (by decide +kernel) rfl, T0_1 14 (by decide +kernel) rfl, by decide +kernel, by decide +kernel, by decide +kernel⟩, by decide, rfl, T0_7 126 (by decide +kernel) rfl, T0_7 127 (by decide +kernel) rfl⟩
def y10_paid : MethodName := ⟨"TeethingParishModel", "paid", "()I"⟩
abbrev c10_paid : ByteArray := prog_12_method_57_code
theorem mf10_paid : MFv 10 y10_paid c10_paid 1 (some .int) 0 := ⟨⟨T0_7 132 (by decide +kernel) rfl, T0_1 14 (by decide +kernel) rfl, by decide +kernel, by decide +kernel, by decide +kernel⟩, by decide, rfl, T0_7 130 (by decide +kernel) rfl, T0_7 131 (by decide +kernel) rfl⟩
def y10_quiet : MethodName := ⟨"TeethingParishModel", "quiet", "()I"⟩
abbrev c10_quiet : ByteArray := prog_12_method_58_code
theorem mf10_quiet : MFv 10 y10_quiet c10_quiet 3 (some .int) 0 := ⟨⟨T0_7 136 (by decide +kernel) rfl, T0_1 14 (by decide +kernel) rfl, by decide +kernel, by decide +kernel, by decide +kernel⟩, by decide, rfl, T0_7 134 (by decide +kernel) rfl, T0_7 135 (by decide +kernel) rfl⟩
def y10_kept : MethodName := ⟨"TeethingParishModel", "kept", "()I"⟩
abbrev c10_kept : ByteArray := prog_12_method_59_code
theorem mf10_kept : MFv 10 y10_kept c10_kept 1 (some .int) 0 := ⟨⟨T0_7 140 (by decide +kernel) rfl, T0_1 14 (by decide +kernel) rfl, by decide +kernel, by decide +kernel, by decide +kernel⟩, by decide, rfl, T0_7 138 (by decide +kernel) rfl, T0_7 139 (by decide +kernel) rfl⟩
def y10_idle : MethodName := ⟨"TeethingParishModel", "idle", "()I"⟩
abbrev c10_idle : ByteArray := prog_12_method_60_code
theorem mf10_idle : MFv 10 y10_idle c10_idle 3 (some .int) 0 := ⟨⟨T0_7 144 (by decide +kernel) rfl, T0_1 14 (by decide +kernel) rfl, by decide +kernel, by decide +kernel, by decide +kernel⟩, by decide, rfl, T0_7 142 (by decide +kernel) rfl, T0_7 143 (by decide +kernel) rfl⟩
def y10_big : MethodName := ⟨"TeethingParishModel", "big", "(I)I"⟩
abbrev c10_big : ByteArray := prog_12_method_61_code
theorem mf10_big : MFv 10 y10_big c10_big 4 (some .int) 1 := ⟨⟨T0_7 148 (by decide +kernel) rfl, T0_1 14 (by decide +kernel) rfl, by decide +kernel, by decide +kernel, by decide +kernel⟩, by decide, rfl, T0_7 146 (by decide +kernel) rfl, T0_7 147 (by decide +kernel) rfl⟩
def y10_suits : MethodName := ⟨"TeethingParishModel", "suits", "(I)I"⟩
abbrev c10_suits : ByteArray := prog_12_method_62_code
theorem mf10_suits : MFv 10 y10_suits c10_suits 5 (some .int) 1 := ⟨⟨T0_7 152 (by decide +kernel) rfl, T0_1 14 (by decide +kernel) rfl, by decide +kernel, by decide +kernel, by decide +kernel⟩, by decide, rfl, T0_7 150 (by decide +kernel) rfl, T0_7 151 (by decide +kernel) rfl⟩
def y10_last : MethodName := ⟨"TeethingParishModel", "last", "()I"⟩
abbrev c10_last : ByteArray := prog_12_method_63_code
theorem mf10_last : MFv 10 y10_last c10_last 3 (some .int) 0 := ⟨⟨T0_7 157 (by decide +kernel) rfl, T0_1 14 (by decide +kernel) rfl, by decide +kernel, by decide +kernel, by decide +kernel⟩, by decide, rfl, T0_7 155 (by decide +kernel) rfl, T0_7 156 (by decide +kernel) rfl⟩
def y10_gap : MethodName := ⟨"TeethingParishModel", "gap", "(I)I"⟩
abbrev c10_gap : ByteArray := prog_12_method_64_code
theorem mf10_gap : MFv 10 y10_gap c10_gap 2 (some .int) 1 := ⟨⟨T0_7 161 (by decide +kernel) rfl, T0_1 14 (by decide +kernel) rfl, by decide +kernel, by decide +kernel, by decide +kernel⟩, by decide, rfl, T0_7 159 (by decide +kernel) rfl, T0_7 160 (by decide +kernel) rfl⟩
def y10_keepBore : MethodName := ⟨"TeethingParishModel", "keepBore", "()V"⟩
abbrev c10_keepBore : ByteArray := prog_12_method_65_code
theorem mf10_keepBore : MFv 10 y10_keepBore c10_keepBore 2 (none) 0 := ⟨⟨T0_7 173 (by decide +kernel) rfl, T0_1 14 (by decide +kernel) rfl, by decide +kernel, by decide +kernel, by decide +kernel⟩, by decide, rfl, T0_7 172 (by decide +kernel) rfl, T0_sel 104 (by decide +kernel) rfl⟩
def y10_without : MethodName := ⟨"TeethingParishModel", "without", "(I)I"⟩
abbrev c10_without : ByteArray := prog_12_method_66_code
theorem mf10_without : MFv 10 y10_without c10_without 2 (some .int) 1 := ⟨⟨T0_7 165 (by decide +kernel) rfl, T0_1 14 (by decide +kernel) rfl, by decide +kernel, by decide +kernel, by decide +kernel⟩, by decide, rfl, T0_7 163 (by decide +kernel) rfl, T0_7 164 (by decide +kernel) rfl⟩
def y10_blocks : MethodName := ⟨"TeethingParishModel", "blocks", "(I)I"⟩
abbrev c10_blocks : ByteArray := prog_12_method_67_code
theorem mf10_blocks : MFv 10 y10_blocks c10_blocks 4 (some .int) 1 := ⟨⟨T0_7 169 (by decide +kernel) rfl, T0_1 14 (by decide +kernel) rfl, by decide +kernel, by decide +kernel, by decide +kernel⟩, by decide, rfl, T0_7 167 (by decide +kernel) rfl, T0_7 168 (by decide +kernel) rfl⟩
def y10_when : MethodName := ⟨"TeethingParishModel", "when", "(I)I"⟩
abbrev c10_when : ByteArray := prog_12_method_68_code
theorem mf10_when : MFv 10 y10_when c10_when 3 (some .int) 1 := ⟨⟨T0_7 177 (by decide +kernel) rfl, T0_1 14 (by decide +kernel) rfl, by decide +kernel, by decide +kernel, by decide +kernel⟩, by decide, rfl, T0_7 175 (by decide +kernel) rfl, T0_7 176 (by decide +kernel) rfl⟩
def y10_divisor : MethodName := ⟨"TeethingParishModel", "divisor", "(JJ)J"⟩
abbrev c10_divisor : ByteArray := prog_12_method_69_code
theorem mf10_divisor : MFs y10_divisor c10_divisor 10 (some .long) 2 := ⟨⟨T0_7 188 (by decide +kernel) rfl, T0_1 14 (by decide +kernel) rfl, by decide +kernel, by decide +kernel, by decide +kernel⟩, T0_7 187 (by decide +kernel) rfl⟩
def y10_part : MethodName := ⟨"TeethingParishModel", "part", "(JJI)J"⟩
abbrev c10_part : ByteArray := prog_12_method_70_code
theorem mf10_part : MFs y10_part c10_part 5 (some .long) 3 := ⟨⟨T0_7 185 (by decide +kernel) rfl, T0_1 14 (by decide +kernel) rfl, by decide +kernel, by decide +kernel, by decide +kernel⟩, T0_7 184 (by decide +kernel) rfl⟩
def y10_share : MethodName := ⟨"TeethingParishModel", "share", "(II)I"⟩
abbrev c10_share : ByteArray := prog_12_method_71_code
theorem mf10_share : MFv 10 y10_share c10_share 3 (some .int) 2 := ⟨⟨T0_7 182 (by decide +kernel) rfl, T0_1 14 (by decide +kernel) rfl, by decide +kernel, by decide +kernel, by decide +kernel⟩, by decide, rfl, T0_7 180 (by decide +kernel) rfl, T0_7 181 (by decide +kernel) rfl⟩
def y10_wide : MethodName := ⟨"TeethingParishModel", "wide", "()I"⟩
abbrev c10_wide : ByteArray := prog_12_method_72_code
theorem mf10_wide : MFv 10 y10_wide c10_wide 1 (some .int) 0 := ⟨⟨T0_7 192 (by decide +kernel) rfl, T0_1 14 (by decide +kernel) rfl, by decide +kernel, by decide +kernel, by decide +kernel⟩, by decide, rfl, T0_7 190 (by decide +kernel) rfl, T0_7 191 (by decide +kernel) rfl⟩
def y10_laySums : MethodName := ⟨"TeethingParishModel", "laySums", "()V"⟩
abbrev c10_laySums : ByteArray := prog_12_method_73_code
theorem mf10_laySums : MFv 10 y10_laySums c10_laySums 3 (none) 0 := ⟨⟨T0_7 201 (by decide +kernel) rfl, T0_1 14 (by decide +kernel) rfl, by decide +kernel, by decide +kernel, by decide +kernel⟩, by decide, rfl, T0_7 200 (by decide +kernel) rfl, T0_sel 105 (by decide +kernel) rfl⟩
def y10_allPersons : MethodName := ⟨"TeethingParishModel", "allPersons", "()I"⟩
abbrev c10_allPersons : ByteArray := prog_12_method_74_code
theorem mf10_allPersons : MFv 10 y10_allPersons c10_allPersons 1 (some .int) 0 := ⟨⟨T0_7 205 (by decide +kernel) rfl, T0_1 14 (by decide +kernel) rfl, by decide +kernel, by decide +kernel, by decide +kernel⟩, by decide, rfl, T0_7 204 (by decide +kernel) rfl, T0_sel 106 (by decide +kernel) rfl⟩
def y10_mild : MethodName := ⟨"TeethingParishModel", "mild", "(I)I"⟩
abbrev c10_mild : ByteArray := prog_12_method_75_code
theorem mf10_mild : MFv 10 y10_mild c10_mild 4 (some .int) 1 := ⟨⟨T0_7 196 (by decide +kernel) rfl, T0_1 14 (by decide +kernel) rfl, by decide +kernel, by decide +kernel, by decide +kernel⟩, by decide, rfl, T0_7 194 (by decide +kernel) rfl, T0_7 195 (by decide +kernel) rfl⟩
def y10_state : MethodName := ⟨"TeethingParishModel", "state", "(II)I"⟩
abbrev c10_state : ByteArray := prog_12_method_76_code
theorem mf10_state : MFs y10_state c10_state 2 (some .int) 2 := ⟨⟨T0_7 231 (by decide +kernel) rfl, T0_1 14 (by decide +kernel) rfl, by decide +kernel, by decide +kernel, by decide +kernel⟩, T0_7 230 (by decide +kernel) rfl⟩
def y10_layWho : MethodName := ⟨"TeethingParishModel", "layWho", "(I)V"⟩
abbrev c10_layWho : ByteArray := prog_12_method_77_code
theorem mf10_layWho : MFv 10 y10_layWho c10_layWho 3 (none) 1 := ⟨⟨T0_7 224 (by decide +kernel) rfl, T0_1 14 (by decide +kernel) rfl, by decide +kernel, by decide +kernel, by decide +kernel⟩, by decide, rfl, T0_7 223 (by decide +kernel) rfl, T0_sel 109 (by decide +kernel) rfl⟩
def y10_layState : MethodName := ⟨"TeethingParishModel", "layState", "(II)V"⟩
abbrev c10_layState : ByteArray := prog_12_method_78_code
theorem mf10_layState : MFv 10 y10_layState c10_layState 12 (none) 2 := ⟨⟨T0_7 228 (by decide +kernel) rfl, T0_1 14 (by decide +kernel) rfl, by decide +kernel, by decide +kernel, by decide +kernel⟩, by decide, rfl, T0_7 227 (by decide +kernel) rfl, T0_sel 110 (by decide +kernel) rfl⟩
def y10_leastOf : MethodName := ⟨"TeethingParishModel", "leastOf", "()I"⟩
abbrev c10_leastOf : ByteArray := prog_12_method_79_code
theorem mf10_leastOf : MFv 10 y10_leastOf c10_leastOf 3 (some .int) 0 := ⟨⟨T0_7 220 (by decide +kernel) rfl, T0_1 14 (by decide +kernel) rfl, by decide +kernel, by decide +kernel, by decide +kernel⟩, by decide, rfl, T0_7 219 (by decide +kernel) rfl, T0_sel 108 (by decide +kernel) rfl⟩
def y10_asksPlans : MethodName := ⟨"TeethingParishModel", "asksPlans", "()Z"⟩
abbrev c10_asksPlans : ByteArray := prog_12_method_80_code
theorem mf10_asksPlans : MFv 10 y10_asksPlans c10_asksPlans 2 (some .boolean) 0 := ⟨⟨T0_7 216 (by decide +kernel) rfl, T0_1 14 (by decide +kernel) rfl, by decide +kernel, by decide +kernel, by decide +kernel⟩, by decide, rfl, T0_7 215 (by decide +kernel) rfl, T0_sel 107 (by decide +kernel) rfl⟩
def y10_least : MethodName := ⟨"TeethingParishModel", "least", "()I"⟩
abbrev c10_least : ByteArray := prog_12_method_81_code
theorem mf10_least : MFv 10 y10_least c10_least 1 (some .int) 0 := ⟨⟨T0_7 212 (by decide +kernel) rfl, T0_1 14 (by decide +kernel) rfl, by decide +kernel, by decide +kernel, by decide +kernel⟩, by decide, rfl, T0_7 210 (by decide +kernel) rfl, T0_7 211 (by decide +kernel) rfl⟩
def y10_ways : MethodName := ⟨"TeethingParishModel", "ways", "()J"⟩
abbrev c10_ways : ByteArray := prog_12_method_82_code
theorem mf10_ways : MFv 10 y10_ways c10_ways 1 (some .long) 0 := ⟨⟨T0_7 235 (by decide +kernel) rfl, T0_1 14 (by decide +kernel) rfl, by decide +kernel, by decide +kernel, by decide +kernel⟩, by decide, rfl, T0_7 233 (by decide +kernel) rfl, T0_7 234 (by decide +kernel) rfl⟩
def y10_plan : MethodName := ⟨"TeethingParishModel", "plan", "(I)I"⟩
abbrev c10_plan : ByteArray := prog_12_method_83_code
theorem mf10_plan : MFv 10 y10_plan c10_plan 4 (some .int) 1 := ⟨⟨T0_8 0 (by decide +kernel) rfl, T0_1 14 (by decide +kernel) rfl, by decide +kernel, by decide +kernel, by decide +kernel⟩, by decide, rfl, T0_7 238 (by decide +kernel) rfl, T0_7 239 (by decide +kernel) rfl⟩
def y10_regret : MethodName := ⟨"TeethingParishModel", "regret", "()I"⟩
abbrev c10_regret : ByteArray := prog_12_method_84_code
theorem mf10_regret : MFv 10 y10_regret c10_regret 2 (some .int) 0 := ⟨⟨T0_8 4 (by decide +kernel) rfl, T0_1 14 (by decide +kernel) rfl, by decide +kernel, by decide +kernel, by decide +kernel⟩, by decide, rfl, T0_8 2 (by decide +kernel) rfl, T0_8 3 (by decide +kernel) rfl⟩
def y10_room : MethodName := ⟨"TeethingParishModel", "room", "(I)I"⟩
abbrev c10_room : ByteArray := prog_12_method_85_code
theorem mf10_room : MFv 10 y10_room c10_room 4 (some .int) 1 := ⟨⟨T0_8 8 (by decide +kernel) rfl, T0_1 14 (by decide +kernel) rfl, by decide +kernel, by decide +kernel, by decide +kernel⟩, by decide, rfl, T0_8 6 (by decide +kernel) rfl, T0_8 7 (by decide +kernel) rfl⟩
def y10_byRule : MethodName := ⟨"TeethingParishModel", "byRule", "(I)I"⟩
abbrev c10_byRule : ByteArray := prog_12_method_86_code
theorem mf10_byRule : MFv 10 y10_byRule c10_byRule 2 (some .int) 1 := ⟨⟨T0_8 20 (by decide +kernel) rfl, T0_1 14 (by decide +kernel) rfl, by decide +kernel, by decide +kernel, by decide +kernel⟩, by decide, rfl, T0_8 19 (by decide +kernel) rfl, T0_sel 111 (by decide +kernel) rfl⟩
def y10_by : MethodName := ⟨"TeethingParishModel", "by", "(I)I"⟩
abbrev c10_by : ByteArray := prog_12_method_87_code
theorem mf10_by : MFv 10 y10_by c10_by 2 (some .int) 1 := ⟨⟨T0_8 13 (by decide +kernel) rfl, T0_1 14 (by decide +kernel) rfl, by decide +kernel, by decide +kernel, by decide +kernel⟩, by decide, rfl, T0_8 11 (by decide +kernel) rfl, T0_8 12 (by decide +kernel) rfl⟩
def y10_rule : MethodName := ⟨"TeethingParishModel", "rule", "()I"⟩
abbrev c10_rule : ByteArray := prog_12_method_88_code
theorem mf10_rule : MFv 10 y10_rule c10_rule 3 (some .int) 0 := ⟨⟨T0_8 24 (by decide +kernel) rfl, T0_1 14 (by decide +kernel) rfl, by decide +kernel, by decide +kernel, by decide +kernel⟩, by decide, rfl, T0_8 22 (by decide +kernel) rfl, T0_8 23 (by decide +kernel) rfl⟩
def y10_groanBy : MethodName := ⟨"TeethingParishModel", "groanBy", "(I)I"⟩
abbrev c10_groanBy : ByteArray := prog_12_method_89_code
theorem mf10_groanBy : MFv 10 y10_groanBy c10_groanBy 5 (some .int) 1 := ⟨⟨T0_8 32 (by decide +kernel) rfl, T0_1 14 (by decide +kernel) rfl, by decide +kernel, by decide +kernel, by decide +kernel⟩, by decide, rfl, T0_8 31 (by decide +kernel) rfl, T0_sel 112 (by decide +kernel) rfl⟩
def y10_groan : MethodName := ⟨"TeethingParishModel", "groan", "(I)I"⟩
abbrev c10_groan : ByteArray := prog_12_method_90_code
theorem mf10_groan : MFv 10 y10_groan c10_groan 2 (some .int) 1 := ⟨⟨T0_8 28 (by decide +kernel) rfl, T0_1 14 (by decide +kernel) rfl, by decide +kernel, by decide +kernel, by decide +kernel⟩, by decide, rfl, T0_8 26 (by decide +kernel) rfl, T0_8 27 (by decide +kernel) rfl⟩
def y10_temptsBy : MethodName := ⟨"TeethingParishModel", "temptsBy", "(I)I"⟩
abbrev c10_temptsBy : ByteArray := prog_12_method_91_code
theorem mf10_temptsBy : MFv 10 y10_temptsBy c10_temptsBy 4 (some .int) 1 := ⟨⟨T0_8 40 (by decide +kernel) rfl, T0_1 14 (by decide +kernel) rfl, by decide +kernel, by decide +kernel, by decide +kernel⟩, by decide, rfl, T0_8 39 (by decide +kernel) rfl, T0_sel 113 (by decide +kernel) rfl⟩
def y10_tempts : MethodName := ⟨"TeethingParishModel", "tempts", "(I)I"⟩
abbrev c10_tempts : ByteArray := prog_12_method_92_code
theorem mf10_tempts : MFv 10 y10_tempts c10_tempts 2 (some .int) 1 := ⟨⟨T0_8 36 (by decide +kernel) rfl, T0_1 14 (by decide +kernel) rfl, by decide +kernel, by decide +kernel, by decide +kernel⟩, by decide, rfl, T0_8 34 (by decide +kernel) rfl, T0_8 35 (by decide +kernel) rfl⟩
def y10_proof : MethodName := ⟨"TeethingParishModel", "proof", "()I"⟩
abbrev c10_proof : ByteArray := prog_12_method_93_code
theorem mf10_proof : MFv 10 y10_proof c10_proof 3 (some .int) 0 := ⟨⟨T0_8 44 (by decide +kernel) rfl, T0_1 14 (by decide +kernel) rfl, by decide +kernel, by decide +kernel, by decide +kernel⟩, by decide, rfl, T0_8 42 (by decide +kernel) rfl, T0_8 43 (by decide +kernel) rfl⟩
def y10_canBear : MethodName := ⟨"TeethingParishModel", "canBear", "(III)Z"⟩
abbrev c10_canBear : ByteArray := prog_12_method_94_code
theorem mf10_canBear : MFv 10 y10_canBear c10_canBear 4 (some .boolean) 3 := ⟨⟨T0_8 56 (by decide +kernel) rfl, T0_1 14 (by decide +kernel) rfl, by decide +kernel, by decide +kernel, by decide +kernel⟩, by decide, rfl, T0_8 55 (by decide +kernel) rfl, T0_sel 115 (by decide +kernel) rfl⟩
def y10_layPairs : MethodName := ⟨"TeethingParishModel", "layPairs", "(II)I"⟩
abbrev c10_layPairs : ByteArray := prog_12_method_95_code
theorem mf10_layPairs : MFv 10 y10_layPairs c10_layPairs 8 (some .int) 2 := ⟨⟨T0_8 52 (by decide +kernel) rfl, T0_1 14 (by decide +kernel) rfl, by decide +kernel, by decide +kernel, by decide +kernel⟩, by decide, rfl, T0_8 51 (by decide +kernel) rfl, T0_sel 114 (by decide +kernel) rfl⟩
def y10_pairs : MethodName := ⟨"TeethingParishModel", "pairs", "()I"⟩
abbrev c10_pairs : ByteArray := prog_12_method_96_code
theorem mf10_pairs : MFv 10 y10_pairs c10_pairs 1 (some .int) 0 := ⟨⟨T0_8 48 (by decide +kernel) rfl, T0_1 14 (by decide +kernel) rfl, by decide +kernel, by decide +kernel, by decide +kernel⟩, by decide, rfl, T0_8 46 (by decide +kernel) rfl, T0_8 47 (by decide +kernel) rfl⟩
def y10_layBearers : MethodName := ⟨"TeethingParishModel", "layBearers", "()I"⟩
abbrev c10_layBearers : ByteArray := prog_12_method_97_code
theorem mf10_layBearers : MFv 10 y10_layBearers c10_layBearers 5 (some .int) 0 := ⟨⟨T0_8 64 (by decide +kernel) rfl, T0_1 14 (by decide +kernel) rfl, by decide +kernel, by decide +kernel, by decide +kernel⟩, by decide, rfl, T0_8 63 (by decide +kernel) rfl, T0_sel 116 (by decide +kernel) rfl⟩
def y10_bearer : MethodName := ⟨"TeethingParishModel", "bearer", "(I)I"⟩
abbrev c10_bearer : ByteArray := prog_12_method_98_code
theorem mf10_bearer : MFv 10 y10_bearer c10_bearer 2 (some .int) 1 := ⟨⟨T0_8 60 (by decide +kernel) rfl, T0_1 14 (by decide +kernel) rfl, by decide +kernel, by decide +kernel, by decide +kernel⟩, by decide, rfl, T0_8 58 (by decide +kernel) rfl, T0_8 59 (by decide +kernel) rfl⟩
def y10_spoons : MethodName := ⟨"TeethingParishModel", "spoons", "()I"⟩
abbrev c10_spoons : ByteArray := prog_12_method_99_code
theorem mf10_spoons : MFv 10 y10_spoons c10_spoons 2 (some .int) 0 := ⟨⟨T0_8 68 (by decide +kernel) rfl, T0_1 14 (by decide +kernel) rfl, by decide +kernel, by decide +kernel, by decide +kernel⟩, by decide, rfl, T0_8 66 (by decide +kernel) rfl, T0_8 67 (by decide +kernel) rfl⟩
def y10_lonely : MethodName := ⟨"TeethingParishModel", "lonely", "()I"⟩
abbrev c10_lonely : ByteArray := prog_12_method_100_code
theorem mf10_lonely : MFv 10 y10_lonely c10_lonely 3 (some .int) 0 := ⟨⟨T0_8 72 (by decide +kernel) rfl, T0_1 14 (by decide +kernel) rfl, by decide +kernel, by decide +kernel, by decide +kernel⟩, by decide, rfl, T0_8 70 (by decide +kernel) rfl, T0_8 71 (by decide +kernel) rfl⟩
def y10_kinder : MethodName := ⟨"TeethingParishModel", "kinder", "(I)I"⟩
abbrev c10_kinder : ByteArray := prog_12_method_101_code
theorem mf10_kinder : MFv 10 y10_kinder c10_kinder 3 (some .int) 1 := ⟨⟨T0_8 76 (by decide +kernel) rfl, T0_1 14 (by decide +kernel) rfl, by decide +kernel, by decide +kernel, by decide +kernel⟩, by decide, rfl, T0_8 74 (by decide +kernel) rfl, T0_8 75 (by decide +kernel) rfl⟩
def y10_numberAt : MethodName := ⟨"TeethingParishModel", "numberAt", "(II)J"⟩
abbrev c10_numberAt : ByteArray := prog_12_method_102_code
theorem mf10_numberAt : MFv 10 y10_numberAt c10_numberAt 3 (some .long) 2 := ⟨⟨T0_8 95 (by decide +kernel) rfl, T0_1 14 (by decide +kernel) rfl, by decide +kernel, by decide +kernel, by decide +kernel⟩, by decide, rfl, T0_8 94 (by decide +kernel) rfl, T0_sel 119 (by decide +kernel) rfl⟩
def y10_layWhose : MethodName := ⟨"TeethingParishModel", "layWhose", "(I)I"⟩
abbrev c10_layWhose : ByteArray := prog_12_method_103_code
theorem mf10_layWhose : MFv 10 y10_layWhose c10_layWhose 6 (some .int) 1 := ⟨⟨T0_8 88 (by decide +kernel) rfl, T0_1 14 (by decide +kernel) rfl, by decide +kernel, by decide +kernel, by decide +kernel⟩, by decide, rfl, T0_8 87 (by decide +kernel) rfl, T0_sel 118 (by decide +kernel) rfl⟩
def y10_whose : MethodName := ⟨"TeethingParishModel", "whose", "(I)I"⟩
abbrev c10_whose : ByteArray := prog_12_method_104_code
theorem mf10_whose : MFv 10 y10_whose c10_whose 2 (some .int) 1 := ⟨⟨T0_8 84 (by decide +kernel) rfl, T0_1 14 (by decide +kernel) rfl, by decide +kernel, by decide +kernel, by decide +kernel⟩, by decide, rfl, T0_8 82 (by decide +kernel) rfl, T0_8 83 (by decide +kernel) rfl⟩
def y10_fits : MethodName := ⟨"TeethingParishModel", "fits", "(I)I"⟩
abbrev c10_fits : ByteArray := prog_12_method_105_code
theorem mf10_fits : MFv 10 y10_fits c10_fits 3 (some .int) 1 := ⟨⟨T0_8 99 (by decide +kernel) rfl, T0_1 14 (by decide +kernel) rfl, by decide +kernel, by decide +kernel, by decide +kernel⟩, by decide, rfl, T0_8 97 (by decide +kernel) rfl, T0_8 98 (by decide +kernel) rfl⟩
def y10_askOf : MethodName := ⟨"TeethingParishModel", "askOf", "(I)I"⟩
abbrev c10_askOf : ByteArray := prog_12_method_106_code
theorem mf10_askOf : MFv 10 y10_askOf c10_askOf 8 (some .int) 1 := ⟨⟨T0_8 107 (by decide +kernel) rfl, T0_1 14 (by decide +kernel) rfl, by decide +kernel, by decide +kernel, by decide +kernel⟩, by decide, rfl, T0_8 106 (by decide +kernel) rfl, T0_sel 120 (by decide +kernel) rfl⟩
def y10_ask : MethodName := ⟨"TeethingParishModel", "ask", "(I)I"⟩
abbrev c10_ask : ByteArray := prog_12_method_107_code
theorem mf10_ask : MFv 10 y10_ask c10_ask 3 (some .int) 1 := ⟨⟨T0_8 103 (by decide +kernel) rfl, T0_1 14 (by decide +kernel) rfl, by decide +kernel, by decide +kernel, by decide +kernel⟩, by decide, rfl, T0_8 101 (by decide +kernel) rfl, T0_8 102 (by decide +kernel) rfl⟩
def y10_leaves : MethodName := ⟨"TeethingParishModel", "leaves", "(I)I"⟩
abbrev c10_leaves : ByteArray := prog_12_method_108_code
theorem mf10_leaves : MFv 10 y10_leaves c10_leaves 3 (some .int) 1 := ⟨⟨T0_8 111 (by decide +kernel) rfl, T0_1 14 (by decide +kernel) rfl, by decide +kernel, by decide +kernel, by decide +kernel⟩, by decide, rfl, T0_8 109 (by decide +kernel) rfl, T0_8 110 (by decide +kernel) rfl⟩
def y10_layBins : MethodName := ⟨"TeethingParishModel", "layBins", "()V"⟩
abbrev c10_layBins : ByteArray := prog_12_method_109_code
theorem mf10_layBins : MFv 10 y10_layBins c10_layBins 3 (none) 0 := ⟨⟨T0_8 123 (by decide +kernel) rfl, T0_1 14 (by decide +kernel) rfl, by decide +kernel, by decide +kernel, by decide +kernel⟩, by decide, rfl, T0_8 122 (by decide +kernel) rfl, T0_sel 122 (by decide +kernel) rfl⟩
def y10_asksBins : MethodName := ⟨"TeethingParishModel", "asksBins", "()Z"⟩
abbrev c10_asksBins : ByteArray := prog_12_method_110_code
theorem mf10_asksBins : MFv 10 y10_asksBins c10_asksBins 1 (some .boolean) 0 := ⟨⟨T0_8 119 (by decide +kernel) rfl, T0_1 14 (by decide +kernel) rfl, by decide +kernel, by decide +kernel, by decide +kernel⟩, by decide, rfl, T0_8 118 (by decide +kernel) rfl, T0_sel 121 (by decide +kernel) rfl⟩
def y10_orNone : MethodName := ⟨"TeethingParishModel", "orNone", "(I)I"⟩
abbrev c10_orNone : ByteArray := prog_12_method_111_code
theorem mf10_orNone : MFs y10_orNone c10_orNone 1 (some .int) 1 := ⟨⟨T0_8 126 (by decide +kernel) rfl, T0_1 14 (by decide +kernel) rfl, by decide +kernel, by decide +kernel, by decide +kernel⟩, T0_8 125 (by decide +kernel) rfl⟩
def y10_nightsX : MethodName := ⟨"TeethingParishModel", "nights", "(I)I"⟩
abbrev c10_nightsX : ByteArray := prog_12_method_112_code
theorem mf10_nightsX : MFv 10 y10_nightsX c10_nightsX 2 (some .int) 1 := ⟨⟨T0_8 115 (by decide +kernel) rfl, T0_1 14 (by decide +kernel) rfl, by decide +kernel, by decide +kernel, by decide +kernel⟩, by decide, rfl, T0_8 113 (by decide +kernel) rfl, T0_8 114 (by decide +kernel) rfl⟩
def y10_costs : MethodName := ⟨"TeethingParishModel", "costs", "(I)I"⟩
abbrev c10_costs : ByteArray := prog_12_method_113_code
theorem mf10_costs : MFv 10 y10_costs c10_costs 2 (some .int) 1 := ⟨⟨T0_8 130 (by decide +kernel) rfl, T0_1 14 (by decide +kernel) rfl, by decide +kernel, by decide +kernel, by decide +kernel⟩, by decide, rfl, T0_8 128 (by decide +kernel) rfl, T0_8 129 (by decide +kernel) rfl⟩
def y10_askShares : MethodName := ⟨"TeethingParishModel", "askShares", "(I)I"⟩
abbrev c10_askShares : ByteArray := prog_12_method_114_code
theorem mf10_askShares : MFv 10 y10_askShares c10_askShares 3 (some .int) 1 := ⟨⟨T0_8 138 (by decide +kernel) rfl, T0_1 14 (by decide +kernel) rfl, by decide +kernel, by decide +kernel, by decide +kernel⟩, by decide, rfl, T0_8 137 (by decide +kernel) rfl, T0_sel 123 (by decide +kernel) rfl⟩
def y10_sharesOf : MethodName := ⟨"TeethingParishModel", "sharesOf", "(II)I"⟩
abbrev c10_sharesOf : ByteArray := prog_12_method_115_code
theorem mf10_sharesOf : MFv 10 y10_sharesOf c10_sharesOf 5 (some .int) 2 := ⟨⟨T0_8 147 (by decide +kernel) rfl, T0_1 14 (by decide +kernel) rfl, by decide +kernel, by decide +kernel, by decide +kernel⟩, by decide, rfl, T0_8 146 (by decide +kernel) rfl, T0_sel 125 (by decide +kernel) rfl⟩
def y10_leaveOf : MethodName := ⟨"TeethingParishModel", "leaveOf", "(I)I"⟩
abbrev c10_leaveOf : ByteArray := prog_12_method_116_code
theorem mf10_leaveOf : MFv 10 y10_leaveOf c10_leaveOf 3 (some .int) 1 := ⟨⟨T0_8 143 (by decide +kernel) rfl, T0_1 14 (by decide +kernel) rfl, by decide +kernel, by decide +kernel, by decide +kernel⟩, by decide, rfl, T0_8 142 (by decide +kernel) rfl, T0_sel 124 (by decide +kernel) rfl⟩
def y10_leave : MethodName := ⟨"TeethingParishModel", "leave", "(I)I"⟩
abbrev c10_leave : ByteArray := prog_12_method_117_code
theorem mf10_leave : MFv 10 y10_leave c10_leave 3 (some .int) 1 := ⟨⟨T0_8 134 (by decide +kernel) rfl, T0_1 14 (by decide +kernel) rfl, by decide +kernel, by decide +kernel, by decide +kernel⟩, by decide, rfl, T0_8 132 (by decide +kernel) rfl, T0_8 133 (by decide +kernel) rfl⟩
def y10_fair : MethodName := ⟨"TeethingParishModel", "fair", "(I)I"⟩
abbrev c10_fair : ByteArray := prog_12_method_118_code
theorem mf10_fair : MFv 10 y10_fair c10_fair 4 (some .int) 1 := ⟨⟨T0_8 151 (by decide +kernel) rfl, T0_1 14 (by decide +kernel) rfl, by decide +kernel, by decide +kernel, by decide +kernel⟩, by decide, rfl, T0_8 149 (by decide +kernel) rfl, T0_8 150 (by decide +kernel) rfl⟩
def y10_heldBy : MethodName := ⟨"TeethingParishModel", "heldBy", "(III)I"⟩
abbrev c10_heldBy : ByteArray := prog_12_method_119_code
theorem mf10_heldBy : MFv 10 y10_heldBy c10_heldBy 4 (some .int) 3 := ⟨⟨T0_8 167 (by decide +kernel) rfl, T0_1 14 (by decide +kernel) rfl, by decide +kernel, by decide +kernel, by decide +kernel⟩, by decide, rfl, T0_8 166 (by decide +kernel) rfl, T0_sel 128 (by decide +kernel) rfl⟩
def y10_layHeld : MethodName := ⟨"TeethingParishModel", "layHeld", "(II)Z"⟩
abbrev c10_layHeld : ByteArray := prog_12_method_120_code
theorem mf10_layHeld : MFv 10 y10_layHeld c10_layHeld 4 (some .boolean) 2 := ⟨⟨T0_8 159 (by decide +kernel) rfl, T0_1 14 (by decide +kernel) rfl, by decide +kernel, by decide +kernel, by decide +kernel⟩, by decide, rfl, T0_8 158 (by decide +kernel) rfl, T0_sel 126 (by decide +kernel) rfl⟩
def y10_isRest : MethodName := ⟨"TeethingParishModel", "isRest", "(II)Z"⟩
abbrev c10_isRest : ByteArray := prog_12_method_121_code
theorem mf10_isRest : MFv 10 y10_isRest c10_isRest 4 (some .boolean) 2 := ⟨⟨T0_8 163 (by decide +kernel) rfl, T0_1 14 (by decide +kernel) rfl, by decide +kernel, by decide +kernel, by decide +kernel⟩, by decide, rfl, T0_8 162 (by decide +kernel) rfl, T0_sel 127 (by decide +kernel) rfl⟩
def y10_rests : MethodName := ⟨"TeethingParishModel", "rests", "(II)I"⟩
abbrev c10_rests : ByteArray := prog_12_method_122_code
theorem mf10_rests : MFv 10 y10_rests c10_rests 5 (some .int) 2 := ⟨⟨T0_8 155 (by decide +kernel) rfl, T0_1 14 (by decide +kernel) rfl, by decide +kernel, by decide +kernel, by decide +kernel⟩, by decide, rfl, T0_8 153 (by decide +kernel) rfl, T0_8 154 (by decide +kernel) rfl⟩
def y10_rest : MethodName := ⟨"TeethingParishModel", "rest", "(II)I"⟩
abbrev c10_rest : ByteArray := prog_12_method_123_code
theorem mf10_rest : MFv 10 y10_rest c10_rest 4 (some .int) 2 := ⟨⟨T0_8 171 (by decide +kernel) rfl, T0_1 14 (by decide +kernel) rfl, by decide +kernel, by decide +kernel, by decide +kernel⟩, by decide, rfl, T0_8 169 (by decide +kernel) rfl, T0_8 170 (by decide +kernel) rfl⟩
def y10_holding : MethodName := ⟨"TeethingParishModel", "holding", "(IIII)I"⟩
abbrev c10_holding : ByteArray := prog_12_method_124_code
theorem mf10_holding : MFv 10 y10_holding c10_holding 5 (some .int) 4 := ⟨⟨T0_8 175 (by decide +kernel) rfl, T0_1 14 (by decide +kernel) rfl, by decide +kernel, by decide +kernel, by decide +kernel⟩, by decide, rfl, T0_8 173 (by decide +kernel) rfl, T0_8 174 (by decide +kernel) rfl⟩
def y10_power : MethodName := ⟨"TeethingParishModel", "power", "(JI)J"⟩
abbrev c10_power : ByteArray := prog_12_method_125_code
theorem mf10_power : MFs y10_power c10_power 6 (some .long) 2 := ⟨⟨T0_8 183 (by decide +kernel) rfl, T0_1 14 (by decide +kernel) rfl, by decide +kernel, by decide +kernel, by decide +kernel⟩, T0_8 182 (by decide +kernel) rfl⟩
def y10_born : MethodName := ⟨"TeethingParishModel", "born", "(II)J"⟩
abbrev c10_born : ByteArray := prog_12_method_126_code
theorem mf10_born : MFv 10 y10_born c10_born 5 (some .long) 2 := ⟨⟨T0_8 179 (by decide +kernel) rfl, T0_1 14 (by decide +kernel) rfl, by decide +kernel, by decide +kernel, by decide +kernel⟩, by decide, rfl, T0_8 177 (by decide +kernel) rfl, T0_8 178 (by decide +kernel) rfl⟩
def y10_lateBy : MethodName := ⟨"TeethingParishModel", "lateBy", "(I)I"⟩
abbrev c10_lateBy : ByteArray := prog_12_method_127_code
theorem mf10_lateBy : MFv 10 y10_lateBy c10_lateBy 2 (some .int) 1 := ⟨⟨T0_8 191 (by decide +kernel) rfl, T0_1 14 (by decide +kernel) rfl, by decide +kernel, by decide +kernel, by decide +kernel⟩, by decide, rfl, T0_8 190 (by decide +kernel) rfl, T0_sel 129 (by decide +kernel) rfl⟩
def y10_late : MethodName := ⟨"TeethingParishModel", "late", "(I)I"⟩
abbrev c10_late : ByteArray := prog_12_method_128_code
theorem mf10_late : MFv 10 y10_late c10_late 2 (some .int) 1 := ⟨⟨T0_8 187 (by decide +kernel) rfl, T0_1 14 (by decide +kernel) rfl, by decide +kernel, by decide +kernel, by decide +kernel⟩, by decide, rfl, T0_8 185 (by decide +kernel) rfl, T0_8 186 (by decide +kernel) rfl⟩
def y10_mean : MethodName := ⟨"TeethingParishModel", "mean", "(I)J"⟩
abbrev c10_mean : ByteArray := prog_12_method_129_code
theorem mf10_mean : MFv 10 y10_mean c10_mean 5 (some .long) 1 := ⟨⟨T0_8 195 (by decide +kernel) rfl, T0_1 14 (by decide +kernel) rfl, by decide +kernel, by decide +kernel, by decide +kernel⟩, by decide, rfl, T0_8 193 (by decide +kernel) rfl, T0_8 194 (by decide +kernel) rfl⟩
def y10_keepAct : MethodName := ⟨"TeethingParishModel", "keepAct", "(II)I"⟩
abbrev c10_keepAct : ByteArray := prog_12_method_130_code
theorem mf10_keepAct : MFv 10 y10_keepAct c10_keepAct 3 (some .int) 2 := ⟨⟨T0_8 203 (by decide +kernel) rfl, T0_1 14 (by decide +kernel) rfl, by decide +kernel, by decide +kernel, by decide +kernel⟩, by decide, rfl, T0_8 202 (by decide +kernel) rfl, T0_sel 130 (by decide +kernel) rfl⟩
def y10_ache : MethodName := ⟨"TeethingParishModel", "ache", "(II)I"⟩
abbrev c10_ache : ByteArray := prog_12_method_131_code
theorem mf10_ache : MFv 10 y10_ache c10_ache 3 (some .int) 2 := ⟨⟨T0_8 199 (by decide +kernel) rfl, T0_1 14 (by decide +kernel) rfl, by decide +kernel, by decide +kernel, by decide +kernel⟩, by decide, rfl, T0_8 197 (by decide +kernel) rfl, T0_8 198 (by decide +kernel) rfl⟩
def y10_comes : MethodName := ⟨"TeethingParishModel", "comes", "(II)I"⟩
abbrev c10_comes : ByteArray := prog_12_method_132_code
theorem mf10_comes : MFv 10 y10_comes c10_comes 3 (some .int) 2 := ⟨⟨T0_8 207 (by decide +kernel) rfl, T0_1 14 (by decide +kernel) rfl, by decide +kernel, by decide +kernel, by decide +kernel⟩, by decide, rfl, T0_8 205 (by decide +kernel) rfl, T0_8 206 (by decide +kernel) rfl⟩
def y10_undo : MethodName := ⟨"TeethingParishModel", "undo", "()I"⟩
abbrev c10_undo : ByteArray := prog_12_method_133_code
theorem mf10_undo : MFv 10 y10_undo c10_undo 1 (some .int) 0 := ⟨⟨T0_8 212 (by decide +kernel) rfl, T0_1 14 (by decide +kernel) rfl, by decide +kernel, by decide +kernel, by decide +kernel⟩, by decide, rfl, T0_8 210 (by decide +kernel) rfl, T0_8 211 (by decide +kernel) rfl⟩
def y10_anew : MethodName := ⟨"TeethingParishModel", "anew", "()I"⟩
abbrev c10_anew : ByteArray := prog_12_method_134_code
theorem mf10_anew : MFv 10 y10_anew c10_anew 2 (some .int) 0 := ⟨⟨T0_8 216 (by decide +kernel) rfl, T0_1 14 (by decide +kernel) rfl, by decide +kernel, by decide +kernel, by decide +kernel⟩, by decide, rfl, T0_8 214 (by decide +kernel) rfl, T0_8 215 (by decide +kernel) rfl⟩
def y10_goDrawn : MethodName := ⟨"TeethingParishModel", "goDrawn", "(J)I"⟩
abbrev c10_goDrawn : ByteArray := prog_12_method_135_code
theorem mf10_goDrawn : MFv 10 y10_goDrawn c10_goDrawn 5 (some .int) 1 := ⟨⟨T0_8 228 (by decide +kernel) rfl, T0_1 14 (by decide +kernel) rfl, by decide +kernel, by decide +kernel, by decide +kernel⟩, by decide, rfl, T0_8 227 (by decide +kernel) rfl, T0_sel 131 (by decide +kernel) rfl⟩
def y10_isSeed : MethodName := ⟨"TeethingParishModel", "isSeed", "(I)Z"⟩
abbrev c10_isSeed : ByteArray := prog_12_method_136_code
theorem mf10_isSeed : MFs y10_isSeed c10_isSeed 1 (some .boolean) 1 := ⟨⟨T0_8 223 (by decide +kernel) rfl, T0_1 14 (by decide +kernel) rfl, by decide +kernel, by decide +kernel, by decide +kernel⟩, T0_8 222 (by decide +kernel) rfl⟩
def y10_drawn : MethodName := ⟨"TeethingParishModel", "drawn", "(II)I"⟩
abbrev c10_drawn : ByteArray := prog_12_method_137_code
theorem mf10_drawn : MFv 10 y10_drawn c10_drawn 4 (some .int) 2 := ⟨⟨T0_8 220 (by decide +kernel) rfl, T0_1 14 (by decide +kernel) rfl, by decide +kernel, by decide +kernel, by decide +kernel⟩, by decide, rfl, T0_8 218 (by decide +kernel) rfl, T0_8 219 (by decide +kernel) rfl⟩
def y10_luck : MethodName := ⟨"TeethingParishModel", "luck", "(III)I"⟩
abbrev c10_luck : ByteArray := prog_12_method_138_code
theorem mf10_luck : MFv 10 y10_luck c10_luck 6 (some .int) 3 := ⟨⟨T0_8 236 (by decide +kernel) rfl, T0_1 14 (by decide +kernel) rfl, by decide +kernel, by decide +kernel, by decide +kernel⟩, by decide, rfl, T0_8 234 (by decide +kernel) rfl, T0_8 235 (by decide +kernel) rfl⟩
def y10_widen : MethodName := ⟨"TeethingParishModel", "widen", "(I)I"⟩
abbrev c10_widen : ByteArray := prog_12_method_139_code
theorem mf10_widen : MFv 10 y10_widen c10_widen 3 (some .int) 1 := ⟨⟨T0_9 0 (by decide +kernel) rfl, T0_1 14 (by decide +kernel) rfl, by decide +kernel, by decide +kernel, by decide +kernel⟩, by decide, rfl, T0_8 238 (by decide +kernel) rfl, T0_8 239 (by decide +kernel) rfl⟩
def y10_count : MethodName := ⟨"TeethingParishModel", "count", "(I)I"⟩
abbrev c10_count : ByteArray := prog_12_method_140_code
theorem mf10_count : MFv 10 y10_count c10_count 4 (some .int) 1 := ⟨⟨T0_9 5 (by decide +kernel) rfl, T0_1 14 (by decide +kernel) rfl, by decide +kernel, by decide +kernel, by decide +kernel⟩, by decide, rfl, T0_9 3 (by decide +kernel) rfl, T0_9 4 (by decide +kernel) rfl⟩
def y10_isSlot : MethodName := ⟨"TeethingParishModel", "isSlot", "(I)Z"⟩
abbrev c10_isSlot : ByteArray := prog_12_method_141_code
theorem mf10_isSlot : MFs y10_isSlot c10_isSlot 1 (some .boolean) 1 := ⟨⟨T0_8 91 (by decide +kernel) rfl, T0_1 14 (by decide +kernel) rfl, by decide +kernel, by decide +kernel, by decide +kernel⟩, T0_8 90 (by decide +kernel) rfl⟩
def y10_cutX : MethodName := ⟨"TeethingParishModel", "cut", "(JI)J"⟩
abbrev c10_cutX : ByteArray := prog_12_method_142_code
theorem mf10_cutX : MFs y10_cutX c10_cutX 4 (some .long) 2 := ⟨⟨T0_9 17 (by decide +kernel) rfl, T0_1 14 (by decide +kernel) rfl, by decide +kernel, by decide +kernel, by decide +kernel⟩, T0_9 16 (by decide +kernel) rfl⟩
def y10_row : MethodName := ⟨"TeethingParishModel", "row", "(III)I"⟩
abbrev c10_row : ByteArray := prog_12_method_143_code
theorem mf10_row : MFv 10 y10_row c10_row 5 (some .int) 3 := ⟨⟨T0_9 10 (by decide +kernel) rfl, T0_1 14 (by decide +kernel) rfl, by decide +kernel, by decide +kernel, by decide +kernel⟩, by decide, rfl, T0_9 8 (by decide +kernel) rfl, T0_9 9 (by decide +kernel) rfl⟩
def y10_write : MethodName := ⟨"TeethingParishModel", "write", "(IIJ)I"⟩
abbrev c10_write : ByteArray := prog_12_method_144_code
theorem mf10_write : MFv 10 y10_write c10_write 5 (some .int) 3 := ⟨⟨T0_9 14 (by decide +kernel) rfl, T0_1 14 (by decide +kernel) rfl, by decide +kernel, by decide +kernel, by decide +kernel⟩, by decide, rfl, T0_9 12 (by decide +kernel) rfl, T0_9 13 (by decide +kernel) rfl⟩
def y10_paste : MethodName := ⟨"TeethingParishModel", "paste", "(IIIII)I"⟩
abbrev c10_paste : ByteArray := prog_12_method_145_code
theorem mf10_paste : MFv 10 y10_paste c10_paste 7 (some .int) 5 := ⟨⟨T0_9 21 (by decide +kernel) rfl, T0_1 14 (by decide +kernel) rfl, by decide +kernel, by decide +kernel, by decide +kernel⟩, by decide, rfl, T0_9 19 (by decide +kernel) rfl, T0_9 20 (by decide +kernel) rfl⟩
def y0_work : MethodName := ⟨"TeethingParish$Between", "work", "()V"⟩
abbrev c0_work : ByteArray := prog_2_method_2_code
theorem mf0_work : MFv 0 y0_work c0_work 1 (none) 0 := ⟨⟨T0_4 182 (by decide +kernel) rfl, T0_1 7 (by decide +kernel) rfl, by decide +kernel, by decide +kernel, by decide +kernel⟩, by decide, rfl, T0_4 181 (by decide +kernel) rfl, T0_sel 38 (by decide +kernel) rfl⟩
def y0_findHelpers : MethodName := ⟨"TeethingParish$Between", "findHelpers", "([III)V"⟩
abbrev c0_findHelpers : ByteArray := prog_2_method_3_code
theorem mf0_findHelpers : MFv 0 y0_findHelpers c0_findHelpers 7 (none) 3 := ⟨⟨T0_4 186 (by decide +kernel) rfl, T0_1 7 (by decide +kernel) rfl, by decide +kernel, by decide +kernel, by decide +kernel⟩, by decide, rfl, T0_4 185 (by decide +kernel) rfl, T0_sel 39 (by decide +kernel) rfl⟩
def y0_countFromBehind : MethodName := ⟨"TeethingParish$Between", "countFromBehind", "()V"⟩
abbrev c0_countFromBehind : ByteArray := prog_2_method_4_code
theorem mf0_countFromBehind : MFv 0 y0_countFromBehind c0_countFromBehind 8 (none) 0 := ⟨⟨T0_4 190 (by decide +kernel) rfl, T0_1 7 (by decide +kernel) rfl, by decide +kernel, by decide +kernel, by decide +kernel⟩, by decide, rfl, T0_4 189 (by decide +kernel) rfl, T0_sel 40 (by decide +kernel) rfl⟩
def y0_chooseFirst : MethodName := ⟨"TeethingParish$Between", "chooseFirst", "()V"⟩
abbrev c0_chooseFirst : ByteArray := prog_2_method_5_code
theorem mf0_chooseFirst : MFv 0 y0_chooseFirst c0_chooseFirst 7 (none) 0 := ⟨⟨T0_4 195 (by decide +kernel) rfl, T0_1 7 (by decide +kernel) rfl, by decide +kernel, by decide +kernel, by decide +kernel⟩, by decide, rfl, T0_4 194 (by decide +kernel) rfl, T0_sel 41 (by decide +kernel) rfl⟩
def y0_allBorne : MethodName := ⟨"TeethingParish$Between", "allBorne", "(II)Z"⟩
abbrev c0_allBorne : ByteArray := prog_2_method_6_code
theorem mf0_allBorne : MFv 0 y0_allBorne c0_allBorne 6 (some .boolean) 2 := ⟨⟨T0_4 219 (by decide +kernel) rfl, T0_1 7 (by decide +kernel) rfl, by decide +kernel, by decide +kernel, by decide +kernel⟩, by decide, rfl, T0_4 218 (by decide +kernel) rfl, T0_sel 43 (by decide +kernel) rfl⟩
def y0_addBearers : MethodName := ⟨"TeethingParish$Between", "addBearers", "(II)Z"⟩
abbrev c0_addBearers : ByteArray := prog_2_method_7_code
theorem mf0_addBearers : MFv 0 y0_addBearers c0_addBearers 8 (some .boolean) 2 := ⟨⟨T0_4 224 (by decide +kernel) rfl, T0_1 7 (by decide +kernel) rfl, by decide +kernel, by decide +kernel, by decide +kernel⟩, by decide, rfl, T0_4 223 (by decide +kernel) rfl, T0_sel 44 (by decide +kernel) rfl⟩
def y1_work : MethodName := ⟨"TeethingParish$Costs", "work", "()V"⟩
abbrev c1_work : ByteArray := prog_3_method_2_code
theorem mf1_work : MFv 1 y1_work c1_work 3 (none) 0 := ⟨⟨T0_5 49 (by decide +kernel) rfl, T0_1 8 (by decide +kernel) rfl, by decide +kernel, by decide +kernel, by decide +kernel⟩, by decide, rfl, T0_5 48 (by decide +kernel) rfl, T0_sel 52 (by decide +kernel) rfl⟩
def y1_fewest : MethodName := ⟨"TeethingParish$Costs", "fewest", "(I)I"⟩
abbrev c1_fewest : ByteArray := prog_3_method_3_code
theorem mf1_fewest : MFv 1 y1_fewest c1_fewest 6 (some .int) 1 := ⟨⟨T0_5 54 (by decide +kernel) rfl, T0_1 8 (by decide +kernel) rfl, by decide +kernel, by decide +kernel, by decide +kernel⟩, by decide, rfl, T0_5 53 (by decide +kernel) rfl, T0_sel 53 (by decide +kernel) rfl⟩
def y1_costOf : MethodName := ⟨"TeethingParish$Costs", "costOf", "(I)I"⟩
abbrev c1_costOf : ByteArray := prog_3_method_4_code
theorem mf1_costOf : MFv 1 y1_costOf c1_costOf 2 (some .int) 1 := ⟨⟨T0_5 63 (by decide +kernel) rfl, T0_1 8 (by decide +kernel) rfl, by decide +kernel, by decide +kernel, by decide +kernel⟩, by decide, rfl, T0_5 62 (by decide +kernel) rfl, T0_sel 54 (by decide +kernel) rfl⟩
def y1_paidBy : MethodName := ⟨"TeethingParish$Costs", "paidBy", "(LTeethingParish$Slot;I)I"⟩
abbrev c1_paidBy : ByteArray := prog_3_method_5_code
theorem mf1_paidBy : MFv 1 y1_paidBy c1_paidBy 5 (some .int) 2 := ⟨⟨T0_5 75 (by decide +kernel) rfl, T0_1 8 (by decide +kernel) rfl, by decide +kernel, by decide +kernel, by decide +kernel⟩, by decide, rfl, T0_5 74 (by decide +kernel) rfl, T0_sel 56 (by decide +kernel) rfl⟩
def y1_leaver : MethodName := ⟨"TeethingParish$Costs", "leaver", "(LTeethingParish$Slot;)I"⟩
abbrev c1_leaver : ByteArray := prog_3_method_6_code
theorem mf1_leaver : MFv 1 y1_leaver c1_leaver 5 (some .int) 1 := ⟨⟨T0_5 79 (by decide +kernel) rfl, T0_1 8 (by decide +kernel) rfl, by decide +kernel, by decide +kernel, by decide +kernel⟩, by decide, rfl, T0_5 78 (by decide +kernel) rfl, T0_sel 57 (by decide +kernel) rfl⟩
def y2_clear : MethodName := ⟨"TeethingParish$Parish", "clear", "()V"⟩
abbrev c2_clear : ByteArray := prog_4_method_2_code
theorem mf2_clear : MFv 2 y2_clear c2_clear 1 (none) 0 := ⟨⟨T0_3 45 (by decide +kernel) rfl, T0_1 4 (by decide +kernel) rfl, by decide +kernel, by decide +kernel, by decide +kernel⟩, by decide, rfl, T0_3 44 (by decide +kernel) rfl, T0_sel 8 (by decide +kernel) rfl⟩
def y2_become : MethodName := ⟨"TeethingParish$Parish", "become", "(LTeethingParish$Parish;)V"⟩
abbrev c2_become : ByteArray := prog_4_method_3_code
theorem mf2_become : MFv 2 y2_become c2_become 2 (none) 1 := ⟨⟨T0_3 156 (by decide +kernel) rfl, T0_1 4 (by decide +kernel) rfl, by decide +kernel, by decide +kernel, by decide +kernel⟩, by decide, rfl, T0_3 155 (by decide +kernel) rfl, T0_sel 17 (by decide +kernel) rfl⟩
def y2_change : MethodName := ⟨"TeethingParish$Parish", "change", "(III)I"⟩
abbrev c2_change : ByteArray := prog_4_method_4_code
theorem mf2_change : MFv 2 y2_change c2_change 6 (some .int) 3 := ⟨⟨T0_5 167 (by decide +kernel) rfl, T0_1 4 (by decide +kernel) rfl, by decide +kernel, by decide +kernel, by decide +kernel⟩, by decide, rfl, T0_5 166 (by decide +kernel) rfl, T0_sel 67 (by decide +kernel) rfl⟩
def y2_takeBack : MethodName := ⟨"TeethingParish$Parish", "takeBack", "()V"⟩
abbrev c2_takeBack : ByteArray := prog_4_method_5_code
theorem mf2_takeBack : MFv 2 y2_takeBack c2_takeBack 2 (none) 0 := ⟨⟨T0_5 179 (by decide +kernel) rfl, T0_1 4 (by decide +kernel) rfl, by decide +kernel, by decide +kernel, by decide +kernel⟩, by decide, rfl, T0_5 178 (by decide +kernel) rfl, T0_sel 68 (by decide +kernel) rfl⟩
def y2_tell : MethodName := ⟨"TeethingParish$Parish", "tell", "(II)V"⟩
abbrev c2_tell : ByteArray := prog_4_method_6_code
theorem mf2_tell : MFv 2 y2_tell c2_tell 3 (none) 2 := ⟨⟨T0_3 147 (by decide +kernel) rfl, T0_1 4 (by decide +kernel) rfl, by decide +kernel, by decide +kernel, by decide +kernel⟩, by decide, rfl, T0_3 146 (by decide +kernel) rfl, T0_sel 15 (by decide +kernel) rfl⟩
def y2_tellPerson : MethodName := ⟨"TeethingParish$Parish", "tellPerson", "(II)V"⟩
abbrev c2_tellPerson : ByteArray := prog_4_method_7_code
theorem mf2_tellPerson : MFv 2 y2_tellPerson c2_tellPerson 4 (none) 2 := ⟨⟨T0_3 151 (by decide +kernel) rfl, T0_1 4 (by decide +kernel) rfl, by decide +kernel, by decide +kernel, by decide +kernel⟩, by decide, rfl, T0_3 150 (by decide +kernel) rfl, T0_sel 16 (by decide +kernel) rfl⟩
def y3_work : MethodName := ⟨"TeethingParish$Planner", "work", "()V"⟩
abbrev c3_work : ByteArray := prog_5_method_2_code
theorem mf3_work : MFv 3 y3_work c3_work 1 (none) 0 := ⟨⟨T0_4 115 (by decide +kernel) rfl, T0_1 6 (by decide +kernel) rfl, by decide +kernel, by decide +kernel, by decide +kernel⟩, by decide, rfl, T0_4 114 (by decide +kernel) rfl, T0_sel 30 (by decide +kernel) rfl⟩
def y3_nightOf : MethodName := ⟨"TeethingParish$Planner", "nightOf", "(I)I"⟩
abbrev c3_nightOf : ByteArray := prog_5_method_3_code
theorem mf3_nightOf : MFv 3 y3_nightOf c3_nightOf 2 (some .int) 1 := ⟨⟨T0_4 156 (by decide +kernel) rfl, T0_1 6 (by decide +kernel) rfl, by decide +kernel, by decide +kernel, by decide +kernel⟩, by decide, rfl, T0_4 155 (by decide +kernel) rfl, T0_sel 35 (by decide +kernel) rfl⟩
def y3_leastRoom : MethodName := ⟨"TeethingParish$Planner", "leastRoom", "(I)I"⟩
abbrev c3_leastRoom : ByteArray := prog_5_method_4_code
theorem mf3_leastRoom : MFv 3 y3_leastRoom c3_leastRoom 6 (some .int) 1 := ⟨⟨T0_4 170 (by decide +kernel) rfl, T0_1 6 (by decide +kernel) rfl, by decide +kernel, by decide +kernel, by decide +kernel⟩, by decide, rfl, T0_4 169 (by decide +kernel) rfl, T0_sel 36 (by decide +kernel) rfl⟩
def y3_leastBy : MethodName := ⟨"TeethingParish$Planner", "leastBy", "(I)I"⟩
abbrev c3_leastBy : ByteArray := prog_5_method_5_code
theorem mf3_leastBy : MFv 3 y3_leastBy c3_leastBy 8 (some .int) 1 := ⟨⟨T0_4 174 (by decide +kernel) rfl, T0_1 6 (by decide +kernel) rfl, by decide +kernel, by decide +kernel, by decide +kernel⟩, by decide, rfl, T0_4 173 (by decide +kernel) rfl, T0_sel 37 (by decide +kernel) rfl⟩
def y3_shiftOf : MethodName := ⟨"TeethingParish$Planner", "shiftOf", "(I)I"⟩
abbrev c3_shiftOf : ByteArray := prog_5_method_6_code
theorem mf3_shiftOf : MFs y3_shiftOf c3_shiftOf 1 (some .int) 1 := ⟨⟨T0_4 126 (by decide +kernel) rfl, T0_1 6 (by decide +kernel) rfl, by decide +kernel, by decide +kernel, by decide +kernel⟩, T0_4 125 (by decide +kernel) rfl⟩
def y3_addUp : MethodName := ⟨"TeethingParish$Planner", "addUp", "()V"⟩
abbrev c3_addUp : ByteArray := prog_5_method_7_code
theorem mf3_addUp : MFv 3 y3_addUp c3_addUp 5 (none) 0 := ⟨⟨T0_4 119 (by decide +kernel) rfl, T0_1 6 (by decide +kernel) rfl, by decide +kernel, by decide +kernel, by decide +kernel⟩, by decide, rfl, T0_4 118 (by decide +kernel) rfl, T0_sel 31 (by decide +kernel) rfl⟩
def y3_search : MethodName := ⟨"TeethingParish$Planner", "search", "(I)V"⟩
abbrev c3_search : ByteArray := prog_5_method_8_code
theorem mf3_search : MFv 3 y3_search c3_search 8 (none) 1 := ⟨⟨T0_4 130 (by decide +kernel) rfl, T0_1 6 (by decide +kernel) rfl, by decide +kernel, by decide +kernel, by decide +kernel⟩, by decide, rfl, T0_4 129 (by decide +kernel) rfl, T0_sel 32 (by decide +kernel) rfl⟩
def y3_giveInNight : MethodName := ⟨"TeethingParish$Planner", "giveInNight", "(III)V"⟩
abbrev c3_giveInNight : ByteArray := prog_5_method_9_code
theorem mf3_giveInNight : MFv 3 y3_giveInNight c3_giveInNight 15 (none) 3 := ⟨⟨T0_4 136 (by decide +kernel) rfl, T0_1 6 (by decide +kernel) rfl, by decide +kernel, by decide +kernel, by decide +kernel⟩, by decide, rfl, T0_4 135 (by decide +kernel) rfl, T0_sel 33 (by decide +kernel) rfl⟩
def y3_takeLeast : MethodName := ⟨"TeethingParish$Planner", "takeLeast", "(I)V"⟩
abbrev c3_takeLeast : ByteArray := prog_5_method_10_code
theorem mf3_takeLeast : MFv 3 y3_takeLeast c3_takeLeast 9 (none) 1 := ⟨⟨T0_4 143 (by decide +kernel) rfl, T0_1 6 (by decide +kernel) rfl, by decide +kernel, by decide +kernel, by decide +kernel⟩, by decide, rfl, T0_4 142 (by decide +kernel) rfl, T0_sel 34 (by decide +kernel) rfl⟩
def y4_read : MethodName := ⟨"TeethingParish$Reader", "read", "()Z"⟩
abbrev c4_read : ByteArray := prog_6_method_2_code
theorem mf4_read : MFv 4 y4_read c4_read 2 (some .boolean) 0 := ⟨⟨T0_3 41 (by decide +kernel) rfl, T0_1 3 (by decide +kernel) rfl, by decide +kernel, by decide +kernel, by decide +kernel⟩, by decide, rfl, T0_3 40 (by decide +kernel) rfl, T0_sel 7 (by decide +kernel) rfl⟩
def y4_readLine : MethodName := ⟨"TeethingParish$Reader", "readLine", "(Z)Z"⟩
abbrev c4_readLine : ByteArray := prog_6_method_3_code
theorem mf4_readLine : MFv 4 y4_readLine c4_readLine 2 (some .boolean) 1 := ⟨⟨T0_3 59 (by decide +kernel) rfl, T0_1 3 (by decide +kernel) rfl, by decide +kernel, by decide +kernel, by decide +kernel⟩, by decide, rfl, T0_3 58 (by decide +kernel) rfl, T0_sel 10 (by decide +kernel) rfl⟩
def y4_readFields : MethodName := ⟨"TeethingParish$Reader", "readFields", "(II)Z"⟩
abbrev c4_readFields : ByteArray := prog_6_method_4_code
theorem mf4_readFields : MFv 4 y4_readFields c4_readFields 5 (some .boolean) 2 := ⟨⟨T0_3 120 (by decide +kernel) rfl, T0_1 3 (by decide +kernel) rfl, by decide +kernel, by decide +kernel, by decide +kernel⟩, by decide, rfl, T0_3 119 (by decide +kernel) rfl, T0_sel 13 (by decide +kernel) rfl⟩
def y4_wordOf : MethodName := ⟨"TeethingParish$Reader", "wordOf", "(I)Ljava/lang/String;"⟩
abbrev c4_wordOf : ByteArray := prog_6_method_5_code
theorem mf4_wordOf : MFs y4_wordOf c4_wordOf 1 (some (.object "java/lang/String")) 1 := ⟨⟨T0_3 123 (by decide +kernel) rfl, T0_1 3 (by decide +kernel) rfl, by decide +kernel, by decide +kernel, by decide +kernel⟩, T0_3 122 (by decide +kernel) rfl⟩
def y4_failed : MethodName := ⟨"TeethingParish$Reader", "failed", "(I)Z"⟩
abbrev c4_failed : ByteArray := prog_6_method_6_code
theorem mf4_failed : MFv 4 y4_failed c4_failed 2 (some .boolean) 1 := ⟨⟨T0_3 78 (by decide +kernel) rfl, T0_1 3 (by decide +kernel) rfl, by decide +kernel, by decide +kernel, by decide +kernel⟩, by decide, rfl, T0_3 77 (by decide +kernel) rfl, T0_sel 12 (by decide +kernel) rfl⟩
def y4_next : MethodName := ⟨"TeethingParish$Reader", "next", "()V"⟩
abbrev c4_next : ByteArray := prog_6_method_7_code
theorem mf4_next : MFv 4 y4_next c4_next 1 (none) 0 := ⟨⟨T0_3 49 (by decide +kernel) rfl, T0_1 3 (by decide +kernel) rfl, by decide +kernel, by decide +kernel, by decide +kernel⟩, by decide, rfl, T0_3 48 (by decide +kernel) rfl, T0_sel 9 (by decide +kernel) rfl⟩
def y4_isBlank : MethodName := ⟨"TeethingParish$Reader", "isBlank", "(I)Z"⟩
abbrev c4_isBlank : ByteArray := prog_6_method_8_code
theorem mf4_isBlank : MFs y4_isBlank c4_isBlank 1 (some .boolean) 1 := ⟨⟨T0_3 52 (by decide +kernel) rfl, T0_1 3 (by decide +kernel) rfl, by decide +kernel, by decide +kernel, by decide +kernel⟩, T0_3 51 (by decide +kernel) rfl⟩
def y4_kindOf : MethodName := ⟨"TeethingParish$Reader", "kindOf", "(I)I"⟩
abbrev c4_kindOf : ByteArray := prog_6_method_9_code
theorem mf4_kindOf : MFs y4_kindOf c4_kindOf 1 (some .int) 1 := ⟨⟨T0_3 55 (by decide +kernel) rfl, T0_1 3 (by decide +kernel) rfl, by decide +kernel, by decide +kernel, by decide +kernel⟩, T0_3 54 (by decide +kernel) rfl⟩
def y4_isWord : MethodName := ⟨"TeethingParish$Reader", "isWord", "(Ljava/lang/String;)Z"⟩
abbrev c4_isWord : ByteArray := prog_6_method_10_code
theorem mf4_isWord : MFv 4 y4_isWord c4_isWord 3 (some .boolean) 1 := ⟨⟨T0_3 64 (by decide +kernel) rfl, T0_1 3 (by decide +kernel) rfl, by decide +kernel, by decide +kernel, by decide +kernel⟩, by decide, rfl, T0_3 63 (by decide +kernel) rfl, T0_sel 11 (by decide +kernel) rfl⟩
def y4_numberRead : MethodName := ⟨"TeethingParish$Reader", "numberRead", "()I"⟩
abbrev c4_numberRead : ByteArray := prog_6_method_11_code
theorem mf4_numberRead : MFv 4 y4_numberRead c4_numberRead 3 (some .int) 0 := ⟨⟨T0_3 138 (by decide +kernel) rfl, T0_1 3 (by decide +kernel) rfl, by decide +kernel, by decide +kernel, by decide +kernel⟩, by decide, rfl, T0_3 137 (by decide +kernel) rfl, T0_sel 14 (by decide +kernel) rfl⟩
def y5_become : MethodName := ⟨"TeethingParish$Slot", "become", "(II)V"⟩
abbrev c5_become : ByteArray := prog_7_method_2_code
theorem mf5_become : MFv 5 y5_become c5_become 3 (none) 2 := ⟨⟨T0_5 215 (by decide +kernel) rfl, T0_1 10 (by decide +kernel) rfl, by decide +kernel, by decide +kernel, by decide +kernel⟩, by decide, rfl, T0_5 214 (by decide +kernel) rfl, T0_sel 71 (by decide +kernel) rfl⟩
def y5_narrowed : MethodName := ⟨"TeethingParish$Slot", "narrowed", "(J)J"⟩
abbrev c5_narrowed : ByteArray := prog_7_method_3_code
theorem mf5_narrowed : MFv 5 y5_narrowed c5_narrowed 3 (some .long) 1 := ⟨⟨T0_5 226 (by decide +kernel) rfl, T0_1 10 (by decide +kernel) rfl, by decide +kernel, by decide +kernel, by decide +kernel⟩, by decide, rfl, T0_5 225 (by decide +kernel) rfl, T0_sel 72 (by decide +kernel) rfl⟩
def y5_reaches : MethodName := ⟨"TeethingParish$Slot", "reaches", "(II)Z"⟩
abbrev c5_reaches : ByteArray := prog_7_method_4_code
theorem mf5_reaches : MFv 5 y5_reaches c5_reaches 3 (some .boolean) 2 := ⟨⟨T0_5 234 (by decide +kernel) rfl, T0_1 10 (by decide +kernel) rfl, by decide +kernel, by decide +kernel, by decide +kernel⟩, by decide, rfl, T0_5 233 (by decide +kernel) rfl, T0_sel 73 (by decide +kernel) rfl⟩
def y5_isWithin : MethodName := ⟨"TeethingParish$Slot", "isWithin", "(II)Z"⟩
abbrev c5_isWithin : ByteArray := prog_7_method_5_code
theorem mf5_isWithin : MFv 5 y5_isWithin c5_isWithin 3 (some .boolean) 2 := ⟨⟨T0_5 10 (by decide +kernel) rfl, T0_1 10 (by decide +kernel) rfl, by decide +kernel, by decide +kernel, by decide +kernel⟩, by decide, rfl, T0_5 9 (by decide +kernel) rfl, T0_sel 48 (by decide +kernel) rfl⟩
def y6_question : MethodName := ⟨"TeethingParish$Suspects", "question", "(LTeethingParish$Slot;)V"⟩
abbrev c6_question : ByteArray := prog_8_method_2_code
theorem mf6_question : MFv 6 y6_question c6_question 4 (none) 1 := ⟨⟨T0_5 14 (by decide +kernel) rfl, T0_1 9 (by decide +kernel) rfl, by decide +kernel, by decide +kernel, by decide +kernel⟩, by decide, rfl, T0_5 13 (by decide +kernel) rfl, T0_sel 49 (by decide +kernel) rfl⟩
def y6_suspect : MethodName := ⟨"TeethingParish$Suspects", "suspect", "(LTeethingParish$Slot;I)V"⟩
abbrev c6_suspect : ByteArray := prog_8_method_3_code
theorem mf6_suspect : MFv 6 y6_suspect c6_suspect 5 (none) 2 := ⟨⟨T0_5 18 (by decide +kernel) rfl, T0_1 9 (by decide +kernel) rfl, by decide +kernel, by decide +kernel, by decide +kernel⟩, by decide, rfl, T0_5 17 (by decide +kernel) rfl, T0_sel 50 (by decide +kernel) rfl⟩
def y6_mostAlike : MethodName := ⟨"TeethingParish$Suspects", "mostAlike", "(I)I"⟩
abbrev c6_mostAlike : ByteArray := prog_8_method_4_code
theorem mf6_mostAlike : MFv 6 y6_mostAlike c6_mostAlike 5 (some .int) 1 := ⟨⟨T0_5 26 (by decide +kernel) rfl, T0_1 9 (by decide +kernel) rfl, by decide +kernel, by decide +kernel, by decide +kernel⟩, by decide, rfl, T0_5 25 (by decide +kernel) rfl, T0_sel 51 (by decide +kernel) rfl⟩
def y7_add : MethodName := ⟨"TeethingParish$Tape", "add", "(I)V"⟩
abbrev c7_add : ByteArray := prog_9_method_2_code
theorem mf7_add : MFv 7 y7_add c7_add 3 (none) 1 := ⟨⟨T0_3 29 (by decide +kernel) rfl, T0_1 2 (by decide +kernel) rfl, by decide +kernel, by decide +kernel, by decide +kernel⟩, by decide, rfl, T0_3 28 (by decide +kernel) rfl, T0_sel 6 (by decide +kernel) rfl⟩
def y8_prepare : MethodName := ⟨"TeethingParish$Year", "prepare", "()V"⟩
abbrev c8_prepare : ByteArray := prog_10_method_2_code
theorem mf8_prepare : MFv 8 y8_prepare c8_prepare 1 (none) 0 := ⟨⟨T0_2 193 (by decide +kernel) rfl, T0_1 5 (by decide +kernel) rfl, by decide +kernel, by decide +kernel, by decide +kernel⟩, by decide, rfl, T0_2 192 (by decide +kernel) rfl, T0_sel 1 (by decide +kernel) rfl⟩
def y8_pass : MethodName := ⟨"TeethingParish$Year", "pass", "()V"⟩
abbrev c8_pass : ByteArray := prog_10_method_3_code
theorem mf8_pass : MFv 8 y8_pass c8_pass 5 (none) 0 := ⟨⟨T0_2 203 (by decide +kernel) rfl, T0_1 5 (by decide +kernel) rfl, by decide +kernel, by decide +kernel, by decide +kernel⟩, by decide, rfl, T0_2 202 (by decide +kernel) rfl, T0_sel 2 (by decide +kernel) rfl⟩
def y8_passNight : MethodName := ⟨"TeethingParish$Year", "passNight", "(IZ)V"⟩
abbrev c8_passNight : ByteArray := prog_10_method_4_code
theorem mf8_passNight : MFv 8 y8_passNight c8_passNight 7 (none) 2 := ⟨⟨T0_2 215 (by decide +kernel) rfl, T0_1 5 (by decide +kernel) rfl, by decide +kernel, by decide +kernel, by decide +kernel⟩, by decide, rfl, T0_2 214 (by decide +kernel) rfl, T0_sel 5 (by decide +kernel) rfl⟩
def y8_putInOrder : MethodName := ⟨"TeethingParish$Year", "putInOrder", "()V"⟩
abbrev c8_putInOrder : ByteArray := prog_10_method_5_code
theorem mf8_putInOrder : MFv 8 y8_putInOrder c8_putInOrder 4 (none) 0 := ⟨⟨T0_2 207 (by decide +kernel) rfl, T0_1 5 (by decide +kernel) rfl, by decide +kernel, by decide +kernel, by decide +kernel⟩, by decide, rfl, T0_2 206 (by decide +kernel) rfl, T0_sel 3 (by decide +kernel) rfl⟩
def y8_rankOf : MethodName := ⟨"TeethingParish$Year", "rankOf", "(I)I"⟩
abbrev c8_rankOf : ByteArray := prog_10_method_6_code
theorem mf8_rankOf : MFv 8 y8_rankOf c8_rankOf 2 (some .int) 1 := ⟨⟨T0_2 211 (by decide +kernel) rfl, T0_1 5 (by decide +kernel) rfl, by decide +kernel, by decide +kernel, by decide +kernel⟩, by decide, rfl, T0_2 210 (by decide +kernel) rfl, T0_sel 4 (by decide +kernel) rfl⟩
def y8_looksAtAches : MethodName := ⟨"TeethingParish$Year", "looksAtAches", "()Z"⟩
abbrev c8_looksAtAches : ByteArray := prog_10_method_7_code
theorem mf8_looksAtAches : MFv 8 y8_looksAtAches c8_looksAtAches 1 (some .boolean) 0 := ⟨⟨T0_4 95 (by decide +kernel) rfl, T0_1 5 (by decide +kernel) rfl, by decide +kernel, by decide +kernel, by decide +kernel⟩, by decide, rfl, T0_4 94 (by decide +kernel) rfl, T0_sel 28 (by decide +kernel) rfl⟩
def y8_teethCut : MethodName := ⟨"TeethingParish$Year", "teethCut", "()I"⟩
abbrev c8_teethCut : ByteArray := prog_10_method_8_code
theorem mf8_teethCut : MFv 8 y8_teethCut c8_teethCut 1 (some .int) 0 := ⟨⟨T0_3 237 (by decide +kernel) rfl, T0_1 5 (by decide +kernel) rfl, by decide +kernel, by decide +kernel, by decide +kernel⟩, by decide, rfl, T0_3 236 (by decide +kernel) rfl, T0_sel 22 (by decide +kernel) rfl⟩
def y13_bitCount : MethodName := ⟨"java/lang/Integer", "bitCount", "(I)I"⟩
abbrev c13_bitCount : ByteArray := prog_13_method_49_code
theorem mf13_bitCount : MFs y13_bitCount c13_bitCount 1 (some .int) 1 := ⟨⟨T0_4 227 (by decide +kernel) rfl, T0_1 19 (by decide +kernel) rfl, by decide +kernel, by decide +kernel, by decide +kernel⟩, T0_4 226 (by decide +kernel) rfl⟩
def y12_fillI : MethodName := ⟨"java/util/Arrays", "fill", "([II)V"⟩
abbrev c12_fillI : ByteArray := prog_19_method_103_code
theorem mf12_fillI : MFs y12_fillI c12_fillI 4 (none) 2 := ⟨⟨T0_2 199 (by decide +kernel) rfl, T0_1 12 (by decide +kernel) rfl, by decide +kernel, by decide +kernel, by decide +kernel⟩, T0_2 198 (by decide +kernel) rfl⟩
def y12_fillJ : MethodName := ⟨"java/util/Arrays", "fill", "([JJ)V"⟩
abbrev c12_fillJ : ByteArray := prog_19_method_101_code
theorem mf12_fillJ : MFs y12_fillJ c12_fillJ 5 (none) 2 := ⟨⟨T0_5 218 (by decide +kernel) rfl, T0_1 12 (by decide +kernel) rfl, by decide +kernel, by decide +kernel, by decide +kernel⟩, T0_5 217 (by decide +kernel) rfl⟩
def y9_init : MethodName := ⟨"TeethingParish", "<init>", "()V"⟩
abbrev c9_init : ByteArray := prog_1_method_1_code
def y10_init : MethodName := ⟨"TeethingParishModel", "<init>", "()V"⟩
abbrev c10_init : ByteArray := prog_12_method_1_code
def y0_init : MethodName := ⟨"TeethingParish$Between", "<init>", "(LTeethingParish$Parish;)V"⟩
abbrev c0_init : ByteArray := prog_2_method_1_code
def y1_init : MethodName := ⟨"TeethingParish$Costs", "<init>", "(LTeethingParish$Parish;)V"⟩
abbrev c1_init : ByteArray := prog_3_method_1_code
def y2_init : MethodName := ⟨"TeethingParish$Parish", "<init>", "()V"⟩
abbrev c2_init : ByteArray := prog_4_method_1_code
def y3_init : MethodName := ⟨"TeethingParish$Planner", "<init>", "(LTeethingParish$Parish;)V"⟩
abbrev c3_init : ByteArray := prog_5_method_1_code
def y4_init : MethodName := ⟨"TeethingParish$Reader", "<init>", "(LTeethingParish$Tape;)V"⟩
abbrev c4_init : ByteArray := prog_6_method_1_code
def y5_init : MethodName := ⟨"TeethingParish$Slot", "<init>", "()V"⟩
abbrev c5_init : ByteArray := prog_7_method_1_code
def y6_init : MethodName := ⟨"TeethingParish$Suspects", "<init>", "(LTeethingParish$Parish;)V"⟩
abbrev c6_init : ByteArray := prog_8_method_1_code
def y7_init : MethodName := ⟨"TeethingParish$Tape", "<init>", "()V"⟩
abbrev c7_init : ByteArray := prog_9_method_1_code
def y8_init : MethodName := ⟨"TeethingParish$Year", "<init>", "(LTeethingParish$Parish;)V"⟩
abbrev c8_init : ByteArray := prog_10_method_1_code
def y14_length : MethodName := ⟨"java/lang/String", "length", "()I"⟩
abbrev c14_length : ByteArray := prog_15_method_54_code
def y14_charAt : MethodName := ⟨"java/lang/String", "charAt", "(I)C"⟩
abbrev c14_charAt : ByteArray := prog_15_method_56_code
theorem lm0_42 : LkM 0 42 y0_findHelpers := Or.inl (T0_4 183 (by decide +kernel) rfl)
theorem lm0_46 : LkM 0 46 y0_countFromBehind := Or.inl (T0_4 187 (by decide +kernel) rfl)
theorem lm0_49 : LkM 0 49 y0_chooseFirst := Or.inl (T0_4 192 (by decide +kernel) rfl)
theorem lm0_63 : Cond.methodLink (RN 0) 63 Lib.Math.max.name ∈ T0 := T0_4 191 (by decide +kernel) rfl
theorem lm0_69 : LkM 0 69 y12_fillI := Or.inl (T0_4 220 (by decide +kernel) rfl)
theorem lm0_75 : LkM 0 75 y0_addBearers := Or.inl (T0_4 221 (by decide +kernel) rfl)
theorem lm0_79 : LkM 0 79 y13_bitCount := Or.inl (T0_4 225 (by decide +kernel) rfl)
theorem lm1_35 : LkM 1 35 y9_sumBySets := Or.inr ⟨"TeethingParish", NW_5 50 (by decide +kernel) rfl⟩
theorem lm1_39 : LkM 1 39 y1_fewest := Or.inl (T0_5 51 (by decide +kernel) rfl)
theorem lm1_46 : Cond.methodLink (RN 1) 46 Lib.Math.min.name ∈ T0 := T0_5 55 (by decide +kernel) rfl
theorem lm1_64 : LkM 1 64 y1_costOf := Or.inl (T0_5 80 (by decide +kernel) rfl)
theorem lm1_67 : LkM 1 67 y1_paidBy := Or.inl (T0_5 81 (by decide +kernel) rfl)
theorem lm2_64 : Cond.methodLink (RN 2) 64 arraycopyName ∈ T0 := T0_3 157 (by decide +kernel) rfl
theorem lm2_70 : LkM 2 70 y2_tellPerson := Or.inl (T0_3 148 (by decide +kernel) rfl)
theorem lm3_56 : LkM 3 56 y3_addUp := Or.inl (T0_4 116 (by decide +kernel) rfl)
theorem lm3_64 : LkM 3 64 y3_search := Or.inl (T0_4 127 (by decide +kernel) rfl)
theorem lm3_68 : LkM 3 68 y3_shiftOf := Or.inl (T0_4 124 (by decide +kernel) rfl)
theorem lm3_74 : LkM 3 74 y3_leastBy := Or.inl (T0_4 171 (by decide +kernel) rfl)
theorem lm3_83 : LkM 3 83 y9_sumBySets := Or.inr ⟨"TeethingParish", NW_4 120 (by decide +kernel) rfl⟩
theorem lm3_96 : Cond.methodLink (RN 3) 96 Lib.Math.max.name ∈ T0 := T0_4 123 (by decide +kernel) rfl
theorem lm3_110 : Cond.methodLink (RN 3) 110 Lib.Math.min.name ∈ T0 := T0_4 132 (by decide +kernel) rfl
theorem lm3_113 : LkM 3 113 y3_giveInNight := Or.inl (T0_4 133 (by decide +kernel) rfl)
theorem lm3_117 : LkM 3 117 y3_takeLeast := Or.inl (T0_4 140 (by decide +kernel) rfl)
theorem lm3_120 : Cond.methodLink (RN 3) 120 Lib.MathLoose.min_long.x ∈ T0 := T0_4 137 (by decide +kernel) rfl
theorem lm4_38 : LkM 4 38 y2_clear := Or.inr ⟨"TeethingParish", NW_3 42 (by decide +kernel) rfl⟩
theorem lm4_41 : LkM 4 41 y4_next := Or.inl (T0_3 46 (by decide +kernel) rfl)
theorem lm4_44 : LkM 4 44 y4_readLine := Or.inl (T0_3 56 (by decide +kernel) rfl)
theorem lm4_53 : LkM 4 53 y4_isWord := Or.inl (T0_3 61 (by decide +kernel) rfl)
theorem lm4_57 : LkM 4 57 y4_readFields := Or.inl (T0_3 117 (by decide +kernel) rfl)
theorem lm4_66 : LkM 4 66 y4_failed := Or.inl (T0_3 75 (by decide +kernel) rfl)
theorem lm4_70 : LkM 4 70 y4_wordOf := Or.inl (T0_3 121 (by decide +kernel) rfl)
theorem lm4_74 : LkM 4 74 y4_numberRead := Or.inl (T0_3 135 (by decide +kernel) rfl)
theorem lm4_85 : LkM 4 85 y2_tell := Or.inr ⟨"TeethingParish", NW_3 144 (by decide +kernel) rfl⟩
theorem lm4_120 : LkM 4 120 y4_isBlank := Or.inl (T0_3 50 (by decide +kernel) rfl)
theorem lm4_123 : LkM 4 123 y4_kindOf := Or.inl (T0_3 53 (by decide +kernel) rfl)
theorem lm4_127 : LkM 4 127 y14_length := Or.inl (T0_3 65 (by decide +kernel) rfl)
theorem lm4_131 : LkM 4 131 y14_charAt := Or.inl (T0_3 79 (by decide +kernel) rfl)
theorem lm4_135 : Cond.methodLink (RN 4) 135 Lib.Math.min.name ∈ T0 := T0_3 139 (by decide +kernel) rfl
theorem lm5_26 : LkM 5 26 y12_fillJ := Or.inl (T0_5 216 (by decide +kernel) rfl)
theorem lm6_46 : LkM 6 46 y6_suspect := Or.inl (T0_5 15 (by decide +kernel) rfl)
theorem lm6_50 : LkM 6 50 y13_bitCount := Or.inl (T0_5 22 (by decide +kernel) rfl)
theorem lm6_59 : LkM 6 59 y6_mostAlike := Or.inl (T0_5 23 (by decide +kernel) rfl)
theorem lm6_62 : LkM 6 62 y8_prepare := Or.inr ⟨"TeethingParish", NW_5 19 (by decide +kernel) rfl⟩
theorem lm6_68 : LkM 6 68 y8_pass := Or.inr ⟨"TeethingParish", NW_5 20 (by decide +kernel) rfl⟩
theorem lm6_72 : Cond.methodLink (RN 6) 72 arraycopyName ∈ T0 := T0_5 21 (by decide +kernel) rfl
theorem lm6_87 : LkM 6 87 y12_fillI := Or.inl (T0_5 27 (by decide +kernel) rfl)
theorem lm6_93 : Cond.methodLink (RN 6) 93 Lib.Math.max.name ∈ T0 := T0_5 28 (by decide +kernel) rfl
theorem lm8_72 : Cond.methodLink (RN 8) 72 arraycopyName ∈ T0 := T0_2 194 (by decide +kernel) rfl
theorem lm8_79 : LkM 8 79 y12_fillI := Or.inl (T0_2 197 (by decide +kernel) rfl)
theorem lm8_85 : LkM 8 85 y8_putInOrder := Or.inl (T0_2 204 (by decide +kernel) rfl)
theorem lm8_94 : LkM 8 94 y8_passNight := Or.inl (T0_2 212 (by decide +kernel) rfl)
theorem lm8_101 : Cond.methodLink (RN 8) 101 Lib.Math.min.name ∈ T0 := T0_2 216 (by decide +kernel) rfl
theorem lm8_113 : LkM 8 113 y8_rankOf := Or.inl (T0_2 208 (by decide +kernel) rfl)
theorem lm9_94 : LkM 9 94 y9_changed := Or.inl (T0_2 186 (by decide +kernel) rfl)
theorem lm9_101 : LkM 9 101 y7_add := Or.inr ⟨"TeethingParish", NW_3 26 (by decide +kernel) rfl⟩
theorem lm9_105 : LkM 9 105 y4_read := Or.inr ⟨"TeethingParish", NW_3 38 (by decide +kernel) rfl⟩
theorem lm9_112 : LkM 9 112 y2_become := Or.inr ⟨"TeethingParish", NW_3 153 (by decide +kernel) rfl⟩
theorem lm9_124 : LkM 9 124 y9_isPerson := Or.inl (T0_3 166 (by decide +kernel) rfl)
theorem lm9_143 : LkM 9 143 y9_isNight := Or.inl (T0_3 178 (by decide +kernel) rfl)
theorem lm9_159 : LkM 9 159 y9_isThere := Or.inl (T0_3 202 (by decide +kernel) rfl)
theorem lm9_180 : LkM 9 180 y9_nightOfTooth := Or.inl (T0_3 226 (by decide +kernel) rfl)
theorem lm9_187 : LkM 9 187 y8_teethCut := Or.inr ⟨"TeethingParish", NW_3 234 (by decide +kernel) rfl⟩
theorem lm9_191 : Cond.methodLink (RN 9) 191 Lib.Math.max.name ∈ T0 := T0_4 18 (by decide +kernel) rfl
theorem lm9_197 : LkM 9 197 y9_isPart := Or.inl (T0_4 33 (by decide +kernel) rfl)
theorem lm9_200 : LkM 9 200 y9_inLowestTerms := Or.inl (T0_4 37 (by decide +kernel) rfl)
theorem lm9_205 : LkM 9 205 y8_prepare := Or.inr ⟨"TeethingParish", NW_2 190 (by decide +kernel) rfl⟩
theorem lm9_209 : LkM 9 209 y8_pass := Or.inr ⟨"TeethingParish", NW_2 200 (by decide +kernel) rfl⟩
theorem lm9_212 : LkM 9 212 y9_passWithout := Or.inl (T0_4 52 (by decide +kernel) rfl)
theorem lm9_218 : LkM 9 218 y9_isRule := Or.inl (T0_4 72 (by decide +kernel) rfl)
theorem lm9_221 : LkM 9 221 y9_passBy := Or.inl (T0_4 76 (by decide +kernel) rfl)
theorem lm9_227 : LkM 9 227 y9_leastGroan := Or.inl (T0_4 88 (by decide +kernel) rfl)
theorem lm9_230 : LkM 9 230 y9_tempted := Or.inl (T0_4 100 (by decide +kernel) rfl)
theorem lm9_233 : LkM 9 233 y3_work := Or.inr ⟨"TeethingParish", NW_4 112 (by decide +kernel) rfl⟩
theorem lm9_239 : LkM 9 239 y3_nightOf := Or.inr ⟨"TeethingParish", NW_4 153 (by decide +kernel) rfl⟩
theorem lm9_248 : LkM 9 248 y3_leastRoom := Or.inr ⟨"TeethingParish", NW_4 167 (by decide +kernel) rfl⟩
theorem lm9_251 : LkM 9 251 y0_work := Or.inr ⟨"TeethingParish", NW_4 179 (by decide +kernel) rfl⟩
theorem lm9_261 : LkM 9 261 y9_isSet := Or.inl (T0_4 212 (by decide +kernel) rfl)
theorem lm9_264 : LkM 9 264 y0_allBorne := Or.inr ⟨"TeethingParish", NW_4 216 (by decide +kernel) rfl⟩
theorem lm9_268 : LkM 9 268 y9_troubleOfTeeth := Or.inl (T0_4 235 (by decide +kernel) rfl)
theorem lm9_271 : LkM 9 271 y6_question := Or.inr ⟨"TeethingParish", NW_5 11 (by decide +kernel) rfl⟩
theorem lm9_278 : LkM 9 278 y13_bitCount := Or.inl (T0_5 33 (by decide +kernel) rfl)
theorem lm9_289 : LkM 9 289 y1_work := Or.inr ⟨"TeethingParish", NW_5 46 (by decide +kernel) rfl⟩
theorem lm9_292 : LkM 9 292 y1_costOf := Or.inr ⟨"TeethingParish", NW_5 60 (by decide +kernel) rfl⟩
theorem lm9_295 : LkM 9 295 y9_troubleOfShares := Or.inl (T0_5 68 (by decide +kernel) rfl)
theorem lm9_298 : LkM 9 298 y1_paidBy := Or.inr ⟨"TeethingParish", NW_5 72 (by decide +kernel) rfl⟩
theorem lm9_302 : LkM 9 302 y1_leaver := Or.inr ⟨"TeethingParish", NW_5 76 (by decide +kernel) rfl⟩
theorem lm9_306 : LkM 9 306 y9_areTwo := Or.inl (T0_5 90 (by decide +kernel) rfl)
theorem lm9_309 : LkM 9 309 y9_passHoldings := Or.inl (T0_5 94 (by decide +kernel) rfl)
theorem lm9_313 : LkM 9 313 y9_isRest := Or.inl (T0_5 102 (by decide +kernel) rfl)
theorem lm9_316 : LkM 9 316 y9_isHeldBack := Or.inl (T0_5 114 (by decide +kernel) rfl)
theorem lm9_319 : LkM 9 319 y9_passHolding := Or.inl (T0_5 98 (by decide +kernel) rfl)
theorem lm9_328 : LkM 9 328 y9_passBorn := Or.inl (T0_5 127 (by decide +kernel) rfl)
theorem lm9_331 : LkM 9 331 y9_isSeed := Or.inl (T0_5 139 (by decide +kernel) rfl)
theorem lm9_334 : LkM 9 334 y9_drawnNight := Or.inl (T0_5 144 (by decide +kernel) rfl)
theorem lm9_338 : LkM 9 338 y9_act := Or.inl (T0_5 160 (by decide +kernel) rfl)
theorem lm9_345 : LkM 9 345 y2_takeBack := Or.inr ⟨"TeethingParish", NW_5 176 (by decide +kernel) rfl⟩
theorem lm9_352 : LkM 9 352 y9_slotsWithRows := Or.inl (T0_5 192 (by decide +kernel) rfl)
theorem lm9_355 : LkM 9 355 y9_isImage := Or.inl (T0_5 200 (by decide +kernel) rfl)
theorem lm9_358 : LkM 9 358 y9_isSlot := Or.inl (T0_5 3 (by decide +kernel) rfl)
theorem lm9_361 : LkM 9 361 y5_become := Or.inr ⟨"TeethingParish", NW_5 212 (by decide +kernel) rfl⟩
theorem lm9_372 : LkM 9 372 y5_narrowed := Or.inr ⟨"TeethingParish", NW_5 223 (by decide +kernel) rfl⟩
theorem lm9_379 : LkM 9 379 y5_reaches := Or.inr ⟨"TeethingParish", NW_5 231 (by decide +kernel) rfl⟩
theorem lm9_382 : Cond.methodLink (RN 9) 382 arraycopyName ∈ T0 := T0_5 235 (by decide +kernel) rfl
theorem lm9_389 : LkM 9 389 y9_troubleOfRow := Or.inl (T0_4 239 (by decide +kernel) rfl)
theorem lm9_392 : LkM 9 392 y5_isWithin := Or.inr ⟨"TeethingParish", NW_5 7 (by decide +kernel) rfl⟩
theorem lm9_400 : LkM 9 400 y2_change := Or.inr ⟨"TeethingParish", NW_5 164 (by decide +kernel) rfl⟩
theorem lm9_407 : LkM 9 407 y8_looksAtAches := Or.inr ⟨"TeethingParish", NW_4 92 (by decide +kernel) rfl⟩
theorem lm9_424 : LkM 9 424 y9_commonDivisor := Or.inl (T0_4 40 (by decide +kernel) rfl)
theorem lm10_109 : LkM 10 109 y10_in := Or.inl (T0_6 148 (by decide +kernel) rfl)
theorem lm10_113 : LkM 10 113 y10_isParish := Or.inl (T0_7 39 (by decide +kernel) rfl)
theorem lm10_128 : LkM 10 128 y10_see := Or.inl (T0_6 175 (by decide +kernel) rfl)
theorem lm10_150 : Cond.methodLink (RN 10) 150 Lib.Math.min.name ∈ T0 := T0_6 184 (by decide +kernel) rfl
theorem lm10_159 : LkM 10 159 y10_good := Or.inl (T0_6 185 (by decide +kernel) rfl)
theorem lm10_162 : LkM 10 162 y14_length := Or.inl (T0_6 206 (by decide +kernel) rfl)
theorem lm10_168 : LkM 10 168 y14_charAt := Or.inl (T0_6 207 (by decide +kernel) rfl)
theorem lm10_172 : LkM 10 172 y10_is := Or.inl (T0_6 202 (by decide +kernel) rfl)
theorem lm10_176 : LkM 10 176 y10_errs := Or.inl (T0_6 208 (by decide +kernel) rfl)
theorem lm10_180 : LkM 10 180 y10_advance := Or.inl (T0_6 171 (by decide +kernel) rfl)
theorem lm10_183 : LkM 10 183 y10_needs := Or.inl (T0_6 198 (by decide +kernel) rfl)
theorem lm10_191 : LkM 10 191 y10_told := Or.inl (T0_6 213 (by decide +kernel) rfl)
theorem lm10_216 : LkM 10 216 y10_readFirst := Or.inl (T0_6 193 (by decide +kernel) rfl)
theorem lm10_219 : LkM 10 219 y10_readPerson := Or.inl (T0_6 223 (by decide +kernel) rfl)
theorem lm10_222 : LkM 10 222 y10_readLine := Or.inl (T0_6 189 (by decide +kernel) rfl)
theorem lm10_225 : LkM 10 225 y10_of := Or.inl (T0_7 8 (by decide +kernel) rfl)
theorem lm10_240 : LkM 10 240 y10_bit := Or.inl (T0_7 32 (by decide +kernel) rfl)
theorem lm10_243 : LkM 10 243 y10_keyOf := Or.inl (T0_7 35 (by decide +kernel) rfl)
theorem lm10_246 : LkM 10 246 y10_hasAche := Or.inl (T0_7 24 (by decide +kernel) rfl)
theorem lm10_250 : LkM 10 250 y10_nextOf := Or.inl (T0_7 28 (by decide +kernel) rfl)
theorem lm10_256 : LkM 10 256 y10_nights := Or.inl (T0_7 16 (by decide +kernel) rfl)
theorem lm10_258 : LkM 10 258 y10_goNight := Or.inl (T0_7 20 (by decide +kernel) rfl)
theorem lm10_262 : Cond.methodLink (RN 10) 262 Lib.Math.max.name ∈ T0 := T0_7 92 (by decide +kernel) rfl
theorem lm10_265 : LkM 10 265 y10_costOf := Or.inl (T0_7 93 (by decide +kernel) rfl)
theorem lm10_268 : LkM 10 268 y10_bearsBy := Or.inl (T0_7 88 (by decide +kernel) rfl)
theorem lm10_271 : LkM 10 271 y10_bearsOf := Or.inl (T0_7 84 (by decide +kernel) rfl)
theorem lm10_274 : LkM 10 274 y10_asItIs := Or.inl (T0_7 4 (by decide +kernel) rfl)
theorem lm10_277 : LkM 10 277 y10_goNights := Or.inl (T0_7 12 (by decide +kernel) rfl)
theorem lm10_280 : LkM 10 280 y10_asksParish := Or.inl (T0_7 0 (by decide +kernel) rfl)
theorem lm10_283 : LkM 10 283 y10_isPerson := Or.inl (T0_7 43 (by decide +kernel) rfl)
theorem lm10_287 : LkM 10 287 y10_isNight := Or.inl (T0_7 60 (by decide +kernel) rfl)
theorem lm10_291 : LkM 10 291 y10_asksPerson := Or.inl (T0_6 236 (by decide +kernel) rfl)
theorem lm10_294 : LkM 10 294 y10_asksNight := Or.inl (T0_7 56 (by decide +kernel) rfl)
theorem lm10_297 : LkM 10 297 y10_givenIn := Or.inl (T0_7 64 (by decide +kernel) rfl)
theorem lm10_300 : LkM 10 300 y10_waitsIn := Or.inl (T0_7 72 (by decide +kernel) rfl)
theorem lm10_303 : LkM 10 303 y10_bearsAll := Or.inl (T0_7 105 (by decide +kernel) rfl)
theorem lm10_307 : LkM 10 307 y10_keepBore := Or.inl (T0_7 170 (by decide +kernel) rfl)
theorem lm10_312 : LkM 10 312 y10_divisor := Or.inl (T0_7 186 (by decide +kernel) rfl)
theorem lm10_316 : LkM 10 316 y10_part := Or.inl (T0_7 183 (by decide +kernel) rfl)
theorem lm10_320 : LkM 10 320 y10_allPersons := Or.inl (T0_7 202 (by decide +kernel) rfl)
theorem lm10_325 : LkM 10 325 y10_laySums := Or.inl (T0_7 198 (by decide +kernel) rfl)
theorem lm10_328 : LkM 10 328 y10_bits := Or.inl (T0_7 206 (by decide +kernel) rfl)
theorem lm10_340 : LkM 10 340 y10_state := Or.inl (T0_7 229 (by decide +kernel) rfl)
theorem lm10_343 : LkM 10 343 y10_layWho := Or.inl (T0_7 221 (by decide +kernel) rfl)
theorem lm10_346 : LkM 10 346 y10_layState := Or.inl (T0_7 225 (by decide +kernel) rfl)
theorem lm10_350 : LkM 10 350 y10_asksPlans := Or.inl (T0_7 213 (by decide +kernel) rfl)
theorem lm10_353 : LkM 10 353 y10_leastOf := Or.inl (T0_7 217 (by decide +kernel) rfl)
theorem lm10_360 : LkM 10 360 y10_isRule := Or.inl (T0_8 14 (by decide +kernel) rfl)
theorem lm10_363 : LkM 10 363 y10_byRule := Or.inl (T0_8 17 (by decide +kernel) rfl)
theorem lm10_366 : LkM 10 366 y10_groanBy := Or.inl (T0_8 29 (by decide +kernel) rfl)
theorem lm10_369 : LkM 10 369 y10_temptsBy := Or.inl (T0_8 37 (by decide +kernel) rfl)
theorem lm10_372 : LkM 10 372 y10_canBear := Or.inl (T0_8 53 (by decide +kernel) rfl)
theorem lm10_376 : LkM 10 376 y10_layPairs := Or.inl (T0_8 49 (by decide +kernel) rfl)
theorem lm10_379 : LkM 10 379 y10_layBearers := Or.inl (T0_8 61 (by decide +kernel) rfl)
theorem lm10_382 : LkM 10 382 y10_isSet := Or.inl (T0_8 77 (by decide +kernel) rfl)
theorem lm10_385 : LkM 10 385 y10_isSlot := Or.inl (T0_8 89 (by decide +kernel) rfl)
theorem lm10_388 : LkM 10 388 y10_numberAt := Or.inl (T0_8 92 (by decide +kernel) rfl)
theorem lm10_392 : LkM 10 392 y10_layWhose := Or.inl (T0_8 85 (by decide +kernel) rfl)
theorem lm10_398 : LkM 10 398 y10_askOf := Or.inl (T0_8 104 (by decide +kernel) rfl)
theorem lm10_401 : LkM 10 401 y10_layBins := Or.inl (T0_8 120 (by decide +kernel) rfl)
theorem lm10_404 : LkM 10 404 y10_asksBins := Or.inl (T0_8 116 (by decide +kernel) rfl)
theorem lm10_407 : LkM 10 407 y10_orNone := Or.inl (T0_8 124 (by decide +kernel) rfl)
theorem lm10_412 : LkM 10 412 y10_sharesOf := Or.inl (T0_8 144 (by decide +kernel) rfl)
theorem lm10_415 : LkM 10 415 y10_askShares := Or.inl (T0_8 135 (by decide +kernel) rfl)
theorem lm10_418 : LkM 10 418 y10_leaveOf := Or.inl (T0_8 140 (by decide +kernel) rfl)
theorem lm10_421 : LkM 10 421 y10_heldBy := Or.inl (T0_8 164 (by decide +kernel) rfl)
theorem lm10_424 : LkM 10 424 y10_layHeld := Or.inl (T0_8 156 (by decide +kernel) rfl)
theorem lm10_427 : LkM 10 427 y10_isRest := Or.inl (T0_8 160 (by decide +kernel) rfl)
theorem lm10_432 : LkM 10 432 y10_power := Or.inl (T0_8 181 (by decide +kernel) rfl)
theorem lm10_436 : LkM 10 436 y10_lateBy := Or.inl (T0_8 188 (by decide +kernel) rfl)
theorem lm10_439 : LkM 10 439 y10_keepAct := Or.inl (T0_8 200 (by decide +kernel) rfl)
theorem lm10_454 : LkM 10 454 y10_isSeed := Or.inl (T0_8 221 (by decide +kernel) rfl)
theorem lm10_457 : LkM 10 457 y10_goDrawn := Or.inl (T0_8 225 (by decide +kernel) rfl)
theorem lm10_465 : LkM 10 465 y10_cutX := Or.inl (T0_9 15 (by decide +kernel) rfl)
theorem wm0 : Cond.initialized "java/lang/Math" ∈ T0 := T0_1 13 (by decide +kernel) rfl
theorem wm1 : Cond.static Lib.Math.max.name ∈ T0 := T0_4 19 (by decide +kernel) rfl
theorem wm3 : Cond.static Lib.Math.min.name ∈ T0 := T0_2 217 (by decide +kernel) rfl
theorem wm5 : Cond.static Lib.MathLoose.min_long.x ∈ T0 := T0_4 138 (by decide +kernel) rfl
theorem wm2 : Cond.code Lib.Math.max.name Lib.Math.max.code 2 (some .int) ∈ T0 := T0_4 20 (by decide +kernel) rfl
theorem wm4 : Cond.code Lib.Math.min.name Lib.Math.min.code 2 (some .int) ∈ T0 := T0_2 218 (by decide +kernel) rfl
theorem wm6 : Cond.code Lib.MathLoose.min_long.x Lib.MathLoose.min_long.code 4 (some .long) ∈ T0 := T0_4 139 (by decide +kernel) rfl
theorem wn1 : Cond.native arraycopyName ∈ T0 := T0_2 196 (by decide +kernel) rfl
theorem wn2 : Cond.static arraycopyName ∈ T0 := T0_2 195 (by decide +kernel) rfl
theorem wn3 : Cond.initialized "java/lang/System" ∈ T0 := T0_1 11 (by decide +kernel) rfl
