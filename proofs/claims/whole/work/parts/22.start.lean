/-! THE START, printed by wip/whole/gen/gen_start.py: what holds at the entry, the two objects made, then the law -/
theorem wc11_7 : Cond.classLink (RN 11) 7 (RN 9) ∈ T0 := T0_1 20 (by decide +kernel) rfl
theorem wc11_10 : Cond.classLink (RN 11) 10 (RN 10) ∈ T0 := T0_5 236 (by decide +kernel) rfl
theorem lm11_9 : LkM 11 9 y9_init := Or.inl (T0_1 22 (by decide +kernel) rfl)
theorem lm11_12 : LkM 11 12 y10_init := Or.inl (T0_5 238 (by decide +kernel) rfl)
theorem wins_all : ∀ c, c < 11 → Cond.instantiable (RN c) (nf c) ∈ T0
  | 0, _ => wins0
  | 1, _ => wins1
  | 2, _ => wins2
  | 3, _ => wins3
  | 4, _ => wins4
  | 5, _ => wins5
  | 6, _ => wins6
  | 7, _ => wins7
  | 8, _ => wins8
  | 9, _ => wins9
  | 10, _ => wins10
  | n + 11, h => absurd h (by omega)
theorem wl_L : Cond.laysStatic "TeethingParish$Reader" "LEAST" "[I" ∈ lw_tbl := List.mem_append_right _ (tb_3 (List.mem_of_getElem? (i := 141) (by decide +kernel)))
theorem wl_M : Cond.laysStatic "TeethingParish$Reader" "MOST" "[I" ∈ lw_tbl := List.mem_append_right _ (tb_3 (List.mem_of_getElem? (i := 143) (by decide +kernel)))
theorem wl_C : Cond.laysStatic "java/lang/String" "COMPACT_STRINGS" "Z" ∈ lw_tbl := List.mem_append_right _ (tb_3 (List.mem_of_getElem? (i := 74) (by decide +kernel)))
theorem wl_S : Cond.laysStatic "jdk/internal/util/Preconditions" "SIOOBE_FORMATTER" "Ljava/util/function/BiFunction;" ∈ lw_tbl := List.mem_append_right _ (tb_3 (List.mem_of_getElem? (i := 94) (by decide +kernel)))
theorem wi_C : Cond.initialized "java/lang/String" ∈ T0 := T0_1 15 (by decide +kernel) rfl
theorem wi_S : Cond.initialized "jdk/internal/util/Preconditions" ∈ T0 := T0_1 17 (by decide +kernel) rfl
theorem wo_P : Cond.arrayOver (.object "TeethingParish$Parish") ∈ lw_tbl := List.mem_append_right _ (tb_1 (List.mem_of_getElem? (i := 179) (by decide +kernel)))
theorem wo_S : Cond.arrayOver (.object "TeethingParish$Slot") ∈ lw_tbl := List.mem_append_right _ (tb_1 (List.mem_of_getElem? (i := 181) (by decide +kernel)))
theorem wr4_51 : Cond.stringRef (RN 4) 51 "parish" ∈ lw_tbl := List.mem_append_right _ (tb_3 (List.mem_of_getElem? (i := 60) (by decide +kernel)))
theorem wr4_89 : Cond.stringRef (RN 4) 89 "nights" ∈ lw_tbl := List.mem_append_right _ (tb_3 (List.mem_of_getElem? (i := 124) (by decide +kernel)))
theorem wr4_91 : Cond.stringRef (RN 4) 91 "room" ∈ lw_tbl := List.mem_append_right _ (tb_3 (List.mem_of_getElem? (i := 125) (by decide +kernel)))
theorem wr4_93 : Cond.stringRef (RN 4) 93 "tooth" ∈ lw_tbl := List.mem_append_right _ (tb_3 (List.mem_of_getElem? (i := 126) (by decide +kernel)))
theorem wr4_95 : Cond.stringRef (RN 4) 95 "teeth" ∈ lw_tbl := List.mem_append_right _ (tb_3 (List.mem_of_getElem? (i := 127) (by decide +kernel)))
theorem wr4_97 : Cond.stringRef (RN 4) 97 "rule" ∈ lw_tbl := List.mem_append_right _ (tb_3 (List.mem_of_getElem? (i := 128) (by decide +kernel)))
theorem wr4_99 : Cond.stringRef (RN 4) 99 "pays" ∈ lw_tbl := List.mem_append_right _ (tb_3 (List.mem_of_getElem? (i := 129) (by decide +kernel)))
theorem wr4_101 : Cond.stringRef (RN 4) 101 "odds" ∈ lw_tbl := List.mem_append_right _ (tb_3 (List.mem_of_getElem? (i := 130) (by decide +kernel)))
theorem wr4_103 : Cond.stringRef (RN 4) 103 "ache" ∈ lw_tbl := List.mem_append_right _ (tb_3 (List.mem_of_getElem? (i := 131) (by decide +kernel)))
theorem wr4_105 : Cond.stringRef (RN 4) 105 "from" ∈ lw_tbl := List.mem_append_right _ (tb_3 (List.mem_of_getElem? (i := 132) (by decide +kernel)))
theorem wr4_107 : Cond.stringRef (RN 4) 107 "dear" ∈ lw_tbl := List.mem_append_right _ (tb_3 (List.mem_of_getElem? (i := 133) (by decide +kernel)))
theorem wr4_109 : Cond.stringRef (RN 4) 109 "bears" ∈ lw_tbl := List.mem_append_right _ (tb_3 (List.mem_of_getElem? (i := 134) (by decide +kernel)))
theorem wr4_61 : Cond.stringRef (RN 4) 61 "person" ∈ lw_tbl := List.mem_append_right _ (tb_3 (List.mem_of_getElem? (i := 152) (by decide +kernel)))
theorem wr10_187 : Cond.stringRef (RN 10) 187 "parish" ∈ lw_tbl := List.mem_append_right _ (tb_6 (List.mem_of_getElem? (i := 197) (by decide +kernel)))
theorem wr10_189 : Cond.stringRef (RN 10) 189 "nights" ∈ lw_tbl := List.mem_append_right _ (tb_6 (List.mem_of_getElem? (i := 212) (by decide +kernel)))
theorem wr10_195 : Cond.stringRef (RN 10) 195 "room" ∈ lw_tbl := List.mem_append_right _ (tb_6 (List.mem_of_getElem? (i := 217) (by decide +kernel)))
theorem wr10_197 : Cond.stringRef (RN 10) 197 "tooth" ∈ lw_tbl := List.mem_append_right _ (tb_6 (List.mem_of_getElem? (i := 218) (by decide +kernel)))
theorem wr10_199 : Cond.stringRef (RN 10) 199 "teeth" ∈ lw_tbl := List.mem_append_right _ (tb_6 (List.mem_of_getElem? (i := 219) (by decide +kernel)))
theorem wr10_201 : Cond.stringRef (RN 10) 201 "rule" ∈ lw_tbl := List.mem_append_right _ (tb_6 (List.mem_of_getElem? (i := 220) (by decide +kernel)))
theorem wr10_203 : Cond.stringRef (RN 10) 203 "pays" ∈ lw_tbl := List.mem_append_right _ (tb_6 (List.mem_of_getElem? (i := 221) (by decide +kernel)))
theorem wr10_205 : Cond.stringRef (RN 10) 205 "odds" ∈ lw_tbl := List.mem_append_right _ (tb_6 (List.mem_of_getElem? (i := 222) (by decide +kernel)))
theorem wr10_207 : Cond.stringRef (RN 10) 207 "person" ∈ lw_tbl := List.mem_append_right _ (tb_6 (List.mem_of_getElem? (i := 227) (by decide +kernel)))
theorem wr10_209 : Cond.stringRef (RN 10) 209 "ache" ∈ lw_tbl := List.mem_append_right _ (tb_6 (List.mem_of_getElem? (i := 228) (by decide +kernel)))
theorem wr10_211 : Cond.stringRef (RN 10) 211 "from" ∈ lw_tbl := List.mem_append_right _ (tb_6 (List.mem_of_getElem? (i := 229) (by decide +kernel)))
theorem wr10_212 : Cond.stringRef (RN 10) 212 "dear" ∈ lw_tbl := List.mem_append_right _ (tb_6 (List.mem_of_getElem? (i := 230) (by decide +kernel)))
theorem wr10_214 : Cond.stringRef (RN 10) 214 "bears" ∈ lw_tbl := List.mem_append_right _ (tb_6 (List.mem_of_getElem? (i := 231) (by decide +kernel)))
def kR : List Nat := [51, 89, 91, 93, 95, 97, 99, 101, 61, 103, 105, 107, 109]
def kM : List Nat := [187, 189, 195, 197, 199, 201, 203, 205, 207, 209, 211, 212, 214]
def tmR (i : Nat) : Term := .string (RN 4) (kR.getD i 0)
def tmM (i : Nat) : Term := .string (RN 10) (kM.getD i 0)
def gvn : List Cond := flatC (Jvm.Cond.and given_1 narrow_1)
theorem g_ex : ∀ i, i < 13 → Cond.exactly (tmR i) "java/lang/String" ∈ gvn := by decide +kernel
theorem g_co : ∀ i, i < 13 → Cond.eq (.field (tmR i) "java/lang/String" "coder" "B") (.int 0) ∈ gvn := by decide +kernel
theorem g_ar : ∀ i, i < 13 → Cond.arrayOf (.field (tmR i) "java/lang/String" "value" "[B") .byte ∈ gvn := by decide +kernel
theorem g_le : ∀ i, i < 13 → Cond.eq (.length (.field (tmR i) "java/lang/String" "value" "[B")) (.int (Int32.ofNat (lenS.getD i 0))) ∈ gvn := by decide +kernel
theorem g_el : ∀ i, i < 13 → ∀ j, j < lenS.getD i 0 → Cond.eq (.elem (.field (tmR i) "java/lang/String" "value" "[B") (.int (Int32.ofNat j))) (.int ((bytS.getD i []).getD j 0)) ∈ gvn := by decide +kernel
theorem g_mm : ∀ i, i < 13 → Cond.eq (tmR i) (tmM i) ∈ gvn := by decide +kernel
theorem g_apart : ∀ i, i < 13 → ∀ j, j < 13 → i ≠ j → (Int32.ofNat (lenS.getD i 0) ≠ Int32.ofNat (lenS.getD j 0)) ∨ ∃ k ∈ List.range 7, k < lenS.getD i 0 ∧ k < lenS.getD j 0 ∧ (bytS.getD i []).getD k 0 ≠ (bytS.getD j []).getD k 0 := by decide +kernel
theorem g_31 : ∀ i, i < 13 → lenS.getD i 0 < 2 ^ 31 := by decide +kernel
def tmT (i : Nat) : Term := .static (RN 4) (if i = 0 then "LEAST" else "MOST") "[I"
theorem g_ta : ∀ i, i < 2 → Cond.arrayOf (tmT i) .int ∈ gvn := by decide +kernel
theorem g_tl : ∀ i, i < 2 → Cond.eq (.length (tmT i)) (.int (Int32.ofNat 11)) ∈ gvn := by decide +kernel
theorem g_te : ∀ i, i < 2 → ∀ j, j < 11 → Cond.eq (.elem (tmT i) (.int (Int32.ofNat j))) (.int (Int32.ofInt ((tabL i).getD j 0))) ∈ gvn := by decide +kernel
theorem g_cs : Cond.eq (.static "java/lang/String" "COMPACT_STRINGS" "Z") (.int 1) ∈ gvn := by decide +kernel
theorem g_sf : Cond.isRef (.static "jdk/internal/util/Preconditions" "SIOOBE_FORMATTER" "Ljava/util/function/BiFunction;") ∈ gvn := by decide +kernel
theorem ne_of_refs {args : Array Value} {s : State} {t u : Term} {a b : Nat} (ht : t.eval args s none [] s = some (.ref a)) (hu : u.eval args s none [] s = some (.ref b)) (hab : a ≠ b) : (Cond.not (.eq t u)).before args s = true := by
  simp [Cond.before, Cond.holds, Cond.value, ht, hu, hab]
theorem eq_of_ref {args : Array Value} {s : State} {t u : Term} {a : Nat} (h : (Cond.eq t u).before args s = true) (ht : t.eval args s none [] s = some (.ref a)) : u.eval args s none [] s = some (.ref a) := by
  cases hu : u.eval args s none [] s with
  | none => simp [Cond.before, Cond.holds, Cond.value, ht, hu] at h
  | some w =>
    simp only [Cond.before, Cond.holds, Cond.value, ht, hu] at h
    cases w <;> simp_all
theorem len_same {args : Array Value} {s : State} {t u : Term} (h : t.eval args s none [] s = u.eval args s none [] s) : (Term.length t).eval args s none [] s = (Term.length u).eval args s none [] s := by
  simp only [Term.eval, h]
theorem elem_same {args : Array Value} {s : State} {t u : Term} {z : Int32} (h : t.eval args s none [] s = u.eval args s none [] s) : (Term.elem t (.int z)).eval args s none [] s = (Term.elem u (.int z)).eval args s none [] s := by
  simp only [Term.eval, h]
theorem texts_apart {args : Array Value} {s : State} (hs : ∀ w ∈ gvn, w.before args s = true) {i j a b : Nat} (hi : i < 13) (hj : j < 13) (hij : i ≠ j) (h1 : (tmR i).eval args s none [] s = some (.ref a)) (h2 : (tmR j).eval args s none [] s = some (.ref b)) : a ≠ b := by
  intro e
  subst e
  have hf : (Term.field (tmR i) "java/lang/String" "value" "[B").eval args s none [] s = (Term.field (tmR j) "java/lang/String" "value" "[B").eval args s none [] s := by rw [va_fe h1, va_fe h2]
  rcases g_apart i hi j hj hij with h | ⟨k, -, k1, k2, h⟩
  · have l1 := va_eqt (hs _ (g_le i hi))
    have l2 := va_eqt (hs _ (g_le j hj))
    rw [len_same hf, l2] at l1
    injection l1 with l1
    injection l1 with l1
    exact h l1.symm
  · have l1 := va_eqt (hs _ (g_el i hi k k1))
    have l2 := va_eqt (hs _ (g_el j hj k k2))
    rw [elem_same hf, l2] at l1
    injection l1 with l1
    injection l1 with l1
    exact h l1.symm
theorem st_words {s : State} {b : Nat} (hs : ∀ w ∈ gvn, w.before #[Value.ref b] s = true) {A : Nat → Prop} (hA : ∀ a : Nat, a < s.heap.size → ¬ A a) : ∃ adK adV : Nat → Nat, vk_S 13 lenS bytS adK adV A s s.heap ∧ ∀ i : Nat, i < 13 → (tmR i).eval #[Value.ref b] s none [] s = some (.ref (adK i)) := by
  refine vk_Sof g_31 (fun i hi => hs _ (g_ex i hi)) (fun i hi => hs _ (g_co i hi)) (fun i hi => hs _ (g_ar i hi)) (fun i hi => hs _ (g_le i hi)) (fun i hi j hj => hs _ (g_el i hi j hj)) (fun i j hi hj hij => Or.inl ?_) hA
  obtain ⟨a, -, -, -, q1, -⟩ := Cond.exactly_spec (args := #[Value.ref b]) (first := s) (o := none) (s := s) (idx := []) (t := tmR i) (cls := "java/lang/String") (hs _ (g_ex i hi))
  obtain ⟨a2, -, -, -, q2, -⟩ := Cond.exactly_spec (args := #[Value.ref b]) (first := s) (o := none) (s := s) (idx := []) (t := tmR j) (cls := "java/lang/String") (hs _ (g_ex j hj))
  exact ne_of_refs q1 q2 (texts_apart hs hi hj hij q1 q2)
theorem st_tab {s : State} {b : Nat} (hs : ∀ w ∈ gvn, w.before #[Value.ref b] s = true) {A : Nat → Prop} (hA : ∀ a : Nat, a < s.heap.size → ¬ A a) {i : Nat} (hi : i < 2) : ∃ t : Nat, (tmT i).eval #[Value.ref b] s none [] s = some (.ref t) ∧ va_T .int t 11 (fun j => vI ((tabL i).getD j 0)) A s s.heap :=
  va_Tof (by decide) (hs _ (g_ta i hi)) (va_eqt (hs _ (g_tl i hi))) (fun j hj => va_eqt (hs _ (g_te i hi j hj))) hA
theorem st_prim {s : State} {b : Nat} (hts : ∀ w ∈ T0, w.before #[Value.ref b] s = true) {ty : FieldType} (hp : ∀ C, ty ≠ .object C) (h : Cond.arrayClass ty ∈ T0) : ∃ c : ClassId, ArrOfT s c ty ∧ va_RA s c ty := by
  obtain ⟨c, k, comp, h1, h2, h3⟩ := Cond.arrayClass_spec (args := #[Value.ref b]) (first := s) (o := none) (s := s) (idx := []) (hts _ h)
  refine ⟨c, fun n z => ⟨fun k h => (by cases h), k, h2, comp, h3⟩, ?_⟩
  cases ty with
  | object C => exact absurd rfl (hp C)
  | _ => exact h1
theorem st_obj {s : State} {b : Nat} (hts : ∀ w ∈ lw_tbl, w.before #[Value.ref b] s = true) {C : String} (h : Cond.arrayOver (.object C) ∈ lw_tbl) : ∃ c : ClassId, ArrOfT s c (.object C) ∧ va_RA s c (.object C) := by
  obtain ⟨comp, c, k, f1, -, f3, f4, f5⟩ := Cond.arrayOver_spec (args := #[Value.ref b]) (first := s) (o := none) (s := s) (idx := []) (hts _ h)
  exact ⟨c, fun n z => ⟨fun k h => (by cases h), k, f3, comp, f4⟩, k, comp, f3, f4, f1, f5⟩
theorem st_cls {s : State} {b : Nat} (hts : ∀ w ∈ T0, w.before #[Value.ref b] s = true) : ∃ g : Nat → ClassId × (Nat → Nat), ∀ c, c < 11 → u_Kn s (RN c) (FT c) (nf c) (g c).1 (g c).2 := by
  have h : ∀ c : Nat, ∃ q : ClassId × (Nat → Nat), c < 11 → u_Kn s (RN c) (FT c) (nf c) q.1 q.2 := by
    intro c
    by_cases hc : c < 11
    · obtain ⟨cC, iS, h⟩ := u_known (ws := T0) hts (wc_in c hc) (hts _ (wins_all c hc))
      exact ⟨(cC, iS), fun _ => h⟩
    · exact ⟨(0, fun _ => 0), fun h => absurd h hc⟩
  exact Classical.axiomOfChoice h
theorem cls_inv {c : Nat} {q : vw_C} (h : cls[c]? = some q) : c < 11 ∧ q = (RN c, FT c, nf c) := by
  by_cases hc : c < 11
  · rw [cls_at hc] at h
    exact ⟨hc, (Option.some.inj h).symm⟩
  · rw [List.getElem?_eq_none (by simp [cls]; omega)] at h
    cases h
/-- what holds at the entry gives the world -/
theorem st_X {s : State} {b : Nat} (hts : ∀ w ∈ lw_tbl, w.before #[Value.ref b] s = true) (hg : (Jvm.Cond.and given_1 narrow_1).before #[Value.ref b] s = true) : ∃ X : XT, X.B = s.heap.size ∧ Wd X s := by
  have hs : ∀ w ∈ gvn, w.before #[Value.ref b] s = true := flat_of_before _ hg
  have h0 : ∀ w ∈ T0, w.before #[Value.ref b] s = true := fun w hw => hts w (List.mem_filter.mp hw).1
  have hA : ∀ a : Nat, a < s.heap.size → ¬ (s.heap.size ≤ a) := fun a h1 h2 => by omega
  obtain ⟨aK, aV, hS, hE⟩ := st_words hs (A := fun q => s.heap.size ≤ q) hA
  obtain ⟨t0, e0, hT0⟩ := st_tab hs (A := fun q => s.heap.size ≤ q) hA (i := 0) (by decide)
  obtain ⟨t1, e1, hT1⟩ := st_tab hs (A := fun q => s.heap.size ≤ q) hA (i := 1) (by decide)
  obtain ⟨g, hgc⟩ := st_cls h0
  obtain ⟨c1, p1⟩ := st_prim h0 (ty := .int) (fun C h => by cases h) wa_int
  obtain ⟨c2, p2⟩ := st_prim h0 (ty := .long) (fun C h => by cases h) wa_long
  obtain ⟨c3, p3⟩ := st_prim h0 (ty := .byte) (fun C h => by cases h) wa_byte
  obtain ⟨c4, p4⟩ := st_prim h0 (ty := .boolean) (fun C h => by cases h) wa_boolean
  obtain ⟨c5, p5⟩ := st_obj hts wo_P
  obtain ⟨c6, p6⟩ := st_obj hts wo_S
  refine ⟨((fun c => (g c).1, fun c => (g c).2), (fun k => match k with | 1 => c1 | 2 => c2 | 3 => c3 | 4 => c4 | 5 => c5 | _ => c6), s.heap.size, aK, aV, (fun i => if i = 0 then t0 else t1)), rfl, ?_⟩
  refine ⟨fun w hw => ?_, ⟨fun c q hq => ?_, fun k q hq => ?_⟩, Nat.le_refl _, ?_⟩
  · have h1 := (List.mem_filter.mp hw).2
    refine va_Nw.of ?_ (hts w (List.mem_filter.mp hw).1)
    cases w <;> first | rfl | (simp [isNestW] at h1; done)
  · obtain ⟨hc, rfl⟩ := cls_inv hq
    exact hgc c hc
  · match k, hq with
    | 0, hq => cases hq; exact p1
    | 1, hq => cases hq; exact p2
    | 2, hq => cases hq; exact p3
    | 3, hq => cases hq; exact p4
    | 4, hq => cases hq; exact p5
    | 5, hq => cases hq; exact p6
    | n + 6, hq => cases hq
  · refine ⟨va_Zref (hts _ wl_L) (h0 _ wini4) e0 hA, hT0, va_Zref (hts _ wl_M) (h0 _ wini4) e1 hA, hT1, va_Zof (hts _ wl_C) (h0 _ wi_C) (va_eqi (hs _ g_cs)) hA, va_Zqof (hts _ wl_S) (h0 _ wi_S) (hs _ g_sf) hA, hS, ?_, va_AO.of (hts _ wo_P), va_AO.of (hts _ wo_S)⟩
    have hEM : ∀ i : Nat, i < 13 → (tmM i).eval #[Value.ref b] s none [] s = some (.ref (aK i)) := fun i hi => eq_of_ref (hs _ (g_mm i hi)) (hE i hi)
    have hr : ∀ q ∈ strTab, vk_R (RN q.1) q.2.1 q.2.2.1 (aK q.2.2.2) s := by
      unfold strTab
      exact List.forall_mem_cons.mpr ⟨vk_R.of (hts _ wr4_51) (hE 0 (by decide)), List.forall_mem_cons.mpr ⟨vk_R.of (hts _ wr4_89) (hE 1 (by decide)), List.forall_mem_cons.mpr ⟨vk_R.of (hts _ wr4_91) (hE 2 (by decide)), List.forall_mem_cons.mpr ⟨vk_R.of (hts _ wr4_93) (hE 3 (by decide)), List.forall_mem_cons.mpr ⟨vk_R.of (hts _ wr4_95) (hE 4 (by decide)), List.forall_mem_cons.mpr ⟨vk_R.of (hts _ wr4_97) (hE 5 (by decide)), List.forall_mem_cons.mpr ⟨vk_R.of (hts _ wr4_99) (hE 6 (by decide)), List.forall_mem_cons.mpr ⟨vk_R.of (hts _ wr4_101) (hE 7 (by decide)), List.forall_mem_cons.mpr ⟨vk_R.of (hts _ wr4_103) (hE 9 (by decide)), List.forall_mem_cons.mpr ⟨vk_R.of (hts _ wr4_105) (hE 10 (by decide)), List.forall_mem_cons.mpr ⟨vk_R.of (hts _ wr4_107) (hE 11 (by decide)), List.forall_mem_cons.mpr ⟨vk_R.of (hts _ wr4_109) (hE 12 (by decide)), List.forall_mem_cons.mpr ⟨vk_R.of (hts _ wr4_61) (hE 8 (by decide)), List.forall_mem_cons.mpr ⟨vk_R.of (hts _ wr10_187) (hEM 0 (by decide)), List.forall_mem_cons.mpr ⟨vk_R.of (hts _ wr10_189) (hEM 1 (by decide)), List.forall_mem_cons.mpr ⟨vk_R.of (hts _ wr10_195) (hEM 2 (by decide)), List.forall_mem_cons.mpr ⟨vk_R.of (hts _ wr10_197) (hEM 3 (by decide)), List.forall_mem_cons.mpr ⟨vk_R.of (hts _ wr10_199) (hEM 4 (by decide)), List.forall_mem_cons.mpr ⟨vk_R.of (hts _ wr10_201) (hEM 5 (by decide)), List.forall_mem_cons.mpr ⟨vk_R.of (hts _ wr10_203) (hEM 6 (by decide)), List.forall_mem_cons.mpr ⟨vk_R.of (hts _ wr10_205) (hEM 7 (by decide)), List.forall_mem_cons.mpr ⟨vk_R.of (hts _ wr10_207) (hEM 8 (by decide)), List.forall_mem_cons.mpr ⟨vk_R.of (hts _ wr10_209) (hEM 9 (by decide)), List.forall_mem_cons.mpr ⟨vk_R.of (hts _ wr10_211) (hEM 10 (by decide)), List.forall_mem_cons.mpr ⟨vk_R.of (hts _ wr10_212) (hEM 11 (by decide)), List.forall_mem_cons.mpr ⟨vk_R.of (hts _ wr10_214) (hEM 12 (by decide)), fun _ h => absurd h List.not_mem_nil⟩⟩⟩⟩⟩⟩⟩⟩⟩⟩⟩⟩⟩⟩⟩⟩⟩⟩⟩⟩⟩⟩⟩⟩⟩⟩
    exact hr
/-- the memory behind both constructors -/
def Dm (a : Mem) : Mem := mset (mset (mset (mset (mset a 117 13 (-1)) 143 0 (-1)) 143 1 (-1)) 143 2 (-1)) 143 3 (-1)
/-- ALL THAT IS LEFT TO SHOW: class and reference agree, call by call -/
def LEFT : Prop := ∀ (L : Nat) (xs : Nat → Int), L ≤ 3072 → (∀ j, w32 (xs j) = xs j) → wpo (f9_changed D0c) (fun a => Fr 117 rhoX a ∧ wpo (f11_law xs L (Dm a)) (fun _ => True))
theorem w32_of (z : Int32) : w32 z.toInt = z.toInt := by rw [w32, Int32.ofInt_toInt]
theorem start_of (HL : LEFT) {p : Program} {e : Env} {s : State} {m : MethodId} {below : List Frame} {meth : Method} {c : Code} (l : Launch) {b L : Nat} {xs : Nat → Int32} (hL : L ≤ 3072) (C0 : lw_At p s m meth c b L xs) : W p l e room_1 s m #[Value.ref b] below meth c s.heap [] 0 0 (lw_Z below #[Value.ref b] s) (entryFrame m ([Value.ref b] : List Value).toArray 4) := by
  obtain ⟨a1, a2, a3, a4, a5, a6, a7, a8, a9, a10⟩ := C0
  obtain ⟨X, hB, hW⟩ := st_X a6 a10
  have F : Fx (p, l, e, room_1, s, m, #[Value.ref b], below, meth, c) X 11 code 4 ret room_1 := ⟨a1, a2, a4, a5, fun w hw => a6 w (List.mem_filter.mp hw).1, a3, a9, hW, rfl⟩
  have hl := lv_entry [Value.ref b] (n := 4) (Nat.le_of_ble_eq_true rfl)
  rw [lg_entry_eq]
  have hbl : b < X.B ∧ b < s.heap.size := ⟨by rw [hB]; exact a8, a8⟩
  have body : At (p, l, e, room_1, s, m, #[Value.ref b], below, meth, c) X (lw_Z below #[Value.ref b] s) 0 0 0 (fun _ _ => 0) 4 0 [(0, Value.ref b)] [] (fun _ _ => 0) := by
    refine r_new F wc11_7 wins9 wini9 (by decide) (n := 0) rfl ⟨fun _ _ _ => ⟨rfl, rfl⟩, fun _ _ _ => rfl⟩ ⟨Nat.le_of_ble_eq_true rfl, Nat.le_of_ble_eq_true rfl⟩ d11_law_0 ?_
    refine r_dup F rfl d11_law_3 ?_
    refine r_callC F lm11_9 ma9_init mi9_init rfl (mc := 116) (ms := 7171) (rmy := { frames := 4, cells := 116, slots := 7171, locals := 88 }) (As := []) (rest := [vR X 0]) rfl rfl rfl ⟨Nat.le_of_ble_eq_true rfl, Nat.le_of_ble_eq_true rfl⟩ rfl (Nat.le_of_ble_eq_true rfl) ⟨Nat.le_of_ble_eq_true rfl, Nat.le_of_ble_eq_true rfl⟩ d11_law_4 ?_
    refine okc0 (wpo_mono (HL L (fun j => (xs j).toInt) hL (fun j => w32_of _)) (fun a ha => ?_))
    obtain ⟨hf, ha⟩ := ha
    show At _ X _ _ _ 117 _ 4 7 [(0, Value.ref b)] [vR X 0] a
    refine r_astore_nR F (lv' := [(1, vR X 0), (0, Value.ref b)]) rfl (Nat.le_of_ble_eq_true rfl) rfl d11_law_7 ?_
    refine r_new F wc11_10 wins10 wini10 (by decide) (n := 117) rfl hf ⟨Nat.le_of_ble_eq_true rfl, Nat.le_of_ble_eq_true rfl⟩ d11_law_8 ?_
    refine r_dup F rfl d11_law_11 ?_
    refine r_callC F lm11_12 ma10_init mi10_init rfl (mc := 29) (ms := 11344) (rmy := { frames := 1, cells := 29, slots := 11344, locals := 20 }) (As := []) (rest := [vR X 117]) rfl rfl rfl ⟨Nat.le_of_ble_eq_true rfl, Nat.le_of_ble_eq_true rfl⟩ rfl (Nat.le_of_ble_eq_true rfl) ⟨Nat.le_of_ble_eq_true rfl, Nat.le_of_ble_eq_true rfl⟩ d11_law_12 ?_
    refine okc117 hf (fun hf2 => ?_)
    show At _ X _ _ _ 147 _ 4 15 [(1, vR X 0), (0, Value.ref b)] [vR X 117] (Dm a)
    refine At_rho (rhoM_ok hf2) ?_
    refine r_astore_nR F (lv' := [(2, vR X 117), (1, vR X 0), (0, Value.ref b)]) rfl (Nat.le_of_ble_eq_true rfl) rfl d11_law_15 ?_
    refine r_iconst F (z := 0) d11_law_16 ?_
    refine r_istore_n F (lv' := [(3, vI 0), (2, vR X 117), (1, vR X 0), (0, Value.ref b)]) rfl (Nat.le_of_ble_eq_true rfl) rfl d11_law_17 ?_
    refine r_weak [3, 2, 1, 0] rfl ?_
    exact ok11_law (fun j => rfl) F ⟨rfl, rfl, hB, by decide, by decide⟩ hL a7 hbl ha
  exact body _ _ _ (by rw [hB, Nat.add_zero]) (fun k q hq => by simp [World] at hq) va_S.rf hl
