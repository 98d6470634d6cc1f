/-! BASE: begun with kit/laws/SKELETON's part A in 01; the rest is our own -/
/-! NAMES AND SHAPES, printed by wip/whole/gen/gen_base.py -/
def RN : Nat → String := fun k => match k with
  | 0 => "TeethingParish$Between"
  | 1 => "TeethingParish$Costs"
  | 2 => "TeethingParish$Parish"
  | 3 => "TeethingParish$Planner"
  | 4 => "TeethingParish$Reader"
  | 5 => "TeethingParish$Slot"
  | 6 => "TeethingParish$Suspects"
  | 7 => "TeethingParish$Tape"
  | 8 => "TeethingParish$Year"
  | 9 => "TeethingParish"
  | 10 => "TeethingParishModel"
  | 11 => "TeethingParishLaw"
  | 12 => "java/util/Arrays"
  | 13 => "java/lang/Integer"
  | 14 => "java/lang/String"
  | 15 => "java/lang/StringLatin1"
  | 16 => "jdk/internal/util/Preconditions"
  | _ => ""
/-- the fields of the objects that methods make: name, descriptor, final -/
def FLs : List (List (String × String × Bool)) := [[("parish", "LTeethingParish$Parish;", true), ("known", "Z", false), ("pairs", "I", false), ("bearers", "I", false), ("bearer", "[I", true), ("helpers", "[I", true), ("kinderHelpers", "[I", true), ("most", "[I", true), ("reached", "[I", true)],
  [("parish", "LTeethingParish$Parish;", true), ("known", "Z", false), ("aches", "[I", true), ("nights", "[I", true)],
  [("lines", "I", false), ("nights", "I", false), ("room", "I", false), ("tooth", "I", false), ("teeth", "I", false), ("rule", "I", false), ("pays", "I", false), ("odds", "I", false), ("persons", "I", false), ("acts", "I", false), ("ache", "[I", true), ("from", "[I", true), ("dear", "[I", true), ("bears", "[I", true), ("actor", "[I", true), ("changed", "[I", true), ("was", "[I", true)],
  [("parish", "LTeethingParish$Parish;", true), ("known", "Z", false), ("least", "I", false), ("ways", "J", false), ("first", "J", false), ("value", "[I", true), ("aches", "[I", true), ("perNight", "[I", true), ("spared", "[I", true), ("neverGiven", "[I", true), ("mark", "[J", true), ("worth", "[J", true), ("count", "[J", true)],
  [("tape", "LTeethingParish$Tape;", true), ("draft", "LTeethingParish$Parish;", true), ("fault", "I", false), ("place", "I", false), ("kind", "I", false), ("start", "I", false), ("at", "I", false)],
  [("there", "Z", false), ("width", "I", false), ("length", "I", false), ("numbers", "[J", true)],
  [("parish", "LTeethingParish$Parish;", true), ("year", "LTeethingParish$Year;", true), ("suspected", "I", false), ("bestNight", "I", false), ("leftAtWorst", "I", false), ("cut", "[I", true), ("alike", "[I", true)],
  [("bytes", "[B", true), ("length", "I", false)],
  [("parish", "LTeethingParish$Parish;", true), ("room", "I", false), ("rule", "I", false), ("birth", "I", false), ("all", "I", false), ("told", "[I", true), ("from", "[I", true), ("heldBack", "[I", true), ("order", "[I", true), ("gives", "[I", true), ("bears", "[I", true), ("given", "[I", true), ("waits", "[I", true), ("left", "[I", true), ("groans", "[I", true), ("holds", "[I", true), ("cut", "[I", true)],
  [("tape", "LTeethingParish$Tape;", true), ("reader", "LTeethingParish$Reader;", true), ("parish", "LTeethingParish$Parish;", true), ("images", "[LTeethingParish$Parish;", true), ("imaged", "[Z", true), ("slots", "[LTeethingParish$Slot;", true), ("now", "LTeethingParish$Year;", true), ("perhaps", "LTeethingParish$Year;", true), ("planner", "LTeethingParish$Planner;", true), ("between", "LTeethingParish$Between;", true), ("costs", "LTeethingParish$Costs;", true), ("suspects", "LTeethingParish$Suspects;", true), ("firstBears", "[I", true), ("secondBears", "[I", true)],
  [("thrown", "I", false), ("world", "[I", true), ("images", "[I", true), ("hasImage", "[Z", true), ("tape", "[B", true), ("taped", "I", false), ("five", "[I", true), ("size", "I", false), ("at", "I", false), ("from", "I", false), ("token", "I", false), ("value", "I", false), ("faultKind", "I", false), ("faultPlace", "I", false), ("fresh", "[I", true), ("acheOf", "[I", true), ("fromOf", "[I", true), ("groanOf", "[I", true), ("holdOf", "[I", true), ("roomNow", "I", false), ("ruleNow", "I", false), ("gonePerson", "I", false), ("bornIn", "I", false), ("givesIn", "[I", true), ("leftIn", "[I", true), ("holdsAt", "[I", true), ("cutAt", "[I", true), ("feastIn", "I", false), ("bore", "[I", true), ("acheBy", "[I", true), ("costBy", "[I", true), ("planBears", "[I", true), ("planWays", "[J", true), ("fixed", "[I", true), ("came", "I", false), ("free", "I", false), ("must", "I", false), ("pairsBy", "[I", true), ("bearerOf", "[I", true), ("cutBy", "[I", true), ("askWorst", "I", false), ("binsBy", "[I", true), ("heldBy", "[I", true), ("many", "[I", true), ("width", "[I", true), ("numbers", "[J", true), ("moving", "[J", true)]]
/-- of each field: 0 an int, 1 a long, 2 a reference -/
def FKs : List (List Nat) := [[2, 0, 0, 0, 2, 2, 2, 2, 2],
  [2, 0, 2, 2],
  [0, 0, 0, 0, 0, 0, 0, 0, 0, 0, 2, 2, 2, 2, 2, 2, 2],
  [2, 0, 0, 1, 1, 2, 2, 2, 2, 2, 2, 2, 2],
  [2, 2, 0, 0, 0, 0, 0],
  [0, 0, 0, 2],
  [2, 2, 0, 0, 0, 2, 2],
  [2, 0],
  [2, 0, 0, 0, 0, 2, 2, 2, 2, 2, 2, 2, 2, 2, 2, 2, 2],
  [2, 2, 2, 2, 2, 2, 2, 2, 2, 2, 2, 2, 2, 2],
  [0, 2, 2, 2, 2, 0, 2, 0, 0, 0, 0, 0, 0, 0, 2, 2, 2, 2, 2, 0, 0, 0, 0, 2, 2, 2, 2, 0, 2, 2, 2, 2, 2, 2, 0, 0, 0, 2, 2, 2, 0, 2, 2, 2, 2, 2, 2]]
/-- the cells: kind and class, or kind and length -/
def SHs : List (Nat × Nat) := [(0, 9), (0, 7), (3, 700), (0, 4), (0, 2), (1, 8), (1, 8), (1, 8), (1, 8), (1, 30), (1, 30), (1, 30), (0, 2), (1, 8), (1, 8), (1, 8), (1, 8), (1, 30), (1, 30), (1, 30), (5, 3), (4, 3), (6, 4), (0, 8), (1, 8), (1, 8), (1, 8), (1, 8), (1, 8), (1, 8), (1, 12), (1, 12), (1, 12), (1, 12), (1, 12), (1, 12), (0, 8), (1, 8), (1, 8), (1, 8), (1, 8), (1, 8), (1, 8), (1, 12), (1, 12), (1, 12), (1, 12), (1, 12), (1, 12), (0, 3), (1, 8), (1, 256), (1, 256), (1, 256), (1, 256), (2, 256), (2, 256), (2, 256), (0, 0), (1, 8), (1, 8), (1, 8), (1, 2304), (1, 256), (0, 1), (1, 256), (1, 256), (0, 6), (1, 108), (1, 21), (0, 8), (1, 8), (1, 8), (1, 8), (1, 8), (1, 8), (1, 8), (1, 12), (1, 12), (1, 12), (1, 12), (1, 12), (1, 12), (1, 16), (1, 16), (0, 2), (1, 8), (1, 8), (1, 8), (1, 8), (1, 30), (1, 30), (1, 30), (0, 2), (1, 8), (1, 8), (1, 8), (1, 8), (1, 30), (1, 30), (1, 30), (0, 2), (1, 8), (1, 8), (1, 8), (1, 8), (1, 30), (1, 30), (1, 30), (0, 5), (2, 60), (0, 5), (2, 60), (0, 5), (2, 60), (0, 5), (2, 60), (0, 10), (1, 72), (1, 216), (4, 3), (3, 700), (1, 5), (1, 72), (1, 8), (1, 8), (1, 8), (1, 8), (1, 8), (1, 12), (1, 12), (1, 12), (1, 8), (1, 256), (1, 256), (1, 3328), (2, 3328), (1, 8), (1, 2304), (1, 8), (1, 108), (1, 256), (1, 32), (1, 4), (1, 4), (2, 240), (2, 60)]
/-- the references that they hold, one more (0: none) -/
def RTs : List (List Nat) := [[2, 4, 13, 21, 22, 23, 24, 37, 50, 59, 65, 68, 84, 85],
  [3, 0],
  [],
  [2, 5, 0, 0, 0, 0, 0],
  [0, 0, 0, 0, 0, 0, 0, 0, 0, 0, 6, 7, 8, 9, 10, 11, 12],
  [],
  [],
  [],
  [],
  [],
  [],
  [],
  [0, 0, 0, 0, 0, 0, 0, 0, 0, 0, 14, 15, 16, 17, 18, 19, 20],
  [],
  [],
  [],
  [],
  [],
  [],
  [],
  [86, 94, 102],
  [],
  [110, 112, 114, 116],
  [13, 0, 0, 0, 0, 25, 26, 27, 28, 29, 30, 31, 32, 33, 34, 35, 36],
  [],
  [],
  [],
  [],
  [],
  [],
  [],
  [],
  [],
  [],
  [],
  [],
  [13, 0, 0, 0, 0, 38, 39, 40, 41, 42, 43, 44, 45, 46, 47, 48, 49],
  [],
  [],
  [],
  [],
  [],
  [],
  [],
  [],
  [],
  [],
  [],
  [],
  [13, 0, 0, 0, 0, 51, 52, 53, 54, 55, 56, 57, 58],
  [],
  [],
  [],
  [],
  [],
  [],
  [],
  [],
  [13, 0, 0, 0, 60, 61, 62, 63, 64],
  [],
  [],
  [],
  [],
  [],
  [13, 0, 66, 67],
  [],
  [],
  [13, 71, 0, 0, 0, 69, 70],
  [],
  [],
  [13, 0, 0, 0, 0, 72, 73, 74, 75, 76, 77, 78, 79, 80, 81, 82, 83],
  [],
  [],
  [],
  [],
  [],
  [],
  [],
  [],
  [],
  [],
  [],
  [],
  [],
  [],
  [0, 0, 0, 0, 0, 0, 0, 0, 0, 0, 87, 88, 89, 90, 91, 92, 93],
  [],
  [],
  [],
  [],
  [],
  [],
  [],
  [0, 0, 0, 0, 0, 0, 0, 0, 0, 0, 95, 96, 97, 98, 99, 100, 101],
  [],
  [],
  [],
  [],
  [],
  [],
  [],
  [0, 0, 0, 0, 0, 0, 0, 0, 0, 0, 103, 104, 105, 106, 107, 108, 109],
  [],
  [],
  [],
  [],
  [],
  [],
  [],
  [0, 0, 0, 111],
  [],
  [0, 0, 0, 113],
  [],
  [0, 0, 0, 115],
  [],
  [0, 0, 0, 117],
  [],
  [0, 119, 120, 121, 122, 0, 123, 0, 0, 0, 0, 0, 0, 0, 124, 125, 126, 127, 128, 0, 0, 0, 0, 129, 130, 131, 132, 0, 133, 134, 135, 136, 137, 138, 0, 0, 0, 139, 140, 141, 0, 142, 143, 144, 145, 146, 147],
  [],
  [],
  [],
  [],
  [],
  [],
  [],
  [],
  [],
  [],
  [],
  [],
  [],
  [],
  [],
  [],
  [],
  [],
  [],
  [],
  [],
  [],
  [],
  [],
  [],
  [],
  [],
  [],
  []]
def NX : Nat := 117
def NT : Nat := 147
abbrev Mem : Type := Nat → Nat → Int
abbrev Rho : Type := Nat → Nat → Nat
def mset (D : Mem) (c i : Nat) (v : Int) : Mem := fun c' i' => if c' = c ∧ i' = i then v else D c' i'
def rset (r : Rho) (c i : Nat) (v : Nat) : Rho := fun c' i' => if c' = c ∧ i' = i then v else r c' i'
def sh (k : Nat) : Nat × Nat := SHs.getD k (9, 0)
def fk (c j : Nat) : Nat := (FKs.getD c []).getD j 9
def nf (c : Nat) : Nat := (FLs.getD c []).length
def rt : Rho := fun k j => (RTs.getD k []).getD j 0
def FT (c : Nat) : u_T := fun k => let q := (FLs.getD c []).getD k ("", "", false); (RN c, q.1, q.2.1, q.2.2)
def wc (c : Nat) : List Cond := u_ws (RN c) (FT c) (nf c)
def tyd : String → FieldType := fun d => (parseFieldDescriptor d).getD .int
def FY (c : Nat) : Nat → FieldType := fun k => tyd (FT c k).2.2.1
def cls : List vw_C := (List.range 11).map fun c => (RN c, FT c, nf c)
def T0 : List Cond := lw_tbl.filter goodWord
def isNestW : Cond → Bool
  | .fieldLinkNest .. => true
  | .methodLinkNest .. => true
  | _ => false
def NW : List Cond := lw_tbl.filter isNestW
theorem T0_of {w : Cond} (i : Nat) (h : tables_1[i]? = some w) (hg : goodWord w = true) : w ∈ T0 := List.mem_filter.mpr ⟨List.mem_append_right _ (List.mem_of_getElem? h), hg⟩
theorem T0_sel {w : Cond} (i : Nat) (h : (k2_sels lw_privs)[i]? = some w) (hg : goodWord w = true) : w ∈ T0 := List.mem_filter.mpr ⟨List.mem_append_left _ (List.mem_of_getElem? h), hg⟩
theorem NW_of {w : Cond} (i : Nat) (h : tables_1[i]? = some w) (hg : isNestW w = true) : w ∈ NW := List.mem_filter.mpr ⟨List.mem_append_right _ (List.mem_of_getElem? h), hg⟩
theorem tb_1 {w : Cond} (hm : w ∈ tables_1_1) : w ∈ tables_1 := by
  unfold tables_1
  exact List.mem_append_left _ hm
theorem T0_1 {w : Cond} (i : Nat) (h : tables_1_1[i]? = some w) (hg : goodWord w = true) : w ∈ T0 := List.mem_filter.mpr ⟨List.mem_append_right _ (tb_1 (List.mem_of_getElem? h)), hg⟩
theorem NW_1 {w : Cond} (i : Nat) (h : tables_1_1[i]? = some w) (hg : isNestW w = true) : w ∈ NW := List.mem_filter.mpr ⟨List.mem_append_right _ (tb_1 (List.mem_of_getElem? h)), hg⟩
theorem tb_2 {w : Cond} (hm : w ∈ tables_1_2) : w ∈ tables_1 := by
  unfold tables_1
  exact List.mem_append_right _ (List.mem_append_left _ hm)
theorem T0_2 {w : Cond} (i : Nat) (h : tables_1_2[i]? = some w) (hg : goodWord w = true) : w ∈ T0 := List.mem_filter.mpr ⟨List.mem_append_right _ (tb_2 (List.mem_of_getElem? h)), hg⟩
theorem NW_2 {w : Cond} (i : Nat) (h : tables_1_2[i]? = some w) (hg : isNestW w = true) : w ∈ NW := List.mem_filter.mpr ⟨List.mem_append_right _ (tb_2 (List.mem_of_getElem? h)), hg⟩
theorem tb_3 {w : Cond} (hm : w ∈ tables_1_3) : w ∈ tables_1 := by
  unfold tables_1
  exact List.mem_append_right _ (List.mem_append_right _ (List.mem_append_left _ hm))
theorem T0_3 {w : Cond} (i : Nat) (h : tables_1_3[i]? = some w) (hg : goodWord w = true) : w ∈ T0 := List.mem_filter.mpr ⟨List.mem_append_right _ (tb_3 (List.mem_of_getElem? h)), hg⟩
theorem NW_3 {w : Cond} (i : Nat) (h : tables_1_3[i]? = some w) (hg : isNestW w = true) : w ∈ NW := List.mem_filter.mpr ⟨List.mem_append_right _ (tb_3 (List.mem_of_getElem? h)), hg⟩
theorem tb_4 {w : Cond} (hm : w ∈ tables_1_4) : w ∈ tables_1 := by
  unfold tables_1
  exact List.mem_append_right _ (List.mem_append_right _ (List.mem_append_right _ (List.mem_append_left _ hm)))
theorem T0_4 {w : Cond} (i : Nat) (h : tables_1_4[i]? = some w) (hg : goodWord w = true) : w ∈ T0 := List.mem_filter.mpr ⟨List.mem_append_right _ (tb_4 (List.mem_of_getElem? h)), hg⟩
theorem NW_4 {w : Cond} (i : Nat) (h : tables_1_4[i]? = some w) (hg : isNestW w = true) : w ∈ NW := List.mem_filter.mpr ⟨List.mem_append_right _ (tb_4 (List.mem_of_getElem? h)), hg⟩
theorem tb_5 {w : Cond} (hm : w ∈ tables_1_5) : w ∈ tables_1 := by
  unfold tables_1
  exact List.mem_append_right _ (List.mem_append_right _ (List.mem_append_right _ (List.mem_append_right _ (List.mem_append_left _ hm))))
theorem T0_5 {w : Cond} (i : Nat) (h : tables_1_5[i]? = some w) (hg : goodWord w = true) : w ∈ T0 := List.mem_filter.mpr ⟨List.mem_append_right _ (tb_5 (List.mem_of_getElem? h)), hg⟩
theorem NW_5 {w : Cond} (i : Nat) (h : tables_1_5[i]? = some w) (hg : isNestW w = true) : w ∈ NW := List.mem_filter.mpr ⟨List.mem_append_right _ (tb_5 (List.mem_of_getElem? h)), hg⟩
theorem tb_6 {w : Cond} (hm : w ∈ tables_1_6) : w ∈ tables_1 := by
  unfold tables_1
  exact List.mem_append_right _ (List.mem_append_right _ (List.mem_append_right _ (List.mem_append_right _ (List.mem_append_right _ (List.mem_append_left _ hm)))))
theorem T0_6 {w : Cond} (i : Nat) (h : tables_1_6[i]? = some w) (hg : goodWord w = true) : w ∈ T0 := List.mem_filter.mpr ⟨List.mem_append_right _ (tb_6 (List.mem_of_getElem? h)), hg⟩
theorem NW_6 {w : Cond} (i : Nat) (h : tables_1_6[i]? = some w) (hg : isNestW w = true) : w ∈ NW := List.mem_filter.mpr ⟨List.mem_append_right _ (tb_6 (List.mem_of_getElem? h)), hg⟩
theorem tb_7 {w : Cond} (hm : w ∈ tables_1_7) : w ∈ tables_1 := by
  unfold tables_1
  exact List.mem_append_right _ (List.mem_append_right _ (List.mem_append_right _ (List.mem_append_right _ (List.mem_append_right _ (List.mem_append_right _ (List.mem_append_left _ hm))))))
theorem T0_7 {w : Cond} (i : Nat) (h : tables_1_7[i]? = some w) (hg : goodWord w = true) : w ∈ T0 := List.mem_filter.mpr ⟨List.mem_append_right _ (tb_7 (List.mem_of_getElem? h)), hg⟩
theorem NW_7 {w : Cond} (i : Nat) (h : tables_1_7[i]? = some w) (hg : isNestW w = true) : w ∈ NW := List.mem_filter.mpr ⟨List.mem_append_right _ (tb_7 (List.mem_of_getElem? h)), hg⟩
theorem tb_8 {w : Cond} (hm : w ∈ tables_1_8) : w ∈ tables_1 := by
  unfold tables_1
  exact List.mem_append_right _ (List.mem_append_right _ (List.mem_append_right _ (List.mem_append_right _ (List.mem_append_right _ (List.mem_append_right _ (List.mem_append_right _ (List.mem_append_left _ hm)))))))
theorem T0_8 {w : Cond} (i : Nat) (h : tables_1_8[i]? = some w) (hg : goodWord w = true) : w ∈ T0 := List.mem_filter.mpr ⟨List.mem_append_right _ (tb_8 (List.mem_of_getElem? h)), hg⟩
theorem NW_8 {w : Cond} (i : Nat) (h : tables_1_8[i]? = some w) (hg : isNestW w = true) : w ∈ NW := List.mem_filter.mpr ⟨List.mem_append_right _ (tb_8 (List.mem_of_getElem? h)), hg⟩
theorem tb_9 {w : Cond} (hm : w ∈ tables_1_9) : w ∈ tables_1 := by
  unfold tables_1
  exact List.mem_append_right _ (List.mem_append_right _ (List.mem_append_right _ (List.mem_append_right _ (List.mem_append_right _ (List.mem_append_right _ (List.mem_append_right _ (List.mem_append_right _ (hm))))))))
theorem T0_9 {w : Cond} (i : Nat) (h : tables_1_9[i]? = some w) (hg : goodWord w = true) : w ∈ T0 := List.mem_filter.mpr ⟨List.mem_append_right _ (tb_9 (List.mem_of_getElem? h)), hg⟩
theorem NW_9 {w : Cond} (i : Nat) (h : tables_1_9[i]? = some w) (hg : isNestW w = true) : w ∈ NW := List.mem_filter.mpr ⟨List.mem_append_right _ (tb_9 (List.mem_of_getElem? h)), hg⟩
theorem T0_good {w : Cond} (h : w ∈ T0) : goodWord w = true := (List.mem_filter.mp h).2
theorem goodIn_T0 {w : Cond} (h : w ∈ T0) : GoodIn T0 (w :: T0) := by
  intro v hv
  rcases List.mem_cons.mp hv with rfl | hv
  · exact ⟨h, good_of_word (T0_good h)⟩
  · exact ⟨hv, good_of_word (T0_good hv)⟩
theorem cls_at {c : Nat} (h : c < 11) : cls[c]? = some (RN c, FT c, nf c) := by
  simp [cls, h]
theorem FY_ok : ∀ c, c < 11 → ∀ k, k < nf c → parseFieldDescriptor (FT c k).2.2.1 = some (FY c k) := by decide +kernel
theorem FN_ok : ∀ c, c < 11 → ∀ a, a < nf c → ∀ b, b < nf c → a ≠ b → (FT c a).2.1 ≠ (FT c b).2.1 := by decide +kernel
set_option maxRecDepth 100000 in
theorem wc_in : ∀ c, c < 11 → ∀ w ∈ wc c, w ∈ T0 := by decide +kernel
-- values
def vI (x : Int) : Value := .int (Int32.ofInt x)
def vL (x : Int) : Value := .long (Int64.ofInt x)
def w32 (x : Int) : Int := (Int32.ofInt x).toInt
def w64 (x : Int) : Int := (Int64.ofInt x).toInt
/-- what is the same for a whole run: the classes' numbers, the array classes', the first cell's address, the literals' addresses, their bytes', the tables' -/
abbrev XT : Type := va_G × (Nat → ClassId) × Nat × (Nat → Nat) × (Nat → Nat) × (Nat → Nat)
abbrev XT.G (X : XT) : va_G := X.1
abbrev XT.cA (X : XT) : Nat → ClassId := X.2.1
abbrev XT.B (X : XT) : Nat := X.2.2.1
abbrev XT.aK (X : XT) : Nat → Nat := X.2.2.2.1
abbrev XT.aV (X : XT) : Nat → Nat := X.2.2.2.2.1
abbrev XT.tt (X : XT) : Nat → Nat := X.2.2.2.2.2
def vR (X : XT) (k : Nat) : Value := .ref (X.B + k)
def vS (X : XT) (i : Nat) : Value := .ref (X.aK i)
def tysX (X : XT) : List (ClassId × FieldType) := [(X.cA 1, .int), (X.cA 2, .long), (X.cA 3, .byte), (X.cA 4, .boolean), (X.cA 5, .object "TeethingParish$Parish"), (X.cA 6, .object "TeethingParish$Slot")]
def rfO (B : Nat) : Nat → Option Nat
  | 0 => none
  | z + 1 => some (B + z)
def fval (X : XT) (ρ : Rho) (k : Nat) (d : Nat → Int) (c j : Nat) : Value := match fk c j with
  | 0 => vI (d j)
  | 1 => vL (d j)
  | _ => va_rf (rfO X.B (ρ k j))
def cellE (X : XT) (ρ : Rho) (k : Nat) (d : Nat → Int) : va_E := match sh k with
  | (0, c) => .inr (c, (List.range (nf c)).map (fval X ρ k d c))
  | (1, n) => .inl (X.cA 1, n, .inl fun i => Int32.ofInt (d i))
  | (2, n) => .inl (X.cA 2, n, .inr (.inl fun i => Int64.ofInt (d i)))
  | (3, n) => .inl (X.cA 3, n, .inl fun i => Int32.ofInt (d i))
  | (4, n) => .inl (X.cA 4, n, .inl fun i => Int32.ofInt (d i))
  | (5, n) => .inl (X.cA 5, n, .inr (.inr (.inr (.inr fun i => rfO X.B (ρ k i)))))
  | (_, n) => .inl (X.cA 6, n, .inr (.inr (.inr (.inr fun i => rfO X.B (ρ k i)))))
def World (X : XT) (n : Nat) (ρ : Rho) (D : Mem) : va_W := (List.range n).map fun k => (X.B + k, cellE X ρ k (D k))
theorem World_at {X : XT} {n k : Nat} {ρ : Rho} {D : Mem} (h : k < n) : (World X n ρ D)[k]? = some (X.B + k, cellE X ρ k (D k)) := by
  simp [World, h]
theorem World_len {X : XT} {n : Nat} {ρ : Rho} {D : Mem} : (World X n ρ D).length = n := by simp [World]
theorem World_set {X : XT} {n k : Nat} {ρ ρ' : Rho} {D D' : Mem} {e : va_E} (h : k < n) (he : e = cellE X ρ' k (D' k)) (ho : ∀ j, j ≠ k → cellE X ρ j (D j) = cellE X ρ' j (D' j)) : (World X n ρ D).set k (X.B + k, e) = World X n ρ' D' := by
  apply List.ext_getElem?
  intro j
  by_cases hj : j < n
  · by_cases hk : j = k
    · subst hk
      rw [List.getElem?_set_self (by rw [World_len]; exact h), World_at hj, he]
    · rw [List.getElem?_set_ne (Ne.symm hk), World_at hj, World_at hj, ho j hk]
  · rw [List.getElem?_eq_none (by rw [List.length_set, World_len]; omega), List.getElem?_eq_none (by rw [World_len]; omega)]
theorem World_D {X : XT} {n : Nat} {ρ : Rho} {D : Mem} : va_D (fun q => X.B ≤ q) (World X n ρ D) := by
  have key : ∀ (k : Nat) (q : Nat × va_E), (World X n ρ D)[k]? = some q → q.1 = X.B + k := by
    intro k q hq
    have hk : k < n := by
      have := (List.getElem?_eq_some_iff.mp hq).1
      rwa [World_len] at this
    rw [World_at hk] at hq
    cases hq
    rfl
  refine ⟨fun i j p q hi hj e => ?_, fun k q hk => ?_⟩
  · rw [key i p hi, key j q hj] at e
    omega
  · rw [key k q hk]
    omega
